theorem dc_RM_follows_0 : decode prog_14_method_29_code 0 = .ok (.iconst 0, 1) := by decide +kernel
theorem dc_RM_follows_1 : decode prog_14_method_29_code 1 = .ok (.istore_n 3, 1) := by decide +kernel
theorem dc_RM_follows_2 : decode prog_14_method_29_code 2 = .ok (.iconst 0, 1) := by decide +kernel
theorem dc_RM_follows_3 : decode prog_14_method_29_code 3 = .ok (.istore 4, 2) := by decide +kernel
theorem dc_RM_follows_5 : decode prog_14_method_29_code 5 = .ok (.iload 4, 2) := by decide +kernel
theorem dc_RM_follows_7 : decode prog_14_method_29_code 7 = .ok (.iload_n 1, 1) := by decide +kernel
theorem dc_RM_follows_8 : decode prog_14_method_29_code 8 = .ok (.if_icmp .ge 109, 3) := by decide +kernel
theorem dc_RM_follows_11 : decode prog_14_method_29_code 11 = .ok (.aload_n 0, 1) := by decide +kernel
theorem dc_RM_follows_12 : decode prog_14_method_29_code 12 = .ok (.getfield 60, 3) := by decide +kernel
theorem dc_RM_follows_15 : decode prog_14_method_29_code 15 = .ok (.iload 4, 2) := by decide +kernel
theorem dc_RM_follows_17 : decode prog_14_method_29_code 17 = .ok (.iload_n 3, 1) := by decide +kernel
theorem dc_RM_follows_18 : decode prog_14_method_29_code 18 = .ok (.iastore, 1) := by decide +kernel
theorem dc_RM_follows_19 : decode prog_14_method_29_code 19 = .ok (.bipush 41, 2) := by decide +kernel
theorem dc_RM_follows_21 : decode prog_14_method_29_code 21 = .ok (.iload_n 1, 1) := by decide +kernel
theorem dc_RM_follows_22 : decode prog_14_method_29_code 22 = .ok (.iload 4, 2) := by decide +kernel
theorem dc_RM_follows_24 : decode prog_14_method_29_code 24 = .ok (.isub, 1) := by decide +kernel
theorem dc_RM_follows_25 : decode prog_14_method_29_code 25 = .ok (.imul, 1) := by decide +kernel
theorem dc_RM_follows_26 : decode prog_14_method_29_code 26 = .ok (.iload_n 3, 1) := by decide +kernel
theorem dc_RM_follows_27 : decode prog_14_method_29_code 27 = .ok (.iadd, 1) := by decide +kernel
theorem dc_RM_follows_28 : decode prog_14_method_29_code 28 = .ok (.istore 5, 2) := by decide +kernel
theorem dc_RM_follows_30 : decode prog_14_method_29_code 30 = .ok (.iload_n 3, 1) := by decide +kernel
theorem dc_RM_follows_31 : decode prog_14_method_29_code 31 = .ok (.iload_n 2, 1) := by decide +kernel
theorem dc_RM_follows_32 : decode prog_14_method_29_code 32 = .ok (.iadd, 1) := by decide +kernel
theorem dc_RM_follows_33 : decode prog_14_method_29_code 33 = .ok (.iconst 1, 1) := by decide +kernel
theorem dc_RM_follows_34 : decode prog_14_method_29_code 34 = .ok (.isub, 1) := by decide +kernel
theorem dc_RM_follows_35 : decode prog_14_method_29_code 35 = .ok (.istore 6, 2) := by decide +kernel
theorem dc_RM_follows_37 : decode prog_14_method_29_code 37 = .ok (.iconst 0, 1) := by decide +kernel
theorem dc_RM_follows_38 : decode prog_14_method_29_code 38 = .ok (.istore 7, 2) := by decide +kernel
theorem dc_RM_follows_40 : decode prog_14_method_29_code 40 = .ok (.iload 7, 2) := by decide +kernel
theorem dc_RM_follows_42 : decode prog_14_method_29_code 42 = .ok (.ifCond .ne 66, 3) := by decide +kernel
theorem dc_RM_follows_45 : decode prog_14_method_29_code 45 = .ok (.bipush 41, 2) := by decide +kernel
theorem dc_RM_follows_47 : decode prog_14_method_29_code 47 = .ok (.iload_n 1, 1) := by decide +kernel
theorem dc_RM_follows_48 : decode prog_14_method_29_code 48 = .ok (.iload 4, 2) := by decide +kernel
theorem dc_RM_follows_50 : decode prog_14_method_29_code 50 = .ok (.isub, 1) := by decide +kernel
theorem dc_RM_follows_51 : decode prog_14_method_29_code 51 = .ok (.iconst 1, 1) := by decide +kernel
theorem dc_RM_follows_52 : decode prog_14_method_29_code 52 = .ok (.isub, 1) := by decide +kernel
theorem dc_RM_follows_53 : decode prog_14_method_29_code 53 = .ok (.imul, 1) := by decide +kernel
theorem dc_RM_follows_54 : decode prog_14_method_29_code 54 = .ok (.iload 6, 2) := by decide +kernel
theorem dc_RM_follows_56 : decode prog_14_method_29_code 56 = .ok (.iadd, 1) := by decide +kernel
theorem dc_RM_follows_57 : decode prog_14_method_29_code 57 = .ok (.iconst 1, 1) := by decide +kernel
theorem dc_RM_follows_58 : decode prog_14_method_29_code 58 = .ok (.iadd, 1) := by decide +kernel
theorem dc_RM_follows_59 : decode prog_14_method_29_code 59 = .ok (.istore 8, 2) := by decide +kernel
theorem dc_RM_follows_61 : decode prog_14_method_29_code 61 = .ok (.aload_n 0, 1) := by decide +kernel
theorem dc_RM_follows_62 : decode prog_14_method_29_code 62 = .ok (.getfield 57, 3) := by decide +kernel
theorem dc_RM_follows_65 : decode prog_14_method_29_code 65 = .ok (.iload 8, 2) := by decide +kernel
theorem dc_RM_follows_67 : decode prog_14_method_29_code 67 = .ok (.laload, 1) := by decide +kernel
theorem dc_RM_follows_68 : decode prog_14_method_29_code 68 = .ok (.lconst 0, 1) := by decide +kernel
theorem dc_RM_follows_69 : decode prog_14_method_29_code 69 = .ok (.lcmp, 1) := by decide +kernel
theorem dc_RM_follows_70 : decode prog_14_method_29_code 70 = .ok (.ifCond .le 32, 3) := by decide +kernel
theorem dc_RM_follows_73 : decode prog_14_method_29_code 73 = .ok (.aload_n 0, 1) := by decide +kernel
theorem dc_RM_follows_74 : decode prog_14_method_29_code 74 = .ok (.bipush 40, 2) := by decide +kernel
theorem dc_RM_follows_76 : decode prog_14_method_29_code 76 = .ok (.iload_n 3, 1) := by decide +kernel
theorem dc_RM_follows_77 : decode prog_14_method_29_code 77 = .ok (.imul, 1) := by decide +kernel
theorem dc_RM_follows_78 : decode prog_14_method_29_code 78 = .ok (.iload 6, 2) := by decide +kernel
theorem dc_RM_follows_80 : decode prog_14_method_29_code 80 = .ok (.iadd, 1) := by decide +kernel
theorem dc_RM_follows_81 : decode prog_14_method_29_code 81 = .ok (.iload 8, 2) := by decide +kernel
theorem dc_RM_follows_83 : decode prog_14_method_29_code 83 = .ok (.invokevirtual 205, 3) := by decide +kernel
theorem dc_RM_follows_86 : decode prog_14_method_29_code 86 = .ok (.aload_n 0, 1) := by decide +kernel
theorem dc_RM_follows_87 : decode prog_14_method_29_code 87 = .ok (.iload 5, 2) := by decide +kernel
theorem dc_RM_follows_89 : decode prog_14_method_29_code 89 = .ok (.invokevirtual 208, 3) := by decide +kernel
theorem dc_RM_follows_92 : decode prog_14_method_29_code 92 = .ok (.ifCond .ne 7, 3) := by decide +kernel
theorem dc_RM_follows_95 : decode prog_14_method_29_code 95 = .ok (.iconst 1, 1) := by decide +kernel
theorem dc_RM_follows_96 : decode prog_14_method_29_code 96 = .ok (.goto 4, 3) := by decide +kernel
theorem dc_RM_follows_99 : decode prog_14_method_29_code 99 = .ok (.iconst 0, 1) := by decide +kernel
theorem dc_RM_follows_100 : decode prog_14_method_29_code 100 = .ok (.istore 7, 2) := by decide +kernel
theorem dc_RM_follows_102 : decode prog_14_method_29_code 102 = .ok (.iinc 6 1, 3) := by decide +kernel
theorem dc_RM_follows_105 : decode prog_14_method_29_code 105 = .ok (.goto (-65), 3) := by decide +kernel
theorem dc_RM_follows_108 : decode prog_14_method_29_code 108 = .ok (.iload 6, 2) := by decide +kernel
theorem dc_RM_follows_110 : decode prog_14_method_29_code 110 = .ok (.istore_n 3, 1) := by decide +kernel
theorem dc_RM_follows_111 : decode prog_14_method_29_code 111 = .ok (.iinc 4 1, 3) := by decide +kernel
theorem dc_RM_follows_114 : decode prog_14_method_29_code 114 = .ok (.goto (-109), 3) := by decide +kernel
theorem dc_RM_follows_117 : decode prog_14_method_29_code 117 = .ok (.aload_n 0, 1) := by decide +kernel
theorem dc_RM_follows_118 : decode prog_14_method_29_code 118 = .ok (.getfield 60, 3) := by decide +kernel
theorem dc_RM_follows_121 : decode prog_14_method_29_code 121 = .ok (.iload_n 1, 1) := by decide +kernel
theorem dc_RM_follows_122 : decode prog_14_method_29_code 122 = .ok (.iload_n 3, 1) := by decide +kernel
theorem dc_RM_follows_123 : decode prog_14_method_29_code 123 = .ok (.iastore, 1) := by decide +kernel
theorem dc_RM_follows_124 : decode prog_14_method_29_code 124 = .ok (.return_, 1) := by decide +kernel
theorem w_RM_follows_0 {G : GC} {d : Nat} {P : PT} {I : MI} {J : MJ} {x1 : Int32} {x2 : Int32} (k1 : Go G (fr G m_RM_follows (d + 2) P) 5 [some (.ref 67), some (.int x1), some (.int x2), some (.int 0), some (.int 0), none, none, none, none] [] I J) : Go G (fr G m_RM_follows (d + 2) P) 0 [some (.ref 67), some (.int x1), some (.int x2), none, none, none, none, none, none] [] I J := by
  refine g_iconst (v := 0) dc_RM_follows_0 rfl (by decide) ?_
  refine g_istore_n (L' := [some (.ref 67), some (.int x1), some (.int x2), some (.int 0), none, none, none, none, none]) dc_RM_follows_1 rfl rfl (Nat.le_of_ble_eq_true rfl) rfl ?_
  refine g_iconst (v := 0) dc_RM_follows_2 rfl (by decide) ?_
  refine g_istore (L' := [some (.ref 67), some (.int x1), some (.int x2), some (.int 0), some (.int 0), none, none, none, none]) dc_RM_follows_3 rfl (Nat.le_of_ble_eq_true rfl) rfl ?_
  exact k1
theorem w_RM_follows_5 {G : GC} {d : Nat} {P : PT} {I : MI} {J : MJ} {x1 : Int32} {x2 : Int32} {x3 : Int32} {x4 : Int32} (b1 : (x1 ≤ x4) → vp_in x1 7) (q2 : (x1 ≤ x4) → P none (u2 I 83 x1.toNatClampNeg x3) J) (b3 : (¬ (x1 ≤ x4)) → vp_in x4 7) (k4 : (¬ (x1 ≤ x4)) → Go G (fr G m_RM_follows (d + 2) P) 40 [some (.ref 67), some (.int x1), some (.int x2), some (.int x3), some (.int x4), some (.int ((41 * (x1 - x4)) + x3)), some (.int ((x3 + x2) - 1)), some (.int 0), none] [] (u2 I 83 x4.toNatClampNeg x3) J) : Go G (fr G m_RM_follows (d + 2) P) 5 [some (.ref 67), some (.int x1), some (.int x2), some (.int x3), some (.int x4), none, none, none, none] [] I J := by
  refine g_iload dc_RM_follows_5 rfl rfl ?_
  refine g_iload_n dc_RM_follows_7 rfl rfl rfl ?_
  refine g_ic_ge (tgt := 117) dc_RM_follows_8 rfl (by decide) (fun c1 => ?_) (fun c1 => ?_)
  · refine g_aload_n dc_RM_follows_117 rfl rfl rfl ?_
    refine g_get (C := "LevelBreaksModel") (T := T_RM) (N := 45) (k := 21) (v := .ref 83) sh_67 (by decide) rfl rfl i_RM (by decide) fl_RM_60 (Or.inl rfl) rfl dc_RM_follows_118 rfl ?_
    refine g_iload_n dc_RM_follows_121 rfl rfl rfl ?_
    refine g_iload_n dc_RM_follows_122 rfl rfl rfl ?_
    refine g_iast sh_83 (b1 c1) dc_RM_follows_123 rfl ?_
    exact g_vret rfl dc_RM_follows_124 (q2 c1)
  · refine g_aload_n dc_RM_follows_11 rfl rfl rfl ?_
    refine g_get (C := "LevelBreaksModel") (T := T_RM) (N := 45) (k := 21) (v := .ref 83) sh_67 (by decide) rfl rfl i_RM (by decide) fl_RM_60 (Or.inl rfl) rfl dc_RM_follows_12 rfl ?_
    refine g_iload dc_RM_follows_15 rfl rfl ?_
    refine g_iload_n dc_RM_follows_17 rfl rfl rfl ?_
    refine g_iast sh_83 (b3 c1) dc_RM_follows_18 rfl ?_
    refine g_bipush (v := 41) dc_RM_follows_19 rfl (by decide) ?_
    refine g_iload_n dc_RM_follows_21 rfl rfl rfl ?_
    refine g_iload dc_RM_follows_22 rfl rfl ?_
    refine g_isub dc_RM_follows_24 rfl ?_
    refine g_imul dc_RM_follows_25 rfl ?_
    refine g_iload_n dc_RM_follows_26 rfl rfl rfl ?_
    refine g_iadd dc_RM_follows_27 rfl ?_
    refine g_istore (L' := [some (.ref 67), some (.int x1), some (.int x2), some (.int x3), some (.int x4), some (.int ((41 * (x1 - x4)) + x3)), none, none, none]) dc_RM_follows_28 rfl (Nat.le_of_ble_eq_true rfl) rfl ?_
    refine g_iload_n dc_RM_follows_30 rfl rfl rfl ?_
    refine g_iload_n dc_RM_follows_31 rfl rfl rfl ?_
    refine g_iadd dc_RM_follows_32 rfl ?_
    refine g_iconst (v := 1) dc_RM_follows_33 rfl (by decide) ?_
    refine g_isub dc_RM_follows_34 rfl ?_
    refine g_istore (L' := [some (.ref 67), some (.int x1), some (.int x2), some (.int x3), some (.int x4), some (.int ((41 * (x1 - x4)) + x3)), some (.int ((x3 + x2) - 1)), none, none]) dc_RM_follows_35 rfl (Nat.le_of_ble_eq_true rfl) rfl ?_
    refine g_iconst (v := 0) dc_RM_follows_37 rfl (by decide) ?_
    refine g_istore (L' := [some (.ref 67), some (.int x1), some (.int x2), some (.int x3), some (.int x4), some (.int ((41 * (x1 - x4)) + x3)), some (.int ((x3 + x2) - 1)), some (.int 0), none]) dc_RM_follows_38 rfl (Nat.le_of_ble_eq_true rfl) rfl ?_
    exact (k4 c1)
theorem w_RM_follows_40 {G : GC} {d : Nat} {P : PT} {I : MI} {J : MJ} {x1 : Int32} {x2 : Int32} {x3 : Int32} {x4 : Int32} {x5 : Int32} {x6 : Int32} {x7 : Int32} (k1 : (¬ x7 = 0) → Go G (fr G m_RM_follows (d + 2) P) 5 [some (.ref 67), some (.int x1), some (.int x2), some (.int x6), some (.int (x4 + 1)), none, none, none, none] [] I J) (b2 : (x7 = 0) → vp_in (((41 * ((x1 - x4) - 1)) + x6) + 1) 287) (k3 : (x7 = 0) → ((J 82 (((41 * ((x1 - x4) - 1)) + x6) + 1).toNatClampNeg) ≤ 0) → Go G (fr G m_RM_follows (d + 2) P) 102 [some (.ref 67), some (.int x1), some (.int x2), some (.int x3), some (.int x4), some (.int x5), some (.int x6), some (.int x7), none] [] I J) (k4 : (x7 = 0) → (¬ ((J 82 (((41 * ((x1 - x4) - 1)) + x6) + 1).toNatClampNeg) ≤ 0)) → Ct G (d + 1) m_RM_adds [.ref 67, .int ((40 * x3) + x6), .int (((41 * ((x1 - x4) - 1)) + x6) + 1)] (fun r I' J' => Go G (fr G m_RM_follows (d + 2) P) 86 [some (.ref 67), some (.int x1), some (.int x2), some (.int x3), some (.int x4), some (.int x5), some (.int x6), none, none] (r.toList ++ []) I' J') I J) : Go G (fr G m_RM_follows (d + 2) P) 40 [some (.ref 67), some (.int x1), some (.int x2), some (.int x3), some (.int x4), some (.int x5), some (.int x6), some (.int x7), none] [] I J := by
  refine g_iload dc_RM_follows_40 rfl rfl ?_
  refine g_if_ne (tgt := 108) dc_RM_follows_42 rfl (by decide) (fun c1 => ?_) (fun c1 => ?_)
  · refine g_iload dc_RM_follows_108 rfl rfl ?_
    refine g_istore_n (L' := [some (.ref 67), some (.int x1), some (.int x2), some (.int x6), some (.int x4), some (.int x5), some (.int x6), some (.int x7), none]) dc_RM_follows_110 rfl rfl (Nat.le_of_ble_eq_true rfl) rfl ?_
    refine g_iinc (v := (x4 + 1)) (L' := [some (.ref 67), some (.int x1), some (.int x2), some (.int x6), some (.int (x4 + 1)), some (.int x5), some (.int x6), some (.int x7), none]) dc_RM_follows_111 rfl rfl (by rw [show Int32.ofInt 1 = 1 from by decide]) (Nat.le_of_ble_eq_true rfl) rfl ?_
    refine g_goto (tgt := 5) dc_RM_follows_114 (by decide) ?_
    refine g_weak [some (.ref 67), some (.int x1), some (.int x2), some (.int x6), some (.int (x4 + 1)), none, none, none, none] ⟨rfl, ⟨rfl, ⟨rfl, ⟨rfl, ⟨rfl, trivial⟩⟩⟩⟩⟩ ?_
    exact (k1 c1)
  · refine g_bipush (v := 41) dc_RM_follows_45 rfl (by decide) ?_
    refine g_iload_n dc_RM_follows_47 rfl rfl rfl ?_
    refine g_iload dc_RM_follows_48 rfl rfl ?_
    refine g_isub dc_RM_follows_50 rfl ?_
    refine g_iconst (v := 1) dc_RM_follows_51 rfl (by decide) ?_
    refine g_isub dc_RM_follows_52 rfl ?_
    refine g_imul dc_RM_follows_53 rfl ?_
    refine g_iload dc_RM_follows_54 rfl rfl ?_
    refine g_iadd dc_RM_follows_56 rfl ?_
    refine g_iconst (v := 1) dc_RM_follows_57 rfl (by decide) ?_
    refine g_iadd dc_RM_follows_58 rfl ?_
    refine g_istore (L' := [some (.ref 67), some (.int x1), some (.int x2), some (.int x3), some (.int x4), some (.int x5), some (.int x6), some (.int x7), some (.int (((41 * ((x1 - x4) - 1)) + x6) + 1))]) dc_RM_follows_59 rfl (Nat.le_of_ble_eq_true rfl) rfl ?_
    refine g_aload_n dc_RM_follows_61 rfl rfl rfl ?_
    refine g_get (C := "LevelBreaksModel") (T := T_RM) (N := 45) (k := 17) (v := .ref 82) sh_67 (by decide) rfl rfl i_RM (by decide) fl_RM_57 (Or.inl rfl) rfl dc_RM_follows_62 rfl ?_
    refine g_iload dc_RM_follows_65 rfl rfl ?_
    refine g_laldv (v := (J 82 (((41 * ((x1 - x4) - 1)) + x6) + 1).toNatClampNeg)) sh_82 (b2 c1) rfl dc_RM_follows_67 rfl ?_
    refine g_lconst (v := 0) dc_RM_follows_68 rfl (by decide) ?_
    refine g_lc_le (tgt := 102) dc_RM_follows_69 rfl dc_RM_follows_70 rfl (by decide) (fun c2 => ?_) (fun c2 => ?_)
    · refine g_weak [some (.ref 67), some (.int x1), some (.int x2), some (.int x3), some (.int x4), some (.int x5), some (.int x6), some (.int x7), none] ⟨rfl, ⟨rfl, ⟨rfl, ⟨rfl, ⟨rfl, ⟨rfl, ⟨rfl, ⟨rfl, trivial⟩⟩⟩⟩⟩⟩⟩⟩ ?_
      exact (k3 c1 c2)
    · refine g_aload_n dc_RM_follows_73 rfl rfl rfl ?_
      refine g_bipush (v := 40) dc_RM_follows_74 rfl (by decide) ?_
      refine g_iload_n dc_RM_follows_76 rfl rfl rfl ?_
      refine g_imul dc_RM_follows_77 rfl ?_
      refine g_iload dc_RM_follows_78 rfl rfl ?_
      refine g_iadd dc_RM_follows_80 rfl ?_
      refine g_iload dc_RM_follows_81 rfl rfl ?_
      refine g_weak [some (.ref 67), some (.int x1), some (.int x2), some (.int x3), some (.int x4), some (.int x5), some (.int x6), none, none] ⟨rfl, ⟨rfl, ⟨rfl, ⟨rfl, ⟨rfl, ⟨rfl, ⟨rfl, trivial⟩⟩⟩⟩⟩⟩⟩ ?_
      exact g_callV (T := T_RM) (N := 45) (As := [.int ((40 * x3) + x6), .int (((41 * ((x1 - x4) - 1)) + x6) + 1)]) (rest := []) ok_RM_adds in_RM_adds se_RM_adds ml_RM_205 sh_67 (by decide) rfl rfl rfl (Nat.le_of_ble_eq_true rfl) dc_RM_follows_83 rfl rOk_fr (k4 c1 c2)
theorem w_RM_follows_86 {G : GC} {d : Nat} {P : PT} {I : MI} {J : MJ} {x1 : Int32} {x2 : Int32} {x3 : Int32} {x4 : Int32} {x5 : Int32} {x6 : Int32} (k1 : Ct G (d + 1) m_RM_against [.ref 67, .int x5] (fun r I' J' => Go G (fr G m_RM_follows (d + 2) P) 92 [some (.ref 67), some (.int x1), some (.int x2), some (.int x3), some (.int x4), some (.int x5), some (.int x6), none, none] (r.toList ++ []) I' J') I J) : Go G (fr G m_RM_follows (d + 2) P) 86 [some (.ref 67), some (.int x1), some (.int x2), some (.int x3), some (.int x4), some (.int x5), some (.int x6), none, none] [] I J := by
  refine g_aload_n dc_RM_follows_86 rfl rfl rfl ?_
  refine g_iload dc_RM_follows_87 rfl rfl ?_
  exact g_callV (T := T_RM) (N := 45) (As := [.int x5]) (rest := []) ok_RM_against in_RM_against se_RM_against ml_RM_208 sh_67 (by decide) rfl rfl rfl (Nat.le_of_ble_eq_true rfl) dc_RM_follows_89 rfl rOk_fr k1
theorem w_RM_follows_92 {G : GC} {d : Nat} {P : PT} {I : MI} {J : MJ} {x1 : Int32} {x2 : Int32} {x3 : Int32} {x4 : Int32} {x5 : Int32} {x6 : Int32} {y0 : Int32} (k1 : (¬ y0 = 0) → Go G (fr G m_RM_follows (d + 2) P) 100 [some (.ref 67), some (.int x1), some (.int x2), some (.int x3), some (.int x4), some (.int x5), some (.int x6), none, none] [.int 0] I J) (k2 : (y0 = 0) → Go G (fr G m_RM_follows (d + 2) P) 100 [some (.ref 67), some (.int x1), some (.int x2), some (.int x3), some (.int x4), some (.int x5), some (.int x6), none, none] [.int 1] I J) : Go G (fr G m_RM_follows (d + 2) P) 92 [some (.ref 67), some (.int x1), some (.int x2), some (.int x3), some (.int x4), some (.int x5), some (.int x6), none, none] [.int y0] I J := by
  refine g_if_ne (tgt := 99) dc_RM_follows_92 rfl (by decide) (fun c1 => ?_) (fun c1 => ?_)
  · refine g_iconst (v := 0) dc_RM_follows_99 rfl (by decide) ?_
    exact (k1 c1)
  · refine g_iconst (v := 1) dc_RM_follows_95 rfl (by decide) ?_
    refine g_goto (tgt := 100) dc_RM_follows_96 (by decide) ?_
    exact (k2 c1)
theorem w_RM_follows_100 {G : GC} {d : Nat} {P : PT} {I : MI} {J : MJ} {x1 : Int32} {x2 : Int32} {x3 : Int32} {x4 : Int32} {x5 : Int32} {x6 : Int32} {y0 : Int32} (k1 : Go G (fr G m_RM_follows (d + 2) P) 102 [some (.ref 67), some (.int x1), some (.int x2), some (.int x3), some (.int x4), some (.int x5), some (.int x6), some (.int y0), none] [] I J) : Go G (fr G m_RM_follows (d + 2) P) 100 [some (.ref 67), some (.int x1), some (.int x2), some (.int x3), some (.int x4), some (.int x5), some (.int x6), none, none] [.int y0] I J := by
  refine g_istore (L' := [some (.ref 67), some (.int x1), some (.int x2), some (.int x3), some (.int x4), some (.int x5), some (.int x6), some (.int y0), none]) dc_RM_follows_100 rfl (Nat.le_of_ble_eq_true rfl) rfl ?_
  exact k1
theorem w_RM_follows_102 {G : GC} {d : Nat} {P : PT} {I : MI} {J : MJ} {x1 : Int32} {x2 : Int32} {x3 : Int32} {x4 : Int32} {x5 : Int32} {x6 : Int32} {x7 : Int32} (k1 : Go G (fr G m_RM_follows (d + 2) P) 40 [some (.ref 67), some (.int x1), some (.int x2), some (.int x3), some (.int x4), some (.int x5), some (.int (x6 + 1)), some (.int x7), none] [] I J) : Go G (fr G m_RM_follows (d + 2) P) 102 [some (.ref 67), some (.int x1), some (.int x2), some (.int x3), some (.int x4), some (.int x5), some (.int x6), some (.int x7), none] [] I J := by
  refine g_iinc (v := (x6 + 1)) (L' := [some (.ref 67), some (.int x1), some (.int x2), some (.int x3), some (.int x4), some (.int x5), some (.int (x6 + 1)), some (.int x7), none]) dc_RM_follows_102 rfl rfl (by rw [show Int32.ofInt 1 = 1 from by decide]) (Nat.le_of_ble_eq_true rfl) rfl ?_
  refine g_goto (tgt := 40) dc_RM_follows_105 (by decide) ?_
  exact k1
theorem dc_RM_get_0 : decode prog_14_method_78_code 0 = .ok (.iload_n 1, 1) := by decide +kernel
theorem dc_RM_get_1 : decode prog_14_method_78_code 1 = .ok (.invokestatic 134, 3) := by decide +kernel
theorem dc_RM_get_4 : decode prog_14_method_78_code 4 = .ok (.ifCond .eq 12, 3) := by decide +kernel
theorem dc_RM_get_7 : decode prog_14_method_78_code 7 = .ok (.iload_n 2, 1) := by decide +kernel
theorem dc_RM_get_8 : decode prog_14_method_78_code 8 = .ok (.iconst 0, 1) := by decide +kernel
theorem dc_RM_get_9 : decode prog_14_method_78_code 9 = .ok (.iconst 2, 1) := by decide +kernel
theorem dc_RM_get_10 : decode prog_14_method_78_code 10 = .ok (.invokestatic 112, 3) := by decide +kernel
theorem dc_RM_get_13 : decode prog_14_method_78_code 13 = .ok (.ifCond .ne 7, 3) := by decide +kernel
theorem dc_RM_get_16 : decode prog_14_method_78_code 16 = .ok (.ldc_w 334, 3) := by decide +kernel
theorem dc_RM_get_19 : decode prog_14_method_78_code 19 = .ok (.ireturn, 1) := by decide +kernel
theorem dc_RM_get_20 : decode prog_14_method_78_code 20 = .ok (.aload_n 0, 1) := by decide +kernel
theorem dc_RM_get_21 : decode prog_14_method_78_code 21 = .ok (.iload_n 1, 1) := by decide +kernel
theorem dc_RM_get_22 : decode prog_14_method_78_code 22 = .ok (.iload_n 2, 1) := by decide +kernel
theorem dc_RM_get_23 : decode prog_14_method_78_code 23 = .ok (.iload_n 3, 1) := by decide +kernel
theorem dc_RM_get_24 : decode prog_14_method_78_code 24 = .ok (.invokevirtual 327, 3) := by decide +kernel
theorem dc_RM_get_27 : decode prog_14_method_78_code 27 = .ok (.istore 4, 2) := by decide +kernel
theorem dc_RM_get_29 : decode prog_14_method_78_code 29 = .ok (.iload 4, 2) := by decide +kernel
theorem dc_RM_get_31 : decode prog_14_method_78_code 31 = .ok (.ifCond .le 13, 3) := by decide +kernel
theorem dc_RM_get_34 : decode prog_14_method_78_code 34 = .ok (.aload_n 0, 1) := by decide +kernel
theorem dc_RM_get_35 : decode prog_14_method_78_code 35 = .ok (.iload 4, 2) := by decide +kernel
theorem dc_RM_get_37 : decode prog_14_method_78_code 37 = .ok (.putfield 324, 3) := by decide +kernel
theorem dc_RM_get_40 : decode prog_14_method_78_code 40 = .ok (.ldc_w 334, 3) := by decide +kernel
theorem dc_RM_get_43 : decode prog_14_method_78_code 43 = .ok (.ireturn, 1) := by decide +kernel
theorem dc_RM_get_44 : decode prog_14_method_78_code 44 = .ok (.aload_n 0, 1) := by decide +kernel
theorem dc_RM_get_45 : decode prog_14_method_78_code 45 = .ok (.getfield 106, 3) := by decide +kernel
theorem dc_RM_get_48 : decode prog_14_method_78_code 48 = .ok (.bipush 60, 2) := by decide +kernel
theorem dc_RM_get_50 : decode prog_14_method_78_code 50 = .ok (.iload_n 1, 1) := by decide +kernel
theorem dc_RM_get_51 : decode prog_14_method_78_code 51 = .ok (.imul, 1) := by decide +kernel
theorem dc_RM_get_52 : decode prog_14_method_78_code 52 = .ok (.iload_n 3, 1) := by decide +kernel
theorem dc_RM_get_53 : decode prog_14_method_78_code 53 = .ok (.iadd, 1) := by decide +kernel
theorem dc_RM_get_54 : decode prog_14_method_78_code 54 = .ok (.iaload, 1) := by decide +kernel
theorem dc_RM_get_55 : decode prog_14_method_78_code 55 = .ok (.ireturn, 1) := by decide +kernel
theorem w_RM_get_0 {G : GC} {d : Nat} {P : PT} {I : MI} {J : MJ} {x1 : Int32} {x2 : Int32} {x3 : Int32} (k1 : ((f_RM_isSheet x1) = 0) → Go G (fr G m_RM_get (d + 2) P) 16 [none, none, none, none, none] [] I J) (k2 : (¬ ((f_RM_isSheet x1) = 0)) → (¬ (f_RM_in x2 0 2) = 0) → Ct G (d + 1) m_RM_lacks [.ref 67, .int x1, .int x2, .int x3] (fun r I' J' => Go G (fr G m_RM_get (d + 2) P) 27 [some (.ref 67), some (.int x1), none, some (.int x3), none] (r.toList ++ []) I' J') I J) (k3 : (¬ ((f_RM_isSheet x1) = 0)) → ((f_RM_in x2 0 2) = 0) → Go G (fr G m_RM_get (d + 2) P) 16 [none, none, none, none, none] [] I J) : Go G (fr G m_RM_get (d + 2) P) 0 [some (.ref 67), some (.int x1), some (.int x2), some (.int x3), none] [] I J := by
  refine g_iload_n dc_RM_get_0 rfl rfl rfl ?_
  refine g_callS (M := m_RM_isSheet) (As := [.int x1]) (rest := []) ok_RM_isSheet st_RM_isSheet ml_RM_134 rfl rfl (Nat.le_of_ble_eq_true rfl) dc_RM_get_1 rfl rOk_fr (c_RM_isSheet ?_)
  show Go G (fr G m_RM_get (d + 2) P) 4 [some (.ref 67), some (.int x1), some (.int x2), some (.int x3), none] [.int (f_RM_isSheet x1)] I J
  refine g_if_eq (tgt := 16) dc_RM_get_4 rfl (by decide) (fun c1 => ?_) (fun c1 => ?_)
  · refine g_weak [none, none, none, none, none] trivial ?_
    exact (k1 c1)
  · refine g_iload_n dc_RM_get_7 rfl rfl rfl ?_
    refine g_iconst (v := 0) dc_RM_get_8 rfl (by decide) ?_
    refine g_iconst (v := 2) dc_RM_get_9 rfl (by decide) ?_
    refine g_callS (M := m_RM_in) (As := [.int x2, .int 0, .int 2]) (rest := []) ok_RM_in st_RM_in ml_RM_112 rfl rfl (Nat.le_of_ble_eq_true rfl) dc_RM_get_10 rfl rOk_fr (c_RM_in ?_)
    show Go G (fr G m_RM_get (d + 2) P) 13 [some (.ref 67), some (.int x1), some (.int x2), some (.int x3), none] [.int (f_RM_in x2 0 2)] I J
    refine g_if_ne (tgt := 20) dc_RM_get_13 rfl (by decide) (fun c2 => ?_) (fun c2 => ?_)
    · refine g_aload_n dc_RM_get_20 rfl rfl rfl ?_
      refine g_iload_n dc_RM_get_21 rfl rfl rfl ?_
      refine g_iload_n dc_RM_get_22 rfl rfl rfl ?_
      refine g_iload_n dc_RM_get_23 rfl rfl rfl ?_
      refine g_weak [some (.ref 67), some (.int x1), none, some (.int x3), none] ⟨rfl, ⟨rfl, ⟨rfl, trivial⟩⟩⟩ ?_
      exact g_callV (T := T_RM) (N := 45) (As := [.int x1, .int x2, .int x3]) (rest := []) ok_RM_lacks in_RM_lacks se_RM_lacks ml_RM_327 sh_67 (by decide) rfl rfl rfl (Nat.le_of_ble_eq_true rfl) dc_RM_get_24 rfl rOk_fr (k2 c1 c2)
    · refine g_weak [none, none, none, none, none] trivial ?_
      exact (k3 c1 c2)
theorem w_RM_get_16 {G : GC} {d : Nat} {P : PT} {I : MI} {J : MJ}  (q1 : P (some (.int (-2147483648))) I J) : Go G (fr G m_RM_get (d + 2) P) 16 [none, none, none, none, none] [] I J := by
  refine g_ldcw (v := (-2147483648)) kl_RM_334 dc_RM_get_16 rfl ?_
  exact g_iret rfl dc_RM_get_19 q1
theorem w_RM_get_27 {G : GC} {d : Nat} {P : PT} {I : MI} {J : MJ} {x1 : Int32} {x3 : Int32} {y0 : Int32} (b1 : (y0 ≤ 0) → vp_in ((60 * x1) + x3) 240) (q2 : (y0 ≤ 0) → P (some (.int (I 98 ((60 * x1) + x3).toNatClampNeg))) I J) (q3 : (¬ (y0 ≤ 0)) → P (some (.int (-2147483648))) (u2 I 67 44 y0) J) : Go G (fr G m_RM_get (d + 2) P) 27 [some (.ref 67), some (.int x1), none, some (.int x3), none] [.int y0] I J := by
  refine g_istore (L' := [some (.ref 67), some (.int x1), none, some (.int x3), some (.int y0)]) dc_RM_get_27 rfl (Nat.le_of_ble_eq_true rfl) rfl ?_
  refine g_iload dc_RM_get_29 rfl rfl ?_
  refine g_if_le (tgt := 44) dc_RM_get_31 rfl (by decide) (fun c1 => ?_) (fun c1 => ?_)
  · refine g_aload_n dc_RM_get_44 rfl rfl rfl ?_
    refine g_get (C := "LevelBreaksModel") (T := T_RM) (N := 45) (k := 42) (v := .ref 98) sh_67 (by decide) rfl rfl i_RM (by decide) fl_RM_106 (Or.inl rfl) rfl dc_RM_get_45 rfl ?_
    refine g_bipush (v := 60) dc_RM_get_48 rfl (by decide) ?_
    refine g_iload_n dc_RM_get_50 rfl rfl rfl ?_
    refine g_imul dc_RM_get_51 rfl ?_
    refine g_iload_n dc_RM_get_52 rfl rfl rfl ?_
    refine g_iadd dc_RM_get_53 rfl ?_
    refine g_ialdv (v := (I 98 ((60 * x1) + x3).toNatClampNeg)) sh_98 (b1 c1) rfl dc_RM_get_54 rfl ?_
    exact g_iret rfl dc_RM_get_55 (q2 c1)
  · refine g_aload_n dc_RM_get_34 rfl rfl rfl ?_
    refine g_iload dc_RM_get_35 rfl rfl ?_
    refine g_putI (C := "LevelBreaksModel") (T := T_RM) (N := 45) (k := 44) (ty := t_RM) sh_67 (by decide) rfl rfl i_RM p_RM n_RM (by decide) fl_RM_324 (Or.inl rfl) rfl (by decide) dc_RM_get_37 rfl ?_
    refine g_ldcw (v := (-2147483648)) kl_RM_334 dc_RM_get_40 rfl ?_
    exact g_iret rfl dc_RM_get_43 (q3 c1)
theorem dc_RM_isCommon_0 : decode prog_14_method_42_code 0 = .ok (.aload_n 0, 1) := by decide +kernel
theorem dc_RM_isCommon_1 : decode prog_14_method_42_code 1 = .ok (.getfield 66, 3) := by decide +kernel
theorem dc_RM_isCommon_4 : decode prog_14_method_42_code 4 = .ok (.bipush 41, 2) := by decide +kernel
theorem dc_RM_isCommon_6 : decode prog_14_method_42_code 6 = .ok (.iload_n 3, 1) := by decide +kernel
theorem dc_RM_isCommon_7 : decode prog_14_method_42_code 7 = .ok (.iconst 1, 1) := by decide +kernel
theorem dc_RM_isCommon_8 : decode prog_14_method_42_code 8 = .ok (.isub, 1) := by decide +kernel
theorem dc_RM_isCommon_9 : decode prog_14_method_42_code 9 = .ok (.imul, 1) := by decide +kernel
theorem dc_RM_isCommon_10 : decode prog_14_method_42_code 10 = .ok (.iload_n 2, 1) := by decide +kernel
theorem dc_RM_isCommon_11 : decode prog_14_method_42_code 11 = .ok (.iadd, 1) := by decide +kernel
theorem dc_RM_isCommon_12 : decode prog_14_method_42_code 12 = .ok (.iconst 1, 1) := by decide +kernel
theorem dc_RM_isCommon_13 : decode prog_14_method_42_code 13 = .ok (.iadd, 1) := by decide +kernel
theorem dc_RM_isCommon_14 : decode prog_14_method_42_code 14 = .ok (.laload, 1) := by decide +kernel
theorem dc_RM_isCommon_15 : decode prog_14_method_42_code 15 = .ok (.lstore 4, 2) := by decide +kernel
theorem dc_RM_isCommon_17 : decode prog_14_method_42_code 17 = .ok (.aload_n 0, 1) := by decide +kernel
theorem dc_RM_isCommon_18 : decode prog_14_method_42_code 18 = .ok (.getfield 63, 3) := by decide +kernel
theorem dc_RM_isCommon_21 : decode prog_14_method_42_code 21 = .ok (.bipush 40, 2) := by decide +kernel
theorem dc_RM_isCommon_23 : decode prog_14_method_42_code 23 = .ok (.iload_n 1, 1) := by decide +kernel
theorem dc_RM_isCommon_24 : decode prog_14_method_42_code 24 = .ok (.imul, 1) := by decide +kernel
theorem dc_RM_isCommon_25 : decode prog_14_method_42_code 25 = .ok (.iload_n 2, 1) := by decide +kernel
theorem dc_RM_isCommon_26 : decode prog_14_method_42_code 26 = .ok (.iadd, 1) := by decide +kernel
theorem dc_RM_isCommon_27 : decode prog_14_method_42_code 27 = .ok (.laload, 1) := by decide +kernel
theorem dc_RM_isCommon_28 : decode prog_14_method_42_code 28 = .ok (.lstore 6, 2) := by decide +kernel
theorem dc_RM_isCommon_30 : decode prog_14_method_42_code 30 = .ok (.lload 4, 2) := by decide +kernel
theorem dc_RM_isCommon_32 : decode prog_14_method_42_code 32 = .ok (.ldc2_w 244, 3) := by decide +kernel
theorem dc_RM_isCommon_35 : decode prog_14_method_42_code 35 = .ok (.lcmp, 1) := by decide +kernel
theorem dc_RM_isCommon_36 : decode prog_14_method_42_code 36 = .ok (.ifCond .eq 36, 3) := by decide +kernel
theorem dc_RM_isCommon_39 : decode prog_14_method_42_code 39 = .ok (.lload 6, 2) := by decide +kernel
theorem dc_RM_isCommon_41 : decode prog_14_method_42_code 41 = .ok (.ldc2_w 244, 3) := by decide +kernel
theorem dc_RM_isCommon_44 : decode prog_14_method_42_code 44 = .ok (.lcmp, 1) := by decide +kernel
theorem dc_RM_isCommon_45 : decode prog_14_method_42_code 45 = .ok (.ifCond .eq 27, 3) := by decide +kernel
theorem dc_RM_isCommon_48 : decode prog_14_method_42_code 48 = .ok (.lload 6, 2) := by decide +kernel
theorem dc_RM_isCommon_50 : decode prog_14_method_42_code 50 = .ok (.lload 4, 2) := by decide +kernel
theorem dc_RM_isCommon_52 : decode prog_14_method_42_code 52 = .ok (.ladd, 1) := by decide +kernel
theorem dc_RM_isCommon_53 : decode prog_14_method_42_code 53 = .ok (.aload_n 0, 1) := by decide +kernel
theorem dc_RM_isCommon_54 : decode prog_14_method_42_code 54 = .ok (.getfield 66, 3) := by decide +kernel
theorem dc_RM_isCommon_57 : decode prog_14_method_42_code 57 = .ok (.bipush 41, 2) := by decide +kernel
theorem dc_RM_isCommon_59 : decode prog_14_method_42_code 59 = .ok (.iload_n 3, 1) := by decide +kernel
theorem dc_RM_isCommon_60 : decode prog_14_method_42_code 60 = .ok (.imul, 1) := by decide +kernel
theorem dc_RM_isCommon_61 : decode prog_14_method_42_code 61 = .ok (.iload_n 1, 1) := by decide +kernel
theorem dc_RM_isCommon_62 : decode prog_14_method_42_code 62 = .ok (.iadd, 1) := by decide +kernel
theorem dc_RM_isCommon_63 : decode prog_14_method_42_code 63 = .ok (.laload, 1) := by decide +kernel
theorem dc_RM_isCommon_64 : decode prog_14_method_42_code 64 = .ok (.lcmp, 1) := by decide +kernel
theorem dc_RM_isCommon_65 : decode prog_14_method_42_code 65 = .ok (.ifCond .ne 7, 3) := by decide +kernel
theorem dc_RM_isCommon_68 : decode prog_14_method_42_code 68 = .ok (.iconst 1, 1) := by decide +kernel
theorem dc_RM_isCommon_69 : decode prog_14_method_42_code 69 = .ok (.goto 4, 3) := by decide +kernel
theorem dc_RM_isCommon_72 : decode prog_14_method_42_code 72 = .ok (.iconst 0, 1) := by decide +kernel
theorem dc_RM_isCommon_73 : decode prog_14_method_42_code 73 = .ok (.ireturn, 1) := by decide +kernel
theorem w_RM_isCommon_0 {G : GC} {d : Nat} {P : PT} {I : MI} {J : MJ} {x1 : Int32} {x2 : Int32} {x3 : Int32} (b1 : vp_in (((41 * (x3 - 1)) + x2) + 1) 287) (b2 : vp_in ((40 * x1) + x2) 1600) (k3 : ((J 85 (((41 * (x3 - 1)) + x2) + 1).toNatClampNeg) = (-1)) → Go G (fr G m_RM_isCommon d P) 72 [none, none, none, none, none, none, none, none] [] I J) (k4 : (¬ ((J 85 (((41 * (x3 - 1)) + x2) + 1).toNatClampNeg) = (-1))) → ((J 84 ((40 * x1) + x2).toNatClampNeg) = (-1)) → Go G (fr G m_RM_isCommon d P) 72 [none, none, none, none, none, none, none, none] [] I J) (b5 : (¬ ((J 85 (((41 * (x3 - 1)) + x2) + 1).toNatClampNeg) = (-1))) → (¬ ((J 84 ((40 * x1) + x2).toNatClampNeg) = (-1))) → vp_in ((41 * x3) + x1) 287) (k6 : (¬ ((J 85 (((41 * (x3 - 1)) + x2) + 1).toNatClampNeg) = (-1))) → (¬ ((J 84 ((40 * x1) + x2).toNatClampNeg) = (-1))) → (¬ ((J 84 ((40 * x1) + x2).toNatClampNeg) + (J 85 (((41 * (x3 - 1)) + x2) + 1).toNatClampNeg)) = (J 85 ((41 * x3) + x1).toNatClampNeg)) → Go G (fr G m_RM_isCommon d P) 72 [none, none, none, none, none, none, none, none] [] I J) (q7 : (¬ ((J 85 (((41 * (x3 - 1)) + x2) + 1).toNatClampNeg) = (-1))) → (¬ ((J 84 ((40 * x1) + x2).toNatClampNeg) = (-1))) → (((J 84 ((40 * x1) + x2).toNatClampNeg) + (J 85 (((41 * (x3 - 1)) + x2) + 1).toNatClampNeg)) = (J 85 ((41 * x3) + x1).toNatClampNeg)) → P (some (.int 1)) I J) : Go G (fr G m_RM_isCommon d P) 0 [some (.ref 67), some (.int x1), some (.int x2), some (.int x3), none, none, none, none] [] I J := by
  refine g_aload_n dc_RM_isCommon_0 rfl rfl rfl ?_
  refine g_get (C := "LevelBreaksModel") (T := T_RM) (N := 45) (k := 23) (v := .ref 85) sh_67 (by decide) rfl rfl i_RM (by decide) fl_RM_66 (Or.inl rfl) rfl dc_RM_isCommon_1 rfl ?_
  refine g_bipush (v := 41) dc_RM_isCommon_4 rfl (by decide) ?_
  refine g_iload_n dc_RM_isCommon_6 rfl rfl rfl ?_
  refine g_iconst (v := 1) dc_RM_isCommon_7 rfl (by decide) ?_
  refine g_isub dc_RM_isCommon_8 rfl ?_
  refine g_imul dc_RM_isCommon_9 rfl ?_
  refine g_iload_n dc_RM_isCommon_10 rfl rfl rfl ?_
  refine g_iadd dc_RM_isCommon_11 rfl ?_
  refine g_iconst (v := 1) dc_RM_isCommon_12 rfl (by decide) ?_
  refine g_iadd dc_RM_isCommon_13 rfl ?_
  refine g_laldv (v := (J 85 (((41 * (x3 - 1)) + x2) + 1).toNatClampNeg)) sh_85 b1 rfl dc_RM_isCommon_14 rfl ?_
  refine g_lstore (L' := [some (.ref 67), some (.int x1), some (.int x2), some (.int x3), some (.long (J 85 (((41 * (x3 - 1)) + x2) + 1).toNatClampNeg)), none, none, none]) dc_RM_isCommon_15 rfl (Nat.le_of_ble_eq_true rfl) rfl ?_
  refine g_aload_n dc_RM_isCommon_17 rfl rfl rfl ?_
  refine g_get (C := "LevelBreaksModel") (T := T_RM) (N := 45) (k := 22) (v := .ref 84) sh_67 (by decide) rfl rfl i_RM (by decide) fl_RM_63 (Or.inl rfl) rfl dc_RM_isCommon_18 rfl ?_
  refine g_bipush (v := 40) dc_RM_isCommon_21 rfl (by decide) ?_
  refine g_iload_n dc_RM_isCommon_23 rfl rfl rfl ?_
  refine g_imul dc_RM_isCommon_24 rfl ?_
  refine g_iload_n dc_RM_isCommon_25 rfl rfl rfl ?_
  refine g_iadd dc_RM_isCommon_26 rfl ?_
  refine g_laldv (v := (J 84 ((40 * x1) + x2).toNatClampNeg)) sh_84 b2 rfl dc_RM_isCommon_27 rfl ?_
  refine g_lstore (L' := [some (.ref 67), some (.int x1), some (.int x2), some (.int x3), some (.long (J 85 (((41 * (x3 - 1)) + x2) + 1).toNatClampNeg)), none, some (.long (J 84 ((40 * x1) + x2).toNatClampNeg)), none]) dc_RM_isCommon_28 rfl (Nat.le_of_ble_eq_true rfl) rfl ?_
  refine g_lload dc_RM_isCommon_30 rfl rfl ?_
  refine g_ldc2 (v := (-1)) kl_RM_244 dc_RM_isCommon_32 rfl ?_
  refine g_lc_eq (tgt := 72) dc_RM_isCommon_35 rfl dc_RM_isCommon_36 rfl (by decide) (fun c1 => ?_) (fun c1 => ?_)
  · refine g_weak [none, none, none, none, none, none, none, none] trivial ?_
    exact (k3 c1)
  · refine g_lload dc_RM_isCommon_39 rfl rfl ?_
    refine g_ldc2 (v := (-1)) kl_RM_244 dc_RM_isCommon_41 rfl ?_
    refine g_lc_eq (tgt := 72) dc_RM_isCommon_44 rfl dc_RM_isCommon_45 rfl (by decide) (fun c2 => ?_) (fun c2 => ?_)
    · refine g_weak [none, none, none, none, none, none, none, none] trivial ?_
      exact (k4 c1 c2)
    · refine g_lload dc_RM_isCommon_48 rfl rfl ?_
      refine g_lload dc_RM_isCommon_50 rfl rfl ?_
      refine g_ladd dc_RM_isCommon_52 rfl ?_
      refine g_aload_n dc_RM_isCommon_53 rfl rfl rfl ?_
      refine g_get (C := "LevelBreaksModel") (T := T_RM) (N := 45) (k := 23) (v := .ref 85) sh_67 (by decide) rfl rfl i_RM (by decide) fl_RM_66 (Or.inl rfl) rfl dc_RM_isCommon_54 rfl ?_
      refine g_bipush (v := 41) dc_RM_isCommon_57 rfl (by decide) ?_
      refine g_iload_n dc_RM_isCommon_59 rfl rfl rfl ?_
      refine g_imul dc_RM_isCommon_60 rfl ?_
      refine g_iload_n dc_RM_isCommon_61 rfl rfl rfl ?_
      refine g_iadd dc_RM_isCommon_62 rfl ?_
      refine g_laldv (v := (J 85 ((41 * x3) + x1).toNatClampNeg)) sh_85 (b5 c1 c2) rfl dc_RM_isCommon_63 rfl ?_
      refine g_lc_ne (tgt := 72) dc_RM_isCommon_64 rfl dc_RM_isCommon_65 rfl (by decide) (fun c3 => ?_) (fun c3 => ?_)
      · refine g_weak [none, none, none, none, none, none, none, none] trivial ?_
        exact (k6 c1 c2 c3)
      · refine g_iconst (v := 1) dc_RM_isCommon_68 rfl (by decide) ?_
        refine g_goto (tgt := 73) dc_RM_isCommon_69 (by decide) ?_
        exact g_zret rfl (by decide) dc_RM_isCommon_73 (q7 c1 c2 c3)
theorem w_RM_isCommon_72 {G : GC} {d : Nat} {P : PT} {I : MI} {J : MJ}  (q1 : P (some (.int 0)) I J) : Go G (fr G m_RM_isCommon d P) 72 [none, none, none, none, none, none, none, none] [] I J := by
  refine g_iconst (v := 0) dc_RM_isCommon_72 rfl (by decide) ?_
  exact g_zret rfl (by decide) dc_RM_isCommon_73 q1
theorem dc_RM_isNear_0 : decode prog_14_method_36_code 0 = .ok (.aload_n 0, 1) := by decide +kernel
theorem dc_RM_isNear_1 : decode prog_14_method_36_code 1 = .ok (.iload 5, 2) := by decide +kernel
theorem dc_RM_isNear_3 : decode prog_14_method_36_code 3 = .ok (.iconst 0, 1) := by decide +kernel
theorem dc_RM_isNear_4 : decode prog_14_method_36_code 4 = .ok (.invokevirtual 224, 3) := by decide +kernel
theorem dc_RM_isNear_7 : decode prog_14_method_36_code 7 = .ok (.lstore 7, 2) := by decide +kernel
theorem dc_RM_isNear_9 : decode prog_14_method_36_code 9 = .ok (.ldc2_w 231, 3) := by decide +kernel
theorem dc_RM_isNear_12 : decode prog_14_method_36_code 12 = .ok (.lload_n 1, 1) := by decide +kernel
theorem dc_RM_isNear_13 : decode prog_14_method_36_code 13 = .ok (.lmul, 1) := by decide +kernel
theorem dc_RM_isNear_14 : decode prog_14_method_36_code 14 = .ok (.aload_n 0, 1) := by decide +kernel
theorem dc_RM_isNear_15 : decode prog_14_method_36_code 15 = .ok (.getfield 57, 3) := by decide +kernel
theorem dc_RM_isNear_18 : decode prog_14_method_36_code 18 = .ok (.bipush 41, 2) := by decide +kernel
theorem dc_RM_isNear_20 : decode prog_14_method_36_code 20 = .ok (.iload 5, 2) := by decide +kernel
theorem dc_RM_isNear_22 : decode prog_14_method_36_code 22 = .ok (.imul, 1) := by decide +kernel
theorem dc_RM_isNear_23 : decode prog_14_method_36_code 23 = .ok (.laload, 1) := by decide +kernel
theorem dc_RM_isNear_24 : decode prog_14_method_36_code 24 = .ok (.lmul, 1) := by decide +kernel
theorem dc_RM_isNear_25 : decode prog_14_method_36_code 25 = .ok (.ldc2_w 231, 3) := by decide +kernel
theorem dc_RM_isNear_28 : decode prog_14_method_36_code 28 = .ok (.iload 6, 2) := by decide +kernel
theorem dc_RM_isNear_30 : decode prog_14_method_36_code 30 = .ok (.i2l, 1) := by decide +kernel
theorem dc_RM_isNear_31 : decode prog_14_method_36_code 31 = .ok (.ladd, 1) := by decide +kernel
theorem dc_RM_isNear_32 : decode prog_14_method_36_code 32 = .ok (.lload 7, 2) := by decide +kernel
theorem dc_RM_isNear_34 : decode prog_14_method_36_code 34 = .ok (.lmul, 1) := by decide +kernel
theorem dc_RM_isNear_35 : decode prog_14_method_36_code 35 = .ok (.lload_n 3, 1) := by decide +kernel
theorem dc_RM_isNear_36 : decode prog_14_method_36_code 36 = .ok (.lmul, 1) := by decide +kernel
theorem dc_RM_isNear_37 : decode prog_14_method_36_code 37 = .ok (.lcmp, 1) := by decide +kernel
theorem dc_RM_isNear_38 : decode prog_14_method_36_code 38 = .ok (.ifCond .gt 7, 3) := by decide +kernel
theorem dc_RM_isNear_41 : decode prog_14_method_36_code 41 = .ok (.iconst 1, 1) := by decide +kernel
theorem dc_RM_isNear_42 : decode prog_14_method_36_code 42 = .ok (.goto 4, 3) := by decide +kernel
theorem dc_RM_isNear_45 : decode prog_14_method_36_code 45 = .ok (.iconst 0, 1) := by decide +kernel
theorem dc_RM_isNear_46 : decode prog_14_method_36_code 46 = .ok (.ireturn, 1) := by decide +kernel
theorem w_RM_isNear_0 {G : GC} {d : Nat} {P : PT} {I : MI} {J : MJ} {l1 : Int64} {l3 : Int64} {x5 : Int32} {x6 : Int32} (k1 : Ct G d m_RM_bestTold [.ref 67, .int x5, .int 0] (fun r I' J' => Go G (fr G m_RM_isNear (d + 1) P) 7 [some (.ref 67), some (.long l1), none, some (.long l3), none, some (.int x5), some (.int x6), none, none] (r.toList ++ []) I' J') I J) : Go G (fr G m_RM_isNear (d + 1) P) 0 [some (.ref 67), some (.long l1), none, some (.long l3), none, some (.int x5), some (.int x6), none, none] [] I J := by
  refine g_aload_n dc_RM_isNear_0 rfl rfl rfl ?_
  refine g_iload dc_RM_isNear_1 rfl rfl ?_
  refine g_iconst (v := 0) dc_RM_isNear_3 rfl (by decide) ?_
  exact g_callV (T := T_RM) (N := 45) (As := [.int x5, .int 0]) (rest := []) ok_RM_bestTold in_RM_bestTold se_RM_bestTold ml_RM_224 sh_67 (by decide) rfl rfl rfl (Nat.le_of_ble_eq_true rfl) dc_RM_isNear_4 rfl rOk_fr k1
theorem w_RM_isNear_7 {G : GC} {d : Nat} {P : PT} {I : MI} {J : MJ} {l1 : Int64} {l3 : Int64} {x5 : Int32} {x6 : Int32} {s0 : Int64} (b1 : vp_in (41 * x5) 287) (q2 : ((((100 + (Int32.toInt64 x6)) * s0) * l3) < ((100 * l1) * (J 82 (41 * x5).toNatClampNeg))) → P (some (.int 0)) I J) (q3 : (¬ ((((100 + (Int32.toInt64 x6)) * s0) * l3) < ((100 * l1) * (J 82 (41 * x5).toNatClampNeg)))) → P (some (.int 1)) I J) : Go G (fr G m_RM_isNear (d + 1) P) 7 [some (.ref 67), some (.long l1), none, some (.long l3), none, some (.int x5), some (.int x6), none, none] [.long s0] I J := by
  refine g_lstore (L' := [some (.ref 67), some (.long l1), none, some (.long l3), none, some (.int x5), some (.int x6), some (.long s0), none]) dc_RM_isNear_7 rfl (Nat.le_of_ble_eq_true rfl) rfl ?_
  refine g_ldc2 (v := 100) kl_RM_231 dc_RM_isNear_9 rfl ?_
  refine g_lload_n dc_RM_isNear_12 rfl rfl rfl ?_
  refine g_lmul dc_RM_isNear_13 rfl ?_
  refine g_aload_n dc_RM_isNear_14 rfl rfl rfl ?_
  refine g_get (C := "LevelBreaksModel") (T := T_RM) (N := 45) (k := 17) (v := .ref 82) sh_67 (by decide) rfl rfl i_RM (by decide) fl_RM_57 (Or.inl rfl) rfl dc_RM_isNear_15 rfl ?_
  refine g_bipush (v := 41) dc_RM_isNear_18 rfl (by decide) ?_
  refine g_iload dc_RM_isNear_20 rfl rfl ?_
  refine g_imul dc_RM_isNear_22 rfl ?_
  refine g_laldv (v := (J 82 (41 * x5).toNatClampNeg)) sh_82 b1 rfl dc_RM_isNear_23 rfl ?_
  refine g_lmul dc_RM_isNear_24 rfl ?_
  refine g_ldc2 (v := 100) kl_RM_231 dc_RM_isNear_25 rfl ?_
  refine g_iload dc_RM_isNear_28 rfl rfl ?_
  refine g_i2l dc_RM_isNear_30 rfl ?_
  refine g_ladd dc_RM_isNear_31 rfl ?_
  refine g_lload dc_RM_isNear_32 rfl rfl ?_
  refine g_lmul dc_RM_isNear_34 rfl ?_
  refine g_lload_n dc_RM_isNear_35 rfl rfl rfl ?_
  refine g_lmul dc_RM_isNear_36 rfl ?_
  refine g_lc_gt (tgt := 45) dc_RM_isNear_37 rfl dc_RM_isNear_38 rfl (by decide) (fun c1 => ?_) (fun c1 => ?_)
  · refine g_iconst (v := 0) dc_RM_isNear_45 rfl (by decide) ?_
    exact g_zret rfl (by decide) dc_RM_isNear_46 (q2 c1)
  · refine g_iconst (v := 1) dc_RM_isNear_41 rfl (by decide) ?_
    refine g_goto (tgt := 46) dc_RM_isNear_42 (by decide) ?_
    exact g_zret rfl (by decide) dc_RM_isNear_46 (q3 c1)
theorem dc_RM_isNearDay_0 : decode prog_14_method_53_code 0 = .ok (.iconst 1, 1) := by decide +kernel
theorem dc_RM_isNearDay_1 : decode prog_14_method_53_code 1 = .ok (.istore 4, 2) := by decide +kernel
theorem dc_RM_isNearDay_3 : decode prog_14_method_53_code 3 = .ok (.iload 4, 2) := by decide +kernel
theorem dc_RM_isNearDay_5 : decode prog_14_method_53_code 5 = .ok (.iload_n 2, 1) := by decide +kernel
theorem dc_RM_isNearDay_6 : decode prog_14_method_53_code 6 = .ok (.if_icmp .ge 30, 3) := by decide +kernel
theorem dc_RM_isNearDay_9 : decode prog_14_method_53_code 9 = .ok (.iload_n 1, 1) := by decide +kernel
theorem dc_RM_isNearDay_10 : decode prog_14_method_53_code 10 = .ok (.aload_n 0, 1) := by decide +kernel
theorem dc_RM_isNearDay_11 : decode prog_14_method_53_code 11 = .ok (.getfield 78, 3) := by decide +kernel
theorem dc_RM_isNearDay_14 : decode prog_14_method_53_code 14 = .ok (.iload 4, 2) := by decide +kernel
theorem dc_RM_isNearDay_16 : decode prog_14_method_53_code 16 = .ok (.iaload, 1) := by decide +kernel
theorem dc_RM_isNearDay_17 : decode prog_14_method_53_code 17 = .ok (.isub, 1) := by decide +kernel
theorem dc_RM_isNearDay_18 : decode prog_14_method_53_code 18 = .ok (.i2l, 1) := by decide +kernel
theorem dc_RM_isNearDay_19 : decode prog_14_method_53_code 19 = .ok (.invokestatic 175, 3) := by decide +kernel
theorem dc_RM_isNearDay_22 : decode prog_14_method_53_code 22 = .ok (.iload_n 3, 1) := by decide +kernel
theorem dc_RM_isNearDay_23 : decode prog_14_method_53_code 23 = .ok (.i2l, 1) := by decide +kernel
theorem dc_RM_isNearDay_24 : decode prog_14_method_53_code 24 = .ok (.lcmp, 1) := by decide +kernel
theorem dc_RM_isNearDay_25 : decode prog_14_method_53_code 25 = .ok (.ifCond .gt 5, 3) := by decide +kernel
theorem dc_RM_isNearDay_28 : decode prog_14_method_53_code 28 = .ok (.iconst 1, 1) := by decide +kernel
theorem dc_RM_isNearDay_29 : decode prog_14_method_53_code 29 = .ok (.ireturn, 1) := by decide +kernel
theorem dc_RM_isNearDay_30 : decode prog_14_method_53_code 30 = .ok (.iinc 4 1, 3) := by decide +kernel
theorem dc_RM_isNearDay_33 : decode prog_14_method_53_code 33 = .ok (.goto (-30), 3) := by decide +kernel
theorem dc_RM_isNearDay_36 : decode prog_14_method_53_code 36 = .ok (.iconst 0, 1) := by decide +kernel
theorem dc_RM_isNearDay_37 : decode prog_14_method_53_code 37 = .ok (.ireturn, 1) := by decide +kernel
theorem w_RM_isNearDay_0 {G : GC} {d : Nat} {P : PT} {I : MI} {J : MJ} {x1 : Int32} {x2 : Int32} {x3 : Int32} (k1 : Go G (fr G m_RM_isNearDay (d + 1) P) 3 [some (.ref 67), some (.int x1), some (.int x2), some (.int x3), some (.int 1)] [] I J) : Go G (fr G m_RM_isNearDay (d + 1) P) 0 [some (.ref 67), some (.int x1), some (.int x2), some (.int x3), none] [] I J := by
  refine g_iconst (v := 1) dc_RM_isNearDay_0 rfl (by decide) ?_
  refine g_istore (L' := [some (.ref 67), some (.int x1), some (.int x2), some (.int x3), some (.int 1)]) dc_RM_isNearDay_1 rfl (Nat.le_of_ble_eq_true rfl) rfl ?_
  exact k1
theorem w_RM_isNearDay_3 {G : GC} {d : Nat} {P : PT} {I : MI} {J : MJ} {x1 : Int32} {x2 : Int32} {x3 : Int32} {x4 : Int32} (q1 : (x2 ≤ x4) → P (some (.int 0)) I J) (b2 : (¬ (x2 ≤ x4)) → vp_in x4 6) (k3 : (¬ (x2 ≤ x4)) → ((Int32.toInt64 x3) < (f_RM_amount (Int32.toInt64 (x1 - (I 89 x4.toNatClampNeg))))) → Go G (fr G m_RM_isNearDay (d + 1) P) 3 [some (.ref 67), some (.int x1), some (.int x2), some (.int x3), some (.int (x4 + 1))] [] I J) (q4 : (¬ (x2 ≤ x4)) → (¬ ((Int32.toInt64 x3) < (f_RM_amount (Int32.toInt64 (x1 - (I 89 x4.toNatClampNeg)))))) → P (some (.int 1)) I J) : Go G (fr G m_RM_isNearDay (d + 1) P) 3 [some (.ref 67), some (.int x1), some (.int x2), some (.int x3), some (.int x4)] [] I J := by
  refine g_iload dc_RM_isNearDay_3 rfl rfl ?_
  refine g_iload_n dc_RM_isNearDay_5 rfl rfl rfl ?_
  refine g_ic_ge (tgt := 36) dc_RM_isNearDay_6 rfl (by decide) (fun c1 => ?_) (fun c1 => ?_)
  · refine g_iconst (v := 0) dc_RM_isNearDay_36 rfl (by decide) ?_
    exact g_zret rfl (by decide) dc_RM_isNearDay_37 (q1 c1)
  · refine g_iload_n dc_RM_isNearDay_9 rfl rfl rfl ?_
    refine g_aload_n dc_RM_isNearDay_10 rfl rfl rfl ?_
    refine g_get (C := "LevelBreaksModel") (T := T_RM) (N := 45) (k := 28) (v := .ref 89) sh_67 (by decide) rfl rfl i_RM (by decide) fl_RM_78 (Or.inl rfl) rfl dc_RM_isNearDay_11 rfl ?_
    refine g_iload dc_RM_isNearDay_14 rfl rfl ?_
    refine g_ialdv (v := (I 89 x4.toNatClampNeg)) sh_89 (b2 c1) rfl dc_RM_isNearDay_16 rfl ?_
    refine g_isub dc_RM_isNearDay_17 rfl ?_
    refine g_i2l dc_RM_isNearDay_18 rfl ?_
    refine g_callS (M := m_RM_amount) (As := [.long (Int32.toInt64 (x1 - (I 89 x4.toNatClampNeg)))]) (rest := []) ok_RM_amount st_RM_amount ml_RM_175 rfl rfl (Nat.le_of_ble_eq_true rfl) dc_RM_isNearDay_19 rfl rOk_fr (c_RM_amount ?_)
    show Go G (fr G m_RM_isNearDay (d + 1) P) 22 [some (.ref 67), some (.int x1), some (.int x2), some (.int x3), some (.int x4)] [.long (f_RM_amount (Int32.toInt64 (x1 - (I 89 x4.toNatClampNeg))))] I J
    refine g_iload_n dc_RM_isNearDay_22 rfl rfl rfl ?_
    refine g_i2l dc_RM_isNearDay_23 rfl ?_
    refine g_lc_gt (tgt := 30) dc_RM_isNearDay_24 rfl dc_RM_isNearDay_25 rfl (by decide) (fun c2 => ?_) (fun c2 => ?_)
    · refine g_iinc (v := (x4 + 1)) (L' := [some (.ref 67), some (.int x1), some (.int x2), some (.int x3), some (.int (x4 + 1))]) dc_RM_isNearDay_30 rfl rfl (by rw [show Int32.ofInt 1 = 1 from by decide]) (Nat.le_of_ble_eq_true rfl) rfl ?_
      refine g_goto (tgt := 3) dc_RM_isNearDay_33 (by decide) ?_
      exact (k3 c1 c2)
    · refine g_iconst (v := 1) dc_RM_isNearDay_28 rfl (by decide) ?_
      exact g_zret rfl (by decide) dc_RM_isNearDay_29 (q4 c1 c2)
theorem dc_RM_isSame_0 : decode prog_14_method_46_code 0 = .ok (.aload_n 0, 1) := by decide +kernel
theorem dc_RM_isSame_1 : decode prog_14_method_46_code 1 = .ok (.iload_n 1, 1) := by decide +kernel
theorem dc_RM_isSame_2 : decode prog_14_method_46_code 2 = .ok (.iload_n 2, 1) := by decide +kernel
theorem dc_RM_isSame_3 : decode prog_14_method_46_code 3 = .ok (.iload_n 3, 1) := by decide +kernel
theorem dc_RM_isSame_4 : decode prog_14_method_46_code 4 = .ok (.iload 4, 2) := by decide +kernel
theorem dc_RM_isSame_6 : decode prog_14_method_46_code 6 = .ok (.invokevirtual 220, 3) := by decide +kernel
theorem dc_RM_isSame_9 : decode prog_14_method_46_code 9 = .ok (.ifCond .ne 5, 3) := by decide +kernel
theorem dc_RM_isSame_12 : decode prog_14_method_46_code 12 = .ok (.iconst 0, 1) := by decide +kernel
theorem dc_RM_isSame_13 : decode prog_14_method_46_code 13 = .ok (.ireturn, 1) := by decide +kernel
theorem dc_RM_isSame_14 : decode prog_14_method_46_code 14 = .ok (.iconst 0, 1) := by decide +kernel
theorem dc_RM_isSame_15 : decode prog_14_method_46_code 15 = .ok (.istore 5, 2) := by decide +kernel
theorem dc_RM_isSame_17 : decode prog_14_method_46_code 17 = .ok (.iload 5, 2) := by decide +kernel
theorem dc_RM_isSame_19 : decode prog_14_method_46_code 19 = .ok (.iload_n 3, 1) := by decide +kernel
theorem dc_RM_isSame_20 : decode prog_14_method_46_code 20 = .ok (.if_icmp .ge 33, 3) := by decide +kernel
theorem dc_RM_isSame_23 : decode prog_14_method_46_code 23 = .ok (.aload_n 0, 1) := by decide +kernel
theorem dc_RM_isSame_24 : decode prog_14_method_46_code 24 = .ok (.getfield 32, 3) := by decide +kernel
theorem dc_RM_isSame_27 : decode prog_14_method_46_code 27 = .ok (.aload_n 0, 1) := by decide +kernel
theorem dc_RM_isSame_28 : decode prog_14_method_46_code 28 = .ok (.getfield 60, 3) := by decide +kernel
theorem dc_RM_isSame_31 : decode prog_14_method_46_code 31 = .ok (.iload 5, 2) := by decide +kernel
theorem dc_RM_isSame_33 : decode prog_14_method_46_code 33 = .ok (.iaload, 1) := by decide +kernel
theorem dc_RM_isSame_34 : decode prog_14_method_46_code 34 = .ok (.iaload, 1) := by decide +kernel
theorem dc_RM_isSame_35 : decode prog_14_method_46_code 35 = .ok (.aload_n 0, 1) := by decide +kernel
theorem dc_RM_isSame_36 : decode prog_14_method_46_code 36 = .ok (.getfield 69, 3) := by decide +kernel
theorem dc_RM_isSame_39 : decode prog_14_method_46_code 39 = .ok (.iload 5, 2) := by decide +kernel
theorem dc_RM_isSame_41 : decode prog_14_method_46_code 41 = .ok (.iaload, 1) := by decide +kernel
theorem dc_RM_isSame_42 : decode prog_14_method_46_code 42 = .ok (.if_icmp .eq 5, 3) := by decide +kernel
theorem dc_RM_isSame_45 : decode prog_14_method_46_code 45 = .ok (.iconst 0, 1) := by decide +kernel
theorem dc_RM_isSame_46 : decode prog_14_method_46_code 46 = .ok (.ireturn, 1) := by decide +kernel
theorem dc_RM_isSame_47 : decode prog_14_method_46_code 47 = .ok (.iinc 5 1, 3) := by decide +kernel
theorem dc_RM_isSame_50 : decode prog_14_method_46_code 50 = .ok (.goto (-33), 3) := by decide +kernel
theorem dc_RM_isSame_53 : decode prog_14_method_46_code 53 = .ok (.iconst 1, 1) := by decide +kernel
theorem dc_RM_isSame_54 : decode prog_14_method_46_code 54 = .ok (.ireturn, 1) := by decide +kernel
theorem w_RM_isSame_0 {G : GC} {d : Nat} {P : PT} {I : MI} {J : MJ} {x1 : Int32} {x2 : Int32} {x3 : Int32} {x4 : Int32} (k1 : Ct G (d + 4) m_RM_finds [.ref 67, .int x1, .int x2, .int x3, .int x4] (fun r I' J' => Go G (fr G m_RM_isSame (d + 5) P) 9 [some (.ref 67), none, none, some (.int x3), none, none] (r.toList ++ []) I' J') I J) : Go G (fr G m_RM_isSame (d + 5) P) 0 [some (.ref 67), some (.int x1), some (.int x2), some (.int x3), some (.int x4), none] [] I J := by
  refine g_aload_n dc_RM_isSame_0 rfl rfl rfl ?_
  refine g_iload_n dc_RM_isSame_1 rfl rfl rfl ?_
  refine g_iload_n dc_RM_isSame_2 rfl rfl rfl ?_
  refine g_iload_n dc_RM_isSame_3 rfl rfl rfl ?_
  refine g_iload dc_RM_isSame_4 rfl rfl ?_
  refine g_weak [some (.ref 67), none, none, some (.int x3), none, none] ⟨rfl, ⟨rfl, trivial⟩⟩ ?_
  exact g_callV (T := T_RM) (N := 45) (As := [.int x1, .int x2, .int x3, .int x4]) (rest := []) ok_RM_finds in_RM_finds se_RM_finds ml_RM_220 sh_67 (by decide) rfl rfl rfl (Nat.le_of_ble_eq_true rfl) dc_RM_isSame_6 rfl rOk_fr k1
theorem w_RM_isSame_9 {G : GC} {d : Nat} {P : PT} {I : MI} {J : MJ} {x3 : Int32} {y0 : Int32} (k1 : (¬ y0 = 0) → Go G (fr G m_RM_isSame (d + 5) P) 17 [some (.ref 67), none, none, some (.int x3), none, some (.int 0)] [] I J) (q2 : (y0 = 0) → P (some (.int 0)) I J) : Go G (fr G m_RM_isSame (d + 5) P) 9 [some (.ref 67), none, none, some (.int x3), none, none] [.int y0] I J := by
  refine g_if_ne (tgt := 14) dc_RM_isSame_9 rfl (by decide) (fun c1 => ?_) (fun c1 => ?_)
  · refine g_iconst (v := 0) dc_RM_isSame_14 rfl (by decide) ?_
    refine g_istore (L' := [some (.ref 67), none, none, some (.int x3), none, some (.int 0)]) dc_RM_isSame_15 rfl (Nat.le_of_ble_eq_true rfl) rfl ?_
    exact (k1 c1)
  · refine g_iconst (v := 0) dc_RM_isSame_12 rfl (by decide) ?_
    exact g_zret rfl (by decide) dc_RM_isSame_13 (q2 c1)
theorem w_RM_isSame_17 {G : GC} {d : Nat} {P : PT} {I : MI} {J : MJ} {x3 : Int32} {x5 : Int32} (q1 : (x3 ≤ x5) → P (some (.int 1)) I J) (b2 : (¬ (x3 ≤ x5)) → vp_in x5 7) (b3 : (¬ (x3 ≤ x5)) → vp_in (I 83 x5.toNatClampNeg) 40) (b4 : (¬ (x3 ≤ x5)) → vp_in x5 6) (k5 : (¬ (x3 ≤ x5)) → ((I 74 (I 83 x5.toNatClampNeg).toNatClampNeg) = (I 86 x5.toNatClampNeg)) → Go G (fr G m_RM_isSame (d + 5) P) 17 [some (.ref 67), none, none, some (.int x3), none, some (.int (x5 + 1))] [] I J) (q6 : (¬ (x3 ≤ x5)) → (¬ ((I 74 (I 83 x5.toNatClampNeg).toNatClampNeg) = (I 86 x5.toNatClampNeg))) → P (some (.int 0)) I J) : Go G (fr G m_RM_isSame (d + 5) P) 17 [some (.ref 67), none, none, some (.int x3), none, some (.int x5)] [] I J := by
  refine g_iload dc_RM_isSame_17 rfl rfl ?_
  refine g_iload_n dc_RM_isSame_19 rfl rfl rfl ?_
  refine g_ic_ge (tgt := 53) dc_RM_isSame_20 rfl (by decide) (fun c1 => ?_) (fun c1 => ?_)
  · refine g_iconst (v := 1) dc_RM_isSame_53 rfl (by decide) ?_
    exact g_zret rfl (by decide) dc_RM_isSame_54 (q1 c1)
  · refine g_aload_n dc_RM_isSame_23 rfl rfl rfl ?_
    refine g_get (C := "LevelBreaksModel") (T := T_RM) (N := 45) (k := 9) (v := .ref 74) sh_67 (by decide) rfl rfl i_RM (by decide) fl_RM_32 (Or.inl rfl) rfl dc_RM_isSame_24 rfl ?_
    refine g_aload_n dc_RM_isSame_27 rfl rfl rfl ?_
    refine g_get (C := "LevelBreaksModel") (T := T_RM) (N := 45) (k := 21) (v := .ref 83) sh_67 (by decide) rfl rfl i_RM (by decide) fl_RM_60 (Or.inl rfl) rfl dc_RM_isSame_28 rfl ?_
    refine g_iload dc_RM_isSame_31 rfl rfl ?_
    refine g_ialdv (v := (I 83 x5.toNatClampNeg)) sh_83 (b2 c1) rfl dc_RM_isSame_33 rfl ?_
    refine g_ialdv (v := (I 74 (I 83 x5.toNatClampNeg).toNatClampNeg)) sh_74 (b3 c1) rfl dc_RM_isSame_34 rfl ?_
    refine g_aload_n dc_RM_isSame_35 rfl rfl rfl ?_
    refine g_get (C := "LevelBreaksModel") (T := T_RM) (N := 45) (k := 24) (v := .ref 86) sh_67 (by decide) rfl rfl i_RM (by decide) fl_RM_69 (Or.inl rfl) rfl dc_RM_isSame_36 rfl ?_
    refine g_iload dc_RM_isSame_39 rfl rfl ?_
    refine g_ialdv (v := (I 86 x5.toNatClampNeg)) sh_86 (b4 c1) rfl dc_RM_isSame_41 rfl ?_
    refine g_ic_eq (tgt := 47) dc_RM_isSame_42 rfl (by decide) (fun c2 => ?_) (fun c2 => ?_)
    · refine g_iinc (v := (x5 + 1)) (L' := [some (.ref 67), none, none, some (.int x3), none, some (.int (x5 + 1))]) dc_RM_isSame_47 rfl rfl (by rw [show Int32.ofInt 1 = 1 from by decide]) (Nat.le_of_ble_eq_true rfl) rfl ?_
      refine g_goto (tgt := 17) dc_RM_isSame_50 (by decide) ?_
      exact (k5 c1 c2)
    · refine g_iconst (v := 0) dc_RM_isSame_45 rfl (by decide) ?_
      exact g_zret rfl (by decide) dc_RM_isSame_46 (q6 c1 c2)
theorem dc_RM_keeps_0 : decode prog_14_method_20_code 0 = .ok (.aload_n 0, 1) := by decide +kernel
theorem dc_RM_keeps_1 : decode prog_14_method_20_code 1 = .ok (.getfield 38, 3) := by decide +kernel
theorem dc_RM_keeps_4 : decode prog_14_method_20_code 4 = .ok (.iload_n 1, 1) := by decide +kernel
theorem dc_RM_keeps_5 : decode prog_14_method_20_code 5 = .ok (.lload_n 2, 1) := by decide +kernel
theorem dc_RM_keeps_6 : decode prog_14_method_20_code 6 = .ok (.lload 4, 2) := by decide +kernel
theorem dc_RM_keeps_8 : decode prog_14_method_20_code 8 = .ok (.ldiv, 1) := by decide +kernel
theorem dc_RM_keeps_9 : decode prog_14_method_20_code 9 = .ok (.lastore, 1) := by decide +kernel
theorem dc_RM_keeps_10 : decode prog_14_method_20_code 10 = .ok (.lload_n 2, 1) := by decide +kernel
theorem dc_RM_keeps_11 : decode prog_14_method_20_code 11 = .ok (.lload 4, 2) := by decide +kernel
theorem dc_RM_keeps_13 : decode prog_14_method_20_code 13 = .ok (.lrem, 1) := by decide +kernel
theorem dc_RM_keeps_14 : decode prog_14_method_20_code 14 = .ok (.lstore 6, 2) := by decide +kernel
theorem dc_RM_keeps_16 : decode prog_14_method_20_code 16 = .ok (.lload 6, 2) := by decide +kernel
theorem dc_RM_keeps_18 : decode prog_14_method_20_code 18 = .ok (.lload 4, 2) := by decide +kernel
theorem dc_RM_keeps_20 : decode prog_14_method_20_code 20 = .ok (.invokestatic 157, 3) := by decide +kernel
theorem dc_RM_keeps_23 : decode prog_14_method_20_code 23 = .ok (.lstore 8, 2) := by decide +kernel
theorem dc_RM_keeps_25 : decode prog_14_method_20_code 25 = .ok (.aload_n 0, 1) := by decide +kernel
theorem dc_RM_keeps_26 : decode prog_14_method_20_code 26 = .ok (.getfield 42, 3) := by decide +kernel
theorem dc_RM_keeps_29 : decode prog_14_method_20_code 29 = .ok (.iload_n 1, 1) := by decide +kernel
theorem dc_RM_keeps_30 : decode prog_14_method_20_code 30 = .ok (.lload 6, 2) := by decide +kernel
theorem dc_RM_keeps_32 : decode prog_14_method_20_code 32 = .ok (.lload 8, 2) := by decide +kernel
theorem dc_RM_keeps_34 : decode prog_14_method_20_code 34 = .ok (.ldiv, 1) := by decide +kernel
theorem dc_RM_keeps_35 : decode prog_14_method_20_code 35 = .ok (.lastore, 1) := by decide +kernel
theorem dc_RM_keeps_36 : decode prog_14_method_20_code 36 = .ok (.aload_n 0, 1) := by decide +kernel
theorem dc_RM_keeps_37 : decode prog_14_method_20_code 37 = .ok (.getfield 45, 3) := by decide +kernel
theorem dc_RM_keeps_40 : decode prog_14_method_20_code 40 = .ok (.iload_n 1, 1) := by decide +kernel
theorem dc_RM_keeps_41 : decode prog_14_method_20_code 41 = .ok (.lload 4, 2) := by decide +kernel
theorem dc_RM_keeps_43 : decode prog_14_method_20_code 43 = .ok (.lload 8, 2) := by decide +kernel
theorem dc_RM_keeps_45 : decode prog_14_method_20_code 45 = .ok (.ldiv, 1) := by decide +kernel
theorem dc_RM_keeps_46 : decode prog_14_method_20_code 46 = .ok (.lastore, 1) := by decide +kernel
theorem dc_RM_keeps_47 : decode prog_14_method_20_code 47 = .ok (.return_, 1) := by decide +kernel
theorem w_RM_keeps_0 {G : GC} {d : Nat} {P : PT} {I : MI} {J : MJ} {x1 : Int32} {l2 : Int64} {l4 : Int64} (z1 : ¬ l4 = 0) (b2 : vp_in x1 1600) (k3 : Ct G d m_RM_divisor [.long (l2 - l2 / l4 * l4), .long l4] (fun r I' J' => Go G (fr G m_RM_keeps (d + 1) P) 23 [some (.ref 67), some (.int x1), none, none, some (.long l4), none, some (.long (l2 - l2 / l4 * l4)), none, none, none] (r.toList ++ []) I' J') I (u2 J 76 x1.toNatClampNeg (l2 / l4))) : Go G (fr G m_RM_keeps (d + 1) P) 0 [some (.ref 67), some (.int x1), some (.long l2), none, some (.long l4), none, none, none, none, none] [] I J := by
  refine g_aload_n dc_RM_keeps_0 rfl rfl rfl ?_
  refine g_get (C := "LevelBreaksModel") (T := T_RM) (N := 45) (k := 11) (v := .ref 76) sh_67 (by decide) rfl rfl i_RM (by decide) fl_RM_38 (Or.inl rfl) rfl dc_RM_keeps_1 rfl ?_
  refine g_iload_n dc_RM_keeps_4 rfl rfl rfl ?_
  refine g_lload_n dc_RM_keeps_5 rfl rfl rfl ?_
  refine g_lload dc_RM_keeps_6 rfl rfl ?_
  refine g_ldiv dc_RM_keeps_8 rfl z1 ?_
  refine g_last sh_76 b2 dc_RM_keeps_9 rfl ?_
  refine g_lload_n dc_RM_keeps_10 rfl rfl rfl ?_
  refine g_lload dc_RM_keeps_11 rfl rfl ?_
  refine g_lrem dc_RM_keeps_13 rfl z1 ?_
  refine g_lstore (L' := [some (.ref 67), some (.int x1), some (.long l2), none, some (.long l4), none, some (.long (l2 - l2 / l4 * l4)), none, none, none]) dc_RM_keeps_14 rfl (Nat.le_of_ble_eq_true rfl) rfl ?_
  refine g_lload dc_RM_keeps_16 rfl rfl ?_
  refine g_lload dc_RM_keeps_18 rfl rfl ?_
  refine g_weak [some (.ref 67), some (.int x1), none, none, some (.long l4), none, some (.long (l2 - l2 / l4 * l4)), none, none, none] ⟨rfl, ⟨rfl, ⟨rfl, ⟨rfl, trivial⟩⟩⟩⟩ ?_
  exact g_callS (As := [.long (l2 - l2 / l4 * l4), .long l4]) (rest := []) ok_RM_divisor st_RM_divisor ml_RM_157 rfl rfl (Nat.le_of_ble_eq_true rfl) dc_RM_keeps_20 rfl rOk_fr k3
theorem w_RM_keeps_23 {G : GC} {d : Nat} {P : PT} {I : MI} {J : MJ} {x1 : Int32} {l4 : Int64} {l6 : Int64} {s0 : Int64} (z1 : ¬ s0 = 0) (b2 : vp_in x1 1600) (q3 : P none I (u2 (u2 J 77 x1.toNatClampNeg (l6 / s0)) 78 x1.toNatClampNeg (l4 / s0))) : Go G (fr G m_RM_keeps (d + 1) P) 23 [some (.ref 67), some (.int x1), none, none, some (.long l4), none, some (.long l6), none, none, none] [.long s0] I J := by
  refine g_lstore (L' := [some (.ref 67), some (.int x1), none, none, some (.long l4), none, some (.long l6), none, some (.long s0), none]) dc_RM_keeps_23 rfl (Nat.le_of_ble_eq_true rfl) rfl ?_
  refine g_aload_n dc_RM_keeps_25 rfl rfl rfl ?_
  refine g_get (C := "LevelBreaksModel") (T := T_RM) (N := 45) (k := 12) (v := .ref 77) sh_67 (by decide) rfl rfl i_RM (by decide) fl_RM_42 (Or.inl rfl) rfl dc_RM_keeps_26 rfl ?_
  refine g_iload_n dc_RM_keeps_29 rfl rfl rfl ?_
  refine g_lload dc_RM_keeps_30 rfl rfl ?_
  refine g_lload dc_RM_keeps_32 rfl rfl ?_
  refine g_ldiv dc_RM_keeps_34 rfl z1 ?_
  refine g_last sh_77 b2 dc_RM_keeps_35 rfl ?_
  refine g_aload_n dc_RM_keeps_36 rfl rfl rfl ?_
  refine g_get (C := "LevelBreaksModel") (T := T_RM) (N := 45) (k := 13) (v := .ref 78) sh_67 (by decide) rfl rfl i_RM (by decide) fl_RM_45 (Or.inl rfl) rfl dc_RM_keeps_37 rfl ?_
  refine g_iload_n dc_RM_keeps_40 rfl rfl rfl ?_
  refine g_lload dc_RM_keeps_41 rfl rfl ?_
  refine g_lload dc_RM_keeps_43 rfl rfl ?_
  refine g_ldiv dc_RM_keeps_45 rfl z1 ?_
  refine g_last sh_78 b2 dc_RM_keeps_46 rfl ?_
  exact g_vret rfl dc_RM_keeps_47 q3
theorem dc_RM_lacks_0 : decode prog_14_method_75_code 0 = .ok (.aload_n 0, 1) := by decide +kernel
theorem dc_RM_lacks_1 : decode prog_14_method_75_code 1 = .ok (.getfield 97, 3) := by decide +kernel
theorem dc_RM_lacks_4 : decode prog_14_method_75_code 4 = .ok (.iload_n 1, 1) := by decide +kernel
theorem dc_RM_lacks_5 : decode prog_14_method_75_code 5 = .ok (.baload, 1) := by decide +kernel
theorem dc_RM_lacks_6 : decode prog_14_method_75_code 6 = .ok (.ifCond .ne 7, 3) := by decide +kernel
theorem dc_RM_lacks_9 : decode prog_14_method_75_code 9 = .ok (.iconst 1, 1) := by decide +kernel
theorem dc_RM_lacks_10 : decode prog_14_method_75_code 10 = .ok (.goto 38, 3) := by decide +kernel
theorem dc_RM_lacks_13 : decode prog_14_method_75_code 13 = .ok (.aload_n 0, 1) := by decide +kernel
theorem dc_RM_lacks_14 : decode prog_14_method_75_code 14 = .ok (.getfield 100, 3) := by decide +kernel
theorem dc_RM_lacks_17 : decode prog_14_method_75_code 17 = .ok (.iload_n 1, 1) := by decide +kernel
theorem dc_RM_lacks_18 : decode prog_14_method_75_code 18 = .ok (.iaload, 1) := by decide +kernel
theorem dc_RM_lacks_19 : decode prog_14_method_75_code 19 = .ok (.iload_n 2, 1) := by decide +kernel
theorem dc_RM_lacks_20 : decode prog_14_method_75_code 20 = .ok (.if_icmp .eq 7, 3) := by decide +kernel
theorem dc_RM_lacks_23 : decode prog_14_method_75_code 23 = .ok (.iconst 3, 1) := by decide +kernel
theorem dc_RM_lacks_24 : decode prog_14_method_75_code 24 = .ok (.goto 24, 3) := by decide +kernel
theorem dc_RM_lacks_27 : decode prog_14_method_75_code 27 = .ok (.iload_n 3, 1) := by decide +kernel
theorem dc_RM_lacks_28 : decode prog_14_method_75_code 28 = .ok (.iconst 0, 1) := by decide +kernel
theorem dc_RM_lacks_29 : decode prog_14_method_75_code 29 = .ok (.aload_n 0, 1) := by decide +kernel
theorem dc_RM_lacks_30 : decode prog_14_method_75_code 30 = .ok (.getfield 103, 3) := by decide +kernel
theorem dc_RM_lacks_33 : decode prog_14_method_75_code 33 = .ok (.iload_n 1, 1) := by decide +kernel
theorem dc_RM_lacks_34 : decode prog_14_method_75_code 34 = .ok (.iaload, 1) := by decide +kernel
theorem dc_RM_lacks_35 : decode prog_14_method_75_code 35 = .ok (.iconst 1, 1) := by decide +kernel
theorem dc_RM_lacks_36 : decode prog_14_method_75_code 36 = .ok (.isub, 1) := by decide +kernel
theorem dc_RM_lacks_37 : decode prog_14_method_75_code 37 = .ok (.invokestatic 112, 3) := by decide +kernel
theorem dc_RM_lacks_40 : decode prog_14_method_75_code 40 = .ok (.ifCond .eq 7, 3) := by decide +kernel
theorem dc_RM_lacks_43 : decode prog_14_method_75_code 43 = .ok (.iconst 0, 1) := by decide +kernel
theorem dc_RM_lacks_44 : decode prog_14_method_75_code 44 = .ok (.goto 4, 3) := by decide +kernel
theorem dc_RM_lacks_47 : decode prog_14_method_75_code 47 = .ok (.iconst 2, 1) := by decide +kernel
theorem dc_RM_lacks_48 : decode prog_14_method_75_code 48 = .ok (.ireturn, 1) := by decide +kernel
theorem w_RM_lacks_0 {G : GC} {d : Nat} {P : PT} {I : MI} {J : MJ} {x1 : Int32} {x2 : Int32} {x3 : Int32} (b1 : vp_in x1 4) (q2 : (¬ (I 95 x1.toNatClampNeg) = 0) → ((I 96 x1.toNatClampNeg) = x2) → ((f_RM_in x3 0 ((I 97 x1.toNatClampNeg) - 1)) = 0) → P (some (.int 2)) I J) (q3 : (¬ (I 95 x1.toNatClampNeg) = 0) → ((I 96 x1.toNatClampNeg) = x2) → (¬ ((f_RM_in x3 0 ((I 97 x1.toNatClampNeg) - 1)) = 0)) → P (some (.int 0)) I J) (q4 : (¬ (I 95 x1.toNatClampNeg) = 0) → (¬ ((I 96 x1.toNatClampNeg) = x2)) → P (some (.int 3)) I J) (q5 : ((I 95 x1.toNatClampNeg) = 0) → P (some (.int 1)) I J) : Go G (fr G m_RM_lacks (d + 1) P) 0 [some (.ref 67), some (.int x1), some (.int x2), some (.int x3)] [] I J := by
  refine g_aload_n dc_RM_lacks_0 rfl rfl rfl ?_
  refine g_get (C := "LevelBreaksModel") (T := T_RM) (N := 45) (k := 39) (v := .ref 95) sh_67 (by decide) rfl rfl i_RM (by decide) fl_RM_97 (Or.inl rfl) rfl dc_RM_lacks_1 rfl ?_
  refine g_iload_n dc_RM_lacks_4 rfl rfl rfl ?_
  refine g_zaldv (v := (I 95 x1.toNatClampNeg)) sh_95 b1 rfl dc_RM_lacks_5 rfl ?_
  refine g_if_ne (tgt := 13) dc_RM_lacks_6 rfl (by decide) (fun c1 => ?_) (fun c1 => ?_)
  · refine g_aload_n dc_RM_lacks_13 rfl rfl rfl ?_
    refine g_get (C := "LevelBreaksModel") (T := T_RM) (N := 45) (k := 40) (v := .ref 96) sh_67 (by decide) rfl rfl i_RM (by decide) fl_RM_100 (Or.inl rfl) rfl dc_RM_lacks_14 rfl ?_
    refine g_iload_n dc_RM_lacks_17 rfl rfl rfl ?_
    refine g_ialdv (v := (I 96 x1.toNatClampNeg)) sh_96 b1 rfl dc_RM_lacks_18 rfl ?_
    refine g_iload_n dc_RM_lacks_19 rfl rfl rfl ?_
    refine g_ic_eq (tgt := 27) dc_RM_lacks_20 rfl (by decide) (fun c2 => ?_) (fun c2 => ?_)
    · refine g_iload_n dc_RM_lacks_27 rfl rfl rfl ?_
      refine g_iconst (v := 0) dc_RM_lacks_28 rfl (by decide) ?_
      refine g_aload_n dc_RM_lacks_29 rfl rfl rfl ?_
      refine g_get (C := "LevelBreaksModel") (T := T_RM) (N := 45) (k := 41) (v := .ref 97) sh_67 (by decide) rfl rfl i_RM (by decide) fl_RM_103 (Or.inl rfl) rfl dc_RM_lacks_30 rfl ?_
      refine g_iload_n dc_RM_lacks_33 rfl rfl rfl ?_
      refine g_ialdv (v := (I 97 x1.toNatClampNeg)) sh_97 b1 rfl dc_RM_lacks_34 rfl ?_
      refine g_iconst (v := 1) dc_RM_lacks_35 rfl (by decide) ?_
      refine g_isub dc_RM_lacks_36 rfl ?_
      refine g_callS (M := m_RM_in) (As := [.int x3, .int 0, .int ((I 97 x1.toNatClampNeg) - 1)]) (rest := []) ok_RM_in st_RM_in ml_RM_112 rfl rfl (Nat.le_of_ble_eq_true rfl) dc_RM_lacks_37 rfl rOk_fr (c_RM_in ?_)
      show Go G (fr G m_RM_lacks (d + 1) P) 40 [some (.ref 67), some (.int x1), some (.int x2), some (.int x3)] [.int (f_RM_in x3 0 ((I 97 x1.toNatClampNeg) - 1))] I J
      refine g_if_eq (tgt := 47) dc_RM_lacks_40 rfl (by decide) (fun c3 => ?_) (fun c3 => ?_)
      · refine g_iconst (v := 2) dc_RM_lacks_47 rfl (by decide) ?_
        exact g_iret rfl dc_RM_lacks_48 (q2 c1 c2 c3)
      · refine g_iconst (v := 0) dc_RM_lacks_43 rfl (by decide) ?_
        refine g_goto (tgt := 48) dc_RM_lacks_44 (by decide) ?_
        exact g_iret rfl dc_RM_lacks_48 (q3 c1 c2 c3)
    · refine g_iconst (v := 3) dc_RM_lacks_23 rfl (by decide) ?_
      refine g_goto (tgt := 48) dc_RM_lacks_24 (by decide) ?_
      exact g_iret rfl dc_RM_lacks_48 (q4 c1 c2)
  · refine g_iconst (v := 1) dc_RM_lacks_9 rfl (by decide) ?_
    refine g_goto (tgt := 48) dc_RM_lacks_10 (by decide) ?_
    exact g_iret rfl dc_RM_lacks_48 (q5 c1)
theorem dc_RM_lastTime_0 : decode prog_14_method_7_code 0 = .ok (.aload_n 0, 1) := by decide +kernel
theorem dc_RM_lastTime_1 : decode prog_14_method_7_code 1 = .ok (.getfield 116, 3) := by decide +kernel
theorem dc_RM_lastTime_4 : decode prog_14_method_7_code 4 = .ok (.ifCond .ne 7, 3) := by decide +kernel
theorem dc_RM_lastTime_7 : decode prog_14_method_7_code 7 = .ok (.iconst 0, 1) := by decide +kernel
theorem dc_RM_lastTime_8 : decode prog_14_method_7_code 8 = .ok (.goto 14, 3) := by decide +kernel
theorem dc_RM_lastTime_11 : decode prog_14_method_7_code 11 = .ok (.aload_n 0, 1) := by decide +kernel
theorem dc_RM_lastTime_12 : decode prog_14_method_7_code 12 = .ok (.getfield 19, 3) := by decide +kernel
theorem dc_RM_lastTime_15 : decode prog_14_method_7_code 15 = .ok (.aload_n 0, 1) := by decide +kernel
theorem dc_RM_lastTime_16 : decode prog_14_method_7_code 16 = .ok (.getfield 116, 3) := by decide +kernel
theorem dc_RM_lastTime_19 : decode prog_14_method_7_code 19 = .ok (.iconst 1, 1) := by decide +kernel
theorem dc_RM_lastTime_20 : decode prog_14_method_7_code 20 = .ok (.isub, 1) := by decide +kernel
theorem dc_RM_lastTime_21 : decode prog_14_method_7_code 21 = .ok (.iaload, 1) := by decide +kernel
theorem dc_RM_lastTime_22 : decode prog_14_method_7_code 22 = .ok (.ireturn, 1) := by decide +kernel
theorem w_RM_lastTime_0 {G : GC} {d : Nat} {P : PT} {I : MI} {J : MJ}  (b1 : (¬ (I 67 0) = 0) → vp_in ((I 67 0) - 1) 200) (q2 : (¬ (I 67 0) = 0) → P (some (.int (I 71 ((I 67 0) - 1).toNatClampNeg))) I J) (q3 : ((I 67 0) = 0) → P (some (.int 0)) I J) : Go G (fr G m_RM_lastTime d P) 0 [some (.ref 67)] [] I J := by
  refine g_aload_n dc_RM_lastTime_0 rfl rfl rfl ?_
  refine g_get (C := "LevelBreaksModel") (T := T_RM) (N := 45) (k := 0) (v := .int (I 67 0)) sh_67 (by decide) rfl rfl i_RM (by decide) fl_RM_116 (Or.inl rfl) rfl dc_RM_lastTime_1 rfl ?_
  refine g_if_ne (tgt := 11) dc_RM_lastTime_4 rfl (by decide) (fun c1 => ?_) (fun c1 => ?_)
  · refine g_aload_n dc_RM_lastTime_11 rfl rfl rfl ?_
    refine g_get (C := "LevelBreaksModel") (T := T_RM) (N := 45) (k := 4) (v := .ref 71) sh_67 (by decide) rfl rfl i_RM (by decide) fl_RM_19 (Or.inl rfl) rfl dc_RM_lastTime_12 rfl ?_
    refine g_aload_n dc_RM_lastTime_15 rfl rfl rfl ?_
    refine g_get (C := "LevelBreaksModel") (T := T_RM) (N := 45) (k := 0) (v := .int (I 67 0)) sh_67 (by decide) rfl rfl i_RM (by decide) fl_RM_116 (Or.inl rfl) rfl dc_RM_lastTime_16 rfl ?_
    refine g_iconst (v := 1) dc_RM_lastTime_19 rfl (by decide) ?_
    refine g_isub dc_RM_lastTime_20 rfl ?_
    refine g_ialdv (v := (I 71 ((I 67 0) - 1).toNatClampNeg)) sh_71 (b1 c1) rfl dc_RM_lastTime_21 rfl ?_
    exact g_iret rfl dc_RM_lastTime_22 (q2 c1)
  · refine g_iconst (v := 0) dc_RM_lastTime_7 rfl (by decide) ?_
    refine g_goto (tgt := 22) dc_RM_lastTime_8 (by decide) ?_
    exact g_iret rfl dc_RM_lastTime_22 (q3 c1)
theorem dc_RM_lay_0 : decode prog_14_method_76_code 0 = .ok (.aload_n 0, 1) := by decide +kernel
theorem dc_RM_lay_1 : decode prog_14_method_76_code 1 = .ok (.getfield 106, 3) := by decide +kernel
theorem dc_RM_lay_4 : decode prog_14_method_76_code 4 = .ok (.bipush 60, 2) := by decide +kernel
theorem dc_RM_lay_6 : decode prog_14_method_76_code 6 = .ok (.iload_n 1, 1) := by decide +kernel
theorem dc_RM_lay_7 : decode prog_14_method_76_code 7 = .ok (.imul, 1) := by decide +kernel
theorem dc_RM_lay_8 : decode prog_14_method_76_code 8 = .ok (.iload_n 2, 1) := by decide +kernel
theorem dc_RM_lay_9 : decode prog_14_method_76_code 9 = .ok (.iadd, 1) := by decide +kernel
theorem dc_RM_lay_10 : decode prog_14_method_76_code 10 = .ok (.aload_n 0, 1) := by decide +kernel
theorem dc_RM_lay_11 : decode prog_14_method_76_code 11 = .ok (.getfield 100, 3) := by decide +kernel
theorem dc_RM_lay_14 : decode prog_14_method_76_code 14 = .ok (.iload_n 1, 1) := by decide +kernel
theorem dc_RM_lay_15 : decode prog_14_method_76_code 15 = .ok (.iaload, 1) := by decide +kernel
theorem dc_RM_lay_16 : decode prog_14_method_76_code 16 = .ok (.ifCond .ne 8, 3) := by decide +kernel
theorem dc_RM_lay_19 : decode prog_14_method_76_code 19 = .ok (.iload_n 3, 1) := by decide +kernel
theorem dc_RM_lay_20 : decode prog_14_method_76_code 20 = .ok (.i2b, 1) := by decide +kernel
theorem dc_RM_lay_21 : decode prog_14_method_76_code 21 = .ok (.goto 19, 3) := by decide +kernel
theorem dc_RM_lay_24 : decode prog_14_method_76_code 24 = .ok (.aload_n 0, 1) := by decide +kernel
theorem dc_RM_lay_25 : decode prog_14_method_76_code 25 = .ok (.getfield 100, 3) := by decide +kernel
theorem dc_RM_lay_28 : decode prog_14_method_76_code 28 = .ok (.iload_n 1, 1) := by decide +kernel
theorem dc_RM_lay_29 : decode prog_14_method_76_code 29 = .ok (.iaload, 1) := by decide +kernel
theorem dc_RM_lay_30 : decode prog_14_method_76_code 30 = .ok (.iconst 1, 1) := by decide +kernel
theorem dc_RM_lay_31 : decode prog_14_method_76_code 31 = .ok (.if_icmp .ne 8, 3) := by decide +kernel
theorem dc_RM_lay_34 : decode prog_14_method_76_code 34 = .ok (.iload_n 3, 1) := by decide +kernel
theorem dc_RM_lay_35 : decode prog_14_method_76_code 35 = .ok (.i2s, 1) := by decide +kernel
theorem dc_RM_lay_36 : decode prog_14_method_76_code 36 = .ok (.goto 4, 3) := by decide +kernel
theorem dc_RM_lay_39 : decode prog_14_method_76_code 39 = .ok (.iload_n 3, 1) := by decide +kernel
theorem dc_RM_lay_40 : decode prog_14_method_76_code 40 = .ok (.iastore, 1) := by decide +kernel
theorem dc_RM_lay_41 : decode prog_14_method_76_code 41 = .ok (.return_, 1) := by decide +kernel
theorem w_RM_lay_0 {G : GC} {d : Nat} {P : PT} {I : MI} {J : MJ} {x1 : Int32} {x2 : Int32} {x3 : Int32} (b1 : vp_in x1 4) (k2 : (¬ (I 96 x1.toNatClampNeg) = 0) → (¬ (I 96 x1.toNatClampNeg) = 1) → Go G (fr G m_RM_lay d P) 40 [none, none, none, none] [.int x3, .int ((60 * x1) + x2), .ref 98] I J) (k3 : (¬ (I 96 x1.toNatClampNeg) = 0) → ((I 96 x1.toNatClampNeg) = 1) → Go G (fr G m_RM_lay d P) 40 [none, none, none, none] [.int (Int16.toInt32 (Int32.toInt16 x3)), .int ((60 * x1) + x2), .ref 98] I J) (k4 : ((I 96 x1.toNatClampNeg) = 0) → Go G (fr G m_RM_lay d P) 40 [none, none, none, none] [.int (Int8.toInt32 (Int32.toInt8 x3)), .int ((60 * x1) + x2), .ref 98] I J) : Go G (fr G m_RM_lay d P) 0 [some (.ref 67), some (.int x1), some (.int x2), some (.int x3)] [] I J := by
  refine g_aload_n dc_RM_lay_0 rfl rfl rfl ?_
  refine g_get (C := "LevelBreaksModel") (T := T_RM) (N := 45) (k := 42) (v := .ref 98) sh_67 (by decide) rfl rfl i_RM (by decide) fl_RM_106 (Or.inl rfl) rfl dc_RM_lay_1 rfl ?_
  refine g_bipush (v := 60) dc_RM_lay_4 rfl (by decide) ?_
  refine g_iload_n dc_RM_lay_6 rfl rfl rfl ?_
  refine g_imul dc_RM_lay_7 rfl ?_
  refine g_iload_n dc_RM_lay_8 rfl rfl rfl ?_
  refine g_iadd dc_RM_lay_9 rfl ?_
  refine g_aload_n dc_RM_lay_10 rfl rfl rfl ?_
  refine g_get (C := "LevelBreaksModel") (T := T_RM) (N := 45) (k := 40) (v := .ref 96) sh_67 (by decide) rfl rfl i_RM (by decide) fl_RM_100 (Or.inl rfl) rfl dc_RM_lay_11 rfl ?_
  refine g_iload_n dc_RM_lay_14 rfl rfl rfl ?_
  refine g_ialdv (v := (I 96 x1.toNatClampNeg)) sh_96 b1 rfl dc_RM_lay_15 rfl ?_
  refine g_if_ne (tgt := 24) dc_RM_lay_16 rfl (by decide) (fun c1 => ?_) (fun c1 => ?_)
  · refine g_aload_n dc_RM_lay_24 rfl rfl rfl ?_
    refine g_get (C := "LevelBreaksModel") (T := T_RM) (N := 45) (k := 40) (v := .ref 96) sh_67 (by decide) rfl rfl i_RM (by decide) fl_RM_100 (Or.inl rfl) rfl dc_RM_lay_25 rfl ?_
    refine g_iload_n dc_RM_lay_28 rfl rfl rfl ?_
    refine g_ialdv (v := (I 96 x1.toNatClampNeg)) sh_96 b1 rfl dc_RM_lay_29 rfl ?_
    refine g_iconst (v := 1) dc_RM_lay_30 rfl (by decide) ?_
    refine g_ic_ne (tgt := 39) dc_RM_lay_31 rfl (by decide) (fun c2 => ?_) (fun c2 => ?_)
    · refine g_iload_n dc_RM_lay_39 rfl rfl rfl ?_
      refine g_weak [none, none, none, none] trivial ?_
      exact (k2 c1 c2)
    · refine g_iload_n dc_RM_lay_34 rfl rfl rfl ?_
      refine g_i2s dc_RM_lay_35 rfl ?_
      refine g_goto (tgt := 40) dc_RM_lay_36 (by decide) ?_
      refine g_weak [none, none, none, none] trivial ?_
      exact (k3 c1 c2)
  · refine g_iload_n dc_RM_lay_19 rfl rfl rfl ?_
    refine g_i2b dc_RM_lay_20 rfl ?_
    refine g_goto (tgt := 40) dc_RM_lay_21 (by decide) ?_
    refine g_weak [none, none, none, none] trivial ?_
    exact (k4 c1)
theorem w_RM_lay_40 {G : GC} {d : Nat} {P : PT} {I : MI} {J : MJ} {y1 : Int32} {y2 : Int32} (b1 : vp_in y1 240) (q2 : P none (u2 I 98 y1.toNatClampNeg y2) J) : Go G (fr G m_RM_lay d P) 40 [none, none, none, none] [.int y2, .int y1, .ref 98] I J := by
  refine g_iast sh_98 b1 dc_RM_lay_40 rfl ?_
  exact g_vret rfl dc_RM_lay_41 q2
theorem dc_RM_least_0 : decode prog_14_method_12_code 0 = .ok (.iload_n 1, 1) := by decide +kernel
theorem dc_RM_least_1 : decode prog_14_method_12_code 1 = .ok (.invokestatic 119, 3) := by decide +kernel
theorem dc_RM_least_4 : decode prog_14_method_12_code 4 = .ok (.ifCond .eq 13, 3) := by decide +kernel
theorem dc_RM_least_7 : decode prog_14_method_12_code 7 = .ok (.iload_n 2, 1) := by decide +kernel
theorem dc_RM_least_8 : decode prog_14_method_12_code 8 = .ok (.iconst 1, 1) := by decide +kernel
theorem dc_RM_least_9 : decode prog_14_method_12_code 9 = .ok (.bipush 10, 2) := by decide +kernel
theorem dc_RM_least_11 : decode prog_14_method_12_code 11 = .ok (.invokestatic 112, 3) := by decide +kernel
theorem dc_RM_least_14 : decode prog_14_method_12_code 14 = .ok (.ifCond .ne 6, 3) := by decide +kernel
theorem dc_RM_least_17 : decode prog_14_method_12_code 17 = .ok (.bipush (-2), 2) := by decide +kernel
theorem dc_RM_least_19 : decode prog_14_method_12_code 19 = .ok (.ireturn, 1) := by decide +kernel
theorem dc_RM_least_20 : decode prog_14_method_12_code 20 = .ok (.aload_n 0, 1) := by decide +kernel
theorem dc_RM_least_21 : decode prog_14_method_12_code 21 = .ok (.getfield 26, 3) := by decide +kernel
theorem dc_RM_least_24 : decode prog_14_method_12_code 24 = .ok (.iload_n 1, 1) := by decide +kernel
theorem dc_RM_least_25 : decode prog_14_method_12_code 25 = .ok (.iaload, 1) := by decide +kernel
theorem dc_RM_least_26 : decode prog_14_method_12_code 26 = .ok (.istore_n 3, 1) := by decide +kernel
theorem dc_RM_least_27 : decode prog_14_method_12_code 27 = .ok (.aload_n 0, 1) := by decide +kernel
theorem dc_RM_least_28 : decode prog_14_method_12_code 28 = .ok (.getfield 26, 3) := by decide +kernel
theorem dc_RM_least_31 : decode prog_14_method_12_code 31 = .ok (.iload_n 1, 1) := by decide +kernel
theorem dc_RM_least_32 : decode prog_14_method_12_code 32 = .ok (.iload_n 2, 1) := by decide +kernel
theorem dc_RM_least_33 : decode prog_14_method_12_code 33 = .ok (.iastore, 1) := by decide +kernel
theorem dc_RM_least_34 : decode prog_14_method_12_code 34 = .ok (.iload_n 3, 1) := by decide +kernel
theorem dc_RM_least_35 : decode prog_14_method_12_code 35 = .ok (.ireturn, 1) := by decide +kernel
theorem w_RM_least_0 {G : GC} {d : Nat} {P : PT} {I : MI} {J : MJ} {x1 : Int32} {x2 : Int32} (k1 : ((f_RM_isRow x1) = 0) → Go G (fr G m_RM_least (d + 2) P) 17 [none, none, none, none] [] I J) (b2 : (¬ ((f_RM_isRow x1) = 0)) → (¬ (f_RM_in x2 1 10) = 0) → vp_in x1 4) (q3 : (¬ ((f_RM_isRow x1) = 0)) → (¬ (f_RM_in x2 1 10) = 0) → P (some (.int (I 72 x1.toNatClampNeg))) (u2 I 72 x1.toNatClampNeg x2) J) (k4 : (¬ ((f_RM_isRow x1) = 0)) → ((f_RM_in x2 1 10) = 0) → Go G (fr G m_RM_least (d + 2) P) 17 [none, none, none, none] [] I J) : Go G (fr G m_RM_least (d + 2) P) 0 [some (.ref 67), some (.int x1), some (.int x2), none] [] I J := by
  refine g_iload_n dc_RM_least_0 rfl rfl rfl ?_
  refine g_callS (M := m_RM_isRow) (As := [.int x1]) (rest := []) ok_RM_isRow st_RM_isRow ml_RM_119 rfl rfl (Nat.le_of_ble_eq_true rfl) dc_RM_least_1 rfl rOk_fr (c_RM_isRow ?_)
  show Go G (fr G m_RM_least (d + 2) P) 4 [some (.ref 67), some (.int x1), some (.int x2), none] [.int (f_RM_isRow x1)] I J
  refine g_if_eq (tgt := 17) dc_RM_least_4 rfl (by decide) (fun c1 => ?_) (fun c1 => ?_)
  · refine g_weak [none, none, none, none] trivial ?_
    exact (k1 c1)
  · refine g_iload_n dc_RM_least_7 rfl rfl rfl ?_
    refine g_iconst (v := 1) dc_RM_least_8 rfl (by decide) ?_
    refine g_bipush (v := 10) dc_RM_least_9 rfl (by decide) ?_
    refine g_callS (M := m_RM_in) (As := [.int x2, .int 1, .int 10]) (rest := []) ok_RM_in st_RM_in ml_RM_112 rfl rfl (Nat.le_of_ble_eq_true rfl) dc_RM_least_11 rfl rOk_fr (c_RM_in ?_)
    show Go G (fr G m_RM_least (d + 2) P) 14 [some (.ref 67), some (.int x1), some (.int x2), none] [.int (f_RM_in x2 1 10)] I J
    refine g_if_ne (tgt := 20) dc_RM_least_14 rfl (by decide) (fun c2 => ?_) (fun c2 => ?_)
    · refine g_aload_n dc_RM_least_20 rfl rfl rfl ?_
      refine g_get (C := "LevelBreaksModel") (T := T_RM) (N := 45) (k := 6) (v := .ref 72) sh_67 (by decide) rfl rfl i_RM (by decide) fl_RM_26 (Or.inl rfl) rfl dc_RM_least_21 rfl ?_
      refine g_iload_n dc_RM_least_24 rfl rfl rfl ?_
      refine g_ialdv (v := (I 72 x1.toNatClampNeg)) sh_72 (b2 c1 c2) rfl dc_RM_least_25 rfl ?_
      refine g_istore_n (L' := [some (.ref 67), some (.int x1), some (.int x2), some (.int (I 72 x1.toNatClampNeg))]) dc_RM_least_26 rfl rfl (Nat.le_of_ble_eq_true rfl) rfl ?_
      refine g_aload_n dc_RM_least_27 rfl rfl rfl ?_
      refine g_get (C := "LevelBreaksModel") (T := T_RM) (N := 45) (k := 6) (v := .ref 72) sh_67 (by decide) rfl rfl i_RM (by decide) fl_RM_26 (Or.inl rfl) rfl dc_RM_least_28 rfl ?_
      refine g_iload_n dc_RM_least_31 rfl rfl rfl ?_
      refine g_iload_n dc_RM_least_32 rfl rfl rfl ?_
      refine g_iast sh_72 (b2 c1 c2) dc_RM_least_33 rfl ?_
      refine g_iload_n dc_RM_least_34 rfl rfl rfl ?_
      exact g_iret rfl dc_RM_least_35 (q3 c1 c2)
    · refine g_weak [none, none, none, none] trivial ?_
      exact (k4 c1 c2)
theorem w_RM_least_17 {G : GC} {d : Nat} {P : PT} {I : MI} {J : MJ}  (q1 : P (some (.int (-2))) I J) : Go G (fr G m_RM_least (d + 2) P) 17 [none, none, none, none] [] I J := by
  refine g_bipush (v := (-2)) dc_RM_least_17 rfl (by decide) ?_
  exact g_iret rfl dc_RM_least_19 q1
theorem dc_RM_limit_0 : decode prog_14_method_61_code 0 = .ok (.iload_n 1, 1) := by decide +kernel
theorem dc_RM_limit_1 : decode prog_14_method_61_code 1 = .ok (.iload_n 2, 1) := by decide +kernel
theorem dc_RM_limit_2 : decode prog_14_method_61_code 2 = .ok (.iload_n 3, 1) := by decide +kernel
theorem dc_RM_limit_3 : decode prog_14_method_61_code 3 = .ok (.iconst 1, 1) := by decide +kernel
theorem dc_RM_limit_4 : decode prog_14_method_61_code 4 = .ok (.iload 4, 2) := by decide +kernel
theorem dc_RM_limit_6 : decode prog_14_method_61_code 6 = .ok (.invokestatic 282, 3) := by decide +kernel
theorem dc_RM_limit_9 : decode prog_14_method_61_code 9 = .ok (.ifCond .eq 11, 3) := by decide +kernel
theorem dc_RM_limit_12 : decode prog_14_method_61_code 12 = .ok (.iload 5, 2) := by decide +kernel
theorem dc_RM_limit_14 : decode prog_14_method_61_code 14 = .ok (.invokestatic 123, 3) := by decide +kernel
theorem dc_RM_limit_17 : decode prog_14_method_61_code 17 = .ok (.ifCond .ne 6, 3) := by decide +kernel
theorem dc_RM_limit_20 : decode prog_14_method_61_code 20 = .ok (.bipush (-2), 2) := by decide +kernel
theorem dc_RM_limit_22 : decode prog_14_method_61_code 22 = .ok (.ireturn, 1) := by decide +kernel
theorem dc_RM_limit_23 : decode prog_14_method_61_code 23 = .ok (.aload_n 0, 1) := by decide +kernel
theorem dc_RM_limit_24 : decode prog_14_method_61_code 24 = .ok (.iload_n 1, 1) := by decide +kernel
theorem dc_RM_limit_25 : decode prog_14_method_61_code 25 = .ok (.aload_n 0, 1) := by decide +kernel
theorem dc_RM_limit_26 : decode prog_14_method_61_code 26 = .ok (.getfield 22, 3) := by decide +kernel
theorem dc_RM_limit_29 : decode prog_14_method_61_code 29 = .ok (.invokevirtual 148, 3) := by decide +kernel
theorem dc_RM_limit_32 : decode prog_14_method_61_code 32 = .ok (.iconst 1, 1) := by decide +kernel
theorem dc_RM_limit_33 : decode prog_14_method_61_code 33 = .ok (.istore 6, 2) := by decide +kernel
theorem dc_RM_limit_35 : decode prog_14_method_61_code 35 = .ok (.iload 6, 2) := by decide +kernel
theorem dc_RM_limit_37 : decode prog_14_method_61_code 37 = .ok (.sipush 2000, 3) := by decide +kernel
theorem dc_RM_limit_40 : decode prog_14_method_61_code 40 = .ok (.if_icmp .gt 41, 3) := by decide +kernel
theorem dc_RM_limit_43 : decode prog_14_method_61_code 43 = .ok (.aload_n 0, 1) := by decide +kernel
theorem dc_RM_limit_44 : decode prog_14_method_61_code 44 = .ok (.iload_n 2, 1) := by decide +kernel
theorem dc_RM_limit_45 : decode prog_14_method_61_code 45 = .ok (.iload_n 3, 1) := by decide +kernel
theorem dc_RM_limit_46 : decode prog_14_method_61_code 46 = .ok (.iload 6, 2) := by decide +kernel
theorem dc_RM_limit_48 : decode prog_14_method_61_code 48 = .ok (.iload 4, 2) := by decide +kernel
theorem dc_RM_limit_50 : decode prog_14_method_61_code 50 = .ok (.invokevirtual 286, 3) := by decide +kernel
theorem dc_RM_limit_53 : decode prog_14_method_61_code 53 = .ok (.aload_n 0, 1) := by decide +kernel
theorem dc_RM_limit_54 : decode prog_14_method_61_code 54 = .ok (.iload 5, 2) := by decide +kernel
theorem dc_RM_limit_56 : decode prog_14_method_61_code 56 = .ok (.invokevirtual 290, 3) := by decide +kernel
theorem dc_RM_limit_59 : decode prog_14_method_61_code 59 = .ok (.iconst (-1), 1) := by decide +kernel
theorem dc_RM_limit_60 : decode prog_14_method_61_code 60 = .ok (.if_icmp .eq 15, 3) := by decide +kernel
theorem dc_RM_limit_63 : decode prog_14_method_61_code 63 = .ok (.aload_n 0, 1) := by decide +kernel
theorem dc_RM_limit_64 : decode prog_14_method_61_code 64 = .ok (.iload 5, 2) := by decide +kernel
theorem dc_RM_limit_66 : decode prog_14_method_61_code 66 = .ok (.invokevirtual 293, 3) := by decide +kernel
theorem dc_RM_limit_69 : decode prog_14_method_61_code 69 = .ok (.ifCond .ne 6, 3) := by decide +kernel
theorem dc_RM_limit_72 : decode prog_14_method_61_code 72 = .ok (.iload 6, 2) := by decide +kernel
theorem dc_RM_limit_74 : decode prog_14_method_61_code 74 = .ok (.ireturn, 1) := by decide +kernel
theorem dc_RM_limit_75 : decode prog_14_method_61_code 75 = .ok (.iinc 6 1, 3) := by decide +kernel
theorem dc_RM_limit_78 : decode prog_14_method_61_code 78 = .ok (.goto (-43), 3) := by decide +kernel
theorem dc_RM_limit_81 : decode prog_14_method_61_code 81 = .ok (.iconst (-1), 1) := by decide +kernel
theorem dc_RM_limit_82 : decode prog_14_method_61_code 82 = .ok (.ireturn, 1) := by decide +kernel
theorem w_RM_limit_0 {G : GC} {d : Nat} {P : PT} {I : MI} {J : MJ} {x1 : Int32} {x2 : Int32} {x3 : Int32} {x4 : Int32} {x5 : Int32} (k1 : ((f_RM_isWatch x1 x2 x3 1 x4) = 0) → Go G (fr G m_RM_limit (d + 3) P) 20 [none, none, none, none, none, none, none] [] I J) (k2 : (¬ ((f_RM_isWatch x1 x2 x3 1 x4) = 0)) → (¬ (f_RM_isDay x5) = 0) → Ct G (d + 2) m_RM_pointsBy [.ref 67, .int x1, .int (I 67 5)] (fun r I' J' => Go G (fr G m_RM_limit (d + 3) P) 32 [some (.ref 67), none, some (.int x2), some (.int x3), some (.int x4), some (.int x5), none] (r.toList ++ []) I' J') I J) (k3 : (¬ ((f_RM_isWatch x1 x2 x3 1 x4) = 0)) → ((f_RM_isDay x5) = 0) → Go G (fr G m_RM_limit (d + 3) P) 20 [none, none, none, none, none, none, none] [] I J) : Go G (fr G m_RM_limit (d + 3) P) 0 [some (.ref 67), some (.int x1), some (.int x2), some (.int x3), some (.int x4), some (.int x5), none] [] I J := by
  refine g_iload_n dc_RM_limit_0 rfl rfl rfl ?_
  refine g_iload_n dc_RM_limit_1 rfl rfl rfl ?_
  refine g_iload_n dc_RM_limit_2 rfl rfl rfl ?_
  refine g_iconst (v := 1) dc_RM_limit_3 rfl (by decide) ?_
  refine g_iload dc_RM_limit_4 rfl rfl ?_
  refine g_callS (M := m_RM_isWatch) (As := [.int x1, .int x2, .int x3, .int 1, .int x4]) (rest := []) ok_RM_isWatch st_RM_isWatch ml_RM_282 rfl rfl (Nat.le_of_ble_eq_true rfl) dc_RM_limit_6 rfl rOk_fr (c_RM_isWatch ?_)
  show Go G (fr G m_RM_limit (d + 3) P) 9 [some (.ref 67), some (.int x1), some (.int x2), some (.int x3), some (.int x4), some (.int x5), none] [.int (f_RM_isWatch x1 x2 x3 1 x4)] I J
  refine g_if_eq (tgt := 20) dc_RM_limit_9 rfl (by decide) (fun c1 => ?_) (fun c1 => ?_)
  · refine g_weak [none, none, none, none, none, none, none] trivial ?_
    exact (k1 c1)
  · refine g_iload dc_RM_limit_12 rfl rfl ?_
    refine g_callS (M := m_RM_isDay) (As := [.int x5]) (rest := []) ok_RM_isDay st_RM_isDay ml_RM_123 rfl rfl (Nat.le_of_ble_eq_true rfl) dc_RM_limit_14 rfl rOk_fr (c_RM_isDay ?_)
    show Go G (fr G m_RM_limit (d + 3) P) 17 [some (.ref 67), some (.int x1), some (.int x2), some (.int x3), some (.int x4), some (.int x5), none] [.int (f_RM_isDay x5)] I J
    refine g_if_ne (tgt := 23) dc_RM_limit_17 rfl (by decide) (fun c2 => ?_) (fun c2 => ?_)
    · refine g_aload_n dc_RM_limit_23 rfl rfl rfl ?_
      refine g_iload_n dc_RM_limit_24 rfl rfl rfl ?_
      refine g_aload_n dc_RM_limit_25 rfl rfl rfl ?_
      refine g_get (C := "LevelBreaksModel") (T := T_RM) (N := 45) (k := 5) (v := .int (I 67 5)) sh_67 (by decide) rfl rfl i_RM (by decide) fl_RM_22 (Or.inl rfl) rfl dc_RM_limit_26 rfl ?_
      refine g_weak [some (.ref 67), none, some (.int x2), some (.int x3), some (.int x4), some (.int x5), none] ⟨rfl, ⟨rfl, ⟨rfl, ⟨rfl, ⟨rfl, trivial⟩⟩⟩⟩⟩ ?_
      exact g_callV (T := T_RM) (N := 45) (As := [.int x1, .int (I 67 5)]) (rest := []) ok_RM_pointsBy in_RM_pointsBy se_RM_pointsBy ml_RM_148 sh_67 (by decide) rfl rfl rfl (Nat.le_of_ble_eq_true rfl) dc_RM_limit_29 rfl rOk_fr (k2 c1 c2)
    · refine g_weak [none, none, none, none, none, none, none] trivial ?_
      exact (k3 c1 c2)
theorem w_RM_limit_20 {G : GC} {d : Nat} {P : PT} {I : MI} {J : MJ}  (q1 : P (some (.int (-2))) I J) : Go G (fr G m_RM_limit (d + 3) P) 20 [none, none, none, none, none, none, none] [] I J := by
  refine g_bipush (v := (-2)) dc_RM_limit_20 rfl (by decide) ?_
  exact g_iret rfl dc_RM_limit_22 q1
theorem w_RM_limit_32 {G : GC} {d : Nat} {P : PT} {I : MI} {J : MJ} {x2 : Int32} {x3 : Int32} {x4 : Int32} {x5 : Int32} (k1 : Go G (fr G m_RM_limit (d + 3) P) 35 [some (.ref 67), none, some (.int x2), some (.int x3), some (.int x4), some (.int x5), some (.int 1)] [] I J) : Go G (fr G m_RM_limit (d + 3) P) 32 [some (.ref 67), none, some (.int x2), some (.int x3), some (.int x4), some (.int x5), none] [] I J := by
  refine g_iconst (v := 1) dc_RM_limit_32 rfl (by decide) ?_
  refine g_istore (L' := [some (.ref 67), none, some (.int x2), some (.int x3), some (.int x4), some (.int x5), some (.int 1)]) dc_RM_limit_33 rfl (Nat.le_of_ble_eq_true rfl) rfl ?_
  exact k1
theorem w_RM_limit_35 {G : GC} {d : Nat} {P : PT} {I : MI} {J : MJ} {x2 : Int32} {x3 : Int32} {x4 : Int32} {x5 : Int32} {x6 : Int32} (q1 : (2000 < x6) → P (some (.int (-1))) I J) (k2 : (¬ (2000 < x6)) → Ct G (d + 2) m_RM_watches [.ref 67, .int x2, .int x3, .int x6, .int x4] (fun r I' J' => Go G (fr G m_RM_limit (d + 3) P) 53 [some (.ref 67), none, some (.int x2), some (.int x3), some (.int x4), some (.int x5), some (.int x6)] (r.toList ++ []) I' J') I J) : Go G (fr G m_RM_limit (d + 3) P) 35 [some (.ref 67), none, some (.int x2), some (.int x3), some (.int x4), some (.int x5), some (.int x6)] [] I J := by
  refine g_iload dc_RM_limit_35 rfl rfl ?_
  refine g_sipush (v := 2000) dc_RM_limit_37 rfl (by decide) ?_
  refine g_ic_gt (tgt := 81) dc_RM_limit_40 rfl (by decide) (fun c1 => ?_) (fun c1 => ?_)
  · refine g_iconst (v := (-1)) dc_RM_limit_81 rfl (by decide) ?_
    exact g_iret rfl dc_RM_limit_82 (q1 c1)
  · refine g_aload_n dc_RM_limit_43 rfl rfl rfl ?_
    refine g_iload_n dc_RM_limit_44 rfl rfl rfl ?_
    refine g_iload_n dc_RM_limit_45 rfl rfl rfl ?_
    refine g_iload dc_RM_limit_46 rfl rfl ?_
    refine g_iload dc_RM_limit_48 rfl rfl ?_
    exact g_callV (T := T_RM) (N := 45) (As := [.int x2, .int x3, .int x6, .int x4]) (rest := []) ok_RM_watches in_RM_watches se_RM_watches ml_RM_286 sh_67 (by decide) rfl rfl rfl (Nat.le_of_ble_eq_true rfl) dc_RM_limit_50 rfl rOk_fr (k2 c1)
theorem w_RM_limit_53 {G : GC} {d : Nat} {P : PT} {I : MI} {J : MJ} {x2 : Int32} {x3 : Int32} {x4 : Int32} {x5 : Int32} {x6 : Int32} (k1 : Ct G (d + 2) m_RM_firstFrom [.ref 67, .int x5] (fun r I' J' => Go G (fr G m_RM_limit (d + 3) P) 59 [some (.ref 67), none, some (.int x2), some (.int x3), some (.int x4), some (.int x5), some (.int x6)] (r.toList ++ []) I' J') I J) : Go G (fr G m_RM_limit (d + 3) P) 53 [some (.ref 67), none, some (.int x2), some (.int x3), some (.int x4), some (.int x5), some (.int x6)] [] I J := by
  refine g_aload_n dc_RM_limit_53 rfl rfl rfl ?_
  refine g_iload dc_RM_limit_54 rfl rfl ?_
  exact g_callV (T := T_RM) (N := 45) (As := [.int x5]) (rest := []) ok_RM_firstFrom in_RM_firstFrom se_RM_firstFrom ml_RM_290 sh_67 (by decide) rfl rfl rfl (Nat.le_of_ble_eq_true rfl) dc_RM_limit_56 rfl rOk_fr k1
theorem w_RM_limit_59 {G : GC} {d : Nat} {P : PT} {I : MI} {J : MJ} {x2 : Int32} {x3 : Int32} {x4 : Int32} {x5 : Int32} {x6 : Int32} {y0 : Int32} (k1 : (y0 = (-1)) → Go G (fr G m_RM_limit (d + 3) P) 75 [some (.ref 67), none, some (.int x2), some (.int x3), some (.int x4), some (.int x5), some (.int x6)] [] I J) (k2 : (¬ (y0 = (-1))) → Ct G (d + 2) m_RM_before [.ref 67, .int x5] (fun r I' J' => Go G (fr G m_RM_limit (d + 3) P) 69 [some (.ref 67), none, some (.int x2), some (.int x3), some (.int x4), some (.int x5), some (.int x6)] (r.toList ++ []) I' J') I J) : Go G (fr G m_RM_limit (d + 3) P) 59 [some (.ref 67), none, some (.int x2), some (.int x3), some (.int x4), some (.int x5), some (.int x6)] [.int y0] I J := by
  refine g_iconst (v := (-1)) dc_RM_limit_59 rfl (by decide) ?_
  refine g_ic_eq (tgt := 75) dc_RM_limit_60 rfl (by decide) (fun c1 => ?_) (fun c1 => ?_)
  · exact (k1 c1)
  · refine g_aload_n dc_RM_limit_63 rfl rfl rfl ?_
    refine g_iload dc_RM_limit_64 rfl rfl ?_
    exact g_callV (T := T_RM) (N := 45) (As := [.int x5]) (rest := []) ok_RM_before in_RM_before se_RM_before ml_RM_293 sh_67 (by decide) rfl rfl rfl (Nat.le_of_ble_eq_true rfl) dc_RM_limit_66 rfl rOk_fr (k2 c1)
theorem w_RM_limit_69 {G : GC} {d : Nat} {P : PT} {I : MI} {J : MJ} {x2 : Int32} {x3 : Int32} {x4 : Int32} {x5 : Int32} {x6 : Int32} {y0 : Int32} (k1 : (¬ y0 = 0) → Go G (fr G m_RM_limit (d + 3) P) 75 [some (.ref 67), none, some (.int x2), some (.int x3), some (.int x4), some (.int x5), some (.int x6)] [] I J) (q2 : (y0 = 0) → P (some (.int x6)) I J) : Go G (fr G m_RM_limit (d + 3) P) 69 [some (.ref 67), none, some (.int x2), some (.int x3), some (.int x4), some (.int x5), some (.int x6)] [.int y0] I J := by
  refine g_if_ne (tgt := 75) dc_RM_limit_69 rfl (by decide) (fun c1 => ?_) (fun c1 => ?_)
  · exact (k1 c1)
  · refine g_iload dc_RM_limit_72 rfl rfl ?_
    exact g_iret rfl dc_RM_limit_74 (q2 c1)
theorem w_RM_limit_75 {G : GC} {d : Nat} {P : PT} {I : MI} {J : MJ} {x2 : Int32} {x3 : Int32} {x4 : Int32} {x5 : Int32} {x6 : Int32} (k1 : Go G (fr G m_RM_limit (d + 3) P) 35 [some (.ref 67), none, some (.int x2), some (.int x3), some (.int x4), some (.int x5), some (.int (x6 + 1))] [] I J) : Go G (fr G m_RM_limit (d + 3) P) 75 [some (.ref 67), none, some (.int x2), some (.int x3), some (.int x4), some (.int x5), some (.int x6)] [] I J := by
  refine g_iinc (v := (x6 + 1)) (L' := [some (.ref 67), none, some (.int x2), some (.int x3), some (.int x4), some (.int x5), some (.int (x6 + 1))]) dc_RM_limit_75 rfl rfl (by rw [show Int32.ofInt 1 = 1 from by decide]) (Nat.le_of_ble_eq_true rfl) rfl ?_
  refine g_goto (tgt := 35) dc_RM_limit_78 (by decide) ?_
  exact k1
theorem dc_RM_lose_0 : decode prog_14_method_74_code 0 = .ok (.iload_n 1, 1) := by decide +kernel
theorem dc_RM_lose_1 : decode prog_14_method_74_code 1 = .ok (.invokestatic 134, 3) := by decide +kernel
theorem dc_RM_lose_4 : decode prog_14_method_74_code 4 = .ok (.ifCond .ne 6, 3) := by decide +kernel
theorem dc_RM_lose_7 : decode prog_14_method_74_code 7 = .ok (.bipush (-2), 2) := by decide +kernel
theorem dc_RM_lose_9 : decode prog_14_method_74_code 9 = .ok (.ireturn, 1) := by decide +kernel
theorem dc_RM_lose_10 : decode prog_14_method_74_code 10 = .ok (.aload_n 0, 1) := by decide +kernel
theorem dc_RM_lose_11 : decode prog_14_method_74_code 11 = .ok (.getfield 97, 3) := by decide +kernel
theorem dc_RM_lose_14 : decode prog_14_method_74_code 14 = .ok (.iload_n 1, 1) := by decide +kernel
theorem dc_RM_lose_15 : decode prog_14_method_74_code 15 = .ok (.baload, 1) := by decide +kernel
theorem dc_RM_lose_16 : decode prog_14_method_74_code 16 = .ok (.ifCond .ne 9, 3) := by decide +kernel
theorem dc_RM_lose_19 : decode prog_14_method_74_code 19 = .ok (.aload_n 0, 1) := by decide +kernel
theorem dc_RM_lose_20 : decode prog_14_method_74_code 20 = .ok (.iconst 1, 1) := by decide +kernel
theorem dc_RM_lose_21 : decode prog_14_method_74_code 21 = .ok (.invokevirtual 137, 3) := by decide +kernel
theorem dc_RM_lose_24 : decode prog_14_method_74_code 24 = .ok (.ireturn, 1) := by decide +kernel
theorem dc_RM_lose_25 : decode prog_14_method_74_code 25 = .ok (.aload_n 0, 1) := by decide +kernel
theorem dc_RM_lose_26 : decode prog_14_method_74_code 26 = .ok (.getfield 97, 3) := by decide +kernel
theorem dc_RM_lose_29 : decode prog_14_method_74_code 29 = .ok (.iload_n 1, 1) := by decide +kernel
theorem dc_RM_lose_30 : decode prog_14_method_74_code 30 = .ok (.iconst 0, 1) := by decide +kernel
theorem dc_RM_lose_31 : decode prog_14_method_74_code 31 = .ok (.bastore, 1) := by decide +kernel
theorem dc_RM_lose_32 : decode prog_14_method_74_code 32 = .ok (.aload_n 0, 1) := by decide +kernel
theorem dc_RM_lose_33 : decode prog_14_method_74_code 33 = .ok (.getfield 103, 3) := by decide +kernel
theorem dc_RM_lose_36 : decode prog_14_method_74_code 36 = .ok (.iload_n 1, 1) := by decide +kernel
theorem dc_RM_lose_37 : decode prog_14_method_74_code 37 = .ok (.iaload, 1) := by decide +kernel
theorem dc_RM_lose_38 : decode prog_14_method_74_code 38 = .ok (.ireturn, 1) := by decide +kernel
theorem w_RM_lose_0 {G : GC} {d : Nat} {P : PT} {I : MI} {J : MJ} {x1 : Int32} (b1 : (¬ (f_RM_isSheet x1) = 0) → vp_in x1 4) (q2 : (¬ (f_RM_isSheet x1) = 0) → (¬ (I 95 x1.toNatClampNeg) = 0) → P (some (.int (I 97 x1.toNatClampNeg))) (u2 I 95 x1.toNatClampNeg 0) J) (k3 : (¬ (f_RM_isSheet x1) = 0) → ((I 95 x1.toNatClampNeg) = 0) → Ct G (d + 1) m_RM_meets [.ref 67, .int 1] (fun r I' J' => Go G (fr G m_RM_lose (d + 2) P) 24 [none, none] (r.toList ++ []) I' J') I J) (q4 : ((f_RM_isSheet x1) = 0) → P (some (.int (-2))) I J) : Go G (fr G m_RM_lose (d + 2) P) 0 [some (.ref 67), some (.int x1)] [] I J := by
  refine g_iload_n dc_RM_lose_0 rfl rfl rfl ?_
  refine g_callS (M := m_RM_isSheet) (As := [.int x1]) (rest := []) ok_RM_isSheet st_RM_isSheet ml_RM_134 rfl rfl (Nat.le_of_ble_eq_true rfl) dc_RM_lose_1 rfl rOk_fr (c_RM_isSheet ?_)
  show Go G (fr G m_RM_lose (d + 2) P) 4 [some (.ref 67), some (.int x1)] [.int (f_RM_isSheet x1)] I J
  refine g_if_ne (tgt := 10) dc_RM_lose_4 rfl (by decide) (fun c1 => ?_) (fun c1 => ?_)
  · refine g_aload_n dc_RM_lose_10 rfl rfl rfl ?_
    refine g_get (C := "LevelBreaksModel") (T := T_RM) (N := 45) (k := 39) (v := .ref 95) sh_67 (by decide) rfl rfl i_RM (by decide) fl_RM_97 (Or.inl rfl) rfl dc_RM_lose_11 rfl ?_
    refine g_iload_n dc_RM_lose_14 rfl rfl rfl ?_
    refine g_zaldv (v := (I 95 x1.toNatClampNeg)) sh_95 (b1 c1) rfl dc_RM_lose_15 rfl ?_
    refine g_if_ne (tgt := 25) dc_RM_lose_16 rfl (by decide) (fun c2 => ?_) (fun c2 => ?_)
    · refine g_aload_n dc_RM_lose_25 rfl rfl rfl ?_
      refine g_get (C := "LevelBreaksModel") (T := T_RM) (N := 45) (k := 39) (v := .ref 95) sh_67 (by decide) rfl rfl i_RM (by decide) fl_RM_97 (Or.inl rfl) rfl dc_RM_lose_26 rfl ?_
      refine g_iload_n dc_RM_lose_29 rfl rfl rfl ?_
      refine g_iconst (v := 0) dc_RM_lose_30 rfl (by decide) ?_
      refine g_zast sh_95 (b1 c1) (by decide) dc_RM_lose_31 rfl ?_
      refine g_aload_n dc_RM_lose_32 rfl rfl rfl ?_
      refine g_get (C := "LevelBreaksModel") (T := T_RM) (N := 45) (k := 41) (v := .ref 97) sh_67 (by decide) rfl rfl i_RM (by decide) fl_RM_103 (Or.inl rfl) rfl dc_RM_lose_33 rfl ?_
      refine g_iload_n dc_RM_lose_36 rfl rfl rfl ?_
      refine g_ialdv (v := (I 97 x1.toNatClampNeg)) sh_97 (b1 c1) rfl dc_RM_lose_37 rfl ?_
      exact g_iret rfl dc_RM_lose_38 (q2 c1 c2)
    · refine g_aload_n dc_RM_lose_19 rfl rfl rfl ?_
      refine g_iconst (v := 1) dc_RM_lose_20 rfl (by decide) ?_
      refine g_weak [none, none] trivial ?_
      exact g_callV (T := T_RM) (N := 45) (As := [.int 1]) (rest := []) ok_RM_meets in_RM_meets se_RM_meets ml_RM_137 sh_67 (by decide) rfl rfl rfl (Nat.le_of_ble_eq_true rfl) dc_RM_lose_21 rfl rOk_fr (k3 c1 c2)
  · refine g_bipush (v := (-2)) dc_RM_lose_7 rfl (by decide) ?_
    exact g_iret rfl dc_RM_lose_9 (q4 c1)
theorem w_RM_lose_24 {G : GC} {d : Nat} {P : PT} {I : MI} {J : MJ} {y0 : Int32} (q1 : P (some (.int y0)) I J) : Go G (fr G m_RM_lose (d + 2) P) 24 [none, none] [.int y0] I J := by
  exact g_iret rfl dc_RM_lose_24 q1
theorem dc_RM_many_0 : decode prog_14_method_17_code 0 = .ok (.iload_n 1, 1) := by decide +kernel
theorem dc_RM_many_1 : decode prog_14_method_17_code 1 = .ok (.invokestatic 119, 3) := by decide +kernel
theorem dc_RM_many_4 : decode prog_14_method_17_code 4 = .ok (.ifCond .eq 11, 3) := by decide +kernel
theorem dc_RM_many_7 : decode prog_14_method_17_code 7 = .ok (.aload_n 0, 1) := by decide +kernel
theorem dc_RM_many_8 : decode prog_14_method_17_code 8 = .ok (.iload_n 1, 1) := by decide +kernel
theorem dc_RM_many_9 : decode prog_14_method_17_code 9 = .ok (.invokevirtual 152, 3) := by decide +kernel
theorem dc_RM_many_12 : decode prog_14_method_17_code 12 = .ok (.goto 5, 3) := by decide +kernel
theorem dc_RM_many_15 : decode prog_14_method_17_code 15 = .ok (.bipush (-2), 2) := by decide +kernel
theorem dc_RM_many_17 : decode prog_14_method_17_code 17 = .ok (.ireturn, 1) := by decide +kernel
theorem w_RM_many_0 {G : GC} {d : Nat} {P : PT} {I : MI} {J : MJ} {x1 : Int32} (q1 : ((f_RM_isRow x1) = 0) → P (some (.int (-2))) I J) (k2 : (¬ ((f_RM_isRow x1) = 0)) → Ct G (d + 1) m_RM_manyOf [.ref 67, .int x1] (fun r I' J' => Go G (fr G m_RM_many (d + 2) P) 12 [none, none] (r.toList ++ []) I' J') I J) : Go G (fr G m_RM_many (d + 2) P) 0 [some (.ref 67), some (.int x1)] [] I J := by
  refine g_iload_n dc_RM_many_0 rfl rfl rfl ?_
  refine g_callS (M := m_RM_isRow) (As := [.int x1]) (rest := []) ok_RM_isRow st_RM_isRow ml_RM_119 rfl rfl (Nat.le_of_ble_eq_true rfl) dc_RM_many_1 rfl rOk_fr (c_RM_isRow ?_)
  show Go G (fr G m_RM_many (d + 2) P) 4 [some (.ref 67), some (.int x1)] [.int (f_RM_isRow x1)] I J
  refine g_if_eq (tgt := 15) dc_RM_many_4 rfl (by decide) (fun c1 => ?_) (fun c1 => ?_)
  · refine g_bipush (v := (-2)) dc_RM_many_15 rfl (by decide) ?_
    exact g_iret rfl dc_RM_many_17 (q1 c1)
  · refine g_aload_n dc_RM_many_7 rfl rfl rfl ?_
    refine g_iload_n dc_RM_many_8 rfl rfl rfl ?_
    refine g_weak [none, none] trivial ?_
    exact g_callV (T := T_RM) (N := 45) (As := [.int x1]) (rest := []) ok_RM_manyOf in_RM_manyOf se_RM_manyOf ml_RM_152 sh_67 (by decide) rfl rfl rfl (Nat.le_of_ble_eq_true rfl) dc_RM_many_9 rfl rOk_fr (k2 c1)
theorem w_RM_many_12 {G : GC} {d : Nat} {P : PT} {I : MI} {J : MJ} {y0 : Int32} (q1 : P (some (.int y0)) I J) : Go G (fr G m_RM_many (d + 2) P) 12 [none, none] [.int y0] I J := by
  refine g_goto (tgt := 17) dc_RM_many_12 (by decide) ?_
  exact g_iret rfl dc_RM_many_17 q1
theorem dc_RM_manyOf_0 : decode prog_14_method_16_code 0 = .ok (.aload_n 0, 1) := by decide +kernel
theorem dc_RM_manyOf_1 : decode prog_14_method_16_code 1 = .ok (.iload_n 1, 1) := by decide +kernel
theorem dc_RM_manyOf_2 : decode prog_14_method_16_code 2 = .ok (.aload_n 0, 1) := by decide +kernel
theorem dc_RM_manyOf_3 : decode prog_14_method_16_code 3 = .ok (.getfield 22, 3) := by decide +kernel
theorem dc_RM_manyOf_6 : decode prog_14_method_16_code 6 = .ok (.invokevirtual 148, 3) := by decide +kernel
theorem dc_RM_manyOf_9 : decode prog_14_method_16_code 9 = .ok (.aload_n 0, 1) := by decide +kernel
theorem dc_RM_manyOf_10 : decode prog_14_method_16_code 10 = .ok (.getfield 145, 3) := by decide +kernel
theorem dc_RM_manyOf_13 : decode prog_14_method_16_code 13 = .ok (.ireturn, 1) := by decide +kernel
theorem w_RM_manyOf_0 {G : GC} {d : Nat} {P : PT} {I : MI} {J : MJ} {x1 : Int32} (k1 : Ct G d m_RM_pointsBy [.ref 67, .int x1, .int (I 67 5)] (fun r I' J' => Go G (fr G m_RM_manyOf (d + 1) P) 9 [some (.ref 67), none] (r.toList ++ []) I' J') I J) : Go G (fr G m_RM_manyOf (d + 1) P) 0 [some (.ref 67), some (.int x1)] [] I J := by
  refine g_aload_n dc_RM_manyOf_0 rfl rfl rfl ?_
  refine g_iload_n dc_RM_manyOf_1 rfl rfl rfl ?_
  refine g_aload_n dc_RM_manyOf_2 rfl rfl rfl ?_
  refine g_get (C := "LevelBreaksModel") (T := T_RM) (N := 45) (k := 5) (v := .int (I 67 5)) sh_67 (by decide) rfl rfl i_RM (by decide) fl_RM_22 (Or.inl rfl) rfl dc_RM_manyOf_3 rfl ?_
  refine g_weak [some (.ref 67), none] ⟨rfl, trivial⟩ ?_
  exact g_callV (T := T_RM) (N := 45) (As := [.int x1, .int (I 67 5)]) (rest := []) ok_RM_pointsBy in_RM_pointsBy se_RM_pointsBy ml_RM_148 sh_67 (by decide) rfl rfl rfl (Nat.le_of_ble_eq_true rfl) dc_RM_manyOf_6 rfl rOk_fr k1
theorem w_RM_manyOf_9 {G : GC} {d : Nat} {P : PT} {I : MI} {J : MJ}  (q1 : P (some (.int (I 67 7))) I J) : Go G (fr G m_RM_manyOf (d + 1) P) 9 [some (.ref 67), none] [] I J := by
  refine g_aload_n dc_RM_manyOf_9 rfl rfl rfl ?_
  refine g_get (C := "LevelBreaksModel") (T := T_RM) (N := 45) (k := 7) (v := .int (I 67 7)) sh_67 (by decide) rfl rfl i_RM (by decide) fl_RM_145 (Or.inl rfl) rfl dc_RM_manyOf_10 rfl ?_
  exact g_iret rfl dc_RM_manyOf_13 q1
theorem dc_RM_meets_0 : decode prog_14_method_71_code 0 = .ok (.aload_n 0, 1) := by decide +kernel
theorem dc_RM_meets_1 : decode prog_14_method_71_code 1 = .ok (.iload_n 1, 1) := by decide +kernel
theorem dc_RM_meets_2 : decode prog_14_method_71_code 2 = .ok (.putfield 324, 3) := by decide +kernel
theorem dc_RM_meets_5 : decode prog_14_method_71_code 5 = .ok (.bipush (-10), 2) := by decide +kernel
theorem dc_RM_meets_7 : decode prog_14_method_71_code 7 = .ok (.iload_n 1, 1) := by decide +kernel
theorem dc_RM_meets_8 : decode prog_14_method_71_code 8 = .ok (.isub, 1) := by decide +kernel
theorem dc_RM_meets_9 : decode prog_14_method_71_code 9 = .ok (.ireturn, 1) := by decide +kernel
theorem w_RM_meets_0 {G : GC} {d : Nat} {P : PT} {I : MI} {J : MJ} {x1 : Int32} (q1 : P (some (.int ((-10) - x1))) (u2 I 67 44 x1) J) : Go G (fr G m_RM_meets d P) 0 [some (.ref 67), some (.int x1)] [] I J := by
  refine g_aload_n dc_RM_meets_0 rfl rfl rfl ?_
  refine g_iload_n dc_RM_meets_1 rfl rfl rfl ?_
  refine g_putI (C := "LevelBreaksModel") (T := T_RM) (N := 45) (k := 44) (ty := t_RM) sh_67 (by decide) rfl rfl i_RM p_RM n_RM (by decide) fl_RM_324 (Or.inl rfl) rfl (by decide) dc_RM_meets_2 rfl ?_
  refine g_bipush (v := (-10)) dc_RM_meets_5 rfl (by decide) ?_
  refine g_iload_n dc_RM_meets_7 rfl rfl rfl ?_
  refine g_isub dc_RM_meets_8 rfl ?_
  exact g_iret rfl dc_RM_meets_9 q1
theorem dc_RM_missed_0 : decode prog_14_method_70_code 0 = .ok (.iload_n 1, 1) := by decide +kernel
theorem dc_RM_missed_1 : decode prog_14_method_70_code 1 = .ok (.invokestatic 119, 3) := by decide +kernel
theorem dc_RM_missed_4 : decode prog_14_method_70_code 4 = .ok (.ifCond .eq 12, 3) := by decide +kernel
theorem dc_RM_missed_7 : decode prog_14_method_70_code 7 = .ok (.iload_n 2, 1) := by decide +kernel
theorem dc_RM_missed_8 : decode prog_14_method_70_code 8 = .ok (.iconst 0, 1) := by decide +kernel
theorem dc_RM_missed_9 : decode prog_14_method_70_code 9 = .ok (.iconst 1, 1) := by decide +kernel
theorem dc_RM_missed_10 : decode prog_14_method_70_code 10 = .ok (.invokestatic 112, 3) := by decide +kernel
theorem dc_RM_missed_13 : decode prog_14_method_70_code 13 = .ok (.ifCond .ne 6, 3) := by decide +kernel
theorem dc_RM_missed_16 : decode prog_14_method_70_code 16 = .ok (.bipush (-2), 2) := by decide +kernel
theorem dc_RM_missed_18 : decode prog_14_method_70_code 18 = .ok (.ireturn, 1) := by decide +kernel
theorem dc_RM_missed_19 : decode prog_14_method_70_code 19 = .ok (.aload_n 0, 1) := by decide +kernel
theorem dc_RM_missed_20 : decode prog_14_method_70_code 20 = .ok (.invokevirtual 318, 3) := by decide +kernel
theorem dc_RM_missed_23 : decode prog_14_method_70_code 23 = .ok (.iconst (-1), 1) := by decide +kernel
theorem dc_RM_missed_24 : decode prog_14_method_70_code 24 = .ok (.if_icmp .eq 6, 3) := by decide +kernel
theorem dc_RM_missed_27 : decode prog_14_method_70_code 27 = .ok (.bipush (-3), 2) := by decide +kernel
theorem dc_RM_missed_29 : decode prog_14_method_70_code 29 = .ok (.ireturn, 1) := by decide +kernel
theorem dc_RM_missed_30 : decode prog_14_method_70_code 30 = .ok (.aload_n 0, 1) := by decide +kernel
theorem dc_RM_missed_31 : decode prog_14_method_70_code 31 = .ok (.iload_n 1, 1) := by decide +kernel
theorem dc_RM_missed_32 : decode prog_14_method_70_code 32 = .ok (.aload_n 0, 1) := by decide +kernel
theorem dc_RM_missed_33 : decode prog_14_method_70_code 33 = .ok (.getfield 22, 3) := by decide +kernel
theorem dc_RM_missed_36 : decode prog_14_method_70_code 36 = .ok (.invokevirtual 148, 3) := by decide +kernel
theorem dc_RM_missed_39 : decode prog_14_method_70_code 39 = .ok (.iconst 0, 1) := by decide +kernel
theorem dc_RM_missed_40 : decode prog_14_method_70_code 40 = .ok (.istore_n 3, 1) := by decide +kernel
theorem dc_RM_missed_41 : decode prog_14_method_70_code 41 = .ok (.iconst 0, 1) := by decide +kernel
theorem dc_RM_missed_42 : decode prog_14_method_70_code 42 = .ok (.istore 4, 2) := by decide +kernel
theorem dc_RM_missed_44 : decode prog_14_method_70_code 44 = .ok (.iconst (-1), 1) := by decide +kernel
theorem dc_RM_missed_45 : decode prog_14_method_70_code 45 = .ok (.istore 5, 2) := by decide +kernel
theorem dc_RM_missed_47 : decode prog_14_method_70_code 47 = .ok (.iconst 0, 1) := by decide +kernel
theorem dc_RM_missed_48 : decode prog_14_method_70_code 48 = .ok (.istore 6, 2) := by decide +kernel
theorem dc_RM_missed_50 : decode prog_14_method_70_code 50 = .ok (.iload 6, 2) := by decide +kernel
theorem dc_RM_missed_52 : decode prog_14_method_70_code 52 = .ok (.aload_n 0, 1) := by decide +kernel
theorem dc_RM_missed_53 : decode prog_14_method_70_code 53 = .ok (.getfield 145, 3) := by decide +kernel
theorem dc_RM_missed_56 : decode prog_14_method_70_code 56 = .ok (.if_icmp .ge 59, 3) := by decide +kernel
theorem dc_RM_missed_59 : decode prog_14_method_70_code 59 = .ok (.aload_n 0, 1) := by decide +kernel
theorem dc_RM_missed_60 : decode prog_14_method_70_code 60 = .ok (.iload 6, 2) := by decide +kernel
theorem dc_RM_missed_62 : decode prog_14_method_70_code 62 = .ok (.invokevirtual 321, 3) := by decide +kernel
theorem dc_RM_missed_65 : decode prog_14_method_70_code 65 = .ok (.istore 7, 2) := by decide +kernel
theorem dc_RM_missed_67 : decode prog_14_method_70_code 67 = .ok (.iload_n 3, 1) := by decide +kernel
theorem dc_RM_missed_68 : decode prog_14_method_70_code 68 = .ok (.iload 7, 2) := by decide +kernel
theorem dc_RM_missed_70 : decode prog_14_method_70_code 70 = .ok (.iadd, 1) := by decide +kernel
theorem dc_RM_missed_71 : decode prog_14_method_70_code 71 = .ok (.istore_n 3, 1) := by decide +kernel
theorem dc_RM_missed_72 : decode prog_14_method_70_code 72 = .ok (.iload 7, 2) := by decide +kernel
theorem dc_RM_missed_74 : decode prog_14_method_70_code 74 = .ok (.iload 4, 2) := by decide +kernel
theorem dc_RM_missed_76 : decode prog_14_method_70_code 76 = .ok (.if_icmp .le 13, 3) := by decide +kernel
theorem dc_RM_missed_79 : decode prog_14_method_70_code 79 = .ok (.aload_n 0, 1) := by decide +kernel
theorem dc_RM_missed_80 : decode prog_14_method_70_code 80 = .ok (.getfield 32, 3) := by decide +kernel
theorem dc_RM_missed_83 : decode prog_14_method_70_code 83 = .ok (.iload 6, 2) := by decide +kernel
theorem dc_RM_missed_85 : decode prog_14_method_70_code 85 = .ok (.iaload, 1) := by decide +kernel
theorem dc_RM_missed_86 : decode prog_14_method_70_code 86 = .ok (.goto 5, 3) := by decide +kernel
theorem dc_RM_missed_89 : decode prog_14_method_70_code 89 = .ok (.iload 5, 2) := by decide +kernel
theorem dc_RM_missed_91 : decode prog_14_method_70_code 91 = .ok (.istore 5, 2) := by decide +kernel
theorem dc_RM_missed_93 : decode prog_14_method_70_code 93 = .ok (.iload 7, 2) := by decide +kernel
theorem dc_RM_missed_95 : decode prog_14_method_70_code 95 = .ok (.iload 4, 2) := by decide +kernel
theorem dc_RM_missed_97 : decode prog_14_method_70_code 97 = .ok (.if_icmp .le 8, 3) := by decide +kernel
theorem dc_RM_missed_100 : decode prog_14_method_70_code 100 = .ok (.iload 7, 2) := by decide +kernel
theorem dc_RM_missed_102 : decode prog_14_method_70_code 102 = .ok (.goto 5, 3) := by decide +kernel
theorem dc_RM_missed_105 : decode prog_14_method_70_code 105 = .ok (.iload 4, 2) := by decide +kernel
theorem dc_RM_missed_107 : decode prog_14_method_70_code 107 = .ok (.istore 4, 2) := by decide +kernel
theorem dc_RM_missed_109 : decode prog_14_method_70_code 109 = .ok (.iinc 6 1, 3) := by decide +kernel
theorem dc_RM_missed_112 : decode prog_14_method_70_code 112 = .ok (.goto (-62), 3) := by decide +kernel
theorem dc_RM_missed_115 : decode prog_14_method_70_code 115 = .ok (.iload_n 2, 1) := by decide +kernel
theorem dc_RM_missed_116 : decode prog_14_method_70_code 116 = .ok (.ifCond .ne 7, 3) := by decide +kernel
theorem dc_RM_missed_119 : decode prog_14_method_70_code 119 = .ok (.iload_n 3, 1) := by decide +kernel
theorem dc_RM_missed_120 : decode prog_14_method_70_code 120 = .ok (.goto 5, 3) := by decide +kernel
theorem dc_RM_missed_123 : decode prog_14_method_70_code 123 = .ok (.iload 5, 2) := by decide +kernel
theorem dc_RM_missed_125 : decode prog_14_method_70_code 125 = .ok (.ireturn, 1) := by decide +kernel
theorem w_RM_missed_0 {G : GC} {d : Nat} {P : PT} {I : MI} {J : MJ} {x1 : Int32} {x2 : Int32} (k1 : ((f_RM_isRow x1) = 0) → Go G (fr G m_RM_missed (d + 4) P) 16 [none, none, none, none, none, none, none, none] [] I J) (k2 : (¬ ((f_RM_isRow x1) = 0)) → (¬ (f_RM_in x2 0 1) = 0) → Ct G (d + 3) m_RM_faultNow [.ref 67] (fun r I' J' => Go G (fr G m_RM_missed (d + 4) P) 23 [some (.ref 67), some (.int x1), some (.int x2), none, none, none, none, none] (r.toList ++ []) I' J') I J) (k3 : (¬ ((f_RM_isRow x1) = 0)) → ((f_RM_in x2 0 1) = 0) → Go G (fr G m_RM_missed (d + 4) P) 16 [none, none, none, none, none, none, none, none] [] I J) : Go G (fr G m_RM_missed (d + 4) P) 0 [some (.ref 67), some (.int x1), some (.int x2), none, none, none, none, none] [] I J := by
  refine g_iload_n dc_RM_missed_0 rfl rfl rfl ?_
  refine g_callS (M := m_RM_isRow) (As := [.int x1]) (rest := []) ok_RM_isRow st_RM_isRow ml_RM_119 rfl rfl (Nat.le_of_ble_eq_true rfl) dc_RM_missed_1 rfl rOk_fr (c_RM_isRow ?_)
  show Go G (fr G m_RM_missed (d + 4) P) 4 [some (.ref 67), some (.int x1), some (.int x2), none, none, none, none, none] [.int (f_RM_isRow x1)] I J
  refine g_if_eq (tgt := 16) dc_RM_missed_4 rfl (by decide) (fun c1 => ?_) (fun c1 => ?_)
  · refine g_weak [none, none, none, none, none, none, none, none] trivial ?_
    exact (k1 c1)
  · refine g_iload_n dc_RM_missed_7 rfl rfl rfl ?_
    refine g_iconst (v := 0) dc_RM_missed_8 rfl (by decide) ?_
    refine g_iconst (v := 1) dc_RM_missed_9 rfl (by decide) ?_
    refine g_callS (M := m_RM_in) (As := [.int x2, .int 0, .int 1]) (rest := []) ok_RM_in st_RM_in ml_RM_112 rfl rfl (Nat.le_of_ble_eq_true rfl) dc_RM_missed_10 rfl rOk_fr (c_RM_in ?_)
    show Go G (fr G m_RM_missed (d + 4) P) 13 [some (.ref 67), some (.int x1), some (.int x2), none, none, none, none, none] [.int (f_RM_in x2 0 1)] I J
    refine g_if_ne (tgt := 19) dc_RM_missed_13 rfl (by decide) (fun c2 => ?_) (fun c2 => ?_)
    · refine g_aload_n dc_RM_missed_19 rfl rfl rfl ?_
      exact g_callV (T := T_RM) (N := 45) (As := []) (rest := []) ok_RM_faultNow in_RM_faultNow se_RM_faultNow ml_RM_318 sh_67 (by decide) rfl rfl rfl (Nat.le_of_ble_eq_true rfl) dc_RM_missed_20 rfl rOk_fr (k2 c1 c2)
    · refine g_weak [none, none, none, none, none, none, none, none] trivial ?_
      exact (k3 c1 c2)
theorem w_RM_missed_16 {G : GC} {d : Nat} {P : PT} {I : MI} {J : MJ}  (q1 : P (some (.int (-2))) I J) : Go G (fr G m_RM_missed (d + 4) P) 16 [none, none, none, none, none, none, none, none] [] I J := by
  refine g_bipush (v := (-2)) dc_RM_missed_16 rfl (by decide) ?_
  exact g_iret rfl dc_RM_missed_18 q1
theorem w_RM_missed_23 {G : GC} {d : Nat} {P : PT} {I : MI} {J : MJ} {x1 : Int32} {x2 : Int32} {y0 : Int32} (k1 : (y0 = (-1)) → Ct G (d + 3) m_RM_pointsBy [.ref 67, .int x1, .int (I 67 5)] (fun r I' J' => Go G (fr G m_RM_missed (d + 4) P) 39 [some (.ref 67), none, some (.int x2), none, none, none, none, none] (r.toList ++ []) I' J') I J) (q2 : (¬ (y0 = (-1))) → P (some (.int (-3))) I J) : Go G (fr G m_RM_missed (d + 4) P) 23 [some (.ref 67), some (.int x1), some (.int x2), none, none, none, none, none] [.int y0] I J := by
  refine g_iconst (v := (-1)) dc_RM_missed_23 rfl (by decide) ?_
  refine g_ic_eq (tgt := 30) dc_RM_missed_24 rfl (by decide) (fun c1 => ?_) (fun c1 => ?_)
  · refine g_aload_n dc_RM_missed_30 rfl rfl rfl ?_
    refine g_iload_n dc_RM_missed_31 rfl rfl rfl ?_
    refine g_aload_n dc_RM_missed_32 rfl rfl rfl ?_
    refine g_get (C := "LevelBreaksModel") (T := T_RM) (N := 45) (k := 5) (v := .int (I 67 5)) sh_67 (by decide) rfl rfl i_RM (by decide) fl_RM_22 (Or.inl rfl) rfl dc_RM_missed_33 rfl ?_
    refine g_weak [some (.ref 67), none, some (.int x2), none, none, none, none, none] ⟨rfl, ⟨rfl, trivial⟩⟩ ?_
    exact g_callV (T := T_RM) (N := 45) (As := [.int x1, .int (I 67 5)]) (rest := []) ok_RM_pointsBy in_RM_pointsBy se_RM_pointsBy ml_RM_148 sh_67 (by decide) rfl rfl rfl (Nat.le_of_ble_eq_true rfl) dc_RM_missed_36 rfl rOk_fr (k1 c1)
  · refine g_bipush (v := (-3)) dc_RM_missed_27 rfl (by decide) ?_
    exact g_iret rfl dc_RM_missed_29 (q2 c1)
theorem w_RM_missed_39 {G : GC} {d : Nat} {P : PT} {I : MI} {J : MJ} {x2 : Int32} (k1 : Go G (fr G m_RM_missed (d + 4) P) 50 [some (.ref 67), none, some (.int x2), some (.int 0), some (.int 0), some (.int (-1)), some (.int 0), none] [] I J) : Go G (fr G m_RM_missed (d + 4) P) 39 [some (.ref 67), none, some (.int x2), none, none, none, none, none] [] I J := by
  refine g_iconst (v := 0) dc_RM_missed_39 rfl (by decide) ?_
  refine g_istore_n (L' := [some (.ref 67), none, some (.int x2), some (.int 0), none, none, none, none]) dc_RM_missed_40 rfl rfl (Nat.le_of_ble_eq_true rfl) rfl ?_
  refine g_iconst (v := 0) dc_RM_missed_41 rfl (by decide) ?_
  refine g_istore (L' := [some (.ref 67), none, some (.int x2), some (.int 0), some (.int 0), none, none, none]) dc_RM_missed_42 rfl (Nat.le_of_ble_eq_true rfl) rfl ?_
  refine g_iconst (v := (-1)) dc_RM_missed_44 rfl (by decide) ?_
  refine g_istore (L' := [some (.ref 67), none, some (.int x2), some (.int 0), some (.int 0), some (.int (-1)), none, none]) dc_RM_missed_45 rfl (Nat.le_of_ble_eq_true rfl) rfl ?_
  refine g_iconst (v := 0) dc_RM_missed_47 rfl (by decide) ?_
  refine g_istore (L' := [some (.ref 67), none, some (.int x2), some (.int 0), some (.int 0), some (.int (-1)), some (.int 0), none]) dc_RM_missed_48 rfl (Nat.le_of_ble_eq_true rfl) rfl ?_
  exact k1
theorem w_RM_missed_50 {G : GC} {d : Nat} {P : PT} {I : MI} {J : MJ} {x2 : Int32} {x3 : Int32} {x4 : Int32} {x5 : Int32} {x6 : Int32} (q1 : ((I 67 7) ≤ x6) → (¬ x2 = 0) → P (some (.int x5)) I J) (q2 : ((I 67 7) ≤ x6) → (x2 = 0) → P (some (.int x3)) I J) (k3 : (¬ ((I 67 7) ≤ x6)) → Ct G (d + 3) m_RM_offOn [.ref 67, .int x6] (fun r I' J' => Go G (fr G m_RM_missed (d + 4) P) 65 [some (.ref 67), none, some (.int x2), some (.int x3), some (.int x4), some (.int x5), some (.int x6), none] (r.toList ++ []) I' J') I J) : Go G (fr G m_RM_missed (d + 4) P) 50 [some (.ref 67), none, some (.int x2), some (.int x3), some (.int x4), some (.int x5), some (.int x6), none] [] I J := by
  refine g_iload dc_RM_missed_50 rfl rfl ?_
  refine g_aload_n dc_RM_missed_52 rfl rfl rfl ?_
  refine g_get (C := "LevelBreaksModel") (T := T_RM) (N := 45) (k := 7) (v := .int (I 67 7)) sh_67 (by decide) rfl rfl i_RM (by decide) fl_RM_145 (Or.inl rfl) rfl dc_RM_missed_53 rfl ?_
  refine g_ic_ge (tgt := 115) dc_RM_missed_56 rfl (by decide) (fun c1 => ?_) (fun c1 => ?_)
  · refine g_iload_n dc_RM_missed_115 rfl rfl rfl ?_
    refine g_if_ne (tgt := 123) dc_RM_missed_116 rfl (by decide) (fun c2 => ?_) (fun c2 => ?_)
    · refine g_iload dc_RM_missed_123 rfl rfl ?_
      exact g_iret rfl dc_RM_missed_125 (q1 c1 c2)
    · refine g_iload_n dc_RM_missed_119 rfl rfl rfl ?_
      refine g_goto (tgt := 125) dc_RM_missed_120 (by decide) ?_
      exact g_iret rfl dc_RM_missed_125 (q2 c1 c2)
  · refine g_aload_n dc_RM_missed_59 rfl rfl rfl ?_
    refine g_iload dc_RM_missed_60 rfl rfl ?_
    exact g_callV (T := T_RM) (N := 45) (As := [.int x6]) (rest := []) ok_RM_offOn in_RM_offOn se_RM_offOn ml_RM_321 sh_67 (by decide) rfl rfl rfl (Nat.le_of_ble_eq_true rfl) dc_RM_missed_62 rfl rOk_fr (k3 c1)
theorem w_RM_missed_65 {G : GC} {d : Nat} {P : PT} {I : MI} {J : MJ} {x2 : Int32} {x3 : Int32} {x4 : Int32} {x5 : Int32} {x6 : Int32} {y0 : Int32} (k1 : (y0 ≤ x4) → Go G (fr G m_RM_missed (d + 4) P) 91 [some (.ref 67), none, some (.int x2), some (.int (x3 + y0)), some (.int x4), none, some (.int x6), some (.int y0)] [.int x5] I J) (b2 : (¬ (y0 ≤ x4)) → vp_in x6 40) (k3 : (¬ (y0 ≤ x4)) → Go G (fr G m_RM_missed (d + 4) P) 91 [some (.ref 67), none, some (.int x2), some (.int (x3 + y0)), some (.int x4), none, some (.int x6), some (.int y0)] [.int (I 74 x6.toNatClampNeg)] I J) : Go G (fr G m_RM_missed (d + 4) P) 65 [some (.ref 67), none, some (.int x2), some (.int x3), some (.int x4), some (.int x5), some (.int x6), none] [.int y0] I J := by
  refine g_istore (L' := [some (.ref 67), none, some (.int x2), some (.int x3), some (.int x4), some (.int x5), some (.int x6), some (.int y0)]) dc_RM_missed_65 rfl (Nat.le_of_ble_eq_true rfl) rfl ?_
  refine g_iload_n dc_RM_missed_67 rfl rfl rfl ?_
  refine g_iload dc_RM_missed_68 rfl rfl ?_
  refine g_iadd dc_RM_missed_70 rfl ?_
  refine g_istore_n (L' := [some (.ref 67), none, some (.int x2), some (.int (x3 + y0)), some (.int x4), some (.int x5), some (.int x6), some (.int y0)]) dc_RM_missed_71 rfl rfl (Nat.le_of_ble_eq_true rfl) rfl ?_
  refine g_iload dc_RM_missed_72 rfl rfl ?_
  refine g_iload dc_RM_missed_74 rfl rfl ?_
  refine g_ic_le (tgt := 89) dc_RM_missed_76 rfl (by decide) (fun c1 => ?_) (fun c1 => ?_)
  · refine g_iload dc_RM_missed_89 rfl rfl ?_
    refine g_weak [some (.ref 67), none, some (.int x2), some (.int (x3 + y0)), some (.int x4), none, some (.int x6), some (.int y0)] ⟨rfl, ⟨rfl, ⟨rfl, ⟨rfl, ⟨rfl, ⟨rfl, trivial⟩⟩⟩⟩⟩⟩ ?_
    exact (k1 c1)
  · refine g_aload_n dc_RM_missed_79 rfl rfl rfl ?_
    refine g_get (C := "LevelBreaksModel") (T := T_RM) (N := 45) (k := 9) (v := .ref 74) sh_67 (by decide) rfl rfl i_RM (by decide) fl_RM_32 (Or.inl rfl) rfl dc_RM_missed_80 rfl ?_
    refine g_iload dc_RM_missed_83 rfl rfl ?_
    refine g_ialdv (v := (I 74 x6.toNatClampNeg)) sh_74 (b2 c1) rfl dc_RM_missed_85 rfl ?_
    refine g_goto (tgt := 91) dc_RM_missed_86 (by decide) ?_
    refine g_weak [some (.ref 67), none, some (.int x2), some (.int (x3 + y0)), some (.int x4), none, some (.int x6), some (.int y0)] ⟨rfl, ⟨rfl, ⟨rfl, ⟨rfl, ⟨rfl, ⟨rfl, trivial⟩⟩⟩⟩⟩⟩ ?_
    exact (k3 c1)
theorem w_RM_missed_91 {G : GC} {d : Nat} {P : PT} {I : MI} {J : MJ} {x2 : Int32} {x3 : Int32} {x4 : Int32} {x6 : Int32} {x7 : Int32} {y0 : Int32} (k1 : (x7 ≤ x4) → Go G (fr G m_RM_missed (d + 4) P) 107 [some (.ref 67), none, some (.int x2), some (.int x3), none, some (.int y0), some (.int x6), none] [.int x4] I J) (k2 : (¬ (x7 ≤ x4)) → Go G (fr G m_RM_missed (d + 4) P) 107 [some (.ref 67), none, some (.int x2), some (.int x3), none, some (.int y0), some (.int x6), none] [.int x7] I J) : Go G (fr G m_RM_missed (d + 4) P) 91 [some (.ref 67), none, some (.int x2), some (.int x3), some (.int x4), none, some (.int x6), some (.int x7)] [.int y0] I J := by
  refine g_istore (L' := [some (.ref 67), none, some (.int x2), some (.int x3), some (.int x4), some (.int y0), some (.int x6), some (.int x7)]) dc_RM_missed_91 rfl (Nat.le_of_ble_eq_true rfl) rfl ?_
  refine g_iload dc_RM_missed_93 rfl rfl ?_
  refine g_iload dc_RM_missed_95 rfl rfl ?_
  refine g_ic_le (tgt := 105) dc_RM_missed_97 rfl (by decide) (fun c1 => ?_) (fun c1 => ?_)
  · refine g_iload dc_RM_missed_105 rfl rfl ?_
    refine g_weak [some (.ref 67), none, some (.int x2), some (.int x3), none, some (.int y0), some (.int x6), none] ⟨rfl, ⟨rfl, ⟨rfl, ⟨rfl, ⟨rfl, trivial⟩⟩⟩⟩⟩ ?_
    exact (k1 c1)
  · refine g_iload dc_RM_missed_100 rfl rfl ?_
    refine g_goto (tgt := 107) dc_RM_missed_102 (by decide) ?_
    refine g_weak [some (.ref 67), none, some (.int x2), some (.int x3), none, some (.int y0), some (.int x6), none] ⟨rfl, ⟨rfl, ⟨rfl, ⟨rfl, ⟨rfl, trivial⟩⟩⟩⟩⟩ ?_
    exact (k2 c1)
theorem w_RM_missed_107 {G : GC} {d : Nat} {P : PT} {I : MI} {J : MJ} {x2 : Int32} {x3 : Int32} {x5 : Int32} {x6 : Int32} {y0 : Int32} (k1 : Go G (fr G m_RM_missed (d + 4) P) 50 [some (.ref 67), none, some (.int x2), some (.int x3), some (.int y0), some (.int x5), some (.int (x6 + 1)), none] [] I J) : Go G (fr G m_RM_missed (d + 4) P) 107 [some (.ref 67), none, some (.int x2), some (.int x3), none, some (.int x5), some (.int x6), none] [.int y0] I J := by
  refine g_istore (L' := [some (.ref 67), none, some (.int x2), some (.int x3), some (.int y0), some (.int x5), some (.int x6), none]) dc_RM_missed_107 rfl (Nat.le_of_ble_eq_true rfl) rfl ?_
  refine g_iinc (v := (x6 + 1)) (L' := [some (.ref 67), none, some (.int x2), some (.int x3), some (.int y0), some (.int x5), some (.int (x6 + 1)), none]) dc_RM_missed_109 rfl rfl (by rw [show Int32.ofInt 1 = 1 from by decide]) (Nat.le_of_ble_eq_true rfl) rfl ?_
  refine g_goto (tgt := 50) dc_RM_missed_112 (by decide) ?_
  exact k1
theorem dc_RM_near_0 : decode prog_14_method_37_code 0 = .ok (.iload_n 1, 1) := by decide +kernel
theorem dc_RM_near_1 : decode prog_14_method_37_code 1 = .ok (.invokestatic 119, 3) := by decide +kernel
theorem dc_RM_near_4 : decode prog_14_method_37_code 4 = .ok (.ifCond .eq 31, 3) := by decide +kernel
theorem dc_RM_near_7 : decode prog_14_method_37_code 7 = .ok (.iload_n 2, 1) := by decide +kernel
theorem dc_RM_near_8 : decode prog_14_method_37_code 8 = .ok (.invokestatic 186, 3) := by decide +kernel
theorem dc_RM_near_11 : decode prog_14_method_37_code 11 = .ok (.ifCond .eq 24, 3) := by decide +kernel
theorem dc_RM_near_14 : decode prog_14_method_37_code 14 = .ok (.iload_n 3, 1) := by decide +kernel
theorem dc_RM_near_15 : decode prog_14_method_37_code 15 = .ok (.iconst 2, 1) := by decide +kernel
theorem dc_RM_near_16 : decode prog_14_method_37_code 16 = .ok (.iconst 3, 1) := by decide +kernel
theorem dc_RM_near_17 : decode prog_14_method_37_code 17 = .ok (.invokestatic 112, 3) := by decide +kernel
theorem dc_RM_near_20 : decode prog_14_method_37_code 20 = .ok (.ifCond .eq 15, 3) := by decide +kernel
theorem dc_RM_near_23 : decode prog_14_method_37_code 23 = .ok (.iload 4, 2) := by decide +kernel
theorem dc_RM_near_25 : decode prog_14_method_37_code 25 = .ok (.iconst 0, 1) := by decide +kernel
theorem dc_RM_near_26 : decode prog_14_method_37_code 26 = .ok (.sipush 1000, 3) := by decide +kernel
theorem dc_RM_near_29 : decode prog_14_method_37_code 29 = .ok (.invokestatic 112, 3) := by decide +kernel
theorem dc_RM_near_32 : decode prog_14_method_37_code 32 = .ok (.ifCond .ne 6, 3) := by decide +kernel
theorem dc_RM_near_35 : decode prog_14_method_37_code 35 = .ok (.bipush (-2), 2) := by decide +kernel
theorem dc_RM_near_37 : decode prog_14_method_37_code 37 = .ok (.ireturn, 1) := by decide +kernel
theorem dc_RM_near_38 : decode prog_14_method_37_code 38 = .ok (.aload_n 0, 1) := by decide +kernel
theorem dc_RM_near_39 : decode prog_14_method_37_code 39 = .ok (.iload_n 1, 1) := by decide +kernel
theorem dc_RM_near_40 : decode prog_14_method_37_code 40 = .ok (.iload_n 2, 1) := by decide +kernel
theorem dc_RM_near_41 : decode prog_14_method_37_code 41 = .ok (.iload_n 3, 1) := by decide +kernel
theorem dc_RM_near_42 : decode prog_14_method_37_code 42 = .ok (.aload_n 0, 1) := by decide +kernel
theorem dc_RM_near_43 : decode prog_14_method_37_code 43 = .ok (.getfield 22, 3) := by decide +kernel
theorem dc_RM_near_46 : decode prog_14_method_37_code 46 = .ok (.invokevirtual 220, 3) := by decide +kernel
theorem dc_RM_near_49 : decode prog_14_method_37_code 49 = .ok (.ifCond .ne 6, 3) := by decide +kernel
theorem dc_RM_near_52 : decode prog_14_method_37_code 52 = .ok (.bipush (-3), 2) := by decide +kernel
theorem dc_RM_near_54 : decode prog_14_method_37_code 54 = .ok (.ireturn, 1) := by decide +kernel
theorem dc_RM_near_55 : decode prog_14_method_37_code 55 = .ok (.aload_n 0, 1) := by decide +kernel
theorem dc_RM_near_56 : decode prog_14_method_37_code 56 = .ok (.getfield 26, 3) := by decide +kernel
theorem dc_RM_near_59 : decode prog_14_method_37_code 59 = .ok (.iload_n 1, 1) := by decide +kernel
theorem dc_RM_near_60 : decode prog_14_method_37_code 60 = .ok (.iaload, 1) := by decide +kernel
theorem dc_RM_near_61 : decode prog_14_method_37_code 61 = .ok (.istore 5, 2) := by decide +kernel
theorem dc_RM_near_63 : decode prog_14_method_37_code 63 = .ok (.iconst 0, 1) := by decide +kernel
theorem dc_RM_near_64 : decode prog_14_method_37_code 64 = .ok (.istore 6, 2) := by decide +kernel
theorem dc_RM_near_66 : decode prog_14_method_37_code 66 = .ok (.iload 5, 2) := by decide +kernel
theorem dc_RM_near_68 : decode prog_14_method_37_code 68 = .ok (.istore 7, 2) := by decide +kernel
theorem dc_RM_near_70 : decode prog_14_method_37_code 70 = .ok (.iload 7, 2) := by decide +kernel
theorem dc_RM_near_72 : decode prog_14_method_37_code 72 = .ok (.iload 5, 2) := by decide +kernel
theorem dc_RM_near_74 : decode prog_14_method_37_code 74 = .ok (.iadd, 1) := by decide +kernel
theorem dc_RM_near_75 : decode prog_14_method_37_code 75 = .ok (.aload_n 0, 1) := by decide +kernel
theorem dc_RM_near_76 : decode prog_14_method_37_code 76 = .ok (.getfield 145, 3) := by decide +kernel
theorem dc_RM_near_79 : decode prog_14_method_37_code 79 = .ok (.if_icmp .gt 218, 3) := by decide +kernel
theorem dc_RM_near_82 : decode prog_14_method_37_code 82 = .ok (.iload 7, 2) := by decide +kernel
theorem dc_RM_near_84 : decode prog_14_method_37_code 84 = .ok (.iconst 1, 1) := by decide +kernel
theorem dc_RM_near_85 : decode prog_14_method_37_code 85 = .ok (.isub, 1) := by decide +kernel
theorem dc_RM_near_86 : decode prog_14_method_37_code 86 = .ok (.istore 8, 2) := by decide +kernel
theorem dc_RM_near_88 : decode prog_14_method_37_code 88 = .ok (.iload_n 3, 1) := by decide +kernel
theorem dc_RM_near_89 : decode prog_14_method_37_code 89 = .ok (.iconst 2, 1) := by decide +kernel
theorem dc_RM_near_90 : decode prog_14_method_37_code 90 = .ok (.if_icmp .ne 10, 3) := by decide +kernel
theorem dc_RM_near_93 : decode prog_14_method_37_code 93 = .ok (.aload_n 0, 1) := by decide +kernel
theorem dc_RM_near_94 : decode prog_14_method_37_code 94 = .ok (.getfield 145, 3) := by decide +kernel
theorem dc_RM_near_97 : decode prog_14_method_37_code 97 = .ok (.goto 8, 3) := by decide +kernel
theorem dc_RM_near_100 : decode prog_14_method_37_code 100 = .ok (.iload 7, 2) := by decide +kernel
theorem dc_RM_near_102 : decode prog_14_method_37_code 102 = .ok (.iload 5, 2) := by decide +kernel
theorem dc_RM_near_104 : decode prog_14_method_37_code 104 = .ok (.iadd, 1) := by decide +kernel
theorem dc_RM_near_105 : decode prog_14_method_37_code 105 = .ok (.istore 9, 2) := by decide +kernel
theorem dc_RM_near_107 : decode prog_14_method_37_code 107 = .ok (.iload 9, 2) := by decide +kernel
theorem dc_RM_near_109 : decode prog_14_method_37_code 109 = .ok (.aload_n 0, 1) := by decide +kernel
theorem dc_RM_near_110 : decode prog_14_method_37_code 110 = .ok (.getfield 145, 3) := by decide +kernel
theorem dc_RM_near_113 : decode prog_14_method_37_code 113 = .ok (.iload_n 3, 1) := by decide +kernel
theorem dc_RM_near_114 : decode prog_14_method_37_code 114 = .ok (.iconst 2, 1) := by decide +kernel
theorem dc_RM_near_115 : decode prog_14_method_37_code 115 = .ok (.if_icmp .ne 7, 3) := by decide +kernel
theorem dc_RM_near_118 : decode prog_14_method_37_code 118 = .ok (.iconst 0, 1) := by decide +kernel
theorem dc_RM_near_119 : decode prog_14_method_37_code 119 = .ok (.goto 5, 3) := by decide +kernel
theorem dc_RM_near_122 : decode prog_14_method_37_code 122 = .ok (.iload 5, 2) := by decide +kernel
theorem dc_RM_near_124 : decode prog_14_method_37_code 124 = .ok (.isub, 1) := by decide +kernel
theorem dc_RM_near_125 : decode prog_14_method_37_code 125 = .ok (.if_icmp .gt 166, 3) := by decide +kernel
theorem dc_RM_near_128 : decode prog_14_method_37_code 128 = .ok (.bipush 40, 2) := by decide +kernel
theorem dc_RM_near_130 : decode prog_14_method_37_code 130 = .ok (.iload 7, 2) := by decide +kernel
theorem dc_RM_near_132 : decode prog_14_method_37_code 132 = .ok (.imul, 1) := by decide +kernel
theorem dc_RM_near_133 : decode prog_14_method_37_code 133 = .ok (.iload 9, 2) := by decide +kernel
theorem dc_RM_near_135 : decode prog_14_method_37_code 135 = .ok (.iadd, 1) := by decide +kernel
theorem dc_RM_near_136 : decode prog_14_method_37_code 136 = .ok (.iconst 1, 1) := by decide +kernel
theorem dc_RM_near_137 : decode prog_14_method_37_code 137 = .ok (.isub, 1) := by decide +kernel
theorem dc_RM_near_138 : decode prog_14_method_37_code 138 = .ok (.istore 10, 2) := by decide +kernel
theorem dc_RM_near_140 : decode prog_14_method_37_code 140 = .ok (.aload_n 0, 1) := by decide +kernel
theorem dc_RM_near_141 : decode prog_14_method_37_code 141 = .ok (.getfield 45, 3) := by decide +kernel
theorem dc_RM_near_144 : decode prog_14_method_37_code 144 = .ok (.iload 8, 2) := by decide +kernel
theorem dc_RM_near_146 : decode prog_14_method_37_code 146 = .ok (.laload, 1) := by decide +kernel
theorem dc_RM_near_147 : decode prog_14_method_37_code 147 = .ok (.aload_n 0, 1) := by decide +kernel
theorem dc_RM_near_148 : decode prog_14_method_37_code 148 = .ok (.getfield 45, 3) := by decide +kernel
theorem dc_RM_near_151 : decode prog_14_method_37_code 151 = .ok (.iload 8, 2) := by decide +kernel
theorem dc_RM_near_153 : decode prog_14_method_37_code 153 = .ok (.laload, 1) := by decide +kernel
theorem dc_RM_near_154 : decode prog_14_method_37_code 154 = .ok (.aload_n 0, 1) := by decide +kernel
theorem dc_RM_near_155 : decode prog_14_method_37_code 155 = .ok (.getfield 45, 3) := by decide +kernel
theorem dc_RM_near_158 : decode prog_14_method_37_code 158 = .ok (.iload 10, 2) := by decide +kernel
theorem dc_RM_near_160 : decode prog_14_method_37_code 160 = .ok (.laload, 1) := by decide +kernel
theorem dc_RM_near_161 : decode prog_14_method_37_code 161 = .ok (.invokestatic 157, 3) := by decide +kernel
theorem dc_RM_near_164 : decode prog_14_method_37_code 164 = .ok (.ldiv, 1) := by decide +kernel
theorem dc_RM_near_165 : decode prog_14_method_37_code 165 = .ok (.aload_n 0, 1) := by decide +kernel
theorem dc_RM_near_166 : decode prog_14_method_37_code 166 = .ok (.getfield 45, 3) := by decide +kernel
theorem dc_RM_near_169 : decode prog_14_method_37_code 169 = .ok (.iload 10, 2) := by decide +kernel
theorem dc_RM_near_171 : decode prog_14_method_37_code 171 = .ok (.laload, 1) := by decide +kernel
theorem dc_RM_near_172 : decode prog_14_method_37_code 172 = .ok (.lmul, 1) := by decide +kernel
theorem dc_RM_near_173 : decode prog_14_method_37_code 173 = .ok (.lstore 11, 2) := by decide +kernel
theorem dc_RM_near_175 : decode prog_14_method_37_code 175 = .ok (.aload_n 0, 1) := by decide +kernel
theorem dc_RM_near_176 : decode prog_14_method_37_code 176 = .ok (.iload 8, 2) := by decide +kernel
theorem dc_RM_near_178 : decode prog_14_method_37_code 178 = .ok (.lload 11, 2) := by decide +kernel
theorem dc_RM_near_180 : decode prog_14_method_37_code 180 = .ok (.invokevirtual 233, 3) := by decide +kernel
theorem dc_RM_near_183 : decode prog_14_method_37_code 183 = .ok (.aload_n 0, 1) := by decide +kernel
theorem dc_RM_near_184 : decode prog_14_method_37_code 184 = .ok (.iload 10, 2) := by decide +kernel
theorem dc_RM_near_186 : decode prog_14_method_37_code 186 = .ok (.lload 11, 2) := by decide +kernel
theorem dc_RM_near_188 : decode prog_14_method_37_code 188 = .ok (.invokevirtual 233, 3) := by decide +kernel
theorem dc_RM_near_191 : decode prog_14_method_37_code 191 = .ok (.ladd, 1) := by decide +kernel
theorem dc_RM_near_192 : decode prog_14_method_37_code 192 = .ok (.lstore 13, 2) := by decide +kernel
theorem dc_RM_near_194 : decode prog_14_method_37_code 194 = .ok (.iload_n 3, 1) := by decide +kernel
theorem dc_RM_near_195 : decode prog_14_method_37_code 195 = .ok (.iconst 3, 1) := by decide +kernel
theorem dc_RM_near_196 : decode prog_14_method_37_code 196 = .ok (.if_icmp .ne 65, 3) := by decide +kernel
theorem dc_RM_near_199 : decode prog_14_method_37_code 199 = .ok (.bipush 40, 2) := by decide +kernel
theorem dc_RM_near_201 : decode prog_14_method_37_code 201 = .ok (.iload 9, 2) := by decide +kernel
theorem dc_RM_near_203 : decode prog_14_method_37_code 203 = .ok (.imul, 1) := by decide +kernel
theorem dc_RM_near_204 : decode prog_14_method_37_code 204 = .ok (.aload_n 0, 1) := by decide +kernel
theorem dc_RM_near_205 : decode prog_14_method_37_code 205 = .ok (.getfield 145, 3) := by decide +kernel
theorem dc_RM_near_208 : decode prog_14_method_37_code 208 = .ok (.iadd, 1) := by decide +kernel
theorem dc_RM_near_209 : decode prog_14_method_37_code 209 = .ok (.iconst 1, 1) := by decide +kernel
theorem dc_RM_near_210 : decode prog_14_method_37_code 210 = .ok (.isub, 1) := by decide +kernel
theorem dc_RM_near_211 : decode prog_14_method_37_code 211 = .ok (.istore 15, 2) := by decide +kernel
theorem dc_RM_near_213 : decode prog_14_method_37_code 213 = .ok (.aload_n 0, 1) := by decide +kernel
theorem dc_RM_near_214 : decode prog_14_method_37_code 214 = .ok (.getfield 45, 3) := by decide +kernel
theorem dc_RM_near_217 : decode prog_14_method_37_code 217 = .ok (.iload 15, 2) := by decide +kernel
theorem dc_RM_near_219 : decode prog_14_method_37_code 219 = .ok (.laload, 1) := by decide +kernel
theorem dc_RM_near_220 : decode prog_14_method_37_code 220 = .ok (.aload_n 0, 1) := by decide +kernel
theorem dc_RM_near_221 : decode prog_14_method_37_code 221 = .ok (.getfield 45, 3) := by decide +kernel
theorem dc_RM_near_224 : decode prog_14_method_37_code 224 = .ok (.iload 15, 2) := by decide +kernel
theorem dc_RM_near_226 : decode prog_14_method_37_code 226 = .ok (.laload, 1) := by decide +kernel
theorem dc_RM_near_227 : decode prog_14_method_37_code 227 = .ok (.lload 11, 2) := by decide +kernel
theorem dc_RM_near_229 : decode prog_14_method_37_code 229 = .ok (.invokestatic 157, 3) := by decide +kernel
theorem dc_RM_near_232 : decode prog_14_method_37_code 232 = .ok (.ldiv, 1) := by decide +kernel
theorem dc_RM_near_233 : decode prog_14_method_37_code 233 = .ok (.lstore 16, 2) := by decide +kernel
theorem dc_RM_near_235 : decode prog_14_method_37_code 235 = .ok (.lload 13, 2) := by decide +kernel
theorem dc_RM_near_237 : decode prog_14_method_37_code 237 = .ok (.lload 16, 2) := by decide +kernel
theorem dc_RM_near_239 : decode prog_14_method_37_code 239 = .ok (.lmul, 1) := by decide +kernel
theorem dc_RM_near_240 : decode prog_14_method_37_code 240 = .ok (.aload_n 0, 1) := by decide +kernel
theorem dc_RM_near_241 : decode prog_14_method_37_code 241 = .ok (.iload 15, 2) := by decide +kernel
theorem dc_RM_near_243 : decode prog_14_method_37_code 243 = .ok (.lload 11, 2) := by decide +kernel
theorem dc_RM_near_245 : decode prog_14_method_37_code 245 = .ok (.lload 16, 2) := by decide +kernel
theorem dc_RM_near_247 : decode prog_14_method_37_code 247 = .ok (.lmul, 1) := by decide +kernel
theorem dc_RM_near_248 : decode prog_14_method_37_code 248 = .ok (.invokevirtual 233, 3) := by decide +kernel
theorem dc_RM_near_251 : decode prog_14_method_37_code 251 = .ok (.ladd, 1) := by decide +kernel
theorem dc_RM_near_252 : decode prog_14_method_37_code 252 = .ok (.lstore 13, 2) := by decide +kernel
theorem dc_RM_near_254 : decode prog_14_method_37_code 254 = .ok (.lload 11, 2) := by decide +kernel
theorem dc_RM_near_256 : decode prog_14_method_37_code 256 = .ok (.lload 16, 2) := by decide +kernel
theorem dc_RM_near_258 : decode prog_14_method_37_code 258 = .ok (.lmul, 1) := by decide +kernel
theorem dc_RM_near_259 : decode prog_14_method_37_code 259 = .ok (.lstore 11, 2) := by decide +kernel
theorem dc_RM_near_261 : decode prog_14_method_37_code 261 = .ok (.iload 6, 2) := by decide +kernel
theorem dc_RM_near_263 : decode prog_14_method_37_code 263 = .ok (.aload_n 0, 1) := by decide +kernel
theorem dc_RM_near_264 : decode prog_14_method_37_code 264 = .ok (.lload 13, 2) := by decide +kernel
theorem dc_RM_near_266 : decode prog_14_method_37_code 266 = .ok (.lload 11, 2) := by decide +kernel
theorem dc_RM_near_268 : decode prog_14_method_37_code 268 = .ok (.iload_n 3, 1) := by decide +kernel
theorem dc_RM_near_269 : decode prog_14_method_37_code 269 = .ok (.iload 4, 2) := by decide +kernel
theorem dc_RM_near_271 : decode prog_14_method_37_code 271 = .ok (.invokevirtual 237, 3) := by decide +kernel
theorem dc_RM_near_274 : decode prog_14_method_37_code 274 = .ok (.ifCond .eq 7, 3) := by decide +kernel
theorem dc_RM_near_277 : decode prog_14_method_37_code 277 = .ok (.iconst 1, 1) := by decide +kernel
theorem dc_RM_near_278 : decode prog_14_method_37_code 278 = .ok (.goto 4, 3) := by decide +kernel
theorem dc_RM_near_281 : decode prog_14_method_37_code 281 = .ok (.iconst 0, 1) := by decide +kernel
theorem dc_RM_near_282 : decode prog_14_method_37_code 282 = .ok (.iadd, 1) := by decide +kernel
theorem dc_RM_near_283 : decode prog_14_method_37_code 283 = .ok (.istore 6, 2) := by decide +kernel
theorem dc_RM_near_285 : decode prog_14_method_37_code 285 = .ok (.iinc 9 1, 3) := by decide +kernel
theorem dc_RM_near_288 : decode prog_14_method_37_code 288 = .ok (.goto (-181), 3) := by decide +kernel
theorem dc_RM_near_291 : decode prog_14_method_37_code 291 = .ok (.iinc 7 1, 3) := by decide +kernel
theorem dc_RM_near_294 : decode prog_14_method_37_code 294 = .ok (.goto (-224), 3) := by decide +kernel
theorem dc_RM_near_297 : decode prog_14_method_37_code 297 = .ok (.iload 6, 2) := by decide +kernel
theorem dc_RM_near_299 : decode prog_14_method_37_code 299 = .ok (.ireturn, 1) := by decide +kernel
theorem w_RM_near_0 {G : GC} {d : Nat} {P : PT} {I : MI} {J : MJ} {x1 : Int32} {x2 : Int32} {x3 : Int32} {x4 : Int32} (k1 : ((f_RM_isRow x1) = 0) → Go G (fr G m_RM_near (d + 5) P) 35 [none, none, none, none, none, none, none, none, none, none, none, none, none, none, none, none, none, none] [] I J) (k2 : (¬ ((f_RM_isRow x1) = 0)) → ((f_RM_isKind x2) = 0) → Go G (fr G m_RM_near (d + 5) P) 35 [none, none, none, none, none, none, none, none, none, none, none, none, none, none, none, none, none, none] [] I J) (k3 : (¬ ((f_RM_isRow x1) = 0)) → (¬ ((f_RM_isKind x2) = 0)) → ((f_RM_in x3 2 3) = 0) → Go G (fr G m_RM_near (d + 5) P) 35 [none, none, none, none, none, none, none, none, none, none, none, none, none, none, none, none, none, none] [] I J) (k4 : (¬ ((f_RM_isRow x1) = 0)) → (¬ ((f_RM_isKind x2) = 0)) → (¬ ((f_RM_in x3 2 3) = 0)) → (¬ (f_RM_in x4 0 1000) = 0) → Ct G (d + 4) m_RM_finds [.ref 67, .int x1, .int x2, .int x3, .int (I 67 5)] (fun r I' J' => Go G (fr G m_RM_near (d + 5) P) 49 [some (.ref 67), some (.int x1), none, some (.int x3), some (.int x4), none, none, none, none, none, none, none, none, none, none, none, none, none] (r.toList ++ []) I' J') I J) (k5 : (¬ ((f_RM_isRow x1) = 0)) → (¬ ((f_RM_isKind x2) = 0)) → (¬ ((f_RM_in x3 2 3) = 0)) → ((f_RM_in x4 0 1000) = 0) → Go G (fr G m_RM_near (d + 5) P) 35 [none, none, none, none, none, none, none, none, none, none, none, none, none, none, none, none, none, none] [] I J) : Go G (fr G m_RM_near (d + 5) P) 0 [some (.ref 67), some (.int x1), some (.int x2), some (.int x3), some (.int x4), none, none, none, none, none, none, none, none, none, none, none, none, none] [] I J := by
  refine g_iload_n dc_RM_near_0 rfl rfl rfl ?_
  refine g_callS (M := m_RM_isRow) (As := [.int x1]) (rest := []) ok_RM_isRow st_RM_isRow ml_RM_119 rfl rfl (Nat.le_of_ble_eq_true rfl) dc_RM_near_1 rfl rOk_fr (c_RM_isRow ?_)
  show Go G (fr G m_RM_near (d + 5) P) 4 [some (.ref 67), some (.int x1), some (.int x2), some (.int x3), some (.int x4), none, none, none, none, none, none, none, none, none, none, none, none, none] [.int (f_RM_isRow x1)] I J
  refine g_if_eq (tgt := 35) dc_RM_near_4 rfl (by decide) (fun c1 => ?_) (fun c1 => ?_)
  · refine g_weak [none, none, none, none, none, none, none, none, none, none, none, none, none, none, none, none, none, none] trivial ?_
    exact (k1 c1)
  · refine g_iload_n dc_RM_near_7 rfl rfl rfl ?_
    refine g_callS (M := m_RM_isKind) (As := [.int x2]) (rest := []) ok_RM_isKind st_RM_isKind ml_RM_186 rfl rfl (Nat.le_of_ble_eq_true rfl) dc_RM_near_8 rfl rOk_fr (c_RM_isKind ?_)
    show Go G (fr G m_RM_near (d + 5) P) 11 [some (.ref 67), some (.int x1), some (.int x2), some (.int x3), some (.int x4), none, none, none, none, none, none, none, none, none, none, none, none, none] [.int (f_RM_isKind x2)] I J
    refine g_if_eq (tgt := 35) dc_RM_near_11 rfl (by decide) (fun c2 => ?_) (fun c2 => ?_)
    · refine g_weak [none, none, none, none, none, none, none, none, none, none, none, none, none, none, none, none, none, none] trivial ?_
      exact (k2 c1 c2)
    · refine g_iload_n dc_RM_near_14 rfl rfl rfl ?_
      refine g_iconst (v := 2) dc_RM_near_15 rfl (by decide) ?_
      refine g_iconst (v := 3) dc_RM_near_16 rfl (by decide) ?_
      refine g_callS (M := m_RM_in) (As := [.int x3, .int 2, .int 3]) (rest := []) ok_RM_in st_RM_in ml_RM_112 rfl rfl (Nat.le_of_ble_eq_true rfl) dc_RM_near_17 rfl rOk_fr (c_RM_in ?_)
      show Go G (fr G m_RM_near (d + 5) P) 20 [some (.ref 67), some (.int x1), some (.int x2), some (.int x3), some (.int x4), none, none, none, none, none, none, none, none, none, none, none, none, none] [.int (f_RM_in x3 2 3)] I J
      refine g_if_eq (tgt := 35) dc_RM_near_20 rfl (by decide) (fun c3 => ?_) (fun c3 => ?_)
      · refine g_weak [none, none, none, none, none, none, none, none, none, none, none, none, none, none, none, none, none, none] trivial ?_
        exact (k3 c1 c2 c3)
      · refine g_iload dc_RM_near_23 rfl rfl ?_
        refine g_iconst (v := 0) dc_RM_near_25 rfl (by decide) ?_
        refine g_sipush (v := 1000) dc_RM_near_26 rfl (by decide) ?_
        refine g_callS (M := m_RM_in) (As := [.int x4, .int 0, .int 1000]) (rest := []) ok_RM_in st_RM_in ml_RM_112 rfl rfl (Nat.le_of_ble_eq_true rfl) dc_RM_near_29 rfl rOk_fr (c_RM_in ?_)
        show Go G (fr G m_RM_near (d + 5) P) 32 [some (.ref 67), some (.int x1), some (.int x2), some (.int x3), some (.int x4), none, none, none, none, none, none, none, none, none, none, none, none, none] [.int (f_RM_in x4 0 1000)] I J
        refine g_if_ne (tgt := 38) dc_RM_near_32 rfl (by decide) (fun c4 => ?_) (fun c4 => ?_)
        · refine g_aload_n dc_RM_near_38 rfl rfl rfl ?_
          refine g_iload_n dc_RM_near_39 rfl rfl rfl ?_
          refine g_iload_n dc_RM_near_40 rfl rfl rfl ?_
          refine g_iload_n dc_RM_near_41 rfl rfl rfl ?_
          refine g_aload_n dc_RM_near_42 rfl rfl rfl ?_
          refine g_get (C := "LevelBreaksModel") (T := T_RM) (N := 45) (k := 5) (v := .int (I 67 5)) sh_67 (by decide) rfl rfl i_RM (by decide) fl_RM_22 (Or.inl rfl) rfl dc_RM_near_43 rfl ?_
          refine g_weak [some (.ref 67), some (.int x1), none, some (.int x3), some (.int x4), none, none, none, none, none, none, none, none, none, none, none, none, none] ⟨rfl, ⟨rfl, ⟨rfl, ⟨rfl, trivial⟩⟩⟩⟩ ?_
          exact g_callV (T := T_RM) (N := 45) (As := [.int x1, .int x2, .int x3, .int (I 67 5)]) (rest := []) ok_RM_finds in_RM_finds se_RM_finds ml_RM_220 sh_67 (by decide) rfl rfl rfl (Nat.le_of_ble_eq_true rfl) dc_RM_near_46 rfl rOk_fr (k4 c1 c2 c3 c4)
        · refine g_weak [none, none, none, none, none, none, none, none, none, none, none, none, none, none, none, none, none, none] trivial ?_
          exact (k5 c1 c2 c3 c4)
theorem w_RM_near_35 {G : GC} {d : Nat} {P : PT} {I : MI} {J : MJ}  (q1 : P (some (.int (-2))) I J) : Go G (fr G m_RM_near (d + 5) P) 35 [none, none, none, none, none, none, none, none, none, none, none, none, none, none, none, none, none, none] [] I J := by
  refine g_bipush (v := (-2)) dc_RM_near_35 rfl (by decide) ?_
  exact g_iret rfl dc_RM_near_37 q1
theorem w_RM_near_49 {G : GC} {d : Nat} {P : PT} {I : MI} {J : MJ} {x1 : Int32} {x3 : Int32} {x4 : Int32} {y0 : Int32} (b1 : (¬ y0 = 0) → vp_in x1 4) (k2 : (¬ y0 = 0) → Go G (fr G m_RM_near (d + 5) P) 70 [some (.ref 67), none, none, some (.int x3), some (.int x4), some (.int (I 72 x1.toNatClampNeg)), some (.int 0), some (.int (I 72 x1.toNatClampNeg)), none, none, none, none, none, none, none, none, none, none] [] I J) (q3 : (y0 = 0) → P (some (.int (-3))) I J) : Go G (fr G m_RM_near (d + 5) P) 49 [some (.ref 67), some (.int x1), none, some (.int x3), some (.int x4), none, none, none, none, none, none, none, none, none, none, none, none, none] [.int y0] I J := by
  refine g_if_ne (tgt := 55) dc_RM_near_49 rfl (by decide) (fun c1 => ?_) (fun c1 => ?_)
  · refine g_aload_n dc_RM_near_55 rfl rfl rfl ?_
    refine g_get (C := "LevelBreaksModel") (T := T_RM) (N := 45) (k := 6) (v := .ref 72) sh_67 (by decide) rfl rfl i_RM (by decide) fl_RM_26 (Or.inl rfl) rfl dc_RM_near_56 rfl ?_
    refine g_iload_n dc_RM_near_59 rfl rfl rfl ?_
    refine g_ialdv (v := (I 72 x1.toNatClampNeg)) sh_72 (b1 c1) rfl dc_RM_near_60 rfl ?_
    refine g_istore (L' := [some (.ref 67), some (.int x1), none, some (.int x3), some (.int x4), some (.int (I 72 x1.toNatClampNeg)), none, none, none, none, none, none, none, none, none, none, none, none]) dc_RM_near_61 rfl (Nat.le_of_ble_eq_true rfl) rfl ?_
    refine g_iconst (v := 0) dc_RM_near_63 rfl (by decide) ?_
    refine g_istore (L' := [some (.ref 67), some (.int x1), none, some (.int x3), some (.int x4), some (.int (I 72 x1.toNatClampNeg)), some (.int 0), none, none, none, none, none, none, none, none, none, none, none]) dc_RM_near_64 rfl (Nat.le_of_ble_eq_true rfl) rfl ?_
    refine g_iload dc_RM_near_66 rfl rfl ?_
    refine g_istore (L' := [some (.ref 67), some (.int x1), none, some (.int x3), some (.int x4), some (.int (I 72 x1.toNatClampNeg)), some (.int 0), some (.int (I 72 x1.toNatClampNeg)), none, none, none, none, none, none, none, none, none, none]) dc_RM_near_68 rfl (Nat.le_of_ble_eq_true rfl) rfl ?_
    refine g_weak [some (.ref 67), none, none, some (.int x3), some (.int x4), some (.int (I 72 x1.toNatClampNeg)), some (.int 0), some (.int (I 72 x1.toNatClampNeg)), none, none, none, none, none, none, none, none, none, none] ⟨rfl, ⟨rfl, ⟨rfl, ⟨rfl, ⟨rfl, ⟨rfl, trivial⟩⟩⟩⟩⟩⟩ ?_
    exact (k2 c1)
  · refine g_bipush (v := (-3)) dc_RM_near_52 rfl (by decide) ?_
    exact g_iret rfl dc_RM_near_54 (q3 c1)
theorem w_RM_near_70 {G : GC} {d : Nat} {P : PT} {I : MI} {J : MJ} {x3 : Int32} {x4 : Int32} {x5 : Int32} {x6 : Int32} {x7 : Int32} (q1 : ((I 67 7) < (x7 + x5)) → P (some (.int x6)) I J) (k2 : (¬ ((I 67 7) < (x7 + x5))) → (¬ x3 = 2) → Go G (fr G m_RM_near (d + 5) P) 105 [some (.ref 67), none, none, some (.int x3), some (.int x4), some (.int x5), some (.int x6), some (.int x7), some (.int (x7 - 1)), none, none, none, none, none, none, none, none, none] [.int (x7 + x5)] I J) (k3 : (¬ ((I 67 7) < (x7 + x5))) → (x3 = 2) → Go G (fr G m_RM_near (d + 5) P) 105 [some (.ref 67), none, none, some (.int x3), some (.int x4), some (.int x5), some (.int x6), some (.int x7), some (.int (x7 - 1)), none, none, none, none, none, none, none, none, none] [.int (I 67 7)] I J) : Go G (fr G m_RM_near (d + 5) P) 70 [some (.ref 67), none, none, some (.int x3), some (.int x4), some (.int x5), some (.int x6), some (.int x7), none, none, none, none, none, none, none, none, none, none] [] I J := by
  refine g_iload dc_RM_near_70 rfl rfl ?_
  refine g_iload dc_RM_near_72 rfl rfl ?_
  refine g_iadd dc_RM_near_74 rfl ?_
  refine g_aload_n dc_RM_near_75 rfl rfl rfl ?_
  refine g_get (C := "LevelBreaksModel") (T := T_RM) (N := 45) (k := 7) (v := .int (I 67 7)) sh_67 (by decide) rfl rfl i_RM (by decide) fl_RM_145 (Or.inl rfl) rfl dc_RM_near_76 rfl ?_
  refine g_ic_gt (tgt := 297) dc_RM_near_79 rfl (by decide) (fun c1 => ?_) (fun c1 => ?_)
  · refine g_iload dc_RM_near_297 rfl rfl ?_
    exact g_iret rfl dc_RM_near_299 (q1 c1)
  · refine g_iload dc_RM_near_82 rfl rfl ?_
    refine g_iconst (v := 1) dc_RM_near_84 rfl (by decide) ?_
    refine g_isub dc_RM_near_85 rfl ?_
    refine g_istore (L' := [some (.ref 67), none, none, some (.int x3), some (.int x4), some (.int x5), some (.int x6), some (.int x7), some (.int (x7 - 1)), none, none, none, none, none, none, none, none, none]) dc_RM_near_86 rfl (Nat.le_of_ble_eq_true rfl) rfl ?_
    refine g_iload_n dc_RM_near_88 rfl rfl rfl ?_
    refine g_iconst (v := 2) dc_RM_near_89 rfl (by decide) ?_
    refine g_ic_ne (tgt := 100) dc_RM_near_90 rfl (by decide) (fun c2 => ?_) (fun c2 => ?_)
    · refine g_iload dc_RM_near_100 rfl rfl ?_
      refine g_iload dc_RM_near_102 rfl rfl ?_
      refine g_iadd dc_RM_near_104 rfl ?_
      exact (k2 c1 c2)
    · refine g_aload_n dc_RM_near_93 rfl rfl rfl ?_
      refine g_get (C := "LevelBreaksModel") (T := T_RM) (N := 45) (k := 7) (v := .int (I 67 7)) sh_67 (by decide) rfl rfl i_RM (by decide) fl_RM_145 (Or.inl rfl) rfl dc_RM_near_94 rfl ?_
      refine g_goto (tgt := 105) dc_RM_near_97 (by decide) ?_
      exact (k3 c1 c2)
theorem w_RM_near_105 {G : GC} {d : Nat} {P : PT} {I : MI} {J : MJ} {x3 : Int32} {x4 : Int32} {x5 : Int32} {x6 : Int32} {x7 : Int32} {x8 : Int32} {y0 : Int32} (k1 : Go G (fr G m_RM_near (d + 5) P) 107 [some (.ref 67), none, none, some (.int x3), some (.int x4), some (.int x5), some (.int x6), some (.int x7), some (.int x8), some (.int y0), none, none, none, none, none, none, none, none] [] I J) : Go G (fr G m_RM_near (d + 5) P) 105 [some (.ref 67), none, none, some (.int x3), some (.int x4), some (.int x5), some (.int x6), some (.int x7), some (.int x8), none, none, none, none, none, none, none, none, none] [.int y0] I J := by
  refine g_istore (L' := [some (.ref 67), none, none, some (.int x3), some (.int x4), some (.int x5), some (.int x6), some (.int x7), some (.int x8), some (.int y0), none, none, none, none, none, none, none, none]) dc_RM_near_105 rfl (Nat.le_of_ble_eq_true rfl) rfl ?_
  exact k1
theorem w_RM_near_107 {G : GC} {d : Nat} {P : PT} {I : MI} {J : MJ} {x3 : Int32} {x4 : Int32} {x5 : Int32} {x6 : Int32} {x7 : Int32} {x8 : Int32} {x9 : Int32} (k1 : (¬ x3 = 2) → Go G (fr G m_RM_near (d + 5) P) 124 [some (.ref 67), none, none, some (.int x3), some (.int x4), some (.int x5), some (.int x6), some (.int x7), some (.int x8), some (.int x9), none, none, none, none, none, none, none, none] [.int x5, .int (I 67 7), .int x9] I J) (k2 : (x3 = 2) → Go G (fr G m_RM_near (d + 5) P) 124 [some (.ref 67), none, none, some (.int x3), some (.int x4), some (.int x5), some (.int x6), some (.int x7), some (.int x8), some (.int x9), none, none, none, none, none, none, none, none] [.int 0, .int (I 67 7), .int x9] I J) : Go G (fr G m_RM_near (d + 5) P) 107 [some (.ref 67), none, none, some (.int x3), some (.int x4), some (.int x5), some (.int x6), some (.int x7), some (.int x8), some (.int x9), none, none, none, none, none, none, none, none] [] I J := by
  refine g_iload dc_RM_near_107 rfl rfl ?_
  refine g_aload_n dc_RM_near_109 rfl rfl rfl ?_
  refine g_get (C := "LevelBreaksModel") (T := T_RM) (N := 45) (k := 7) (v := .int (I 67 7)) sh_67 (by decide) rfl rfl i_RM (by decide) fl_RM_145 (Or.inl rfl) rfl dc_RM_near_110 rfl ?_
  refine g_iload_n dc_RM_near_113 rfl rfl rfl ?_
  refine g_iconst (v := 2) dc_RM_near_114 rfl (by decide) ?_
  refine g_ic_ne (tgt := 122) dc_RM_near_115 rfl (by decide) (fun c1 => ?_) (fun c1 => ?_)
  · refine g_iload dc_RM_near_122 rfl rfl ?_
    exact (k1 c1)
  · refine g_iconst (v := 0) dc_RM_near_118 rfl (by decide) ?_
    refine g_goto (tgt := 124) dc_RM_near_119 (by decide) ?_
    exact (k2 c1)
theorem w_RM_near_124 {G : GC} {d : Nat} {P : PT} {I : MI} {J : MJ} {x3 : Int32} {x4 : Int32} {x5 : Int32} {x6 : Int32} {x7 : Int32} {x8 : Int32} {x9 : Int32} {y0 : Int32} {y1 : Int32} {y2 : Int32} (k1 : ((y1 - y2) < y0) → Go G (fr G m_RM_near (d + 5) P) 70 [some (.ref 67), none, none, some (.int x3), some (.int x4), some (.int x5), some (.int x6), some (.int (x7 + 1)), none, none, none, none, none, none, none, none, none, none] [] I J) (b2 : (¬ ((y1 - y2) < y0)) → vp_in x8 1600) (b3 : (¬ ((y1 - y2) < y0)) → vp_in (((40 * x7) + x9) - 1) 1600) (k4 : (¬ ((y1 - y2) < y0)) → Ct G (d + 4) m_RM_divisor [.long (J 78 x8.toNatClampNeg), .long (J 78 (((40 * x7) + x9) - 1).toNatClampNeg)] (fun r I' J' => Go G (fr G m_RM_near (d + 5) P) 164 [some (.ref 67), none, none, some (.int x3), some (.int x4), some (.int x5), some (.int x6), some (.int x7), some (.int x8), some (.int x9), some (.int (((40 * x7) + x9) - 1)), none, none, none, none, none, none, none] (r.toList ++ [.long (J 78 x8.toNatClampNeg)]) I' J') I J) : Go G (fr G m_RM_near (d + 5) P) 124 [some (.ref 67), none, none, some (.int x3), some (.int x4), some (.int x5), some (.int x6), some (.int x7), some (.int x8), some (.int x9), none, none, none, none, none, none, none, none] [.int y2, .int y1, .int y0] I J := by
  refine g_isub dc_RM_near_124 rfl ?_
  refine g_ic_gt (tgt := 291) dc_RM_near_125 rfl (by decide) (fun c1 => ?_) (fun c1 => ?_)
  · refine g_iinc (v := (x7 + 1)) (L' := [some (.ref 67), none, none, some (.int x3), some (.int x4), some (.int x5), some (.int x6), some (.int (x7 + 1)), some (.int x8), some (.int x9), none, none, none, none, none, none, none, none]) dc_RM_near_291 rfl rfl (by rw [show Int32.ofInt 1 = 1 from by decide]) (Nat.le_of_ble_eq_true rfl) rfl ?_
    refine g_goto (tgt := 70) dc_RM_near_294 (by decide) ?_
    refine g_weak [some (.ref 67), none, none, some (.int x3), some (.int x4), some (.int x5), some (.int x6), some (.int (x7 + 1)), none, none, none, none, none, none, none, none, none, none] ⟨rfl, ⟨rfl, ⟨rfl, ⟨rfl, ⟨rfl, ⟨rfl, trivial⟩⟩⟩⟩⟩⟩ ?_
    exact (k1 c1)
  · refine g_bipush (v := 40) dc_RM_near_128 rfl (by decide) ?_
    refine g_iload dc_RM_near_130 rfl rfl ?_
    refine g_imul dc_RM_near_132 rfl ?_
    refine g_iload dc_RM_near_133 rfl rfl ?_
    refine g_iadd dc_RM_near_135 rfl ?_
    refine g_iconst (v := 1) dc_RM_near_136 rfl (by decide) ?_
    refine g_isub dc_RM_near_137 rfl ?_
    refine g_istore (L' := [some (.ref 67), none, none, some (.int x3), some (.int x4), some (.int x5), some (.int x6), some (.int x7), some (.int x8), some (.int x9), some (.int (((40 * x7) + x9) - 1)), none, none, none, none, none, none, none]) dc_RM_near_138 rfl (Nat.le_of_ble_eq_true rfl) rfl ?_
    refine g_aload_n dc_RM_near_140 rfl rfl rfl ?_
    refine g_get (C := "LevelBreaksModel") (T := T_RM) (N := 45) (k := 13) (v := .ref 78) sh_67 (by decide) rfl rfl i_RM (by decide) fl_RM_45 (Or.inl rfl) rfl dc_RM_near_141 rfl ?_
    refine g_iload dc_RM_near_144 rfl rfl ?_
    refine g_laldv (v := (J 78 x8.toNatClampNeg)) sh_78 (b2 c1) rfl dc_RM_near_146 rfl ?_
    refine g_aload_n dc_RM_near_147 rfl rfl rfl ?_
    refine g_get (C := "LevelBreaksModel") (T := T_RM) (N := 45) (k := 13) (v := .ref 78) sh_67 (by decide) rfl rfl i_RM (by decide) fl_RM_45 (Or.inl rfl) rfl dc_RM_near_148 rfl ?_
    refine g_iload dc_RM_near_151 rfl rfl ?_
    refine g_laldv (v := (J 78 x8.toNatClampNeg)) sh_78 (b2 c1) rfl dc_RM_near_153 rfl ?_
    refine g_aload_n dc_RM_near_154 rfl rfl rfl ?_
    refine g_get (C := "LevelBreaksModel") (T := T_RM) (N := 45) (k := 13) (v := .ref 78) sh_67 (by decide) rfl rfl i_RM (by decide) fl_RM_45 (Or.inl rfl) rfl dc_RM_near_155 rfl ?_
    refine g_iload dc_RM_near_158 rfl rfl ?_
    refine g_laldv (v := (J 78 (((40 * x7) + x9) - 1).toNatClampNeg)) sh_78 (b3 c1) rfl dc_RM_near_160 rfl ?_
    exact g_callS (As := [.long (J 78 x8.toNatClampNeg), .long (J 78 (((40 * x7) + x9) - 1).toNatClampNeg)]) (rest := [.long (J 78 x8.toNatClampNeg)]) ok_RM_divisor st_RM_divisor ml_RM_157 rfl rfl (Nat.le_of_ble_eq_true rfl) dc_RM_near_161 rfl rOk_fr (k4 c1)
theorem w_RM_near_164 {G : GC} {d : Nat} {P : PT} {I : MI} {J : MJ} {x3 : Int32} {x4 : Int32} {x5 : Int32} {x6 : Int32} {x7 : Int32} {x8 : Int32} {x9 : Int32} {x10 : Int32} {s0 : Int64} {s1 : Int64} (z1 : ¬ s1 = 0) (b2 : vp_in x10 1600) (k3 : Ct G (d + 4) m_RM_total [.ref 67, .int x8, .long ((s0 / s1) * (J 78 x10.toNatClampNeg))] (fun r I' J' => Go G (fr G m_RM_near (d + 5) P) 183 [some (.ref 67), none, none, some (.int x3), some (.int x4), some (.int x5), some (.int x6), some (.int x7), some (.int x8), some (.int x9), some (.int x10), some (.long ((s0 / s1) * (J 78 x10.toNatClampNeg))), none, none, none, none, none, none] (r.toList ++ []) I' J') I J) : Go G (fr G m_RM_near (d + 5) P) 164 [some (.ref 67), none, none, some (.int x3), some (.int x4), some (.int x5), some (.int x6), some (.int x7), some (.int x8), some (.int x9), some (.int x10), none, none, none, none, none, none, none] [.long s1, .long s0] I J := by
  refine g_ldiv dc_RM_near_164 rfl z1 ?_
  refine g_aload_n dc_RM_near_165 rfl rfl rfl ?_
  refine g_get (C := "LevelBreaksModel") (T := T_RM) (N := 45) (k := 13) (v := .ref 78) sh_67 (by decide) rfl rfl i_RM (by decide) fl_RM_45 (Or.inl rfl) rfl dc_RM_near_166 rfl ?_
  refine g_iload dc_RM_near_169 rfl rfl ?_
  refine g_laldv (v := (J 78 x10.toNatClampNeg)) sh_78 b2 rfl dc_RM_near_171 rfl ?_
  refine g_lmul dc_RM_near_172 rfl ?_
  refine g_lstore (L' := [some (.ref 67), none, none, some (.int x3), some (.int x4), some (.int x5), some (.int x6), some (.int x7), some (.int x8), some (.int x9), some (.int x10), some (.long ((s0 / s1) * (J 78 x10.toNatClampNeg))), none, none, none, none, none, none]) dc_RM_near_173 rfl (Nat.le_of_ble_eq_true rfl) rfl ?_
  refine g_aload_n dc_RM_near_175 rfl rfl rfl ?_
  refine g_iload dc_RM_near_176 rfl rfl ?_
  refine g_lload dc_RM_near_178 rfl rfl ?_
  exact g_callV (T := T_RM) (N := 45) (As := [.int x8, .long ((s0 / s1) * (J 78 x10.toNatClampNeg))]) (rest := []) ok_RM_total in_RM_total se_RM_total ml_RM_233 sh_67 (by decide) rfl rfl rfl (Nat.le_of_ble_eq_true rfl) dc_RM_near_180 rfl rOk_fr k3
theorem w_RM_near_183 {G : GC} {d : Nat} {P : PT} {I : MI} {J : MJ} {x3 : Int32} {x4 : Int32} {x5 : Int32} {x6 : Int32} {x7 : Int32} {x8 : Int32} {x9 : Int32} {x10 : Int32} {l11 : Int64} {s0 : Int64} (k1 : Ct G (d + 4) m_RM_total [.ref 67, .int x10, .long l11] (fun r I' J' => Go G (fr G m_RM_near (d + 5) P) 191 [some (.ref 67), none, none, some (.int x3), some (.int x4), some (.int x5), some (.int x6), some (.int x7), some (.int x8), some (.int x9), none, some (.long l11), none, none, none, none, none, none] (r.toList ++ [.long s0]) I' J') I J) : Go G (fr G m_RM_near (d + 5) P) 183 [some (.ref 67), none, none, some (.int x3), some (.int x4), some (.int x5), some (.int x6), some (.int x7), some (.int x8), some (.int x9), some (.int x10), some (.long l11), none, none, none, none, none, none] [.long s0] I J := by
  refine g_aload_n dc_RM_near_183 rfl rfl rfl ?_
  refine g_iload dc_RM_near_184 rfl rfl ?_
  refine g_lload dc_RM_near_186 rfl rfl ?_
  refine g_weak [some (.ref 67), none, none, some (.int x3), some (.int x4), some (.int x5), some (.int x6), some (.int x7), some (.int x8), some (.int x9), none, some (.long l11), none, none, none, none, none, none] ⟨rfl, ⟨rfl, ⟨rfl, ⟨rfl, ⟨rfl, ⟨rfl, ⟨rfl, ⟨rfl, ⟨rfl, trivial⟩⟩⟩⟩⟩⟩⟩⟩⟩ ?_
  exact g_callV (T := T_RM) (N := 45) (As := [.int x10, .long l11]) (rest := [.long s0]) ok_RM_total in_RM_total se_RM_total ml_RM_233 sh_67 (by decide) rfl rfl rfl (Nat.le_of_ble_eq_true rfl) dc_RM_near_188 rfl rOk_fr k1
theorem w_RM_near_191 {G : GC} {d : Nat} {P : PT} {I : MI} {J : MJ} {x3 : Int32} {x4 : Int32} {x5 : Int32} {x6 : Int32} {x7 : Int32} {x8 : Int32} {x9 : Int32} {l11 : Int64} {s0 : Int64} {s1 : Int64} (k1 : (¬ x3 = 3) → Go G (fr G m_RM_near (d + 5) P) 261 [some (.ref 67), none, none, some (.int x3), some (.int x4), some (.int x5), some (.int x6), some (.int x7), some (.int x8), some (.int x9), none, some (.long l11), none, some (.long (s0 + s1)), none, none, none, none] [] I J) (b2 : (x3 = 3) → vp_in (((40 * x9) + (I 67 7)) - 1) 1600) (k3 : (x3 = 3) → Ct G (d + 4) m_RM_divisor [.long (J 78 (((40 * x9) + (I 67 7)) - 1).toNatClampNeg), .long l11] (fun r I' J' => Go G (fr G m_RM_near (d + 5) P) 232 [some (.ref 67), none, none, some (.int x3), some (.int x4), some (.int x5), some (.int x6), some (.int x7), some (.int x8), some (.int x9), none, some (.long l11), none, some (.long (s0 + s1)), none, some (.int (((40 * x9) + (I 67 7)) - 1)), none, none] (r.toList ++ [.long (J 78 (((40 * x9) + (I 67 7)) - 1).toNatClampNeg)]) I' J') I J) : Go G (fr G m_RM_near (d + 5) P) 191 [some (.ref 67), none, none, some (.int x3), some (.int x4), some (.int x5), some (.int x6), some (.int x7), some (.int x8), some (.int x9), none, some (.long l11), none, none, none, none, none, none] [.long s1, .long s0] I J := by
  refine g_ladd dc_RM_near_191 rfl ?_
  refine g_lstore (L' := [some (.ref 67), none, none, some (.int x3), some (.int x4), some (.int x5), some (.int x6), some (.int x7), some (.int x8), some (.int x9), none, some (.long l11), none, some (.long (s0 + s1)), none, none, none, none]) dc_RM_near_192 rfl (Nat.le_of_ble_eq_true rfl) rfl ?_
  refine g_iload_n dc_RM_near_194 rfl rfl rfl ?_
  refine g_iconst (v := 3) dc_RM_near_195 rfl (by decide) ?_
  refine g_ic_ne (tgt := 261) dc_RM_near_196 rfl (by decide) (fun c1 => ?_) (fun c1 => ?_)
  · exact (k1 c1)
  · refine g_bipush (v := 40) dc_RM_near_199 rfl (by decide) ?_
    refine g_iload dc_RM_near_201 rfl rfl ?_
    refine g_imul dc_RM_near_203 rfl ?_
    refine g_aload_n dc_RM_near_204 rfl rfl rfl ?_
    refine g_get (C := "LevelBreaksModel") (T := T_RM) (N := 45) (k := 7) (v := .int (I 67 7)) sh_67 (by decide) rfl rfl i_RM (by decide) fl_RM_145 (Or.inl rfl) rfl dc_RM_near_205 rfl ?_
    refine g_iadd dc_RM_near_208 rfl ?_
    refine g_iconst (v := 1) dc_RM_near_209 rfl (by decide) ?_
    refine g_isub dc_RM_near_210 rfl ?_
    refine g_istore (L' := [some (.ref 67), none, none, some (.int x3), some (.int x4), some (.int x5), some (.int x6), some (.int x7), some (.int x8), some (.int x9), none, some (.long l11), none, some (.long (s0 + s1)), none, some (.int (((40 * x9) + (I 67 7)) - 1)), none, none]) dc_RM_near_211 rfl (Nat.le_of_ble_eq_true rfl) rfl ?_
    refine g_aload_n dc_RM_near_213 rfl rfl rfl ?_
    refine g_get (C := "LevelBreaksModel") (T := T_RM) (N := 45) (k := 13) (v := .ref 78) sh_67 (by decide) rfl rfl i_RM (by decide) fl_RM_45 (Or.inl rfl) rfl dc_RM_near_214 rfl ?_
    refine g_iload dc_RM_near_217 rfl rfl ?_
    refine g_laldv (v := (J 78 (((40 * x9) + (I 67 7)) - 1).toNatClampNeg)) sh_78 (b2 c1) rfl dc_RM_near_219 rfl ?_
    refine g_aload_n dc_RM_near_220 rfl rfl rfl ?_
    refine g_get (C := "LevelBreaksModel") (T := T_RM) (N := 45) (k := 13) (v := .ref 78) sh_67 (by decide) rfl rfl i_RM (by decide) fl_RM_45 (Or.inl rfl) rfl dc_RM_near_221 rfl ?_
    refine g_iload dc_RM_near_224 rfl rfl ?_
    refine g_laldv (v := (J 78 (((40 * x9) + (I 67 7)) - 1).toNatClampNeg)) sh_78 (b2 c1) rfl dc_RM_near_226 rfl ?_
    refine g_lload dc_RM_near_227 rfl rfl ?_
    exact g_callS (As := [.long (J 78 (((40 * x9) + (I 67 7)) - 1).toNatClampNeg), .long l11]) (rest := [.long (J 78 (((40 * x9) + (I 67 7)) - 1).toNatClampNeg)]) ok_RM_divisor st_RM_divisor ml_RM_157 rfl rfl (Nat.le_of_ble_eq_true rfl) dc_RM_near_229 rfl rOk_fr (k3 c1)
theorem w_RM_near_232 {G : GC} {d : Nat} {P : PT} {I : MI} {J : MJ} {x3 : Int32} {x4 : Int32} {x5 : Int32} {x6 : Int32} {x7 : Int32} {x8 : Int32} {x9 : Int32} {l11 : Int64} {l13 : Int64} {x15 : Int32} {s0 : Int64} {s1 : Int64} (z1 : ¬ s1 = 0) (k2 : Ct G (d + 4) m_RM_total [.ref 67, .int x15, .long (l11 * (s0 / s1))] (fun r I' J' => Go G (fr G m_RM_near (d + 5) P) 251 [some (.ref 67), none, none, some (.int x3), some (.int x4), some (.int x5), some (.int x6), some (.int x7), some (.int x8), some (.int x9), none, some (.long l11), none, none, none, none, some (.long (s0 / s1)), none] (r.toList ++ [.long (l13 * (s0 / s1))]) I' J') I J) : Go G (fr G m_RM_near (d + 5) P) 232 [some (.ref 67), none, none, some (.int x3), some (.int x4), some (.int x5), some (.int x6), some (.int x7), some (.int x8), some (.int x9), none, some (.long l11), none, some (.long l13), none, some (.int x15), none, none] [.long s1, .long s0] I J := by
  refine g_ldiv dc_RM_near_232 rfl z1 ?_
  refine g_lstore (L' := [some (.ref 67), none, none, some (.int x3), some (.int x4), some (.int x5), some (.int x6), some (.int x7), some (.int x8), some (.int x9), none, some (.long l11), none, some (.long l13), none, some (.int x15), some (.long (s0 / s1)), none]) dc_RM_near_233 rfl (Nat.le_of_ble_eq_true rfl) rfl ?_
  refine g_lload dc_RM_near_235 rfl rfl ?_
  refine g_lload dc_RM_near_237 rfl rfl ?_
  refine g_lmul dc_RM_near_239 rfl ?_
  refine g_aload_n dc_RM_near_240 rfl rfl rfl ?_
  refine g_iload dc_RM_near_241 rfl rfl ?_
  refine g_lload dc_RM_near_243 rfl rfl ?_
  refine g_lload dc_RM_near_245 rfl rfl ?_
  refine g_lmul dc_RM_near_247 rfl ?_
  refine g_weak [some (.ref 67), none, none, some (.int x3), some (.int x4), some (.int x5), some (.int x6), some (.int x7), some (.int x8), some (.int x9), none, some (.long l11), none, none, none, none, some (.long (s0 / s1)), none] ⟨rfl, ⟨rfl, ⟨rfl, ⟨rfl, ⟨rfl, ⟨rfl, ⟨rfl, ⟨rfl, ⟨rfl, ⟨rfl, trivial⟩⟩⟩⟩⟩⟩⟩⟩⟩⟩ ?_
  exact g_callV (T := T_RM) (N := 45) (As := [.int x15, .long (l11 * (s0 / s1))]) (rest := [.long (l13 * (s0 / s1))]) ok_RM_total in_RM_total se_RM_total ml_RM_233 sh_67 (by decide) rfl rfl rfl (Nat.le_of_ble_eq_true rfl) dc_RM_near_248 rfl rOk_fr k2
theorem w_RM_near_251 {G : GC} {d : Nat} {P : PT} {I : MI} {J : MJ} {x3 : Int32} {x4 : Int32} {x5 : Int32} {x6 : Int32} {x7 : Int32} {x8 : Int32} {x9 : Int32} {l11 : Int64} {l16 : Int64} {s0 : Int64} {s1 : Int64} (k1 : Go G (fr G m_RM_near (d + 5) P) 261 [some (.ref 67), none, none, some (.int x3), some (.int x4), some (.int x5), some (.int x6), some (.int x7), some (.int x8), some (.int x9), none, some (.long (l11 * l16)), none, some (.long (s0 + s1)), none, none, none, none] [] I J) : Go G (fr G m_RM_near (d + 5) P) 251 [some (.ref 67), none, none, some (.int x3), some (.int x4), some (.int x5), some (.int x6), some (.int x7), some (.int x8), some (.int x9), none, some (.long l11), none, none, none, none, some (.long l16), none] [.long s1, .long s0] I J := by
  refine g_ladd dc_RM_near_251 rfl ?_
  refine g_lstore (L' := [some (.ref 67), none, none, some (.int x3), some (.int x4), some (.int x5), some (.int x6), some (.int x7), some (.int x8), some (.int x9), none, some (.long l11), none, some (.long (s0 + s1)), none, none, some (.long l16), none]) dc_RM_near_252 rfl (Nat.le_of_ble_eq_true rfl) rfl ?_
  refine g_lload dc_RM_near_254 rfl rfl ?_
  refine g_lload dc_RM_near_256 rfl rfl ?_
  refine g_lmul dc_RM_near_258 rfl ?_
  refine g_lstore (L' := [some (.ref 67), none, none, some (.int x3), some (.int x4), some (.int x5), some (.int x6), some (.int x7), some (.int x8), some (.int x9), none, some (.long (l11 * l16)), none, some (.long (s0 + s1)), none, none, some (.long l16), none]) dc_RM_near_259 rfl (Nat.le_of_ble_eq_true rfl) rfl ?_
  refine g_weak [some (.ref 67), none, none, some (.int x3), some (.int x4), some (.int x5), some (.int x6), some (.int x7), some (.int x8), some (.int x9), none, some (.long (l11 * l16)), none, some (.long (s0 + s1)), none, none, none, none] ⟨rfl, ⟨rfl, ⟨rfl, ⟨rfl, ⟨rfl, ⟨rfl, ⟨rfl, ⟨rfl, ⟨rfl, ⟨rfl, trivial⟩⟩⟩⟩⟩⟩⟩⟩⟩⟩ ?_
  exact k1
theorem w_RM_near_261 {G : GC} {d : Nat} {P : PT} {I : MI} {J : MJ} {x3 : Int32} {x4 : Int32} {x5 : Int32} {x6 : Int32} {x7 : Int32} {x8 : Int32} {x9 : Int32} {l11 : Int64} {l13 : Int64} (k1 : Ct G (d + 4) m_RM_isNear [.ref 67, .long l13, .long l11, .int x3, .int x4] (fun r I' J' => Go G (fr G m_RM_near (d + 5) P) 274 [some (.ref 67), none, none, some (.int x3), some (.int x4), some (.int x5), none, some (.int x7), some (.int x8), some (.int x9), none, none, none, none, none, none, none, none] (r.toList ++ [.int x6]) I' J') I J) : Go G (fr G m_RM_near (d + 5) P) 261 [some (.ref 67), none, none, some (.int x3), some (.int x4), some (.int x5), some (.int x6), some (.int x7), some (.int x8), some (.int x9), none, some (.long l11), none, some (.long l13), none, none, none, none] [] I J := by
  refine g_iload dc_RM_near_261 rfl rfl ?_
  refine g_aload_n dc_RM_near_263 rfl rfl rfl ?_
  refine g_lload dc_RM_near_264 rfl rfl ?_
  refine g_lload dc_RM_near_266 rfl rfl ?_
  refine g_iload_n dc_RM_near_268 rfl rfl rfl ?_
  refine g_iload dc_RM_near_269 rfl rfl ?_
  refine g_weak [some (.ref 67), none, none, some (.int x3), some (.int x4), some (.int x5), none, some (.int x7), some (.int x8), some (.int x9), none, none, none, none, none, none, none, none] ⟨rfl, ⟨rfl, ⟨rfl, ⟨rfl, ⟨rfl, ⟨rfl, ⟨rfl, trivial⟩⟩⟩⟩⟩⟩⟩ ?_
  exact g_callV (T := T_RM) (N := 45) (As := [.long l13, .long l11, .int x3, .int x4]) (rest := [.int x6]) ok_RM_isNear in_RM_isNear se_RM_isNear ml_RM_237 sh_67 (by decide) rfl rfl rfl (Nat.le_of_ble_eq_true rfl) dc_RM_near_271 rfl rOk_fr k1
theorem w_RM_near_274 {G : GC} {d : Nat} {P : PT} {I : MI} {J : MJ} {x3 : Int32} {x4 : Int32} {x5 : Int32} {x7 : Int32} {x8 : Int32} {x9 : Int32} {y0 : Int32} {y1 : Int32} (k1 : (y1 = 0) → Go G (fr G m_RM_near (d + 5) P) 282 [some (.ref 67), none, none, some (.int x3), some (.int x4), some (.int x5), none, some (.int x7), some (.int x8), some (.int x9), none, none, none, none, none, none, none, none] [.int 0, .int y0] I J) (k2 : (¬ (y1 = 0)) → Go G (fr G m_RM_near (d + 5) P) 282 [some (.ref 67), none, none, some (.int x3), some (.int x4), some (.int x5), none, some (.int x7), some (.int x8), some (.int x9), none, none, none, none, none, none, none, none] [.int 1, .int y0] I J) : Go G (fr G m_RM_near (d + 5) P) 274 [some (.ref 67), none, none, some (.int x3), some (.int x4), some (.int x5), none, some (.int x7), some (.int x8), some (.int x9), none, none, none, none, none, none, none, none] [.int y1, .int y0] I J := by
  refine g_if_eq (tgt := 281) dc_RM_near_274 rfl (by decide) (fun c1 => ?_) (fun c1 => ?_)
  · refine g_iconst (v := 0) dc_RM_near_281 rfl (by decide) ?_
    exact (k1 c1)
  · refine g_iconst (v := 1) dc_RM_near_277 rfl (by decide) ?_
    refine g_goto (tgt := 282) dc_RM_near_278 (by decide) ?_
    exact (k2 c1)
theorem w_RM_near_282 {G : GC} {d : Nat} {P : PT} {I : MI} {J : MJ} {x3 : Int32} {x4 : Int32} {x5 : Int32} {x7 : Int32} {x8 : Int32} {x9 : Int32} {y0 : Int32} {y1 : Int32} (k1 : Go G (fr G m_RM_near (d + 5) P) 107 [some (.ref 67), none, none, some (.int x3), some (.int x4), some (.int x5), some (.int (y0 + y1)), some (.int x7), some (.int x8), some (.int (x9 + 1)), none, none, none, none, none, none, none, none] [] I J) : Go G (fr G m_RM_near (d + 5) P) 282 [some (.ref 67), none, none, some (.int x3), some (.int x4), some (.int x5), none, some (.int x7), some (.int x8), some (.int x9), none, none, none, none, none, none, none, none] [.int y1, .int y0] I J := by
  refine g_iadd dc_RM_near_282 rfl ?_
  refine g_istore (L' := [some (.ref 67), none, none, some (.int x3), some (.int x4), some (.int x5), some (.int (y0 + y1)), some (.int x7), some (.int x8), some (.int x9), none, none, none, none, none, none, none, none]) dc_RM_near_283 rfl (Nat.le_of_ble_eq_true rfl) rfl ?_
  refine g_iinc (v := (x9 + 1)) (L' := [some (.ref 67), none, none, some (.int x3), some (.int x4), some (.int x5), some (.int (y0 + y1)), some (.int x7), some (.int x8), some (.int (x9 + 1)), none, none, none, none, none, none, none, none]) dc_RM_near_285 rfl rfl (by rw [show Int32.ofInt 1 = 1 from by decide]) (Nat.le_of_ble_eq_true rfl) rfl ?_
  refine g_goto (tgt := 107) dc_RM_near_288 (by decide) ?_
  exact k1
theorem dc_RM_offOn_0 : decode prog_14_method_69_code 0 = .ok (.iconst (-1), 1) := by decide +kernel
theorem dc_RM_offOn_1 : decode prog_14_method_69_code 1 = .ok (.istore_n 2, 1) := by decide +kernel
theorem dc_RM_offOn_2 : decode prog_14_method_69_code 2 = .ok (.iconst 0, 1) := by decide +kernel
theorem dc_RM_offOn_3 : decode prog_14_method_69_code 3 = .ok (.istore_n 3, 1) := by decide +kernel
theorem dc_RM_offOn_4 : decode prog_14_method_69_code 4 = .ok (.iload_n 3, 1) := by decide +kernel
theorem dc_RM_offOn_5 : decode prog_14_method_69_code 5 = .ok (.aload_n 0, 1) := by decide +kernel
theorem dc_RM_offOn_6 : decode prog_14_method_69_code 6 = .ok (.getfield 308, 3) := by decide +kernel
theorem dc_RM_offOn_9 : decode prog_14_method_69_code 9 = .ok (.if_icmp .ge 30, 3) := by decide +kernel
theorem dc_RM_offOn_12 : decode prog_14_method_69_code 12 = .ok (.aload_n 0, 1) := by decide +kernel
theorem dc_RM_offOn_13 : decode prog_14_method_69_code 13 = .ok (.getfield 88, 3) := by decide +kernel
theorem dc_RM_offOn_16 : decode prog_14_method_69_code 16 = .ok (.iload_n 3, 1) := by decide +kernel
theorem dc_RM_offOn_17 : decode prog_14_method_69_code 17 = .ok (.iaload, 1) := by decide +kernel
theorem dc_RM_offOn_18 : decode prog_14_method_69_code 18 = .ok (.aload_n 0, 1) := by decide +kernel
theorem dc_RM_offOn_19 : decode prog_14_method_69_code 19 = .ok (.getfield 32, 3) := by decide +kernel
theorem dc_RM_offOn_22 : decode prog_14_method_69_code 22 = .ok (.iload_n 1, 1) := by decide +kernel
theorem dc_RM_offOn_23 : decode prog_14_method_69_code 23 = .ok (.iaload, 1) := by decide +kernel
theorem dc_RM_offOn_24 : decode prog_14_method_69_code 24 = .ok (.if_icmp .gt 7, 3) := by decide +kernel
theorem dc_RM_offOn_27 : decode prog_14_method_69_code 27 = .ok (.iload_n 3, 1) := by decide +kernel
theorem dc_RM_offOn_28 : decode prog_14_method_69_code 28 = .ok (.goto 4, 3) := by decide +kernel
theorem dc_RM_offOn_31 : decode prog_14_method_69_code 31 = .ok (.iload_n 2, 1) := by decide +kernel
theorem dc_RM_offOn_32 : decode prog_14_method_69_code 32 = .ok (.istore_n 2, 1) := by decide +kernel
theorem dc_RM_offOn_33 : decode prog_14_method_69_code 33 = .ok (.iinc 3 1, 3) := by decide +kernel
theorem dc_RM_offOn_36 : decode prog_14_method_69_code 36 = .ok (.goto (-32), 3) := by decide +kernel
theorem dc_RM_offOn_39 : decode prog_14_method_69_code 39 = .ok (.iload_n 2, 1) := by decide +kernel
theorem dc_RM_offOn_40 : decode prog_14_method_69_code 40 = .ok (.iconst (-1), 1) := by decide +kernel
theorem dc_RM_offOn_41 : decode prog_14_method_69_code 41 = .ok (.if_icmp .ne 5, 3) := by decide +kernel
theorem dc_RM_offOn_44 : decode prog_14_method_69_code 44 = .ok (.iconst 0, 1) := by decide +kernel
theorem dc_RM_offOn_45 : decode prog_14_method_69_code 45 = .ok (.ireturn, 1) := by decide +kernel
theorem dc_RM_offOn_46 : decode prog_14_method_69_code 46 = .ok (.aload_n 0, 1) := by decide +kernel
theorem dc_RM_offOn_47 : decode prog_14_method_69_code 47 = .ok (.getfield 29, 3) := by decide +kernel
theorem dc_RM_offOn_50 : decode prog_14_method_69_code 50 = .ok (.iload_n 1, 1) := by decide +kernel
theorem dc_RM_offOn_51 : decode prog_14_method_69_code 51 = .ok (.iaload, 1) := by decide +kernel
theorem dc_RM_offOn_52 : decode prog_14_method_69_code 52 = .ok (.aload_n 0, 1) := by decide +kernel
theorem dc_RM_offOn_53 : decode prog_14_method_69_code 53 = .ok (.getfield 91, 3) := by decide +kernel
theorem dc_RM_offOn_56 : decode prog_14_method_69_code 56 = .ok (.iload_n 2, 1) := by decide +kernel
theorem dc_RM_offOn_57 : decode prog_14_method_69_code 57 = .ok (.iaload, 1) := by decide +kernel
theorem dc_RM_offOn_58 : decode prog_14_method_69_code 58 = .ok (.isub, 1) := by decide +kernel
theorem dc_RM_offOn_59 : decode prog_14_method_69_code 59 = .ok (.i2l, 1) := by decide +kernel
theorem dc_RM_offOn_60 : decode prog_14_method_69_code 60 = .ok (.invokestatic 175, 3) := by decide +kernel
theorem dc_RM_offOn_63 : decode prog_14_method_69_code 63 = .ok (.l2i, 1) := by decide +kernel
theorem dc_RM_offOn_64 : decode prog_14_method_69_code 64 = .ok (.aload_n 0, 1) := by decide +kernel
theorem dc_RM_offOn_65 : decode prog_14_method_69_code 65 = .ok (.getfield 94, 3) := by decide +kernel
theorem dc_RM_offOn_68 : decode prog_14_method_69_code 68 = .ok (.iload_n 2, 1) := by decide +kernel
theorem dc_RM_offOn_69 : decode prog_14_method_69_code 69 = .ok (.iaload, 1) := by decide +kernel
theorem dc_RM_offOn_70 : decode prog_14_method_69_code 70 = .ok (.isub, 1) := by decide +kernel
theorem dc_RM_offOn_71 : decode prog_14_method_69_code 71 = .ok (.istore_n 3, 1) := by decide +kernel
theorem dc_RM_offOn_72 : decode prog_14_method_69_code 72 = .ok (.iload_n 3, 1) := by decide +kernel
theorem dc_RM_offOn_73 : decode prog_14_method_69_code 73 = .ok (.ifCond .ge 7, 3) := by decide +kernel
theorem dc_RM_offOn_76 : decode prog_14_method_69_code 76 = .ok (.iconst 0, 1) := by decide +kernel
theorem dc_RM_offOn_77 : decode prog_14_method_69_code 77 = .ok (.goto 4, 3) := by decide +kernel
theorem dc_RM_offOn_80 : decode prog_14_method_69_code 80 = .ok (.iload_n 3, 1) := by decide +kernel
theorem dc_RM_offOn_81 : decode prog_14_method_69_code 81 = .ok (.ireturn, 1) := by decide +kernel
theorem w_RM_offOn_0 {G : GC} {d : Nat} {P : PT} {I : MI} {J : MJ} {x1 : Int32} (k1 : Go G (fr G m_RM_offOn (d + 1) P) 4 [some (.ref 67), some (.int x1), some (.int (-1)), some (.int 0)] [] I J) : Go G (fr G m_RM_offOn (d + 1) P) 0 [some (.ref 67), some (.int x1), none, none] [] I J := by
  refine g_iconst (v := (-1)) dc_RM_offOn_0 rfl (by decide) ?_
  refine g_istore_n (L' := [some (.ref 67), some (.int x1), some (.int (-1)), none]) dc_RM_offOn_1 rfl rfl (Nat.le_of_ble_eq_true rfl) rfl ?_
  refine g_iconst (v := 0) dc_RM_offOn_2 rfl (by decide) ?_
  refine g_istore_n (L' := [some (.ref 67), some (.int x1), some (.int (-1)), some (.int 0)]) dc_RM_offOn_3 rfl rfl (Nat.le_of_ble_eq_true rfl) rfl ?_
  exact k1
theorem w_RM_offOn_4 {G : GC} {d : Nat} {P : PT} {I : MI} {J : MJ} {x1 : Int32} {x2 : Int32} {x3 : Int32} (b1 : ((I 67 35) ≤ x3) → (¬ x2 = (-1)) → vp_in x1 40) (b2 : ((I 67 35) ≤ x3) → (¬ x2 = (-1)) → vp_in x2 40) (q3 : ((I 67 35) ≤ x3) → (¬ x2 = (-1)) → (0 ≤ ((Int64.toInt32 (f_RM_amount (Int32.toInt64 ((I 73 x1.toNatClampNeg) - (I 93 x2.toNatClampNeg))))) - (I 94 x2.toNatClampNeg))) → P (some (.int ((Int64.toInt32 (f_RM_amount (Int32.toInt64 ((I 73 x1.toNatClampNeg) - (I 93 x2.toNatClampNeg))))) - (I 94 x2.toNatClampNeg)))) I J) (q4 : ((I 67 35) ≤ x3) → (¬ x2 = (-1)) → (¬ (0 ≤ ((Int64.toInt32 (f_RM_amount (Int32.toInt64 ((I 73 x1.toNatClampNeg) - (I 93 x2.toNatClampNeg))))) - (I 94 x2.toNatClampNeg)))) → P (some (.int 0)) I J) (q5 : ((I 67 35) ≤ x3) → (x2 = (-1)) → P (some (.int 0)) I J) (b6 : (¬ ((I 67 35) ≤ x3)) → vp_in x3 40) (b7 : (¬ ((I 67 35) ≤ x3)) → vp_in x1 40) (k8 : (¬ ((I 67 35) ≤ x3)) → ((I 74 x1.toNatClampNeg) < (I 92 x3.toNatClampNeg)) → Go G (fr G m_RM_offOn (d + 1) P) 32 [some (.ref 67), some (.int x1), none, some (.int x3)] [.int x2] I J) (k9 : (¬ ((I 67 35) ≤ x3)) → (¬ ((I 74 x1.toNatClampNeg) < (I 92 x3.toNatClampNeg))) → Go G (fr G m_RM_offOn (d + 1) P) 32 [some (.ref 67), some (.int x1), none, some (.int x3)] [.int x3] I J) : Go G (fr G m_RM_offOn (d + 1) P) 4 [some (.ref 67), some (.int x1), some (.int x2), some (.int x3)] [] I J := by
  refine g_iload_n dc_RM_offOn_4 rfl rfl rfl ?_
  refine g_aload_n dc_RM_offOn_5 rfl rfl rfl ?_
  refine g_get (C := "LevelBreaksModel") (T := T_RM) (N := 45) (k := 35) (v := .int (I 67 35)) sh_67 (by decide) rfl rfl i_RM (by decide) fl_RM_308 (Or.inl rfl) rfl dc_RM_offOn_6 rfl ?_
  refine g_ic_ge (tgt := 39) dc_RM_offOn_9 rfl (by decide) (fun c1 => ?_) (fun c1 => ?_)
  · refine g_iload_n dc_RM_offOn_39 rfl rfl rfl ?_
    refine g_iconst (v := (-1)) dc_RM_offOn_40 rfl (by decide) ?_
    refine g_ic_ne (tgt := 46) dc_RM_offOn_41 rfl (by decide) (fun c2 => ?_) (fun c2 => ?_)
    · refine g_aload_n dc_RM_offOn_46 rfl rfl rfl ?_
      refine g_get (C := "LevelBreaksModel") (T := T_RM) (N := 45) (k := 8) (v := .ref 73) sh_67 (by decide) rfl rfl i_RM (by decide) fl_RM_29 (Or.inl rfl) rfl dc_RM_offOn_47 rfl ?_
      refine g_iload_n dc_RM_offOn_50 rfl rfl rfl ?_
      refine g_ialdv (v := (I 73 x1.toNatClampNeg)) sh_73 (b1 c1 c2) rfl dc_RM_offOn_51 rfl ?_
      refine g_aload_n dc_RM_offOn_52 rfl rfl rfl ?_
      refine g_get (C := "LevelBreaksModel") (T := T_RM) (N := 45) (k := 37) (v := .ref 93) sh_67 (by decide) rfl rfl i_RM (by decide) fl_RM_91 (Or.inl rfl) rfl dc_RM_offOn_53 rfl ?_
      refine g_iload_n dc_RM_offOn_56 rfl rfl rfl ?_
      refine g_ialdv (v := (I 93 x2.toNatClampNeg)) sh_93 (b2 c1 c2) rfl dc_RM_offOn_57 rfl ?_
      refine g_isub dc_RM_offOn_58 rfl ?_
      refine g_i2l dc_RM_offOn_59 rfl ?_
      refine g_callS (M := m_RM_amount) (As := [.long (Int32.toInt64 ((I 73 x1.toNatClampNeg) - (I 93 x2.toNatClampNeg)))]) (rest := []) ok_RM_amount st_RM_amount ml_RM_175 rfl rfl (Nat.le_of_ble_eq_true rfl) dc_RM_offOn_60 rfl rOk_fr (c_RM_amount ?_)
      show Go G (fr G m_RM_offOn (d + 1) P) 63 [some (.ref 67), some (.int x1), some (.int x2), some (.int x3)] [.long (f_RM_amount (Int32.toInt64 ((I 73 x1.toNatClampNeg) - (I 93 x2.toNatClampNeg))))] I J
      refine g_l2i dc_RM_offOn_63 rfl ?_
      refine g_aload_n dc_RM_offOn_64 rfl rfl rfl ?_
      refine g_get (C := "LevelBreaksModel") (T := T_RM) (N := 45) (k := 38) (v := .ref 94) sh_67 (by decide) rfl rfl i_RM (by decide) fl_RM_94 (Or.inl rfl) rfl dc_RM_offOn_65 rfl ?_
      refine g_iload_n dc_RM_offOn_68 rfl rfl rfl ?_
      refine g_ialdv (v := (I 94 x2.toNatClampNeg)) sh_94 (b2 c1 c2) rfl dc_RM_offOn_69 rfl ?_
      refine g_isub dc_RM_offOn_70 rfl ?_
      refine g_istore_n (L' := [some (.ref 67), some (.int x1), some (.int x2), some (.int ((Int64.toInt32 (f_RM_amount (Int32.toInt64 ((I 73 x1.toNatClampNeg) - (I 93 x2.toNatClampNeg))))) - (I 94 x2.toNatClampNeg)))]) dc_RM_offOn_71 rfl rfl (Nat.le_of_ble_eq_true rfl) rfl ?_
      refine g_iload_n dc_RM_offOn_72 rfl rfl rfl ?_
      refine g_if_ge (tgt := 80) dc_RM_offOn_73 rfl (by decide) (fun c3 => ?_) (fun c3 => ?_)
      · refine g_iload_n dc_RM_offOn_80 rfl rfl rfl ?_
        exact g_iret rfl dc_RM_offOn_81 (q3 c1 c2 c3)
      · refine g_iconst (v := 0) dc_RM_offOn_76 rfl (by decide) ?_
        refine g_goto (tgt := 81) dc_RM_offOn_77 (by decide) ?_
        exact g_iret rfl dc_RM_offOn_81 (q4 c1 c2 c3)
    · refine g_iconst (v := 0) dc_RM_offOn_44 rfl (by decide) ?_
      exact g_iret rfl dc_RM_offOn_45 (q5 c1 c2)
  · refine g_aload_n dc_RM_offOn_12 rfl rfl rfl ?_
    refine g_get (C := "LevelBreaksModel") (T := T_RM) (N := 45) (k := 36) (v := .ref 92) sh_67 (by decide) rfl rfl i_RM (by decide) fl_RM_88 (Or.inl rfl) rfl dc_RM_offOn_13 rfl ?_
    refine g_iload_n dc_RM_offOn_16 rfl rfl rfl ?_
    refine g_ialdv (v := (I 92 x3.toNatClampNeg)) sh_92 (b6 c1) rfl dc_RM_offOn_17 rfl ?_
    refine g_aload_n dc_RM_offOn_18 rfl rfl rfl ?_
    refine g_get (C := "LevelBreaksModel") (T := T_RM) (N := 45) (k := 9) (v := .ref 74) sh_67 (by decide) rfl rfl i_RM (by decide) fl_RM_32 (Or.inl rfl) rfl dc_RM_offOn_19 rfl ?_
    refine g_iload_n dc_RM_offOn_22 rfl rfl rfl ?_
    refine g_ialdv (v := (I 74 x1.toNatClampNeg)) sh_74 (b7 c1) rfl dc_RM_offOn_23 rfl ?_
    refine g_ic_gt (tgt := 31) dc_RM_offOn_24 rfl (by decide) (fun c4 => ?_) (fun c4 => ?_)
    · refine g_iload_n dc_RM_offOn_31 rfl rfl rfl ?_
      refine g_weak [some (.ref 67), some (.int x1), none, some (.int x3)] ⟨rfl, ⟨rfl, ⟨rfl, trivial⟩⟩⟩ ?_
      exact (k8 c1 c4)
    · refine g_iload_n dc_RM_offOn_27 rfl rfl rfl ?_
      refine g_goto (tgt := 32) dc_RM_offOn_28 (by decide) ?_
      refine g_weak [some (.ref 67), some (.int x1), none, some (.int x3)] ⟨rfl, ⟨rfl, ⟨rfl, trivial⟩⟩⟩ ?_
      exact (k9 c1 c4)
theorem w_RM_offOn_32 {G : GC} {d : Nat} {P : PT} {I : MI} {J : MJ} {x1 : Int32} {x3 : Int32} {y0 : Int32} (k1 : Go G (fr G m_RM_offOn (d + 1) P) 4 [some (.ref 67), some (.int x1), some (.int y0), some (.int (x3 + 1))] [] I J) : Go G (fr G m_RM_offOn (d + 1) P) 32 [some (.ref 67), some (.int x1), none, some (.int x3)] [.int y0] I J := by
  refine g_istore_n (L' := [some (.ref 67), some (.int x1), some (.int y0), some (.int x3)]) dc_RM_offOn_32 rfl rfl (Nat.le_of_ble_eq_true rfl) rfl ?_
  refine g_iinc (v := (x3 + 1)) (L' := [some (.ref 67), some (.int x1), some (.int y0), some (.int (x3 + 1))]) dc_RM_offOn_33 rfl rfl (by rw [show Int32.ofInt 1 = 1 from by decide]) (Nat.le_of_ble_eq_true rfl) rfl ?_
  refine g_goto (tgt := 4) dc_RM_offOn_36 (by decide) ?_
  exact k1
theorem dc_RM_ones_0 : decode prog_14_method_48_code 0 = .ok (.iconst 0, 1) := by decide +kernel
theorem dc_RM_ones_1 : decode prog_14_method_48_code 1 = .ok (.istore_n 1, 1) := by decide +kernel
theorem dc_RM_ones_2 : decode prog_14_method_48_code 2 = .ok (.iconst 0, 1) := by decide +kernel
theorem dc_RM_ones_3 : decode prog_14_method_48_code 3 = .ok (.istore_n 2, 1) := by decide +kernel
theorem dc_RM_ones_4 : decode prog_14_method_48_code 4 = .ok (.iload_n 2, 1) := by decide +kernel
theorem dc_RM_ones_5 : decode prog_14_method_48_code 5 = .ok (.bipush 16, 2) := by decide +kernel
theorem dc_RM_ones_7 : decode prog_14_method_48_code 7 = .ok (.if_icmp .ge 17, 3) := by decide +kernel
theorem dc_RM_ones_10 : decode prog_14_method_48_code 10 = .ok (.iload_n 1, 1) := by decide +kernel
theorem dc_RM_ones_11 : decode prog_14_method_48_code 11 = .ok (.iload_n 0, 1) := by decide +kernel
theorem dc_RM_ones_12 : decode prog_14_method_48_code 12 = .ok (.iload_n 2, 1) := by decide +kernel
theorem dc_RM_ones_13 : decode prog_14_method_48_code 13 = .ok (.ishr, 1) := by decide +kernel
theorem dc_RM_ones_14 : decode prog_14_method_48_code 14 = .ok (.iconst 1, 1) := by decide +kernel
theorem dc_RM_ones_15 : decode prog_14_method_48_code 15 = .ok (.iand, 1) := by decide +kernel
theorem dc_RM_ones_16 : decode prog_14_method_48_code 16 = .ok (.iadd, 1) := by decide +kernel
theorem dc_RM_ones_17 : decode prog_14_method_48_code 17 = .ok (.istore_n 1, 1) := by decide +kernel
theorem dc_RM_ones_18 : decode prog_14_method_48_code 18 = .ok (.iinc 2 1, 3) := by decide +kernel
theorem dc_RM_ones_21 : decode prog_14_method_48_code 21 = .ok (.goto (-17), 3) := by decide +kernel
theorem dc_RM_ones_24 : decode prog_14_method_48_code 24 = .ok (.iload_n 1, 1) := by decide +kernel
theorem dc_RM_ones_25 : decode prog_14_method_48_code 25 = .ok (.ireturn, 1) := by decide +kernel
theorem w_RM_ones_0 {G : GC} {d : Nat} {P : PT} {I : MI} {J : MJ} {x0 : Int32} (k1 : Go G (fr G m_RM_ones d P) 4 [some (.int x0), some (.int 0), some (.int 0)] [] I J) : Go G (fr G m_RM_ones d P) 0 [some (.int x0), none, none] [] I J := by
  refine g_iconst (v := 0) dc_RM_ones_0 rfl (by decide) ?_
  refine g_istore_n (L' := [some (.int x0), some (.int 0), none]) dc_RM_ones_1 rfl rfl (Nat.le_of_ble_eq_true rfl) rfl ?_
  refine g_iconst (v := 0) dc_RM_ones_2 rfl (by decide) ?_
  refine g_istore_n (L' := [some (.int x0), some (.int 0), some (.int 0)]) dc_RM_ones_3 rfl rfl (Nat.le_of_ble_eq_true rfl) rfl ?_
  exact k1
theorem w_RM_ones_4 {G : GC} {d : Nat} {P : PT} {I : MI} {J : MJ} {x0 : Int32} {x1 : Int32} {x2 : Int32} (q1 : (16 ≤ x2) → P (some (.int x1)) I J) (k2 : (¬ (16 ≤ x2)) → Go G (fr G m_RM_ones d P) 4 [some (.int x0), some (.int (x1 + ((x0 >>> (x2 &&& 31)) &&& 1))), some (.int (x2 + 1))] [] I J) : Go G (fr G m_RM_ones d P) 4 [some (.int x0), some (.int x1), some (.int x2)] [] I J := by
  refine g_iload_n dc_RM_ones_4 rfl rfl rfl ?_
  refine g_bipush (v := 16) dc_RM_ones_5 rfl (by decide) ?_
  refine g_ic_ge (tgt := 24) dc_RM_ones_7 rfl (by decide) (fun c1 => ?_) (fun c1 => ?_)
  · refine g_iload_n dc_RM_ones_24 rfl rfl rfl ?_
    exact g_iret rfl dc_RM_ones_25 (q1 c1)
  · refine g_iload_n dc_RM_ones_10 rfl rfl rfl ?_
    refine g_iload_n dc_RM_ones_11 rfl rfl rfl ?_
    refine g_iload_n dc_RM_ones_12 rfl rfl rfl ?_
    refine g_ishr dc_RM_ones_13 rfl ?_
    refine g_iconst (v := 1) dc_RM_ones_14 rfl (by decide) ?_
    refine g_iand dc_RM_ones_15 rfl ?_
    refine g_iadd dc_RM_ones_16 rfl ?_
    refine g_istore_n (L' := [some (.int x0), some (.int (x1 + ((x0 >>> (x2 &&& 31)) &&& 1))), some (.int x2)]) dc_RM_ones_17 rfl rfl (Nat.le_of_ble_eq_true rfl) rfl ?_
    refine g_iinc (v := (x2 + 1)) (L' := [some (.int x0), some (.int (x1 + ((x0 >>> (x2 &&& 31)) &&& 1))), some (.int (x2 + 1))]) dc_RM_ones_18 rfl rfl (by rw [show Int32.ofInt 1 = 1 from by decide]) (Nat.le_of_ble_eq_true rfl) rfl ?_
    refine g_goto (tgt := 4) dc_RM_ones_21 (by decide) ?_
    exact (k2 c1)
theorem dc_RM_part_0 : decode prog_14_method_66_code 0 = .ok (.aload_n 0, 1) := by decide +kernel
theorem dc_RM_part_1 : decode prog_14_method_66_code 1 = .ok (.getfield 308, 3) := by decide +kernel
theorem dc_RM_part_4 : decode prog_14_method_66_code 4 = .ok (.ifCond .ne 7, 3) := by decide +kernel
theorem dc_RM_part_7 : decode prog_14_method_66_code 7 = .ok (.iconst (-1), 1) := by decide +kernel
theorem dc_RM_part_8 : decode prog_14_method_66_code 8 = .ok (.goto 14, 3) := by decide +kernel
theorem dc_RM_part_11 : decode prog_14_method_66_code 11 = .ok (.aload_n 0, 1) := by decide +kernel
theorem dc_RM_part_12 : decode prog_14_method_66_code 12 = .ok (.getfield 88, 3) := by decide +kernel
theorem dc_RM_part_15 : decode prog_14_method_66_code 15 = .ok (.aload_n 0, 1) := by decide +kernel
theorem dc_RM_part_16 : decode prog_14_method_66_code 16 = .ok (.getfield 308, 3) := by decide +kernel
theorem dc_RM_part_19 : decode prog_14_method_66_code 19 = .ok (.iconst 1, 1) := by decide +kernel
theorem dc_RM_part_20 : decode prog_14_method_66_code 20 = .ok (.isub, 1) := by decide +kernel
theorem dc_RM_part_21 : decode prog_14_method_66_code 21 = .ok (.iaload, 1) := by decide +kernel
theorem dc_RM_part_22 : decode prog_14_method_66_code 22 = .ok (.istore_n 1, 1) := by decide +kernel
theorem dc_RM_part_23 : decode prog_14_method_66_code 23 = .ok (.aload_n 0, 1) := by decide +kernel
theorem dc_RM_part_24 : decode prog_14_method_66_code 24 = .ok (.iconst 2, 1) := by decide +kernel
theorem dc_RM_part_25 : decode prog_14_method_66_code 25 = .ok (.iconst 0, 1) := by decide +kernel
theorem dc_RM_part_26 : decode prog_14_method_66_code 26 = .ok (.iload_n 1, 1) := by decide +kernel
theorem dc_RM_part_27 : decode prog_14_method_66_code 27 = .ok (.iconst 1, 1) := by decide +kernel
theorem dc_RM_part_28 : decode prog_14_method_66_code 28 = .ok (.iadd, 1) := by decide +kernel
theorem dc_RM_part_29 : decode prog_14_method_66_code 29 = .ok (.bipush 39, 2) := by decide +kernel
theorem dc_RM_part_31 : decode prog_14_method_66_code 31 = .ok (.invokevirtual 311, 3) := by decide +kernel
theorem dc_RM_part_34 : decode prog_14_method_66_code 34 = .ok (.istore_n 2, 1) := by decide +kernel
theorem dc_RM_part_35 : decode prog_14_method_66_code 35 = .ok (.aload_n 0, 1) := by decide +kernel
theorem dc_RM_part_36 : decode prog_14_method_66_code 36 = .ok (.aload_n 0, 1) := by decide +kernel
theorem dc_RM_part_37 : decode prog_14_method_66_code 37 = .ok (.getfield 299, 3) := by decide +kernel
theorem dc_RM_part_40 : decode prog_14_method_66_code 40 = .ok (.invokevirtual 302, 3) := by decide +kernel
theorem dc_RM_part_43 : decode prog_14_method_66_code 43 = .ok (.istore_n 3, 1) := by decide +kernel
theorem dc_RM_part_44 : decode prog_14_method_66_code 44 = .ok (.aload_n 0, 1) := by decide +kernel
theorem dc_RM_part_45 : decode prog_14_method_66_code 45 = .ok (.getfield 305, 3) := by decide +kernel
theorem dc_RM_part_48 : decode prog_14_method_66_code 48 = .ok (.iconst (-1), 1) := by decide +kernel
theorem dc_RM_part_49 : decode prog_14_method_66_code 49 = .ok (.if_icmp .ne 23, 3) := by decide +kernel
theorem dc_RM_part_52 : decode prog_14_method_66_code 52 = .ok (.iload_n 3, 1) := by decide +kernel
theorem dc_RM_part_53 : decode prog_14_method_66_code 53 = .ok (.bipush 61, 2) := by decide +kernel
theorem dc_RM_part_55 : decode prog_14_method_66_code 55 = .ok (.if_icmp .eq 17, 3) := by decide +kernel
theorem dc_RM_part_58 : decode prog_14_method_66_code 58 = .ok (.iload_n 3, 1) := by decide +kernel
theorem dc_RM_part_59 : decode prog_14_method_66_code 59 = .ok (.bipush 126, 2) := by decide +kernel
theorem dc_RM_part_61 : decode prog_14_method_66_code 61 = .ok (.if_icmp .eq 11, 3) := by decide +kernel
theorem dc_RM_part_64 : decode prog_14_method_66_code 64 = .ok (.aload_n 0, 1) := by decide +kernel
theorem dc_RM_part_65 : decode prog_14_method_66_code 65 = .ok (.aload_n 0, 1) := by decide +kernel
theorem dc_RM_part_66 : decode prog_14_method_66_code 66 = .ok (.getfield 299, 3) := by decide +kernel
theorem dc_RM_part_69 : decode prog_14_method_66_code 69 = .ok (.putfield 305, 3) := by decide +kernel
theorem dc_RM_part_72 : decode prog_14_method_66_code 72 = .ok (.aload_n 0, 1) := by decide +kernel
theorem dc_RM_part_73 : decode prog_14_method_66_code 73 = .ok (.dup, 1) := by decide +kernel
theorem dc_RM_part_74 : decode prog_14_method_66_code 74 = .ok (.getfield 299, 3) := by decide +kernel
theorem dc_RM_part_77 : decode prog_14_method_66_code 77 = .ok (.iconst 1, 1) := by decide +kernel
theorem dc_RM_part_78 : decode prog_14_method_66_code 78 = .ok (.iadd, 1) := by decide +kernel
theorem dc_RM_part_79 : decode prog_14_method_66_code 79 = .ok (.putfield 299, 3) := by decide +kernel
theorem dc_RM_part_82 : decode prog_14_method_66_code 82 = .ok (.aload_n 0, 1) := by decide +kernel
theorem dc_RM_part_83 : decode prog_14_method_66_code 83 = .ok (.getfield 305, 3) := by decide +kernel
theorem dc_RM_part_86 : decode prog_14_method_66_code 86 = .ok (.iconst (-1), 1) := by decide +kernel
theorem dc_RM_part_87 : decode prog_14_method_66_code 87 = .ok (.if_icmp .ne 18, 3) := by decide +kernel
theorem dc_RM_part_90 : decode prog_14_method_66_code 90 = .ok (.aload_n 0, 1) := by decide +kernel
theorem dc_RM_part_91 : decode prog_14_method_66_code 91 = .ok (.iconst 4, 1) := by decide +kernel
theorem dc_RM_part_92 : decode prog_14_method_66_code 92 = .ok (.iconst 1, 1) := by decide +kernel
theorem dc_RM_part_93 : decode prog_14_method_66_code 93 = .ok (.sipush (-1000), 3) := by decide +kernel
theorem dc_RM_part_96 : decode prog_14_method_66_code 96 = .ok (.sipush 1000, 3) := by decide +kernel
theorem dc_RM_part_99 : decode prog_14_method_66_code 99 = .ok (.invokevirtual 311, 3) := by decide +kernel
theorem dc_RM_part_102 : decode prog_14_method_66_code 102 = .ok (.goto 4, 3) := by decide +kernel
theorem dc_RM_part_105 : decode prog_14_method_66_code 105 = .ok (.iconst 0, 1) := by decide +kernel
theorem dc_RM_part_106 : decode prog_14_method_66_code 106 = .ok (.istore 4, 2) := by decide +kernel
theorem dc_RM_part_108 : decode prog_14_method_66_code 108 = .ok (.iconst 0, 1) := by decide +kernel
theorem dc_RM_part_109 : decode prog_14_method_66_code 109 = .ok (.istore 5, 2) := by decide +kernel
theorem dc_RM_part_111 : decode prog_14_method_66_code 111 = .ok (.aload_n 0, 1) := by decide +kernel
theorem dc_RM_part_112 : decode prog_14_method_66_code 112 = .ok (.getfield 305, 3) := by decide +kernel
theorem dc_RM_part_115 : decode prog_14_method_66_code 115 = .ok (.iconst (-1), 1) := by decide +kernel
theorem dc_RM_part_116 : decode prog_14_method_66_code 116 = .ok (.if_icmp .ne 55, 3) := by decide +kernel
theorem dc_RM_part_119 : decode prog_14_method_66_code 119 = .ok (.iload_n 3, 1) := by decide +kernel
theorem dc_RM_part_120 : decode prog_14_method_66_code 120 = .ok (.bipush 126, 2) := by decide +kernel
theorem dc_RM_part_122 : decode prog_14_method_66_code 122 = .ok (.if_icmp .ne 49, 3) := by decide +kernel
theorem dc_RM_part_125 : decode prog_14_method_66_code 125 = .ok (.aload_n 0, 1) := by decide +kernel
theorem dc_RM_part_126 : decode prog_14_method_66_code 126 = .ok (.aload_n 0, 1) := by decide +kernel
theorem dc_RM_part_127 : decode prog_14_method_66_code 127 = .ok (.getfield 299, 3) := by decide +kernel
theorem dc_RM_part_130 : decode prog_14_method_66_code 130 = .ok (.invokevirtual 302, 3) := by decide +kernel
theorem dc_RM_part_133 : decode prog_14_method_66_code 133 = .ok (.bipush 44, 2) := by decide +kernel
theorem dc_RM_part_135 : decode prog_14_method_66_code 135 = .ok (.if_icmp .ne 28, 3) := by decide +kernel
theorem dc_RM_part_138 : decode prog_14_method_66_code 138 = .ok (.aload_n 0, 1) := by decide +kernel
theorem dc_RM_part_139 : decode prog_14_method_66_code 139 = .ok (.dup, 1) := by decide +kernel
theorem dc_RM_part_140 : decode prog_14_method_66_code 140 = .ok (.getfield 299, 3) := by decide +kernel
theorem dc_RM_part_143 : decode prog_14_method_66_code 143 = .ok (.iconst 1, 1) := by decide +kernel
theorem dc_RM_part_144 : decode prog_14_method_66_code 144 = .ok (.iadd, 1) := by decide +kernel
theorem dc_RM_part_145 : decode prog_14_method_66_code 145 = .ok (.putfield 299, 3) := by decide +kernel
theorem dc_RM_part_148 : decode prog_14_method_66_code 148 = .ok (.aload_n 0, 1) := by decide +kernel
theorem dc_RM_part_149 : decode prog_14_method_66_code 149 = .ok (.iconst 4, 1) := by decide +kernel
theorem dc_RM_part_150 : decode prog_14_method_66_code 150 = .ok (.iconst 1, 1) := by decide +kernel
theorem dc_RM_part_151 : decode prog_14_method_66_code 151 = .ok (.iconst 0, 1) := by decide +kernel
theorem dc_RM_part_152 : decode prog_14_method_66_code 152 = .ok (.sipush 1000, 3) := by decide +kernel
theorem dc_RM_part_155 : decode prog_14_method_66_code 155 = .ok (.invokevirtual 311, 3) := by decide +kernel
theorem dc_RM_part_158 : decode prog_14_method_66_code 158 = .ok (.istore 5, 2) := by decide +kernel
theorem dc_RM_part_160 : decode prog_14_method_66_code 160 = .ok (.goto 11, 3) := by decide +kernel
theorem dc_RM_part_163 : decode prog_14_method_66_code 163 = .ok (.aload_n 0, 1) := by decide +kernel
theorem dc_RM_part_164 : decode prog_14_method_66_code 164 = .ok (.aload_n 0, 1) := by decide +kernel
theorem dc_RM_part_165 : decode prog_14_method_66_code 165 = .ok (.getfield 299, 3) := by decide +kernel
theorem dc_RM_part_168 : decode prog_14_method_66_code 168 = .ok (.putfield 305, 3) := by decide +kernel
theorem dc_RM_part_171 : decode prog_14_method_66_code 171 = .ok (.aload_n 0, 1) := by decide +kernel
theorem dc_RM_part_172 : decode prog_14_method_66_code 172 = .ok (.getfield 305, 3) := by decide +kernel
theorem dc_RM_part_175 : decode prog_14_method_66_code 175 = .ok (.iconst (-1), 1) := by decide +kernel
theorem dc_RM_part_176 : decode prog_14_method_66_code 176 = .ok (.if_icmp .ne 45, 3) := by decide +kernel
theorem dc_RM_part_179 : decode prog_14_method_66_code 179 = .ok (.aload_n 0, 1) := by decide +kernel
theorem dc_RM_part_180 : decode prog_14_method_66_code 180 = .ok (.getfield 88, 3) := by decide +kernel
theorem dc_RM_part_183 : decode prog_14_method_66_code 183 = .ok (.aload_n 0, 1) := by decide +kernel
theorem dc_RM_part_184 : decode prog_14_method_66_code 184 = .ok (.getfield 308, 3) := by decide +kernel
theorem dc_RM_part_187 : decode prog_14_method_66_code 187 = .ok (.iload_n 2, 1) := by decide +kernel
theorem dc_RM_part_188 : decode prog_14_method_66_code 188 = .ok (.iastore, 1) := by decide +kernel
theorem dc_RM_part_189 : decode prog_14_method_66_code 189 = .ok (.aload_n 0, 1) := by decide +kernel
theorem dc_RM_part_190 : decode prog_14_method_66_code 190 = .ok (.getfield 91, 3) := by decide +kernel
theorem dc_RM_part_193 : decode prog_14_method_66_code 193 = .ok (.aload_n 0, 1) := by decide +kernel
theorem dc_RM_part_194 : decode prog_14_method_66_code 194 = .ok (.getfield 308, 3) := by decide +kernel
theorem dc_RM_part_197 : decode prog_14_method_66_code 197 = .ok (.iload 4, 2) := by decide +kernel
theorem dc_RM_part_199 : decode prog_14_method_66_code 199 = .ok (.iastore, 1) := by decide +kernel
theorem dc_RM_part_200 : decode prog_14_method_66_code 200 = .ok (.aload_n 0, 1) := by decide +kernel
theorem dc_RM_part_201 : decode prog_14_method_66_code 201 = .ok (.getfield 94, 3) := by decide +kernel
theorem dc_RM_part_204 : decode prog_14_method_66_code 204 = .ok (.aload_n 0, 1) := by decide +kernel
theorem dc_RM_part_205 : decode prog_14_method_66_code 205 = .ok (.getfield 308, 3) := by decide +kernel
theorem dc_RM_part_208 : decode prog_14_method_66_code 208 = .ok (.iload 5, 2) := by decide +kernel
theorem dc_RM_part_210 : decode prog_14_method_66_code 210 = .ok (.iastore, 1) := by decide +kernel
theorem dc_RM_part_211 : decode prog_14_method_66_code 211 = .ok (.aload_n 0, 1) := by decide +kernel
theorem dc_RM_part_212 : decode prog_14_method_66_code 212 = .ok (.dup, 1) := by decide +kernel
theorem dc_RM_part_213 : decode prog_14_method_66_code 213 = .ok (.getfield 308, 3) := by decide +kernel
theorem dc_RM_part_216 : decode prog_14_method_66_code 216 = .ok (.iconst 1, 1) := by decide +kernel
theorem dc_RM_part_217 : decode prog_14_method_66_code 217 = .ok (.iadd, 1) := by decide +kernel
theorem dc_RM_part_218 : decode prog_14_method_66_code 218 = .ok (.putfield 308, 3) := by decide +kernel
theorem dc_RM_part_221 : decode prog_14_method_66_code 221 = .ok (.return_, 1) := by decide +kernel
theorem w_RM_part_0 {G : GC} {d : Nat} {P : PT} {I : MI} {J : MJ}  (b1 : (¬ (I 67 35) = 0) → vp_in ((I 67 35) - 1) 40) (k2 : (¬ (I 67 35) = 0) → Go G (fr G m_RM_part (d + 2) P) 22 [some (.ref 67), none, none, none, none, none] [.int (I 92 ((I 67 35) - 1).toNatClampNeg)] I J) (k3 : ((I 67 35) = 0) → Go G (fr G m_RM_part (d + 2) P) 22 [some (.ref 67), none, none, none, none, none] [.int (-1)] I J) : Go G (fr G m_RM_part (d + 2) P) 0 [some (.ref 67), none, none, none, none, none] [] I J := by
  refine g_aload_n dc_RM_part_0 rfl rfl rfl ?_
  refine g_get (C := "LevelBreaksModel") (T := T_RM) (N := 45) (k := 35) (v := .int (I 67 35)) sh_67 (by decide) rfl rfl i_RM (by decide) fl_RM_308 (Or.inl rfl) rfl dc_RM_part_1 rfl ?_
  refine g_if_ne (tgt := 11) dc_RM_part_4 rfl (by decide) (fun c1 => ?_) (fun c1 => ?_)
  · refine g_aload_n dc_RM_part_11 rfl rfl rfl ?_
    refine g_get (C := "LevelBreaksModel") (T := T_RM) (N := 45) (k := 36) (v := .ref 92) sh_67 (by decide) rfl rfl i_RM (by decide) fl_RM_88 (Or.inl rfl) rfl dc_RM_part_12 rfl ?_
    refine g_aload_n dc_RM_part_15 rfl rfl rfl ?_
    refine g_get (C := "LevelBreaksModel") (T := T_RM) (N := 45) (k := 35) (v := .int (I 67 35)) sh_67 (by decide) rfl rfl i_RM (by decide) fl_RM_308 (Or.inl rfl) rfl dc_RM_part_16 rfl ?_
    refine g_iconst (v := 1) dc_RM_part_19 rfl (by decide) ?_
    refine g_isub dc_RM_part_20 rfl ?_
    refine g_ialdv (v := (I 92 ((I 67 35) - 1).toNatClampNeg)) sh_92 (b1 c1) rfl dc_RM_part_21 rfl ?_
    exact (k2 c1)
  · refine g_iconst (v := (-1)) dc_RM_part_7 rfl (by decide) ?_
    refine g_goto (tgt := 22) dc_RM_part_8 (by decide) ?_
    exact (k3 c1)
theorem w_RM_part_22 {G : GC} {d : Nat} {P : PT} {I : MI} {J : MJ} {y0 : Int32} (k1 : Ct G (d + 1) m_RM_figures [.ref 67, .int 2, .int 0, .int (y0 + 1), .int 39] (fun r I' J' => Go G (fr G m_RM_part (d + 2) P) 34 [some (.ref 67), none, none, none, none, none] (r.toList ++ []) I' J') I J) : Go G (fr G m_RM_part (d + 2) P) 22 [some (.ref 67), none, none, none, none, none] [.int y0] I J := by
  refine g_istore_n (L' := [some (.ref 67), some (.int y0), none, none, none, none]) dc_RM_part_22 rfl rfl (Nat.le_of_ble_eq_true rfl) rfl ?_
  refine g_aload_n dc_RM_part_23 rfl rfl rfl ?_
  refine g_iconst (v := 2) dc_RM_part_24 rfl (by decide) ?_
  refine g_iconst (v := 0) dc_RM_part_25 rfl (by decide) ?_
  refine g_iload_n dc_RM_part_26 rfl rfl rfl ?_
  refine g_iconst (v := 1) dc_RM_part_27 rfl (by decide) ?_
  refine g_iadd dc_RM_part_28 rfl ?_
  refine g_bipush (v := 39) dc_RM_part_29 rfl (by decide) ?_
  refine g_weak [some (.ref 67), none, none, none, none, none] ⟨rfl, trivial⟩ ?_
  exact g_callV (T := T_RM) (N := 45) (As := [.int 2, .int 0, .int (y0 + 1), .int 39]) (rest := []) ok_RM_figures in_RM_figures se_RM_figures ml_RM_311 sh_67 (by decide) rfl rfl rfl (Nat.le_of_ble_eq_true rfl) dc_RM_part_31 rfl rOk_fr k1
theorem w_RM_part_34 {G : GC} {d : Nat} {P : PT} {I : MI} {J : MJ} {y0 : Int32} (k1 : Ct G (d + 1) m_RM_byteAt [.ref 67, .int (I 67 33)] (fun r I' J' => Go G (fr G m_RM_part (d + 2) P) 43 [some (.ref 67), none, some (.int y0), none, none, none] (r.toList ++ []) I' J') I J) : Go G (fr G m_RM_part (d + 2) P) 34 [some (.ref 67), none, none, none, none, none] [.int y0] I J := by
  refine g_istore_n (L' := [some (.ref 67), none, some (.int y0), none, none, none]) dc_RM_part_34 rfl rfl (Nat.le_of_ble_eq_true rfl) rfl ?_
  refine g_aload_n dc_RM_part_35 rfl rfl rfl ?_
  refine g_aload_n dc_RM_part_36 rfl rfl rfl ?_
  refine g_get (C := "LevelBreaksModel") (T := T_RM) (N := 45) (k := 33) (v := .int (I 67 33)) sh_67 (by decide) rfl rfl i_RM (by decide) fl_RM_299 (Or.inl rfl) rfl dc_RM_part_37 rfl ?_
  exact g_callV (T := T_RM) (N := 45) (As := [.int (I 67 33)]) (rest := []) ok_RM_byteAt in_RM_byteAt se_RM_byteAt ml_RM_302 sh_67 (by decide) rfl rfl rfl (Nat.le_of_ble_eq_true rfl) dc_RM_part_40 rfl rOk_fr k1
theorem w_RM_part_43 {G : GC} {d : Nat} {P : PT} {I : MI} {J : MJ} {x2 : Int32} {y0 : Int32} (k1 : (¬ (I 67 34) = (-1)) → Go G (fr G m_RM_part (d + 2) P) 72 [some (.ref 67), none, some (.int x2), some (.int y0), none, none] [] I J) (k2 : ((I 67 34) = (-1)) → (y0 = 61) → Go G (fr G m_RM_part (d + 2) P) 72 [some (.ref 67), none, some (.int x2), some (.int y0), none, none] [] I J) (k3 : ((I 67 34) = (-1)) → (¬ (y0 = 61)) → (y0 = 126) → Go G (fr G m_RM_part (d + 2) P) 72 [some (.ref 67), none, some (.int x2), some (.int y0), none, none] [] I J) (k4 : ((I 67 34) = (-1)) → (¬ (y0 = 61)) → (¬ (y0 = 126)) → Go G (fr G m_RM_part (d + 2) P) 72 [some (.ref 67), none, some (.int x2), some (.int y0), none, none] [] (u2 I 67 34 (I 67 33)) J) : Go G (fr G m_RM_part (d + 2) P) 43 [some (.ref 67), none, some (.int x2), none, none, none] [.int y0] I J := by
  refine g_istore_n (L' := [some (.ref 67), none, some (.int x2), some (.int y0), none, none]) dc_RM_part_43 rfl rfl (Nat.le_of_ble_eq_true rfl) rfl ?_
  refine g_aload_n dc_RM_part_44 rfl rfl rfl ?_
  refine g_get (C := "LevelBreaksModel") (T := T_RM) (N := 45) (k := 34) (v := .int (I 67 34)) sh_67 (by decide) rfl rfl i_RM (by decide) fl_RM_305 (Or.inl rfl) rfl dc_RM_part_45 rfl ?_
  refine g_iconst (v := (-1)) dc_RM_part_48 rfl (by decide) ?_
  refine g_ic_ne (tgt := 72) dc_RM_part_49 rfl (by decide) (fun c1 => ?_) (fun c1 => ?_)
  · exact (k1 c1)
  · refine g_iload_n dc_RM_part_52 rfl rfl rfl ?_
    refine g_bipush (v := 61) dc_RM_part_53 rfl (by decide) ?_
    refine g_ic_eq (tgt := 72) dc_RM_part_55 rfl (by decide) (fun c2 => ?_) (fun c2 => ?_)
    · exact (k2 c1 c2)
    · refine g_iload_n dc_RM_part_58 rfl rfl rfl ?_
      refine g_bipush (v := 126) dc_RM_part_59 rfl (by decide) ?_
      refine g_ic_eq (tgt := 72) dc_RM_part_61 rfl (by decide) (fun c3 => ?_) (fun c3 => ?_)
      · exact (k3 c1 c2 c3)
      · refine g_aload_n dc_RM_part_64 rfl rfl rfl ?_
        refine g_aload_n dc_RM_part_65 rfl rfl rfl ?_
        refine g_get (C := "LevelBreaksModel") (T := T_RM) (N := 45) (k := 33) (v := .int (I 67 33)) sh_67 (by decide) rfl rfl i_RM (by decide) fl_RM_299 (Or.inl rfl) rfl dc_RM_part_66 rfl ?_
        refine g_putI (C := "LevelBreaksModel") (T := T_RM) (N := 45) (k := 34) (ty := t_RM) sh_67 (by decide) rfl rfl i_RM p_RM n_RM (by decide) fl_RM_305 (Or.inl rfl) rfl (by decide) dc_RM_part_69 rfl ?_
        exact (k4 c1 c2 c3)
theorem w_RM_part_72 {G : GC} {d : Nat} {P : PT} {I : MI} {J : MJ} {x2 : Int32} {x3 : Int32} (k1 : (¬ (I 67 34) = (-1)) → Go G (fr G m_RM_part (d + 2) P) 106 [some (.ref 67), none, some (.int x2), some (.int x3), none, none] [.int 0] (u2 I 67 33 ((I 67 33) + 1)) J) (k2 : ((I 67 34) = (-1)) → Ct G (d + 1) m_RM_figures [.ref 67, .int 4, .int 1, .int (-1000), .int 1000] (fun r I' J' => Go G (fr G m_RM_part (d + 2) P) 102 [some (.ref 67), none, some (.int x2), some (.int x3), none, none] (r.toList ++ []) I' J') (u2 I 67 33 ((I 67 33) + 1)) J) : Go G (fr G m_RM_part (d + 2) P) 72 [some (.ref 67), none, some (.int x2), some (.int x3), none, none] [] I J := by
  refine g_aload_n dc_RM_part_72 rfl rfl rfl ?_
  refine g_dup dc_RM_part_73 rfl rfl ?_
  refine g_get (C := "LevelBreaksModel") (T := T_RM) (N := 45) (k := 33) (v := .int (I 67 33)) sh_67 (by decide) rfl rfl i_RM (by decide) fl_RM_299 (Or.inl rfl) rfl dc_RM_part_74 rfl ?_
  refine g_iconst (v := 1) dc_RM_part_77 rfl (by decide) ?_
  refine g_iadd dc_RM_part_78 rfl ?_
  refine g_putI (C := "LevelBreaksModel") (T := T_RM) (N := 45) (k := 33) (ty := t_RM) sh_67 (by decide) rfl rfl i_RM p_RM n_RM (by decide) fl_RM_299 (Or.inl rfl) rfl (by decide) dc_RM_part_79 rfl ?_
  refine g_aload_n dc_RM_part_82 rfl rfl rfl ?_
  refine g_get (C := "LevelBreaksModel") (T := T_RM) (N := 45) (k := 34) (v := .int (I 67 34)) sh_67 (by decide) rfl rfl i_RM (by decide) fl_RM_305 (Or.inl rfl) rfl dc_RM_part_83 rfl ?_
  refine g_iconst (v := (-1)) dc_RM_part_86 rfl (by decide) ?_
  refine g_ic_ne (tgt := 105) dc_RM_part_87 rfl (by decide) (fun c1 => ?_) (fun c1 => ?_)
  · refine g_iconst (v := 0) dc_RM_part_105 rfl (by decide) ?_
    exact (k1 c1)
  · refine g_aload_n dc_RM_part_90 rfl rfl rfl ?_
    refine g_iconst (v := 4) dc_RM_part_91 rfl (by decide) ?_
    refine g_iconst (v := 1) dc_RM_part_92 rfl (by decide) ?_
    refine g_sipush (v := (-1000)) dc_RM_part_93 rfl (by decide) ?_
    refine g_sipush (v := 1000) dc_RM_part_96 rfl (by decide) ?_
    exact g_callV (T := T_RM) (N := 45) (As := [.int 4, .int 1, .int (-1000), .int 1000]) (rest := []) ok_RM_figures in_RM_figures se_RM_figures ml_RM_311 sh_67 (by decide) rfl rfl rfl (Nat.le_of_ble_eq_true rfl) dc_RM_part_99 rfl rOk_fr (k2 c1)
theorem w_RM_part_102 {G : GC} {d : Nat} {P : PT} {I : MI} {J : MJ} {x2 : Int32} {x3 : Int32} {y0 : Int32} (k1 : Go G (fr G m_RM_part (d + 2) P) 106 [some (.ref 67), none, some (.int x2), some (.int x3), none, none] [.int y0] I J) : Go G (fr G m_RM_part (d + 2) P) 102 [some (.ref 67), none, some (.int x2), some (.int x3), none, none] [.int y0] I J := by
  refine g_goto (tgt := 106) dc_RM_part_102 (by decide) ?_
  exact k1
theorem w_RM_part_106 {G : GC} {d : Nat} {P : PT} {I : MI} {J : MJ} {x2 : Int32} {x3 : Int32} {y0 : Int32} (k1 : (¬ (I 67 34) = (-1)) → Go G (fr G m_RM_part (d + 2) P) 171 [some (.ref 67), none, some (.int x2), none, some (.int y0), some (.int 0)] [] I J) (k2 : ((I 67 34) = (-1)) → (¬ x3 = 126) → Go G (fr G m_RM_part (d + 2) P) 171 [some (.ref 67), none, some (.int x2), none, some (.int y0), some (.int 0)] [] I J) (k3 : ((I 67 34) = (-1)) → (x3 = 126) → Ct G (d + 1) m_RM_byteAt [.ref 67, .int (I 67 33)] (fun r I' J' => Go G (fr G m_RM_part (d + 2) P) 133 [some (.ref 67), none, some (.int x2), none, some (.int y0), some (.int 0)] (r.toList ++ []) I' J') I J) : Go G (fr G m_RM_part (d + 2) P) 106 [some (.ref 67), none, some (.int x2), some (.int x3), none, none] [.int y0] I J := by
  refine g_istore (L' := [some (.ref 67), none, some (.int x2), some (.int x3), some (.int y0), none]) dc_RM_part_106 rfl (Nat.le_of_ble_eq_true rfl) rfl ?_
  refine g_iconst (v := 0) dc_RM_part_108 rfl (by decide) ?_
  refine g_istore (L' := [some (.ref 67), none, some (.int x2), some (.int x3), some (.int y0), some (.int 0)]) dc_RM_part_109 rfl (Nat.le_of_ble_eq_true rfl) rfl ?_
  refine g_aload_n dc_RM_part_111 rfl rfl rfl ?_
  refine g_get (C := "LevelBreaksModel") (T := T_RM) (N := 45) (k := 34) (v := .int (I 67 34)) sh_67 (by decide) rfl rfl i_RM (by decide) fl_RM_305 (Or.inl rfl) rfl dc_RM_part_112 rfl ?_
  refine g_iconst (v := (-1)) dc_RM_part_115 rfl (by decide) ?_
  refine g_ic_ne (tgt := 171) dc_RM_part_116 rfl (by decide) (fun c1 => ?_) (fun c1 => ?_)
  · refine g_weak [some (.ref 67), none, some (.int x2), none, some (.int y0), some (.int 0)] ⟨rfl, ⟨rfl, ⟨rfl, ⟨rfl, trivial⟩⟩⟩⟩ ?_
    exact (k1 c1)
  · refine g_iload_n dc_RM_part_119 rfl rfl rfl ?_
    refine g_bipush (v := 126) dc_RM_part_120 rfl (by decide) ?_
    refine g_ic_ne (tgt := 171) dc_RM_part_122 rfl (by decide) (fun c2 => ?_) (fun c2 => ?_)
    · refine g_weak [some (.ref 67), none, some (.int x2), none, some (.int y0), some (.int 0)] ⟨rfl, ⟨rfl, ⟨rfl, ⟨rfl, trivial⟩⟩⟩⟩ ?_
      exact (k2 c1 c2)
    · refine g_aload_n dc_RM_part_125 rfl rfl rfl ?_
      refine g_aload_n dc_RM_part_126 rfl rfl rfl ?_
      refine g_get (C := "LevelBreaksModel") (T := T_RM) (N := 45) (k := 33) (v := .int (I 67 33)) sh_67 (by decide) rfl rfl i_RM (by decide) fl_RM_299 (Or.inl rfl) rfl dc_RM_part_127 rfl ?_
      refine g_weak [some (.ref 67), none, some (.int x2), none, some (.int y0), some (.int 0)] ⟨rfl, ⟨rfl, ⟨rfl, ⟨rfl, trivial⟩⟩⟩⟩ ?_
      exact g_callV (T := T_RM) (N := 45) (As := [.int (I 67 33)]) (rest := []) ok_RM_byteAt in_RM_byteAt se_RM_byteAt ml_RM_302 sh_67 (by decide) rfl rfl rfl (Nat.le_of_ble_eq_true rfl) dc_RM_part_130 rfl rOk_fr (k3 c1 c2)
theorem w_RM_part_133 {G : GC} {d : Nat} {P : PT} {I : MI} {J : MJ} {x2 : Int32} {x4 : Int32} {x5 : Int32} {y0 : Int32} (k1 : (¬ y0 = 44) → Go G (fr G m_RM_part (d + 2) P) 171 [some (.ref 67), none, some (.int x2), none, some (.int x4), some (.int x5)] [] (u2 I 67 34 (I 67 33)) J) (k2 : (y0 = 44) → Ct G (d + 1) m_RM_figures [.ref 67, .int 4, .int 1, .int 0, .int 1000] (fun r I' J' => Go G (fr G m_RM_part (d + 2) P) 158 [some (.ref 67), none, some (.int x2), none, some (.int x4), none] (r.toList ++ []) I' J') (u2 I 67 33 ((I 67 33) + 1)) J) : Go G (fr G m_RM_part (d + 2) P) 133 [some (.ref 67), none, some (.int x2), none, some (.int x4), some (.int x5)] [.int y0] I J := by
  refine g_bipush (v := 44) dc_RM_part_133 rfl (by decide) ?_
  refine g_ic_ne (tgt := 163) dc_RM_part_135 rfl (by decide) (fun c1 => ?_) (fun c1 => ?_)
  · refine g_aload_n dc_RM_part_163 rfl rfl rfl ?_
    refine g_aload_n dc_RM_part_164 rfl rfl rfl ?_
    refine g_get (C := "LevelBreaksModel") (T := T_RM) (N := 45) (k := 33) (v := .int (I 67 33)) sh_67 (by decide) rfl rfl i_RM (by decide) fl_RM_299 (Or.inl rfl) rfl dc_RM_part_165 rfl ?_
    refine g_putI (C := "LevelBreaksModel") (T := T_RM) (N := 45) (k := 34) (ty := t_RM) sh_67 (by decide) rfl rfl i_RM p_RM n_RM (by decide) fl_RM_305 (Or.inl rfl) rfl (by decide) dc_RM_part_168 rfl ?_
    exact (k1 c1)
  · refine g_aload_n dc_RM_part_138 rfl rfl rfl ?_
    refine g_dup dc_RM_part_139 rfl rfl ?_
    refine g_get (C := "LevelBreaksModel") (T := T_RM) (N := 45) (k := 33) (v := .int (I 67 33)) sh_67 (by decide) rfl rfl i_RM (by decide) fl_RM_299 (Or.inl rfl) rfl dc_RM_part_140 rfl ?_
    refine g_iconst (v := 1) dc_RM_part_143 rfl (by decide) ?_
    refine g_iadd dc_RM_part_144 rfl ?_
    refine g_putI (C := "LevelBreaksModel") (T := T_RM) (N := 45) (k := 33) (ty := t_RM) sh_67 (by decide) rfl rfl i_RM p_RM n_RM (by decide) fl_RM_299 (Or.inl rfl) rfl (by decide) dc_RM_part_145 rfl ?_
    refine g_aload_n dc_RM_part_148 rfl rfl rfl ?_
    refine g_iconst (v := 4) dc_RM_part_149 rfl (by decide) ?_
    refine g_iconst (v := 1) dc_RM_part_150 rfl (by decide) ?_
    refine g_iconst (v := 0) dc_RM_part_151 rfl (by decide) ?_
    refine g_sipush (v := 1000) dc_RM_part_152 rfl (by decide) ?_
    refine g_weak [some (.ref 67), none, some (.int x2), none, some (.int x4), none] ⟨rfl, ⟨rfl, ⟨rfl, trivial⟩⟩⟩ ?_
    exact g_callV (T := T_RM) (N := 45) (As := [.int 4, .int 1, .int 0, .int 1000]) (rest := []) ok_RM_figures in_RM_figures se_RM_figures ml_RM_311 sh_67 (by decide) rfl rfl rfl (Nat.le_of_ble_eq_true rfl) dc_RM_part_155 rfl rOk_fr (k2 c1)
