theorem dc_CU_addDaysCost_0 : decode prog_5_method_5_code 0 = .ok (.aload_n 2, 1) := by decide +kernel
theorem dc_CU_addDaysCost_1 : decode prog_5_method_5_code 1 = .ok (.invokevirtual 54, 3) := by decide +kernel
theorem dc_CU_addDaysCost_4 : decode prog_5_method_5_code 4 = .ok (.aload_n 1, 1) := by decide +kernel
theorem dc_CU_addDaysCost_5 : decode prog_5_method_5_code 5 = .ok (.iload_n 3, 1) := by decide +kernel
theorem dc_CU_addDaysCost_6 : decode prog_5_method_5_code 6 = .ok (.invokevirtual 101, 3) := by decide +kernel
theorem dc_CU_addDaysCost_9 : decode prog_5_method_5_code 9 = .ok (.istore 5, 2) := by decide +kernel
theorem dc_CU_addDaysCost_11 : decode prog_5_method_5_code 11 = .ok (.iload_n 3, 1) := by decide +kernel
theorem dc_CU_addDaysCost_12 : decode prog_5_method_5_code 12 = .ok (.istore 6, 2) := by decide +kernel
theorem dc_CU_addDaysCost_14 : decode prog_5_method_5_code 14 = .ok (.iload 6, 2) := by decide +kernel
theorem dc_CU_addDaysCost_16 : decode prog_5_method_5_code 16 = .ok (.bipush 40, 2) := by decide +kernel
theorem dc_CU_addDaysCost_18 : decode prog_5_method_5_code 18 = .ok (.if_icmp .ge 103, 3) := by decide +kernel
theorem dc_CU_addDaysCost_21 : decode prog_5_method_5_code 21 = .ok (.iload 5, 2) := by decide +kernel
theorem dc_CU_addDaysCost_23 : decode prog_5_method_5_code 23 = .ok (.aload_n 1, 1) := by decide +kernel
theorem dc_CU_addDaysCost_24 : decode prog_5_method_5_code 24 = .ok (.getfield 61, 3) := by decide +kernel
theorem dc_CU_addDaysCost_27 : decode prog_5_method_5_code 27 = .ok (.if_icmp .ge 25, 3) := by decide +kernel
theorem dc_CU_addDaysCost_30 : decode prog_5_method_5_code 30 = .ok (.aload_n 1, 1) := by decide +kernel
theorem dc_CU_addDaysCost_31 : decode prog_5_method_5_code 31 = .ok (.getfield 105, 3) := by decide +kernel
theorem dc_CU_addDaysCost_34 : decode prog_5_method_5_code 34 = .ok (.iload 5, 2) := by decide +kernel
theorem dc_CU_addDaysCost_36 : decode prog_5_method_5_code 36 = .ok (.iaload, 1) := by decide +kernel
theorem dc_CU_addDaysCost_37 : decode prog_5_method_5_code 37 = .ok (.iload 6, 2) := by decide +kernel
theorem dc_CU_addDaysCost_39 : decode prog_5_method_5_code 39 = .ok (.if_icmp .ne 13, 3) := by decide +kernel
theorem dc_CU_addDaysCost_42 : decode prog_5_method_5_code 42 = .ok (.aload_n 2, 1) := by decide +kernel
theorem dc_CU_addDaysCost_43 : decode prog_5_method_5_code 43 = .ok (.aload_n 1, 1) := by decide +kernel
theorem dc_CU_addDaysCost_44 : decode prog_5_method_5_code 44 = .ok (.iload 5, 2) := by decide +kernel
theorem dc_CU_addDaysCost_46 : decode prog_5_method_5_code 46 = .ok (.invokevirtual 57, 3) := by decide +kernel
theorem dc_CU_addDaysCost_49 : decode prog_5_method_5_code 49 = .ok (.iinc 5 1, 3) := by decide +kernel
theorem dc_CU_addDaysCost_52 : decode prog_5_method_5_code 52 = .ok (.aload_n 0, 1) := by decide +kernel
theorem dc_CU_addDaysCost_53 : decode prog_5_method_5_code 53 = .ok (.getfield 48, 3) := by decide +kernel
theorem dc_CU_addDaysCost_56 : decode prog_5_method_5_code 56 = .ok (.iload 6, 2) := by decide +kernel
theorem dc_CU_addDaysCost_58 : decode prog_5_method_5_code 58 = .ok (.laload, 1) := by decide +kernel
theorem dc_CU_addDaysCost_59 : decode prog_5_method_5_code 59 = .ok (.ldc2_w 95, 3) := by decide +kernel
theorem dc_CU_addDaysCost_62 : decode prog_5_method_5_code 62 = .ok (.lcmp, 1) := by decide +kernel
theorem dc_CU_addDaysCost_63 : decode prog_5_method_5_code 63 = .ok (.ifCond .eq 16, 3) := by decide +kernel
theorem dc_CU_addDaysCost_66 : decode prog_5_method_5_code 66 = .ok (.aload_n 2, 1) := by decide +kernel
theorem dc_CU_addDaysCost_67 : decode prog_5_method_5_code 67 = .ok (.getfield 108, 3) := by decide +kernel
theorem dc_CU_addDaysCost_70 : decode prog_5_method_5_code 70 = .ok (.iload 4, 2) := by decide +kernel
theorem dc_CU_addDaysCost_72 : decode prog_5_method_5_code 72 = .ok (.if_icmp .lt 7, 3) := by decide +kernel
theorem dc_CU_addDaysCost_75 : decode prog_5_method_5_code 75 = .ok (.iconst 1, 1) := by decide +kernel
theorem dc_CU_addDaysCost_76 : decode prog_5_method_5_code 76 = .ok (.goto 4, 3) := by decide +kernel
theorem dc_CU_addDaysCost_79 : decode prog_5_method_5_code 79 = .ok (.iconst 0, 1) := by decide +kernel
theorem dc_CU_addDaysCost_80 : decode prog_5_method_5_code 80 = .ok (.istore 7, 2) := by decide +kernel
theorem dc_CU_addDaysCost_82 : decode prog_5_method_5_code 82 = .ok (.aload_n 0, 1) := by decide +kernel
theorem dc_CU_addDaysCost_83 : decode prog_5_method_5_code 83 = .ok (.getfield 48, 3) := by decide +kernel
theorem dc_CU_addDaysCost_86 : decode prog_5_method_5_code 86 = .ok (.iload 6, 2) := by decide +kernel
theorem dc_CU_addDaysCost_88 : decode prog_5_method_5_code 88 = .ok (.iload 7, 2) := by decide +kernel
theorem dc_CU_addDaysCost_90 : decode prog_5_method_5_code 90 = .ok (.ifCond .eq 21, 3) := by decide +kernel
theorem dc_CU_addDaysCost_93 : decode prog_5_method_5_code 93 = .ok (.aload_n 0, 1) := by decide +kernel
theorem dc_CU_addDaysCost_94 : decode prog_5_method_5_code 94 = .ok (.getfield 48, 3) := by decide +kernel
theorem dc_CU_addDaysCost_97 : decode prog_5_method_5_code 97 = .ok (.iload 6, 2) := by decide +kernel
theorem dc_CU_addDaysCost_99 : decode prog_5_method_5_code 99 = .ok (.laload, 1) := by decide +kernel
theorem dc_CU_addDaysCost_100 : decode prog_5_method_5_code 100 = .ok (.aload_n 2, 1) := by decide +kernel
theorem dc_CU_addDaysCost_101 : decode prog_5_method_5_code 101 = .ok (.aload_n 1, 1) := by decide +kernel
theorem dc_CU_addDaysCost_102 : decode prog_5_method_5_code 102 = .ok (.iconst (-1), 1) := by decide +kernel
theorem dc_CU_addDaysCost_103 : decode prog_5_method_5_code 103 = .ok (.iconst (-1), 1) := by decide +kernel
theorem dc_CU_addDaysCost_104 : decode prog_5_method_5_code 104 = .ok (.invokevirtual 109, 3) := by decide +kernel
theorem dc_CU_addDaysCost_107 : decode prog_5_method_5_code 107 = .ok (.ladd, 1) := by decide +kernel
theorem dc_CU_addDaysCost_108 : decode prog_5_method_5_code 108 = .ok (.goto 6, 3) := by decide +kernel
theorem dc_CU_addDaysCost_111 : decode prog_5_method_5_code 111 = .ok (.ldc2_w 95, 3) := by decide +kernel
theorem dc_CU_addDaysCost_114 : decode prog_5_method_5_code 114 = .ok (.lastore, 1) := by decide +kernel
theorem dc_CU_addDaysCost_115 : decode prog_5_method_5_code 115 = .ok (.iinc 6 1, 3) := by decide +kernel
theorem dc_CU_addDaysCost_118 : decode prog_5_method_5_code 118 = .ok (.goto (-104), 3) := by decide +kernel
theorem dc_CU_addDaysCost_121 : decode prog_5_method_5_code 121 = .ok (.return_, 1) := by decide +kernel
theorem w_CU_addDaysCost_0 {G : GC} {d : Nat} {P : PT} {I : MI} {J : MJ} {o1 : Nat} (h1 : PtsAt o1) {o2 : Nat} (h2 : MesAt o2) {x3 : Int32} {x4 : Int32} (k1 : Ct G (d + 2) (mesM o2 m_SU_restart m_MI_restart m_ON_restart) [.ref o2] (fun r I' J' => Go G (fr G m_CU_addDaysCost (d + 3) P) 4 [some (.ref 33), some (.ref o1), some (.ref o2), some (.int x3), some (.int x4), none, none, none] (r.toList ++ []) I' J') I J) : Go G (fr G m_CU_addDaysCost (d + 3) P) 0 [some (.ref 33), some (.ref o1), some (.ref o2), some (.int x3), some (.int x4), none, none, none] [] I J := by
  refine g_aload_n dc_CU_addDaysCost_0 rfl rfl rfl ?_
  exact g_callM_restart (As := []) (rest := []) h2 ml_CU_54 rfl rfl (Nat.le_of_ble_eq_true rfl) dc_CU_addDaysCost_1 rfl rOk_fr k1
theorem w_CU_addDaysCost_4 {G : GC} {d : Nat} {P : PT} {I : MI} {J : MJ} {o1 : Nat} (h1 : PtsAt o1) {o2 : Nat} (h2 : MesAt o2) {x3 : Int32} {x4 : Int32} (k1 : Ct G (d + 2) m_PO_firstFrom [.ref o1, .int x3] (fun r I' J' => Go G (fr G m_CU_addDaysCost (d + 3) P) 9 [some (.ref 33), some (.ref o1), some (.ref o2), some (.int x3), some (.int x4), none, none, none] (r.toList ++ []) I' J') I J) : Go G (fr G m_CU_addDaysCost (d + 3) P) 4 [some (.ref 33), some (.ref o1), some (.ref o2), some (.int x3), some (.int x4), none, none, none] [] I J := by
  refine g_aload_n dc_CU_addDaysCost_4 rfl rfl rfl ?_
  refine g_iload_n dc_CU_addDaysCost_5 rfl rfl rfl ?_
  exact g_callV (T := T_PO) (N := 5) (As := [.int x3]) (rest := []) ok_PO_firstFrom in_PO_firstFrom se_PO_firstFrom ml_CU_101 h1.1 (by decide) rfl rfl rfl (Nat.le_of_ble_eq_true rfl) dc_CU_addDaysCost_6 rfl rOk_fr k1
theorem w_CU_addDaysCost_9 {G : GC} {d : Nat} {P : PT} {I : MI} {J : MJ} {o1 : Nat} (h1 : PtsAt o1) {o2 : Nat} (h2 : MesAt o2) {x3 : Int32} {x4 : Int32} {y0 : Int32} (k1 : Go G (fr G m_CU_addDaysCost (d + 3) P) 14 [some (.ref 33), some (.ref o1), some (.ref o2), none, some (.int x4), some (.int y0), some (.int x3), none] [] I J) : Go G (fr G m_CU_addDaysCost (d + 3) P) 9 [some (.ref 33), some (.ref o1), some (.ref o2), some (.int x3), some (.int x4), none, none, none] [.int y0] I J := by
  refine g_istore (L' := [some (.ref 33), some (.ref o1), some (.ref o2), some (.int x3), some (.int x4), some (.int y0), none, none]) dc_CU_addDaysCost_9 rfl (Nat.le_of_ble_eq_true rfl) rfl ?_
  refine g_iload_n dc_CU_addDaysCost_11 rfl rfl rfl ?_
  refine g_istore (L' := [some (.ref 33), some (.ref o1), some (.ref o2), some (.int x3), some (.int x4), some (.int y0), some (.int x3), none]) dc_CU_addDaysCost_12 rfl (Nat.le_of_ble_eq_true rfl) rfl ?_
  refine g_weak [some (.ref 33), some (.ref o1), some (.ref o2), none, some (.int x4), some (.int y0), some (.int x3), none] ⟨rfl, ⟨rfl, ⟨rfl, ⟨rfl, ⟨rfl, ⟨rfl, trivial⟩⟩⟩⟩⟩⟩ ?_
  exact k1
theorem w_CU_addDaysCost_14 {G : GC} {d : Nat} {P : PT} {I : MI} {J : MJ} {o1 : Nat} (h1 : PtsAt o1) {o2 : Nat} (h2 : MesAt o2) {x4 : Int32} {x5 : Int32} {x6 : Int32} (q1 : (40 ≤ x6) → P none I J) (k2 : (¬ (40 ≤ x6)) → ((I o1 4) ≤ x5) → Go G (fr G m_CU_addDaysCost (d + 3) P) 52 [some (.ref 33), some (.ref o1), some (.ref o2), none, some (.int x4), some (.int x5), some (.int x6), none] [] I J) (b3 : (¬ (40 ≤ x6)) → (¬ ((I o1 4) ≤ x5)) → vp_in x5 40) (k4 : (¬ (40 ≤ x6)) → (¬ ((I o1 4) ≤ x5)) → (¬ (I (o1 + 2) x5.toNatClampNeg) = x6) → Go G (fr G m_CU_addDaysCost (d + 3) P) 52 [some (.ref 33), some (.ref o1), some (.ref o2), none, some (.int x4), some (.int x5), some (.int x6), none] [] I J) (k5 : (¬ (40 ≤ x6)) → (¬ ((I o1 4) ≤ x5)) → ((I (o1 + 2) x5.toNatClampNeg) = x6) → Ct G (d + 2) (mesM o2 m_SU_extend m_MI_extend m_ON_extend) [.ref o2, .ref o1, .int x5] (fun r I' J' => Go G (fr G m_CU_addDaysCost (d + 3) P) 49 [some (.ref 33), some (.ref o1), some (.ref o2), none, some (.int x4), some (.int x5), some (.int x6), none] (r.toList ++ []) I' J') I J) : Go G (fr G m_CU_addDaysCost (d + 3) P) 14 [some (.ref 33), some (.ref o1), some (.ref o2), none, some (.int x4), some (.int x5), some (.int x6), none] [] I J := by
  refine g_iload dc_CU_addDaysCost_14 rfl rfl ?_
  refine g_bipush (v := 40) dc_CU_addDaysCost_16 rfl (by decide) ?_
  refine g_ic_ge (tgt := 121) dc_CU_addDaysCost_18 rfl (by decide) (fun c1 => ?_) (fun c1 => ?_)
  · exact g_vret rfl dc_CU_addDaysCost_121 (q1 c1)
  · refine g_iload dc_CU_addDaysCost_21 rfl rfl ?_
    refine g_aload_n dc_CU_addDaysCost_23 rfl rfl rfl ?_
    refine g_get (C := "LevelBreaks$Points") (T := T_PO) (N := 5) (k := 4) (v := .int (I o1 4)) h1.1 (by decide) rfl rfl i_PO (by decide) fl_CU_61 (Or.inl rfl) rfl dc_CU_addDaysCost_24 rfl ?_
    refine g_ic_ge (tgt := 52) dc_CU_addDaysCost_27 rfl (by decide) (fun c2 => ?_) (fun c2 => ?_)
    · exact (k2 c1 c2)
    · refine g_aload_n dc_CU_addDaysCost_30 rfl rfl rfl ?_
      refine g_get (C := "LevelBreaks$Points") (T := T_PO) (N := 5) (k := 1) (v := .ref (o1 + 2)) h1.1 (by decide) rfl rfl i_PO (by decide) fl_CU_105 (Or.inl rfl) rfl dc_CU_addDaysCost_31 rfl ?_
      refine g_iload dc_CU_addDaysCost_34 rfl rfl ?_
      refine g_ialdv (v := (I (o1 + 2) x5.toNatClampNeg)) h1.2.2.1 (b3 c1 c2) rfl dc_CU_addDaysCost_36 rfl ?_
      refine g_iload dc_CU_addDaysCost_37 rfl rfl ?_
      refine g_ic_ne (tgt := 52) dc_CU_addDaysCost_39 rfl (by decide) (fun c3 => ?_) (fun c3 => ?_)
      · exact (k4 c1 c2 c3)
      · refine g_aload_n dc_CU_addDaysCost_42 rfl rfl rfl ?_
        refine g_aload_n dc_CU_addDaysCost_43 rfl rfl rfl ?_
        refine g_iload dc_CU_addDaysCost_44 rfl rfl ?_
        exact g_callM_extend (As := [.ref o1, .int x5]) (rest := []) h2 ml_CU_57 rfl rfl (Nat.le_of_ble_eq_true rfl) dc_CU_addDaysCost_46 rfl rOk_fr (k5 c1 c2 c3)
theorem w_CU_addDaysCost_49 {G : GC} {d : Nat} {P : PT} {I : MI} {J : MJ} {o1 : Nat} (h1 : PtsAt o1) {o2 : Nat} (h2 : MesAt o2) {x4 : Int32} {x5 : Int32} {x6 : Int32} (k1 : Go G (fr G m_CU_addDaysCost (d + 3) P) 52 [some (.ref 33), some (.ref o1), some (.ref o2), none, some (.int x4), some (.int (x5 + 1)), some (.int x6), none] [] I J) : Go G (fr G m_CU_addDaysCost (d + 3) P) 49 [some (.ref 33), some (.ref o1), some (.ref o2), none, some (.int x4), some (.int x5), some (.int x6), none] [] I J := by
  refine g_iinc (v := (x5 + 1)) (L' := [some (.ref 33), some (.ref o1), some (.ref o2), none, some (.int x4), some (.int (x5 + 1)), some (.int x6), none]) dc_CU_addDaysCost_49 rfl rfl (by rw [show Int32.ofInt 1 = 1 from by decide]) (Nat.le_of_ble_eq_true rfl) rfl ?_
  exact k1
theorem w_CU_addDaysCost_52 {G : GC} {d : Nat} {P : PT} {I : MI} {J : MJ} {o1 : Nat} (h1 : PtsAt o1) {o2 : Nat} (h2 : MesAt o2) {x4 : Int32} {x5 : Int32} {x6 : Int32} (b1 : vp_in x6 40) (k2 : ((J 48 x6.toNatClampNeg) = (-1)) → Go G (fr G m_CU_addDaysCost (d + 3) P) 79 [some (.ref 33), some (.ref o1), some (.ref o2), none, some (.int x4), some (.int x5), some (.int x6), none] [] I J) (k3 : (¬ ((J 48 x6.toNatClampNeg) = (-1))) → ((I o2 0) < x4) → Go G (fr G m_CU_addDaysCost (d + 3) P) 79 [some (.ref 33), some (.ref o1), some (.ref o2), none, some (.int x4), some (.int x5), some (.int x6), none] [] I J) (k4 : (¬ ((J 48 x6.toNatClampNeg) = (-1))) → (¬ ((I o2 0) < x4)) → Go G (fr G m_CU_addDaysCost (d + 3) P) 80 [some (.ref 33), some (.ref o1), some (.ref o2), none, some (.int x4), some (.int x5), some (.int x6), none] [.int 1] I J) : Go G (fr G m_CU_addDaysCost (d + 3) P) 52 [some (.ref 33), some (.ref o1), some (.ref o2), none, some (.int x4), some (.int x5), some (.int x6), none] [] I J := by
  refine g_aload_n dc_CU_addDaysCost_52 rfl rfl rfl ?_
  refine g_get (C := "LevelBreaks$Cuts") (T := T_CU) (N := 13) (k := 7) (v := .ref 48) sh_33 (by decide) rfl rfl i_CU (by decide) fl_CU_48 (Or.inl rfl) rfl dc_CU_addDaysCost_53 rfl ?_
  refine g_iload dc_CU_addDaysCost_56 rfl rfl ?_
  refine g_laldv (v := (J 48 x6.toNatClampNeg)) sh_48 b1 rfl dc_CU_addDaysCost_58 rfl ?_
  refine g_ldc2 (v := (-1)) kl_CU_95 dc_CU_addDaysCost_59 rfl ?_
  refine g_lc_eq (tgt := 79) dc_CU_addDaysCost_62 rfl dc_CU_addDaysCost_63 rfl (by decide) (fun c1 => ?_) (fun c1 => ?_)
  · exact (k2 c1)
  · refine g_aload_n dc_CU_addDaysCost_66 rfl rfl rfl ?_
    refine g_getM (v := (I o2 0)) h2 fl_CU_108 rfl dc_CU_addDaysCost_67 rfl ?_
    refine g_iload dc_CU_addDaysCost_70 rfl rfl ?_
    refine g_ic_lt (tgt := 79) dc_CU_addDaysCost_72 rfl (by decide) (fun c2 => ?_) (fun c2 => ?_)
    · exact (k3 c1 c2)
    · refine g_iconst (v := 1) dc_CU_addDaysCost_75 rfl (by decide) ?_
      refine g_goto (tgt := 80) dc_CU_addDaysCost_76 (by decide) ?_
      exact (k4 c1 c2)
theorem w_CU_addDaysCost_79 {G : GC} {d : Nat} {P : PT} {I : MI} {J : MJ} {o1 : Nat} (h1 : PtsAt o1) {o2 : Nat} (h2 : MesAt o2) {x4 : Int32} {x5 : Int32} {x6 : Int32} (k1 : Go G (fr G m_CU_addDaysCost (d + 3) P) 80 [some (.ref 33), some (.ref o1), some (.ref o2), none, some (.int x4), some (.int x5), some (.int x6), none] [.int 0] I J) : Go G (fr G m_CU_addDaysCost (d + 3) P) 79 [some (.ref 33), some (.ref o1), some (.ref o2), none, some (.int x4), some (.int x5), some (.int x6), none] [] I J := by
  refine g_iconst (v := 0) dc_CU_addDaysCost_79 rfl (by decide) ?_
  exact k1
theorem w_CU_addDaysCost_80 {G : GC} {d : Nat} {P : PT} {I : MI} {J : MJ} {o1 : Nat} (h1 : PtsAt o1) {o2 : Nat} (h2 : MesAt o2) {x4 : Int32} {x5 : Int32} {x6 : Int32} {y0 : Int32} (k1 : (y0 = 0) → Go G (fr G m_CU_addDaysCost (d + 3) P) 114 [some (.ref 33), some (.ref o1), some (.ref o2), none, some (.int x4), some (.int x5), some (.int x6), none] [.long (-1), .int x6, .ref 48] I J) (b2 : (¬ (y0 = 0)) → vp_in x6 40) (k3 : (¬ (y0 = 0)) → Ct G (d + 2) (mesM o2 m_SU_above m_MI_above m_ON_above) [.ref o2, .ref o1, .int (-1), .int (-1)] (fun r I' J' => Go G (fr G m_CU_addDaysCost (d + 3) P) 107 [some (.ref 33), some (.ref o1), some (.ref o2), none, some (.int x4), some (.int x5), some (.int x6), none] (r.toList ++ [.long (J 48 x6.toNatClampNeg), .int x6, .ref 48]) I' J') I J) : Go G (fr G m_CU_addDaysCost (d + 3) P) 80 [some (.ref 33), some (.ref o1), some (.ref o2), none, some (.int x4), some (.int x5), some (.int x6), none] [.int y0] I J := by
  refine g_istore (L' := [some (.ref 33), some (.ref o1), some (.ref o2), none, some (.int x4), some (.int x5), some (.int x6), some (.int y0)]) dc_CU_addDaysCost_80 rfl (Nat.le_of_ble_eq_true rfl) rfl ?_
  refine g_aload_n dc_CU_addDaysCost_82 rfl rfl rfl ?_
  refine g_get (C := "LevelBreaks$Cuts") (T := T_CU) (N := 13) (k := 7) (v := .ref 48) sh_33 (by decide) rfl rfl i_CU (by decide) fl_CU_48 (Or.inl rfl) rfl dc_CU_addDaysCost_83 rfl ?_
  refine g_iload dc_CU_addDaysCost_86 rfl rfl ?_
  refine g_iload dc_CU_addDaysCost_88 rfl rfl ?_
  refine g_if_eq (tgt := 111) dc_CU_addDaysCost_90 rfl (by decide) (fun c1 => ?_) (fun c1 => ?_)
  · refine g_ldc2 (v := (-1)) kl_CU_95 dc_CU_addDaysCost_111 rfl ?_
    refine g_weak [some (.ref 33), some (.ref o1), some (.ref o2), none, some (.int x4), some (.int x5), some (.int x6), none] ⟨rfl, ⟨rfl, ⟨rfl, ⟨rfl, ⟨rfl, ⟨rfl, trivial⟩⟩⟩⟩⟩⟩ ?_
    exact (k1 c1)
  · refine g_aload_n dc_CU_addDaysCost_93 rfl rfl rfl ?_
    refine g_get (C := "LevelBreaks$Cuts") (T := T_CU) (N := 13) (k := 7) (v := .ref 48) sh_33 (by decide) rfl rfl i_CU (by decide) fl_CU_48 (Or.inl rfl) rfl dc_CU_addDaysCost_94 rfl ?_
    refine g_iload dc_CU_addDaysCost_97 rfl rfl ?_
    refine g_laldv (v := (J 48 x6.toNatClampNeg)) sh_48 (b2 c1) rfl dc_CU_addDaysCost_99 rfl ?_
    refine g_aload_n dc_CU_addDaysCost_100 rfl rfl rfl ?_
    refine g_aload_n dc_CU_addDaysCost_101 rfl rfl rfl ?_
    refine g_iconst (v := (-1)) dc_CU_addDaysCost_102 rfl (by decide) ?_
    refine g_iconst (v := (-1)) dc_CU_addDaysCost_103 rfl (by decide) ?_
    refine g_weak [some (.ref 33), some (.ref o1), some (.ref o2), none, some (.int x4), some (.int x5), some (.int x6), none] ⟨rfl, ⟨rfl, ⟨rfl, ⟨rfl, ⟨rfl, ⟨rfl, trivial⟩⟩⟩⟩⟩⟩ ?_
    exact g_callM_above (As := [.ref o1, .int (-1), .int (-1)]) (rest := [.long (J 48 x6.toNatClampNeg), .int x6, .ref 48]) h2 ml_CU_109 rfl rfl (Nat.le_of_ble_eq_true rfl) dc_CU_addDaysCost_104 rfl rOk_fr (k3 c1)
theorem w_CU_addDaysCost_107 {G : GC} {d : Nat} {P : PT} {I : MI} {J : MJ} {o1 : Nat} (h1 : PtsAt o1) {o2 : Nat} (h2 : MesAt o2) {x4 : Int32} {x5 : Int32} {x6 : Int32} {y1 : Int32} {s2 : Int64} {s3 : Int64} (k1 : Go G (fr G m_CU_addDaysCost (d + 3) P) 114 [some (.ref 33), some (.ref o1), some (.ref o2), none, some (.int x4), some (.int x5), some (.int x6), none] [.long (s2 + s3), .int y1, .ref 48] I J) : Go G (fr G m_CU_addDaysCost (d + 3) P) 107 [some (.ref 33), some (.ref o1), some (.ref o2), none, some (.int x4), some (.int x5), some (.int x6), none] [.long s3, .long s2, .int y1, .ref 48] I J := by
  refine g_ladd dc_CU_addDaysCost_107 rfl ?_
  refine g_goto (tgt := 114) dc_CU_addDaysCost_108 (by decide) ?_
  exact k1
theorem w_CU_addDaysCost_114 {G : GC} {d : Nat} {P : PT} {I : MI} {J : MJ} {o1 : Nat} (h1 : PtsAt o1) {o2 : Nat} (h2 : MesAt o2) {x4 : Int32} {x5 : Int32} {x6 : Int32} {y1 : Int32} {s2 : Int64} (b1 : vp_in y1 40) (k2 : Go G (fr G m_CU_addDaysCost (d + 3) P) 14 [some (.ref 33), some (.ref o1), some (.ref o2), none, some (.int x4), some (.int x5), some (.int (x6 + 1)), none] [] I (u2 J 48 y1.toNatClampNeg s2)) : Go G (fr G m_CU_addDaysCost (d + 3) P) 114 [some (.ref 33), some (.ref o1), some (.ref o2), none, some (.int x4), some (.int x5), some (.int x6), none] [.long s2, .int y1, .ref 48] I J := by
  refine g_last sh_48 b1 dc_CU_addDaysCost_114 rfl ?_
  refine g_iinc (v := (x6 + 1)) (L' := [some (.ref 33), some (.ref o1), some (.ref o2), none, some (.int x4), some (.int x5), some (.int (x6 + 1)), none]) dc_CU_addDaysCost_115 rfl rfl (by rw [show Int32.ofInt 1 = 1 from by decide]) (Nat.le_of_ble_eq_true rfl) rfl ?_
  refine g_goto (tgt := 14) dc_CU_addDaysCost_118 (by decide) ?_
  exact k2
theorem dc_CU_begin_0 : decode prog_5_method_6_code 0 = .ok (.aload_n 0, 1) := by decide +kernel
theorem dc_CU_begin_1 : decode prog_5_method_6_code 1 = .ok (.iload_n 2, 1) := by decide +kernel
theorem dc_CU_begin_2 : decode prog_5_method_6_code 2 = .ok (.putfield 113, 3) := by decide +kernel
theorem dc_CU_begin_5 : decode prog_5_method_6_code 5 = .ok (.aload_n 0, 1) := by decide +kernel
theorem dc_CU_begin_6 : decode prog_5_method_6_code 6 = .ok (.iload_n 3, 1) := by decide +kernel
theorem dc_CU_begin_7 : decode prog_5_method_6_code 7 = .ok (.putfield 116, 3) := by decide +kernel
theorem dc_CU_begin_10 : decode prog_5_method_6_code 10 = .ok (.aload_n 0, 1) := by decide +kernel
theorem dc_CU_begin_11 : decode prog_5_method_6_code 11 = .ok (.getfield 28, 3) := by decide +kernel
theorem dc_CU_begin_14 : decode prog_5_method_6_code 14 = .ok (.iconst 0, 1) := by decide +kernel
theorem dc_CU_begin_15 : decode prog_5_method_6_code 15 = .ok (.iload_n 3, 1) := by decide +kernel
theorem dc_CU_begin_16 : decode prog_5_method_6_code 16 = .ok (.iconst 1, 1) := by decide +kernel
theorem dc_CU_begin_17 : decode prog_5_method_6_code 17 = .ok (.iadd, 1) := by decide +kernel
theorem dc_CU_begin_18 : decode prog_5_method_6_code 18 = .ok (.sipush 287, 3) := by decide +kernel
theorem dc_CU_begin_21 : decode prog_5_method_6_code 21 = .ok (.imul, 1) := by decide +kernel
theorem dc_CU_begin_22 : decode prog_5_method_6_code 22 = .ok (.ldc2_w 95, 3) := by decide +kernel
theorem dc_CU_begin_25 : decode prog_5_method_6_code 25 = .ok (.invokestatic 119, 3) := by decide +kernel
theorem dc_CU_begin_28 : decode prog_5_method_6_code 28 = .ok (.iconst 0, 1) := by decide +kernel
theorem dc_CU_begin_29 : decode prog_5_method_6_code 29 = .ok (.iconst 0, 1) := by decide +kernel
theorem dc_CU_begin_30 : decode prog_5_method_6_code 30 = .ok (.iload_n 1, 1) := by decide +kernel
theorem dc_CU_begin_31 : decode prog_5_method_6_code 31 = .ok (.invokestatic 122, 3) := by decide +kernel
theorem dc_CU_begin_34 : decode prog_5_method_6_code 34 = .ok (.istore 4, 2) := by decide +kernel
theorem dc_CU_begin_36 : decode prog_5_method_6_code 36 = .ok (.aload_n 0, 1) := by decide +kernel
theorem dc_CU_begin_37 : decode prog_5_method_6_code 37 = .ok (.getfield 28, 3) := by decide +kernel
theorem dc_CU_begin_40 : decode prog_5_method_6_code 40 = .ok (.iload 4, 2) := by decide +kernel
theorem dc_CU_begin_42 : decode prog_5_method_6_code 42 = .ok (.lconst 0, 1) := by decide +kernel
theorem dc_CU_begin_43 : decode prog_5_method_6_code 43 = .ok (.lastore, 1) := by decide +kernel
theorem dc_CU_begin_44 : decode prog_5_method_6_code 44 = .ok (.aload_n 0, 1) := by decide +kernel
theorem dc_CU_begin_45 : decode prog_5_method_6_code 45 = .ok (.getfield 32, 3) := by decide +kernel
theorem dc_CU_begin_48 : decode prog_5_method_6_code 48 = .ok (.iload 4, 2) := by decide +kernel
theorem dc_CU_begin_50 : decode prog_5_method_6_code 50 = .ok (.lconst 0, 1) := by decide +kernel
theorem dc_CU_begin_51 : decode prog_5_method_6_code 51 = .ok (.lastore, 1) := by decide +kernel
theorem dc_CU_begin_52 : decode prog_5_method_6_code 52 = .ok (.aload_n 0, 1) := by decide +kernel
theorem dc_CU_begin_53 : decode prog_5_method_6_code 53 = .ok (.getfield 35, 3) := by decide +kernel
theorem dc_CU_begin_56 : decode prog_5_method_6_code 56 = .ok (.iload 4, 2) := by decide +kernel
theorem dc_CU_begin_58 : decode prog_5_method_6_code 58 = .ok (.iconst 0, 1) := by decide +kernel
theorem dc_CU_begin_59 : decode prog_5_method_6_code 59 = .ok (.iastore, 1) := by decide +kernel
theorem dc_CU_begin_60 : decode prog_5_method_6_code 60 = .ok (.return_, 1) := by decide +kernel
theorem w_CU_begin_0 {G : GC} {d : Nat} {P : PT} {I : MI} {J : MJ} {x1 : Int32} {x2 : Int32} {x3 : Int32} (k1 : Ct G (d + 1) m_JA_fill_AJIIJ [.ref 42, .int 0, .int ((x3 + 1) * 287), .long (-1)] (fun r I' J' => Go G (fr G m_CU_begin (d + 2) P) 28 [some (.ref 33), some (.int x1), none, none, none] (r.toList ++ []) I' J') (u2 (u2 I 33 8 x2) 33 9 x3) J) : Go G (fr G m_CU_begin (d + 2) P) 0 [some (.ref 33), some (.int x1), some (.int x2), some (.int x3), none] [] I J := by
  refine g_aload_n dc_CU_begin_0 rfl rfl rfl ?_
  refine g_iload_n dc_CU_begin_1 rfl rfl rfl ?_
  refine g_putI (C := "LevelBreaks$Cuts") (T := T_CU) (N := 13) (k := 8) (ty := t_CU) sh_33 (by decide) rfl rfl i_CU p_CU n_CU (by decide) fl_CU_113 (Or.inl rfl) rfl (by decide) dc_CU_begin_2 rfl ?_
  refine g_aload_n dc_CU_begin_5 rfl rfl rfl ?_
  refine g_iload_n dc_CU_begin_6 rfl rfl rfl ?_
  refine g_putI (C := "LevelBreaks$Cuts") (T := T_CU) (N := 13) (k := 9) (ty := t_CU) sh_33 (by decide) rfl rfl i_CU p_CU n_CU (by decide) fl_CU_116 (Or.inl rfl) rfl (by decide) dc_CU_begin_7 rfl ?_
  refine g_aload_n dc_CU_begin_10 rfl rfl rfl ?_
  refine g_get (C := "LevelBreaks$Cuts") (T := T_CU) (N := 13) (k := 1) (v := .ref 42) sh_33 (by decide) rfl rfl i_CU (by decide) fl_CU_28 (Or.inl rfl) rfl dc_CU_begin_11 rfl ?_
  refine g_iconst (v := 0) dc_CU_begin_14 rfl (by decide) ?_
  refine g_iload_n dc_CU_begin_15 rfl rfl rfl ?_
  refine g_iconst (v := 1) dc_CU_begin_16 rfl (by decide) ?_
  refine g_iadd dc_CU_begin_17 rfl ?_
  refine g_sipush (v := 287) dc_CU_begin_18 rfl (by decide) ?_
  refine g_imul dc_CU_begin_21 rfl ?_
  refine g_ldc2 (v := (-1)) kl_CU_95 dc_CU_begin_22 rfl ?_
  refine g_weak [some (.ref 33), some (.int x1), none, none, none] ⟨rfl, ⟨rfl, trivial⟩⟩ ?_
  exact g_callS (As := [.ref 42, .int 0, .int ((x3 + 1) * 287), .long (-1)]) (rest := []) ok_JA_fill_AJIIJ st_JA_fill_AJIIJ ml_CU_119 rfl rfl (Nat.le_of_ble_eq_true rfl) dc_CU_begin_25 rfl rOk_fr k1
theorem w_CU_begin_28 {G : GC} {d : Nat} {P : PT} {I : MI} {J : MJ} {x1 : Int32} (b1 : vp_in (f_CU_at 0 0 x1) 861) (q2 : P none (u2 I 44 (f_CU_at 0 0 x1).toNatClampNeg 0) (u2 (u2 J 42 (f_CU_at 0 0 x1).toNatClampNeg 0) 43 (f_CU_at 0 0 x1).toNatClampNeg 0)) : Go G (fr G m_CU_begin (d + 2) P) 28 [some (.ref 33), some (.int x1), none, none, none] [] I J := by
  refine g_iconst (v := 0) dc_CU_begin_28 rfl (by decide) ?_
  refine g_iconst (v := 0) dc_CU_begin_29 rfl (by decide) ?_
  refine g_iload_n dc_CU_begin_30 rfl rfl rfl ?_
  refine g_callS (M := m_CU_at) (As := [.int 0, .int 0, .int x1]) (rest := []) ok_CU_at st_CU_at ml_CU_122 rfl rfl (Nat.le_of_ble_eq_true rfl) dc_CU_begin_31 rfl rOk_fr (c_CU_at ?_)
  show Go G (fr G m_CU_begin (d + 2) P) 34 [some (.ref 33), some (.int x1), none, none, none] [.int (f_CU_at 0 0 x1)] I J
  refine g_istore (L' := [some (.ref 33), some (.int x1), none, none, some (.int (f_CU_at 0 0 x1))]) dc_CU_begin_34 rfl (Nat.le_of_ble_eq_true rfl) rfl ?_
  refine g_aload_n dc_CU_begin_36 rfl rfl rfl ?_
  refine g_get (C := "LevelBreaks$Cuts") (T := T_CU) (N := 13) (k := 1) (v := .ref 42) sh_33 (by decide) rfl rfl i_CU (by decide) fl_CU_28 (Or.inl rfl) rfl dc_CU_begin_37 rfl ?_
  refine g_iload dc_CU_begin_40 rfl rfl ?_
  refine g_lconst (v := 0) dc_CU_begin_42 rfl (by decide) ?_
  refine g_last sh_42 b1 dc_CU_begin_43 rfl ?_
  refine g_aload_n dc_CU_begin_44 rfl rfl rfl ?_
  refine g_get (C := "LevelBreaks$Cuts") (T := T_CU) (N := 13) (k := 2) (v := .ref 43) sh_33 (by decide) rfl rfl i_CU (by decide) fl_CU_32 (Or.inl rfl) rfl dc_CU_begin_45 rfl ?_
  refine g_iload dc_CU_begin_48 rfl rfl ?_
  refine g_lconst (v := 0) dc_CU_begin_50 rfl (by decide) ?_
  refine g_last sh_43 b1 dc_CU_begin_51 rfl ?_
  refine g_aload_n dc_CU_begin_52 rfl rfl rfl ?_
  refine g_get (C := "LevelBreaks$Cuts") (T := T_CU) (N := 13) (k := 3) (v := .ref 44) sh_33 (by decide) rfl rfl i_CU (by decide) fl_CU_35 (Or.inl rfl) rfl dc_CU_begin_53 rfl ?_
  refine g_iload dc_CU_begin_56 rfl rfl ?_
  refine g_iconst (v := 0) dc_CU_begin_58 rfl (by decide) ?_
  refine g_iast sh_44 b1 dc_CU_begin_59 rfl ?_
  exact g_vret rfl dc_CU_begin_60 q2
theorem dc_CU_bestAbove_0 : decode prog_5_method_19_code 0 = .ok (.iconst 0, 1) := by decide +kernel
theorem dc_CU_bestAbove_1 : decode prog_5_method_19_code 1 = .ok (.iload_n 1, 1) := by decide +kernel
theorem dc_CU_bestAbove_2 : decode prog_5_method_19_code 2 = .ok (.iconst 0, 1) := by decide +kernel
theorem dc_CU_bestAbove_3 : decode prog_5_method_19_code 3 = .ok (.invokestatic 122, 3) := by decide +kernel
theorem dc_CU_bestAbove_6 : decode prog_5_method_19_code 6 = .ok (.istore_n 2, 1) := by decide +kernel
theorem dc_CU_bestAbove_7 : decode prog_5_method_19_code 7 = .ok (.aload_n 0, 1) := by decide +kernel
theorem dc_CU_bestAbove_8 : decode prog_5_method_19_code 8 = .ok (.getfield 32, 3) := by decide +kernel
theorem dc_CU_bestAbove_11 : decode prog_5_method_19_code 11 = .ok (.iload_n 2, 1) := by decide +kernel
theorem dc_CU_bestAbove_12 : decode prog_5_method_19_code 12 = .ok (.laload, 1) := by decide +kernel
theorem dc_CU_bestAbove_13 : decode prog_5_method_19_code 13 = .ok (.ldc2_w 129, 3) := by decide +kernel
theorem dc_CU_bestAbove_16 : decode prog_5_method_19_code 16 = .ok (.invokestatic 148, 3) := by decide +kernel
theorem dc_CU_bestAbove_19 : decode prog_5_method_19_code 19 = .ok (.lstore_n 3, 1) := by decide +kernel
theorem dc_CU_bestAbove_20 : decode prog_5_method_19_code 20 = .ok (.lload_n 3, 1) := by decide +kernel
theorem dc_CU_bestAbove_21 : decode prog_5_method_19_code 21 = .ok (.lconst 1, 1) := by decide +kernel
theorem dc_CU_bestAbove_22 : decode prog_5_method_19_code 22 = .ok (.lcmp, 1) := by decide +kernel
theorem dc_CU_bestAbove_23 : decode prog_5_method_19_code 23 = .ok (.ifCond .ge 12, 3) := by decide +kernel
theorem dc_CU_bestAbove_26 : decode prog_5_method_19_code 26 = .ok (.aload_n 0, 1) := by decide +kernel
theorem dc_CU_bestAbove_27 : decode prog_5_method_19_code 27 = .ok (.getfield 28, 3) := by decide +kernel
theorem dc_CU_bestAbove_30 : decode prog_5_method_19_code 30 = .ok (.iload_n 2, 1) := by decide +kernel
theorem dc_CU_bestAbove_31 : decode prog_5_method_19_code 31 = .ok (.laload, 1) := by decide +kernel
theorem dc_CU_bestAbove_32 : decode prog_5_method_19_code 32 = .ok (.goto 24, 3) := by decide +kernel
theorem dc_CU_bestAbove_35 : decode prog_5_method_19_code 35 = .ok (.aload_n 0, 1) := by decide +kernel
theorem dc_CU_bestAbove_36 : decode prog_5_method_19_code 36 = .ok (.getfield 28, 3) := by decide +kernel
theorem dc_CU_bestAbove_39 : decode prog_5_method_19_code 39 = .ok (.iload_n 2, 1) := by decide +kernel
theorem dc_CU_bestAbove_40 : decode prog_5_method_19_code 40 = .ok (.laload, 1) := by decide +kernel
theorem dc_CU_bestAbove_41 : decode prog_5_method_19_code 41 = .ok (.ldc2_w 129, 3) := by decide +kernel
theorem dc_CU_bestAbove_44 : decode prog_5_method_19_code 44 = .ok (.lload_n 3, 1) := by decide +kernel
theorem dc_CU_bestAbove_45 : decode prog_5_method_19_code 45 = .ok (.ldiv, 1) := by decide +kernel
theorem dc_CU_bestAbove_46 : decode prog_5_method_19_code 46 = .ok (.lmul, 1) := by decide +kernel
theorem dc_CU_bestAbove_47 : decode prog_5_method_19_code 47 = .ok (.aload_n 0, 1) := by decide +kernel
theorem dc_CU_bestAbove_48 : decode prog_5_method_19_code 48 = .ok (.getfield 32, 3) := by decide +kernel
theorem dc_CU_bestAbove_51 : decode prog_5_method_19_code 51 = .ok (.iload_n 2, 1) := by decide +kernel
theorem dc_CU_bestAbove_52 : decode prog_5_method_19_code 52 = .ok (.laload, 1) := by decide +kernel
theorem dc_CU_bestAbove_53 : decode prog_5_method_19_code 53 = .ok (.lload_n 3, 1) := by decide +kernel
theorem dc_CU_bestAbove_54 : decode prog_5_method_19_code 54 = .ok (.ldiv, 1) := by decide +kernel
theorem dc_CU_bestAbove_55 : decode prog_5_method_19_code 55 = .ok (.ladd, 1) := by decide +kernel
theorem dc_CU_bestAbove_56 : decode prog_5_method_19_code 56 = .ok (.lreturn, 1) := by decide +kernel
theorem w_CU_bestAbove_0 {G : GC} {d : Nat} {P : PT} {I : MI} {J : MJ} {x1 : Int32} (b1 : vp_in (f_CU_at 0 x1 0) 861) (k2 : Ct G d m_CU_commonDivisor [.long (J 43 (f_CU_at 0 x1 0).toNatClampNeg), .long 5342931457063200] (fun r I' J' => Go G (fr G m_CU_bestAbove (d + 1) P) 19 [some (.ref 33), none, some (.int (f_CU_at 0 x1 0)), none, none] (r.toList ++ []) I' J') I J) : Go G (fr G m_CU_bestAbove (d + 1) P) 0 [some (.ref 33), some (.int x1), none, none, none] [] I J := by
  refine g_iconst (v := 0) dc_CU_bestAbove_0 rfl (by decide) ?_
  refine g_iload_n dc_CU_bestAbove_1 rfl rfl rfl ?_
  refine g_iconst (v := 0) dc_CU_bestAbove_2 rfl (by decide) ?_
  refine g_callS (M := m_CU_at) (As := [.int 0, .int x1, .int 0]) (rest := []) ok_CU_at st_CU_at ml_CU_122 rfl rfl (Nat.le_of_ble_eq_true rfl) dc_CU_bestAbove_3 rfl rOk_fr (c_CU_at ?_)
  show Go G (fr G m_CU_bestAbove (d + 1) P) 6 [some (.ref 33), some (.int x1), none, none, none] [.int (f_CU_at 0 x1 0)] I J
  refine g_istore_n (L' := [some (.ref 33), some (.int x1), some (.int (f_CU_at 0 x1 0)), none, none]) dc_CU_bestAbove_6 rfl rfl (Nat.le_of_ble_eq_true rfl) rfl ?_
  refine g_aload_n dc_CU_bestAbove_7 rfl rfl rfl ?_
  refine g_get (C := "LevelBreaks$Cuts") (T := T_CU) (N := 13) (k := 2) (v := .ref 43) sh_33 (by decide) rfl rfl i_CU (by decide) fl_CU_32 (Or.inl rfl) rfl dc_CU_bestAbove_8 rfl ?_
  refine g_iload_n dc_CU_bestAbove_11 rfl rfl rfl ?_
  refine g_laldv (v := (J 43 (f_CU_at 0 x1 0).toNatClampNeg)) sh_43 b1 rfl dc_CU_bestAbove_12 rfl ?_
  refine g_ldc2 (v := 5342931457063200) kl_CU_129 dc_CU_bestAbove_13 rfl ?_
  refine g_weak [some (.ref 33), none, some (.int (f_CU_at 0 x1 0)), none, none] ⟨rfl, ⟨rfl, trivial⟩⟩ ?_
  exact g_callS (As := [.long (J 43 (f_CU_at 0 x1 0).toNatClampNeg), .long 5342931457063200]) (rest := []) ok_CU_commonDivisor st_CU_commonDivisor ml_CU_148 rfl rfl (Nat.le_of_ble_eq_true rfl) dc_CU_bestAbove_16 rfl rOk_fr k2
theorem w_CU_bestAbove_19 {G : GC} {d : Nat} {P : PT} {I : MI} {J : MJ} {x2 : Int32} {s0 : Int64} (b1 : (1 ≤ s0) → vp_in x2 861) (z2 : (1 ≤ s0) → ¬ s0 = 0) (q3 : (1 ≤ s0) → P (some (.long (((J 42 x2.toNatClampNeg) * (5342931457063200 / s0)) + ((J 43 x2.toNatClampNeg) / s0)))) I J) (b4 : (¬ (1 ≤ s0)) → vp_in x2 861) (q5 : (¬ (1 ≤ s0)) → P (some (.long (J 42 x2.toNatClampNeg))) I J) : Go G (fr G m_CU_bestAbove (d + 1) P) 19 [some (.ref 33), none, some (.int x2), none, none] [.long s0] I J := by
  refine g_lstore_n (L' := [some (.ref 33), none, some (.int x2), some (.long s0), none]) dc_CU_bestAbove_19 rfl rfl (Nat.le_of_ble_eq_true rfl) rfl ?_
  refine g_lload_n dc_CU_bestAbove_20 rfl rfl rfl ?_
  refine g_lconst (v := 1) dc_CU_bestAbove_21 rfl (by decide) ?_
  refine g_lc_ge (tgt := 35) dc_CU_bestAbove_22 rfl dc_CU_bestAbove_23 rfl (by decide) (fun c1 => ?_) (fun c1 => ?_)
  · refine g_aload_n dc_CU_bestAbove_35 rfl rfl rfl ?_
    refine g_get (C := "LevelBreaks$Cuts") (T := T_CU) (N := 13) (k := 1) (v := .ref 42) sh_33 (by decide) rfl rfl i_CU (by decide) fl_CU_28 (Or.inl rfl) rfl dc_CU_bestAbove_36 rfl ?_
    refine g_iload_n dc_CU_bestAbove_39 rfl rfl rfl ?_
    refine g_laldv (v := (J 42 x2.toNatClampNeg)) sh_42 (b1 c1) rfl dc_CU_bestAbove_40 rfl ?_
    refine g_ldc2 (v := 5342931457063200) kl_CU_129 dc_CU_bestAbove_41 rfl ?_
    refine g_lload_n dc_CU_bestAbove_44 rfl rfl rfl ?_
    refine g_ldiv dc_CU_bestAbove_45 rfl (z2 c1) ?_
    refine g_lmul dc_CU_bestAbove_46 rfl ?_
    refine g_aload_n dc_CU_bestAbove_47 rfl rfl rfl ?_
    refine g_get (C := "LevelBreaks$Cuts") (T := T_CU) (N := 13) (k := 2) (v := .ref 43) sh_33 (by decide) rfl rfl i_CU (by decide) fl_CU_32 (Or.inl rfl) rfl dc_CU_bestAbove_48 rfl ?_
    refine g_iload_n dc_CU_bestAbove_51 rfl rfl rfl ?_
    refine g_laldv (v := (J 43 x2.toNatClampNeg)) sh_43 (b1 c1) rfl dc_CU_bestAbove_52 rfl ?_
    refine g_lload_n dc_CU_bestAbove_53 rfl rfl rfl ?_
    refine g_ldiv dc_CU_bestAbove_54 rfl (z2 c1) ?_
    refine g_ladd dc_CU_bestAbove_55 rfl ?_
    exact g_lret rfl dc_CU_bestAbove_56 (q3 c1)
  · refine g_aload_n dc_CU_bestAbove_26 rfl rfl rfl ?_
    refine g_get (C := "LevelBreaks$Cuts") (T := T_CU) (N := 13) (k := 1) (v := .ref 42) sh_33 (by decide) rfl rfl i_CU (by decide) fl_CU_28 (Or.inl rfl) rfl dc_CU_bestAbove_27 rfl ?_
    refine g_iload_n dc_CU_bestAbove_30 rfl rfl rfl ?_
    refine g_laldv (v := (J 42 x2.toNatClampNeg)) sh_42 (b4 c1) rfl dc_CU_bestAbove_31 rfl ?_
    refine g_goto (tgt := 56) dc_CU_bestAbove_32 (by decide) ?_
    exact g_lret rfl dc_CU_bestAbove_56 (q5 c1)
theorem dc_CU_bestBelow_0 : decode prog_5_method_18_code 0 = .ok (.aload_n 0, 1) := by decide +kernel
theorem dc_CU_bestBelow_1 : decode prog_5_method_18_code 1 = .ok (.getfield 32, 3) := by decide +kernel
theorem dc_CU_bestBelow_4 : decode prog_5_method_18_code 4 = .ok (.iconst 0, 1) := by decide +kernel
theorem dc_CU_bestBelow_5 : decode prog_5_method_18_code 5 = .ok (.iload_n 1, 1) := by decide +kernel
theorem dc_CU_bestBelow_6 : decode prog_5_method_18_code 6 = .ok (.iconst 0, 1) := by decide +kernel
theorem dc_CU_bestBelow_7 : decode prog_5_method_18_code 7 = .ok (.invokestatic 122, 3) := by decide +kernel
theorem dc_CU_bestBelow_10 : decode prog_5_method_18_code 10 = .ok (.laload, 1) := by decide +kernel
theorem dc_CU_bestBelow_11 : decode prog_5_method_18_code 11 = .ok (.ldc2_w 129, 3) := by decide +kernel
theorem dc_CU_bestBelow_14 : decode prog_5_method_18_code 14 = .ok (.invokestatic 148, 3) := by decide +kernel
theorem dc_CU_bestBelow_17 : decode prog_5_method_18_code 17 = .ok (.lstore_n 2, 1) := by decide +kernel
theorem dc_CU_bestBelow_18 : decode prog_5_method_18_code 18 = .ok (.lload_n 2, 1) := by decide +kernel
theorem dc_CU_bestBelow_19 : decode prog_5_method_18_code 19 = .ok (.lconst 1, 1) := by decide +kernel
theorem dc_CU_bestBelow_20 : decode prog_5_method_18_code 20 = .ok (.lcmp, 1) := by decide +kernel
theorem dc_CU_bestBelow_21 : decode prog_5_method_18_code 21 = .ok (.ifCond .ge 7, 3) := by decide +kernel
theorem dc_CU_bestBelow_24 : decode prog_5_method_18_code 24 = .ok (.lconst 1, 1) := by decide +kernel
theorem dc_CU_bestBelow_25 : decode prog_5_method_18_code 25 = .ok (.goto 8, 3) := by decide +kernel
theorem dc_CU_bestBelow_28 : decode prog_5_method_18_code 28 = .ok (.ldc2_w 129, 3) := by decide +kernel
theorem dc_CU_bestBelow_31 : decode prog_5_method_18_code 31 = .ok (.lload_n 2, 1) := by decide +kernel
theorem dc_CU_bestBelow_32 : decode prog_5_method_18_code 32 = .ok (.ldiv, 1) := by decide +kernel
theorem dc_CU_bestBelow_33 : decode prog_5_method_18_code 33 = .ok (.lreturn, 1) := by decide +kernel
theorem w_CU_bestBelow_0 {G : GC} {d : Nat} {P : PT} {I : MI} {J : MJ} {x1 : Int32} (b1 : vp_in (f_CU_at 0 x1 0) 861) (k2 : Ct G d m_CU_commonDivisor [.long (J 43 (f_CU_at 0 x1 0).toNatClampNeg), .long 5342931457063200] (fun r I' J' => Go G (fr G m_CU_bestBelow (d + 1) P) 17 [none, none, none, none] (r.toList ++ []) I' J') I J) : Go G (fr G m_CU_bestBelow (d + 1) P) 0 [some (.ref 33), some (.int x1), none, none] [] I J := by
  refine g_aload_n dc_CU_bestBelow_0 rfl rfl rfl ?_
  refine g_get (C := "LevelBreaks$Cuts") (T := T_CU) (N := 13) (k := 2) (v := .ref 43) sh_33 (by decide) rfl rfl i_CU (by decide) fl_CU_32 (Or.inl rfl) rfl dc_CU_bestBelow_1 rfl ?_
  refine g_iconst (v := 0) dc_CU_bestBelow_4 rfl (by decide) ?_
  refine g_iload_n dc_CU_bestBelow_5 rfl rfl rfl ?_
  refine g_iconst (v := 0) dc_CU_bestBelow_6 rfl (by decide) ?_
  refine g_callS (M := m_CU_at) (As := [.int 0, .int x1, .int 0]) (rest := [.ref 43]) ok_CU_at st_CU_at ml_CU_122 rfl rfl (Nat.le_of_ble_eq_true rfl) dc_CU_bestBelow_7 rfl rOk_fr (c_CU_at ?_)
  show Go G (fr G m_CU_bestBelow (d + 1) P) 10 [some (.ref 33), some (.int x1), none, none] [.int (f_CU_at 0 x1 0), .ref 43] I J
  refine g_laldv (v := (J 43 (f_CU_at 0 x1 0).toNatClampNeg)) sh_43 b1 rfl dc_CU_bestBelow_10 rfl ?_
  refine g_ldc2 (v := 5342931457063200) kl_CU_129 dc_CU_bestBelow_11 rfl ?_
  refine g_weak [none, none, none, none] trivial ?_
  exact g_callS (As := [.long (J 43 (f_CU_at 0 x1 0).toNatClampNeg), .long 5342931457063200]) (rest := []) ok_CU_commonDivisor st_CU_commonDivisor ml_CU_148 rfl rfl (Nat.le_of_ble_eq_true rfl) dc_CU_bestBelow_14 rfl rOk_fr k2
theorem w_CU_bestBelow_17 {G : GC} {d : Nat} {P : PT} {I : MI} {J : MJ} {s0 : Int64} (z1 : (1 ≤ s0) → ¬ s0 = 0) (q2 : (1 ≤ s0) → P (some (.long (5342931457063200 / s0))) I J) (q3 : (¬ (1 ≤ s0)) → P (some (.long 1)) I J) : Go G (fr G m_CU_bestBelow (d + 1) P) 17 [none, none, none, none] [.long s0] I J := by
  refine g_lstore_n (L' := [none, none, some (.long s0), none]) dc_CU_bestBelow_17 rfl rfl (Nat.le_of_ble_eq_true rfl) rfl ?_
  refine g_lload_n dc_CU_bestBelow_18 rfl rfl rfl ?_
  refine g_lconst (v := 1) dc_CU_bestBelow_19 rfl (by decide) ?_
  refine g_lc_ge (tgt := 28) dc_CU_bestBelow_20 rfl dc_CU_bestBelow_21 rfl (by decide) (fun c1 => ?_) (fun c1 => ?_)
  · refine g_ldc2 (v := 5342931457063200) kl_CU_129 dc_CU_bestBelow_28 rfl ?_
    refine g_lload_n dc_CU_bestBelow_31 rfl rfl rfl ?_
    refine g_ldiv dc_CU_bestBelow_32 rfl (z1 c1) ?_
    exact g_lret rfl dc_CU_bestBelow_33 (q2 c1)
  · refine g_lconst (v := 1) dc_CU_bestBelow_24 rfl (by decide) ?_
    refine g_goto (tgt := 33) dc_CU_bestBelow_25 (by decide) ?_
    exact g_lret rfl dc_CU_bestBelow_33 (q3 c1)
theorem dc_CU_commonDivisor_0 : decode prog_5_method_20_code 0 = .ok (.lload_n 0, 1) := by decide +kernel
theorem dc_CU_commonDivisor_1 : decode prog_5_method_20_code 1 = .ok (.lstore 4, 2) := by decide +kernel
theorem dc_CU_commonDivisor_3 : decode prog_5_method_20_code 3 = .ok (.lload_n 2, 1) := by decide +kernel
theorem dc_CU_commonDivisor_4 : decode prog_5_method_20_code 4 = .ok (.lstore 6, 2) := by decide +kernel
theorem dc_CU_commonDivisor_6 : decode prog_5_method_20_code 6 = .ok (.iconst 0, 1) := by decide +kernel
theorem dc_CU_commonDivisor_7 : decode prog_5_method_20_code 7 = .ok (.istore 8, 2) := by decide +kernel
theorem dc_CU_commonDivisor_9 : decode prog_5_method_20_code 9 = .ok (.iload 8, 2) := by decide +kernel
theorem dc_CU_commonDivisor_11 : decode prog_5_method_20_code 11 = .ok (.sipush 200, 3) := by decide +kernel
theorem dc_CU_commonDivisor_14 : decode prog_5_method_20_code 14 = .ok (.if_icmp .ge 31, 3) := by decide +kernel
theorem dc_CU_commonDivisor_17 : decode prog_5_method_20_code 17 = .ok (.lload 6, 2) := by decide +kernel
theorem dc_CU_commonDivisor_19 : decode prog_5_method_20_code 19 = .ok (.lconst 0, 1) := by decide +kernel
theorem dc_CU_commonDivisor_20 : decode prog_5_method_20_code 20 = .ok (.lcmp, 1) := by decide +kernel
theorem dc_CU_commonDivisor_21 : decode prog_5_method_20_code 21 = .ok (.ifCond .eq 24, 3) := by decide +kernel
theorem dc_CU_commonDivisor_24 : decode prog_5_method_20_code 24 = .ok (.lload 4, 2) := by decide +kernel
theorem dc_CU_commonDivisor_26 : decode prog_5_method_20_code 26 = .ok (.lload 6, 2) := by decide +kernel
theorem dc_CU_commonDivisor_28 : decode prog_5_method_20_code 28 = .ok (.lrem, 1) := by decide +kernel
theorem dc_CU_commonDivisor_29 : decode prog_5_method_20_code 29 = .ok (.lstore 9, 2) := by decide +kernel
theorem dc_CU_commonDivisor_31 : decode prog_5_method_20_code 31 = .ok (.lload 6, 2) := by decide +kernel
theorem dc_CU_commonDivisor_33 : decode prog_5_method_20_code 33 = .ok (.lstore 4, 2) := by decide +kernel
theorem dc_CU_commonDivisor_35 : decode prog_5_method_20_code 35 = .ok (.lload 9, 2) := by decide +kernel
theorem dc_CU_commonDivisor_37 : decode prog_5_method_20_code 37 = .ok (.lstore 6, 2) := by decide +kernel
theorem dc_CU_commonDivisor_39 : decode prog_5_method_20_code 39 = .ok (.iinc 8 1, 3) := by decide +kernel
theorem dc_CU_commonDivisor_42 : decode prog_5_method_20_code 42 = .ok (.goto (-33), 3) := by decide +kernel
theorem dc_CU_commonDivisor_45 : decode prog_5_method_20_code 45 = .ok (.lload 4, 2) := by decide +kernel
theorem dc_CU_commonDivisor_47 : decode prog_5_method_20_code 47 = .ok (.lreturn, 1) := by decide +kernel
theorem w_CU_commonDivisor_0 {G : GC} {d : Nat} {P : PT} {I : MI} {J : MJ} {l0 : Int64} {l2 : Int64} (k1 : Go G (fr G m_CU_commonDivisor d P) 9 [none, none, none, none, some (.long l0), none, some (.long l2), none, some (.int 0), none, none] [] I J) : Go G (fr G m_CU_commonDivisor d P) 0 [some (.long l0), none, some (.long l2), none, none, none, none, none, none, none, none] [] I J := by
  refine g_lload_n dc_CU_commonDivisor_0 rfl rfl rfl ?_
  refine g_lstore (L' := [some (.long l0), none, some (.long l2), none, some (.long l0), none, none, none, none, none, none]) dc_CU_commonDivisor_1 rfl (Nat.le_of_ble_eq_true rfl) rfl ?_
  refine g_lload_n dc_CU_commonDivisor_3 rfl rfl rfl ?_
  refine g_lstore (L' := [some (.long l0), none, some (.long l2), none, some (.long l0), none, some (.long l2), none, none, none, none]) dc_CU_commonDivisor_4 rfl (Nat.le_of_ble_eq_true rfl) rfl ?_
  refine g_iconst (v := 0) dc_CU_commonDivisor_6 rfl (by decide) ?_
  refine g_istore (L' := [some (.long l0), none, some (.long l2), none, some (.long l0), none, some (.long l2), none, some (.int 0), none, none]) dc_CU_commonDivisor_7 rfl (Nat.le_of_ble_eq_true rfl) rfl ?_
  refine g_weak [none, none, none, none, some (.long l0), none, some (.long l2), none, some (.int 0), none, none] ⟨rfl, ⟨rfl, ⟨rfl, trivial⟩⟩⟩ ?_
  exact k1
theorem w_CU_commonDivisor_9 {G : GC} {d : Nat} {P : PT} {I : MI} {J : MJ} {l4 : Int64} {l6 : Int64} {x8 : Int32} (k1 : (200 ≤ x8) → Go G (fr G m_CU_commonDivisor d P) 45 [none, none, none, none, some (.long l4), none, none, none, none, none, none] [] I J) (k2 : (¬ (200 ≤ x8)) → (l6 = 0) → Go G (fr G m_CU_commonDivisor d P) 45 [none, none, none, none, some (.long l4), none, none, none, none, none, none] [] I J) (z3 : (¬ (200 ≤ x8)) → (¬ (l6 = 0)) → ¬ l6 = 0) (k4 : (¬ (200 ≤ x8)) → (¬ (l6 = 0)) → Go G (fr G m_CU_commonDivisor d P) 9 [none, none, none, none, some (.long l6), none, some (.long (l4 - l4 / l6 * l6)), none, some (.int (x8 + 1)), none, none] [] I J) : Go G (fr G m_CU_commonDivisor d P) 9 [none, none, none, none, some (.long l4), none, some (.long l6), none, some (.int x8), none, none] [] I J := by
  refine g_iload dc_CU_commonDivisor_9 rfl rfl ?_
  refine g_sipush (v := 200) dc_CU_commonDivisor_11 rfl (by decide) ?_
  refine g_ic_ge (tgt := 45) dc_CU_commonDivisor_14 rfl (by decide) (fun c1 => ?_) (fun c1 => ?_)
  · refine g_weak [none, none, none, none, some (.long l4), none, none, none, none, none, none] ⟨rfl, trivial⟩ ?_
    exact (k1 c1)
  · refine g_lload dc_CU_commonDivisor_17 rfl rfl ?_
    refine g_lconst (v := 0) dc_CU_commonDivisor_19 rfl (by decide) ?_
    refine g_lc_eq (tgt := 45) dc_CU_commonDivisor_20 rfl dc_CU_commonDivisor_21 rfl (by decide) (fun c2 => ?_) (fun c2 => ?_)
    · refine g_weak [none, none, none, none, some (.long l4), none, none, none, none, none, none] ⟨rfl, trivial⟩ ?_
      exact (k2 c1 c2)
    · refine g_lload dc_CU_commonDivisor_24 rfl rfl ?_
      refine g_lload dc_CU_commonDivisor_26 rfl rfl ?_
      refine g_lrem dc_CU_commonDivisor_28 rfl (z3 c1 c2) ?_
      refine g_lstore (L' := [none, none, none, none, some (.long l4), none, some (.long l6), none, some (.int x8), some (.long (l4 - l4 / l6 * l6)), none]) dc_CU_commonDivisor_29 rfl (Nat.le_of_ble_eq_true rfl) rfl ?_
      refine g_lload dc_CU_commonDivisor_31 rfl rfl ?_
      refine g_lstore (L' := [none, none, none, none, some (.long l6), none, some (.long l6), none, some (.int x8), some (.long (l4 - l4 / l6 * l6)), none]) dc_CU_commonDivisor_33 rfl (Nat.le_of_ble_eq_true rfl) rfl ?_
      refine g_lload dc_CU_commonDivisor_35 rfl rfl ?_
      refine g_lstore (L' := [none, none, none, none, some (.long l6), none, some (.long (l4 - l4 / l6 * l6)), none, some (.int x8), some (.long (l4 - l4 / l6 * l6)), none]) dc_CU_commonDivisor_37 rfl (Nat.le_of_ble_eq_true rfl) rfl ?_
      refine g_iinc (v := (x8 + 1)) (L' := [none, none, none, none, some (.long l6), none, some (.long (l4 - l4 / l6 * l6)), none, some (.int (x8 + 1)), some (.long (l4 - l4 / l6 * l6)), none]) dc_CU_commonDivisor_39 rfl rfl (by rw [show Int32.ofInt 1 = 1 from by decide]) (Nat.le_of_ble_eq_true rfl) rfl ?_
      refine g_goto (tgt := 9) dc_CU_commonDivisor_42 (by decide) ?_
      refine g_weak [none, none, none, none, some (.long l6), none, some (.long (l4 - l4 / l6 * l6)), none, some (.int (x8 + 1)), none, none] ⟨rfl, ⟨rfl, ⟨rfl, trivial⟩⟩⟩ ?_
      exact (k4 c1 c2)
theorem w_CU_commonDivisor_45 {G : GC} {d : Nat} {P : PT} {I : MI} {J : MJ} {l4 : Int64} (q1 : P (some (.long l4)) I J) : Go G (fr G m_CU_commonDivisor d P) 45 [none, none, none, none, some (.long l4), none, none, none, none, none, none] [] I J := by
  refine g_lload dc_CU_commonDivisor_45 rfl rfl ?_
  exact g_lret rfl dc_CU_commonDivisor_47 q1
theorem dc_CU_countMiddles_0 : decode prog_5_method_25_code 0 = .ok (.iconst 0, 1) := by decide +kernel
theorem dc_CU_countMiddles_1 : decode prog_5_method_25_code 1 = .ok (.istore 5, 2) := by decide +kernel
theorem dc_CU_countMiddles_3 : decode prog_5_method_25_code 3 = .ok (.aload_n 2, 1) := by decide +kernel
theorem dc_CU_countMiddles_4 : decode prog_5_method_25_code 4 = .ok (.invokevirtual 54, 3) := by decide +kernel
theorem dc_CU_countMiddles_7 : decode prog_5_method_25_code 7 = .ok (.iload_n 3, 1) := by decide +kernel
theorem dc_CU_countMiddles_8 : decode prog_5_method_25_code 8 = .ok (.istore 6, 2) := by decide +kernel
theorem dc_CU_countMiddles_10 : decode prog_5_method_25_code 10 = .ok (.iload 6, 2) := by decide +kernel
theorem dc_CU_countMiddles_12 : decode prog_5_method_25_code 12 = .ok (.aload_n 1, 1) := by decide +kernel
theorem dc_CU_countMiddles_13 : decode prog_5_method_25_code 13 = .ok (.getfield 61, 3) := by decide +kernel
theorem dc_CU_countMiddles_16 : decode prog_5_method_25_code 16 = .ok (.iconst 1, 1) := by decide +kernel
theorem dc_CU_countMiddles_17 : decode prog_5_method_25_code 17 = .ok (.isub, 1) := by decide +kernel
theorem dc_CU_countMiddles_18 : decode prog_5_method_25_code 18 = .ok (.if_icmp .ge 101, 3) := by decide +kernel
theorem dc_CU_countMiddles_21 : decode prog_5_method_25_code 21 = .ok (.aload_n 2, 1) := by decide +kernel
theorem dc_CU_countMiddles_22 : decode prog_5_method_25_code 22 = .ok (.aload_n 1, 1) := by decide +kernel
theorem dc_CU_countMiddles_23 : decode prog_5_method_25_code 23 = .ok (.iload 6, 2) := by decide +kernel
theorem dc_CU_countMiddles_25 : decode prog_5_method_25_code 25 = .ok (.invokevirtual 57, 3) := by decide +kernel
theorem dc_CU_countMiddles_28 : decode prog_5_method_25_code 28 = .ok (.aload_n 2, 1) := by decide +kernel
theorem dc_CU_countMiddles_29 : decode prog_5_method_25_code 29 = .ok (.iconst 0, 1) := by decide +kernel
theorem dc_CU_countMiddles_30 : decode prog_5_method_25_code 30 = .ok (.invokevirtual 126, 3) := by decide +kernel
theorem dc_CU_countMiddles_33 : decode prog_5_method_25_code 33 = .ok (.istore 7, 2) := by decide +kernel
theorem dc_CU_countMiddles_35 : decode prog_5_method_25_code 35 = .ok (.aload_n 2, 1) := by decide +kernel
theorem dc_CU_countMiddles_36 : decode prog_5_method_25_code 36 = .ok (.getfield 108, 3) := by decide +kernel
theorem dc_CU_countMiddles_39 : decode prog_5_method_25_code 39 = .ok (.iload 4, 2) := by decide +kernel
theorem dc_CU_countMiddles_41 : decode prog_5_method_25_code 41 = .ok (.if_icmp .lt 72, 3) := by decide +kernel
theorem dc_CU_countMiddles_44 : decode prog_5_method_25_code 44 = .ok (.iload 7, 2) := by decide +kernel
theorem dc_CU_countMiddles_46 : decode prog_5_method_25_code 46 = .ok (.ifCond .le 67, 3) := by decide +kernel
theorem dc_CU_countMiddles_49 : decode prog_5_method_25_code 49 = .ok (.aload_n 2, 1) := by decide +kernel
theorem dc_CU_countMiddles_50 : decode prog_5_method_25_code 50 = .ok (.aload_n 1, 1) := by decide +kernel
theorem dc_CU_countMiddles_51 : decode prog_5_method_25_code 51 = .ok (.iconst (-1), 1) := by decide +kernel
theorem dc_CU_countMiddles_52 : decode prog_5_method_25_code 52 = .ok (.iconst (-1), 1) := by decide +kernel
theorem dc_CU_countMiddles_53 : decode prog_5_method_25_code 53 = .ok (.invokevirtual 109, 3) := by decide +kernel
theorem dc_CU_countMiddles_56 : decode prog_5_method_25_code 56 = .ok (.lstore 8, 2) := by decide +kernel
theorem dc_CU_countMiddles_58 : decode prog_5_method_25_code 58 = .ok (.aload_n 0, 1) := by decide +kernel
theorem dc_CU_countMiddles_59 : decode prog_5_method_25_code 59 = .ok (.getfield 45, 3) := by decide +kernel
theorem dc_CU_countMiddles_62 : decode prog_5_method_25_code 62 = .ok (.iload_n 3, 1) := by decide +kernel
theorem dc_CU_countMiddles_63 : decode prog_5_method_25_code 63 = .ok (.iconst 1, 1) := by decide +kernel
theorem dc_CU_countMiddles_64 : decode prog_5_method_25_code 64 = .ok (.isub, 1) := by decide +kernel
theorem dc_CU_countMiddles_65 : decode prog_5_method_25_code 65 = .ok (.laload, 1) := by decide +kernel
theorem dc_CU_countMiddles_66 : decode prog_5_method_25_code 66 = .ok (.lload 8, 2) := by decide +kernel
theorem dc_CU_countMiddles_68 : decode prog_5_method_25_code 68 = .ok (.iload 7, 2) := by decide +kernel
theorem dc_CU_countMiddles_70 : decode prog_5_method_25_code 70 = .ok (.i2l, 1) := by decide +kernel
theorem dc_CU_countMiddles_71 : decode prog_5_method_25_code 71 = .ok (.lrem, 1) := by decide +kernel
theorem dc_CU_countMiddles_72 : decode prog_5_method_25_code 72 = .ok (.ldc2_w 129, 3) := by decide +kernel
theorem dc_CU_countMiddles_75 : decode prog_5_method_25_code 75 = .ok (.iload 7, 2) := by decide +kernel
theorem dc_CU_countMiddles_77 : decode prog_5_method_25_code 77 = .ok (.i2l, 1) := by decide +kernel
theorem dc_CU_countMiddles_78 : decode prog_5_method_25_code 78 = .ok (.ldiv, 1) := by decide +kernel
theorem dc_CU_countMiddles_79 : decode prog_5_method_25_code 79 = .ok (.lmul, 1) := by decide +kernel
theorem dc_CU_countMiddles_80 : decode prog_5_method_25_code 80 = .ok (.ladd, 1) := by decide +kernel
theorem dc_CU_countMiddles_81 : decode prog_5_method_25_code 81 = .ok (.lstore 10, 2) := by decide +kernel
theorem dc_CU_countMiddles_83 : decode prog_5_method_25_code 83 = .ok (.iload 5, 2) := by decide +kernel
theorem dc_CU_countMiddles_85 : decode prog_5_method_25_code 85 = .ok (.aload_n 0, 1) := by decide +kernel
theorem dc_CU_countMiddles_86 : decode prog_5_method_25_code 86 = .ok (.aload_n 0, 1) := by decide +kernel
theorem dc_CU_countMiddles_87 : decode prog_5_method_25_code 87 = .ok (.getfield 42, 3) := by decide +kernel
theorem dc_CU_countMiddles_90 : decode prog_5_method_25_code 90 = .ok (.iload_n 3, 1) := by decide +kernel
theorem dc_CU_countMiddles_91 : decode prog_5_method_25_code 91 = .ok (.iconst 1, 1) := by decide +kernel
theorem dc_CU_countMiddles_92 : decode prog_5_method_25_code 92 = .ok (.isub, 1) := by decide +kernel
theorem dc_CU_countMiddles_93 : decode prog_5_method_25_code 93 = .ok (.laload, 1) := by decide +kernel
theorem dc_CU_countMiddles_94 : decode prog_5_method_25_code 94 = .ok (.lload 8, 2) := by decide +kernel
theorem dc_CU_countMiddles_96 : decode prog_5_method_25_code 96 = .ok (.iload 7, 2) := by decide +kernel
theorem dc_CU_countMiddles_98 : decode prog_5_method_25_code 98 = .ok (.i2l, 1) := by decide +kernel
theorem dc_CU_countMiddles_99 : decode prog_5_method_25_code 99 = .ok (.ldiv, 1) := by decide +kernel
theorem dc_CU_countMiddles_100 : decode prog_5_method_25_code 100 = .ok (.ladd, 1) := by decide +kernel
theorem dc_CU_countMiddles_101 : decode prog_5_method_25_code 101 = .ok (.lload 10, 2) := by decide +kernel
theorem dc_CU_countMiddles_103 : decode prog_5_method_25_code 103 = .ok (.iload 6, 2) := by decide +kernel
theorem dc_CU_countMiddles_105 : decode prog_5_method_25_code 105 = .ok (.iconst 1, 1) := by decide +kernel
theorem dc_CU_countMiddles_106 : decode prog_5_method_25_code 106 = .ok (.iadd, 1) := by decide +kernel
theorem dc_CU_countMiddles_107 : decode prog_5_method_25_code 107 = .ok (.invokevirtual 160, 3) := by decide +kernel
theorem dc_CU_countMiddles_110 : decode prog_5_method_25_code 110 = .ok (.iadd, 1) := by decide +kernel
theorem dc_CU_countMiddles_111 : decode prog_5_method_25_code 111 = .ok (.istore 5, 2) := by decide +kernel
theorem dc_CU_countMiddles_113 : decode prog_5_method_25_code 113 = .ok (.iinc 6 1, 3) := by decide +kernel
theorem dc_CU_countMiddles_116 : decode prog_5_method_25_code 116 = .ok (.goto (-106), 3) := by decide +kernel
theorem dc_CU_countMiddles_119 : decode prog_5_method_25_code 119 = .ok (.iload 5, 2) := by decide +kernel
theorem dc_CU_countMiddles_121 : decode prog_5_method_25_code 121 = .ok (.ireturn, 1) := by decide +kernel
theorem w_CU_countMiddles_0 {G : GC} {d : Nat} {P : PT} {I : MI} {J : MJ} {o1 : Nat} (h1 : PtsAt o1) {o2 : Nat} (h2 : MesAt o2) {x3 : Int32} {x4 : Int32} (k1 : Ct G (d + 2) (mesM o2 m_SU_restart m_MI_restart m_ON_restart) [.ref o2] (fun r I' J' => Go G (fr G m_CU_countMiddles (d + 3) P) 7 [some (.ref 33), some (.ref o1), some (.ref o2), some (.int x3), some (.int x4), some (.int 0), none, none, none, none, none, none] (r.toList ++ []) I' J') I J) : Go G (fr G m_CU_countMiddles (d + 3) P) 0 [some (.ref 33), some (.ref o1), some (.ref o2), some (.int x3), some (.int x4), none, none, none, none, none, none, none] [] I J := by
  refine g_iconst (v := 0) dc_CU_countMiddles_0 rfl (by decide) ?_
  refine g_istore (L' := [some (.ref 33), some (.ref o1), some (.ref o2), some (.int x3), some (.int x4), some (.int 0), none, none, none, none, none, none]) dc_CU_countMiddles_1 rfl (Nat.le_of_ble_eq_true rfl) rfl ?_
  refine g_aload_n dc_CU_countMiddles_3 rfl rfl rfl ?_
  exact g_callM_restart (As := []) (rest := []) h2 ml_CU_54 rfl rfl (Nat.le_of_ble_eq_true rfl) dc_CU_countMiddles_4 rfl rOk_fr k1
theorem w_CU_countMiddles_7 {G : GC} {d : Nat} {P : PT} {I : MI} {J : MJ} {o1 : Nat} (h1 : PtsAt o1) {o2 : Nat} (h2 : MesAt o2) {x3 : Int32} {x4 : Int32} {x5 : Int32} (k1 : Go G (fr G m_CU_countMiddles (d + 3) P) 10 [some (.ref 33), some (.ref o1), some (.ref o2), some (.int x3), some (.int x4), some (.int x5), some (.int x3), none, none, none, none, none] [] I J) : Go G (fr G m_CU_countMiddles (d + 3) P) 7 [some (.ref 33), some (.ref o1), some (.ref o2), some (.int x3), some (.int x4), some (.int x5), none, none, none, none, none, none] [] I J := by
  refine g_iload_n dc_CU_countMiddles_7 rfl rfl rfl ?_
  refine g_istore (L' := [some (.ref 33), some (.ref o1), some (.ref o2), some (.int x3), some (.int x4), some (.int x5), some (.int x3), none, none, none, none, none]) dc_CU_countMiddles_8 rfl (Nat.le_of_ble_eq_true rfl) rfl ?_
  exact k1
theorem w_CU_countMiddles_10 {G : GC} {d : Nat} {P : PT} {I : MI} {J : MJ} {o1 : Nat} (h1 : PtsAt o1) {o2 : Nat} (h2 : MesAt o2) {x3 : Int32} {x4 : Int32} {x5 : Int32} {x6 : Int32} (q1 : (((I o1 4) - 1) ≤ x6) → P (some (.int x5)) I J) (k2 : (¬ (((I o1 4) - 1) ≤ x6)) → Ct G (d + 2) (mesM o2 m_SU_extend m_MI_extend m_ON_extend) [.ref o2, .ref o1, .int x6] (fun r I' J' => Go G (fr G m_CU_countMiddles (d + 3) P) 28 [some (.ref 33), some (.ref o1), some (.ref o2), some (.int x3), some (.int x4), some (.int x5), some (.int x6), none, none, none, none, none] (r.toList ++ []) I' J') I J) : Go G (fr G m_CU_countMiddles (d + 3) P) 10 [some (.ref 33), some (.ref o1), some (.ref o2), some (.int x3), some (.int x4), some (.int x5), some (.int x6), none, none, none, none, none] [] I J := by
  refine g_iload dc_CU_countMiddles_10 rfl rfl ?_
  refine g_aload_n dc_CU_countMiddles_12 rfl rfl rfl ?_
  refine g_get (C := "LevelBreaks$Points") (T := T_PO) (N := 5) (k := 4) (v := .int (I o1 4)) h1.1 (by decide) rfl rfl i_PO (by decide) fl_CU_61 (Or.inl rfl) rfl dc_CU_countMiddles_13 rfl ?_
  refine g_iconst (v := 1) dc_CU_countMiddles_16 rfl (by decide) ?_
  refine g_isub dc_CU_countMiddles_17 rfl ?_
  refine g_ic_ge (tgt := 119) dc_CU_countMiddles_18 rfl (by decide) (fun c1 => ?_) (fun c1 => ?_)
  · refine g_iload dc_CU_countMiddles_119 rfl rfl ?_
    exact g_iret rfl dc_CU_countMiddles_121 (q1 c1)
  · refine g_aload_n dc_CU_countMiddles_21 rfl rfl rfl ?_
    refine g_aload_n dc_CU_countMiddles_22 rfl rfl rfl ?_
    refine g_iload dc_CU_countMiddles_23 rfl rfl ?_
    exact g_callM_extend (As := [.ref o1, .int x6]) (rest := []) h2 ml_CU_57 rfl rfl (Nat.le_of_ble_eq_true rfl) dc_CU_countMiddles_25 rfl rOk_fr (k2 c1)
theorem w_CU_countMiddles_28 {G : GC} {d : Nat} {P : PT} {I : MI} {J : MJ} {o1 : Nat} (h1 : PtsAt o1) {o2 : Nat} (h2 : MesAt o2) {x3 : Int32} {x4 : Int32} {x5 : Int32} {x6 : Int32} (k1 : Ct G (d + 2) (mesM o2 m_SU_below m_MI_below m_ON_below) [.ref o2, .int 0] (fun r I' J' => Go G (fr G m_CU_countMiddles (d + 3) P) 33 [some (.ref 33), some (.ref o1), some (.ref o2), some (.int x3), some (.int x4), some (.int x5), some (.int x6), none, none, none, none, none] (r.toList ++ []) I' J') I J) : Go G (fr G m_CU_countMiddles (d + 3) P) 28 [some (.ref 33), some (.ref o1), some (.ref o2), some (.int x3), some (.int x4), some (.int x5), some (.int x6), none, none, none, none, none] [] I J := by
  refine g_aload_n dc_CU_countMiddles_28 rfl rfl rfl ?_
  refine g_iconst (v := 0) dc_CU_countMiddles_29 rfl (by decide) ?_
  exact g_callM_below (As := [.int 0]) (rest := []) h2 ml_CU_126 rfl rfl (Nat.le_of_ble_eq_true rfl) dc_CU_countMiddles_30 rfl rOk_fr k1
theorem w_CU_countMiddles_33 {G : GC} {d : Nat} {P : PT} {I : MI} {J : MJ} {o1 : Nat} (h1 : PtsAt o1) {o2 : Nat} (h2 : MesAt o2) {x3 : Int32} {x4 : Int32} {x5 : Int32} {x6 : Int32} {y0 : Int32} (k1 : ((I o2 0) < x4) → Go G (fr G m_CU_countMiddles (d + 3) P) 113 [some (.ref 33), some (.ref o1), some (.ref o2), some (.int x3), some (.int x4), some (.int x5), some (.int x6), none, none, none, none, none] [] I J) (k2 : (¬ ((I o2 0) < x4)) → (y0 ≤ 0) → Go G (fr G m_CU_countMiddles (d + 3) P) 113 [some (.ref 33), some (.ref o1), some (.ref o2), some (.int x3), some (.int x4), some (.int x5), some (.int x6), none, none, none, none, none] [] I J) (k3 : (¬ ((I o2 0) < x4)) → (¬ (y0 ≤ 0)) → Ct G (d + 2) (mesM o2 m_SU_above m_MI_above m_ON_above) [.ref o2, .ref o1, .int (-1), .int (-1)] (fun r I' J' => Go G (fr G m_CU_countMiddles (d + 3) P) 56 [some (.ref 33), some (.ref o1), some (.ref o2), some (.int x3), some (.int x4), some (.int x5), some (.int x6), some (.int y0), none, none, none, none] (r.toList ++ []) I' J') I J) : Go G (fr G m_CU_countMiddles (d + 3) P) 33 [some (.ref 33), some (.ref o1), some (.ref o2), some (.int x3), some (.int x4), some (.int x5), some (.int x6), none, none, none, none, none] [.int y0] I J := by
  refine g_istore (L' := [some (.ref 33), some (.ref o1), some (.ref o2), some (.int x3), some (.int x4), some (.int x5), some (.int x6), some (.int y0), none, none, none, none]) dc_CU_countMiddles_33 rfl (Nat.le_of_ble_eq_true rfl) rfl ?_
  refine g_aload_n dc_CU_countMiddles_35 rfl rfl rfl ?_
  refine g_getM (v := (I o2 0)) h2 fl_CU_108 rfl dc_CU_countMiddles_36 rfl ?_
  refine g_iload dc_CU_countMiddles_39 rfl rfl ?_
  refine g_ic_lt (tgt := 113) dc_CU_countMiddles_41 rfl (by decide) (fun c1 => ?_) (fun c1 => ?_)
  · refine g_weak [some (.ref 33), some (.ref o1), some (.ref o2), some (.int x3), some (.int x4), some (.int x5), some (.int x6), none, none, none, none, none] ⟨rfl, ⟨rfl, ⟨rfl, ⟨rfl, ⟨rfl, ⟨rfl, ⟨rfl, trivial⟩⟩⟩⟩⟩⟩⟩ ?_
    exact (k1 c1)
  · refine g_iload dc_CU_countMiddles_44 rfl rfl ?_
    refine g_if_le (tgt := 113) dc_CU_countMiddles_46 rfl (by decide) (fun c2 => ?_) (fun c2 => ?_)
    · refine g_weak [some (.ref 33), some (.ref o1), some (.ref o2), some (.int x3), some (.int x4), some (.int x5), some (.int x6), none, none, none, none, none] ⟨rfl, ⟨rfl, ⟨rfl, ⟨rfl, ⟨rfl, ⟨rfl, ⟨rfl, trivial⟩⟩⟩⟩⟩⟩⟩ ?_
      exact (k2 c1 c2)
    · refine g_aload_n dc_CU_countMiddles_49 rfl rfl rfl ?_
      refine g_aload_n dc_CU_countMiddles_50 rfl rfl rfl ?_
      refine g_iconst (v := (-1)) dc_CU_countMiddles_51 rfl (by decide) ?_
      refine g_iconst (v := (-1)) dc_CU_countMiddles_52 rfl (by decide) ?_
      exact g_callM_above (As := [.ref o1, .int (-1), .int (-1)]) (rest := []) h2 ml_CU_109 rfl rfl (Nat.le_of_ble_eq_true rfl) dc_CU_countMiddles_53 rfl rOk_fr (k3 c1 c2)
theorem w_CU_countMiddles_56 {G : GC} {d : Nat} {P : PT} {I : MI} {J : MJ} {o1 : Nat} (h1 : PtsAt o1) {o2 : Nat} (h2 : MesAt o2) {x3 : Int32} {x4 : Int32} {x5 : Int32} {x6 : Int32} {x7 : Int32} {s0 : Int64} (b1 : vp_in (x3 - 1) 40) (z2 : ¬ (Int32.toInt64 x7) = 0) (k3 : Ct G (d + 2) m_CU_countTail [.ref 33, .long ((J 46 (x3 - 1).toNatClampNeg) + (s0 / (Int32.toInt64 x7))), .long ((J 47 (x3 - 1).toNatClampNeg) + ((s0 - s0 / (Int32.toInt64 x7) * (Int32.toInt64 x7)) * (5342931457063200 / (Int32.toInt64 x7)))), .int (x6 + 1)] (fun r I' J' => Go G (fr G m_CU_countMiddles (d + 3) P) 110 [some (.ref 33), some (.ref o1), some (.ref o2), some (.int x3), some (.int x4), none, some (.int x6), none, none, none, none, none] (r.toList ++ [.int x5]) I' J') I J) : Go G (fr G m_CU_countMiddles (d + 3) P) 56 [some (.ref 33), some (.ref o1), some (.ref o2), some (.int x3), some (.int x4), some (.int x5), some (.int x6), some (.int x7), none, none, none, none] [.long s0] I J := by
  refine g_lstore (L' := [some (.ref 33), some (.ref o1), some (.ref o2), some (.int x3), some (.int x4), some (.int x5), some (.int x6), some (.int x7), some (.long s0), none, none, none]) dc_CU_countMiddles_56 rfl (Nat.le_of_ble_eq_true rfl) rfl ?_
  refine g_aload_n dc_CU_countMiddles_58 rfl rfl rfl ?_
  refine g_get (C := "LevelBreaks$Cuts") (T := T_CU) (N := 13) (k := 6) (v := .ref 47) sh_33 (by decide) rfl rfl i_CU (by decide) fl_CU_45 (Or.inl rfl) rfl dc_CU_countMiddles_59 rfl ?_
  refine g_iload_n dc_CU_countMiddles_62 rfl rfl rfl ?_
  refine g_iconst (v := 1) dc_CU_countMiddles_63 rfl (by decide) ?_
  refine g_isub dc_CU_countMiddles_64 rfl ?_
  refine g_laldv (v := (J 47 (x3 - 1).toNatClampNeg)) sh_47 b1 rfl dc_CU_countMiddles_65 rfl ?_
  refine g_lload dc_CU_countMiddles_66 rfl rfl ?_
  refine g_iload dc_CU_countMiddles_68 rfl rfl ?_
  refine g_i2l dc_CU_countMiddles_70 rfl ?_
  refine g_lrem dc_CU_countMiddles_71 rfl z2 ?_
  refine g_ldc2 (v := 5342931457063200) kl_CU_129 dc_CU_countMiddles_72 rfl ?_
  refine g_iload dc_CU_countMiddles_75 rfl rfl ?_
  refine g_i2l dc_CU_countMiddles_77 rfl ?_
  refine g_ldiv dc_CU_countMiddles_78 rfl z2 ?_
  refine g_lmul dc_CU_countMiddles_79 rfl ?_
  refine g_ladd dc_CU_countMiddles_80 rfl ?_
  refine g_lstore (L' := [some (.ref 33), some (.ref o1), some (.ref o2), some (.int x3), some (.int x4), some (.int x5), some (.int x6), some (.int x7), some (.long s0), none, some (.long ((J 47 (x3 - 1).toNatClampNeg) + ((s0 - s0 / (Int32.toInt64 x7) * (Int32.toInt64 x7)) * (5342931457063200 / (Int32.toInt64 x7))))), none]) dc_CU_countMiddles_81 rfl (Nat.le_of_ble_eq_true rfl) rfl ?_
  refine g_iload dc_CU_countMiddles_83 rfl rfl ?_
  refine g_aload_n dc_CU_countMiddles_85 rfl rfl rfl ?_
  refine g_aload_n dc_CU_countMiddles_86 rfl rfl rfl ?_
  refine g_get (C := "LevelBreaks$Cuts") (T := T_CU) (N := 13) (k := 5) (v := .ref 46) sh_33 (by decide) rfl rfl i_CU (by decide) fl_CU_42 (Or.inl rfl) rfl dc_CU_countMiddles_87 rfl ?_
  refine g_iload_n dc_CU_countMiddles_90 rfl rfl rfl ?_
  refine g_iconst (v := 1) dc_CU_countMiddles_91 rfl (by decide) ?_
  refine g_isub dc_CU_countMiddles_92 rfl ?_
  refine g_laldv (v := (J 46 (x3 - 1).toNatClampNeg)) sh_46 b1 rfl dc_CU_countMiddles_93 rfl ?_
  refine g_lload dc_CU_countMiddles_94 rfl rfl ?_
  refine g_iload dc_CU_countMiddles_96 rfl rfl ?_
  refine g_i2l dc_CU_countMiddles_98 rfl ?_
  refine g_ldiv dc_CU_countMiddles_99 rfl z2 ?_
  refine g_ladd dc_CU_countMiddles_100 rfl ?_
  refine g_lload dc_CU_countMiddles_101 rfl rfl ?_
  refine g_iload dc_CU_countMiddles_103 rfl rfl ?_
  refine g_iconst (v := 1) dc_CU_countMiddles_105 rfl (by decide) ?_
  refine g_iadd dc_CU_countMiddles_106 rfl ?_
  refine g_weak [some (.ref 33), some (.ref o1), some (.ref o2), some (.int x3), some (.int x4), none, some (.int x6), none, none, none, none, none] ⟨rfl, ⟨rfl, ⟨rfl, ⟨rfl, ⟨rfl, ⟨rfl, trivial⟩⟩⟩⟩⟩⟩ ?_
  exact g_callV (T := T_CU) (N := 13) (As := [.long ((J 46 (x3 - 1).toNatClampNeg) + (s0 / (Int32.toInt64 x7))), .long ((J 47 (x3 - 1).toNatClampNeg) + ((s0 - s0 / (Int32.toInt64 x7) * (Int32.toInt64 x7)) * (5342931457063200 / (Int32.toInt64 x7)))), .int (x6 + 1)]) (rest := [.int x5]) ok_CU_countTail in_CU_countTail se_CU_countTail ml_CU_160 sh_33 (by decide) rfl rfl rfl (Nat.le_of_ble_eq_true rfl) dc_CU_countMiddles_107 rfl rOk_fr k3
theorem w_CU_countMiddles_110 {G : GC} {d : Nat} {P : PT} {I : MI} {J : MJ} {o1 : Nat} (h1 : PtsAt o1) {o2 : Nat} (h2 : MesAt o2) {x3 : Int32} {x4 : Int32} {x6 : Int32} {y0 : Int32} {y1 : Int32} (k1 : Go G (fr G m_CU_countMiddles (d + 3) P) 113 [some (.ref 33), some (.ref o1), some (.ref o2), some (.int x3), some (.int x4), some (.int (y0 + y1)), some (.int x6), none, none, none, none, none] [] I J) : Go G (fr G m_CU_countMiddles (d + 3) P) 110 [some (.ref 33), some (.ref o1), some (.ref o2), some (.int x3), some (.int x4), none, some (.int x6), none, none, none, none, none] [.int y1, .int y0] I J := by
  refine g_iadd dc_CU_countMiddles_110 rfl ?_
  refine g_istore (L' := [some (.ref 33), some (.ref o1), some (.ref o2), some (.int x3), some (.int x4), some (.int (y0 + y1)), some (.int x6), none, none, none, none, none]) dc_CU_countMiddles_111 rfl (Nat.le_of_ble_eq_true rfl) rfl ?_
  exact k1
theorem w_CU_countMiddles_113 {G : GC} {d : Nat} {P : PT} {I : MI} {J : MJ} {o1 : Nat} (h1 : PtsAt o1) {o2 : Nat} (h2 : MesAt o2) {x3 : Int32} {x4 : Int32} {x5 : Int32} {x6 : Int32} (k1 : Go G (fr G m_CU_countMiddles (d + 3) P) 10 [some (.ref 33), some (.ref o1), some (.ref o2), some (.int x3), some (.int x4), some (.int x5), some (.int (x6 + 1)), none, none, none, none, none] [] I J) : Go G (fr G m_CU_countMiddles (d + 3) P) 113 [some (.ref 33), some (.ref o1), some (.ref o2), some (.int x3), some (.int x4), some (.int x5), some (.int x6), none, none, none, none, none] [] I J := by
  refine g_iinc (v := (x6 + 1)) (L' := [some (.ref 33), some (.ref o1), some (.ref o2), some (.int x3), some (.int x4), some (.int x5), some (.int (x6 + 1)), none, none, none, none, none]) dc_CU_countMiddles_113 rfl rfl (by rw [show Int32.ofInt 1 = 1 from by decide]) (Nat.le_of_ble_eq_true rfl) rfl ?_
  refine g_goto (tgt := 10) dc_CU_countMiddles_116 (by decide) ?_
  exact k1
theorem dc_CU_countTail_0 : decode prog_5_method_26_code 0 = .ok (.iconst 0, 1) := by decide +kernel
theorem dc_CU_countTail_1 : decode prog_5_method_26_code 1 = .ok (.iconst 1, 1) := by decide +kernel
theorem dc_CU_countTail_2 : decode prog_5_method_26_code 2 = .ok (.iload 5, 2) := by decide +kernel
theorem dc_CU_countTail_4 : decode prog_5_method_26_code 4 = .ok (.invokestatic 122, 3) := by decide +kernel
theorem dc_CU_countTail_7 : decode prog_5_method_26_code 7 = .ok (.istore 6, 2) := by decide +kernel
theorem dc_CU_countTail_9 : decode prog_5_method_26_code 9 = .ok (.aload_n 0, 1) := by decide +kernel
theorem dc_CU_countTail_10 : decode prog_5_method_26_code 10 = .ok (.getfield 28, 3) := by decide +kernel
theorem dc_CU_countTail_13 : decode prog_5_method_26_code 13 = .ok (.iload 6, 2) := by decide +kernel
theorem dc_CU_countTail_15 : decode prog_5_method_26_code 15 = .ok (.laload, 1) := by decide +kernel
theorem dc_CU_countTail_16 : decode prog_5_method_26_code 16 = .ok (.ldc2_w 95, 3) := by decide +kernel
theorem dc_CU_countTail_19 : decode prog_5_method_26_code 19 = .ok (.lcmp, 1) := by decide +kernel
theorem dc_CU_countTail_20 : decode prog_5_method_26_code 20 = .ok (.ifCond .ne 5, 3) := by decide +kernel
theorem dc_CU_countTail_23 : decode prog_5_method_26_code 23 = .ok (.iconst 0, 1) := by decide +kernel
theorem dc_CU_countTail_24 : decode prog_5_method_26_code 24 = .ok (.ireturn, 1) := by decide +kernel
theorem dc_CU_countTail_25 : decode prog_5_method_26_code 25 = .ok (.ldc2_w 175, 3) := by decide +kernel
theorem dc_CU_countTail_28 : decode prog_5_method_26_code 28 = .ok (.lload_n 3, 1) := by decide +kernel
theorem dc_CU_countTail_29 : decode prog_5_method_26_code 29 = .ok (.aload_n 0, 1) := by decide +kernel
theorem dc_CU_countTail_30 : decode prog_5_method_26_code 30 = .ok (.getfield 32, 3) := by decide +kernel
theorem dc_CU_countTail_33 : decode prog_5_method_26_code 33 = .ok (.iload 6, 2) := by decide +kernel
theorem dc_CU_countTail_35 : decode prog_5_method_26_code 35 = .ok (.laload, 1) := by decide +kernel
theorem dc_CU_countTail_36 : decode prog_5_method_26_code 36 = .ok (.ladd, 1) := by decide +kernel
theorem dc_CU_countTail_37 : decode prog_5_method_26_code 37 = .ok (.lmul, 1) := by decide +kernel
theorem dc_CU_countTail_38 : decode prog_5_method_26_code 38 = .ok (.lstore 7, 2) := by decide +kernel
theorem dc_CU_countTail_40 : decode prog_5_method_26_code 40 = .ok (.ldc2_w 175, 3) := by decide +kernel
theorem dc_CU_countTail_43 : decode prog_5_method_26_code 43 = .ok (.lload_n 1, 1) := by decide +kernel
theorem dc_CU_countTail_44 : decode prog_5_method_26_code 44 = .ok (.aload_n 0, 1) := by decide +kernel
theorem dc_CU_countTail_45 : decode prog_5_method_26_code 45 = .ok (.getfield 28, 3) := by decide +kernel
theorem dc_CU_countTail_48 : decode prog_5_method_26_code 48 = .ok (.iload 6, 2) := by decide +kernel
theorem dc_CU_countTail_50 : decode prog_5_method_26_code 50 = .ok (.laload, 1) := by decide +kernel
theorem dc_CU_countTail_51 : decode prog_5_method_26_code 51 = .ok (.ladd, 1) := by decide +kernel
theorem dc_CU_countTail_52 : decode prog_5_method_26_code 52 = .ok (.lmul, 1) := by decide +kernel
theorem dc_CU_countTail_53 : decode prog_5_method_26_code 53 = .ok (.lload 7, 2) := by decide +kernel
theorem dc_CU_countTail_55 : decode prog_5_method_26_code 55 = .ok (.ldc2_w 129, 3) := by decide +kernel
theorem dc_CU_countTail_58 : decode prog_5_method_26_code 58 = .ok (.ldiv, 1) := by decide +kernel
theorem dc_CU_countTail_59 : decode prog_5_method_26_code 59 = .ok (.ladd, 1) := by decide +kernel
theorem dc_CU_countTail_60 : decode prog_5_method_26_code 60 = .ok (.lstore 9, 2) := by decide +kernel
theorem dc_CU_countTail_62 : decode prog_5_method_26_code 62 = .ok (.lload 7, 2) := by decide +kernel
theorem dc_CU_countTail_64 : decode prog_5_method_26_code 64 = .ok (.ldc2_w 129, 3) := by decide +kernel
theorem dc_CU_countTail_67 : decode prog_5_method_26_code 67 = .ok (.lrem, 1) := by decide +kernel
theorem dc_CU_countTail_68 : decode prog_5_method_26_code 68 = .ok (.lstore 11, 2) := by decide +kernel
theorem dc_CU_countTail_70 : decode prog_5_method_26_code 70 = .ok (.lload 9, 2) := by decide +kernel
theorem dc_CU_countTail_72 : decode prog_5_method_26_code 72 = .ok (.aload_n 0, 1) := by decide +kernel
theorem dc_CU_countTail_73 : decode prog_5_method_26_code 73 = .ok (.getfield 168, 3) := by decide +kernel
theorem dc_CU_countTail_76 : decode prog_5_method_26_code 76 = .ok (.lcmp, 1) := by decide +kernel
theorem dc_CU_countTail_77 : decode prog_5_method_26_code 77 = .ok (.ifCond .lt 23, 3) := by decide +kernel
theorem dc_CU_countTail_80 : decode prog_5_method_26_code 80 = .ok (.lload 9, 2) := by decide +kernel
theorem dc_CU_countTail_82 : decode prog_5_method_26_code 82 = .ok (.aload_n 0, 1) := by decide +kernel
theorem dc_CU_countTail_83 : decode prog_5_method_26_code 83 = .ok (.getfield 168, 3) := by decide +kernel
theorem dc_CU_countTail_86 : decode prog_5_method_26_code 86 = .ok (.lcmp, 1) := by decide +kernel
theorem dc_CU_countTail_87 : decode prog_5_method_26_code 87 = .ok (.ifCond .ne 17, 3) := by decide +kernel
theorem dc_CU_countTail_90 : decode prog_5_method_26_code 90 = .ok (.lload 11, 2) := by decide +kernel
theorem dc_CU_countTail_92 : decode prog_5_method_26_code 92 = .ok (.aload_n 0, 1) := by decide +kernel
theorem dc_CU_countTail_93 : decode prog_5_method_26_code 93 = .ok (.getfield 172, 3) := by decide +kernel
theorem dc_CU_countTail_96 : decode prog_5_method_26_code 96 = .ok (.lcmp, 1) := by decide +kernel
theorem dc_CU_countTail_97 : decode prog_5_method_26_code 97 = .ok (.ifCond .gt 7, 3) := by decide +kernel
theorem dc_CU_countTail_100 : decode prog_5_method_26_code 100 = .ok (.iconst 1, 1) := by decide +kernel
theorem dc_CU_countTail_101 : decode prog_5_method_26_code 101 = .ok (.goto 4, 3) := by decide +kernel
theorem dc_CU_countTail_104 : decode prog_5_method_26_code 104 = .ok (.iconst 0, 1) := by decide +kernel
theorem dc_CU_countTail_105 : decode prog_5_method_26_code 105 = .ok (.ireturn, 1) := by decide +kernel
theorem w_CU_countTail_0 {G : GC} {d : Nat} {P : PT} {I : MI} {J : MJ} {l1 : Int64} {l3 : Int64} {x5 : Int32} (b1 : vp_in (f_CU_at 0 1 x5) 861) (k2 : (¬ (J 42 (f_CU_at 0 1 x5).toNatClampNeg) = (-1)) → (((100 * (l1 + (J 42 (f_CU_at 0 1 x5).toNatClampNeg))) + ((100 * (l3 + (J 43 (f_CU_at 0 1 x5).toNatClampNeg))) / 5342931457063200)) < (J 33 10)) → Go G (fr G m_CU_countTail (d + 1) P) 100 [none, none, none, none, none, none, none, none, none, none, none, none, none] [] I J) (k3 : (¬ (J 42 (f_CU_at 0 1 x5).toNatClampNeg) = (-1)) → (¬ (((100 * (l1 + (J 42 (f_CU_at 0 1 x5).toNatClampNeg))) + ((100 * (l3 + (J 43 (f_CU_at 0 1 x5).toNatClampNeg))) / 5342931457063200)) < (J 33 10))) → (¬ ((100 * (l1 + (J 42 (f_CU_at 0 1 x5).toNatClampNeg))) + ((100 * (l3 + (J 43 (f_CU_at 0 1 x5).toNatClampNeg))) / 5342931457063200)) = (J 33 10)) → Go G (fr G m_CU_countTail (d + 1) P) 104 [none, none, none, none, none, none, none, none, none, none, none, none, none] [] I J) (k4 : (¬ (J 42 (f_CU_at 0 1 x5).toNatClampNeg) = (-1)) → (¬ (((100 * (l1 + (J 42 (f_CU_at 0 1 x5).toNatClampNeg))) + ((100 * (l3 + (J 43 (f_CU_at 0 1 x5).toNatClampNeg))) / 5342931457063200)) < (J 33 10))) → (((100 * (l1 + (J 42 (f_CU_at 0 1 x5).toNatClampNeg))) + ((100 * (l3 + (J 43 (f_CU_at 0 1 x5).toNatClampNeg))) / 5342931457063200)) = (J 33 10)) → ((J 33 11) < ((100 * (l3 + (J 43 (f_CU_at 0 1 x5).toNatClampNeg))) - (100 * (l3 + (J 43 (f_CU_at 0 1 x5).toNatClampNeg))) / 5342931457063200 * 5342931457063200)) → Go G (fr G m_CU_countTail (d + 1) P) 104 [none, none, none, none, none, none, none, none, none, none, none, none, none] [] I J) (k5 : (¬ (J 42 (f_CU_at 0 1 x5).toNatClampNeg) = (-1)) → (¬ (((100 * (l1 + (J 42 (f_CU_at 0 1 x5).toNatClampNeg))) + ((100 * (l3 + (J 43 (f_CU_at 0 1 x5).toNatClampNeg))) / 5342931457063200)) < (J 33 10))) → (((100 * (l1 + (J 42 (f_CU_at 0 1 x5).toNatClampNeg))) + ((100 * (l3 + (J 43 (f_CU_at 0 1 x5).toNatClampNeg))) / 5342931457063200)) = (J 33 10)) → (¬ ((J 33 11) < ((100 * (l3 + (J 43 (f_CU_at 0 1 x5).toNatClampNeg))) - (100 * (l3 + (J 43 (f_CU_at 0 1 x5).toNatClampNeg))) / 5342931457063200 * 5342931457063200))) → Go G (fr G m_CU_countTail (d + 1) P) 100 [none, none, none, none, none, none, none, none, none, none, none, none, none] [] I J) (q6 : ((J 42 (f_CU_at 0 1 x5).toNatClampNeg) = (-1)) → P (some (.int 0)) I J) : Go G (fr G m_CU_countTail (d + 1) P) 0 [some (.ref 33), some (.long l1), none, some (.long l3), none, some (.int x5), none, none, none, none, none, none, none] [] I J := by
  refine g_iconst (v := 0) dc_CU_countTail_0 rfl (by decide) ?_
  refine g_iconst (v := 1) dc_CU_countTail_1 rfl (by decide) ?_
  refine g_iload dc_CU_countTail_2 rfl rfl ?_
  refine g_callS (M := m_CU_at) (As := [.int 0, .int 1, .int x5]) (rest := []) ok_CU_at st_CU_at ml_CU_122 rfl rfl (Nat.le_of_ble_eq_true rfl) dc_CU_countTail_4 rfl rOk_fr (c_CU_at ?_)
  show Go G (fr G m_CU_countTail (d + 1) P) 7 [some (.ref 33), some (.long l1), none, some (.long l3), none, some (.int x5), none, none, none, none, none, none, none] [.int (f_CU_at 0 1 x5)] I J
  refine g_istore (L' := [some (.ref 33), some (.long l1), none, some (.long l3), none, some (.int x5), some (.int (f_CU_at 0 1 x5)), none, none, none, none, none, none]) dc_CU_countTail_7 rfl (Nat.le_of_ble_eq_true rfl) rfl ?_
  refine g_aload_n dc_CU_countTail_9 rfl rfl rfl ?_
  refine g_get (C := "LevelBreaks$Cuts") (T := T_CU) (N := 13) (k := 1) (v := .ref 42) sh_33 (by decide) rfl rfl i_CU (by decide) fl_CU_28 (Or.inl rfl) rfl dc_CU_countTail_10 rfl ?_
  refine g_iload dc_CU_countTail_13 rfl rfl ?_
  refine g_laldv (v := (J 42 (f_CU_at 0 1 x5).toNatClampNeg)) sh_42 b1 rfl dc_CU_countTail_15 rfl ?_
  refine g_ldc2 (v := (-1)) kl_CU_95 dc_CU_countTail_16 rfl ?_
  refine g_lc_ne (tgt := 25) dc_CU_countTail_19 rfl dc_CU_countTail_20 rfl (by decide) (fun c1 => ?_) (fun c1 => ?_)
  · refine g_ldc2 (v := 100) kl_CU_175 dc_CU_countTail_25 rfl ?_
    refine g_lload_n dc_CU_countTail_28 rfl rfl rfl ?_
    refine g_aload_n dc_CU_countTail_29 rfl rfl rfl ?_
    refine g_get (C := "LevelBreaks$Cuts") (T := T_CU) (N := 13) (k := 2) (v := .ref 43) sh_33 (by decide) rfl rfl i_CU (by decide) fl_CU_32 (Or.inl rfl) rfl dc_CU_countTail_30 rfl ?_
    refine g_iload dc_CU_countTail_33 rfl rfl ?_
    refine g_laldv (v := (J 43 (f_CU_at 0 1 x5).toNatClampNeg)) sh_43 b1 rfl dc_CU_countTail_35 rfl ?_
    refine g_ladd dc_CU_countTail_36 rfl ?_
    refine g_lmul dc_CU_countTail_37 rfl ?_
    refine g_lstore (L' := [some (.ref 33), some (.long l1), none, some (.long l3), none, some (.int x5), some (.int (f_CU_at 0 1 x5)), some (.long (100 * (l3 + (J 43 (f_CU_at 0 1 x5).toNatClampNeg)))), none, none, none, none, none]) dc_CU_countTail_38 rfl (Nat.le_of_ble_eq_true rfl) rfl ?_
    refine g_ldc2 (v := 100) kl_CU_175 dc_CU_countTail_40 rfl ?_
    refine g_lload_n dc_CU_countTail_43 rfl rfl rfl ?_
    refine g_aload_n dc_CU_countTail_44 rfl rfl rfl ?_
    refine g_get (C := "LevelBreaks$Cuts") (T := T_CU) (N := 13) (k := 1) (v := .ref 42) sh_33 (by decide) rfl rfl i_CU (by decide) fl_CU_28 (Or.inl rfl) rfl dc_CU_countTail_45 rfl ?_
    refine g_iload dc_CU_countTail_48 rfl rfl ?_
    refine g_laldv (v := (J 42 (f_CU_at 0 1 x5).toNatClampNeg)) sh_42 b1 rfl dc_CU_countTail_50 rfl ?_
    refine g_ladd dc_CU_countTail_51 rfl ?_
    refine g_lmul dc_CU_countTail_52 rfl ?_
    refine g_lload dc_CU_countTail_53 rfl rfl ?_
    refine g_ldc2 (v := 5342931457063200) kl_CU_129 dc_CU_countTail_55 rfl ?_
    refine g_ldiv dc_CU_countTail_58 rfl (by decide) ?_
    refine g_ladd dc_CU_countTail_59 rfl ?_
    refine g_lstore (L' := [some (.ref 33), some (.long l1), none, some (.long l3), none, some (.int x5), some (.int (f_CU_at 0 1 x5)), some (.long (100 * (l3 + (J 43 (f_CU_at 0 1 x5).toNatClampNeg)))), none, some (.long ((100 * (l1 + (J 42 (f_CU_at 0 1 x5).toNatClampNeg))) + ((100 * (l3 + (J 43 (f_CU_at 0 1 x5).toNatClampNeg))) / 5342931457063200))), none, none, none]) dc_CU_countTail_60 rfl (Nat.le_of_ble_eq_true rfl) rfl ?_
    refine g_lload dc_CU_countTail_62 rfl rfl ?_
    refine g_ldc2 (v := 5342931457063200) kl_CU_129 dc_CU_countTail_64 rfl ?_
    refine g_lrem dc_CU_countTail_67 rfl (by decide) ?_
    refine g_lstore (L' := [some (.ref 33), some (.long l1), none, some (.long l3), none, some (.int x5), some (.int (f_CU_at 0 1 x5)), some (.long (100 * (l3 + (J 43 (f_CU_at 0 1 x5).toNatClampNeg)))), none, some (.long ((100 * (l1 + (J 42 (f_CU_at 0 1 x5).toNatClampNeg))) + ((100 * (l3 + (J 43 (f_CU_at 0 1 x5).toNatClampNeg))) / 5342931457063200))), none, some (.long ((100 * (l3 + (J 43 (f_CU_at 0 1 x5).toNatClampNeg))) - (100 * (l3 + (J 43 (f_CU_at 0 1 x5).toNatClampNeg))) / 5342931457063200 * 5342931457063200)), none]) dc_CU_countTail_68 rfl (Nat.le_of_ble_eq_true rfl) rfl ?_
    refine g_lload dc_CU_countTail_70 rfl rfl ?_
    refine g_aload_n dc_CU_countTail_72 rfl rfl rfl ?_
    refine g_get (C := "LevelBreaks$Cuts") (T := T_CU) (N := 13) (k := 10) (v := .long (J 33 10)) sh_33 (by decide) rfl rfl i_CU (by decide) fl_CU_168 (Or.inl rfl) rfl dc_CU_countTail_73 rfl ?_
    refine g_lc_lt (tgt := 100) dc_CU_countTail_76 rfl dc_CU_countTail_77 rfl (by decide) (fun c2 => ?_) (fun c2 => ?_)
    · refine g_weak [none, none, none, none, none, none, none, none, none, none, none, none, none] trivial ?_
      exact (k2 c1 c2)
    · refine g_lload dc_CU_countTail_80 rfl rfl ?_
      refine g_aload_n dc_CU_countTail_82 rfl rfl rfl ?_
      refine g_get (C := "LevelBreaks$Cuts") (T := T_CU) (N := 13) (k := 10) (v := .long (J 33 10)) sh_33 (by decide) rfl rfl i_CU (by decide) fl_CU_168 (Or.inl rfl) rfl dc_CU_countTail_83 rfl ?_
      refine g_lc_ne (tgt := 104) dc_CU_countTail_86 rfl dc_CU_countTail_87 rfl (by decide) (fun c3 => ?_) (fun c3 => ?_)
      · refine g_weak [none, none, none, none, none, none, none, none, none, none, none, none, none] trivial ?_
        exact (k3 c1 c2 c3)
      · refine g_lload dc_CU_countTail_90 rfl rfl ?_
        refine g_aload_n dc_CU_countTail_92 rfl rfl rfl ?_
        refine g_get (C := "LevelBreaks$Cuts") (T := T_CU) (N := 13) (k := 11) (v := .long (J 33 11)) sh_33 (by decide) rfl rfl i_CU (by decide) fl_CU_172 (Or.inl rfl) rfl dc_CU_countTail_93 rfl ?_
        refine g_lc_gt (tgt := 104) dc_CU_countTail_96 rfl dc_CU_countTail_97 rfl (by decide) (fun c4 => ?_) (fun c4 => ?_)
        · refine g_weak [none, none, none, none, none, none, none, none, none, none, none, none, none] trivial ?_
          exact (k4 c1 c2 c3 c4)
        · refine g_weak [none, none, none, none, none, none, none, none, none, none, none, none, none] trivial ?_
          exact (k5 c1 c2 c3 c4)
  · refine g_iconst (v := 0) dc_CU_countTail_23 rfl (by decide) ?_
    exact g_iret rfl dc_CU_countTail_24 (q6 c1)
theorem w_CU_countTail_100 {G : GC} {d : Nat} {P : PT} {I : MI} {J : MJ}  (q1 : P (some (.int 1)) I J) : Go G (fr G m_CU_countTail (d + 1) P) 100 [none, none, none, none, none, none, none, none, none, none, none, none, none] [] I J := by
  refine g_iconst (v := 1) dc_CU_countTail_100 rfl (by decide) ?_
  refine g_goto (tgt := 105) dc_CU_countTail_101 (by decide) ?_
  exact g_iret rfl dc_CU_countTail_105 q1
theorem w_CU_countTail_104 {G : GC} {d : Nat} {P : PT} {I : MI} {J : MJ}  (q1 : P (some (.int 0)) I J) : Go G (fr G m_CU_countTail (d + 1) P) 104 [none, none, none, none, none, none, none, none, none, none, none, none, none] [] I J := by
  refine g_iconst (v := 0) dc_CU_countTail_104 rfl (by decide) ?_
  exact g_iret rfl dc_CU_countTail_105 q1
theorem dc_CU_countWithin_0 : decode prog_5_method_22_code 0 = .ok (.aload_n 0, 1) := by decide +kernel
theorem dc_CU_countWithin_1 : decode prog_5_method_22_code 1 = .ok (.iload_n 3, 1) := by decide +kernel
theorem dc_CU_countWithin_2 : decode prog_5_method_22_code 2 = .ok (.iload 5, 2) := by decide +kernel
theorem dc_CU_countWithin_4 : decode prog_5_method_22_code 4 = .ok (.invokevirtual 152, 3) := by decide +kernel
theorem dc_CU_countWithin_7 : decode prog_5_method_22_code 7 = .ok (.aload_n 0, 1) := by decide +kernel
theorem dc_CU_countWithin_8 : decode prog_5_method_22_code 8 = .ok (.getfield 24, 3) := by decide +kernel
theorem dc_CU_countWithin_11 : decode prog_5_method_22_code 11 = .ok (.iload_n 2, 1) := by decide +kernel
theorem dc_CU_countWithin_12 : decode prog_5_method_22_code 12 = .ok (.aaload, 1) := by decide +kernel
theorem dc_CU_countWithin_13 : decode prog_5_method_22_code 13 = .ok (.astore 6, 2) := by decide +kernel
theorem dc_CU_countWithin_15 : decode prog_5_method_22_code 15 = .ok (.aload_n 0, 1) := by decide +kernel
theorem dc_CU_countWithin_16 : decode prog_5_method_22_code 16 = .ok (.aload_n 1, 1) := by decide +kernel
theorem dc_CU_countWithin_17 : decode prog_5_method_22_code 17 = .ok (.aload 6, 2) := by decide +kernel
theorem dc_CU_countWithin_19 : decode prog_5_method_22_code 19 = .ok (.iload 4, 2) := by decide +kernel
theorem dc_CU_countWithin_21 : decode prog_5_method_22_code 21 = .ok (.invokevirtual 156, 3) := by decide +kernel
theorem dc_CU_countWithin_24 : decode prog_5_method_22_code 24 = .ok (.iconst 0, 1) := by decide +kernel
theorem dc_CU_countWithin_25 : decode prog_5_method_22_code 25 = .ok (.istore 7, 2) := by decide +kernel
theorem dc_CU_countWithin_27 : decode prog_5_method_22_code 27 = .ok (.iconst 1, 1) := by decide +kernel
theorem dc_CU_countWithin_28 : decode prog_5_method_22_code 28 = .ok (.istore 8, 2) := by decide +kernel
theorem dc_CU_countWithin_30 : decode prog_5_method_22_code 30 = .ok (.iload 8, 2) := by decide +kernel
theorem dc_CU_countWithin_32 : decode prog_5_method_22_code 32 = .ok (.aload_n 1, 1) := by decide +kernel
theorem dc_CU_countWithin_33 : decode prog_5_method_22_code 33 = .ok (.getfield 61, 3) := by decide +kernel
theorem dc_CU_countWithin_36 : decode prog_5_method_22_code 36 = .ok (.if_icmp .ge 76, 3) := by decide +kernel
theorem dc_CU_countWithin_39 : decode prog_5_method_22_code 39 = .ok (.aload_n 0, 1) := by decide +kernel
theorem dc_CU_countWithin_40 : decode prog_5_method_22_code 40 = .ok (.getfield 42, 3) := by decide +kernel
theorem dc_CU_countWithin_43 : decode prog_5_method_22_code 43 = .ok (.iload 8, 2) := by decide +kernel
theorem dc_CU_countWithin_45 : decode prog_5_method_22_code 45 = .ok (.iconst 1, 1) := by decide +kernel
theorem dc_CU_countWithin_46 : decode prog_5_method_22_code 46 = .ok (.isub, 1) := by decide +kernel
theorem dc_CU_countWithin_47 : decode prog_5_method_22_code 47 = .ok (.laload, 1) := by decide +kernel
theorem dc_CU_countWithin_48 : decode prog_5_method_22_code 48 = .ok (.ldc2_w 95, 3) := by decide +kernel
theorem dc_CU_countWithin_51 : decode prog_5_method_22_code 51 = .ok (.lcmp, 1) := by decide +kernel
theorem dc_CU_countWithin_52 : decode prog_5_method_22_code 52 = .ok (.ifCond .ne 6, 3) := by decide +kernel
theorem dc_CU_countWithin_55 : decode prog_5_method_22_code 55 = .ok (.goto 51, 3) := by decide +kernel
theorem dc_CU_countWithin_58 : decode prog_5_method_22_code 58 = .ok (.iload 7, 2) := by decide +kernel
theorem dc_CU_countWithin_60 : decode prog_5_method_22_code 60 = .ok (.iload_n 3, 1) := by decide +kernel
theorem dc_CU_countWithin_61 : decode prog_5_method_22_code 61 = .ok (.iconst 2, 1) := by decide +kernel
theorem dc_CU_countWithin_62 : decode prog_5_method_22_code 62 = .ok (.if_icmp .ne 30, 3) := by decide +kernel
theorem dc_CU_countWithin_65 : decode prog_5_method_22_code 65 = .ok (.aload_n 0, 1) := by decide +kernel
theorem dc_CU_countWithin_66 : decode prog_5_method_22_code 66 = .ok (.aload_n 0, 1) := by decide +kernel
theorem dc_CU_countWithin_67 : decode prog_5_method_22_code 67 = .ok (.getfield 42, 3) := by decide +kernel
theorem dc_CU_countWithin_70 : decode prog_5_method_22_code 70 = .ok (.iload 8, 2) := by decide +kernel
theorem dc_CU_countWithin_72 : decode prog_5_method_22_code 72 = .ok (.iconst 1, 1) := by decide +kernel
theorem dc_CU_countWithin_73 : decode prog_5_method_22_code 73 = .ok (.isub, 1) := by decide +kernel
theorem dc_CU_countWithin_74 : decode prog_5_method_22_code 74 = .ok (.laload, 1) := by decide +kernel
theorem dc_CU_countWithin_75 : decode prog_5_method_22_code 75 = .ok (.aload_n 0, 1) := by decide +kernel
theorem dc_CU_countWithin_76 : decode prog_5_method_22_code 76 = .ok (.getfield 45, 3) := by decide +kernel
theorem dc_CU_countWithin_79 : decode prog_5_method_22_code 79 = .ok (.iload 8, 2) := by decide +kernel
theorem dc_CU_countWithin_81 : decode prog_5_method_22_code 81 = .ok (.iconst 1, 1) := by decide +kernel
theorem dc_CU_countWithin_82 : decode prog_5_method_22_code 82 = .ok (.isub, 1) := by decide +kernel
theorem dc_CU_countWithin_83 : decode prog_5_method_22_code 83 = .ok (.laload, 1) := by decide +kernel
theorem dc_CU_countWithin_84 : decode prog_5_method_22_code 84 = .ok (.iload 8, 2) := by decide +kernel
theorem dc_CU_countWithin_86 : decode prog_5_method_22_code 86 = .ok (.invokevirtual 160, 3) := by decide +kernel
theorem dc_CU_countWithin_89 : decode prog_5_method_22_code 89 = .ok (.goto 14, 3) := by decide +kernel
theorem dc_CU_countWithin_92 : decode prog_5_method_22_code 92 = .ok (.aload_n 0, 1) := by decide +kernel
theorem dc_CU_countWithin_93 : decode prog_5_method_22_code 93 = .ok (.aload_n 1, 1) := by decide +kernel
theorem dc_CU_countWithin_94 : decode prog_5_method_22_code 94 = .ok (.aload 6, 2) := by decide +kernel
theorem dc_CU_countWithin_96 : decode prog_5_method_22_code 96 = .ok (.iload 8, 2) := by decide +kernel
theorem dc_CU_countWithin_98 : decode prog_5_method_22_code 98 = .ok (.iload 4, 2) := by decide +kernel
theorem dc_CU_countWithin_100 : decode prog_5_method_22_code 100 = .ok (.invokevirtual 164, 3) := by decide +kernel
theorem dc_CU_countWithin_103 : decode prog_5_method_22_code 103 = .ok (.iadd, 1) := by decide +kernel
theorem dc_CU_countWithin_104 : decode prog_5_method_22_code 104 = .ok (.istore 7, 2) := by decide +kernel
theorem dc_CU_countWithin_106 : decode prog_5_method_22_code 106 = .ok (.iinc 8 1, 3) := by decide +kernel
theorem dc_CU_countWithin_109 : decode prog_5_method_22_code 109 = .ok (.goto (-79), 3) := by decide +kernel
theorem dc_CU_countWithin_112 : decode prog_5_method_22_code 112 = .ok (.iload 7, 2) := by decide +kernel
theorem dc_CU_countWithin_114 : decode prog_5_method_22_code 114 = .ok (.ireturn, 1) := by decide +kernel
theorem w_CU_countWithin_0 {G : GC} {d : Nat} {P : PT} {I : MI} {J : MJ} {o1 : Nat} (h1 : PtsAt o1) {x2 : Int32} {x3 : Int32} {x4 : Int32} {x5 : Int32} (k1 : Ct G (d + 3) m_CU_setBound [.ref 33, .int x3, .int x5] (fun r I' J' => Go G (fr G m_CU_countWithin (d + 4) P) 7 [some (.ref 33), some (.ref o1), some (.int x2), some (.int x3), some (.int x4), none, none, none, none] (r.toList ++ []) I' J') I J) : Go G (fr G m_CU_countWithin (d + 4) P) 0 [some (.ref 33), some (.ref o1), some (.int x2), some (.int x3), some (.int x4), some (.int x5), none, none, none] [] I J := by
  refine g_aload_n dc_CU_countWithin_0 rfl rfl rfl ?_
  refine g_iload_n dc_CU_countWithin_1 rfl rfl rfl ?_
  refine g_iload dc_CU_countWithin_2 rfl rfl ?_
  refine g_weak [some (.ref 33), some (.ref o1), some (.int x2), some (.int x3), some (.int x4), none, none, none, none] ⟨rfl, ⟨rfl, ⟨rfl, ⟨rfl, ⟨rfl, trivial⟩⟩⟩⟩⟩ ?_
  exact g_callV (T := T_CU) (N := 13) (As := [.int x3, .int x5]) (rest := []) ok_CU_setBound in_CU_setBound se_CU_setBound ml_CU_152 sh_33 (by decide) rfl rfl rfl (Nat.le_of_ble_eq_true rfl) dc_CU_countWithin_4 rfl rOk_fr k1
theorem w_CU_countWithin_7 {G : GC} {d : Nat} {P : PT} {I : MI} {J : MJ} {o1 : Nat} (h1 : PtsAt o1) {x2 : Int32} {x3 : Int32} {x4 : Int32} (b1 : vp_in x2 4) (k2 : Ct G (d + 3) m_CU_measureHeads [.ref 33, .ref o1, .ref (mcl x2.toNatClampNeg), .int x4] (fun r I' J' => Go G (fr G m_CU_countWithin (d + 4) P) 24 [some (.ref 33), some (.ref o1), none, some (.int x3), some (.int x4), none, some (.ref (mcl x2.toNatClampNeg)), none, none] (r.toList ++ []) I' J') I J) : Go G (fr G m_CU_countWithin (d + 4) P) 7 [some (.ref 33), some (.ref o1), some (.int x2), some (.int x3), some (.int x4), none, none, none, none] [] I J := by
  refine g_aload_n dc_CU_countWithin_7 rfl rfl rfl ?_
  refine g_get (C := "LevelBreaks$Cuts") (T := T_CU) (N := 13) (k := 0) (v := .ref 34) sh_33 (by decide) rfl rfl i_CU (by decide) fl_CU_24 (Or.inl rfl) rfl dc_CU_countWithin_8 rfl ?_
  refine g_iload_n dc_CU_countWithin_11 rfl rfl rfl ?_
  refine g_aald (r := (mcl x2.toNatClampNeg)) sh_34 (by decide) rfl b1 (mea_at (vin_lt b1)) dc_CU_countWithin_12 rfl ?_
  refine g_astore (L' := [some (.ref 33), some (.ref o1), some (.int x2), some (.int x3), some (.int x4), none, some (.ref (mcl x2.toNatClampNeg)), none, none]) dc_CU_countWithin_13 rfl (Nat.le_of_ble_eq_true rfl) rfl ?_
  refine g_aload_n dc_CU_countWithin_15 rfl rfl rfl ?_
  refine g_aload_n dc_CU_countWithin_16 rfl rfl rfl ?_
  refine g_aload dc_CU_countWithin_17 rfl rfl ?_
  refine g_iload dc_CU_countWithin_19 rfl rfl ?_
  refine g_weak [some (.ref 33), some (.ref o1), none, some (.int x3), some (.int x4), none, some (.ref (mcl x2.toNatClampNeg)), none, none] ⟨rfl, ⟨rfl, ⟨rfl, ⟨rfl, ⟨rfl, trivial⟩⟩⟩⟩⟩ ?_
  exact g_callV (T := T_CU) (N := 13) (As := [.ref o1, .ref (mcl x2.toNatClampNeg), .int x4]) (rest := []) ok_CU_measureHeads in_CU_measureHeads se_CU_measureHeads ml_CU_156 sh_33 (by decide) rfl rfl rfl (Nat.le_of_ble_eq_true rfl) dc_CU_countWithin_21 rfl rOk_fr k2
theorem w_CU_countWithin_24 {G : GC} {d : Nat} {P : PT} {I : MI} {J : MJ} {o1 : Nat} (h1 : PtsAt o1) {x3 : Int32} {x4 : Int32} {o6 : Nat} (h6 : MesAt o6) (k1 : Go G (fr G m_CU_countWithin (d + 4) P) 30 [some (.ref 33), some (.ref o1), none, some (.int x3), some (.int x4), none, some (.ref o6), some (.int 0), some (.int 1)] [] I J) : Go G (fr G m_CU_countWithin (d + 4) P) 24 [some (.ref 33), some (.ref o1), none, some (.int x3), some (.int x4), none, some (.ref o6), none, none] [] I J := by
  refine g_iconst (v := 0) dc_CU_countWithin_24 rfl (by decide) ?_
  refine g_istore (L' := [some (.ref 33), some (.ref o1), none, some (.int x3), some (.int x4), none, some (.ref o6), some (.int 0), none]) dc_CU_countWithin_25 rfl (Nat.le_of_ble_eq_true rfl) rfl ?_
  refine g_iconst (v := 1) dc_CU_countWithin_27 rfl (by decide) ?_
  refine g_istore (L' := [some (.ref 33), some (.ref o1), none, some (.int x3), some (.int x4), none, some (.ref o6), some (.int 0), some (.int 1)]) dc_CU_countWithin_28 rfl (Nat.le_of_ble_eq_true rfl) rfl ?_
  exact k1
theorem w_CU_countWithin_30 {G : GC} {d : Nat} {P : PT} {I : MI} {J : MJ} {o1 : Nat} (h1 : PtsAt o1) {x3 : Int32} {x4 : Int32} {o6 : Nat} (h6 : MesAt o6) {x7 : Int32} {x8 : Int32} (q1 : ((I o1 4) ≤ x8) → P (some (.int x7)) I J) (b2 : (¬ ((I o1 4) ≤ x8)) → vp_in (x8 - 1) 40) (k3 : (¬ ((I o1 4) ≤ x8)) → (¬ (J 46 (x8 - 1).toNatClampNeg) = (-1)) → (¬ x3 = 2) → Ct G (d + 3) m_CU_countMiddles [.ref 33, .ref o1, .ref o6, .int x8, .int x4] (fun r I' J' => Go G (fr G m_CU_countWithin (d + 4) P) 103 [some (.ref 33), some (.ref o1), none, some (.int x3), some (.int x4), none, some (.ref o6), none, some (.int x8)] (r.toList ++ [.int x7]) I' J') I J) (k4 : (¬ ((I o1 4) ≤ x8)) → (¬ (J 46 (x8 - 1).toNatClampNeg) = (-1)) → (x3 = 2) → Ct G (d + 3) m_CU_countTail [.ref 33, .long (J 46 (x8 - 1).toNatClampNeg), .long (J 47 (x8 - 1).toNatClampNeg), .int x8] (fun r I' J' => Go G (fr G m_CU_countWithin (d + 4) P) 89 [some (.ref 33), some (.ref o1), none, some (.int x3), some (.int x4), none, some (.ref o6), none, some (.int x8)] (r.toList ++ [.int x7]) I' J') I J) (k5 : (¬ ((I o1 4) ≤ x8)) → ((J 46 (x8 - 1).toNatClampNeg) = (-1)) → Go G (fr G m_CU_countWithin (d + 4) P) 106 [some (.ref 33), some (.ref o1), none, some (.int x3), some (.int x4), none, some (.ref o6), some (.int x7), some (.int x8)] [] I J) : Go G (fr G m_CU_countWithin (d + 4) P) 30 [some (.ref 33), some (.ref o1), none, some (.int x3), some (.int x4), none, some (.ref o6), some (.int x7), some (.int x8)] [] I J := by
  refine g_iload dc_CU_countWithin_30 rfl rfl ?_
  refine g_aload_n dc_CU_countWithin_32 rfl rfl rfl ?_
  refine g_get (C := "LevelBreaks$Points") (T := T_PO) (N := 5) (k := 4) (v := .int (I o1 4)) h1.1 (by decide) rfl rfl i_PO (by decide) fl_CU_61 (Or.inl rfl) rfl dc_CU_countWithin_33 rfl ?_
  refine g_ic_ge (tgt := 112) dc_CU_countWithin_36 rfl (by decide) (fun c1 => ?_) (fun c1 => ?_)
  · refine g_iload dc_CU_countWithin_112 rfl rfl ?_
    exact g_iret rfl dc_CU_countWithin_114 (q1 c1)
  · refine g_aload_n dc_CU_countWithin_39 rfl rfl rfl ?_
    refine g_get (C := "LevelBreaks$Cuts") (T := T_CU) (N := 13) (k := 5) (v := .ref 46) sh_33 (by decide) rfl rfl i_CU (by decide) fl_CU_42 (Or.inl rfl) rfl dc_CU_countWithin_40 rfl ?_
    refine g_iload dc_CU_countWithin_43 rfl rfl ?_
    refine g_iconst (v := 1) dc_CU_countWithin_45 rfl (by decide) ?_
    refine g_isub dc_CU_countWithin_46 rfl ?_
    refine g_laldv (v := (J 46 (x8 - 1).toNatClampNeg)) sh_46 (b2 c1) rfl dc_CU_countWithin_47 rfl ?_
    refine g_ldc2 (v := (-1)) kl_CU_95 dc_CU_countWithin_48 rfl ?_
    refine g_lc_ne (tgt := 58) dc_CU_countWithin_51 rfl dc_CU_countWithin_52 rfl (by decide) (fun c2 => ?_) (fun c2 => ?_)
    · refine g_iload dc_CU_countWithin_58 rfl rfl ?_
      refine g_iload_n dc_CU_countWithin_60 rfl rfl rfl ?_
      refine g_iconst (v := 2) dc_CU_countWithin_61 rfl (by decide) ?_
      refine g_ic_ne (tgt := 92) dc_CU_countWithin_62 rfl (by decide) (fun c3 => ?_) (fun c3 => ?_)
      · refine g_aload_n dc_CU_countWithin_92 rfl rfl rfl ?_
        refine g_aload_n dc_CU_countWithin_93 rfl rfl rfl ?_
        refine g_aload dc_CU_countWithin_94 rfl rfl ?_
        refine g_iload dc_CU_countWithin_96 rfl rfl ?_
        refine g_iload dc_CU_countWithin_98 rfl rfl ?_
        refine g_weak [some (.ref 33), some (.ref o1), none, some (.int x3), some (.int x4), none, some (.ref o6), none, some (.int x8)] ⟨rfl, ⟨rfl, ⟨rfl, ⟨rfl, ⟨rfl, ⟨rfl, trivial⟩⟩⟩⟩⟩⟩ ?_
        exact g_callV (T := T_CU) (N := 13) (As := [.ref o1, .ref o6, .int x8, .int x4]) (rest := [.int x7]) ok_CU_countMiddles in_CU_countMiddles se_CU_countMiddles ml_CU_164 sh_33 (by decide) rfl rfl rfl (Nat.le_of_ble_eq_true rfl) dc_CU_countWithin_100 rfl rOk_fr (k3 c1 c2 c3)
      · refine g_aload_n dc_CU_countWithin_65 rfl rfl rfl ?_
        refine g_aload_n dc_CU_countWithin_66 rfl rfl rfl ?_
        refine g_get (C := "LevelBreaks$Cuts") (T := T_CU) (N := 13) (k := 5) (v := .ref 46) sh_33 (by decide) rfl rfl i_CU (by decide) fl_CU_42 (Or.inl rfl) rfl dc_CU_countWithin_67 rfl ?_
        refine g_iload dc_CU_countWithin_70 rfl rfl ?_
        refine g_iconst (v := 1) dc_CU_countWithin_72 rfl (by decide) ?_
        refine g_isub dc_CU_countWithin_73 rfl ?_
        refine g_laldv (v := (J 46 (x8 - 1).toNatClampNeg)) sh_46 (b2 c1) rfl dc_CU_countWithin_74 rfl ?_
        refine g_aload_n dc_CU_countWithin_75 rfl rfl rfl ?_
        refine g_get (C := "LevelBreaks$Cuts") (T := T_CU) (N := 13) (k := 6) (v := .ref 47) sh_33 (by decide) rfl rfl i_CU (by decide) fl_CU_45 (Or.inl rfl) rfl dc_CU_countWithin_76 rfl ?_
        refine g_iload dc_CU_countWithin_79 rfl rfl ?_
        refine g_iconst (v := 1) dc_CU_countWithin_81 rfl (by decide) ?_
        refine g_isub dc_CU_countWithin_82 rfl ?_
        refine g_laldv (v := (J 47 (x8 - 1).toNatClampNeg)) sh_47 (b2 c1) rfl dc_CU_countWithin_83 rfl ?_
        refine g_iload dc_CU_countWithin_84 rfl rfl ?_
        refine g_weak [some (.ref 33), some (.ref o1), none, some (.int x3), some (.int x4), none, some (.ref o6), none, some (.int x8)] ⟨rfl, ⟨rfl, ⟨rfl, ⟨rfl, ⟨rfl, ⟨rfl, trivial⟩⟩⟩⟩⟩⟩ ?_
        exact g_callV (T := T_CU) (N := 13) (As := [.long (J 46 (x8 - 1).toNatClampNeg), .long (J 47 (x8 - 1).toNatClampNeg), .int x8]) (rest := [.int x7]) ok_CU_countTail in_CU_countTail se_CU_countTail ml_CU_160 sh_33 (by decide) rfl rfl rfl (Nat.le_of_ble_eq_true rfl) dc_CU_countWithin_86 rfl rOk_fr (k4 c1 c2 c3)
    · refine g_goto (tgt := 106) dc_CU_countWithin_55 (by decide) ?_
      exact (k5 c1 c2)
theorem w_CU_countWithin_89 {G : GC} {d : Nat} {P : PT} {I : MI} {J : MJ} {o1 : Nat} (h1 : PtsAt o1) {x3 : Int32} {x4 : Int32} {o6 : Nat} (h6 : MesAt o6) {x8 : Int32} {y0 : Int32} {y1 : Int32} (k1 : Go G (fr G m_CU_countWithin (d + 4) P) 103 [some (.ref 33), some (.ref o1), none, some (.int x3), some (.int x4), none, some (.ref o6), none, some (.int x8)] [.int y1, .int y0] I J) : Go G (fr G m_CU_countWithin (d + 4) P) 89 [some (.ref 33), some (.ref o1), none, some (.int x3), some (.int x4), none, some (.ref o6), none, some (.int x8)] [.int y1, .int y0] I J := by
  refine g_goto (tgt := 103) dc_CU_countWithin_89 (by decide) ?_
  exact k1
theorem w_CU_countWithin_103 {G : GC} {d : Nat} {P : PT} {I : MI} {J : MJ} {o1 : Nat} (h1 : PtsAt o1) {x3 : Int32} {x4 : Int32} {o6 : Nat} (h6 : MesAt o6) {x8 : Int32} {y0 : Int32} {y1 : Int32} (k1 : Go G (fr G m_CU_countWithin (d + 4) P) 106 [some (.ref 33), some (.ref o1), none, some (.int x3), some (.int x4), none, some (.ref o6), some (.int (y0 + y1)), some (.int x8)] [] I J) : Go G (fr G m_CU_countWithin (d + 4) P) 103 [some (.ref 33), some (.ref o1), none, some (.int x3), some (.int x4), none, some (.ref o6), none, some (.int x8)] [.int y1, .int y0] I J := by
  refine g_iadd dc_CU_countWithin_103 rfl ?_
  refine g_istore (L' := [some (.ref 33), some (.ref o1), none, some (.int x3), some (.int x4), none, some (.ref o6), some (.int (y0 + y1)), some (.int x8)]) dc_CU_countWithin_104 rfl (Nat.le_of_ble_eq_true rfl) rfl ?_
  exact k1
theorem w_CU_countWithin_106 {G : GC} {d : Nat} {P : PT} {I : MI} {J : MJ} {o1 : Nat} (h1 : PtsAt o1) {x3 : Int32} {x4 : Int32} {o6 : Nat} (h6 : MesAt o6) {x7 : Int32} {x8 : Int32} (k1 : Go G (fr G m_CU_countWithin (d + 4) P) 30 [some (.ref 33), some (.ref o1), none, some (.int x3), some (.int x4), none, some (.ref o6), some (.int x7), some (.int (x8 + 1))] [] I J) : Go G (fr G m_CU_countWithin (d + 4) P) 106 [some (.ref 33), some (.ref o1), none, some (.int x3), some (.int x4), none, some (.ref o6), some (.int x7), some (.int x8)] [] I J := by
  refine g_iinc (v := (x8 + 1)) (L' := [some (.ref 33), some (.ref o1), none, some (.int x3), some (.int x4), none, some (.ref o6), some (.int x7), some (.int (x8 + 1))]) dc_CU_countWithin_106 rfl rfl (by rw [show Int32.ofInt 1 = 1 from by decide]) (Nat.le_of_ble_eq_true rfl) rfl ?_
  refine g_goto (tgt := 30) dc_CU_countWithin_109 (by decide) ?_
  exact k1
theorem dc_CU_cutPoints_0 : decode prog_5_method_3_code 0 = .ok (.aload_n 0, 1) := by decide +kernel
theorem dc_CU_cutPoints_1 : decode prog_5_method_3_code 1 = .ok (.aload_n 1, 1) := by decide +kernel
theorem dc_CU_cutPoints_2 : decode prog_5_method_3_code 2 = .ok (.getfield 61, 3) := by decide +kernel
theorem dc_CU_cutPoints_5 : decode prog_5_method_3_code 5 = .ok (.iload_n 3, 1) := by decide +kernel
theorem dc_CU_cutPoints_6 : decode prog_5_method_3_code 6 = .ok (.iload 5, 2) := by decide +kernel
theorem dc_CU_cutPoints_8 : decode prog_5_method_3_code 8 = .ok (.invokevirtual 67, 3) := by decide +kernel
theorem dc_CU_cutPoints_11 : decode prog_5_method_3_code 11 = .ok (.aload_n 0, 1) := by decide +kernel
theorem dc_CU_cutPoints_12 : decode prog_5_method_3_code 12 = .ok (.getfield 24, 3) := by decide +kernel
theorem dc_CU_cutPoints_15 : decode prog_5_method_3_code 15 = .ok (.iload_n 2, 1) := by decide +kernel
theorem dc_CU_cutPoints_16 : decode prog_5_method_3_code 16 = .ok (.aaload, 1) := by decide +kernel
theorem dc_CU_cutPoints_17 : decode prog_5_method_3_code 17 = .ok (.astore 6, 2) := by decide +kernel
theorem dc_CU_cutPoints_19 : decode prog_5_method_3_code 19 = .ok (.aload_n 1, 1) := by decide +kernel
theorem dc_CU_cutPoints_20 : decode prog_5_method_3_code 20 = .ok (.getfield 61, 3) := by decide +kernel
theorem dc_CU_cutPoints_23 : decode prog_5_method_3_code 23 = .ok (.iconst 1, 1) := by decide +kernel
theorem dc_CU_cutPoints_24 : decode prog_5_method_3_code 24 = .ok (.isub, 1) := by decide +kernel
theorem dc_CU_cutPoints_25 : decode prog_5_method_3_code 25 = .ok (.istore 7, 2) := by decide +kernel
theorem dc_CU_cutPoints_27 : decode prog_5_method_3_code 27 = .ok (.iload 7, 2) := by decide +kernel
theorem dc_CU_cutPoints_29 : decode prog_5_method_3_code 29 = .ok (.istore 8, 2) := by decide +kernel
theorem dc_CU_cutPoints_31 : decode prog_5_method_3_code 31 = .ok (.iload 8, 2) := by decide +kernel
theorem dc_CU_cutPoints_33 : decode prog_5_method_3_code 33 = .ok (.ifCond .lt 95, 3) := by decide +kernel
theorem dc_CU_cutPoints_36 : decode prog_5_method_3_code 36 = .ok (.aload 6, 2) := by decide +kernel
theorem dc_CU_cutPoints_38 : decode prog_5_method_3_code 38 = .ok (.invokevirtual 54, 3) := by decide +kernel
theorem dc_CU_cutPoints_41 : decode prog_5_method_3_code 41 = .ok (.iload 8, 2) := by decide +kernel
theorem dc_CU_cutPoints_43 : decode prog_5_method_3_code 43 = .ok (.istore 9, 2) := by decide +kernel
theorem dc_CU_cutPoints_45 : decode prog_5_method_3_code 45 = .ok (.iload 9, 2) := by decide +kernel
theorem dc_CU_cutPoints_47 : decode prog_5_method_3_code 47 = .ok (.iload 7, 2) := by decide +kernel
theorem dc_CU_cutPoints_49 : decode prog_5_method_3_code 49 = .ok (.if_icmp .gt 73, 3) := by decide +kernel
theorem dc_CU_cutPoints_52 : decode prog_5_method_3_code 52 = .ok (.aload 6, 2) := by decide +kernel
theorem dc_CU_cutPoints_54 : decode prog_5_method_3_code 54 = .ok (.aload_n 1, 1) := by decide +kernel
theorem dc_CU_cutPoints_55 : decode prog_5_method_3_code 55 = .ok (.iload 9, 2) := by decide +kernel
theorem dc_CU_cutPoints_57 : decode prog_5_method_3_code 57 = .ok (.invokevirtual 57, 3) := by decide +kernel
theorem dc_CU_cutPoints_60 : decode prog_5_method_3_code 60 = .ok (.iload_n 3, 1) := by decide +kernel
theorem dc_CU_cutPoints_61 : decode prog_5_method_3_code 61 = .ok (.iconst 2, 1) := by decide +kernel
theorem dc_CU_cutPoints_62 : decode prog_5_method_3_code 62 = .ok (.if_icmp .gt 15, 3) := by decide +kernel
theorem dc_CU_cutPoints_65 : decode prog_5_method_3_code 65 = .ok (.iload 8, 2) := by decide +kernel
theorem dc_CU_cutPoints_67 : decode prog_5_method_3_code 67 = .ok (.ifCond .eq 10, 3) := by decide +kernel
theorem dc_CU_cutPoints_70 : decode prog_5_method_3_code 70 = .ok (.iload 9, 2) := by decide +kernel
theorem dc_CU_cutPoints_72 : decode prog_5_method_3_code 72 = .ok (.iload 7, 2) := by decide +kernel
theorem dc_CU_cutPoints_74 : decode prog_5_method_3_code 74 = .ok (.if_icmp .ne 42, 3) := by decide +kernel
theorem dc_CU_cutPoints_77 : decode prog_5_method_3_code 77 = .ok (.aload_n 0, 1) := by decide +kernel
theorem dc_CU_cutPoints_78 : decode prog_5_method_3_code 78 = .ok (.aload_n 1, 1) := by decide +kernel
theorem dc_CU_cutPoints_79 : decode prog_5_method_3_code 79 = .ok (.aload 6, 2) := by decide +kernel
theorem dc_CU_cutPoints_81 : decode prog_5_method_3_code 81 = .ok (.iload 8, 2) := by decide +kernel
theorem dc_CU_cutPoints_83 : decode prog_5_method_3_code 83 = .ok (.iload 9, 2) := by decide +kernel
theorem dc_CU_cutPoints_85 : decode prog_5_method_3_code 85 = .ok (.iload 4, 2) := by decide +kernel
theorem dc_CU_cutPoints_87 : decode prog_5_method_3_code 87 = .ok (.invokevirtual 71, 3) := by decide +kernel
theorem dc_CU_cutPoints_90 : decode prog_5_method_3_code 90 = .ok (.aload_n 0, 1) := by decide +kernel
theorem dc_CU_cutPoints_91 : decode prog_5_method_3_code 91 = .ok (.aload_n 1, 1) := by decide +kernel
theorem dc_CU_cutPoints_92 : decode prog_5_method_3_code 92 = .ok (.aload 6, 2) := by decide +kernel
theorem dc_CU_cutPoints_94 : decode prog_5_method_3_code 94 = .ok (.iload 8, 2) := by decide +kernel
theorem dc_CU_cutPoints_96 : decode prog_5_method_3_code 96 = .ok (.iload 9, 2) := by decide +kernel
theorem dc_CU_cutPoints_98 : decode prog_5_method_3_code 98 = .ok (.iload 4, 2) := by decide +kernel
theorem dc_CU_cutPoints_100 : decode prog_5_method_3_code 100 = .ok (.invokevirtual 75, 3) := by decide +kernel
theorem dc_CU_cutPoints_103 : decode prog_5_method_3_code 103 = .ok (.aload_n 0, 1) := by decide +kernel
theorem dc_CU_cutPoints_104 : decode prog_5_method_3_code 104 = .ok (.aload_n 1, 1) := by decide +kernel
theorem dc_CU_cutPoints_105 : decode prog_5_method_3_code 105 = .ok (.aload 6, 2) := by decide +kernel
theorem dc_CU_cutPoints_107 : decode prog_5_method_3_code 107 = .ok (.iload 8, 2) := by decide +kernel
theorem dc_CU_cutPoints_109 : decode prog_5_method_3_code 109 = .ok (.iload 9, 2) := by decide +kernel
theorem dc_CU_cutPoints_111 : decode prog_5_method_3_code 111 = .ok (.iload 4, 2) := by decide +kernel
theorem dc_CU_cutPoints_113 : decode prog_5_method_3_code 113 = .ok (.invokevirtual 78, 3) := by decide +kernel
theorem dc_CU_cutPoints_116 : decode prog_5_method_3_code 116 = .ok (.iinc 9 1, 3) := by decide +kernel
theorem dc_CU_cutPoints_119 : decode prog_5_method_3_code 119 = .ok (.goto (-74), 3) := by decide +kernel
theorem dc_CU_cutPoints_122 : decode prog_5_method_3_code 122 = .ok (.iinc 8 (-1), 3) := by decide +kernel
theorem dc_CU_cutPoints_125 : decode prog_5_method_3_code 125 = .ok (.goto (-94), 3) := by decide +kernel
theorem dc_CU_cutPoints_128 : decode prog_5_method_3_code 128 = .ok (.aload_n 0, 1) := by decide +kernel
theorem dc_CU_cutPoints_129 : decode prog_5_method_3_code 129 = .ok (.iload_n 3, 1) := by decide +kernel
theorem dc_CU_cutPoints_130 : decode prog_5_method_3_code 130 = .ok (.invokevirtual 81, 3) := by decide +kernel
theorem dc_CU_cutPoints_133 : decode prog_5_method_3_code 133 = .ok (.ireturn, 1) := by decide +kernel
theorem w_CU_cutPoints_0 {G : GC} {d : Nat} {P : PT} {I : MI} {J : MJ} {o1 : Nat} (h1 : PtsAt o1) {x2 : Int32} {x3 : Int32} {x4 : Int32} {x5 : Int32} (k1 : Ct G (d + 3) m_CU_begin [.ref 33, .int (I o1 4), .int x3, .int x5] (fun r I' J' => Go G (fr G m_CU_cutPoints (d + 4) P) 11 [some (.ref 33), some (.ref o1), some (.int x2), some (.int x3), some (.int x4), none, none, none, none, none] (r.toList ++ []) I' J') I J) : Go G (fr G m_CU_cutPoints (d + 4) P) 0 [some (.ref 33), some (.ref o1), some (.int x2), some (.int x3), some (.int x4), some (.int x5), none, none, none, none] [] I J := by
  refine g_aload_n dc_CU_cutPoints_0 rfl rfl rfl ?_
  refine g_aload_n dc_CU_cutPoints_1 rfl rfl rfl ?_
  refine g_get (C := "LevelBreaks$Points") (T := T_PO) (N := 5) (k := 4) (v := .int (I o1 4)) h1.1 (by decide) rfl rfl i_PO (by decide) fl_CU_61 (Or.inl rfl) rfl dc_CU_cutPoints_2 rfl ?_
  refine g_iload_n dc_CU_cutPoints_5 rfl rfl rfl ?_
  refine g_iload dc_CU_cutPoints_6 rfl rfl ?_
  refine g_weak [some (.ref 33), some (.ref o1), some (.int x2), some (.int x3), some (.int x4), none, none, none, none, none] ⟨rfl, ⟨rfl, ⟨rfl, ⟨rfl, ⟨rfl, trivial⟩⟩⟩⟩⟩ ?_
  exact g_callV (T := T_CU) (N := 13) (As := [.int (I o1 4), .int x3, .int x5]) (rest := []) ok_CU_begin in_CU_begin se_CU_begin ml_CU_67 sh_33 (by decide) rfl rfl rfl (Nat.le_of_ble_eq_true rfl) dc_CU_cutPoints_8 rfl rOk_fr k1
theorem w_CU_cutPoints_11 {G : GC} {d : Nat} {P : PT} {I : MI} {J : MJ} {o1 : Nat} (h1 : PtsAt o1) {x2 : Int32} {x3 : Int32} {x4 : Int32} (b1 : vp_in x2 4) (k2 : Go G (fr G m_CU_cutPoints (d + 4) P) 31 [some (.ref 33), some (.ref o1), none, some (.int x3), some (.int x4), none, some (.ref (mcl x2.toNatClampNeg)), some (.int ((I o1 4) - 1)), some (.int ((I o1 4) - 1)), none] [] I J) : Go G (fr G m_CU_cutPoints (d + 4) P) 11 [some (.ref 33), some (.ref o1), some (.int x2), some (.int x3), some (.int x4), none, none, none, none, none] [] I J := by
  refine g_aload_n dc_CU_cutPoints_11 rfl rfl rfl ?_
  refine g_get (C := "LevelBreaks$Cuts") (T := T_CU) (N := 13) (k := 0) (v := .ref 34) sh_33 (by decide) rfl rfl i_CU (by decide) fl_CU_24 (Or.inl rfl) rfl dc_CU_cutPoints_12 rfl ?_
  refine g_iload_n dc_CU_cutPoints_15 rfl rfl rfl ?_
  refine g_aald (r := (mcl x2.toNatClampNeg)) sh_34 (by decide) rfl b1 (mea_at (vin_lt b1)) dc_CU_cutPoints_16 rfl ?_
  refine g_astore (L' := [some (.ref 33), some (.ref o1), some (.int x2), some (.int x3), some (.int x4), none, some (.ref (mcl x2.toNatClampNeg)), none, none, none]) dc_CU_cutPoints_17 rfl (Nat.le_of_ble_eq_true rfl) rfl ?_
  refine g_aload_n dc_CU_cutPoints_19 rfl rfl rfl ?_
  refine g_get (C := "LevelBreaks$Points") (T := T_PO) (N := 5) (k := 4) (v := .int (I o1 4)) h1.1 (by decide) rfl rfl i_PO (by decide) fl_CU_61 (Or.inl rfl) rfl dc_CU_cutPoints_20 rfl ?_
  refine g_iconst (v := 1) dc_CU_cutPoints_23 rfl (by decide) ?_
  refine g_isub dc_CU_cutPoints_24 rfl ?_
  refine g_istore (L' := [some (.ref 33), some (.ref o1), some (.int x2), some (.int x3), some (.int x4), none, some (.ref (mcl x2.toNatClampNeg)), some (.int ((I o1 4) - 1)), none, none]) dc_CU_cutPoints_25 rfl (Nat.le_of_ble_eq_true rfl) rfl ?_
  refine g_iload dc_CU_cutPoints_27 rfl rfl ?_
  refine g_istore (L' := [some (.ref 33), some (.ref o1), some (.int x2), some (.int x3), some (.int x4), none, some (.ref (mcl x2.toNatClampNeg)), some (.int ((I o1 4) - 1)), some (.int ((I o1 4) - 1)), none]) dc_CU_cutPoints_29 rfl (Nat.le_of_ble_eq_true rfl) rfl ?_
  refine g_weak [some (.ref 33), some (.ref o1), none, some (.int x3), some (.int x4), none, some (.ref (mcl x2.toNatClampNeg)), some (.int ((I o1 4) - 1)), some (.int ((I o1 4) - 1)), none] ⟨rfl, ⟨rfl, ⟨rfl, ⟨rfl, ⟨rfl, ⟨rfl, ⟨rfl, trivial⟩⟩⟩⟩⟩⟩⟩ ?_
  exact k2
theorem w_CU_cutPoints_31 {G : GC} {d : Nat} {P : PT} {I : MI} {J : MJ} {o1 : Nat} (h1 : PtsAt o1) {x3 : Int32} {x4 : Int32} {o6 : Nat} (h6 : MesAt o6) {x7 : Int32} {x8 : Int32} (k1 : (x8 < 0) → Ct G (d + 3) m_CU_trace [.ref 33, .int x3] (fun r I' J' => Go G (fr G m_CU_cutPoints (d + 4) P) 133 [none, none, none, none, none, none, none, none, none, none] (r.toList ++ []) I' J') I J) (k2 : (¬ (x8 < 0)) → Ct G (d + 3) (mesM o6 m_SU_restart m_MI_restart m_ON_restart) [.ref o6] (fun r I' J' => Go G (fr G m_CU_cutPoints (d + 4) P) 41 [some (.ref 33), some (.ref o1), none, some (.int x3), some (.int x4), none, some (.ref o6), some (.int x7), some (.int x8), none] (r.toList ++ []) I' J') I J) : Go G (fr G m_CU_cutPoints (d + 4) P) 31 [some (.ref 33), some (.ref o1), none, some (.int x3), some (.int x4), none, some (.ref o6), some (.int x7), some (.int x8), none] [] I J := by
  refine g_iload dc_CU_cutPoints_31 rfl rfl ?_
  refine g_if_lt (tgt := 128) dc_CU_cutPoints_33 rfl (by decide) (fun c1 => ?_) (fun c1 => ?_)
  · refine g_aload_n dc_CU_cutPoints_128 rfl rfl rfl ?_
    refine g_iload_n dc_CU_cutPoints_129 rfl rfl rfl ?_
    refine g_weak [none, none, none, none, none, none, none, none, none, none] trivial ?_
    exact g_callV (T := T_CU) (N := 13) (As := [.int x3]) (rest := []) ok_CU_trace in_CU_trace se_CU_trace ml_CU_81 sh_33 (by decide) rfl rfl rfl (Nat.le_of_ble_eq_true rfl) dc_CU_cutPoints_130 rfl rOk_fr (k1 c1)
  · refine g_aload dc_CU_cutPoints_36 rfl rfl ?_
    exact g_callM_restart (As := []) (rest := []) h6 ml_CU_54 rfl rfl (Nat.le_of_ble_eq_true rfl) dc_CU_cutPoints_38 rfl rOk_fr (k2 c1)
theorem w_CU_cutPoints_41 {G : GC} {d : Nat} {P : PT} {I : MI} {J : MJ} {o1 : Nat} (h1 : PtsAt o1) {x3 : Int32} {x4 : Int32} {o6 : Nat} (h6 : MesAt o6) {x7 : Int32} {x8 : Int32} (k1 : Go G (fr G m_CU_cutPoints (d + 4) P) 45 [some (.ref 33), some (.ref o1), none, some (.int x3), some (.int x4), none, some (.ref o6), some (.int x7), some (.int x8), some (.int x8)] [] I J) : Go G (fr G m_CU_cutPoints (d + 4) P) 41 [some (.ref 33), some (.ref o1), none, some (.int x3), some (.int x4), none, some (.ref o6), some (.int x7), some (.int x8), none] [] I J := by
  refine g_iload dc_CU_cutPoints_41 rfl rfl ?_
  refine g_istore (L' := [some (.ref 33), some (.ref o1), none, some (.int x3), some (.int x4), none, some (.ref o6), some (.int x7), some (.int x8), some (.int x8)]) dc_CU_cutPoints_43 rfl (Nat.le_of_ble_eq_true rfl) rfl ?_
  exact k1
theorem w_CU_cutPoints_45 {G : GC} {d : Nat} {P : PT} {I : MI} {J : MJ} {o1 : Nat} (h1 : PtsAt o1) {x3 : Int32} {x4 : Int32} {o6 : Nat} (h6 : MesAt o6) {x7 : Int32} {x8 : Int32} {x9 : Int32} (k1 : (x7 < x9) → Go G (fr G m_CU_cutPoints (d + 4) P) 31 [some (.ref 33), some (.ref o1), none, some (.int x3), some (.int x4), none, some (.ref o6), some (.int x7), some (.int (x8 + (-1))), none] [] I J) (k2 : (¬ (x7 < x9)) → Ct G (d + 3) (mesM o6 m_SU_extend m_MI_extend m_ON_extend) [.ref o6, .ref o1, .int x9] (fun r I' J' => Go G (fr G m_CU_cutPoints (d + 4) P) 60 [some (.ref 33), some (.ref o1), none, some (.int x3), some (.int x4), none, some (.ref o6), some (.int x7), some (.int x8), some (.int x9)] (r.toList ++ []) I' J') I J) : Go G (fr G m_CU_cutPoints (d + 4) P) 45 [some (.ref 33), some (.ref o1), none, some (.int x3), some (.int x4), none, some (.ref o6), some (.int x7), some (.int x8), some (.int x9)] [] I J := by
  refine g_iload dc_CU_cutPoints_45 rfl rfl ?_
  refine g_iload dc_CU_cutPoints_47 rfl rfl ?_
  refine g_ic_gt (tgt := 122) dc_CU_cutPoints_49 rfl (by decide) (fun c1 => ?_) (fun c1 => ?_)
  · refine g_iinc (v := (x8 + (-1))) (L' := [some (.ref 33), some (.ref o1), none, some (.int x3), some (.int x4), none, some (.ref o6), some (.int x7), some (.int (x8 + (-1))), some (.int x9)]) dc_CU_cutPoints_122 rfl rfl (by rw [show Int32.ofInt (-1) = (-1) from by decide]) (Nat.le_of_ble_eq_true rfl) rfl ?_
    refine g_goto (tgt := 31) dc_CU_cutPoints_125 (by decide) ?_
    refine g_weak [some (.ref 33), some (.ref o1), none, some (.int x3), some (.int x4), none, some (.ref o6), some (.int x7), some (.int (x8 + (-1))), none] ⟨rfl, ⟨rfl, ⟨rfl, ⟨rfl, ⟨rfl, ⟨rfl, ⟨rfl, trivial⟩⟩⟩⟩⟩⟩⟩ ?_
    exact (k1 c1)
  · refine g_aload dc_CU_cutPoints_52 rfl rfl ?_
    refine g_aload_n dc_CU_cutPoints_54 rfl rfl rfl ?_
    refine g_iload dc_CU_cutPoints_55 rfl rfl ?_
    exact g_callM_extend (As := [.ref o1, .int x9]) (rest := []) h6 ml_CU_57 rfl rfl (Nat.le_of_ble_eq_true rfl) dc_CU_cutPoints_57 rfl rOk_fr (k2 c1)
theorem w_CU_cutPoints_60 {G : GC} {d : Nat} {P : PT} {I : MI} {J : MJ} {o1 : Nat} (h1 : PtsAt o1) {x3 : Int32} {x4 : Int32} {o6 : Nat} (h6 : MesAt o6) {x7 : Int32} {x8 : Int32} {x9 : Int32} (k1 : (2 < x3) → Go G (fr G m_CU_cutPoints (d + 4) P) 77 [some (.ref 33), some (.ref o1), none, some (.int x3), some (.int x4), none, some (.ref o6), some (.int x7), some (.int x8), some (.int x9)] [] I J) (k2 : (¬ (2 < x3)) → (x8 = 0) → Go G (fr G m_CU_cutPoints (d + 4) P) 77 [some (.ref 33), some (.ref o1), none, some (.int x3), some (.int x4), none, some (.ref o6), some (.int x7), some (.int x8), some (.int x9)] [] I J) (k3 : (¬ (2 < x3)) → (¬ (x8 = 0)) → (¬ x9 = x7) → Go G (fr G m_CU_cutPoints (d + 4) P) 116 [some (.ref 33), some (.ref o1), none, some (.int x3), some (.int x4), none, some (.ref o6), some (.int x7), some (.int x8), some (.int x9)] [] I J) (k4 : (¬ (2 < x3)) → (¬ (x8 = 0)) → (x9 = x7) → Go G (fr G m_CU_cutPoints (d + 4) P) 77 [some (.ref 33), some (.ref o1), none, some (.int x3), some (.int x4), none, some (.ref o6), some (.int x7), some (.int x8), some (.int x9)] [] I J) : Go G (fr G m_CU_cutPoints (d + 4) P) 60 [some (.ref 33), some (.ref o1), none, some (.int x3), some (.int x4), none, some (.ref o6), some (.int x7), some (.int x8), some (.int x9)] [] I J := by
  refine g_iload_n dc_CU_cutPoints_60 rfl rfl rfl ?_
  refine g_iconst (v := 2) dc_CU_cutPoints_61 rfl (by decide) ?_
  refine g_ic_gt (tgt := 77) dc_CU_cutPoints_62 rfl (by decide) (fun c1 => ?_) (fun c1 => ?_)
  · exact (k1 c1)
  · refine g_iload dc_CU_cutPoints_65 rfl rfl ?_
    refine g_if_eq (tgt := 77) dc_CU_cutPoints_67 rfl (by decide) (fun c2 => ?_) (fun c2 => ?_)
    · exact (k2 c1 c2)
    · refine g_iload dc_CU_cutPoints_70 rfl rfl ?_
      refine g_iload dc_CU_cutPoints_72 rfl rfl ?_
      refine g_ic_ne (tgt := 116) dc_CU_cutPoints_74 rfl (by decide) (fun c3 => ?_) (fun c3 => ?_)
      · exact (k3 c1 c2 c3)
      · exact (k4 c1 c2 c3)
theorem w_CU_cutPoints_77 {G : GC} {d : Nat} {P : PT} {I : MI} {J : MJ} {o1 : Nat} (h1 : PtsAt o1) {x3 : Int32} {x4 : Int32} {o6 : Nat} (h6 : MesAt o6) {x7 : Int32} {x8 : Int32} {x9 : Int32} (k1 : Ct G (d + 3) m_CU_offerWhole [.ref 33, .ref o1, .ref o6, .int x8, .int x9, .int x4] (fun r I' J' => Go G (fr G m_CU_cutPoints (d + 4) P) 90 [some (.ref 33), some (.ref o1), none, some (.int x3), some (.int x4), none, some (.ref o6), some (.int x7), some (.int x8), some (.int x9)] (r.toList ++ []) I' J') I J) : Go G (fr G m_CU_cutPoints (d + 4) P) 77 [some (.ref 33), some (.ref o1), none, some (.int x3), some (.int x4), none, some (.ref o6), some (.int x7), some (.int x8), some (.int x9)] [] I J := by
  refine g_aload_n dc_CU_cutPoints_77 rfl rfl rfl ?_
  refine g_aload_n dc_CU_cutPoints_78 rfl rfl rfl ?_
  refine g_aload dc_CU_cutPoints_79 rfl rfl ?_
  refine g_iload dc_CU_cutPoints_81 rfl rfl ?_
  refine g_iload dc_CU_cutPoints_83 rfl rfl ?_
  refine g_iload dc_CU_cutPoints_85 rfl rfl ?_
  exact g_callV (T := T_CU) (N := 13) (As := [.ref o1, .ref o6, .int x8, .int x9, .int x4]) (rest := []) ok_CU_offerWhole in_CU_offerWhole se_CU_offerWhole ml_CU_71 sh_33 (by decide) rfl rfl rfl (Nat.le_of_ble_eq_true rfl) dc_CU_cutPoints_87 rfl rOk_fr k1
theorem w_CU_cutPoints_90 {G : GC} {d : Nat} {P : PT} {I : MI} {J : MJ} {o1 : Nat} (h1 : PtsAt o1) {x3 : Int32} {x4 : Int32} {o6 : Nat} (h6 : MesAt o6) {x7 : Int32} {x8 : Int32} {x9 : Int32} (k1 : Ct G (d + 3) m_CU_offerWithoutOne [.ref 33, .ref o1, .ref o6, .int x8, .int x9, .int x4] (fun r I' J' => Go G (fr G m_CU_cutPoints (d + 4) P) 103 [some (.ref 33), some (.ref o1), none, some (.int x3), some (.int x4), none, some (.ref o6), some (.int x7), some (.int x8), some (.int x9)] (r.toList ++ []) I' J') I J) : Go G (fr G m_CU_cutPoints (d + 4) P) 90 [some (.ref 33), some (.ref o1), none, some (.int x3), some (.int x4), none, some (.ref o6), some (.int x7), some (.int x8), some (.int x9)] [] I J := by
  refine g_aload_n dc_CU_cutPoints_90 rfl rfl rfl ?_
  refine g_aload_n dc_CU_cutPoints_91 rfl rfl rfl ?_
  refine g_aload dc_CU_cutPoints_92 rfl rfl ?_
  refine g_iload dc_CU_cutPoints_94 rfl rfl ?_
  refine g_iload dc_CU_cutPoints_96 rfl rfl ?_
  refine g_iload dc_CU_cutPoints_98 rfl rfl ?_
  exact g_callV (T := T_CU) (N := 13) (As := [.ref o1, .ref o6, .int x8, .int x9, .int x4]) (rest := []) ok_CU_offerWithoutOne in_CU_offerWithoutOne se_CU_offerWithoutOne ml_CU_75 sh_33 (by decide) rfl rfl rfl (Nat.le_of_ble_eq_true rfl) dc_CU_cutPoints_100 rfl rOk_fr k1
theorem w_CU_cutPoints_103 {G : GC} {d : Nat} {P : PT} {I : MI} {J : MJ} {o1 : Nat} (h1 : PtsAt o1) {x3 : Int32} {x4 : Int32} {o6 : Nat} (h6 : MesAt o6) {x7 : Int32} {x8 : Int32} {x9 : Int32} (k1 : Ct G (d + 3) m_CU_offerWithoutTwo [.ref 33, .ref o1, .ref o6, .int x8, .int x9, .int x4] (fun r I' J' => Go G (fr G m_CU_cutPoints (d + 4) P) 116 [some (.ref 33), some (.ref o1), none, some (.int x3), some (.int x4), none, some (.ref o6), some (.int x7), some (.int x8), some (.int x9)] (r.toList ++ []) I' J') I J) : Go G (fr G m_CU_cutPoints (d + 4) P) 103 [some (.ref 33), some (.ref o1), none, some (.int x3), some (.int x4), none, some (.ref o6), some (.int x7), some (.int x8), some (.int x9)] [] I J := by
  refine g_aload_n dc_CU_cutPoints_103 rfl rfl rfl ?_
  refine g_aload_n dc_CU_cutPoints_104 rfl rfl rfl ?_
  refine g_aload dc_CU_cutPoints_105 rfl rfl ?_
  refine g_iload dc_CU_cutPoints_107 rfl rfl ?_
  refine g_iload dc_CU_cutPoints_109 rfl rfl ?_
  refine g_iload dc_CU_cutPoints_111 rfl rfl ?_
  exact g_callV (T := T_CU) (N := 13) (As := [.ref o1, .ref o6, .int x8, .int x9, .int x4]) (rest := []) ok_CU_offerWithoutTwo in_CU_offerWithoutTwo se_CU_offerWithoutTwo ml_CU_78 sh_33 (by decide) rfl rfl rfl (Nat.le_of_ble_eq_true rfl) dc_CU_cutPoints_113 rfl rOk_fr k1
theorem w_CU_cutPoints_116 {G : GC} {d : Nat} {P : PT} {I : MI} {J : MJ} {o1 : Nat} (h1 : PtsAt o1) {x3 : Int32} {x4 : Int32} {o6 : Nat} (h6 : MesAt o6) {x7 : Int32} {x8 : Int32} {x9 : Int32} (k1 : Go G (fr G m_CU_cutPoints (d + 4) P) 45 [some (.ref 33), some (.ref o1), none, some (.int x3), some (.int x4), none, some (.ref o6), some (.int x7), some (.int x8), some (.int (x9 + 1))] [] I J) : Go G (fr G m_CU_cutPoints (d + 4) P) 116 [some (.ref 33), some (.ref o1), none, some (.int x3), some (.int x4), none, some (.ref o6), some (.int x7), some (.int x8), some (.int x9)] [] I J := by
  refine g_iinc (v := (x9 + 1)) (L' := [some (.ref 33), some (.ref o1), none, some (.int x3), some (.int x4), none, some (.ref o6), some (.int x7), some (.int x8), some (.int (x9 + 1))]) dc_CU_cutPoints_116 rfl rfl (by rw [show Int32.ofInt 1 = 1 from by decide]) (Nat.le_of_ble_eq_true rfl) rfl ?_
  refine g_goto (tgt := 45) dc_CU_cutPoints_119 (by decide) ?_
  exact k1
theorem w_CU_cutPoints_133 {G : GC} {d : Nat} {P : PT} {I : MI} {J : MJ} {y0 : Int32} (q1 : P (some (.int y0)) I J) (z2 : y0 = 0 ∨ y0 = 1) : Go G (fr G m_CU_cutPoints (d + 4) P) 133 [none, none, none, none, none, none, none, none, none, none] [.int y0] I J := by
  exact g_zret rfl z2 dc_CU_cutPoints_133 q1
theorem dc_CU_cutTogether_0 : decode prog_5_method_4_code 0 = .ok (.aload_n 0, 1) := by decide +kernel
theorem dc_CU_cutTogether_1 : decode prog_5_method_4_code 1 = .ok (.bipush 40, 2) := by decide +kernel
theorem dc_CU_cutTogether_3 : decode prog_5_method_4_code 3 = .ok (.iload 5, 2) := by decide +kernel
theorem dc_CU_cutTogether_5 : decode prog_5_method_4_code 5 = .ok (.iconst 0, 1) := by decide +kernel
theorem dc_CU_cutTogether_6 : decode prog_5_method_4_code 6 = .ok (.invokevirtual 67, 3) := by decide +kernel
theorem dc_CU_cutTogether_9 : decode prog_5_method_4_code 9 = .ok (.bipush 39, 2) := by decide +kernel
theorem dc_CU_cutTogether_11 : decode prog_5_method_4_code 11 = .ok (.istore 6, 2) := by decide +kernel
theorem dc_CU_cutTogether_13 : decode prog_5_method_4_code 13 = .ok (.iload 6, 2) := by decide +kernel
theorem dc_CU_cutTogether_15 : decode prog_5_method_4_code 15 = .ok (.ifCond .lt 120, 3) := by decide +kernel
theorem dc_CU_cutTogether_18 : decode prog_5_method_4_code 18 = .ok (.aload_n 0, 1) := by decide +kernel
theorem dc_CU_cutTogether_19 : decode prog_5_method_4_code 19 = .ok (.getfield 48, 3) := by decide +kernel
theorem dc_CU_cutTogether_22 : decode prog_5_method_4_code 22 = .ok (.lconst 0, 1) := by decide +kernel
theorem dc_CU_cutTogether_23 : decode prog_5_method_4_code 23 = .ok (.invokestatic 85, 3) := by decide +kernel
theorem dc_CU_cutTogether_26 : decode prog_5_method_4_code 26 = .ok (.iconst 0, 1) := by decide +kernel
theorem dc_CU_cutTogether_27 : decode prog_5_method_4_code 27 = .ok (.istore 7, 2) := by decide +kernel
theorem dc_CU_cutTogether_29 : decode prog_5_method_4_code 29 = .ok (.iload 7, 2) := by decide +kernel
theorem dc_CU_cutTogether_31 : decode prog_5_method_4_code 31 = .ok (.aload_n 1, 1) := by decide +kernel
theorem dc_CU_cutTogether_32 : decode prog_5_method_4_code 32 = .ok (.arraylength, 1) := by decide +kernel
theorem dc_CU_cutTogether_33 : decode prog_5_method_4_code 33 = .ok (.if_icmp .ge 47, 3) := by decide +kernel
theorem dc_CU_cutTogether_36 : decode prog_5_method_4_code 36 = .ok (.iload 7, 2) := by decide +kernel
theorem dc_CU_cutTogether_38 : decode prog_5_method_4_code 38 = .ok (.aload_n 2, 1) := by decide +kernel
theorem dc_CU_cutTogether_39 : decode prog_5_method_4_code 39 = .ok (.arraylength, 1) := by decide +kernel
theorem dc_CU_cutTogether_40 : decode prog_5_method_4_code 40 = .ok (.if_icmp .ge 40, 3) := by decide +kernel
theorem dc_CU_cutTogether_43 : decode prog_5_method_4_code 43 = .ok (.iload_n 3, 1) := by decide +kernel
theorem dc_CU_cutTogether_44 : decode prog_5_method_4_code 44 = .ok (.iload 7, 2) := by decide +kernel
theorem dc_CU_cutTogether_46 : decode prog_5_method_4_code 46 = .ok (.ishr, 1) := by decide +kernel
theorem dc_CU_cutTogether_47 : decode prog_5_method_4_code 47 = .ok (.iconst 1, 1) := by decide +kernel
theorem dc_CU_cutTogether_48 : decode prog_5_method_4_code 48 = .ok (.iand, 1) := by decide +kernel
theorem dc_CU_cutTogether_49 : decode prog_5_method_4_code 49 = .ok (.iconst 1, 1) := by decide +kernel
theorem dc_CU_cutTogether_50 : decode prog_5_method_4_code 50 = .ok (.if_icmp .ne 24, 3) := by decide +kernel
theorem dc_CU_cutTogether_53 : decode prog_5_method_4_code 53 = .ok (.aload_n 0, 1) := by decide +kernel
theorem dc_CU_cutTogether_54 : decode prog_5_method_4_code 54 = .ok (.aload_n 1, 1) := by decide +kernel
theorem dc_CU_cutTogether_55 : decode prog_5_method_4_code 55 = .ok (.iload 7, 2) := by decide +kernel
theorem dc_CU_cutTogether_57 : decode prog_5_method_4_code 57 = .ok (.aaload, 1) := by decide +kernel
theorem dc_CU_cutTogether_58 : decode prog_5_method_4_code 58 = .ok (.aload_n 0, 1) := by decide +kernel
theorem dc_CU_cutTogether_59 : decode prog_5_method_4_code 59 = .ok (.getfield 24, 3) := by decide +kernel
theorem dc_CU_cutTogether_62 : decode prog_5_method_4_code 62 = .ok (.iload 4, 2) := by decide +kernel
theorem dc_CU_cutTogether_64 : decode prog_5_method_4_code 64 = .ok (.aaload, 1) := by decide +kernel
theorem dc_CU_cutTogether_65 : decode prog_5_method_4_code 65 = .ok (.iload 6, 2) := by decide +kernel
theorem dc_CU_cutTogether_67 : decode prog_5_method_4_code 67 = .ok (.aload_n 2, 1) := by decide +kernel
theorem dc_CU_cutTogether_68 : decode prog_5_method_4_code 68 = .ok (.iload 7, 2) := by decide +kernel
theorem dc_CU_cutTogether_70 : decode prog_5_method_4_code 70 = .ok (.iaload, 1) := by decide +kernel
theorem dc_CU_cutTogether_71 : decode prog_5_method_4_code 71 = .ok (.invokevirtual 91, 3) := by decide +kernel
theorem dc_CU_cutTogether_74 : decode prog_5_method_4_code 74 = .ok (.iinc 7 1, 3) := by decide +kernel
theorem dc_CU_cutTogether_77 : decode prog_5_method_4_code 77 = .ok (.goto (-48), 3) := by decide +kernel
theorem dc_CU_cutTogether_80 : decode prog_5_method_4_code 80 = .ok (.iload 6, 2) := by decide +kernel
theorem dc_CU_cutTogether_82 : decode prog_5_method_4_code 82 = .ok (.istore 7, 2) := by decide +kernel
theorem dc_CU_cutTogether_84 : decode prog_5_method_4_code 84 = .ok (.iload 7, 2) := by decide +kernel
theorem dc_CU_cutTogether_86 : decode prog_5_method_4_code 86 = .ok (.bipush 40, 2) := by decide +kernel
theorem dc_CU_cutTogether_88 : decode prog_5_method_4_code 88 = .ok (.if_icmp .ge 41, 3) := by decide +kernel
theorem dc_CU_cutTogether_91 : decode prog_5_method_4_code 91 = .ok (.aload_n 0, 1) := by decide +kernel
theorem dc_CU_cutTogether_92 : decode prog_5_method_4_code 92 = .ok (.getfield 48, 3) := by decide +kernel
theorem dc_CU_cutTogether_95 : decode prog_5_method_4_code 95 = .ok (.iload 7, 2) := by decide +kernel
theorem dc_CU_cutTogether_97 : decode prog_5_method_4_code 97 = .ok (.laload, 1) := by decide +kernel
theorem dc_CU_cutTogether_98 : decode prog_5_method_4_code 98 = .ok (.ldc2_w 95, 3) := by decide +kernel
theorem dc_CU_cutTogether_101 : decode prog_5_method_4_code 101 = .ok (.lcmp, 1) := by decide +kernel
theorem dc_CU_cutTogether_102 : decode prog_5_method_4_code 102 = .ok (.ifCond .eq 21, 3) := by decide +kernel
theorem dc_CU_cutTogether_105 : decode prog_5_method_4_code 105 = .ok (.aload_n 0, 1) := by decide +kernel
theorem dc_CU_cutTogether_106 : decode prog_5_method_4_code 106 = .ok (.iload 6, 2) := by decide +kernel
theorem dc_CU_cutTogether_108 : decode prog_5_method_4_code 108 = .ok (.iload 7, 2) := by decide +kernel
theorem dc_CU_cutTogether_110 : decode prog_5_method_4_code 110 = .ok (.iconst 0, 1) := by decide +kernel
theorem dc_CU_cutTogether_111 : decode prog_5_method_4_code 111 = .ok (.aload_n 0, 1) := by decide +kernel
theorem dc_CU_cutTogether_112 : decode prog_5_method_4_code 112 = .ok (.getfield 48, 3) := by decide +kernel
theorem dc_CU_cutTogether_115 : decode prog_5_method_4_code 115 = .ok (.iload 7, 2) := by decide +kernel
theorem dc_CU_cutTogether_117 : decode prog_5_method_4_code 117 = .ok (.laload, 1) := by decide +kernel
theorem dc_CU_cutTogether_118 : decode prog_5_method_4_code 118 = .ok (.iconst 1, 1) := by decide +kernel
theorem dc_CU_cutTogether_119 : decode prog_5_method_4_code 119 = .ok (.iconst 0, 1) := by decide +kernel
theorem dc_CU_cutTogether_120 : decode prog_5_method_4_code 120 = .ok (.invokevirtual 97, 3) := by decide +kernel
theorem dc_CU_cutTogether_123 : decode prog_5_method_4_code 123 = .ok (.iinc 7 1, 3) := by decide +kernel
theorem dc_CU_cutTogether_126 : decode prog_5_method_4_code 126 = .ok (.goto (-42), 3) := by decide +kernel
theorem dc_CU_cutTogether_129 : decode prog_5_method_4_code 129 = .ok (.iinc 6 (-1), 3) := by decide +kernel
theorem dc_CU_cutTogether_132 : decode prog_5_method_4_code 132 = .ok (.goto (-119), 3) := by decide +kernel
theorem dc_CU_cutTogether_135 : decode prog_5_method_4_code 135 = .ok (.aload_n 0, 1) := by decide +kernel
theorem dc_CU_cutTogether_136 : decode prog_5_method_4_code 136 = .ok (.iload 5, 2) := by decide +kernel
theorem dc_CU_cutTogether_138 : decode prog_5_method_4_code 138 = .ok (.invokevirtual 81, 3) := by decide +kernel
theorem dc_CU_cutTogether_141 : decode prog_5_method_4_code 141 = .ok (.ireturn, 1) := by decide +kernel
theorem w_CU_cutTogether_0 {G : GC} {d : Nat} {P : PT} {I : MI} {J : MJ} {x3 : Int32} {x4 : Int32} {x5 : Int32} (k1 : Ct G (d + 3) m_CU_begin [.ref 33, .int 40, .int x5, .int 0] (fun r I' J' => Go G (fr G m_CU_cutTogether (d + 4) P) 9 [some (.ref 33), some (.ref 6), some (.ref 32), some (.int x3), some (.int x4), some (.int x5), none, none] (r.toList ++ []) I' J') I J) : Go G (fr G m_CU_cutTogether (d + 4) P) 0 [some (.ref 33), some (.ref 6), some (.ref 32), some (.int x3), some (.int x4), some (.int x5), none, none] [] I J := by
  refine g_aload_n dc_CU_cutTogether_0 rfl rfl rfl ?_
  refine g_bipush (v := 40) dc_CU_cutTogether_1 rfl (by decide) ?_
  refine g_iload dc_CU_cutTogether_3 rfl rfl ?_
  refine g_iconst (v := 0) dc_CU_cutTogether_5 rfl (by decide) ?_
  exact g_callV (T := T_CU) (N := 13) (As := [.int 40, .int x5, .int 0]) (rest := []) ok_CU_begin in_CU_begin se_CU_begin ml_CU_67 sh_33 (by decide) rfl rfl rfl (Nat.le_of_ble_eq_true rfl) dc_CU_cutTogether_6 rfl rOk_fr k1
theorem w_CU_cutTogether_9 {G : GC} {d : Nat} {P : PT} {I : MI} {J : MJ} {x3 : Int32} {x4 : Int32} {x5 : Int32} (k1 : Go G (fr G m_CU_cutTogether (d + 4) P) 13 [some (.ref 33), some (.ref 6), some (.ref 32), some (.int x3), some (.int x4), some (.int x5), some (.int 39), none] [] I J) : Go G (fr G m_CU_cutTogether (d + 4) P) 9 [some (.ref 33), some (.ref 6), some (.ref 32), some (.int x3), some (.int x4), some (.int x5), none, none] [] I J := by
  refine g_bipush (v := 39) dc_CU_cutTogether_9 rfl (by decide) ?_
  refine g_istore (L' := [some (.ref 33), some (.ref 6), some (.ref 32), some (.int x3), some (.int x4), some (.int x5), some (.int 39), none]) dc_CU_cutTogether_11 rfl (Nat.le_of_ble_eq_true rfl) rfl ?_
  exact k1
theorem w_CU_cutTogether_13 {G : GC} {d : Nat} {P : PT} {I : MI} {J : MJ} {x3 : Int32} {x4 : Int32} {x5 : Int32} {x6 : Int32} (k1 : (x6 < 0) → Ct G (d + 3) m_CU_trace [.ref 33, .int x5] (fun r I' J' => Go G (fr G m_CU_cutTogether (d + 4) P) 141 [none, none, none, none, none, none, none, none] (r.toList ++ []) I' J') I J) (k2 : (¬ (x6 < 0)) → Ct G (d + 3) m_JA_fill_AJJ [.ref 48, .long 0] (fun r I' J' => Go G (fr G m_CU_cutTogether (d + 4) P) 26 [some (.ref 33), some (.ref 6), some (.ref 32), some (.int x3), some (.int x4), some (.int x5), some (.int x6), none] (r.toList ++ []) I' J') I J) : Go G (fr G m_CU_cutTogether (d + 4) P) 13 [some (.ref 33), some (.ref 6), some (.ref 32), some (.int x3), some (.int x4), some (.int x5), some (.int x6), none] [] I J := by
  refine g_iload dc_CU_cutTogether_13 rfl rfl ?_
  refine g_if_lt (tgt := 135) dc_CU_cutTogether_15 rfl (by decide) (fun c1 => ?_) (fun c1 => ?_)
  · refine g_aload_n dc_CU_cutTogether_135 rfl rfl rfl ?_
    refine g_iload dc_CU_cutTogether_136 rfl rfl ?_
    refine g_weak [none, none, none, none, none, none, none, none] trivial ?_
    exact g_callV (T := T_CU) (N := 13) (As := [.int x5]) (rest := []) ok_CU_trace in_CU_trace se_CU_trace ml_CU_81 sh_33 (by decide) rfl rfl rfl (Nat.le_of_ble_eq_true rfl) dc_CU_cutTogether_138 rfl rOk_fr (k1 c1)
  · refine g_aload_n dc_CU_cutTogether_18 rfl rfl rfl ?_
    refine g_get (C := "LevelBreaks$Cuts") (T := T_CU) (N := 13) (k := 7) (v := .ref 48) sh_33 (by decide) rfl rfl i_CU (by decide) fl_CU_48 (Or.inl rfl) rfl dc_CU_cutTogether_19 rfl ?_
    refine g_lconst (v := 0) dc_CU_cutTogether_22 rfl (by decide) ?_
    exact g_callS (As := [.ref 48, .long 0]) (rest := []) ok_JA_fill_AJJ st_JA_fill_AJJ ml_CU_85 rfl rfl (Nat.le_of_ble_eq_true rfl) dc_CU_cutTogether_23 rfl rOk_fr (k2 c1)
theorem w_CU_cutTogether_26 {G : GC} {d : Nat} {P : PT} {I : MI} {J : MJ} {x3 : Int32} {x4 : Int32} {x5 : Int32} {x6 : Int32} (k1 : Go G (fr G m_CU_cutTogether (d + 4) P) 29 [some (.ref 33), some (.ref 6), some (.ref 32), some (.int x3), some (.int x4), some (.int x5), some (.int x6), some (.int 0)] [] I J) : Go G (fr G m_CU_cutTogether (d + 4) P) 26 [some (.ref 33), some (.ref 6), some (.ref 32), some (.int x3), some (.int x4), some (.int x5), some (.int x6), none] [] I J := by
  refine g_iconst (v := 0) dc_CU_cutTogether_26 rfl (by decide) ?_
  refine g_istore (L' := [some (.ref 33), some (.ref 6), some (.ref 32), some (.int x3), some (.int x4), some (.int x5), some (.int x6), some (.int 0)]) dc_CU_cutTogether_27 rfl (Nat.le_of_ble_eq_true rfl) rfl ?_
  exact k1
theorem w_CU_cutTogether_29 {G : GC} {d : Nat} {P : PT} {I : MI} {J : MJ} {x3 : Int32} {x4 : Int32} {x5 : Int32} {x6 : Int32} {x7 : Int32} (k1 : (4 ≤ x7) → Go G (fr G m_CU_cutTogether (d + 4) P) 80 [some (.ref 33), some (.ref 6), some (.ref 32), some (.int x3), some (.int x4), some (.int x5), some (.int x6), none] [] I J) (k2 : (¬ (4 ≤ x7)) → (4 ≤ x7) → Go G (fr G m_CU_cutTogether (d + 4) P) 80 [some (.ref 33), some (.ref 6), some (.ref 32), some (.int x3), some (.int x4), some (.int x5), some (.int x6), none] [] I J) (k3 : (¬ (4 ≤ x7)) → (¬ (4 ≤ x7)) → (¬ ((x3 >>> (x7 &&& 31)) &&& 1) = 1) → Go G (fr G m_CU_cutTogether (d + 4) P) 74 [some (.ref 33), some (.ref 6), some (.ref 32), some (.int x3), some (.int x4), some (.int x5), some (.int x6), some (.int x7)] [] I J) (b4 : (¬ (4 ≤ x7)) → (¬ (4 ≤ x7)) → (((x3 >>> (x7 &&& 31)) &&& 1) = 1) → vp_in x7 4) (b5 : (¬ (4 ≤ x7)) → (¬ (4 ≤ x7)) → (((x3 >>> (x7 &&& 31)) &&& 1) = 1) → vp_in x4 4) (k6 : (¬ (4 ≤ x7)) → (¬ (4 ≤ x7)) → (((x3 >>> (x7 &&& 31)) &&& 1) = 1) → Ct G (d + 3) m_CU_addDaysCost [.ref 33, .ref (7 + 5 * x7.toNatClampNeg), .ref (mcl x4.toNatClampNeg), .int x6, .int (I 32 x7.toNatClampNeg)] (fun r I' J' => Go G (fr G m_CU_cutTogether (d + 4) P) 74 [some (.ref 33), some (.ref 6), some (.ref 32), some (.int x3), some (.int x4), some (.int x5), some (.int x6), some (.int x7)] (r.toList ++ []) I' J') I J) : Go G (fr G m_CU_cutTogether (d + 4) P) 29 [some (.ref 33), some (.ref 6), some (.ref 32), some (.int x3), some (.int x4), some (.int x5), some (.int x6), some (.int x7)] [] I J := by
  refine g_iload dc_CU_cutTogether_29 rfl rfl ?_
  refine g_aload_n dc_CU_cutTogether_31 rfl rfl rfl ?_
  refine g_alenR (v := 4) sh_6 (by decide) rfl (by decide) dc_CU_cutTogether_32 rfl ?_
  refine g_ic_ge (tgt := 80) dc_CU_cutTogether_33 rfl (by decide) (fun c1 => ?_) (fun c1 => ?_)
  · refine g_weak [some (.ref 33), some (.ref 6), some (.ref 32), some (.int x3), some (.int x4), some (.int x5), some (.int x6), none] ⟨rfl, ⟨rfl, ⟨rfl, ⟨rfl, ⟨rfl, ⟨rfl, ⟨rfl, trivial⟩⟩⟩⟩⟩⟩⟩ ?_
    exact (k1 c1)
  · refine g_iload dc_CU_cutTogether_36 rfl rfl ?_
    refine g_aload_n dc_CU_cutTogether_38 rfl rfl rfl ?_
    refine g_alen (v := 4) sh_32 (by decide) dc_CU_cutTogether_39 rfl ?_
    refine g_ic_ge (tgt := 80) dc_CU_cutTogether_40 rfl (by decide) (fun c2 => ?_) (fun c2 => ?_)
    · refine g_weak [some (.ref 33), some (.ref 6), some (.ref 32), some (.int x3), some (.int x4), some (.int x5), some (.int x6), none] ⟨rfl, ⟨rfl, ⟨rfl, ⟨rfl, ⟨rfl, ⟨rfl, ⟨rfl, trivial⟩⟩⟩⟩⟩⟩⟩ ?_
      exact (k2 c1 c2)
    · refine g_iload_n dc_CU_cutTogether_43 rfl rfl rfl ?_
      refine g_iload dc_CU_cutTogether_44 rfl rfl ?_
      refine g_ishr dc_CU_cutTogether_46 rfl ?_
      refine g_iconst (v := 1) dc_CU_cutTogether_47 rfl (by decide) ?_
      refine g_iand dc_CU_cutTogether_48 rfl ?_
      refine g_iconst (v := 1) dc_CU_cutTogether_49 rfl (by decide) ?_
      refine g_ic_ne (tgt := 74) dc_CU_cutTogether_50 rfl (by decide) (fun c3 => ?_) (fun c3 => ?_)
      · exact (k3 c1 c2 c3)
      · refine g_aload_n dc_CU_cutTogether_53 rfl rfl rfl ?_
        refine g_aload_n dc_CU_cutTogether_54 rfl rfl rfl ?_
        refine g_iload dc_CU_cutTogether_55 rfl rfl ?_
        refine g_aald (r := (7 + 5 * x7.toNatClampNeg)) sh_6 (by decide) rfl (b4 c1 c2 c3) (now_at (vin_lt (b4 c1 c2 c3))) dc_CU_cutTogether_57 rfl ?_
        refine g_aload_n dc_CU_cutTogether_58 rfl rfl rfl ?_
        refine g_get (C := "LevelBreaks$Cuts") (T := T_CU) (N := 13) (k := 0) (v := .ref 34) sh_33 (by decide) rfl rfl i_CU (by decide) fl_CU_24 (Or.inl rfl) rfl dc_CU_cutTogether_59 rfl ?_
        refine g_iload dc_CU_cutTogether_62 rfl rfl ?_
        refine g_aald (r := (mcl x4.toNatClampNeg)) sh_34 (by decide) rfl (b5 c1 c2 c3) (mea_at (vin_lt (b5 c1 c2 c3))) dc_CU_cutTogether_64 rfl ?_
        refine g_iload dc_CU_cutTogether_65 rfl rfl ?_
        refine g_aload_n dc_CU_cutTogether_67 rfl rfl rfl ?_
        refine g_iload dc_CU_cutTogether_68 rfl rfl ?_
        refine g_ialdv (v := (I 32 x7.toNatClampNeg)) sh_32 (b4 c1 c2 c3) rfl dc_CU_cutTogether_70 rfl ?_
        exact g_callV (T := T_CU) (N := 13) (As := [.ref (7 + 5 * x7.toNatClampNeg), .ref (mcl x4.toNatClampNeg), .int x6, .int (I 32 x7.toNatClampNeg)]) (rest := []) ok_CU_addDaysCost in_CU_addDaysCost se_CU_addDaysCost ml_CU_91 sh_33 (by decide) rfl rfl rfl (Nat.le_of_ble_eq_true rfl) dc_CU_cutTogether_71 rfl rOk_fr (k6 c1 c2 c3)
theorem w_CU_cutTogether_74 {G : GC} {d : Nat} {P : PT} {I : MI} {J : MJ} {x3 : Int32} {x4 : Int32} {x5 : Int32} {x6 : Int32} {x7 : Int32} (k1 : Go G (fr G m_CU_cutTogether (d + 4) P) 29 [some (.ref 33), some (.ref 6), some (.ref 32), some (.int x3), some (.int x4), some (.int x5), some (.int x6), some (.int (x7 + 1))] [] I J) : Go G (fr G m_CU_cutTogether (d + 4) P) 74 [some (.ref 33), some (.ref 6), some (.ref 32), some (.int x3), some (.int x4), some (.int x5), some (.int x6), some (.int x7)] [] I J := by
  refine g_iinc (v := (x7 + 1)) (L' := [some (.ref 33), some (.ref 6), some (.ref 32), some (.int x3), some (.int x4), some (.int x5), some (.int x6), some (.int (x7 + 1))]) dc_CU_cutTogether_74 rfl rfl (by rw [show Int32.ofInt 1 = 1 from by decide]) (Nat.le_of_ble_eq_true rfl) rfl ?_
  refine g_goto (tgt := 29) dc_CU_cutTogether_77 (by decide) ?_
  exact k1
theorem w_CU_cutTogether_80 {G : GC} {d : Nat} {P : PT} {I : MI} {J : MJ} {x3 : Int32} {x4 : Int32} {x5 : Int32} {x6 : Int32} (k1 : Go G (fr G m_CU_cutTogether (d + 4) P) 84 [some (.ref 33), some (.ref 6), some (.ref 32), some (.int x3), some (.int x4), some (.int x5), some (.int x6), some (.int x6)] [] I J) : Go G (fr G m_CU_cutTogether (d + 4) P) 80 [some (.ref 33), some (.ref 6), some (.ref 32), some (.int x3), some (.int x4), some (.int x5), some (.int x6), none] [] I J := by
  refine g_iload dc_CU_cutTogether_80 rfl rfl ?_
  refine g_istore (L' := [some (.ref 33), some (.ref 6), some (.ref 32), some (.int x3), some (.int x4), some (.int x5), some (.int x6), some (.int x6)]) dc_CU_cutTogether_82 rfl (Nat.le_of_ble_eq_true rfl) rfl ?_
  exact k1
theorem w_CU_cutTogether_84 {G : GC} {d : Nat} {P : PT} {I : MI} {J : MJ} {x3 : Int32} {x4 : Int32} {x5 : Int32} {x6 : Int32} {x7 : Int32} (k1 : (40 ≤ x7) → Go G (fr G m_CU_cutTogether (d + 4) P) 13 [some (.ref 33), some (.ref 6), some (.ref 32), some (.int x3), some (.int x4), some (.int x5), some (.int (x6 + (-1))), none] [] I J) (b2 : (¬ (40 ≤ x7)) → vp_in x7 40) (k3 : (¬ (40 ≤ x7)) → ((J 48 x7.toNatClampNeg) = (-1)) → Go G (fr G m_CU_cutTogether (d + 4) P) 123 [some (.ref 33), some (.ref 6), some (.ref 32), some (.int x3), some (.int x4), some (.int x5), some (.int x6), some (.int x7)] [] I J) (k4 : (¬ (40 ≤ x7)) → (¬ ((J 48 x7.toNatClampNeg) = (-1))) → Ct G (d + 3) m_CU_offer [.ref 33, .int x6, .int x7, .int 0, .long (J 48 x7.toNatClampNeg), .int 1, .int 0] (fun r I' J' => Go G (fr G m_CU_cutTogether (d + 4) P) 123 [some (.ref 33), some (.ref 6), some (.ref 32), some (.int x3), some (.int x4), some (.int x5), some (.int x6), some (.int x7)] (r.toList ++ []) I' J') I J) : Go G (fr G m_CU_cutTogether (d + 4) P) 84 [some (.ref 33), some (.ref 6), some (.ref 32), some (.int x3), some (.int x4), some (.int x5), some (.int x6), some (.int x7)] [] I J := by
  refine g_iload dc_CU_cutTogether_84 rfl rfl ?_
  refine g_bipush (v := 40) dc_CU_cutTogether_86 rfl (by decide) ?_
  refine g_ic_ge (tgt := 129) dc_CU_cutTogether_88 rfl (by decide) (fun c1 => ?_) (fun c1 => ?_)
  · refine g_iinc (v := (x6 + (-1))) (L' := [some (.ref 33), some (.ref 6), some (.ref 32), some (.int x3), some (.int x4), some (.int x5), some (.int (x6 + (-1))), some (.int x7)]) dc_CU_cutTogether_129 rfl rfl (by rw [show Int32.ofInt (-1) = (-1) from by decide]) (Nat.le_of_ble_eq_true rfl) rfl ?_
    refine g_goto (tgt := 13) dc_CU_cutTogether_132 (by decide) ?_
    refine g_weak [some (.ref 33), some (.ref 6), some (.ref 32), some (.int x3), some (.int x4), some (.int x5), some (.int (x6 + (-1))), none] ⟨rfl, ⟨rfl, ⟨rfl, ⟨rfl, ⟨rfl, ⟨rfl, ⟨rfl, trivial⟩⟩⟩⟩⟩⟩⟩ ?_
    exact (k1 c1)
  · refine g_aload_n dc_CU_cutTogether_91 rfl rfl rfl ?_
    refine g_get (C := "LevelBreaks$Cuts") (T := T_CU) (N := 13) (k := 7) (v := .ref 48) sh_33 (by decide) rfl rfl i_CU (by decide) fl_CU_48 (Or.inl rfl) rfl dc_CU_cutTogether_92 rfl ?_
    refine g_iload dc_CU_cutTogether_95 rfl rfl ?_
    refine g_laldv (v := (J 48 x7.toNatClampNeg)) sh_48 (b2 c1) rfl dc_CU_cutTogether_97 rfl ?_
    refine g_ldc2 (v := (-1)) kl_CU_95 dc_CU_cutTogether_98 rfl ?_
    refine g_lc_eq (tgt := 123) dc_CU_cutTogether_101 rfl dc_CU_cutTogether_102 rfl (by decide) (fun c2 => ?_) (fun c2 => ?_)
    · exact (k3 c1 c2)
    · refine g_aload_n dc_CU_cutTogether_105 rfl rfl rfl ?_
      refine g_iload dc_CU_cutTogether_106 rfl rfl ?_
      refine g_iload dc_CU_cutTogether_108 rfl rfl ?_
      refine g_iconst (v := 0) dc_CU_cutTogether_110 rfl (by decide) ?_
      refine g_aload_n dc_CU_cutTogether_111 rfl rfl rfl ?_
      refine g_get (C := "LevelBreaks$Cuts") (T := T_CU) (N := 13) (k := 7) (v := .ref 48) sh_33 (by decide) rfl rfl i_CU (by decide) fl_CU_48 (Or.inl rfl) rfl dc_CU_cutTogether_112 rfl ?_
      refine g_iload dc_CU_cutTogether_115 rfl rfl ?_
      refine g_laldv (v := (J 48 x7.toNatClampNeg)) sh_48 (b2 c1) rfl dc_CU_cutTogether_117 rfl ?_
      refine g_iconst (v := 1) dc_CU_cutTogether_118 rfl (by decide) ?_
      refine g_iconst (v := 0) dc_CU_cutTogether_119 rfl (by decide) ?_
      exact g_callV (T := T_CU) (N := 13) (As := [.int x6, .int x7, .int 0, .long (J 48 x7.toNatClampNeg), .int 1, .int 0]) (rest := []) ok_CU_offer in_CU_offer se_CU_offer ml_CU_97 sh_33 (by decide) rfl rfl rfl (Nat.le_of_ble_eq_true rfl) dc_CU_cutTogether_120 rfl rOk_fr (k4 c1 c2)
theorem w_CU_cutTogether_123 {G : GC} {d : Nat} {P : PT} {I : MI} {J : MJ} {x3 : Int32} {x4 : Int32} {x5 : Int32} {x6 : Int32} {x7 : Int32} (k1 : Go G (fr G m_CU_cutTogether (d + 4) P) 84 [some (.ref 33), some (.ref 6), some (.ref 32), some (.int x3), some (.int x4), some (.int x5), some (.int x6), some (.int (x7 + 1))] [] I J) : Go G (fr G m_CU_cutTogether (d + 4) P) 123 [some (.ref 33), some (.ref 6), some (.ref 32), some (.int x3), some (.int x4), some (.int x5), some (.int x6), some (.int x7)] [] I J := by
  refine g_iinc (v := (x7 + 1)) (L' := [some (.ref 33), some (.ref 6), some (.ref 32), some (.int x3), some (.int x4), some (.int x5), some (.int x6), some (.int (x7 + 1))]) dc_CU_cutTogether_123 rfl rfl (by rw [show Int32.ofInt 1 = 1 from by decide]) (Nat.le_of_ble_eq_true rfl) rfl ?_
  refine g_goto (tgt := 84) dc_CU_cutTogether_126 (by decide) ?_
  exact k1
theorem w_CU_cutTogether_141 {G : GC} {d : Nat} {P : PT} {I : MI} {J : MJ} {y0 : Int32} (q1 : P (some (.int y0)) I J) (z2 : y0 = 0 ∨ y0 = 1) : Go G (fr G m_CU_cutTogether (d + 4) P) 141 [none, none, none, none, none, none, none, none] [.int y0] I J := by
  exact g_zret rfl z2 dc_CU_cutTogether_141 q1
theorem dc_CU_dropped_0 : decode prog_5_method_17_code 0 = .ok (.aload_n 0, 1) := by decide +kernel
theorem dc_CU_dropped_1 : decode prog_5_method_17_code 1 = .ok (.getfield 35, 3) := by decide +kernel
theorem dc_CU_dropped_4 : decode prog_5_method_17_code 4 = .ok (.aload_n 0, 1) := by decide +kernel
theorem dc_CU_dropped_5 : decode prog_5_method_17_code 5 = .ok (.getfield 116, 3) := by decide +kernel
theorem dc_CU_dropped_8 : decode prog_5_method_17_code 8 = .ok (.iload_n 1, 1) := by decide +kernel
theorem dc_CU_dropped_9 : decode prog_5_method_17_code 9 = .ok (.iconst 0, 1) := by decide +kernel
theorem dc_CU_dropped_10 : decode prog_5_method_17_code 10 = .ok (.invokestatic 122, 3) := by decide +kernel
theorem dc_CU_dropped_13 : decode prog_5_method_17_code 13 = .ok (.iaload, 1) := by decide +kernel
theorem dc_CU_dropped_14 : decode prog_5_method_17_code 14 = .ok (.istore_n 3, 1) := by decide +kernel
theorem dc_CU_dropped_15 : decode prog_5_method_17_code 15 = .ok (.aload_n 0, 1) := by decide +kernel
theorem dc_CU_dropped_16 : decode prog_5_method_17_code 16 = .ok (.getfield 116, 3) := by decide +kernel
theorem dc_CU_dropped_19 : decode prog_5_method_17_code 19 = .ok (.iconst 2, 1) := by decide +kernel
theorem dc_CU_dropped_20 : decode prog_5_method_17_code 20 = .ok (.if_icmp .ne 14, 3) := by decide +kernel
theorem dc_CU_dropped_23 : decode prog_5_method_17_code 23 = .ok (.iload_n 2, 1) := by decide +kernel
theorem dc_CU_dropped_24 : decode prog_5_method_17_code 24 = .ok (.ifCond .ne 10, 3) := by decide +kernel
theorem dc_CU_dropped_27 : decode prog_5_method_17_code 27 = .ok (.iload_n 3, 1) := by decide +kernel
theorem dc_CU_dropped_28 : decode prog_5_method_17_code 28 = .ok (.bipush 40, 2) := by decide +kernel
theorem dc_CU_dropped_30 : decode prog_5_method_17_code 30 = .ok (.idiv, 1) := by decide +kernel
theorem dc_CU_dropped_31 : decode prog_5_method_17_code 31 = .ok (.goto 7, 3) := by decide +kernel
theorem dc_CU_dropped_34 : decode prog_5_method_17_code 34 = .ok (.iload_n 3, 1) := by decide +kernel
theorem dc_CU_dropped_35 : decode prog_5_method_17_code 35 = .ok (.bipush 40, 2) := by decide +kernel
theorem dc_CU_dropped_37 : decode prog_5_method_17_code 37 = .ok (.irem, 1) := by decide +kernel
theorem dc_CU_dropped_38 : decode prog_5_method_17_code 38 = .ok (.ireturn, 1) := by decide +kernel
theorem w_CU_dropped_0 {G : GC} {d : Nat} {P : PT} {I : MI} {J : MJ} {x1 : Int32} {x2 : Int32} (b1 : vp_in (f_CU_at (I 33 9) x1 0) 861) (k2 : (¬ (I 33 9) = 2) → Go G (fr G m_CU_dropped (d + 1) P) 34 [none, none, none, some (.int (I 44 (f_CU_at (I 33 9) x1 0).toNatClampNeg))] [] I J) (k3 : ((I 33 9) = 2) → (¬ x2 = 0) → Go G (fr G m_CU_dropped (d + 1) P) 34 [none, none, none, some (.int (I 44 (f_CU_at (I 33 9) x1 0).toNatClampNeg))] [] I J) (q4 : ((I 33 9) = 2) → (x2 = 0) → P (some (.int ((I 44 (f_CU_at (I 33 9) x1 0).toNatClampNeg) / 40))) I J) : Go G (fr G m_CU_dropped (d + 1) P) 0 [some (.ref 33), some (.int x1), some (.int x2), none] [] I J := by
  refine g_aload_n dc_CU_dropped_0 rfl rfl rfl ?_
  refine g_get (C := "LevelBreaks$Cuts") (T := T_CU) (N := 13) (k := 3) (v := .ref 44) sh_33 (by decide) rfl rfl i_CU (by decide) fl_CU_35 (Or.inl rfl) rfl dc_CU_dropped_1 rfl ?_
  refine g_aload_n dc_CU_dropped_4 rfl rfl rfl ?_
  refine g_get (C := "LevelBreaks$Cuts") (T := T_CU) (N := 13) (k := 9) (v := .int (I 33 9)) sh_33 (by decide) rfl rfl i_CU (by decide) fl_CU_116 (Or.inl rfl) rfl dc_CU_dropped_5 rfl ?_
  refine g_iload_n dc_CU_dropped_8 rfl rfl rfl ?_
  refine g_iconst (v := 0) dc_CU_dropped_9 rfl (by decide) ?_
  refine g_callS (M := m_CU_at) (As := [.int (I 33 9), .int x1, .int 0]) (rest := [.ref 44]) ok_CU_at st_CU_at ml_CU_122 rfl rfl (Nat.le_of_ble_eq_true rfl) dc_CU_dropped_10 rfl rOk_fr (c_CU_at ?_)
  show Go G (fr G m_CU_dropped (d + 1) P) 13 [some (.ref 33), some (.int x1), some (.int x2), none] [.int (f_CU_at (I 33 9) x1 0), .ref 44] I J
  refine g_ialdv (v := (I 44 (f_CU_at (I 33 9) x1 0).toNatClampNeg)) sh_44 b1 rfl dc_CU_dropped_13 rfl ?_
  refine g_istore_n (L' := [some (.ref 33), some (.int x1), some (.int x2), some (.int (I 44 (f_CU_at (I 33 9) x1 0).toNatClampNeg))]) dc_CU_dropped_14 rfl rfl (Nat.le_of_ble_eq_true rfl) rfl ?_
  refine g_aload_n dc_CU_dropped_15 rfl rfl rfl ?_
  refine g_get (C := "LevelBreaks$Cuts") (T := T_CU) (N := 13) (k := 9) (v := .int (I 33 9)) sh_33 (by decide) rfl rfl i_CU (by decide) fl_CU_116 (Or.inl rfl) rfl dc_CU_dropped_16 rfl ?_
  refine g_iconst (v := 2) dc_CU_dropped_19 rfl (by decide) ?_
  refine g_ic_ne (tgt := 34) dc_CU_dropped_20 rfl (by decide) (fun c1 => ?_) (fun c1 => ?_)
  · refine g_weak [none, none, none, some (.int (I 44 (f_CU_at (I 33 9) x1 0).toNatClampNeg))] ⟨rfl, trivial⟩ ?_
    exact (k2 c1)
  · refine g_iload_n dc_CU_dropped_23 rfl rfl rfl ?_
    refine g_if_ne (tgt := 34) dc_CU_dropped_24 rfl (by decide) (fun c2 => ?_) (fun c2 => ?_)
    · refine g_weak [none, none, none, some (.int (I 44 (f_CU_at (I 33 9) x1 0).toNatClampNeg))] ⟨rfl, trivial⟩ ?_
      exact (k3 c1 c2)
    · refine g_iload_n dc_CU_dropped_27 rfl rfl rfl ?_
      refine g_bipush (v := 40) dc_CU_dropped_28 rfl (by decide) ?_
      refine g_idiv dc_CU_dropped_30 rfl (by decide) ?_
      refine g_goto (tgt := 38) dc_CU_dropped_31 (by decide) ?_
      exact g_iret rfl dc_CU_dropped_38 (q4 c1 c2)
theorem w_CU_dropped_34 {G : GC} {d : Nat} {P : PT} {I : MI} {J : MJ} {x3 : Int32} (q1 : P (some (.int (x3 - x3 / 40 * 40))) I J) : Go G (fr G m_CU_dropped (d + 1) P) 34 [none, none, none, some (.int x3)] [] I J := by
  refine g_iload_n dc_CU_dropped_34 rfl rfl rfl ?_
  refine g_bipush (v := 40) dc_CU_dropped_35 rfl (by decide) ?_
  refine g_irem dc_CU_dropped_37 rfl (by decide) ?_
  exact g_iret rfl dc_CU_dropped_38 q1
theorem dc_CU_isBetter_0 : decode prog_5_method_13_code 0 = .ok (.lload_n 2, 1) := by decide +kernel
theorem dc_CU_isBetter_1 : decode prog_5_method_13_code 1 = .ok (.aload_n 0, 1) := by decide +kernel
theorem dc_CU_isBetter_2 : decode prog_5_method_13_code 2 = .ok (.getfield 28, 3) := by decide +kernel
theorem dc_CU_isBetter_5 : decode prog_5_method_13_code 5 = .ok (.iload_n 1, 1) := by decide +kernel
theorem dc_CU_isBetter_6 : decode prog_5_method_13_code 6 = .ok (.laload, 1) := by decide +kernel
theorem dc_CU_isBetter_7 : decode prog_5_method_13_code 7 = .ok (.lcmp, 1) := by decide +kernel
theorem dc_CU_isBetter_8 : decode prog_5_method_13_code 8 = .ok (.ifCond .eq 20, 3) := by decide +kernel
theorem dc_CU_isBetter_11 : decode prog_5_method_13_code 11 = .ok (.lload_n 2, 1) := by decide +kernel
theorem dc_CU_isBetter_12 : decode prog_5_method_13_code 12 = .ok (.aload_n 0, 1) := by decide +kernel
theorem dc_CU_isBetter_13 : decode prog_5_method_13_code 13 = .ok (.getfield 28, 3) := by decide +kernel
theorem dc_CU_isBetter_16 : decode prog_5_method_13_code 16 = .ok (.iload_n 1, 1) := by decide +kernel
theorem dc_CU_isBetter_17 : decode prog_5_method_13_code 17 = .ok (.laload, 1) := by decide +kernel
theorem dc_CU_isBetter_18 : decode prog_5_method_13_code 18 = .ok (.lcmp, 1) := by decide +kernel
theorem dc_CU_isBetter_19 : decode prog_5_method_13_code 19 = .ok (.ifCond .ge 7, 3) := by decide +kernel
theorem dc_CU_isBetter_22 : decode prog_5_method_13_code 22 = .ok (.iconst 1, 1) := by decide +kernel
theorem dc_CU_isBetter_23 : decode prog_5_method_13_code 23 = .ok (.goto 4, 3) := by decide +kernel
theorem dc_CU_isBetter_26 : decode prog_5_method_13_code 26 = .ok (.iconst 0, 1) := by decide +kernel
theorem dc_CU_isBetter_27 : decode prog_5_method_13_code 27 = .ok (.ireturn, 1) := by decide +kernel
theorem dc_CU_isBetter_28 : decode prog_5_method_13_code 28 = .ok (.lload 4, 2) := by decide +kernel
theorem dc_CU_isBetter_30 : decode prog_5_method_13_code 30 = .ok (.aload_n 0, 1) := by decide +kernel
theorem dc_CU_isBetter_31 : decode prog_5_method_13_code 31 = .ok (.getfield 32, 3) := by decide +kernel
theorem dc_CU_isBetter_34 : decode prog_5_method_13_code 34 = .ok (.iload_n 1, 1) := by decide +kernel
theorem dc_CU_isBetter_35 : decode prog_5_method_13_code 35 = .ok (.laload, 1) := by decide +kernel
theorem dc_CU_isBetter_36 : decode prog_5_method_13_code 36 = .ok (.lcmp, 1) := by decide +kernel
theorem dc_CU_isBetter_37 : decode prog_5_method_13_code 37 = .ok (.ifCond .eq 21, 3) := by decide +kernel
theorem dc_CU_isBetter_40 : decode prog_5_method_13_code 40 = .ok (.lload 4, 2) := by decide +kernel
theorem dc_CU_isBetter_42 : decode prog_5_method_13_code 42 = .ok (.aload_n 0, 1) := by decide +kernel
theorem dc_CU_isBetter_43 : decode prog_5_method_13_code 43 = .ok (.getfield 32, 3) := by decide +kernel
theorem dc_CU_isBetter_46 : decode prog_5_method_13_code 46 = .ok (.iload_n 1, 1) := by decide +kernel
theorem dc_CU_isBetter_47 : decode prog_5_method_13_code 47 = .ok (.laload, 1) := by decide +kernel
theorem dc_CU_isBetter_48 : decode prog_5_method_13_code 48 = .ok (.lcmp, 1) := by decide +kernel
theorem dc_CU_isBetter_49 : decode prog_5_method_13_code 49 = .ok (.ifCond .ge 7, 3) := by decide +kernel
theorem dc_CU_isBetter_52 : decode prog_5_method_13_code 52 = .ok (.iconst 1, 1) := by decide +kernel
theorem dc_CU_isBetter_53 : decode prog_5_method_13_code 53 = .ok (.goto 4, 3) := by decide +kernel
theorem dc_CU_isBetter_56 : decode prog_5_method_13_code 56 = .ok (.iconst 0, 1) := by decide +kernel
theorem dc_CU_isBetter_57 : decode prog_5_method_13_code 57 = .ok (.ireturn, 1) := by decide +kernel
theorem dc_CU_isBetter_58 : decode prog_5_method_13_code 58 = .ok (.iload 6, 2) := by decide +kernel
theorem dc_CU_isBetter_60 : decode prog_5_method_13_code 60 = .ok (.aload_n 0, 1) := by decide +kernel
theorem dc_CU_isBetter_61 : decode prog_5_method_13_code 61 = .ok (.getfield 35, 3) := by decide +kernel
theorem dc_CU_isBetter_64 : decode prog_5_method_13_code 64 = .ok (.iload_n 1, 1) := by decide +kernel
theorem dc_CU_isBetter_65 : decode prog_5_method_13_code 65 = .ok (.iaload, 1) := by decide +kernel
theorem dc_CU_isBetter_66 : decode prog_5_method_13_code 66 = .ok (.if_icmp .ge 7, 3) := by decide +kernel
theorem dc_CU_isBetter_69 : decode prog_5_method_13_code 69 = .ok (.iconst 1, 1) := by decide +kernel
theorem dc_CU_isBetter_70 : decode prog_5_method_13_code 70 = .ok (.goto 4, 3) := by decide +kernel
theorem dc_CU_isBetter_73 : decode prog_5_method_13_code 73 = .ok (.iconst 0, 1) := by decide +kernel
theorem dc_CU_isBetter_74 : decode prog_5_method_13_code 74 = .ok (.ireturn, 1) := by decide +kernel
theorem w_CU_isBetter_0 {G : GC} {d : Nat} {P : PT} {I : MI} {J : MJ} {x1 : Int32} {l2 : Int64} {l4 : Int64} {x6 : Int32} (b1 : vp_in x1 861) (q2 : (l2 = (J 42 x1.toNatClampNeg)) → (l4 = (J 43 x1.toNatClampNeg)) → ((I 44 x1.toNatClampNeg) ≤ x6) → P (some (.int 0)) I J) (q3 : (l2 = (J 42 x1.toNatClampNeg)) → (l4 = (J 43 x1.toNatClampNeg)) → (¬ ((I 44 x1.toNatClampNeg) ≤ x6)) → P (some (.int 1)) I J) (q4 : (l2 = (J 42 x1.toNatClampNeg)) → (¬ (l4 = (J 43 x1.toNatClampNeg))) → ((J 43 x1.toNatClampNeg) ≤ l4) → P (some (.int 0)) I J) (q5 : (l2 = (J 42 x1.toNatClampNeg)) → (¬ (l4 = (J 43 x1.toNatClampNeg))) → (¬ ((J 43 x1.toNatClampNeg) ≤ l4)) → P (some (.int 1)) I J) (q6 : (¬ (l2 = (J 42 x1.toNatClampNeg))) → ((J 42 x1.toNatClampNeg) ≤ l2) → P (some (.int 0)) I J) (q7 : (¬ (l2 = (J 42 x1.toNatClampNeg))) → (¬ ((J 42 x1.toNatClampNeg) ≤ l2)) → P (some (.int 1)) I J) : Go G (fr G m_CU_isBetter d P) 0 [some (.ref 33), some (.int x1), some (.long l2), none, some (.long l4), none, some (.int x6)] [] I J := by
  refine g_lload_n dc_CU_isBetter_0 rfl rfl rfl ?_
  refine g_aload_n dc_CU_isBetter_1 rfl rfl rfl ?_
  refine g_get (C := "LevelBreaks$Cuts") (T := T_CU) (N := 13) (k := 1) (v := .ref 42) sh_33 (by decide) rfl rfl i_CU (by decide) fl_CU_28 (Or.inl rfl) rfl dc_CU_isBetter_2 rfl ?_
  refine g_iload_n dc_CU_isBetter_5 rfl rfl rfl ?_
  refine g_laldv (v := (J 42 x1.toNatClampNeg)) sh_42 b1 rfl dc_CU_isBetter_6 rfl ?_
  refine g_lc_eq (tgt := 28) dc_CU_isBetter_7 rfl dc_CU_isBetter_8 rfl (by decide) (fun c1 => ?_) (fun c1 => ?_)
  · refine g_lload dc_CU_isBetter_28 rfl rfl ?_
    refine g_aload_n dc_CU_isBetter_30 rfl rfl rfl ?_
    refine g_get (C := "LevelBreaks$Cuts") (T := T_CU) (N := 13) (k := 2) (v := .ref 43) sh_33 (by decide) rfl rfl i_CU (by decide) fl_CU_32 (Or.inl rfl) rfl dc_CU_isBetter_31 rfl ?_
    refine g_iload_n dc_CU_isBetter_34 rfl rfl rfl ?_
    refine g_laldv (v := (J 43 x1.toNatClampNeg)) sh_43 b1 rfl dc_CU_isBetter_35 rfl ?_
    refine g_lc_eq (tgt := 58) dc_CU_isBetter_36 rfl dc_CU_isBetter_37 rfl (by decide) (fun c2 => ?_) (fun c2 => ?_)
    · refine g_iload dc_CU_isBetter_58 rfl rfl ?_
      refine g_aload_n dc_CU_isBetter_60 rfl rfl rfl ?_
      refine g_get (C := "LevelBreaks$Cuts") (T := T_CU) (N := 13) (k := 3) (v := .ref 44) sh_33 (by decide) rfl rfl i_CU (by decide) fl_CU_35 (Or.inl rfl) rfl dc_CU_isBetter_61 rfl ?_
      refine g_iload_n dc_CU_isBetter_64 rfl rfl rfl ?_
      refine g_ialdv (v := (I 44 x1.toNatClampNeg)) sh_44 b1 rfl dc_CU_isBetter_65 rfl ?_
      refine g_ic_ge (tgt := 73) dc_CU_isBetter_66 rfl (by decide) (fun c3 => ?_) (fun c3 => ?_)
      · refine g_iconst (v := 0) dc_CU_isBetter_73 rfl (by decide) ?_
        exact g_zret rfl (by decide) dc_CU_isBetter_74 (q2 c1 c2 c3)
      · refine g_iconst (v := 1) dc_CU_isBetter_69 rfl (by decide) ?_
        refine g_goto (tgt := 74) dc_CU_isBetter_70 (by decide) ?_
        exact g_zret rfl (by decide) dc_CU_isBetter_74 (q3 c1 c2 c3)
    · refine g_lload dc_CU_isBetter_40 rfl rfl ?_
      refine g_aload_n dc_CU_isBetter_42 rfl rfl rfl ?_
      refine g_get (C := "LevelBreaks$Cuts") (T := T_CU) (N := 13) (k := 2) (v := .ref 43) sh_33 (by decide) rfl rfl i_CU (by decide) fl_CU_32 (Or.inl rfl) rfl dc_CU_isBetter_43 rfl ?_
      refine g_iload_n dc_CU_isBetter_46 rfl rfl rfl ?_
      refine g_laldv (v := (J 43 x1.toNatClampNeg)) sh_43 b1 rfl dc_CU_isBetter_47 rfl ?_
      refine g_lc_ge (tgt := 56) dc_CU_isBetter_48 rfl dc_CU_isBetter_49 rfl (by decide) (fun c4 => ?_) (fun c4 => ?_)
      · refine g_iconst (v := 0) dc_CU_isBetter_56 rfl (by decide) ?_
        exact g_zret rfl (by decide) dc_CU_isBetter_57 (q4 c1 c2 c4)
      · refine g_iconst (v := 1) dc_CU_isBetter_52 rfl (by decide) ?_
        refine g_goto (tgt := 57) dc_CU_isBetter_53 (by decide) ?_
        exact g_zret rfl (by decide) dc_CU_isBetter_57 (q5 c1 c2 c4)
  · refine g_lload_n dc_CU_isBetter_11 rfl rfl rfl ?_
    refine g_aload_n dc_CU_isBetter_12 rfl rfl rfl ?_
    refine g_get (C := "LevelBreaks$Cuts") (T := T_CU) (N := 13) (k := 1) (v := .ref 42) sh_33 (by decide) rfl rfl i_CU (by decide) fl_CU_28 (Or.inl rfl) rfl dc_CU_isBetter_13 rfl ?_
    refine g_iload_n dc_CU_isBetter_16 rfl rfl rfl ?_
    refine g_laldv (v := (J 42 x1.toNatClampNeg)) sh_42 b1 rfl dc_CU_isBetter_17 rfl ?_
    refine g_lc_ge (tgt := 26) dc_CU_isBetter_18 rfl dc_CU_isBetter_19 rfl (by decide) (fun c5 => ?_) (fun c5 => ?_)
    · refine g_iconst (v := 0) dc_CU_isBetter_26 rfl (by decide) ?_
      exact g_zret rfl (by decide) dc_CU_isBetter_27 (q6 c1 c5)
    · refine g_iconst (v := 1) dc_CU_isBetter_22 rfl (by decide) ?_
      refine g_goto (tgt := 27) dc_CU_isBetter_23 (by decide) ?_
      exact g_zret rfl (by decide) dc_CU_isBetter_27 (q7 c1 c5)
theorem dc_CU_keepIfBetter_0 : decode prog_5_method_12_code 0 = .ok (.lload_n 3, 1) := by decide +kernel
theorem dc_CU_keepIfBetter_1 : decode prog_5_method_12_code 1 = .ok (.aload_n 0, 1) := by decide +kernel
theorem dc_CU_keepIfBetter_2 : decode prog_5_method_12_code 2 = .ok (.getfield 28, 3) := by decide +kernel
theorem dc_CU_keepIfBetter_5 : decode prog_5_method_12_code 5 = .ok (.iload_n 2, 1) := by decide +kernel
theorem dc_CU_keepIfBetter_6 : decode prog_5_method_12_code 6 = .ok (.laload, 1) := by decide +kernel
theorem dc_CU_keepIfBetter_7 : decode prog_5_method_12_code 7 = .ok (.ladd, 1) := by decide +kernel
theorem dc_CU_keepIfBetter_8 : decode prog_5_method_12_code 8 = .ok (.lstore 9, 2) := by decide +kernel
theorem dc_CU_keepIfBetter_10 : decode prog_5_method_12_code 10 = .ok (.lload 5, 2) := by decide +kernel
theorem dc_CU_keepIfBetter_12 : decode prog_5_method_12_code 12 = .ok (.aload_n 0, 1) := by decide +kernel
theorem dc_CU_keepIfBetter_13 : decode prog_5_method_12_code 13 = .ok (.getfield 32, 3) := by decide +kernel
theorem dc_CU_keepIfBetter_16 : decode prog_5_method_12_code 16 = .ok (.iload_n 2, 1) := by decide +kernel
theorem dc_CU_keepIfBetter_17 : decode prog_5_method_12_code 17 = .ok (.laload, 1) := by decide +kernel
theorem dc_CU_keepIfBetter_18 : decode prog_5_method_12_code 18 = .ok (.ladd, 1) := by decide +kernel
theorem dc_CU_keepIfBetter_19 : decode prog_5_method_12_code 19 = .ok (.lstore 11, 2) := by decide +kernel
theorem dc_CU_keepIfBetter_21 : decode prog_5_method_12_code 21 = .ok (.lload 11, 2) := by decide +kernel
theorem dc_CU_keepIfBetter_23 : decode prog_5_method_12_code 23 = .ok (.ldc2_w 129, 3) := by decide +kernel
theorem dc_CU_keepIfBetter_26 : decode prog_5_method_12_code 26 = .ok (.lcmp, 1) := by decide +kernel
theorem dc_CU_keepIfBetter_27 : decode prog_5_method_12_code 27 = .ok (.ifCond .lt 17, 3) := by decide +kernel
theorem dc_CU_keepIfBetter_30 : decode prog_5_method_12_code 30 = .ok (.lload 11, 2) := by decide +kernel
theorem dc_CU_keepIfBetter_32 : decode prog_5_method_12_code 32 = .ok (.ldc2_w 129, 3) := by decide +kernel
theorem dc_CU_keepIfBetter_35 : decode prog_5_method_12_code 35 = .ok (.lsub, 1) := by decide +kernel
theorem dc_CU_keepIfBetter_36 : decode prog_5_method_12_code 36 = .ok (.lstore 11, 2) := by decide +kernel
theorem dc_CU_keepIfBetter_38 : decode prog_5_method_12_code 38 = .ok (.lload 9, 2) := by decide +kernel
theorem dc_CU_keepIfBetter_40 : decode prog_5_method_12_code 40 = .ok (.lconst 1, 1) := by decide +kernel
theorem dc_CU_keepIfBetter_41 : decode prog_5_method_12_code 41 = .ok (.ladd, 1) := by decide +kernel
theorem dc_CU_keepIfBetter_42 : decode prog_5_method_12_code 42 = .ok (.lstore 9, 2) := by decide +kernel
theorem dc_CU_keepIfBetter_44 : decode prog_5_method_12_code 44 = .ok (.iload 7, 2) := by decide +kernel
theorem dc_CU_keepIfBetter_46 : decode prog_5_method_12_code 46 = .ok (.aload_n 0, 1) := by decide +kernel
theorem dc_CU_keepIfBetter_47 : decode prog_5_method_12_code 47 = .ok (.getfield 35, 3) := by decide +kernel
theorem dc_CU_keepIfBetter_50 : decode prog_5_method_12_code 50 = .ok (.iload_n 2, 1) := by decide +kernel
theorem dc_CU_keepIfBetter_51 : decode prog_5_method_12_code 51 = .ok (.iaload, 1) := by decide +kernel
theorem dc_CU_keepIfBetter_52 : decode prog_5_method_12_code 52 = .ok (.iadd, 1) := by decide +kernel
theorem dc_CU_keepIfBetter_53 : decode prog_5_method_12_code 53 = .ok (.istore 13, 2) := by decide +kernel
theorem dc_CU_keepIfBetter_55 : decode prog_5_method_12_code 55 = .ok (.aload_n 0, 1) := by decide +kernel
theorem dc_CU_keepIfBetter_56 : decode prog_5_method_12_code 56 = .ok (.getfield 28, 3) := by decide +kernel
theorem dc_CU_keepIfBetter_59 : decode prog_5_method_12_code 59 = .ok (.iload_n 1, 1) := by decide +kernel
theorem dc_CU_keepIfBetter_60 : decode prog_5_method_12_code 60 = .ok (.laload, 1) := by decide +kernel
theorem dc_CU_keepIfBetter_61 : decode prog_5_method_12_code 61 = .ok (.ldc2_w 95, 3) := by decide +kernel
theorem dc_CU_keepIfBetter_64 : decode prog_5_method_12_code 64 = .ok (.lcmp, 1) := by decide +kernel
theorem dc_CU_keepIfBetter_65 : decode prog_5_method_12_code 65 = .ok (.ifCond .eq 18, 3) := by decide +kernel
theorem dc_CU_keepIfBetter_68 : decode prog_5_method_12_code 68 = .ok (.aload_n 0, 1) := by decide +kernel
theorem dc_CU_keepIfBetter_69 : decode prog_5_method_12_code 69 = .ok (.iload_n 1, 1) := by decide +kernel
theorem dc_CU_keepIfBetter_70 : decode prog_5_method_12_code 70 = .ok (.lload 9, 2) := by decide +kernel
theorem dc_CU_keepIfBetter_72 : decode prog_5_method_12_code 72 = .ok (.lload 11, 2) := by decide +kernel
theorem dc_CU_keepIfBetter_74 : decode prog_5_method_12_code 74 = .ok (.iload 13, 2) := by decide +kernel
theorem dc_CU_keepIfBetter_76 : decode prog_5_method_12_code 76 = .ok (.invokevirtual 135, 3) := by decide +kernel
theorem dc_CU_keepIfBetter_79 : decode prog_5_method_12_code 79 = .ok (.ifCond .ne 4, 3) := by decide +kernel
theorem dc_CU_keepIfBetter_82 : decode prog_5_method_12_code 82 = .ok (.return_, 1) := by decide +kernel
theorem dc_CU_keepIfBetter_83 : decode prog_5_method_12_code 83 = .ok (.aload_n 0, 1) := by decide +kernel
theorem dc_CU_keepIfBetter_84 : decode prog_5_method_12_code 84 = .ok (.getfield 28, 3) := by decide +kernel
theorem dc_CU_keepIfBetter_87 : decode prog_5_method_12_code 87 = .ok (.iload_n 1, 1) := by decide +kernel
theorem dc_CU_keepIfBetter_88 : decode prog_5_method_12_code 88 = .ok (.lload 9, 2) := by decide +kernel
theorem dc_CU_keepIfBetter_90 : decode prog_5_method_12_code 90 = .ok (.lastore, 1) := by decide +kernel
theorem dc_CU_keepIfBetter_91 : decode prog_5_method_12_code 91 = .ok (.aload_n 0, 1) := by decide +kernel
theorem dc_CU_keepIfBetter_92 : decode prog_5_method_12_code 92 = .ok (.getfield 32, 3) := by decide +kernel
theorem dc_CU_keepIfBetter_95 : decode prog_5_method_12_code 95 = .ok (.iload_n 1, 1) := by decide +kernel
theorem dc_CU_keepIfBetter_96 : decode prog_5_method_12_code 96 = .ok (.lload 11, 2) := by decide +kernel
theorem dc_CU_keepIfBetter_98 : decode prog_5_method_12_code 98 = .ok (.lastore, 1) := by decide +kernel
theorem dc_CU_keepIfBetter_99 : decode prog_5_method_12_code 99 = .ok (.aload_n 0, 1) := by decide +kernel
theorem dc_CU_keepIfBetter_100 : decode prog_5_method_12_code 100 = .ok (.getfield 35, 3) := by decide +kernel
theorem dc_CU_keepIfBetter_103 : decode prog_5_method_12_code 103 = .ok (.iload_n 1, 1) := by decide +kernel
theorem dc_CU_keepIfBetter_104 : decode prog_5_method_12_code 104 = .ok (.iload 13, 2) := by decide +kernel
theorem dc_CU_keepIfBetter_106 : decode prog_5_method_12_code 106 = .ok (.iastore, 1) := by decide +kernel
theorem dc_CU_keepIfBetter_107 : decode prog_5_method_12_code 107 = .ok (.aload_n 0, 1) := by decide +kernel
theorem dc_CU_keepIfBetter_108 : decode prog_5_method_12_code 108 = .ok (.getfield 39, 3) := by decide +kernel
theorem dc_CU_keepIfBetter_111 : decode prog_5_method_12_code 111 = .ok (.iload_n 1, 1) := by decide +kernel
theorem dc_CU_keepIfBetter_112 : decode prog_5_method_12_code 112 = .ok (.iload 8, 2) := by decide +kernel
theorem dc_CU_keepIfBetter_114 : decode prog_5_method_12_code 114 = .ok (.iastore, 1) := by decide +kernel
theorem dc_CU_keepIfBetter_115 : decode prog_5_method_12_code 115 = .ok (.return_, 1) := by decide +kernel
theorem w_CU_keepIfBetter_0 {G : GC} {d : Nat} {P : PT} {I : MI} {J : MJ} {x1 : Int32} {x2 : Int32} {l3 : Int64} {l5 : Int64} {x7 : Int32} {x8 : Int32} (b1 : vp_in x2 861) (k2 : ((l5 + (J 43 x2.toNatClampNeg)) < 5342931457063200) → Go G (fr G m_CU_keepIfBetter (d + 1) P) 44 [some (.ref 33), some (.int x1), some (.int x2), none, none, none, none, some (.int x7), some (.int x8), some (.long (l3 + (J 42 x2.toNatClampNeg))), none, some (.long (l5 + (J 43 x2.toNatClampNeg))), none, none] [] I J) (k3 : (¬ ((l5 + (J 43 x2.toNatClampNeg)) < 5342931457063200)) → Go G (fr G m_CU_keepIfBetter (d + 1) P) 44 [some (.ref 33), some (.int x1), some (.int x2), none, none, none, none, some (.int x7), some (.int x8), some (.long ((l3 + (J 42 x2.toNatClampNeg)) + 1)), none, some (.long ((l5 + (J 43 x2.toNatClampNeg)) - 5342931457063200)), none, none] [] I J) : Go G (fr G m_CU_keepIfBetter (d + 1) P) 0 [some (.ref 33), some (.int x1), some (.int x2), some (.long l3), none, some (.long l5), none, some (.int x7), some (.int x8), none, none, none, none, none] [] I J := by
  refine g_lload_n dc_CU_keepIfBetter_0 rfl rfl rfl ?_
  refine g_aload_n dc_CU_keepIfBetter_1 rfl rfl rfl ?_
  refine g_get (C := "LevelBreaks$Cuts") (T := T_CU) (N := 13) (k := 1) (v := .ref 42) sh_33 (by decide) rfl rfl i_CU (by decide) fl_CU_28 (Or.inl rfl) rfl dc_CU_keepIfBetter_2 rfl ?_
  refine g_iload_n dc_CU_keepIfBetter_5 rfl rfl rfl ?_
  refine g_laldv (v := (J 42 x2.toNatClampNeg)) sh_42 b1 rfl dc_CU_keepIfBetter_6 rfl ?_
  refine g_ladd dc_CU_keepIfBetter_7 rfl ?_
  refine g_lstore (L' := [some (.ref 33), some (.int x1), some (.int x2), some (.long l3), none, some (.long l5), none, some (.int x7), some (.int x8), some (.long (l3 + (J 42 x2.toNatClampNeg))), none, none, none, none]) dc_CU_keepIfBetter_8 rfl (Nat.le_of_ble_eq_true rfl) rfl ?_
  refine g_lload dc_CU_keepIfBetter_10 rfl rfl ?_
  refine g_aload_n dc_CU_keepIfBetter_12 rfl rfl rfl ?_
  refine g_get (C := "LevelBreaks$Cuts") (T := T_CU) (N := 13) (k := 2) (v := .ref 43) sh_33 (by decide) rfl rfl i_CU (by decide) fl_CU_32 (Or.inl rfl) rfl dc_CU_keepIfBetter_13 rfl ?_
  refine g_iload_n dc_CU_keepIfBetter_16 rfl rfl rfl ?_
  refine g_laldv (v := (J 43 x2.toNatClampNeg)) sh_43 b1 rfl dc_CU_keepIfBetter_17 rfl ?_
  refine g_ladd dc_CU_keepIfBetter_18 rfl ?_
  refine g_lstore (L' := [some (.ref 33), some (.int x1), some (.int x2), some (.long l3), none, some (.long l5), none, some (.int x7), some (.int x8), some (.long (l3 + (J 42 x2.toNatClampNeg))), none, some (.long (l5 + (J 43 x2.toNatClampNeg))), none, none]) dc_CU_keepIfBetter_19 rfl (Nat.le_of_ble_eq_true rfl) rfl ?_
  refine g_lload dc_CU_keepIfBetter_21 rfl rfl ?_
  refine g_ldc2 (v := 5342931457063200) kl_CU_129 dc_CU_keepIfBetter_23 rfl ?_
  refine g_lc_lt (tgt := 44) dc_CU_keepIfBetter_26 rfl dc_CU_keepIfBetter_27 rfl (by decide) (fun c1 => ?_) (fun c1 => ?_)
  · refine g_weak [some (.ref 33), some (.int x1), some (.int x2), none, none, none, none, some (.int x7), some (.int x8), some (.long (l3 + (J 42 x2.toNatClampNeg))), none, some (.long (l5 + (J 43 x2.toNatClampNeg))), none, none] ⟨rfl, ⟨rfl, ⟨rfl, ⟨rfl, ⟨rfl, ⟨rfl, ⟨rfl, trivial⟩⟩⟩⟩⟩⟩⟩ ?_
    exact (k2 c1)
  · refine g_lload dc_CU_keepIfBetter_30 rfl rfl ?_
    refine g_ldc2 (v := 5342931457063200) kl_CU_129 dc_CU_keepIfBetter_32 rfl ?_
    refine g_lsub dc_CU_keepIfBetter_35 rfl ?_
    refine g_lstore (L' := [some (.ref 33), some (.int x1), some (.int x2), some (.long l3), none, some (.long l5), none, some (.int x7), some (.int x8), some (.long (l3 + (J 42 x2.toNatClampNeg))), none, some (.long ((l5 + (J 43 x2.toNatClampNeg)) - 5342931457063200)), none, none]) dc_CU_keepIfBetter_36 rfl (Nat.le_of_ble_eq_true rfl) rfl ?_
    refine g_lload dc_CU_keepIfBetter_38 rfl rfl ?_
    refine g_lconst (v := 1) dc_CU_keepIfBetter_40 rfl (by decide) ?_
    refine g_ladd dc_CU_keepIfBetter_41 rfl ?_
    refine g_lstore (L' := [some (.ref 33), some (.int x1), some (.int x2), some (.long l3), none, some (.long l5), none, some (.int x7), some (.int x8), some (.long ((l3 + (J 42 x2.toNatClampNeg)) + 1)), none, some (.long ((l5 + (J 43 x2.toNatClampNeg)) - 5342931457063200)), none, none]) dc_CU_keepIfBetter_42 rfl (Nat.le_of_ble_eq_true rfl) rfl ?_
    refine g_weak [some (.ref 33), some (.int x1), some (.int x2), none, none, none, none, some (.int x7), some (.int x8), some (.long ((l3 + (J 42 x2.toNatClampNeg)) + 1)), none, some (.long ((l5 + (J 43 x2.toNatClampNeg)) - 5342931457063200)), none, none] ⟨rfl, ⟨rfl, ⟨rfl, ⟨rfl, ⟨rfl, ⟨rfl, ⟨rfl, trivial⟩⟩⟩⟩⟩⟩⟩ ?_
    exact (k3 c1)
theorem w_CU_keepIfBetter_44 {G : GC} {d : Nat} {P : PT} {I : MI} {J : MJ} {x1 : Int32} {x2 : Int32} {x7 : Int32} {x8 : Int32} {l9 : Int64} {l11 : Int64} (b1 : vp_in x2 861) (b2 : vp_in x1 861) (k3 : ((J 42 x1.toNatClampNeg) = (-1)) → Go G (fr G m_CU_keepIfBetter (d + 1) P) 83 [some (.ref 33), some (.int x1), none, none, none, none, none, none, some (.int x8), some (.long l9), none, some (.long l11), none, some (.int (x7 + (I 44 x2.toNatClampNeg)))] [] I J) (k4 : (¬ ((J 42 x1.toNatClampNeg) = (-1))) → Ct G d m_CU_isBetter [.ref 33, .int x1, .long l9, .long l11, .int (x7 + (I 44 x2.toNatClampNeg))] (fun r I' J' => Go G (fr G m_CU_keepIfBetter (d + 1) P) 79 [some (.ref 33), some (.int x1), none, none, none, none, none, none, some (.int x8), some (.long l9), none, some (.long l11), none, some (.int (x7 + (I 44 x2.toNatClampNeg)))] (r.toList ++ []) I' J') I J) : Go G (fr G m_CU_keepIfBetter (d + 1) P) 44 [some (.ref 33), some (.int x1), some (.int x2), none, none, none, none, some (.int x7), some (.int x8), some (.long l9), none, some (.long l11), none, none] [] I J := by
  refine g_iload dc_CU_keepIfBetter_44 rfl rfl ?_
  refine g_aload_n dc_CU_keepIfBetter_46 rfl rfl rfl ?_
  refine g_get (C := "LevelBreaks$Cuts") (T := T_CU) (N := 13) (k := 3) (v := .ref 44) sh_33 (by decide) rfl rfl i_CU (by decide) fl_CU_35 (Or.inl rfl) rfl dc_CU_keepIfBetter_47 rfl ?_
  refine g_iload_n dc_CU_keepIfBetter_50 rfl rfl rfl ?_
  refine g_ialdv (v := (I 44 x2.toNatClampNeg)) sh_44 b1 rfl dc_CU_keepIfBetter_51 rfl ?_
  refine g_iadd dc_CU_keepIfBetter_52 rfl ?_
  refine g_istore (L' := [some (.ref 33), some (.int x1), some (.int x2), none, none, none, none, some (.int x7), some (.int x8), some (.long l9), none, some (.long l11), none, some (.int (x7 + (I 44 x2.toNatClampNeg)))]) dc_CU_keepIfBetter_53 rfl (Nat.le_of_ble_eq_true rfl) rfl ?_
  refine g_aload_n dc_CU_keepIfBetter_55 rfl rfl rfl ?_
  refine g_get (C := "LevelBreaks$Cuts") (T := T_CU) (N := 13) (k := 1) (v := .ref 42) sh_33 (by decide) rfl rfl i_CU (by decide) fl_CU_28 (Or.inl rfl) rfl dc_CU_keepIfBetter_56 rfl ?_
  refine g_iload_n dc_CU_keepIfBetter_59 rfl rfl rfl ?_
  refine g_laldv (v := (J 42 x1.toNatClampNeg)) sh_42 b2 rfl dc_CU_keepIfBetter_60 rfl ?_
  refine g_ldc2 (v := (-1)) kl_CU_95 dc_CU_keepIfBetter_61 rfl ?_
  refine g_lc_eq (tgt := 83) dc_CU_keepIfBetter_64 rfl dc_CU_keepIfBetter_65 rfl (by decide) (fun c1 => ?_) (fun c1 => ?_)
  · refine g_weak [some (.ref 33), some (.int x1), none, none, none, none, none, none, some (.int x8), some (.long l9), none, some (.long l11), none, some (.int (x7 + (I 44 x2.toNatClampNeg)))] ⟨rfl, ⟨rfl, ⟨rfl, ⟨rfl, ⟨rfl, ⟨rfl, trivial⟩⟩⟩⟩⟩⟩ ?_
    exact (k3 c1)
  · refine g_aload_n dc_CU_keepIfBetter_68 rfl rfl rfl ?_
    refine g_iload_n dc_CU_keepIfBetter_69 rfl rfl rfl ?_
    refine g_lload dc_CU_keepIfBetter_70 rfl rfl ?_
    refine g_lload dc_CU_keepIfBetter_72 rfl rfl ?_
    refine g_iload dc_CU_keepIfBetter_74 rfl rfl ?_
    refine g_weak [some (.ref 33), some (.int x1), none, none, none, none, none, none, some (.int x8), some (.long l9), none, some (.long l11), none, some (.int (x7 + (I 44 x2.toNatClampNeg)))] ⟨rfl, ⟨rfl, ⟨rfl, ⟨rfl, ⟨rfl, ⟨rfl, trivial⟩⟩⟩⟩⟩⟩ ?_
    exact g_callV (T := T_CU) (N := 13) (As := [.int x1, .long l9, .long l11, .int (x7 + (I 44 x2.toNatClampNeg))]) (rest := []) ok_CU_isBetter in_CU_isBetter se_CU_isBetter ml_CU_135 sh_33 (by decide) rfl rfl rfl (Nat.le_of_ble_eq_true rfl) dc_CU_keepIfBetter_76 rfl rOk_fr (k4 c1)
theorem w_CU_keepIfBetter_79 {G : GC} {d : Nat} {P : PT} {I : MI} {J : MJ} {x1 : Int32} {x8 : Int32} {l9 : Int64} {l11 : Int64} {x13 : Int32} {y0 : Int32} (k1 : (¬ y0 = 0) → Go G (fr G m_CU_keepIfBetter (d + 1) P) 83 [some (.ref 33), some (.int x1), none, none, none, none, none, none, some (.int x8), some (.long l9), none, some (.long l11), none, some (.int x13)] [] I J) (q2 : (y0 = 0) → P none I J) : Go G (fr G m_CU_keepIfBetter (d + 1) P) 79 [some (.ref 33), some (.int x1), none, none, none, none, none, none, some (.int x8), some (.long l9), none, some (.long l11), none, some (.int x13)] [.int y0] I J := by
  refine g_if_ne (tgt := 83) dc_CU_keepIfBetter_79 rfl (by decide) (fun c1 => ?_) (fun c1 => ?_)
  · exact (k1 c1)
  · exact g_vret rfl dc_CU_keepIfBetter_82 (q2 c1)
theorem w_CU_keepIfBetter_83 {G : GC} {d : Nat} {P : PT} {I : MI} {J : MJ} {x1 : Int32} {x8 : Int32} {l9 : Int64} {l11 : Int64} {x13 : Int32} (b1 : vp_in x1 861) (q2 : P none (u2 (u2 I 44 x1.toNatClampNeg x13) 45 x1.toNatClampNeg x8) (u2 (u2 J 42 x1.toNatClampNeg l9) 43 x1.toNatClampNeg l11)) : Go G (fr G m_CU_keepIfBetter (d + 1) P) 83 [some (.ref 33), some (.int x1), none, none, none, none, none, none, some (.int x8), some (.long l9), none, some (.long l11), none, some (.int x13)] [] I J := by
  refine g_aload_n dc_CU_keepIfBetter_83 rfl rfl rfl ?_
  refine g_get (C := "LevelBreaks$Cuts") (T := T_CU) (N := 13) (k := 1) (v := .ref 42) sh_33 (by decide) rfl rfl i_CU (by decide) fl_CU_28 (Or.inl rfl) rfl dc_CU_keepIfBetter_84 rfl ?_
  refine g_iload_n dc_CU_keepIfBetter_87 rfl rfl rfl ?_
  refine g_lload dc_CU_keepIfBetter_88 rfl rfl ?_
  refine g_last sh_42 b1 dc_CU_keepIfBetter_90 rfl ?_
  refine g_aload_n dc_CU_keepIfBetter_91 rfl rfl rfl ?_
  refine g_get (C := "LevelBreaks$Cuts") (T := T_CU) (N := 13) (k := 2) (v := .ref 43) sh_33 (by decide) rfl rfl i_CU (by decide) fl_CU_32 (Or.inl rfl) rfl dc_CU_keepIfBetter_92 rfl ?_
  refine g_iload_n dc_CU_keepIfBetter_95 rfl rfl rfl ?_
  refine g_lload dc_CU_keepIfBetter_96 rfl rfl ?_
  refine g_last sh_43 b1 dc_CU_keepIfBetter_98 rfl ?_
  refine g_aload_n dc_CU_keepIfBetter_99 rfl rfl rfl ?_
  refine g_get (C := "LevelBreaks$Cuts") (T := T_CU) (N := 13) (k := 3) (v := .ref 44) sh_33 (by decide) rfl rfl i_CU (by decide) fl_CU_35 (Or.inl rfl) rfl dc_CU_keepIfBetter_100 rfl ?_
  refine g_iload_n dc_CU_keepIfBetter_103 rfl rfl rfl ?_
  refine g_iload dc_CU_keepIfBetter_104 rfl rfl ?_
  refine g_iast sh_44 b1 dc_CU_keepIfBetter_106 rfl ?_
  refine g_aload_n dc_CU_keepIfBetter_107 rfl rfl rfl ?_
  refine g_get (C := "LevelBreaks$Cuts") (T := T_CU) (N := 13) (k := 4) (v := .ref 45) sh_33 (by decide) rfl rfl i_CU (by decide) fl_CU_39 (Or.inl rfl) rfl dc_CU_keepIfBetter_108 rfl ?_
  refine g_iload_n dc_CU_keepIfBetter_111 rfl rfl rfl ?_
  refine g_iload dc_CU_keepIfBetter_112 rfl rfl ?_
  refine g_iast sh_45 b1 dc_CU_keepIfBetter_114 rfl ?_
  exact g_vret rfl dc_CU_keepIfBetter_115 q2
theorem dc_CU_measureHeads_0 : decode prog_5_method_24_code 0 = .ok (.aload_n 2, 1) := by decide +kernel
theorem dc_CU_measureHeads_1 : decode prog_5_method_24_code 1 = .ok (.invokevirtual 54, 3) := by decide +kernel
theorem dc_CU_measureHeads_4 : decode prog_5_method_24_code 4 = .ok (.iconst 0, 1) := by decide +kernel
theorem dc_CU_measureHeads_5 : decode prog_5_method_24_code 5 = .ok (.istore 4, 2) := by decide +kernel
theorem dc_CU_measureHeads_7 : decode prog_5_method_24_code 7 = .ok (.iload 4, 2) := by decide +kernel
theorem dc_CU_measureHeads_9 : decode prog_5_method_24_code 9 = .ok (.aload_n 1, 1) := by decide +kernel
theorem dc_CU_measureHeads_10 : decode prog_5_method_24_code 10 = .ok (.getfield 61, 3) := by decide +kernel
theorem dc_CU_measureHeads_13 : decode prog_5_method_24_code 13 = .ok (.if_icmp .ge 106, 3) := by decide +kernel
theorem dc_CU_measureHeads_16 : decode prog_5_method_24_code 16 = .ok (.aload_n 2, 1) := by decide +kernel
theorem dc_CU_measureHeads_17 : decode prog_5_method_24_code 17 = .ok (.aload_n 1, 1) := by decide +kernel
theorem dc_CU_measureHeads_18 : decode prog_5_method_24_code 18 = .ok (.iload 4, 2) := by decide +kernel
theorem dc_CU_measureHeads_20 : decode prog_5_method_24_code 20 = .ok (.invokevirtual 57, 3) := by decide +kernel
theorem dc_CU_measureHeads_23 : decode prog_5_method_24_code 23 = .ok (.aload_n 2, 1) := by decide +kernel
theorem dc_CU_measureHeads_24 : decode prog_5_method_24_code 24 = .ok (.aload_n 1, 1) := by decide +kernel
theorem dc_CU_measureHeads_25 : decode prog_5_method_24_code 25 = .ok (.iconst (-1), 1) := by decide +kernel
theorem dc_CU_measureHeads_26 : decode prog_5_method_24_code 26 = .ok (.iconst (-1), 1) := by decide +kernel
theorem dc_CU_measureHeads_27 : decode prog_5_method_24_code 27 = .ok (.invokevirtual 109, 3) := by decide +kernel
theorem dc_CU_measureHeads_30 : decode prog_5_method_24_code 30 = .ok (.lstore 5, 2) := by decide +kernel
theorem dc_CU_measureHeads_32 : decode prog_5_method_24_code 32 = .ok (.aload_n 2, 1) := by decide +kernel
theorem dc_CU_measureHeads_33 : decode prog_5_method_24_code 33 = .ok (.iconst 0, 1) := by decide +kernel
theorem dc_CU_measureHeads_34 : decode prog_5_method_24_code 34 = .ok (.invokevirtual 126, 3) := by decide +kernel
theorem dc_CU_measureHeads_37 : decode prog_5_method_24_code 37 = .ok (.istore 7, 2) := by decide +kernel
theorem dc_CU_measureHeads_39 : decode prog_5_method_24_code 39 = .ok (.aload_n 2, 1) := by decide +kernel
theorem dc_CU_measureHeads_40 : decode prog_5_method_24_code 40 = .ok (.getfield 108, 3) := by decide +kernel
theorem dc_CU_measureHeads_43 : decode prog_5_method_24_code 43 = .ok (.iload_n 3, 1) := by decide +kernel
theorem dc_CU_measureHeads_44 : decode prog_5_method_24_code 44 = .ok (.if_icmp .lt 12, 3) := by decide +kernel
theorem dc_CU_measureHeads_47 : decode prog_5_method_24_code 47 = .ok (.iload 7, 2) := by decide +kernel
theorem dc_CU_measureHeads_49 : decode prog_5_method_24_code 49 = .ok (.ifCond .le 7, 3) := by decide +kernel
theorem dc_CU_measureHeads_52 : decode prog_5_method_24_code 52 = .ok (.iconst 1, 1) := by decide +kernel
theorem dc_CU_measureHeads_53 : decode prog_5_method_24_code 53 = .ok (.goto 4, 3) := by decide +kernel
theorem dc_CU_measureHeads_56 : decode prog_5_method_24_code 56 = .ok (.iconst 0, 1) := by decide +kernel
theorem dc_CU_measureHeads_57 : decode prog_5_method_24_code 57 = .ok (.istore 8, 2) := by decide +kernel
theorem dc_CU_measureHeads_59 : decode prog_5_method_24_code 59 = .ok (.aload_n 0, 1) := by decide +kernel
theorem dc_CU_measureHeads_60 : decode prog_5_method_24_code 60 = .ok (.getfield 42, 3) := by decide +kernel
theorem dc_CU_measureHeads_63 : decode prog_5_method_24_code 63 = .ok (.iload 4, 2) := by decide +kernel
theorem dc_CU_measureHeads_65 : decode prog_5_method_24_code 65 = .ok (.iload 8, 2) := by decide +kernel
theorem dc_CU_measureHeads_67 : decode prog_5_method_24_code 67 = .ok (.ifCond .eq 12, 3) := by decide +kernel
theorem dc_CU_measureHeads_70 : decode prog_5_method_24_code 70 = .ok (.lload 5, 2) := by decide +kernel
theorem dc_CU_measureHeads_72 : decode prog_5_method_24_code 72 = .ok (.iload 7, 2) := by decide +kernel
theorem dc_CU_measureHeads_74 : decode prog_5_method_24_code 74 = .ok (.i2l, 1) := by decide +kernel
theorem dc_CU_measureHeads_75 : decode prog_5_method_24_code 75 = .ok (.ldiv, 1) := by decide +kernel
theorem dc_CU_measureHeads_76 : decode prog_5_method_24_code 76 = .ok (.goto 6, 3) := by decide +kernel
theorem dc_CU_measureHeads_79 : decode prog_5_method_24_code 79 = .ok (.ldc2_w 95, 3) := by decide +kernel
theorem dc_CU_measureHeads_82 : decode prog_5_method_24_code 82 = .ok (.lastore, 1) := by decide +kernel
theorem dc_CU_measureHeads_83 : decode prog_5_method_24_code 83 = .ok (.aload_n 0, 1) := by decide +kernel
theorem dc_CU_measureHeads_84 : decode prog_5_method_24_code 84 = .ok (.getfield 45, 3) := by decide +kernel
theorem dc_CU_measureHeads_87 : decode prog_5_method_24_code 87 = .ok (.iload 4, 2) := by decide +kernel
theorem dc_CU_measureHeads_89 : decode prog_5_method_24_code 89 = .ok (.iload 8, 2) := by decide +kernel
theorem dc_CU_measureHeads_91 : decode prog_5_method_24_code 91 = .ok (.ifCond .eq 20, 3) := by decide +kernel
theorem dc_CU_measureHeads_94 : decode prog_5_method_24_code 94 = .ok (.lload 5, 2) := by decide +kernel
theorem dc_CU_measureHeads_96 : decode prog_5_method_24_code 96 = .ok (.iload 7, 2) := by decide +kernel
theorem dc_CU_measureHeads_98 : decode prog_5_method_24_code 98 = .ok (.i2l, 1) := by decide +kernel
theorem dc_CU_measureHeads_99 : decode prog_5_method_24_code 99 = .ok (.lrem, 1) := by decide +kernel
theorem dc_CU_measureHeads_100 : decode prog_5_method_24_code 100 = .ok (.ldc2_w 129, 3) := by decide +kernel
theorem dc_CU_measureHeads_103 : decode prog_5_method_24_code 103 = .ok (.iload 7, 2) := by decide +kernel
theorem dc_CU_measureHeads_105 : decode prog_5_method_24_code 105 = .ok (.i2l, 1) := by decide +kernel
theorem dc_CU_measureHeads_106 : decode prog_5_method_24_code 106 = .ok (.ldiv, 1) := by decide +kernel
theorem dc_CU_measureHeads_107 : decode prog_5_method_24_code 107 = .ok (.lmul, 1) := by decide +kernel
theorem dc_CU_measureHeads_108 : decode prog_5_method_24_code 108 = .ok (.goto 4, 3) := by decide +kernel
theorem dc_CU_measureHeads_111 : decode prog_5_method_24_code 111 = .ok (.lconst 0, 1) := by decide +kernel
theorem dc_CU_measureHeads_112 : decode prog_5_method_24_code 112 = .ok (.lastore, 1) := by decide +kernel
theorem dc_CU_measureHeads_113 : decode prog_5_method_24_code 113 = .ok (.iinc 4 1, 3) := by decide +kernel
theorem dc_CU_measureHeads_116 : decode prog_5_method_24_code 116 = .ok (.goto (-109), 3) := by decide +kernel
theorem dc_CU_measureHeads_119 : decode prog_5_method_24_code 119 = .ok (.return_, 1) := by decide +kernel
theorem w_CU_measureHeads_0 {G : GC} {d : Nat} {P : PT} {I : MI} {J : MJ} {o1 : Nat} (h1 : PtsAt o1) {o2 : Nat} (h2 : MesAt o2) {x3 : Int32} (k1 : Ct G (d + 2) (mesM o2 m_SU_restart m_MI_restart m_ON_restart) [.ref o2] (fun r I' J' => Go G (fr G m_CU_measureHeads (d + 3) P) 4 [some (.ref 33), some (.ref o1), some (.ref o2), some (.int x3), none, none, none, none, none] (r.toList ++ []) I' J') I J) : Go G (fr G m_CU_measureHeads (d + 3) P) 0 [some (.ref 33), some (.ref o1), some (.ref o2), some (.int x3), none, none, none, none, none] [] I J := by
  refine g_aload_n dc_CU_measureHeads_0 rfl rfl rfl ?_
  exact g_callM_restart (As := []) (rest := []) h2 ml_CU_54 rfl rfl (Nat.le_of_ble_eq_true rfl) dc_CU_measureHeads_1 rfl rOk_fr k1
theorem w_CU_measureHeads_4 {G : GC} {d : Nat} {P : PT} {I : MI} {J : MJ} {o1 : Nat} (h1 : PtsAt o1) {o2 : Nat} (h2 : MesAt o2) {x3 : Int32} (k1 : Go G (fr G m_CU_measureHeads (d + 3) P) 7 [some (.ref 33), some (.ref o1), some (.ref o2), some (.int x3), some (.int 0), none, none, none, none] [] I J) : Go G (fr G m_CU_measureHeads (d + 3) P) 4 [some (.ref 33), some (.ref o1), some (.ref o2), some (.int x3), none, none, none, none, none] [] I J := by
  refine g_iconst (v := 0) dc_CU_measureHeads_4 rfl (by decide) ?_
  refine g_istore (L' := [some (.ref 33), some (.ref o1), some (.ref o2), some (.int x3), some (.int 0), none, none, none, none]) dc_CU_measureHeads_5 rfl (Nat.le_of_ble_eq_true rfl) rfl ?_
  exact k1
theorem w_CU_measureHeads_7 {G : GC} {d : Nat} {P : PT} {I : MI} {J : MJ} {o1 : Nat} (h1 : PtsAt o1) {o2 : Nat} (h2 : MesAt o2) {x3 : Int32} {x4 : Int32} (q1 : ((I o1 4) ≤ x4) → P none I J) (k2 : (¬ ((I o1 4) ≤ x4)) → Ct G (d + 2) (mesM o2 m_SU_extend m_MI_extend m_ON_extend) [.ref o2, .ref o1, .int x4] (fun r I' J' => Go G (fr G m_CU_measureHeads (d + 3) P) 23 [some (.ref 33), some (.ref o1), some (.ref o2), some (.int x3), some (.int x4), none, none, none, none] (r.toList ++ []) I' J') I J) : Go G (fr G m_CU_measureHeads (d + 3) P) 7 [some (.ref 33), some (.ref o1), some (.ref o2), some (.int x3), some (.int x4), none, none, none, none] [] I J := by
  refine g_iload dc_CU_measureHeads_7 rfl rfl ?_
  refine g_aload_n dc_CU_measureHeads_9 rfl rfl rfl ?_
  refine g_get (C := "LevelBreaks$Points") (T := T_PO) (N := 5) (k := 4) (v := .int (I o1 4)) h1.1 (by decide) rfl rfl i_PO (by decide) fl_CU_61 (Or.inl rfl) rfl dc_CU_measureHeads_10 rfl ?_
  refine g_ic_ge (tgt := 119) dc_CU_measureHeads_13 rfl (by decide) (fun c1 => ?_) (fun c1 => ?_)
  · exact g_vret rfl dc_CU_measureHeads_119 (q1 c1)
  · refine g_aload_n dc_CU_measureHeads_16 rfl rfl rfl ?_
    refine g_aload_n dc_CU_measureHeads_17 rfl rfl rfl ?_
    refine g_iload dc_CU_measureHeads_18 rfl rfl ?_
    exact g_callM_extend (As := [.ref o1, .int x4]) (rest := []) h2 ml_CU_57 rfl rfl (Nat.le_of_ble_eq_true rfl) dc_CU_measureHeads_20 rfl rOk_fr (k2 c1)
theorem w_CU_measureHeads_23 {G : GC} {d : Nat} {P : PT} {I : MI} {J : MJ} {o1 : Nat} (h1 : PtsAt o1) {o2 : Nat} (h2 : MesAt o2) {x3 : Int32} {x4 : Int32} (k1 : Ct G (d + 2) (mesM o2 m_SU_above m_MI_above m_ON_above) [.ref o2, .ref o1, .int (-1), .int (-1)] (fun r I' J' => Go G (fr G m_CU_measureHeads (d + 3) P) 30 [some (.ref 33), some (.ref o1), some (.ref o2), some (.int x3), some (.int x4), none, none, none, none] (r.toList ++ []) I' J') I J) : Go G (fr G m_CU_measureHeads (d + 3) P) 23 [some (.ref 33), some (.ref o1), some (.ref o2), some (.int x3), some (.int x4), none, none, none, none] [] I J := by
  refine g_aload_n dc_CU_measureHeads_23 rfl rfl rfl ?_
  refine g_aload_n dc_CU_measureHeads_24 rfl rfl rfl ?_
  refine g_iconst (v := (-1)) dc_CU_measureHeads_25 rfl (by decide) ?_
  refine g_iconst (v := (-1)) dc_CU_measureHeads_26 rfl (by decide) ?_
  exact g_callM_above (As := [.ref o1, .int (-1), .int (-1)]) (rest := []) h2 ml_CU_109 rfl rfl (Nat.le_of_ble_eq_true rfl) dc_CU_measureHeads_27 rfl rOk_fr k1
theorem w_CU_measureHeads_30 {G : GC} {d : Nat} {P : PT} {I : MI} {J : MJ} {o1 : Nat} (h1 : PtsAt o1) {o2 : Nat} (h2 : MesAt o2) {x3 : Int32} {x4 : Int32} {s0 : Int64} (k1 : Ct G (d + 2) (mesM o2 m_SU_below m_MI_below m_ON_below) [.ref o2, .int 0] (fun r I' J' => Go G (fr G m_CU_measureHeads (d + 3) P) 37 [some (.ref 33), some (.ref o1), some (.ref o2), some (.int x3), some (.int x4), some (.long s0), none, none, none] (r.toList ++ []) I' J') I J) : Go G (fr G m_CU_measureHeads (d + 3) P) 30 [some (.ref 33), some (.ref o1), some (.ref o2), some (.int x3), some (.int x4), none, none, none, none] [.long s0] I J := by
  refine g_lstore (L' := [some (.ref 33), some (.ref o1), some (.ref o2), some (.int x3), some (.int x4), some (.long s0), none, none, none]) dc_CU_measureHeads_30 rfl (Nat.le_of_ble_eq_true rfl) rfl ?_
  refine g_aload_n dc_CU_measureHeads_32 rfl rfl rfl ?_
  refine g_iconst (v := 0) dc_CU_measureHeads_33 rfl (by decide) ?_
  exact g_callM_below (As := [.int 0]) (rest := []) h2 ml_CU_126 rfl rfl (Nat.le_of_ble_eq_true rfl) dc_CU_measureHeads_34 rfl rOk_fr k1
theorem w_CU_measureHeads_37 {G : GC} {d : Nat} {P : PT} {I : MI} {J : MJ} {o1 : Nat} (h1 : PtsAt o1) {o2 : Nat} (h2 : MesAt o2) {x3 : Int32} {x4 : Int32} {l5 : Int64} {y0 : Int32} (k1 : ((I o2 0) < x3) → Go G (fr G m_CU_measureHeads (d + 3) P) 56 [some (.ref 33), some (.ref o1), some (.ref o2), some (.int x3), some (.int x4), some (.long l5), none, some (.int y0), none] [] I J) (k2 : (¬ ((I o2 0) < x3)) → (y0 ≤ 0) → Go G (fr G m_CU_measureHeads (d + 3) P) 56 [some (.ref 33), some (.ref o1), some (.ref o2), some (.int x3), some (.int x4), some (.long l5), none, some (.int y0), none] [] I J) (k3 : (¬ ((I o2 0) < x3)) → (¬ (y0 ≤ 0)) → Go G (fr G m_CU_measureHeads (d + 3) P) 57 [some (.ref 33), some (.ref o1), some (.ref o2), some (.int x3), some (.int x4), some (.long l5), none, some (.int y0), none] [.int 1] I J) : Go G (fr G m_CU_measureHeads (d + 3) P) 37 [some (.ref 33), some (.ref o1), some (.ref o2), some (.int x3), some (.int x4), some (.long l5), none, none, none] [.int y0] I J := by
  refine g_istore (L' := [some (.ref 33), some (.ref o1), some (.ref o2), some (.int x3), some (.int x4), some (.long l5), none, some (.int y0), none]) dc_CU_measureHeads_37 rfl (Nat.le_of_ble_eq_true rfl) rfl ?_
  refine g_aload_n dc_CU_measureHeads_39 rfl rfl rfl ?_
  refine g_getM (v := (I o2 0)) h2 fl_CU_108 rfl dc_CU_measureHeads_40 rfl ?_
  refine g_iload_n dc_CU_measureHeads_43 rfl rfl rfl ?_
  refine g_ic_lt (tgt := 56) dc_CU_measureHeads_44 rfl (by decide) (fun c1 => ?_) (fun c1 => ?_)
  · exact (k1 c1)
  · refine g_iload dc_CU_measureHeads_47 rfl rfl ?_
    refine g_if_le (tgt := 56) dc_CU_measureHeads_49 rfl (by decide) (fun c2 => ?_) (fun c2 => ?_)
    · exact (k2 c1 c2)
    · refine g_iconst (v := 1) dc_CU_measureHeads_52 rfl (by decide) ?_
      refine g_goto (tgt := 57) dc_CU_measureHeads_53 (by decide) ?_
      exact (k3 c1 c2)
theorem w_CU_measureHeads_56 {G : GC} {d : Nat} {P : PT} {I : MI} {J : MJ} {o1 : Nat} (h1 : PtsAt o1) {o2 : Nat} (h2 : MesAt o2) {x3 : Int32} {x4 : Int32} {l5 : Int64} {x7 : Int32} (k1 : Go G (fr G m_CU_measureHeads (d + 3) P) 57 [some (.ref 33), some (.ref o1), some (.ref o2), some (.int x3), some (.int x4), some (.long l5), none, some (.int x7), none] [.int 0] I J) : Go G (fr G m_CU_measureHeads (d + 3) P) 56 [some (.ref 33), some (.ref o1), some (.ref o2), some (.int x3), some (.int x4), some (.long l5), none, some (.int x7), none] [] I J := by
  refine g_iconst (v := 0) dc_CU_measureHeads_56 rfl (by decide) ?_
  exact k1
theorem w_CU_measureHeads_57 {G : GC} {d : Nat} {P : PT} {I : MI} {J : MJ} {o1 : Nat} (h1 : PtsAt o1) {o2 : Nat} (h2 : MesAt o2) {x3 : Int32} {x4 : Int32} {l5 : Int64} {x7 : Int32} {y0 : Int32} (k1 : (y0 = 0) → Go G (fr G m_CU_measureHeads (d + 3) P) 82 [some (.ref 33), some (.ref o1), some (.ref o2), some (.int x3), some (.int x4), some (.long l5), none, some (.int x7), some (.int y0)] [.long (-1), .int x4, .ref 46] I J) (z2 : (¬ (y0 = 0)) → ¬ (Int32.toInt64 x7) = 0) (k3 : (¬ (y0 = 0)) → Go G (fr G m_CU_measureHeads (d + 3) P) 82 [some (.ref 33), some (.ref o1), some (.ref o2), some (.int x3), some (.int x4), some (.long l5), none, some (.int x7), some (.int y0)] [.long (l5 / (Int32.toInt64 x7)), .int x4, .ref 46] I J) : Go G (fr G m_CU_measureHeads (d + 3) P) 57 [some (.ref 33), some (.ref o1), some (.ref o2), some (.int x3), some (.int x4), some (.long l5), none, some (.int x7), none] [.int y0] I J := by
  refine g_istore (L' := [some (.ref 33), some (.ref o1), some (.ref o2), some (.int x3), some (.int x4), some (.long l5), none, some (.int x7), some (.int y0)]) dc_CU_measureHeads_57 rfl (Nat.le_of_ble_eq_true rfl) rfl ?_
  refine g_aload_n dc_CU_measureHeads_59 rfl rfl rfl ?_
  refine g_get (C := "LevelBreaks$Cuts") (T := T_CU) (N := 13) (k := 5) (v := .ref 46) sh_33 (by decide) rfl rfl i_CU (by decide) fl_CU_42 (Or.inl rfl) rfl dc_CU_measureHeads_60 rfl ?_
  refine g_iload dc_CU_measureHeads_63 rfl rfl ?_
  refine g_iload dc_CU_measureHeads_65 rfl rfl ?_
  refine g_if_eq (tgt := 79) dc_CU_measureHeads_67 rfl (by decide) (fun c1 => ?_) (fun c1 => ?_)
  · refine g_ldc2 (v := (-1)) kl_CU_95 dc_CU_measureHeads_79 rfl ?_
    exact (k1 c1)
  · refine g_lload dc_CU_measureHeads_70 rfl rfl ?_
    refine g_iload dc_CU_measureHeads_72 rfl rfl ?_
    refine g_i2l dc_CU_measureHeads_74 rfl ?_
    refine g_ldiv dc_CU_measureHeads_75 rfl (z2 c1) ?_
    refine g_goto (tgt := 82) dc_CU_measureHeads_76 (by decide) ?_
    exact (k3 c1)
theorem w_CU_measureHeads_82 {G : GC} {d : Nat} {P : PT} {I : MI} {J : MJ} {o1 : Nat} (h1 : PtsAt o1) {o2 : Nat} (h2 : MesAt o2) {x3 : Int32} {x4 : Int32} {l5 : Int64} {x7 : Int32} {x8 : Int32} {y1 : Int32} {s2 : Int64} (b1 : vp_in y1 40) (k2 : (x8 = 0) → Go G (fr G m_CU_measureHeads (d + 3) P) 112 [some (.ref 33), some (.ref o1), some (.ref o2), some (.int x3), some (.int x4), none, none, none, none] [.long 0, .int x4, .ref 47] I (u2 J 46 y1.toNatClampNeg s2)) (z3 : (¬ (x8 = 0)) → ¬ (Int32.toInt64 x7) = 0) (k4 : (¬ (x8 = 0)) → Go G (fr G m_CU_measureHeads (d + 3) P) 112 [some (.ref 33), some (.ref o1), some (.ref o2), some (.int x3), some (.int x4), none, none, none, none] [.long ((l5 - l5 / (Int32.toInt64 x7) * (Int32.toInt64 x7)) * (5342931457063200 / (Int32.toInt64 x7))), .int x4, .ref 47] I (u2 J 46 y1.toNatClampNeg s2)) : Go G (fr G m_CU_measureHeads (d + 3) P) 82 [some (.ref 33), some (.ref o1), some (.ref o2), some (.int x3), some (.int x4), some (.long l5), none, some (.int x7), some (.int x8)] [.long s2, .int y1, .ref 46] I J := by
  refine g_last sh_46 b1 dc_CU_measureHeads_82 rfl ?_
  refine g_aload_n dc_CU_measureHeads_83 rfl rfl rfl ?_
  refine g_get (C := "LevelBreaks$Cuts") (T := T_CU) (N := 13) (k := 6) (v := .ref 47) sh_33 (by decide) rfl rfl i_CU (by decide) fl_CU_45 (Or.inl rfl) rfl dc_CU_measureHeads_84 rfl ?_
  refine g_iload dc_CU_measureHeads_87 rfl rfl ?_
  refine g_iload dc_CU_measureHeads_89 rfl rfl ?_
  refine g_if_eq (tgt := 111) dc_CU_measureHeads_91 rfl (by decide) (fun c1 => ?_) (fun c1 => ?_)
  · refine g_lconst (v := 0) dc_CU_measureHeads_111 rfl (by decide) ?_
    refine g_weak [some (.ref 33), some (.ref o1), some (.ref o2), some (.int x3), some (.int x4), none, none, none, none] ⟨rfl, ⟨rfl, ⟨rfl, ⟨rfl, ⟨rfl, trivial⟩⟩⟩⟩⟩ ?_
    exact (k2 c1)
  · refine g_lload dc_CU_measureHeads_94 rfl rfl ?_
    refine g_iload dc_CU_measureHeads_96 rfl rfl ?_
    refine g_i2l dc_CU_measureHeads_98 rfl ?_
    refine g_lrem dc_CU_measureHeads_99 rfl (z3 c1) ?_
    refine g_ldc2 (v := 5342931457063200) kl_CU_129 dc_CU_measureHeads_100 rfl ?_
    refine g_iload dc_CU_measureHeads_103 rfl rfl ?_
    refine g_i2l dc_CU_measureHeads_105 rfl ?_
    refine g_ldiv dc_CU_measureHeads_106 rfl (z3 c1) ?_
    refine g_lmul dc_CU_measureHeads_107 rfl ?_
    refine g_goto (tgt := 112) dc_CU_measureHeads_108 (by decide) ?_
    refine g_weak [some (.ref 33), some (.ref o1), some (.ref o2), some (.int x3), some (.int x4), none, none, none, none] ⟨rfl, ⟨rfl, ⟨rfl, ⟨rfl, ⟨rfl, trivial⟩⟩⟩⟩⟩ ?_
    exact (k4 c1)
theorem w_CU_measureHeads_112 {G : GC} {d : Nat} {P : PT} {I : MI} {J : MJ} {o1 : Nat} (h1 : PtsAt o1) {o2 : Nat} (h2 : MesAt o2) {x3 : Int32} {x4 : Int32} {y1 : Int32} {s2 : Int64} (b1 : vp_in y1 40) (k2 : Go G (fr G m_CU_measureHeads (d + 3) P) 7 [some (.ref 33), some (.ref o1), some (.ref o2), some (.int x3), some (.int (x4 + 1)), none, none, none, none] [] I (u2 J 47 y1.toNatClampNeg s2)) : Go G (fr G m_CU_measureHeads (d + 3) P) 112 [some (.ref 33), some (.ref o1), some (.ref o2), some (.int x3), some (.int x4), none, none, none, none] [.long s2, .int y1, .ref 47] I J := by
  refine g_last sh_47 b1 dc_CU_measureHeads_112 rfl ?_
  refine g_iinc (v := (x4 + 1)) (L' := [some (.ref 33), some (.ref o1), some (.ref o2), some (.int x3), some (.int (x4 + 1)), none, none, none, none]) dc_CU_measureHeads_113 rfl rfl (by rw [show Int32.ofInt 1 = 1 from by decide]) (Nat.le_of_ble_eq_true rfl) rfl ?_
  refine g_goto (tgt := 7) dc_CU_measureHeads_116 (by decide) ?_
  exact k2
theorem dc_CU_measureOver_0 : decode prog_5_method_2_code 0 = .ok (.aload_n 0, 1) := by decide +kernel
theorem dc_CU_measureOver_1 : decode prog_5_method_2_code 1 = .ok (.getfield 24, 3) := by decide +kernel
theorem dc_CU_measureOver_4 : decode prog_5_method_2_code 4 = .ok (.iload_n 2, 1) := by decide +kernel
theorem dc_CU_measureOver_5 : decode prog_5_method_2_code 5 = .ok (.aaload, 1) := by decide +kernel
theorem dc_CU_measureOver_6 : decode prog_5_method_2_code 6 = .ok (.astore 5, 2) := by decide +kernel
theorem dc_CU_measureOver_8 : decode prog_5_method_2_code 8 = .ok (.aload 5, 2) := by decide +kernel
theorem dc_CU_measureOver_10 : decode prog_5_method_2_code 10 = .ok (.invokevirtual 54, 3) := by decide +kernel
theorem dc_CU_measureOver_13 : decode prog_5_method_2_code 13 = .ok (.iload_n 3, 1) := by decide +kernel
theorem dc_CU_measureOver_14 : decode prog_5_method_2_code 14 = .ok (.istore 6, 2) := by decide +kernel
theorem dc_CU_measureOver_16 : decode prog_5_method_2_code 16 = .ok (.iload 6, 2) := by decide +kernel
theorem dc_CU_measureOver_18 : decode prog_5_method_2_code 18 = .ok (.iload 4, 2) := by decide +kernel
theorem dc_CU_measureOver_20 : decode prog_5_method_2_code 20 = .ok (.if_icmp .gt 17, 3) := by decide +kernel
theorem dc_CU_measureOver_23 : decode prog_5_method_2_code 23 = .ok (.aload 5, 2) := by decide +kernel
theorem dc_CU_measureOver_25 : decode prog_5_method_2_code 25 = .ok (.aload_n 1, 1) := by decide +kernel
theorem dc_CU_measureOver_26 : decode prog_5_method_2_code 26 = .ok (.iload 6, 2) := by decide +kernel
theorem dc_CU_measureOver_28 : decode prog_5_method_2_code 28 = .ok (.invokevirtual 57, 3) := by decide +kernel
theorem dc_CU_measureOver_31 : decode prog_5_method_2_code 31 = .ok (.iinc 6 1, 3) := by decide +kernel
theorem dc_CU_measureOver_34 : decode prog_5_method_2_code 34 = .ok (.goto (-18), 3) := by decide +kernel
theorem dc_CU_measureOver_37 : decode prog_5_method_2_code 37 = .ok (.aload 5, 2) := by decide +kernel
theorem dc_CU_measureOver_39 : decode prog_5_method_2_code 39 = .ok (.areturn, 1) := by decide +kernel
theorem w_CU_measureOver_0 {G : GC} {d : Nat} {P : PT} {I : MI} {J : MJ} {o1 : Nat} (h1 : PtsAt o1) {x2 : Int32} {x3 : Int32} {x4 : Int32} (b1 : vp_in x2 4) (k2 : Ct G (d + 2) (mesM (mcl x2.toNatClampNeg) m_SU_restart m_MI_restart m_ON_restart) [.ref (mcl x2.toNatClampNeg)] (fun r I' J' => Go G (fr G m_CU_measureOver (d + 3) P) 13 [none, some (.ref o1), none, some (.int x3), some (.int x4), some (.ref (mcl x2.toNatClampNeg)), none] (r.toList ++ []) I' J') I J) : Go G (fr G m_CU_measureOver (d + 3) P) 0 [some (.ref 33), some (.ref o1), some (.int x2), some (.int x3), some (.int x4), none, none] [] I J := by
  refine g_aload_n dc_CU_measureOver_0 rfl rfl rfl ?_
  refine g_get (C := "LevelBreaks$Cuts") (T := T_CU) (N := 13) (k := 0) (v := .ref 34) sh_33 (by decide) rfl rfl i_CU (by decide) fl_CU_24 (Or.inl rfl) rfl dc_CU_measureOver_1 rfl ?_
  refine g_iload_n dc_CU_measureOver_4 rfl rfl rfl ?_
  refine g_aald (r := (mcl x2.toNatClampNeg)) sh_34 (by decide) rfl b1 (mea_at (vin_lt b1)) dc_CU_measureOver_5 rfl ?_
  refine g_astore (L' := [some (.ref 33), some (.ref o1), some (.int x2), some (.int x3), some (.int x4), some (.ref (mcl x2.toNatClampNeg)), none]) dc_CU_measureOver_6 rfl (Nat.le_of_ble_eq_true rfl) rfl ?_
  refine g_aload dc_CU_measureOver_8 rfl rfl ?_
  refine g_weak [none, some (.ref o1), none, some (.int x3), some (.int x4), some (.ref (mcl x2.toNatClampNeg)), none] ⟨rfl, ⟨rfl, ⟨rfl, ⟨rfl, trivial⟩⟩⟩⟩ ?_
  exact g_callM_restart (As := []) (rest := []) (mes_at _) ml_CU_54 rfl rfl (Nat.le_of_ble_eq_true rfl) dc_CU_measureOver_10 rfl rOk_fr k2
theorem w_CU_measureOver_13 {G : GC} {d : Nat} {P : PT} {I : MI} {J : MJ} {o1 : Nat} (h1 : PtsAt o1) {x3 : Int32} {x4 : Int32} {o5 : Nat} (h5 : MesAt o5) (k1 : Go G (fr G m_CU_measureOver (d + 3) P) 16 [none, some (.ref o1), none, none, some (.int x4), some (.ref o5), some (.int x3)] [] I J) : Go G (fr G m_CU_measureOver (d + 3) P) 13 [none, some (.ref o1), none, some (.int x3), some (.int x4), some (.ref o5), none] [] I J := by
  refine g_iload_n dc_CU_measureOver_13 rfl rfl rfl ?_
  refine g_istore (L' := [none, some (.ref o1), none, some (.int x3), some (.int x4), some (.ref o5), some (.int x3)]) dc_CU_measureOver_14 rfl (Nat.le_of_ble_eq_true rfl) rfl ?_
  refine g_weak [none, some (.ref o1), none, none, some (.int x4), some (.ref o5), some (.int x3)] ⟨rfl, ⟨rfl, ⟨rfl, ⟨rfl, trivial⟩⟩⟩⟩ ?_
  exact k1
theorem w_CU_measureOver_16 {G : GC} {d : Nat} {P : PT} {I : MI} {J : MJ} {o1 : Nat} (h1 : PtsAt o1) {x4 : Int32} {o5 : Nat} (h5 : MesAt o5) {x6 : Int32} (q1 : (x4 < x6) → P (some (.ref o5)) I J) (k2 : (¬ (x4 < x6)) → Ct G (d + 2) (mesM o5 m_SU_extend m_MI_extend m_ON_extend) [.ref o5, .ref o1, .int x6] (fun r I' J' => Go G (fr G m_CU_measureOver (d + 3) P) 31 [none, some (.ref o1), none, none, some (.int x4), some (.ref o5), some (.int x6)] (r.toList ++ []) I' J') I J) : Go G (fr G m_CU_measureOver (d + 3) P) 16 [none, some (.ref o1), none, none, some (.int x4), some (.ref o5), some (.int x6)] [] I J := by
  refine g_iload dc_CU_measureOver_16 rfl rfl ?_
  refine g_iload dc_CU_measureOver_18 rfl rfl ?_
  refine g_ic_gt (tgt := 37) dc_CU_measureOver_20 rfl (by decide) (fun c1 => ?_) (fun c1 => ?_)
  · refine g_aload dc_CU_measureOver_37 rfl rfl ?_
    exact g_aret rfl dc_CU_measureOver_39 (q1 c1)
  · refine g_aload dc_CU_measureOver_23 rfl rfl ?_
    refine g_aload_n dc_CU_measureOver_25 rfl rfl rfl ?_
    refine g_iload dc_CU_measureOver_26 rfl rfl ?_
    exact g_callM_extend (As := [.ref o1, .int x6]) (rest := []) h5 ml_CU_57 rfl rfl (Nat.le_of_ble_eq_true rfl) dc_CU_measureOver_28 rfl rOk_fr (k2 c1)
theorem w_CU_measureOver_31 {G : GC} {d : Nat} {P : PT} {I : MI} {J : MJ} {o1 : Nat} (h1 : PtsAt o1) {x4 : Int32} {o5 : Nat} (h5 : MesAt o5) {x6 : Int32} (k1 : Go G (fr G m_CU_measureOver (d + 3) P) 16 [none, some (.ref o1), none, none, some (.int x4), some (.ref o5), some (.int (x6 + 1))] [] I J) : Go G (fr G m_CU_measureOver (d + 3) P) 31 [none, some (.ref o1), none, none, some (.int x4), some (.ref o5), some (.int x6)] [] I J := by
  refine g_iinc (v := (x6 + 1)) (L' := [none, some (.ref o1), none, none, some (.int x4), some (.ref o5), some (.int (x6 + 1))]) dc_CU_measureOver_31 rfl rfl (by rw [show Int32.ofInt 1 = 1 from by decide]) (Nat.le_of_ble_eq_true rfl) rfl ?_
  refine g_goto (tgt := 16) dc_CU_measureOver_34 (by decide) ?_
  exact k1
theorem dc_CU_offer_0 : decode prog_5_method_11_code 0 = .ok (.iload 6, 2) := by decide +kernel
theorem dc_CU_offer_2 : decode prog_5_method_11_code 2 = .ok (.iconst 1, 1) := by decide +kernel
theorem dc_CU_offer_3 : decode prog_5_method_11_code 3 = .ok (.if_icmp .ge 4, 3) := by decide +kernel
theorem dc_CU_offer_6 : decode prog_5_method_11_code 6 = .ok (.return_, 1) := by decide +kernel
theorem dc_CU_offer_7 : decode prog_5_method_11_code 7 = .ok (.lload 4, 2) := by decide +kernel
theorem dc_CU_offer_9 : decode prog_5_method_11_code 9 = .ok (.iload 6, 2) := by decide +kernel
theorem dc_CU_offer_11 : decode prog_5_method_11_code 11 = .ok (.i2l, 1) := by decide +kernel
theorem dc_CU_offer_12 : decode prog_5_method_11_code 12 = .ok (.ldiv, 1) := by decide +kernel
theorem dc_CU_offer_13 : decode prog_5_method_11_code 13 = .ok (.lstore 8, 2) := by decide +kernel
theorem dc_CU_offer_15 : decode prog_5_method_11_code 15 = .ok (.lload 4, 2) := by decide +kernel
theorem dc_CU_offer_17 : decode prog_5_method_11_code 17 = .ok (.iload 6, 2) := by decide +kernel
theorem dc_CU_offer_19 : decode prog_5_method_11_code 19 = .ok (.i2l, 1) := by decide +kernel
theorem dc_CU_offer_20 : decode prog_5_method_11_code 20 = .ok (.lrem, 1) := by decide +kernel
theorem dc_CU_offer_21 : decode prog_5_method_11_code 21 = .ok (.ldc2_w 129, 3) := by decide +kernel
theorem dc_CU_offer_24 : decode prog_5_method_11_code 24 = .ok (.iload 6, 2) := by decide +kernel
theorem dc_CU_offer_26 : decode prog_5_method_11_code 26 = .ok (.i2l, 1) := by decide +kernel
theorem dc_CU_offer_27 : decode prog_5_method_11_code 27 = .ok (.ldiv, 1) := by decide +kernel
theorem dc_CU_offer_28 : decode prog_5_method_11_code 28 = .ok (.lmul, 1) := by decide +kernel
theorem dc_CU_offer_29 : decode prog_5_method_11_code 29 = .ok (.lstore 10, 2) := by decide +kernel
theorem dc_CU_offer_31 : decode prog_5_method_11_code 31 = .ok (.iload_n 1, 1) := by decide +kernel
theorem dc_CU_offer_32 : decode prog_5_method_11_code 32 = .ok (.ifCond .ne 10, 3) := by decide +kernel
theorem dc_CU_offer_35 : decode prog_5_method_11_code 35 = .ok (.aload_n 0, 1) := by decide +kernel
theorem dc_CU_offer_36 : decode prog_5_method_11_code 36 = .ok (.getfield 113, 3) := by decide +kernel
theorem dc_CU_offer_39 : decode prog_5_method_11_code 39 = .ok (.goto 9, 3) := by decide +kernel
theorem dc_CU_offer_42 : decode prog_5_method_11_code 42 = .ok (.aload_n 0, 1) := by decide +kernel
theorem dc_CU_offer_43 : decode prog_5_method_11_code 43 = .ok (.getfield 113, 3) := by decide +kernel
theorem dc_CU_offer_46 : decode prog_5_method_11_code 46 = .ok (.iconst 1, 1) := by decide +kernel
theorem dc_CU_offer_47 : decode prog_5_method_11_code 47 = .ok (.isub, 1) := by decide +kernel
theorem dc_CU_offer_48 : decode prog_5_method_11_code 48 = .ok (.istore 12, 2) := by decide +kernel
theorem dc_CU_offer_50 : decode prog_5_method_11_code 50 = .ok (.iconst 1, 1) := by decide +kernel
theorem dc_CU_offer_51 : decode prog_5_method_11_code 51 = .ok (.istore 13, 2) := by decide +kernel
theorem dc_CU_offer_53 : decode prog_5_method_11_code 53 = .ok (.iconst 0, 1) := by decide +kernel
theorem dc_CU_offer_54 : decode prog_5_method_11_code 54 = .ok (.istore 14, 2) := by decide +kernel
theorem dc_CU_offer_56 : decode prog_5_method_11_code 56 = .ok (.iload 14, 2) := by decide +kernel
theorem dc_CU_offer_58 : decode prog_5_method_11_code 58 = .ok (.iload_n 3, 1) := by decide +kernel
theorem dc_CU_offer_59 : decode prog_5_method_11_code 59 = .ok (.iadd, 1) := by decide +kernel
theorem dc_CU_offer_60 : decode prog_5_method_11_code 60 = .ok (.aload_n 0, 1) := by decide +kernel
theorem dc_CU_offer_61 : decode prog_5_method_11_code 61 = .ok (.getfield 116, 3) := by decide +kernel
theorem dc_CU_offer_64 : decode prog_5_method_11_code 64 = .ok (.if_icmp .gt 88, 3) := by decide +kernel
theorem dc_CU_offer_67 : decode prog_5_method_11_code 67 = .ok (.iconst 1, 1) := by decide +kernel
theorem dc_CU_offer_68 : decode prog_5_method_11_code 68 = .ok (.istore 15, 2) := by decide +kernel
theorem dc_CU_offer_70 : decode prog_5_method_11_code 70 = .ok (.iload 15, 2) := by decide +kernel
theorem dc_CU_offer_72 : decode prog_5_method_11_code 72 = .ok (.iload 12, 2) := by decide +kernel
theorem dc_CU_offer_74 : decode prog_5_method_11_code 74 = .ok (.if_icmp .gt 65, 3) := by decide +kernel
theorem dc_CU_offer_77 : decode prog_5_method_11_code 77 = .ok (.iload 14, 2) := by decide +kernel
theorem dc_CU_offer_79 : decode prog_5_method_11_code 79 = .ok (.iload 15, 2) := by decide +kernel
theorem dc_CU_offer_81 : decode prog_5_method_11_code 81 = .ok (.iconst 1, 1) := by decide +kernel
theorem dc_CU_offer_82 : decode prog_5_method_11_code 82 = .ok (.isub, 1) := by decide +kernel
theorem dc_CU_offer_83 : decode prog_5_method_11_code 83 = .ok (.iload_n 2, 1) := by decide +kernel
theorem dc_CU_offer_84 : decode prog_5_method_11_code 84 = .ok (.iconst 1, 1) := by decide +kernel
theorem dc_CU_offer_85 : decode prog_5_method_11_code 85 = .ok (.iadd, 1) := by decide +kernel
theorem dc_CU_offer_86 : decode prog_5_method_11_code 86 = .ok (.invokestatic 122, 3) := by decide +kernel
theorem dc_CU_offer_89 : decode prog_5_method_11_code 89 = .ok (.istore 16, 2) := by decide +kernel
theorem dc_CU_offer_91 : decode prog_5_method_11_code 91 = .ok (.aload_n 0, 1) := by decide +kernel
theorem dc_CU_offer_92 : decode prog_5_method_11_code 92 = .ok (.getfield 28, 3) := by decide +kernel
theorem dc_CU_offer_95 : decode prog_5_method_11_code 95 = .ok (.iload 16, 2) := by decide +kernel
theorem dc_CU_offer_97 : decode prog_5_method_11_code 97 = .ok (.laload, 1) := by decide +kernel
theorem dc_CU_offer_98 : decode prog_5_method_11_code 98 = .ok (.ldc2_w 95, 3) := by decide +kernel
theorem dc_CU_offer_101 : decode prog_5_method_11_code 101 = .ok (.lcmp, 1) := by decide +kernel
theorem dc_CU_offer_102 : decode prog_5_method_11_code 102 = .ok (.ifCond .eq 31, 3) := by decide +kernel
theorem dc_CU_offer_105 : decode prog_5_method_11_code 105 = .ok (.aload_n 0, 1) := by decide +kernel
theorem dc_CU_offer_106 : decode prog_5_method_11_code 106 = .ok (.iload 14, 2) := by decide +kernel
theorem dc_CU_offer_108 : decode prog_5_method_11_code 108 = .ok (.iload_n 3, 1) := by decide +kernel
theorem dc_CU_offer_109 : decode prog_5_method_11_code 109 = .ok (.iadd, 1) := by decide +kernel
theorem dc_CU_offer_110 : decode prog_5_method_11_code 110 = .ok (.iload 15, 2) := by decide +kernel
theorem dc_CU_offer_112 : decode prog_5_method_11_code 112 = .ok (.iload_n 1, 1) := by decide +kernel
theorem dc_CU_offer_113 : decode prog_5_method_11_code 113 = .ok (.invokestatic 122, 3) := by decide +kernel
theorem dc_CU_offer_116 : decode prog_5_method_11_code 116 = .ok (.iload 16, 2) := by decide +kernel
theorem dc_CU_offer_118 : decode prog_5_method_11_code 118 = .ok (.lload 8, 2) := by decide +kernel
theorem dc_CU_offer_120 : decode prog_5_method_11_code 120 = .ok (.lload 10, 2) := by decide +kernel
theorem dc_CU_offer_122 : decode prog_5_method_11_code 122 = .ok (.iload 7, 2) := by decide +kernel
theorem dc_CU_offer_124 : decode prog_5_method_11_code 124 = .ok (.iload 13, 2) := by decide +kernel
theorem dc_CU_offer_126 : decode prog_5_method_11_code 126 = .ok (.imul, 1) := by decide +kernel
theorem dc_CU_offer_127 : decode prog_5_method_11_code 127 = .ok (.iload_n 2, 1) := by decide +kernel
theorem dc_CU_offer_128 : decode prog_5_method_11_code 128 = .ok (.iconst 1, 1) := by decide +kernel
theorem dc_CU_offer_129 : decode prog_5_method_11_code 129 = .ok (.iadd, 1) := by decide +kernel
theorem dc_CU_offer_130 : decode prog_5_method_11_code 130 = .ok (.invokevirtual 131, 3) := by decide +kernel
theorem dc_CU_offer_133 : decode prog_5_method_11_code 133 = .ok (.iinc 15 1, 3) := by decide +kernel
theorem dc_CU_offer_136 : decode prog_5_method_11_code 136 = .ok (.goto (-66), 3) := by decide +kernel
theorem dc_CU_offer_139 : decode prog_5_method_11_code 139 = .ok (.iload 13, 2) := by decide +kernel
theorem dc_CU_offer_141 : decode prog_5_method_11_code 141 = .ok (.bipush 40, 2) := by decide +kernel
theorem dc_CU_offer_143 : decode prog_5_method_11_code 143 = .ok (.imul, 1) := by decide +kernel
theorem dc_CU_offer_144 : decode prog_5_method_11_code 144 = .ok (.istore 13, 2) := by decide +kernel
theorem dc_CU_offer_146 : decode prog_5_method_11_code 146 = .ok (.iinc 14 1, 3) := by decide +kernel
theorem dc_CU_offer_149 : decode prog_5_method_11_code 149 = .ok (.goto (-93), 3) := by decide +kernel
theorem dc_CU_offer_152 : decode prog_5_method_11_code 152 = .ok (.return_, 1) := by decide +kernel
theorem w_CU_offer_0 {G : GC} {d : Nat} {P : PT} {I : MI} {J : MJ} {x1 : Int32} {x2 : Int32} {x3 : Int32} {l4 : Int64} {x6 : Int32} {x7 : Int32} (z1 : (1 ≤ x6) → ¬ (Int32.toInt64 x6) = 0) (k2 : (1 ≤ x6) → (¬ x1 = 0) → Go G (fr G m_CU_offer (d + 2) P) 48 [some (.ref 33), some (.int x1), some (.int x2), some (.int x3), none, none, none, some (.int x7), some (.long (l4 / (Int32.toInt64 x6))), none, some (.long ((l4 - l4 / (Int32.toInt64 x6) * (Int32.toInt64 x6)) * (5342931457063200 / (Int32.toInt64 x6)))), none, none, none, none, none, none] [.int ((I 33 8) - 1)] I J) (k3 : (1 ≤ x6) → (x1 = 0) → Go G (fr G m_CU_offer (d + 2) P) 48 [some (.ref 33), some (.int x1), some (.int x2), some (.int x3), none, none, none, some (.int x7), some (.long (l4 / (Int32.toInt64 x6))), none, some (.long ((l4 - l4 / (Int32.toInt64 x6) * (Int32.toInt64 x6)) * (5342931457063200 / (Int32.toInt64 x6)))), none, none, none, none, none, none] [.int (I 33 8)] I J) (q4 : (¬ (1 ≤ x6)) → P none I J) : Go G (fr G m_CU_offer (d + 2) P) 0 [some (.ref 33), some (.int x1), some (.int x2), some (.int x3), some (.long l4), none, some (.int x6), some (.int x7), none, none, none, none, none, none, none, none, none] [] I J := by
  refine g_iload dc_CU_offer_0 rfl rfl ?_
  refine g_iconst (v := 1) dc_CU_offer_2 rfl (by decide) ?_
  refine g_ic_ge (tgt := 7) dc_CU_offer_3 rfl (by decide) (fun c1 => ?_) (fun c1 => ?_)
  · refine g_lload dc_CU_offer_7 rfl rfl ?_
    refine g_iload dc_CU_offer_9 rfl rfl ?_
    refine g_i2l dc_CU_offer_11 rfl ?_
    refine g_ldiv dc_CU_offer_12 rfl (z1 c1) ?_
    refine g_lstore (L' := [some (.ref 33), some (.int x1), some (.int x2), some (.int x3), some (.long l4), none, some (.int x6), some (.int x7), some (.long (l4 / (Int32.toInt64 x6))), none, none, none, none, none, none, none, none]) dc_CU_offer_13 rfl (Nat.le_of_ble_eq_true rfl) rfl ?_
    refine g_lload dc_CU_offer_15 rfl rfl ?_
    refine g_iload dc_CU_offer_17 rfl rfl ?_
    refine g_i2l dc_CU_offer_19 rfl ?_
    refine g_lrem dc_CU_offer_20 rfl (z1 c1) ?_
    refine g_ldc2 (v := 5342931457063200) kl_CU_129 dc_CU_offer_21 rfl ?_
    refine g_iload dc_CU_offer_24 rfl rfl ?_
    refine g_i2l dc_CU_offer_26 rfl ?_
    refine g_ldiv dc_CU_offer_27 rfl (z1 c1) ?_
    refine g_lmul dc_CU_offer_28 rfl ?_
    refine g_lstore (L' := [some (.ref 33), some (.int x1), some (.int x2), some (.int x3), some (.long l4), none, some (.int x6), some (.int x7), some (.long (l4 / (Int32.toInt64 x6))), none, some (.long ((l4 - l4 / (Int32.toInt64 x6) * (Int32.toInt64 x6)) * (5342931457063200 / (Int32.toInt64 x6)))), none, none, none, none, none, none]) dc_CU_offer_29 rfl (Nat.le_of_ble_eq_true rfl) rfl ?_
    refine g_iload_n dc_CU_offer_31 rfl rfl rfl ?_
    refine g_if_ne (tgt := 42) dc_CU_offer_32 rfl (by decide) (fun c2 => ?_) (fun c2 => ?_)
    · refine g_aload_n dc_CU_offer_42 rfl rfl rfl ?_
      refine g_get (C := "LevelBreaks$Cuts") (T := T_CU) (N := 13) (k := 8) (v := .int (I 33 8)) sh_33 (by decide) rfl rfl i_CU (by decide) fl_CU_113 (Or.inl rfl) rfl dc_CU_offer_43 rfl ?_
      refine g_iconst (v := 1) dc_CU_offer_46 rfl (by decide) ?_
      refine g_isub dc_CU_offer_47 rfl ?_
      refine g_weak [some (.ref 33), some (.int x1), some (.int x2), some (.int x3), none, none, none, some (.int x7), some (.long (l4 / (Int32.toInt64 x6))), none, some (.long ((l4 - l4 / (Int32.toInt64 x6) * (Int32.toInt64 x6)) * (5342931457063200 / (Int32.toInt64 x6)))), none, none, none, none, none, none] ⟨rfl, ⟨rfl, ⟨rfl, ⟨rfl, ⟨rfl, ⟨rfl, ⟨rfl, trivial⟩⟩⟩⟩⟩⟩⟩ ?_
      exact (k2 c1 c2)
    · refine g_aload_n dc_CU_offer_35 rfl rfl rfl ?_
      refine g_get (C := "LevelBreaks$Cuts") (T := T_CU) (N := 13) (k := 8) (v := .int (I 33 8)) sh_33 (by decide) rfl rfl i_CU (by decide) fl_CU_113 (Or.inl rfl) rfl dc_CU_offer_36 rfl ?_
      refine g_goto (tgt := 48) dc_CU_offer_39 (by decide) ?_
      refine g_weak [some (.ref 33), some (.int x1), some (.int x2), some (.int x3), none, none, none, some (.int x7), some (.long (l4 / (Int32.toInt64 x6))), none, some (.long ((l4 - l4 / (Int32.toInt64 x6) * (Int32.toInt64 x6)) * (5342931457063200 / (Int32.toInt64 x6)))), none, none, none, none, none, none] ⟨rfl, ⟨rfl, ⟨rfl, ⟨rfl, ⟨rfl, ⟨rfl, ⟨rfl, trivial⟩⟩⟩⟩⟩⟩⟩ ?_
      exact (k3 c1 c2)
  · exact g_vret rfl dc_CU_offer_6 (q4 c1)
theorem w_CU_offer_48 {G : GC} {d : Nat} {P : PT} {I : MI} {J : MJ} {x1 : Int32} {x2 : Int32} {x3 : Int32} {x7 : Int32} {l8 : Int64} {l10 : Int64} {y0 : Int32} (k1 : Go G (fr G m_CU_offer (d + 2) P) 56 [some (.ref 33), some (.int x1), some (.int x2), some (.int x3), none, none, none, some (.int x7), some (.long l8), none, some (.long l10), none, some (.int y0), some (.int 1), some (.int 0), none, none] [] I J) : Go G (fr G m_CU_offer (d + 2) P) 48 [some (.ref 33), some (.int x1), some (.int x2), some (.int x3), none, none, none, some (.int x7), some (.long l8), none, some (.long l10), none, none, none, none, none, none] [.int y0] I J := by
  refine g_istore (L' := [some (.ref 33), some (.int x1), some (.int x2), some (.int x3), none, none, none, some (.int x7), some (.long l8), none, some (.long l10), none, some (.int y0), none, none, none, none]) dc_CU_offer_48 rfl (Nat.le_of_ble_eq_true rfl) rfl ?_
  refine g_iconst (v := 1) dc_CU_offer_50 rfl (by decide) ?_
  refine g_istore (L' := [some (.ref 33), some (.int x1), some (.int x2), some (.int x3), none, none, none, some (.int x7), some (.long l8), none, some (.long l10), none, some (.int y0), some (.int 1), none, none, none]) dc_CU_offer_51 rfl (Nat.le_of_ble_eq_true rfl) rfl ?_
  refine g_iconst (v := 0) dc_CU_offer_53 rfl (by decide) ?_
  refine g_istore (L' := [some (.ref 33), some (.int x1), some (.int x2), some (.int x3), none, none, none, some (.int x7), some (.long l8), none, some (.long l10), none, some (.int y0), some (.int 1), some (.int 0), none, none]) dc_CU_offer_54 rfl (Nat.le_of_ble_eq_true rfl) rfl ?_
  exact k1
theorem w_CU_offer_56 {G : GC} {d : Nat} {P : PT} {I : MI} {J : MJ} {x1 : Int32} {x2 : Int32} {x3 : Int32} {x7 : Int32} {l8 : Int64} {l10 : Int64} {x12 : Int32} {x13 : Int32} {x14 : Int32} (q1 : ((I 33 9) < (x14 + x3)) → P none I J) (k2 : (¬ ((I 33 9) < (x14 + x3))) → Go G (fr G m_CU_offer (d + 2) P) 70 [some (.ref 33), some (.int x1), some (.int x2), some (.int x3), none, none, none, some (.int x7), some (.long l8), none, some (.long l10), none, some (.int x12), some (.int x13), some (.int x14), some (.int 1), none] [] I J) : Go G (fr G m_CU_offer (d + 2) P) 56 [some (.ref 33), some (.int x1), some (.int x2), some (.int x3), none, none, none, some (.int x7), some (.long l8), none, some (.long l10), none, some (.int x12), some (.int x13), some (.int x14), none, none] [] I J := by
  refine g_iload dc_CU_offer_56 rfl rfl ?_
  refine g_iload_n dc_CU_offer_58 rfl rfl rfl ?_
  refine g_iadd dc_CU_offer_59 rfl ?_
  refine g_aload_n dc_CU_offer_60 rfl rfl rfl ?_
  refine g_get (C := "LevelBreaks$Cuts") (T := T_CU) (N := 13) (k := 9) (v := .int (I 33 9)) sh_33 (by decide) rfl rfl i_CU (by decide) fl_CU_116 (Or.inl rfl) rfl dc_CU_offer_61 rfl ?_
  refine g_ic_gt (tgt := 152) dc_CU_offer_64 rfl (by decide) (fun c1 => ?_) (fun c1 => ?_)
  · exact g_vret rfl dc_CU_offer_152 (q1 c1)
  · refine g_iconst (v := 1) dc_CU_offer_67 rfl (by decide) ?_
    refine g_istore (L' := [some (.ref 33), some (.int x1), some (.int x2), some (.int x3), none, none, none, some (.int x7), some (.long l8), none, some (.long l10), none, some (.int x12), some (.int x13), some (.int x14), some (.int 1), none]) dc_CU_offer_68 rfl (Nat.le_of_ble_eq_true rfl) rfl ?_
    exact (k2 c1)
theorem w_CU_offer_70 {G : GC} {d : Nat} {P : PT} {I : MI} {J : MJ} {x1 : Int32} {x2 : Int32} {x3 : Int32} {x7 : Int32} {l8 : Int64} {l10 : Int64} {x12 : Int32} {x13 : Int32} {x14 : Int32} {x15 : Int32} (k1 : (x12 < x15) → Go G (fr G m_CU_offer (d + 2) P) 56 [some (.ref 33), some (.int x1), some (.int x2), some (.int x3), none, none, none, some (.int x7), some (.long l8), none, some (.long l10), none, some (.int x12), some (.int (x13 * 40)), some (.int (x14 + 1)), none, none] [] I J) (b2 : (¬ (x12 < x15)) → vp_in (f_CU_at x14 (x15 - 1) (x2 + 1)) 861) (k3 : (¬ (x12 < x15)) → ((J 42 (f_CU_at x14 (x15 - 1) (x2 + 1)).toNatClampNeg) = (-1)) → Go G (fr G m_CU_offer (d + 2) P) 133 [some (.ref 33), some (.int x1), some (.int x2), some (.int x3), none, none, none, some (.int x7), some (.long l8), none, some (.long l10), none, some (.int x12), some (.int x13), some (.int x14), some (.int x15), none] [] I J) (k4 : (¬ (x12 < x15)) → (¬ ((J 42 (f_CU_at x14 (x15 - 1) (x2 + 1)).toNatClampNeg) = (-1))) → Ct G (d + 1) m_CU_keepIfBetter [.ref 33, .int (f_CU_at (x14 + x3) x15 x1), .int (f_CU_at x14 (x15 - 1) (x2 + 1)), .long l8, .long l10, .int (x7 * x13), .int (x2 + 1)] (fun r I' J' => Go G (fr G m_CU_offer (d + 2) P) 133 [some (.ref 33), some (.int x1), some (.int x2), some (.int x3), none, none, none, some (.int x7), some (.long l8), none, some (.long l10), none, some (.int x12), some (.int x13), some (.int x14), some (.int x15), none] (r.toList ++ []) I' J') I J) : Go G (fr G m_CU_offer (d + 2) P) 70 [some (.ref 33), some (.int x1), some (.int x2), some (.int x3), none, none, none, some (.int x7), some (.long l8), none, some (.long l10), none, some (.int x12), some (.int x13), some (.int x14), some (.int x15), none] [] I J := by
  refine g_iload dc_CU_offer_70 rfl rfl ?_
  refine g_iload dc_CU_offer_72 rfl rfl ?_
  refine g_ic_gt (tgt := 139) dc_CU_offer_74 rfl (by decide) (fun c1 => ?_) (fun c1 => ?_)
  · refine g_iload dc_CU_offer_139 rfl rfl ?_
    refine g_bipush (v := 40) dc_CU_offer_141 rfl (by decide) ?_
    refine g_imul dc_CU_offer_143 rfl ?_
    refine g_istore (L' := [some (.ref 33), some (.int x1), some (.int x2), some (.int x3), none, none, none, some (.int x7), some (.long l8), none, some (.long l10), none, some (.int x12), some (.int (x13 * 40)), some (.int x14), some (.int x15), none]) dc_CU_offer_144 rfl (Nat.le_of_ble_eq_true rfl) rfl ?_
    refine g_iinc (v := (x14 + 1)) (L' := [some (.ref 33), some (.int x1), some (.int x2), some (.int x3), none, none, none, some (.int x7), some (.long l8), none, some (.long l10), none, some (.int x12), some (.int (x13 * 40)), some (.int (x14 + 1)), some (.int x15), none]) dc_CU_offer_146 rfl rfl (by rw [show Int32.ofInt 1 = 1 from by decide]) (Nat.le_of_ble_eq_true rfl) rfl ?_
    refine g_goto (tgt := 56) dc_CU_offer_149 (by decide) ?_
    refine g_weak [some (.ref 33), some (.int x1), some (.int x2), some (.int x3), none, none, none, some (.int x7), some (.long l8), none, some (.long l10), none, some (.int x12), some (.int (x13 * 40)), some (.int (x14 + 1)), none, none] ⟨rfl, ⟨rfl, ⟨rfl, ⟨rfl, ⟨rfl, ⟨rfl, ⟨rfl, ⟨rfl, ⟨rfl, ⟨rfl, trivial⟩⟩⟩⟩⟩⟩⟩⟩⟩⟩ ?_
    exact (k1 c1)
  · refine g_iload dc_CU_offer_77 rfl rfl ?_
    refine g_iload dc_CU_offer_79 rfl rfl ?_
    refine g_iconst (v := 1) dc_CU_offer_81 rfl (by decide) ?_
    refine g_isub dc_CU_offer_82 rfl ?_
    refine g_iload_n dc_CU_offer_83 rfl rfl rfl ?_
    refine g_iconst (v := 1) dc_CU_offer_84 rfl (by decide) ?_
    refine g_iadd dc_CU_offer_85 rfl ?_
    refine g_callS (M := m_CU_at) (As := [.int x14, .int (x15 - 1), .int (x2 + 1)]) (rest := []) ok_CU_at st_CU_at ml_CU_122 rfl rfl (Nat.le_of_ble_eq_true rfl) dc_CU_offer_86 rfl rOk_fr (c_CU_at ?_)
    show Go G (fr G m_CU_offer (d + 2) P) 89 [some (.ref 33), some (.int x1), some (.int x2), some (.int x3), none, none, none, some (.int x7), some (.long l8), none, some (.long l10), none, some (.int x12), some (.int x13), some (.int x14), some (.int x15), none] [.int (f_CU_at x14 (x15 - 1) (x2 + 1))] I J
    refine g_istore (L' := [some (.ref 33), some (.int x1), some (.int x2), some (.int x3), none, none, none, some (.int x7), some (.long l8), none, some (.long l10), none, some (.int x12), some (.int x13), some (.int x14), some (.int x15), some (.int (f_CU_at x14 (x15 - 1) (x2 + 1)))]) dc_CU_offer_89 rfl (Nat.le_of_ble_eq_true rfl) rfl ?_
    refine g_aload_n dc_CU_offer_91 rfl rfl rfl ?_
    refine g_get (C := "LevelBreaks$Cuts") (T := T_CU) (N := 13) (k := 1) (v := .ref 42) sh_33 (by decide) rfl rfl i_CU (by decide) fl_CU_28 (Or.inl rfl) rfl dc_CU_offer_92 rfl ?_
    refine g_iload dc_CU_offer_95 rfl rfl ?_
    refine g_laldv (v := (J 42 (f_CU_at x14 (x15 - 1) (x2 + 1)).toNatClampNeg)) sh_42 (b2 c1) rfl dc_CU_offer_97 rfl ?_
    refine g_ldc2 (v := (-1)) kl_CU_95 dc_CU_offer_98 rfl ?_
    refine g_lc_eq (tgt := 133) dc_CU_offer_101 rfl dc_CU_offer_102 rfl (by decide) (fun c2 => ?_) (fun c2 => ?_)
    · refine g_weak [some (.ref 33), some (.int x1), some (.int x2), some (.int x3), none, none, none, some (.int x7), some (.long l8), none, some (.long l10), none, some (.int x12), some (.int x13), some (.int x14), some (.int x15), none] ⟨rfl, ⟨rfl, ⟨rfl, ⟨rfl, ⟨rfl, ⟨rfl, ⟨rfl, ⟨rfl, ⟨rfl, ⟨rfl, ⟨rfl, trivial⟩⟩⟩⟩⟩⟩⟩⟩⟩⟩⟩ ?_
      exact (k3 c1 c2)
    · refine g_aload_n dc_CU_offer_105 rfl rfl rfl ?_
      refine g_iload dc_CU_offer_106 rfl rfl ?_
      refine g_iload_n dc_CU_offer_108 rfl rfl rfl ?_
      refine g_iadd dc_CU_offer_109 rfl ?_
      refine g_iload dc_CU_offer_110 rfl rfl ?_
      refine g_iload_n dc_CU_offer_112 rfl rfl rfl ?_
      refine g_callS (M := m_CU_at) (As := [.int (x14 + x3), .int x15, .int x1]) (rest := [.ref 33]) ok_CU_at st_CU_at ml_CU_122 rfl rfl (Nat.le_of_ble_eq_true rfl) dc_CU_offer_113 rfl rOk_fr (c_CU_at ?_)
      show Go G (fr G m_CU_offer (d + 2) P) 116 [some (.ref 33), some (.int x1), some (.int x2), some (.int x3), none, none, none, some (.int x7), some (.long l8), none, some (.long l10), none, some (.int x12), some (.int x13), some (.int x14), some (.int x15), some (.int (f_CU_at x14 (x15 - 1) (x2 + 1)))] [.int (f_CU_at (x14 + x3) x15 x1), .ref 33] I J
      refine g_iload dc_CU_offer_116 rfl rfl ?_
      refine g_lload dc_CU_offer_118 rfl rfl ?_
      refine g_lload dc_CU_offer_120 rfl rfl ?_
      refine g_iload dc_CU_offer_122 rfl rfl ?_
      refine g_iload dc_CU_offer_124 rfl rfl ?_
      refine g_imul dc_CU_offer_126 rfl ?_
      refine g_iload_n dc_CU_offer_127 rfl rfl rfl ?_
      refine g_iconst (v := 1) dc_CU_offer_128 rfl (by decide) ?_
      refine g_iadd dc_CU_offer_129 rfl ?_
      refine g_weak [some (.ref 33), some (.int x1), some (.int x2), some (.int x3), none, none, none, some (.int x7), some (.long l8), none, some (.long l10), none, some (.int x12), some (.int x13), some (.int x14), some (.int x15), none] ⟨rfl, ⟨rfl, ⟨rfl, ⟨rfl, ⟨rfl, ⟨rfl, ⟨rfl, ⟨rfl, ⟨rfl, ⟨rfl, ⟨rfl, trivial⟩⟩⟩⟩⟩⟩⟩⟩⟩⟩⟩ ?_
      exact g_callV (T := T_CU) (N := 13) (As := [.int (f_CU_at (x14 + x3) x15 x1), .int (f_CU_at x14 (x15 - 1) (x2 + 1)), .long l8, .long l10, .int (x7 * x13), .int (x2 + 1)]) (rest := []) ok_CU_keepIfBetter in_CU_keepIfBetter se_CU_keepIfBetter ml_CU_131 sh_33 (by decide) rfl rfl rfl (Nat.le_of_ble_eq_true rfl) dc_CU_offer_130 rfl rOk_fr (k4 c1 c2)
theorem w_CU_offer_133 {G : GC} {d : Nat} {P : PT} {I : MI} {J : MJ} {x1 : Int32} {x2 : Int32} {x3 : Int32} {x7 : Int32} {l8 : Int64} {l10 : Int64} {x12 : Int32} {x13 : Int32} {x14 : Int32} {x15 : Int32} (k1 : Go G (fr G m_CU_offer (d + 2) P) 70 [some (.ref 33), some (.int x1), some (.int x2), some (.int x3), none, none, none, some (.int x7), some (.long l8), none, some (.long l10), none, some (.int x12), some (.int x13), some (.int x14), some (.int (x15 + 1)), none] [] I J) : Go G (fr G m_CU_offer (d + 2) P) 133 [some (.ref 33), some (.int x1), some (.int x2), some (.int x3), none, none, none, some (.int x7), some (.long l8), none, some (.long l10), none, some (.int x12), some (.int x13), some (.int x14), some (.int x15), none] [] I J := by
  refine g_iinc (v := (x15 + 1)) (L' := [some (.ref 33), some (.int x1), some (.int x2), some (.int x3), none, none, none, some (.int x7), some (.long l8), none, some (.long l10), none, some (.int x12), some (.int x13), some (.int x14), some (.int (x15 + 1)), none]) dc_CU_offer_133 rfl rfl (by rw [show Int32.ofInt 1 = 1 from by decide]) (Nat.le_of_ble_eq_true rfl) rfl ?_
  refine g_goto (tgt := 70) dc_CU_offer_136 (by decide) ?_
  exact k1
theorem dc_CU_offerWhole_0 : decode prog_5_method_8_code 0 = .ok (.aload_n 2, 1) := by decide +kernel
theorem dc_CU_offerWhole_1 : decode prog_5_method_8_code 1 = .ok (.getfield 108, 3) := by decide +kernel
theorem dc_CU_offerWhole_4 : decode prog_5_method_8_code 4 = .ok (.iload 5, 2) := by decide +kernel
theorem dc_CU_offerWhole_6 : decode prog_5_method_8_code 6 = .ok (.if_icmp .lt 24, 3) := by decide +kernel
theorem dc_CU_offerWhole_9 : decode prog_5_method_8_code 9 = .ok (.aload_n 0, 1) := by decide +kernel
theorem dc_CU_offerWhole_10 : decode prog_5_method_8_code 10 = .ok (.iload_n 3, 1) := by decide +kernel
theorem dc_CU_offerWhole_11 : decode prog_5_method_8_code 11 = .ok (.iload 4, 2) := by decide +kernel
theorem dc_CU_offerWhole_13 : decode prog_5_method_8_code 13 = .ok (.iconst 0, 1) := by decide +kernel
theorem dc_CU_offerWhole_14 : decode prog_5_method_8_code 14 = .ok (.aload_n 2, 1) := by decide +kernel
theorem dc_CU_offerWhole_15 : decode prog_5_method_8_code 15 = .ok (.aload_n 1, 1) := by decide +kernel
theorem dc_CU_offerWhole_16 : decode prog_5_method_8_code 16 = .ok (.iconst (-1), 1) := by decide +kernel
theorem dc_CU_offerWhole_17 : decode prog_5_method_8_code 17 = .ok (.iconst (-1), 1) := by decide +kernel
theorem dc_CU_offerWhole_18 : decode prog_5_method_8_code 18 = .ok (.invokevirtual 109, 3) := by decide +kernel
theorem dc_CU_offerWhole_21 : decode prog_5_method_8_code 21 = .ok (.aload_n 2, 1) := by decide +kernel
theorem dc_CU_offerWhole_22 : decode prog_5_method_8_code 22 = .ok (.iconst 0, 1) := by decide +kernel
theorem dc_CU_offerWhole_23 : decode prog_5_method_8_code 23 = .ok (.invokevirtual 126, 3) := by decide +kernel
theorem dc_CU_offerWhole_26 : decode prog_5_method_8_code 26 = .ok (.iconst 0, 1) := by decide +kernel
theorem dc_CU_offerWhole_27 : decode prog_5_method_8_code 27 = .ok (.invokevirtual 97, 3) := by decide +kernel
theorem dc_CU_offerWhole_30 : decode prog_5_method_8_code 30 = .ok (.return_, 1) := by decide +kernel
theorem w_CU_offerWhole_0 {G : GC} {d : Nat} {P : PT} {I : MI} {J : MJ} {o1 : Nat} (h1 : PtsAt o1) {o2 : Nat} (h2 : MesAt o2) {x3 : Int32} {x4 : Int32} {x5 : Int32} (k1 : ((I o2 0) < x5) → Go G (fr G m_CU_offerWhole (d + 3) P) 30 [none, none, none, none, none, none] [] I J) (k2 : (¬ ((I o2 0) < x5)) → Ct G (d + 2) (mesM o2 m_SU_above m_MI_above m_ON_above) [.ref o2, .ref o1, .int (-1), .int (-1)] (fun r I' J' => Go G (fr G m_CU_offerWhole (d + 3) P) 21 [none, none, some (.ref o2), none, none, none] (r.toList ++ [.int 0, .int x4, .int x3, .ref 33]) I' J') I J) : Go G (fr G m_CU_offerWhole (d + 3) P) 0 [some (.ref 33), some (.ref o1), some (.ref o2), some (.int x3), some (.int x4), some (.int x5)] [] I J := by
  refine g_aload_n dc_CU_offerWhole_0 rfl rfl rfl ?_
  refine g_getM (v := (I o2 0)) h2 fl_CU_108 rfl dc_CU_offerWhole_1 rfl ?_
  refine g_iload dc_CU_offerWhole_4 rfl rfl ?_
  refine g_ic_lt (tgt := 30) dc_CU_offerWhole_6 rfl (by decide) (fun c1 => ?_) (fun c1 => ?_)
  · refine g_weak [none, none, none, none, none, none] trivial ?_
    exact (k1 c1)
  · refine g_aload_n dc_CU_offerWhole_9 rfl rfl rfl ?_
    refine g_iload_n dc_CU_offerWhole_10 rfl rfl rfl ?_
    refine g_iload dc_CU_offerWhole_11 rfl rfl ?_
    refine g_iconst (v := 0) dc_CU_offerWhole_13 rfl (by decide) ?_
    refine g_aload_n dc_CU_offerWhole_14 rfl rfl rfl ?_
    refine g_aload_n dc_CU_offerWhole_15 rfl rfl rfl ?_
    refine g_iconst (v := (-1)) dc_CU_offerWhole_16 rfl (by decide) ?_
    refine g_iconst (v := (-1)) dc_CU_offerWhole_17 rfl (by decide) ?_
    refine g_weak [none, none, some (.ref o2), none, none, none] ⟨rfl, trivial⟩ ?_
    exact g_callM_above (As := [.ref o1, .int (-1), .int (-1)]) (rest := [.int 0, .int x4, .int x3, .ref 33]) h2 ml_CU_109 rfl rfl (Nat.le_of_ble_eq_true rfl) dc_CU_offerWhole_18 rfl rOk_fr (k2 c1)
theorem w_CU_offerWhole_21 {G : GC} {d : Nat} {P : PT} {I : MI} {J : MJ} {o2 : Nat} (h2 : MesAt o2) {y1 : Int32} {y2 : Int32} {y3 : Int32} {s4 : Int64} (k1 : Ct G (d + 2) (mesM o2 m_SU_below m_MI_below m_ON_below) [.ref o2, .int 0] (fun r I' J' => Go G (fr G m_CU_offerWhole (d + 3) P) 26 [none, none, none, none, none, none] (r.toList ++ [.long s4, .int y3, .int y2, .int y1, .ref 33]) I' J') I J) : Go G (fr G m_CU_offerWhole (d + 3) P) 21 [none, none, some (.ref o2), none, none, none] [.long s4, .int y3, .int y2, .int y1, .ref 33] I J := by
  refine g_aload_n dc_CU_offerWhole_21 rfl rfl rfl ?_
  refine g_iconst (v := 0) dc_CU_offerWhole_22 rfl (by decide) ?_
  refine g_weak [none, none, none, none, none, none] trivial ?_
  exact g_callM_below (As := [.int 0]) (rest := [.long s4, .int y3, .int y2, .int y1, .ref 33]) h2 ml_CU_126 rfl rfl (Nat.le_of_ble_eq_true rfl) dc_CU_offerWhole_23 rfl rOk_fr k1
theorem w_CU_offerWhole_26 {G : GC} {d : Nat} {P : PT} {I : MI} {J : MJ} {y1 : Int32} {y2 : Int32} {y3 : Int32} {s4 : Int64} {y5 : Int32} (k1 : Ct G (d + 2) m_CU_offer [.ref 33, .int y1, .int y2, .int y3, .long s4, .int y5, .int 0] (fun r I' J' => Go G (fr G m_CU_offerWhole (d + 3) P) 30 [none, none, none, none, none, none] (r.toList ++ []) I' J') I J) : Go G (fr G m_CU_offerWhole (d + 3) P) 26 [none, none, none, none, none, none] [.int y5, .long s4, .int y3, .int y2, .int y1, .ref 33] I J := by
  refine g_iconst (v := 0) dc_CU_offerWhole_26 rfl (by decide) ?_
  exact g_callV (T := T_CU) (N := 13) (As := [.int y1, .int y2, .int y3, .long s4, .int y5, .int 0]) (rest := []) ok_CU_offer in_CU_offer se_CU_offer ml_CU_97 sh_33 (by decide) rfl rfl rfl (Nat.le_of_ble_eq_true rfl) dc_CU_offerWhole_27 rfl rOk_fr k1
theorem w_CU_offerWhole_30 {G : GC} {d : Nat} {P : PT} {I : MI} {J : MJ}  (q1 : P none I J) : Go G (fr G m_CU_offerWhole (d + 3) P) 30 [none, none, none, none, none, none] [] I J := by
  exact g_vret rfl dc_CU_offerWhole_30 q1
theorem dc_CU_offerWithoutOne_0 : decode prog_5_method_9_code 0 = .ok (.aload_n 0, 1) := by decide +kernel
theorem dc_CU_offerWithoutOne_1 : decode prog_5_method_9_code 1 = .ok (.getfield 116, 3) := by decide +kernel
theorem dc_CU_offerWithoutOne_4 : decode prog_5_method_9_code 4 = .ok (.iconst 1, 1) := by decide +kernel
theorem dc_CU_offerWithoutOne_5 : decode prog_5_method_9_code 5 = .ok (.if_icmp .lt 14, 3) := by decide +kernel
theorem dc_CU_offerWithoutOne_8 : decode prog_5_method_9_code 8 = .ok (.aload_n 2, 1) := by decide +kernel
theorem dc_CU_offerWithoutOne_9 : decode prog_5_method_9_code 9 = .ok (.getfield 108, 3) := by decide +kernel
theorem dc_CU_offerWithoutOne_12 : decode prog_5_method_9_code 12 = .ok (.iconst 1, 1) := by decide +kernel
theorem dc_CU_offerWithoutOne_13 : decode prog_5_method_9_code 13 = .ok (.isub, 1) := by decide +kernel
theorem dc_CU_offerWithoutOne_14 : decode prog_5_method_9_code 14 = .ok (.iload 5, 2) := by decide +kernel
theorem dc_CU_offerWithoutOne_16 : decode prog_5_method_9_code 16 = .ok (.if_icmp .ge 4, 3) := by decide +kernel
theorem dc_CU_offerWithoutOne_19 : decode prog_5_method_9_code 19 = .ok (.return_, 1) := by decide +kernel
theorem dc_CU_offerWithoutOne_20 : decode prog_5_method_9_code 20 = .ok (.ldc2_w 95, 3) := by decide +kernel
theorem dc_CU_offerWithoutOne_23 : decode prog_5_method_9_code 23 = .ok (.lstore 6, 2) := by decide +kernel
theorem dc_CU_offerWithoutOne_25 : decode prog_5_method_9_code 25 = .ok (.iload_n 3, 1) := by decide +kernel
theorem dc_CU_offerWithoutOne_26 : decode prog_5_method_9_code 26 = .ok (.istore 8, 2) := by decide +kernel
theorem dc_CU_offerWithoutOne_28 : decode prog_5_method_9_code 28 = .ok (.iload_n 3, 1) := by decide +kernel
theorem dc_CU_offerWithoutOne_29 : decode prog_5_method_9_code 29 = .ok (.istore 9, 2) := by decide +kernel
theorem dc_CU_offerWithoutOne_31 : decode prog_5_method_9_code 31 = .ok (.iload 9, 2) := by decide +kernel
theorem dc_CU_offerWithoutOne_33 : decode prog_5_method_9_code 33 = .ok (.iload 4, 2) := by decide +kernel
theorem dc_CU_offerWithoutOne_35 : decode prog_5_method_9_code 35 = .ok (.if_icmp .gt 44, 3) := by decide +kernel
theorem dc_CU_offerWithoutOne_38 : decode prog_5_method_9_code 38 = .ok (.aload_n 2, 1) := by decide +kernel
theorem dc_CU_offerWithoutOne_39 : decode prog_5_method_9_code 39 = .ok (.aload_n 1, 1) := by decide +kernel
theorem dc_CU_offerWithoutOne_40 : decode prog_5_method_9_code 40 = .ok (.iload 9, 2) := by decide +kernel
theorem dc_CU_offerWithoutOne_42 : decode prog_5_method_9_code 42 = .ok (.iconst (-1), 1) := by decide +kernel
theorem dc_CU_offerWithoutOne_43 : decode prog_5_method_9_code 43 = .ok (.invokevirtual 109, 3) := by decide +kernel
theorem dc_CU_offerWithoutOne_46 : decode prog_5_method_9_code 46 = .ok (.lstore 10, 2) := by decide +kernel
theorem dc_CU_offerWithoutOne_48 : decode prog_5_method_9_code 48 = .ok (.lload 6, 2) := by decide +kernel
theorem dc_CU_offerWithoutOne_50 : decode prog_5_method_9_code 50 = .ok (.ldc2_w 95, 3) := by decide +kernel
theorem dc_CU_offerWithoutOne_53 : decode prog_5_method_9_code 53 = .ok (.lcmp, 1) := by decide +kernel
theorem dc_CU_offerWithoutOne_54 : decode prog_5_method_9_code 54 = .ok (.ifCond .eq 11, 3) := by decide +kernel
theorem dc_CU_offerWithoutOne_57 : decode prog_5_method_9_code 57 = .ok (.lload 10, 2) := by decide +kernel
theorem dc_CU_offerWithoutOne_59 : decode prog_5_method_9_code 59 = .ok (.lload 6, 2) := by decide +kernel
theorem dc_CU_offerWithoutOne_61 : decode prog_5_method_9_code 61 = .ok (.lcmp, 1) := by decide +kernel
theorem dc_CU_offerWithoutOne_62 : decode prog_5_method_9_code 62 = .ok (.ifCond .ge 11, 3) := by decide +kernel
theorem dc_CU_offerWithoutOne_65 : decode prog_5_method_9_code 65 = .ok (.lload 10, 2) := by decide +kernel
theorem dc_CU_offerWithoutOne_67 : decode prog_5_method_9_code 67 = .ok (.lstore 6, 2) := by decide +kernel
theorem dc_CU_offerWithoutOne_69 : decode prog_5_method_9_code 69 = .ok (.iload 9, 2) := by decide +kernel
theorem dc_CU_offerWithoutOne_71 : decode prog_5_method_9_code 71 = .ok (.istore 8, 2) := by decide +kernel
theorem dc_CU_offerWithoutOne_73 : decode prog_5_method_9_code 73 = .ok (.iinc 9 1, 3) := by decide +kernel
theorem dc_CU_offerWithoutOne_76 : decode prog_5_method_9_code 76 = .ok (.goto (-45), 3) := by decide +kernel
theorem dc_CU_offerWithoutOne_79 : decode prog_5_method_9_code 79 = .ok (.aload_n 0, 1) := by decide +kernel
theorem dc_CU_offerWithoutOne_80 : decode prog_5_method_9_code 80 = .ok (.iload_n 3, 1) := by decide +kernel
theorem dc_CU_offerWithoutOne_81 : decode prog_5_method_9_code 81 = .ok (.iload 4, 2) := by decide +kernel
theorem dc_CU_offerWithoutOne_83 : decode prog_5_method_9_code 83 = .ok (.iconst 1, 1) := by decide +kernel
theorem dc_CU_offerWithoutOne_84 : decode prog_5_method_9_code 84 = .ok (.lload 6, 2) := by decide +kernel
theorem dc_CU_offerWithoutOne_86 : decode prog_5_method_9_code 86 = .ok (.aload_n 2, 1) := by decide +kernel
theorem dc_CU_offerWithoutOne_87 : decode prog_5_method_9_code 87 = .ok (.iconst 1, 1) := by decide +kernel
theorem dc_CU_offerWithoutOne_88 : decode prog_5_method_9_code 88 = .ok (.invokevirtual 126, 3) := by decide +kernel
theorem dc_CU_offerWithoutOne_91 : decode prog_5_method_9_code 91 = .ok (.iload 8, 2) := by decide +kernel
theorem dc_CU_offerWithoutOne_93 : decode prog_5_method_9_code 93 = .ok (.invokevirtual 97, 3) := by decide +kernel
theorem dc_CU_offerWithoutOne_96 : decode prog_5_method_9_code 96 = .ok (.return_, 1) := by decide +kernel
theorem w_CU_offerWithoutOne_0 {G : GC} {d : Nat} {P : PT} {I : MI} {J : MJ} {o1 : Nat} (h1 : PtsAt o1) {o2 : Nat} (h2 : MesAt o2) {x3 : Int32} {x4 : Int32} {x5 : Int32} (q1 : ((I 33 9) < 1) → P none I J) (k2 : (¬ ((I 33 9) < 1)) → (x5 ≤ ((I o2 0) - 1)) → Go G (fr G m_CU_offerWithoutOne (d + 3) P) 31 [some (.ref 33), some (.ref o1), some (.ref o2), some (.int x3), some (.int x4), none, some (.long (-1)), none, some (.int x3), some (.int x3), none, none] [] I J) (q3 : (¬ ((I 33 9) < 1)) → (¬ (x5 ≤ ((I o2 0) - 1))) → P none I J) : Go G (fr G m_CU_offerWithoutOne (d + 3) P) 0 [some (.ref 33), some (.ref o1), some (.ref o2), some (.int x3), some (.int x4), some (.int x5), none, none, none, none, none, none] [] I J := by
  refine g_aload_n dc_CU_offerWithoutOne_0 rfl rfl rfl ?_
  refine g_get (C := "LevelBreaks$Cuts") (T := T_CU) (N := 13) (k := 9) (v := .int (I 33 9)) sh_33 (by decide) rfl rfl i_CU (by decide) fl_CU_116 (Or.inl rfl) rfl dc_CU_offerWithoutOne_1 rfl ?_
  refine g_iconst (v := 1) dc_CU_offerWithoutOne_4 rfl (by decide) ?_
  refine g_ic_lt (tgt := 19) dc_CU_offerWithoutOne_5 rfl (by decide) (fun c1 => ?_) (fun c1 => ?_)
  · exact g_vret rfl dc_CU_offerWithoutOne_19 (q1 c1)
  · refine g_aload_n dc_CU_offerWithoutOne_8 rfl rfl rfl ?_
    refine g_getM (v := (I o2 0)) h2 fl_CU_108 rfl dc_CU_offerWithoutOne_9 rfl ?_
    refine g_iconst (v := 1) dc_CU_offerWithoutOne_12 rfl (by decide) ?_
    refine g_isub dc_CU_offerWithoutOne_13 rfl ?_
    refine g_iload dc_CU_offerWithoutOne_14 rfl rfl ?_
    refine g_ic_ge (tgt := 20) dc_CU_offerWithoutOne_16 rfl (by decide) (fun c2 => ?_) (fun c2 => ?_)
    · refine g_ldc2 (v := (-1)) kl_CU_95 dc_CU_offerWithoutOne_20 rfl ?_
      refine g_lstore (L' := [some (.ref 33), some (.ref o1), some (.ref o2), some (.int x3), some (.int x4), some (.int x5), some (.long (-1)), none, none, none, none, none]) dc_CU_offerWithoutOne_23 rfl (Nat.le_of_ble_eq_true rfl) rfl ?_
      refine g_iload_n dc_CU_offerWithoutOne_25 rfl rfl rfl ?_
      refine g_istore (L' := [some (.ref 33), some (.ref o1), some (.ref o2), some (.int x3), some (.int x4), some (.int x5), some (.long (-1)), none, some (.int x3), none, none, none]) dc_CU_offerWithoutOne_26 rfl (Nat.le_of_ble_eq_true rfl) rfl ?_
      refine g_iload_n dc_CU_offerWithoutOne_28 rfl rfl rfl ?_
      refine g_istore (L' := [some (.ref 33), some (.ref o1), some (.ref o2), some (.int x3), some (.int x4), some (.int x5), some (.long (-1)), none, some (.int x3), some (.int x3), none, none]) dc_CU_offerWithoutOne_29 rfl (Nat.le_of_ble_eq_true rfl) rfl ?_
      refine g_weak [some (.ref 33), some (.ref o1), some (.ref o2), some (.int x3), some (.int x4), none, some (.long (-1)), none, some (.int x3), some (.int x3), none, none] ⟨rfl, ⟨rfl, ⟨rfl, ⟨rfl, ⟨rfl, ⟨rfl, ⟨rfl, ⟨rfl, trivial⟩⟩⟩⟩⟩⟩⟩⟩ ?_
      exact (k2 c1 c2)
    · exact g_vret rfl dc_CU_offerWithoutOne_19 (q3 c1 c2)
theorem w_CU_offerWithoutOne_31 {G : GC} {d : Nat} {P : PT} {I : MI} {J : MJ} {o1 : Nat} (h1 : PtsAt o1) {o2 : Nat} (h2 : MesAt o2) {x3 : Int32} {x4 : Int32} {l6 : Int64} {x8 : Int32} {x9 : Int32} (k1 : (x4 < x9) → Ct G (d + 2) (mesM o2 m_SU_below m_MI_below m_ON_below) [.ref o2, .int 1] (fun r I' J' => Go G (fr G m_CU_offerWithoutOne (d + 3) P) 91 [none, none, none, none, none, none, none, none, some (.int x8), none, none, none] (r.toList ++ [.long l6, .int 1, .int x4, .int x3, .ref 33]) I' J') I J) (k2 : (¬ (x4 < x9)) → Ct G (d + 2) (mesM o2 m_SU_above m_MI_above m_ON_above) [.ref o2, .ref o1, .int x9, .int (-1)] (fun r I' J' => Go G (fr G m_CU_offerWithoutOne (d + 3) P) 46 [some (.ref 33), some (.ref o1), some (.ref o2), some (.int x3), some (.int x4), none, some (.long l6), none, some (.int x8), some (.int x9), none, none] (r.toList ++ []) I' J') I J) : Go G (fr G m_CU_offerWithoutOne (d + 3) P) 31 [some (.ref 33), some (.ref o1), some (.ref o2), some (.int x3), some (.int x4), none, some (.long l6), none, some (.int x8), some (.int x9), none, none] [] I J := by
  refine g_iload dc_CU_offerWithoutOne_31 rfl rfl ?_
  refine g_iload dc_CU_offerWithoutOne_33 rfl rfl ?_
  refine g_ic_gt (tgt := 79) dc_CU_offerWithoutOne_35 rfl (by decide) (fun c1 => ?_) (fun c1 => ?_)
  · refine g_aload_n dc_CU_offerWithoutOne_79 rfl rfl rfl ?_
    refine g_iload_n dc_CU_offerWithoutOne_80 rfl rfl rfl ?_
    refine g_iload dc_CU_offerWithoutOne_81 rfl rfl ?_
    refine g_iconst (v := 1) dc_CU_offerWithoutOne_83 rfl (by decide) ?_
    refine g_lload dc_CU_offerWithoutOne_84 rfl rfl ?_
    refine g_aload_n dc_CU_offerWithoutOne_86 rfl rfl rfl ?_
    refine g_iconst (v := 1) dc_CU_offerWithoutOne_87 rfl (by decide) ?_
    refine g_weak [none, none, none, none, none, none, none, none, some (.int x8), none, none, none] ⟨rfl, trivial⟩ ?_
    exact g_callM_below (As := [.int 1]) (rest := [.long l6, .int 1, .int x4, .int x3, .ref 33]) h2 ml_CU_126 rfl rfl (Nat.le_of_ble_eq_true rfl) dc_CU_offerWithoutOne_88 rfl rOk_fr (k1 c1)
  · refine g_aload_n dc_CU_offerWithoutOne_38 rfl rfl rfl ?_
    refine g_aload_n dc_CU_offerWithoutOne_39 rfl rfl rfl ?_
    refine g_iload dc_CU_offerWithoutOne_40 rfl rfl ?_
    refine g_iconst (v := (-1)) dc_CU_offerWithoutOne_42 rfl (by decide) ?_
    exact g_callM_above (As := [.ref o1, .int x9, .int (-1)]) (rest := []) h2 ml_CU_109 rfl rfl (Nat.le_of_ble_eq_true rfl) dc_CU_offerWithoutOne_43 rfl rOk_fr (k2 c1)
theorem w_CU_offerWithoutOne_46 {G : GC} {d : Nat} {P : PT} {I : MI} {J : MJ} {o1 : Nat} (h1 : PtsAt o1) {o2 : Nat} (h2 : MesAt o2) {x3 : Int32} {x4 : Int32} {l6 : Int64} {x8 : Int32} {x9 : Int32} {s0 : Int64} (k1 : (l6 = (-1)) → Go G (fr G m_CU_offerWithoutOne (d + 3) P) 65 [some (.ref 33), some (.ref o1), some (.ref o2), some (.int x3), some (.int x4), none, none, none, none, some (.int x9), some (.long s0), none] [] I J) (k2 : (¬ (l6 = (-1))) → (l6 ≤ s0) → Go G (fr G m_CU_offerWithoutOne (d + 3) P) 73 [some (.ref 33), some (.ref o1), some (.ref o2), some (.int x3), some (.int x4), none, some (.long l6), none, some (.int x8), some (.int x9), none, none] [] I J) (k3 : (¬ (l6 = (-1))) → (¬ (l6 ≤ s0)) → Go G (fr G m_CU_offerWithoutOne (d + 3) P) 65 [some (.ref 33), some (.ref o1), some (.ref o2), some (.int x3), some (.int x4), none, none, none, none, some (.int x9), some (.long s0), none] [] I J) : Go G (fr G m_CU_offerWithoutOne (d + 3) P) 46 [some (.ref 33), some (.ref o1), some (.ref o2), some (.int x3), some (.int x4), none, some (.long l6), none, some (.int x8), some (.int x9), none, none] [.long s0] I J := by
  refine g_lstore (L' := [some (.ref 33), some (.ref o1), some (.ref o2), some (.int x3), some (.int x4), none, some (.long l6), none, some (.int x8), some (.int x9), some (.long s0), none]) dc_CU_offerWithoutOne_46 rfl (Nat.le_of_ble_eq_true rfl) rfl ?_
  refine g_lload dc_CU_offerWithoutOne_48 rfl rfl ?_
  refine g_ldc2 (v := (-1)) kl_CU_95 dc_CU_offerWithoutOne_50 rfl ?_
  refine g_lc_eq (tgt := 65) dc_CU_offerWithoutOne_53 rfl dc_CU_offerWithoutOne_54 rfl (by decide) (fun c1 => ?_) (fun c1 => ?_)
  · refine g_weak [some (.ref 33), some (.ref o1), some (.ref o2), some (.int x3), some (.int x4), none, none, none, none, some (.int x9), some (.long s0), none] ⟨rfl, ⟨rfl, ⟨rfl, ⟨rfl, ⟨rfl, ⟨rfl, ⟨rfl, trivial⟩⟩⟩⟩⟩⟩⟩ ?_
    exact (k1 c1)
  · refine g_lload dc_CU_offerWithoutOne_57 rfl rfl ?_
    refine g_lload dc_CU_offerWithoutOne_59 rfl rfl ?_
    refine g_lc_ge (tgt := 73) dc_CU_offerWithoutOne_61 rfl dc_CU_offerWithoutOne_62 rfl (by decide) (fun c2 => ?_) (fun c2 => ?_)
    · refine g_weak [some (.ref 33), some (.ref o1), some (.ref o2), some (.int x3), some (.int x4), none, some (.long l6), none, some (.int x8), some (.int x9), none, none] ⟨rfl, ⟨rfl, ⟨rfl, ⟨rfl, ⟨rfl, ⟨rfl, ⟨rfl, ⟨rfl, trivial⟩⟩⟩⟩⟩⟩⟩⟩ ?_
      exact (k2 c1 c2)
    · refine g_weak [some (.ref 33), some (.ref o1), some (.ref o2), some (.int x3), some (.int x4), none, none, none, none, some (.int x9), some (.long s0), none] ⟨rfl, ⟨rfl, ⟨rfl, ⟨rfl, ⟨rfl, ⟨rfl, ⟨rfl, trivial⟩⟩⟩⟩⟩⟩⟩ ?_
      exact (k3 c1 c2)
theorem w_CU_offerWithoutOne_65 {G : GC} {d : Nat} {P : PT} {I : MI} {J : MJ} {o1 : Nat} (h1 : PtsAt o1) {o2 : Nat} (h2 : MesAt o2) {x3 : Int32} {x4 : Int32} {x9 : Int32} {l10 : Int64} (k1 : Go G (fr G m_CU_offerWithoutOne (d + 3) P) 73 [some (.ref 33), some (.ref o1), some (.ref o2), some (.int x3), some (.int x4), none, some (.long l10), none, some (.int x9), some (.int x9), none, none] [] I J) : Go G (fr G m_CU_offerWithoutOne (d + 3) P) 65 [some (.ref 33), some (.ref o1), some (.ref o2), some (.int x3), some (.int x4), none, none, none, none, some (.int x9), some (.long l10), none] [] I J := by
  refine g_lload dc_CU_offerWithoutOne_65 rfl rfl ?_
  refine g_lstore (L' := [some (.ref 33), some (.ref o1), some (.ref o2), some (.int x3), some (.int x4), none, some (.long l10), none, none, some (.int x9), some (.long l10), none]) dc_CU_offerWithoutOne_67 rfl (Nat.le_of_ble_eq_true rfl) rfl ?_
  refine g_iload dc_CU_offerWithoutOne_69 rfl rfl ?_
  refine g_istore (L' := [some (.ref 33), some (.ref o1), some (.ref o2), some (.int x3), some (.int x4), none, some (.long l10), none, some (.int x9), some (.int x9), some (.long l10), none]) dc_CU_offerWithoutOne_71 rfl (Nat.le_of_ble_eq_true rfl) rfl ?_
  refine g_weak [some (.ref 33), some (.ref o1), some (.ref o2), some (.int x3), some (.int x4), none, some (.long l10), none, some (.int x9), some (.int x9), none, none] ⟨rfl, ⟨rfl, ⟨rfl, ⟨rfl, ⟨rfl, ⟨rfl, ⟨rfl, ⟨rfl, trivial⟩⟩⟩⟩⟩⟩⟩⟩ ?_
  exact k1
theorem w_CU_offerWithoutOne_73 {G : GC} {d : Nat} {P : PT} {I : MI} {J : MJ} {o1 : Nat} (h1 : PtsAt o1) {o2 : Nat} (h2 : MesAt o2) {x3 : Int32} {x4 : Int32} {l6 : Int64} {x8 : Int32} {x9 : Int32} (k1 : Go G (fr G m_CU_offerWithoutOne (d + 3) P) 31 [some (.ref 33), some (.ref o1), some (.ref o2), some (.int x3), some (.int x4), none, some (.long l6), none, some (.int x8), some (.int (x9 + 1)), none, none] [] I J) : Go G (fr G m_CU_offerWithoutOne (d + 3) P) 73 [some (.ref 33), some (.ref o1), some (.ref o2), some (.int x3), some (.int x4), none, some (.long l6), none, some (.int x8), some (.int x9), none, none] [] I J := by
  refine g_iinc (v := (x9 + 1)) (L' := [some (.ref 33), some (.ref o1), some (.ref o2), some (.int x3), some (.int x4), none, some (.long l6), none, some (.int x8), some (.int (x9 + 1)), none, none]) dc_CU_offerWithoutOne_73 rfl rfl (by rw [show Int32.ofInt 1 = 1 from by decide]) (Nat.le_of_ble_eq_true rfl) rfl ?_
  refine g_goto (tgt := 31) dc_CU_offerWithoutOne_76 (by decide) ?_
  exact k1
theorem w_CU_offerWithoutOne_91 {G : GC} {d : Nat} {P : PT} {I : MI} {J : MJ} {x8 : Int32} {y1 : Int32} {y2 : Int32} {y3 : Int32} {s4 : Int64} {y5 : Int32} (k1 : Ct G (d + 2) m_CU_offer [.ref 33, .int y1, .int y2, .int y3, .long s4, .int y5, .int x8] (fun r I' J' => Go G (fr G m_CU_offerWithoutOne (d + 3) P) 96 [none, none, none, none, none, none, none, none, none, none, none, none] (r.toList ++ []) I' J') I J) : Go G (fr G m_CU_offerWithoutOne (d + 3) P) 91 [none, none, none, none, none, none, none, none, some (.int x8), none, none, none] [.int y5, .long s4, .int y3, .int y2, .int y1, .ref 33] I J := by
  refine g_iload dc_CU_offerWithoutOne_91 rfl rfl ?_
  refine g_weak [none, none, none, none, none, none, none, none, none, none, none, none] trivial ?_
  exact g_callV (T := T_CU) (N := 13) (As := [.int y1, .int y2, .int y3, .long s4, .int y5, .int x8]) (rest := []) ok_CU_offer in_CU_offer se_CU_offer ml_CU_97 sh_33 (by decide) rfl rfl rfl (Nat.le_of_ble_eq_true rfl) dc_CU_offerWithoutOne_93 rfl rOk_fr k1
theorem w_CU_offerWithoutOne_96 {G : GC} {d : Nat} {P : PT} {I : MI} {J : MJ}  (q1 : P none I J) : Go G (fr G m_CU_offerWithoutOne (d + 3) P) 96 [none, none, none, none, none, none, none, none, none, none, none, none] [] I J := by
  exact g_vret rfl dc_CU_offerWithoutOne_96 q1
theorem dc_CU_offerWithoutTwo_0 : decode prog_5_method_10_code 0 = .ok (.aload_n 0, 1) := by decide +kernel
theorem dc_CU_offerWithoutTwo_1 : decode prog_5_method_10_code 1 = .ok (.getfield 116, 3) := by decide +kernel
theorem dc_CU_offerWithoutTwo_4 : decode prog_5_method_10_code 4 = .ok (.iconst 2, 1) := by decide +kernel
theorem dc_CU_offerWithoutTwo_5 : decode prog_5_method_10_code 5 = .ok (.if_icmp .lt 14, 3) := by decide +kernel
theorem dc_CU_offerWithoutTwo_8 : decode prog_5_method_10_code 8 = .ok (.aload_n 2, 1) := by decide +kernel
theorem dc_CU_offerWithoutTwo_9 : decode prog_5_method_10_code 9 = .ok (.getfield 108, 3) := by decide +kernel
theorem dc_CU_offerWithoutTwo_12 : decode prog_5_method_10_code 12 = .ok (.iconst 2, 1) := by decide +kernel
theorem dc_CU_offerWithoutTwo_13 : decode prog_5_method_10_code 13 = .ok (.isub, 1) := by decide +kernel
theorem dc_CU_offerWithoutTwo_14 : decode prog_5_method_10_code 14 = .ok (.iload 5, 2) := by decide +kernel
theorem dc_CU_offerWithoutTwo_16 : decode prog_5_method_10_code 16 = .ok (.if_icmp .ge 4, 3) := by decide +kernel
theorem dc_CU_offerWithoutTwo_19 : decode prog_5_method_10_code 19 = .ok (.return_, 1) := by decide +kernel
theorem dc_CU_offerWithoutTwo_20 : decode prog_5_method_10_code 20 = .ok (.ldc2_w 95, 3) := by decide +kernel
theorem dc_CU_offerWithoutTwo_23 : decode prog_5_method_10_code 23 = .ok (.lstore 6, 2) := by decide +kernel
theorem dc_CU_offerWithoutTwo_25 : decode prog_5_method_10_code 25 = .ok (.iload_n 3, 1) := by decide +kernel
theorem dc_CU_offerWithoutTwo_26 : decode prog_5_method_10_code 26 = .ok (.istore 8, 2) := by decide +kernel
theorem dc_CU_offerWithoutTwo_28 : decode prog_5_method_10_code 28 = .ok (.iload_n 3, 1) := by decide +kernel
theorem dc_CU_offerWithoutTwo_29 : decode prog_5_method_10_code 29 = .ok (.istore 9, 2) := by decide +kernel
theorem dc_CU_offerWithoutTwo_31 : decode prog_5_method_10_code 31 = .ok (.iload 9, 2) := by decide +kernel
theorem dc_CU_offerWithoutTwo_33 : decode prog_5_method_10_code 33 = .ok (.iload 4, 2) := by decide +kernel
theorem dc_CU_offerWithoutTwo_35 : decode prog_5_method_10_code 35 = .ok (.if_icmp .ge 70, 3) := by decide +kernel
theorem dc_CU_offerWithoutTwo_38 : decode prog_5_method_10_code 38 = .ok (.iload 9, 2) := by decide +kernel
theorem dc_CU_offerWithoutTwo_40 : decode prog_5_method_10_code 40 = .ok (.iconst 1, 1) := by decide +kernel
theorem dc_CU_offerWithoutTwo_41 : decode prog_5_method_10_code 41 = .ok (.iadd, 1) := by decide +kernel
theorem dc_CU_offerWithoutTwo_42 : decode prog_5_method_10_code 42 = .ok (.istore 10, 2) := by decide +kernel
theorem dc_CU_offerWithoutTwo_44 : decode prog_5_method_10_code 44 = .ok (.iload 10, 2) := by decide +kernel
theorem dc_CU_offerWithoutTwo_46 : decode prog_5_method_10_code 46 = .ok (.iload 4, 2) := by decide +kernel
theorem dc_CU_offerWithoutTwo_48 : decode prog_5_method_10_code 48 = .ok (.if_icmp .gt 51, 3) := by decide +kernel
theorem dc_CU_offerWithoutTwo_51 : decode prog_5_method_10_code 51 = .ok (.aload_n 2, 1) := by decide +kernel
theorem dc_CU_offerWithoutTwo_52 : decode prog_5_method_10_code 52 = .ok (.aload_n 1, 1) := by decide +kernel
theorem dc_CU_offerWithoutTwo_53 : decode prog_5_method_10_code 53 = .ok (.iload 9, 2) := by decide +kernel
theorem dc_CU_offerWithoutTwo_55 : decode prog_5_method_10_code 55 = .ok (.iload 10, 2) := by decide +kernel
theorem dc_CU_offerWithoutTwo_57 : decode prog_5_method_10_code 57 = .ok (.invokevirtual 109, 3) := by decide +kernel
theorem dc_CU_offerWithoutTwo_60 : decode prog_5_method_10_code 60 = .ok (.lstore 11, 2) := by decide +kernel
theorem dc_CU_offerWithoutTwo_62 : decode prog_5_method_10_code 62 = .ok (.lload 6, 2) := by decide +kernel
theorem dc_CU_offerWithoutTwo_64 : decode prog_5_method_10_code 64 = .ok (.ldc2_w 95, 3) := by decide +kernel
theorem dc_CU_offerWithoutTwo_67 : decode prog_5_method_10_code 67 = .ok (.lcmp, 1) := by decide +kernel
theorem dc_CU_offerWithoutTwo_68 : decode prog_5_method_10_code 68 = .ok (.ifCond .eq 11, 3) := by decide +kernel
theorem dc_CU_offerWithoutTwo_71 : decode prog_5_method_10_code 71 = .ok (.lload 11, 2) := by decide +kernel
theorem dc_CU_offerWithoutTwo_73 : decode prog_5_method_10_code 73 = .ok (.lload 6, 2) := by decide +kernel
theorem dc_CU_offerWithoutTwo_75 : decode prog_5_method_10_code 75 = .ok (.lcmp, 1) := by decide +kernel
theorem dc_CU_offerWithoutTwo_76 : decode prog_5_method_10_code 76 = .ok (.ifCond .ge 17, 3) := by decide +kernel
theorem dc_CU_offerWithoutTwo_79 : decode prog_5_method_10_code 79 = .ok (.lload 11, 2) := by decide +kernel
theorem dc_CU_offerWithoutTwo_81 : decode prog_5_method_10_code 81 = .ok (.lstore 6, 2) := by decide +kernel
theorem dc_CU_offerWithoutTwo_83 : decode prog_5_method_10_code 83 = .ok (.iload 9, 2) := by decide +kernel
theorem dc_CU_offerWithoutTwo_85 : decode prog_5_method_10_code 85 = .ok (.bipush 40, 2) := by decide +kernel
theorem dc_CU_offerWithoutTwo_87 : decode prog_5_method_10_code 87 = .ok (.imul, 1) := by decide +kernel
theorem dc_CU_offerWithoutTwo_88 : decode prog_5_method_10_code 88 = .ok (.iload 10, 2) := by decide +kernel
theorem dc_CU_offerWithoutTwo_90 : decode prog_5_method_10_code 90 = .ok (.iadd, 1) := by decide +kernel
theorem dc_CU_offerWithoutTwo_91 : decode prog_5_method_10_code 91 = .ok (.istore 8, 2) := by decide +kernel
theorem dc_CU_offerWithoutTwo_93 : decode prog_5_method_10_code 93 = .ok (.iinc 10 1, 3) := by decide +kernel
theorem dc_CU_offerWithoutTwo_96 : decode prog_5_method_10_code 96 = .ok (.goto (-52), 3) := by decide +kernel
theorem dc_CU_offerWithoutTwo_99 : decode prog_5_method_10_code 99 = .ok (.iinc 9 1, 3) := by decide +kernel
theorem dc_CU_offerWithoutTwo_102 : decode prog_5_method_10_code 102 = .ok (.goto (-71), 3) := by decide +kernel
theorem dc_CU_offerWithoutTwo_105 : decode prog_5_method_10_code 105 = .ok (.aload_n 0, 1) := by decide +kernel
theorem dc_CU_offerWithoutTwo_106 : decode prog_5_method_10_code 106 = .ok (.iload_n 3, 1) := by decide +kernel
theorem dc_CU_offerWithoutTwo_107 : decode prog_5_method_10_code 107 = .ok (.iload 4, 2) := by decide +kernel
theorem dc_CU_offerWithoutTwo_109 : decode prog_5_method_10_code 109 = .ok (.iconst 2, 1) := by decide +kernel
theorem dc_CU_offerWithoutTwo_110 : decode prog_5_method_10_code 110 = .ok (.lload 6, 2) := by decide +kernel
theorem dc_CU_offerWithoutTwo_112 : decode prog_5_method_10_code 112 = .ok (.aload_n 2, 1) := by decide +kernel
theorem dc_CU_offerWithoutTwo_113 : decode prog_5_method_10_code 113 = .ok (.iconst 2, 1) := by decide +kernel
theorem dc_CU_offerWithoutTwo_114 : decode prog_5_method_10_code 114 = .ok (.invokevirtual 126, 3) := by decide +kernel
theorem dc_CU_offerWithoutTwo_117 : decode prog_5_method_10_code 117 = .ok (.iload 8, 2) := by decide +kernel
theorem dc_CU_offerWithoutTwo_119 : decode prog_5_method_10_code 119 = .ok (.invokevirtual 97, 3) := by decide +kernel
theorem dc_CU_offerWithoutTwo_122 : decode prog_5_method_10_code 122 = .ok (.return_, 1) := by decide +kernel
theorem w_CU_offerWithoutTwo_0 {G : GC} {d : Nat} {P : PT} {I : MI} {J : MJ} {o1 : Nat} (h1 : PtsAt o1) {o2 : Nat} (h2 : MesAt o2) {x3 : Int32} {x4 : Int32} {x5 : Int32} (q1 : ((I 33 9) < 2) → P none I J) (k2 : (¬ ((I 33 9) < 2)) → (x5 ≤ ((I o2 0) - 2)) → Go G (fr G m_CU_offerWithoutTwo (d + 3) P) 31 [some (.ref 33), some (.ref o1), some (.ref o2), some (.int x3), some (.int x4), none, some (.long (-1)), none, some (.int x3), some (.int x3), none, none, none] [] I J) (q3 : (¬ ((I 33 9) < 2)) → (¬ (x5 ≤ ((I o2 0) - 2))) → P none I J) : Go G (fr G m_CU_offerWithoutTwo (d + 3) P) 0 [some (.ref 33), some (.ref o1), some (.ref o2), some (.int x3), some (.int x4), some (.int x5), none, none, none, none, none, none, none] [] I J := by
  refine g_aload_n dc_CU_offerWithoutTwo_0 rfl rfl rfl ?_
  refine g_get (C := "LevelBreaks$Cuts") (T := T_CU) (N := 13) (k := 9) (v := .int (I 33 9)) sh_33 (by decide) rfl rfl i_CU (by decide) fl_CU_116 (Or.inl rfl) rfl dc_CU_offerWithoutTwo_1 rfl ?_
  refine g_iconst (v := 2) dc_CU_offerWithoutTwo_4 rfl (by decide) ?_
  refine g_ic_lt (tgt := 19) dc_CU_offerWithoutTwo_5 rfl (by decide) (fun c1 => ?_) (fun c1 => ?_)
  · exact g_vret rfl dc_CU_offerWithoutTwo_19 (q1 c1)
  · refine g_aload_n dc_CU_offerWithoutTwo_8 rfl rfl rfl ?_
    refine g_getM (v := (I o2 0)) h2 fl_CU_108 rfl dc_CU_offerWithoutTwo_9 rfl ?_
    refine g_iconst (v := 2) dc_CU_offerWithoutTwo_12 rfl (by decide) ?_
    refine g_isub dc_CU_offerWithoutTwo_13 rfl ?_
    refine g_iload dc_CU_offerWithoutTwo_14 rfl rfl ?_
    refine g_ic_ge (tgt := 20) dc_CU_offerWithoutTwo_16 rfl (by decide) (fun c2 => ?_) (fun c2 => ?_)
    · refine g_ldc2 (v := (-1)) kl_CU_95 dc_CU_offerWithoutTwo_20 rfl ?_
      refine g_lstore (L' := [some (.ref 33), some (.ref o1), some (.ref o2), some (.int x3), some (.int x4), some (.int x5), some (.long (-1)), none, none, none, none, none, none]) dc_CU_offerWithoutTwo_23 rfl (Nat.le_of_ble_eq_true rfl) rfl ?_
      refine g_iload_n dc_CU_offerWithoutTwo_25 rfl rfl rfl ?_
      refine g_istore (L' := [some (.ref 33), some (.ref o1), some (.ref o2), some (.int x3), some (.int x4), some (.int x5), some (.long (-1)), none, some (.int x3), none, none, none, none]) dc_CU_offerWithoutTwo_26 rfl (Nat.le_of_ble_eq_true rfl) rfl ?_
      refine g_iload_n dc_CU_offerWithoutTwo_28 rfl rfl rfl ?_
      refine g_istore (L' := [some (.ref 33), some (.ref o1), some (.ref o2), some (.int x3), some (.int x4), some (.int x5), some (.long (-1)), none, some (.int x3), some (.int x3), none, none, none]) dc_CU_offerWithoutTwo_29 rfl (Nat.le_of_ble_eq_true rfl) rfl ?_
      refine g_weak [some (.ref 33), some (.ref o1), some (.ref o2), some (.int x3), some (.int x4), none, some (.long (-1)), none, some (.int x3), some (.int x3), none, none, none] ⟨rfl, ⟨rfl, ⟨rfl, ⟨rfl, ⟨rfl, ⟨rfl, ⟨rfl, ⟨rfl, trivial⟩⟩⟩⟩⟩⟩⟩⟩ ?_
      exact (k2 c1 c2)
    · exact g_vret rfl dc_CU_offerWithoutTwo_19 (q3 c1 c2)
theorem w_CU_offerWithoutTwo_31 {G : GC} {d : Nat} {P : PT} {I : MI} {J : MJ} {o1 : Nat} (h1 : PtsAt o1) {o2 : Nat} (h2 : MesAt o2) {x3 : Int32} {x4 : Int32} {l6 : Int64} {x8 : Int32} {x9 : Int32} (k1 : (x4 ≤ x9) → Ct G (d + 2) (mesM o2 m_SU_below m_MI_below m_ON_below) [.ref o2, .int 2] (fun r I' J' => Go G (fr G m_CU_offerWithoutTwo (d + 3) P) 117 [none, none, none, none, none, none, none, none, some (.int x8), none, none, none, none] (r.toList ++ [.long l6, .int 2, .int x4, .int x3, .ref 33]) I' J') I J) (k2 : (¬ (x4 ≤ x9)) → Go G (fr G m_CU_offerWithoutTwo (d + 3) P) 44 [some (.ref 33), some (.ref o1), some (.ref o2), some (.int x3), some (.int x4), none, some (.long l6), none, some (.int x8), some (.int x9), some (.int (x9 + 1)), none, none] [] I J) : Go G (fr G m_CU_offerWithoutTwo (d + 3) P) 31 [some (.ref 33), some (.ref o1), some (.ref o2), some (.int x3), some (.int x4), none, some (.long l6), none, some (.int x8), some (.int x9), none, none, none] [] I J := by
  refine g_iload dc_CU_offerWithoutTwo_31 rfl rfl ?_
  refine g_iload dc_CU_offerWithoutTwo_33 rfl rfl ?_
  refine g_ic_ge (tgt := 105) dc_CU_offerWithoutTwo_35 rfl (by decide) (fun c1 => ?_) (fun c1 => ?_)
  · refine g_aload_n dc_CU_offerWithoutTwo_105 rfl rfl rfl ?_
    refine g_iload_n dc_CU_offerWithoutTwo_106 rfl rfl rfl ?_
    refine g_iload dc_CU_offerWithoutTwo_107 rfl rfl ?_
    refine g_iconst (v := 2) dc_CU_offerWithoutTwo_109 rfl (by decide) ?_
    refine g_lload dc_CU_offerWithoutTwo_110 rfl rfl ?_
    refine g_aload_n dc_CU_offerWithoutTwo_112 rfl rfl rfl ?_
    refine g_iconst (v := 2) dc_CU_offerWithoutTwo_113 rfl (by decide) ?_
    refine g_weak [none, none, none, none, none, none, none, none, some (.int x8), none, none, none, none] ⟨rfl, trivial⟩ ?_
    exact g_callM_below (As := [.int 2]) (rest := [.long l6, .int 2, .int x4, .int x3, .ref 33]) h2 ml_CU_126 rfl rfl (Nat.le_of_ble_eq_true rfl) dc_CU_offerWithoutTwo_114 rfl rOk_fr (k1 c1)
  · refine g_iload dc_CU_offerWithoutTwo_38 rfl rfl ?_
    refine g_iconst (v := 1) dc_CU_offerWithoutTwo_40 rfl (by decide) ?_
    refine g_iadd dc_CU_offerWithoutTwo_41 rfl ?_
    refine g_istore (L' := [some (.ref 33), some (.ref o1), some (.ref o2), some (.int x3), some (.int x4), none, some (.long l6), none, some (.int x8), some (.int x9), some (.int (x9 + 1)), none, none]) dc_CU_offerWithoutTwo_42 rfl (Nat.le_of_ble_eq_true rfl) rfl ?_
    exact (k2 c1)
theorem w_CU_offerWithoutTwo_44 {G : GC} {d : Nat} {P : PT} {I : MI} {J : MJ} {o1 : Nat} (h1 : PtsAt o1) {o2 : Nat} (h2 : MesAt o2) {x3 : Int32} {x4 : Int32} {l6 : Int64} {x8 : Int32} {x9 : Int32} {x10 : Int32} (k1 : (x4 < x10) → Go G (fr G m_CU_offerWithoutTwo (d + 3) P) 31 [some (.ref 33), some (.ref o1), some (.ref o2), some (.int x3), some (.int x4), none, some (.long l6), none, some (.int x8), some (.int (x9 + 1)), none, none, none] [] I J) (k2 : (¬ (x4 < x10)) → Ct G (d + 2) (mesM o2 m_SU_above m_MI_above m_ON_above) [.ref o2, .ref o1, .int x9, .int x10] (fun r I' J' => Go G (fr G m_CU_offerWithoutTwo (d + 3) P) 60 [some (.ref 33), some (.ref o1), some (.ref o2), some (.int x3), some (.int x4), none, some (.long l6), none, some (.int x8), some (.int x9), some (.int x10), none, none] (r.toList ++ []) I' J') I J) : Go G (fr G m_CU_offerWithoutTwo (d + 3) P) 44 [some (.ref 33), some (.ref o1), some (.ref o2), some (.int x3), some (.int x4), none, some (.long l6), none, some (.int x8), some (.int x9), some (.int x10), none, none] [] I J := by
  refine g_iload dc_CU_offerWithoutTwo_44 rfl rfl ?_
  refine g_iload dc_CU_offerWithoutTwo_46 rfl rfl ?_
  refine g_ic_gt (tgt := 99) dc_CU_offerWithoutTwo_48 rfl (by decide) (fun c1 => ?_) (fun c1 => ?_)
  · refine g_iinc (v := (x9 + 1)) (L' := [some (.ref 33), some (.ref o1), some (.ref o2), some (.int x3), some (.int x4), none, some (.long l6), none, some (.int x8), some (.int (x9 + 1)), some (.int x10), none, none]) dc_CU_offerWithoutTwo_99 rfl rfl (by rw [show Int32.ofInt 1 = 1 from by decide]) (Nat.le_of_ble_eq_true rfl) rfl ?_
    refine g_goto (tgt := 31) dc_CU_offerWithoutTwo_102 (by decide) ?_
    refine g_weak [some (.ref 33), some (.ref o1), some (.ref o2), some (.int x3), some (.int x4), none, some (.long l6), none, some (.int x8), some (.int (x9 + 1)), none, none, none] ⟨rfl, ⟨rfl, ⟨rfl, ⟨rfl, ⟨rfl, ⟨rfl, ⟨rfl, ⟨rfl, trivial⟩⟩⟩⟩⟩⟩⟩⟩ ?_
    exact (k1 c1)
  · refine g_aload_n dc_CU_offerWithoutTwo_51 rfl rfl rfl ?_
    refine g_aload_n dc_CU_offerWithoutTwo_52 rfl rfl rfl ?_
    refine g_iload dc_CU_offerWithoutTwo_53 rfl rfl ?_
    refine g_iload dc_CU_offerWithoutTwo_55 rfl rfl ?_
    exact g_callM_above (As := [.ref o1, .int x9, .int x10]) (rest := []) h2 ml_CU_109 rfl rfl (Nat.le_of_ble_eq_true rfl) dc_CU_offerWithoutTwo_57 rfl rOk_fr (k2 c1)
theorem w_CU_offerWithoutTwo_60 {G : GC} {d : Nat} {P : PT} {I : MI} {J : MJ} {o1 : Nat} (h1 : PtsAt o1) {o2 : Nat} (h2 : MesAt o2) {x3 : Int32} {x4 : Int32} {l6 : Int64} {x8 : Int32} {x9 : Int32} {x10 : Int32} {s0 : Int64} (k1 : (l6 = (-1)) → Go G (fr G m_CU_offerWithoutTwo (d + 3) P) 79 [some (.ref 33), some (.ref o1), some (.ref o2), some (.int x3), some (.int x4), none, none, none, none, some (.int x9), some (.int x10), some (.long s0), none] [] I J) (k2 : (¬ (l6 = (-1))) → (l6 ≤ s0) → Go G (fr G m_CU_offerWithoutTwo (d + 3) P) 93 [some (.ref 33), some (.ref o1), some (.ref o2), some (.int x3), some (.int x4), none, some (.long l6), none, some (.int x8), some (.int x9), some (.int x10), none, none] [] I J) (k3 : (¬ (l6 = (-1))) → (¬ (l6 ≤ s0)) → Go G (fr G m_CU_offerWithoutTwo (d + 3) P) 79 [some (.ref 33), some (.ref o1), some (.ref o2), some (.int x3), some (.int x4), none, none, none, none, some (.int x9), some (.int x10), some (.long s0), none] [] I J) : Go G (fr G m_CU_offerWithoutTwo (d + 3) P) 60 [some (.ref 33), some (.ref o1), some (.ref o2), some (.int x3), some (.int x4), none, some (.long l6), none, some (.int x8), some (.int x9), some (.int x10), none, none] [.long s0] I J := by
  refine g_lstore (L' := [some (.ref 33), some (.ref o1), some (.ref o2), some (.int x3), some (.int x4), none, some (.long l6), none, some (.int x8), some (.int x9), some (.int x10), some (.long s0), none]) dc_CU_offerWithoutTwo_60 rfl (Nat.le_of_ble_eq_true rfl) rfl ?_
  refine g_lload dc_CU_offerWithoutTwo_62 rfl rfl ?_
  refine g_ldc2 (v := (-1)) kl_CU_95 dc_CU_offerWithoutTwo_64 rfl ?_
  refine g_lc_eq (tgt := 79) dc_CU_offerWithoutTwo_67 rfl dc_CU_offerWithoutTwo_68 rfl (by decide) (fun c1 => ?_) (fun c1 => ?_)
  · refine g_weak [some (.ref 33), some (.ref o1), some (.ref o2), some (.int x3), some (.int x4), none, none, none, none, some (.int x9), some (.int x10), some (.long s0), none] ⟨rfl, ⟨rfl, ⟨rfl, ⟨rfl, ⟨rfl, ⟨rfl, ⟨rfl, ⟨rfl, trivial⟩⟩⟩⟩⟩⟩⟩⟩ ?_
    exact (k1 c1)
  · refine g_lload dc_CU_offerWithoutTwo_71 rfl rfl ?_
    refine g_lload dc_CU_offerWithoutTwo_73 rfl rfl ?_
    refine g_lc_ge (tgt := 93) dc_CU_offerWithoutTwo_75 rfl dc_CU_offerWithoutTwo_76 rfl (by decide) (fun c2 => ?_) (fun c2 => ?_)
    · refine g_weak [some (.ref 33), some (.ref o1), some (.ref o2), some (.int x3), some (.int x4), none, some (.long l6), none, some (.int x8), some (.int x9), some (.int x10), none, none] ⟨rfl, ⟨rfl, ⟨rfl, ⟨rfl, ⟨rfl, ⟨rfl, ⟨rfl, ⟨rfl, ⟨rfl, trivial⟩⟩⟩⟩⟩⟩⟩⟩⟩ ?_
      exact (k2 c1 c2)
    · refine g_weak [some (.ref 33), some (.ref o1), some (.ref o2), some (.int x3), some (.int x4), none, none, none, none, some (.int x9), some (.int x10), some (.long s0), none] ⟨rfl, ⟨rfl, ⟨rfl, ⟨rfl, ⟨rfl, ⟨rfl, ⟨rfl, ⟨rfl, trivial⟩⟩⟩⟩⟩⟩⟩⟩ ?_
      exact (k3 c1 c2)
theorem w_CU_offerWithoutTwo_79 {G : GC} {d : Nat} {P : PT} {I : MI} {J : MJ} {o1 : Nat} (h1 : PtsAt o1) {o2 : Nat} (h2 : MesAt o2) {x3 : Int32} {x4 : Int32} {x9 : Int32} {x10 : Int32} {l11 : Int64} (k1 : Go G (fr G m_CU_offerWithoutTwo (d + 3) P) 93 [some (.ref 33), some (.ref o1), some (.ref o2), some (.int x3), some (.int x4), none, some (.long l11), none, some (.int ((x9 * 40) + x10)), some (.int x9), some (.int x10), none, none] [] I J) : Go G (fr G m_CU_offerWithoutTwo (d + 3) P) 79 [some (.ref 33), some (.ref o1), some (.ref o2), some (.int x3), some (.int x4), none, none, none, none, some (.int x9), some (.int x10), some (.long l11), none] [] I J := by
  refine g_lload dc_CU_offerWithoutTwo_79 rfl rfl ?_
  refine g_lstore (L' := [some (.ref 33), some (.ref o1), some (.ref o2), some (.int x3), some (.int x4), none, some (.long l11), none, none, some (.int x9), some (.int x10), some (.long l11), none]) dc_CU_offerWithoutTwo_81 rfl (Nat.le_of_ble_eq_true rfl) rfl ?_
  refine g_iload dc_CU_offerWithoutTwo_83 rfl rfl ?_
  refine g_bipush (v := 40) dc_CU_offerWithoutTwo_85 rfl (by decide) ?_
  refine g_imul dc_CU_offerWithoutTwo_87 rfl ?_
  refine g_iload dc_CU_offerWithoutTwo_88 rfl rfl ?_
  refine g_iadd dc_CU_offerWithoutTwo_90 rfl ?_
  refine g_istore (L' := [some (.ref 33), some (.ref o1), some (.ref o2), some (.int x3), some (.int x4), none, some (.long l11), none, some (.int ((x9 * 40) + x10)), some (.int x9), some (.int x10), some (.long l11), none]) dc_CU_offerWithoutTwo_91 rfl (Nat.le_of_ble_eq_true rfl) rfl ?_
  refine g_weak [some (.ref 33), some (.ref o1), some (.ref o2), some (.int x3), some (.int x4), none, some (.long l11), none, some (.int ((x9 * 40) + x10)), some (.int x9), some (.int x10), none, none] ⟨rfl, ⟨rfl, ⟨rfl, ⟨rfl, ⟨rfl, ⟨rfl, ⟨rfl, ⟨rfl, ⟨rfl, trivial⟩⟩⟩⟩⟩⟩⟩⟩⟩ ?_
  exact k1
theorem w_CU_offerWithoutTwo_93 {G : GC} {d : Nat} {P : PT} {I : MI} {J : MJ} {o1 : Nat} (h1 : PtsAt o1) {o2 : Nat} (h2 : MesAt o2) {x3 : Int32} {x4 : Int32} {l6 : Int64} {x8 : Int32} {x9 : Int32} {x10 : Int32} (k1 : Go G (fr G m_CU_offerWithoutTwo (d + 3) P) 44 [some (.ref 33), some (.ref o1), some (.ref o2), some (.int x3), some (.int x4), none, some (.long l6), none, some (.int x8), some (.int x9), some (.int (x10 + 1)), none, none] [] I J) : Go G (fr G m_CU_offerWithoutTwo (d + 3) P) 93 [some (.ref 33), some (.ref o1), some (.ref o2), some (.int x3), some (.int x4), none, some (.long l6), none, some (.int x8), some (.int x9), some (.int x10), none, none] [] I J := by
  refine g_iinc (v := (x10 + 1)) (L' := [some (.ref 33), some (.ref o1), some (.ref o2), some (.int x3), some (.int x4), none, some (.long l6), none, some (.int x8), some (.int x9), some (.int (x10 + 1)), none, none]) dc_CU_offerWithoutTwo_93 rfl rfl (by rw [show Int32.ofInt 1 = 1 from by decide]) (Nat.le_of_ble_eq_true rfl) rfl ?_
  refine g_goto (tgt := 44) dc_CU_offerWithoutTwo_96 (by decide) ?_
  exact k1
theorem w_CU_offerWithoutTwo_117 {G : GC} {d : Nat} {P : PT} {I : MI} {J : MJ} {x8 : Int32} {y1 : Int32} {y2 : Int32} {y3 : Int32} {s4 : Int64} {y5 : Int32} (k1 : Ct G (d + 2) m_CU_offer [.ref 33, .int y1, .int y2, .int y3, .long s4, .int y5, .int x8] (fun r I' J' => Go G (fr G m_CU_offerWithoutTwo (d + 3) P) 122 [none, none, none, none, none, none, none, none, none, none, none, none, none] (r.toList ++ []) I' J') I J) : Go G (fr G m_CU_offerWithoutTwo (d + 3) P) 117 [none, none, none, none, none, none, none, none, some (.int x8), none, none, none, none] [.int y5, .long s4, .int y3, .int y2, .int y1, .ref 33] I J := by
  refine g_iload dc_CU_offerWithoutTwo_117 rfl rfl ?_
  refine g_weak [none, none, none, none, none, none, none, none, none, none, none, none, none] trivial ?_
  exact g_callV (T := T_CU) (N := 13) (As := [.int y1, .int y2, .int y3, .long s4, .int y5, .int x8]) (rest := []) ok_CU_offer in_CU_offer se_CU_offer ml_CU_97 sh_33 (by decide) rfl rfl rfl (Nat.le_of_ble_eq_true rfl) dc_CU_offerWithoutTwo_119 rfl rOk_fr k1
theorem w_CU_offerWithoutTwo_122 {G : GC} {d : Nat} {P : PT} {I : MI} {J : MJ}  (q1 : P none I J) : Go G (fr G m_CU_offerWithoutTwo (d + 3) P) 122 [none, none, none, none, none, none, none, none, none, none, none, none, none] [] I J := by
  exact g_vret rfl dc_CU_offerWithoutTwo_122 q1
theorem dc_CU_setBound_0 : decode prog_5_method_23_code 0 = .ok (.iconst 0, 1) := by decide +kernel
theorem dc_CU_setBound_1 : decode prog_5_method_23_code 1 = .ok (.iload_n 1, 1) := by decide +kernel
theorem dc_CU_setBound_2 : decode prog_5_method_23_code 2 = .ok (.iconst 0, 1) := by decide +kernel
theorem dc_CU_setBound_3 : decode prog_5_method_23_code 3 = .ok (.invokestatic 122, 3) := by decide +kernel
theorem dc_CU_setBound_6 : decode prog_5_method_23_code 6 = .ok (.istore_n 3, 1) := by decide +kernel
theorem dc_CU_setBound_7 : decode prog_5_method_23_code 7 = .ok (.bipush 100, 2) := by decide +kernel
theorem dc_CU_setBound_9 : decode prog_5_method_23_code 9 = .ok (.iload_n 2, 1) := by decide +kernel
theorem dc_CU_setBound_10 : decode prog_5_method_23_code 10 = .ok (.iadd, 1) := by decide +kernel
theorem dc_CU_setBound_11 : decode prog_5_method_23_code 11 = .ok (.i2l, 1) := by decide +kernel
theorem dc_CU_setBound_12 : decode prog_5_method_23_code 12 = .ok (.aload_n 0, 1) := by decide +kernel
theorem dc_CU_setBound_13 : decode prog_5_method_23_code 13 = .ok (.getfield 32, 3) := by decide +kernel
theorem dc_CU_setBound_16 : decode prog_5_method_23_code 16 = .ok (.iload_n 3, 1) := by decide +kernel
theorem dc_CU_setBound_17 : decode prog_5_method_23_code 17 = .ok (.laload, 1) := by decide +kernel
theorem dc_CU_setBound_18 : decode prog_5_method_23_code 18 = .ok (.lmul, 1) := by decide +kernel
theorem dc_CU_setBound_19 : decode prog_5_method_23_code 19 = .ok (.lstore 4, 2) := by decide +kernel
theorem dc_CU_setBound_21 : decode prog_5_method_23_code 21 = .ok (.aload_n 0, 1) := by decide +kernel
theorem dc_CU_setBound_22 : decode prog_5_method_23_code 22 = .ok (.bipush 100, 2) := by decide +kernel
theorem dc_CU_setBound_24 : decode prog_5_method_23_code 24 = .ok (.iload_n 2, 1) := by decide +kernel
theorem dc_CU_setBound_25 : decode prog_5_method_23_code 25 = .ok (.iadd, 1) := by decide +kernel
theorem dc_CU_setBound_26 : decode prog_5_method_23_code 26 = .ok (.i2l, 1) := by decide +kernel
theorem dc_CU_setBound_27 : decode prog_5_method_23_code 27 = .ok (.aload_n 0, 1) := by decide +kernel
theorem dc_CU_setBound_28 : decode prog_5_method_23_code 28 = .ok (.getfield 28, 3) := by decide +kernel
theorem dc_CU_setBound_31 : decode prog_5_method_23_code 31 = .ok (.iload_n 3, 1) := by decide +kernel
theorem dc_CU_setBound_32 : decode prog_5_method_23_code 32 = .ok (.laload, 1) := by decide +kernel
theorem dc_CU_setBound_33 : decode prog_5_method_23_code 33 = .ok (.lmul, 1) := by decide +kernel
theorem dc_CU_setBound_34 : decode prog_5_method_23_code 34 = .ok (.lload 4, 2) := by decide +kernel
theorem dc_CU_setBound_36 : decode prog_5_method_23_code 36 = .ok (.ldc2_w 129, 3) := by decide +kernel
theorem dc_CU_setBound_39 : decode prog_5_method_23_code 39 = .ok (.ldiv, 1) := by decide +kernel
theorem dc_CU_setBound_40 : decode prog_5_method_23_code 40 = .ok (.ladd, 1) := by decide +kernel
theorem dc_CU_setBound_41 : decode prog_5_method_23_code 41 = .ok (.putfield 168, 3) := by decide +kernel
theorem dc_CU_setBound_44 : decode prog_5_method_23_code 44 = .ok (.aload_n 0, 1) := by decide +kernel
theorem dc_CU_setBound_45 : decode prog_5_method_23_code 45 = .ok (.lload 4, 2) := by decide +kernel
theorem dc_CU_setBound_47 : decode prog_5_method_23_code 47 = .ok (.ldc2_w 129, 3) := by decide +kernel
theorem dc_CU_setBound_50 : decode prog_5_method_23_code 50 = .ok (.lrem, 1) := by decide +kernel
theorem dc_CU_setBound_51 : decode prog_5_method_23_code 51 = .ok (.putfield 172, 3) := by decide +kernel
theorem dc_CU_setBound_54 : decode prog_5_method_23_code 54 = .ok (.return_, 1) := by decide +kernel
theorem w_CU_setBound_0 {G : GC} {d : Nat} {P : PT} {I : MI} {J : MJ} {x1 : Int32} {x2 : Int32} (b1 : vp_in (f_CU_at 0 x1 0) 861) (q2 : P none I (u2 (u2 J 33 10 (((Int32.toInt64 (100 + x2)) * (J 42 (f_CU_at 0 x1 0).toNatClampNeg)) + (((Int32.toInt64 (100 + x2)) * (J 43 (f_CU_at 0 x1 0).toNatClampNeg)) / 5342931457063200))) 33 11 (((Int32.toInt64 (100 + x2)) * (J 43 (f_CU_at 0 x1 0).toNatClampNeg)) - ((Int32.toInt64 (100 + x2)) * (J 43 (f_CU_at 0 x1 0).toNatClampNeg)) / 5342931457063200 * 5342931457063200))) : Go G (fr G m_CU_setBound (d + 1) P) 0 [some (.ref 33), some (.int x1), some (.int x2), none, none, none] [] I J := by
  refine g_iconst (v := 0) dc_CU_setBound_0 rfl (by decide) ?_
  refine g_iload_n dc_CU_setBound_1 rfl rfl rfl ?_
  refine g_iconst (v := 0) dc_CU_setBound_2 rfl (by decide) ?_
  refine g_callS (M := m_CU_at) (As := [.int 0, .int x1, .int 0]) (rest := []) ok_CU_at st_CU_at ml_CU_122 rfl rfl (Nat.le_of_ble_eq_true rfl) dc_CU_setBound_3 rfl rOk_fr (c_CU_at ?_)
  show Go G (fr G m_CU_setBound (d + 1) P) 6 [some (.ref 33), some (.int x1), some (.int x2), none, none, none] [.int (f_CU_at 0 x1 0)] I J
  refine g_istore_n (L' := [some (.ref 33), some (.int x1), some (.int x2), some (.int (f_CU_at 0 x1 0)), none, none]) dc_CU_setBound_6 rfl rfl (Nat.le_of_ble_eq_true rfl) rfl ?_
  refine g_bipush (v := 100) dc_CU_setBound_7 rfl (by decide) ?_
  refine g_iload_n dc_CU_setBound_9 rfl rfl rfl ?_
  refine g_iadd dc_CU_setBound_10 rfl ?_
  refine g_i2l dc_CU_setBound_11 rfl ?_
  refine g_aload_n dc_CU_setBound_12 rfl rfl rfl ?_
  refine g_get (C := "LevelBreaks$Cuts") (T := T_CU) (N := 13) (k := 2) (v := .ref 43) sh_33 (by decide) rfl rfl i_CU (by decide) fl_CU_32 (Or.inl rfl) rfl dc_CU_setBound_13 rfl ?_
  refine g_iload_n dc_CU_setBound_16 rfl rfl rfl ?_
  refine g_laldv (v := (J 43 (f_CU_at 0 x1 0).toNatClampNeg)) sh_43 b1 rfl dc_CU_setBound_17 rfl ?_
  refine g_lmul dc_CU_setBound_18 rfl ?_
  refine g_lstore (L' := [some (.ref 33), some (.int x1), some (.int x2), some (.int (f_CU_at 0 x1 0)), some (.long ((Int32.toInt64 (100 + x2)) * (J 43 (f_CU_at 0 x1 0).toNatClampNeg))), none]) dc_CU_setBound_19 rfl (Nat.le_of_ble_eq_true rfl) rfl ?_
  refine g_aload_n dc_CU_setBound_21 rfl rfl rfl ?_
  refine g_bipush (v := 100) dc_CU_setBound_22 rfl (by decide) ?_
  refine g_iload_n dc_CU_setBound_24 rfl rfl rfl ?_
  refine g_iadd dc_CU_setBound_25 rfl ?_
  refine g_i2l dc_CU_setBound_26 rfl ?_
  refine g_aload_n dc_CU_setBound_27 rfl rfl rfl ?_
  refine g_get (C := "LevelBreaks$Cuts") (T := T_CU) (N := 13) (k := 1) (v := .ref 42) sh_33 (by decide) rfl rfl i_CU (by decide) fl_CU_28 (Or.inl rfl) rfl dc_CU_setBound_28 rfl ?_
  refine g_iload_n dc_CU_setBound_31 rfl rfl rfl ?_
  refine g_laldv (v := (J 42 (f_CU_at 0 x1 0).toNatClampNeg)) sh_42 b1 rfl dc_CU_setBound_32 rfl ?_
  refine g_lmul dc_CU_setBound_33 rfl ?_
  refine g_lload dc_CU_setBound_34 rfl rfl ?_
  refine g_ldc2 (v := 5342931457063200) kl_CU_129 dc_CU_setBound_36 rfl ?_
  refine g_ldiv dc_CU_setBound_39 rfl (by decide) ?_
  refine g_ladd dc_CU_setBound_40 rfl ?_
  refine g_putJ (C := "LevelBreaks$Cuts") (T := T_CU) (N := 13) (k := 10) (ty := t_CU) sh_33 (by decide) rfl rfl i_CU p_CU n_CU (by decide) fl_CU_168 (Or.inl rfl) rfl (by decide) dc_CU_setBound_41 rfl ?_
  refine g_aload_n dc_CU_setBound_44 rfl rfl rfl ?_
  refine g_lload dc_CU_setBound_45 rfl rfl ?_
  refine g_ldc2 (v := 5342931457063200) kl_CU_129 dc_CU_setBound_47 rfl ?_
  refine g_lrem dc_CU_setBound_50 rfl (by decide) ?_
  refine g_putJ (C := "LevelBreaks$Cuts") (T := T_CU) (N := 13) (k := 11) (ty := t_CU) sh_33 (by decide) rfl rfl i_CU p_CU n_CU (by decide) fl_CU_172 (Or.inl rfl) rfl (by decide) dc_CU_setBound_51 rfl ?_
  exact g_vret rfl dc_CU_setBound_54 q2
theorem dc_CU_startDay_0 : decode prog_5_method_15_code 0 = .ok (.aload_n 1, 1) := by decide +kernel
theorem dc_CU_startDay_1 : decode prog_5_method_15_code 1 = .ok (.getfield 105, 3) := by decide +kernel
theorem dc_CU_startDay_4 : decode prog_5_method_15_code 4 = .ok (.aload_n 0, 1) := by decide +kernel
theorem dc_CU_startDay_5 : decode prog_5_method_15_code 5 = .ok (.getfield 51, 3) := by decide +kernel
theorem dc_CU_startDay_8 : decode prog_5_method_15_code 8 = .ok (.iload_n 2, 1) := by decide +kernel
theorem dc_CU_startDay_9 : decode prog_5_method_15_code 9 = .ok (.iaload, 1) := by decide +kernel
theorem dc_CU_startDay_10 : decode prog_5_method_15_code 10 = .ok (.iaload, 1) := by decide +kernel
theorem dc_CU_startDay_11 : decode prog_5_method_15_code 11 = .ok (.ireturn, 1) := by decide +kernel
theorem w_CU_startDay_0 {G : GC} {d : Nat} {P : PT} {I : MI} {J : MJ} {o1 : Nat} (h1 : PtsAt o1) {x2 : Int32} (b1 : vp_in x2 6) (b2 : vp_in (I 49 x2.toNatClampNeg) 40) (q3 : P (some (.int (I (o1 + 2) (I 49 x2.toNatClampNeg).toNatClampNeg))) I J) : Go G (fr G m_CU_startDay d P) 0 [some (.ref 33), some (.ref o1), some (.int x2)] [] I J := by
  refine g_aload_n dc_CU_startDay_0 rfl rfl rfl ?_
  refine g_get (C := "LevelBreaks$Points") (T := T_PO) (N := 5) (k := 1) (v := .ref (o1 + 2)) h1.1 (by decide) rfl rfl i_PO (by decide) fl_CU_105 (Or.inl rfl) rfl dc_CU_startDay_1 rfl ?_
  refine g_aload_n dc_CU_startDay_4 rfl rfl rfl ?_
  refine g_get (C := "LevelBreaks$Cuts") (T := T_CU) (N := 13) (k := 12) (v := .ref 49) sh_33 (by decide) rfl rfl i_CU (by decide) fl_CU_51 (Or.inl rfl) rfl dc_CU_startDay_5 rfl ?_
  refine g_iload_n dc_CU_startDay_8 rfl rfl rfl ?_
  refine g_ialdv (v := (I 49 x2.toNatClampNeg)) sh_49 b1 rfl dc_CU_startDay_9 rfl ?_
  refine g_ialdv (v := (I (o1 + 2) (I 49 x2.toNatClampNeg).toNatClampNeg)) h1.2.2.1 b2 rfl dc_CU_startDay_10 rfl ?_
  exact g_iret rfl dc_CU_startDay_11 q3
theorem dc_CU_startsNear_0 : decode prog_5_method_16_code 0 = .ok (.iconst 1, 1) := by decide +kernel
theorem dc_CU_startsNear_1 : decode prog_5_method_16_code 1 = .ok (.istore 5, 2) := by decide +kernel
theorem dc_CU_startsNear_3 : decode prog_5_method_16_code 3 = .ok (.iload 5, 2) := by decide +kernel
theorem dc_CU_startsNear_5 : decode prog_5_method_16_code 5 = .ok (.iload_n 2, 1) := by decide +kernel
theorem dc_CU_startsNear_6 : decode prog_5_method_16_code 6 = .ok (.if_icmp .ge 28, 3) := by decide +kernel
theorem dc_CU_startsNear_9 : decode prog_5_method_16_code 9 = .ok (.aload_n 0, 1) := by decide +kernel
theorem dc_CU_startsNear_10 : decode prog_5_method_16_code 10 = .ok (.aload_n 1, 1) := by decide +kernel
theorem dc_CU_startsNear_11 : decode prog_5_method_16_code 11 = .ok (.iload 5, 2) := by decide +kernel
theorem dc_CU_startsNear_13 : decode prog_5_method_16_code 13 = .ok (.invokevirtual 139, 3) := by decide +kernel
theorem dc_CU_startsNear_16 : decode prog_5_method_16_code 16 = .ok (.iload_n 3, 1) := by decide +kernel
theorem dc_CU_startsNear_17 : decode prog_5_method_16_code 17 = .ok (.isub, 1) := by decide +kernel
theorem dc_CU_startsNear_18 : decode prog_5_method_16_code 18 = .ok (.invokestatic 143, 3) := by decide +kernel
theorem dc_CU_startsNear_21 : decode prog_5_method_16_code 21 = .ok (.iload 4, 2) := by decide +kernel
theorem dc_CU_startsNear_23 : decode prog_5_method_16_code 23 = .ok (.if_icmp .gt 5, 3) := by decide +kernel
theorem dc_CU_startsNear_26 : decode prog_5_method_16_code 26 = .ok (.iconst 1, 1) := by decide +kernel
theorem dc_CU_startsNear_27 : decode prog_5_method_16_code 27 = .ok (.ireturn, 1) := by decide +kernel
theorem dc_CU_startsNear_28 : decode prog_5_method_16_code 28 = .ok (.iinc 5 1, 3) := by decide +kernel
theorem dc_CU_startsNear_31 : decode prog_5_method_16_code 31 = .ok (.goto (-28), 3) := by decide +kernel
theorem dc_CU_startsNear_34 : decode prog_5_method_16_code 34 = .ok (.iconst 0, 1) := by decide +kernel
theorem dc_CU_startsNear_35 : decode prog_5_method_16_code 35 = .ok (.ireturn, 1) := by decide +kernel
theorem w_CU_startsNear_0 {G : GC} {d : Nat} {P : PT} {I : MI} {J : MJ} {o1 : Nat} (h1 : PtsAt o1) {x2 : Int32} {x3 : Int32} {x4 : Int32} (k1 : Go G (fr G m_CU_startsNear (d + 1) P) 3 [some (.ref 33), some (.ref o1), some (.int x2), some (.int x3), some (.int x4), some (.int 1)] [] I J) : Go G (fr G m_CU_startsNear (d + 1) P) 0 [some (.ref 33), some (.ref o1), some (.int x2), some (.int x3), some (.int x4), none] [] I J := by
  refine g_iconst (v := 1) dc_CU_startsNear_0 rfl (by decide) ?_
  refine g_istore (L' := [some (.ref 33), some (.ref o1), some (.int x2), some (.int x3), some (.int x4), some (.int 1)]) dc_CU_startsNear_1 rfl (Nat.le_of_ble_eq_true rfl) rfl ?_
  exact k1
theorem w_CU_startsNear_3 {G : GC} {d : Nat} {P : PT} {I : MI} {J : MJ} {o1 : Nat} (h1 : PtsAt o1) {x2 : Int32} {x3 : Int32} {x4 : Int32} {x5 : Int32} (q1 : (x2 ≤ x5) → P (some (.int 0)) I J) (k2 : (¬ (x2 ≤ x5)) → Ct G d m_CU_startDay [.ref 33, .ref o1, .int x5] (fun r I' J' => Go G (fr G m_CU_startsNear (d + 1) P) 16 [some (.ref 33), some (.ref o1), some (.int x2), some (.int x3), some (.int x4), some (.int x5)] (r.toList ++ []) I' J') I J) : Go G (fr G m_CU_startsNear (d + 1) P) 3 [some (.ref 33), some (.ref o1), some (.int x2), some (.int x3), some (.int x4), some (.int x5)] [] I J := by
  refine g_iload dc_CU_startsNear_3 rfl rfl ?_
  refine g_iload_n dc_CU_startsNear_5 rfl rfl rfl ?_
  refine g_ic_ge (tgt := 34) dc_CU_startsNear_6 rfl (by decide) (fun c1 => ?_) (fun c1 => ?_)
  · refine g_iconst (v := 0) dc_CU_startsNear_34 rfl (by decide) ?_
    exact g_zret rfl (by decide) dc_CU_startsNear_35 (q1 c1)
  · refine g_aload_n dc_CU_startsNear_9 rfl rfl rfl ?_
    refine g_aload_n dc_CU_startsNear_10 rfl rfl rfl ?_
    refine g_iload dc_CU_startsNear_11 rfl rfl ?_
    exact g_callV (T := T_CU) (N := 13) (As := [.ref o1, .int x5]) (rest := []) ok_CU_startDay in_CU_startDay se_CU_startDay ml_CU_139 sh_33 (by decide) rfl rfl rfl (Nat.le_of_ble_eq_true rfl) dc_CU_startsNear_13 rfl rOk_fr (k2 c1)
theorem w_CU_startsNear_16 {G : GC} {d : Nat} {P : PT} {I : MI} {J : MJ} {o1 : Nat} (h1 : PtsAt o1) {x2 : Int32} {x3 : Int32} {x4 : Int32} {x5 : Int32} {y0 : Int32} (k1 : (x4 < (f_JM_abs_I (y0 - x3))) → Go G (fr G m_CU_startsNear (d + 1) P) 3 [some (.ref 33), some (.ref o1), some (.int x2), some (.int x3), some (.int x4), some (.int (x5 + 1))] [] I J) (q2 : (¬ (x4 < (f_JM_abs_I (y0 - x3)))) → P (some (.int 1)) I J) : Go G (fr G m_CU_startsNear (d + 1) P) 16 [some (.ref 33), some (.ref o1), some (.int x2), some (.int x3), some (.int x4), some (.int x5)] [.int y0] I J := by
  refine g_iload_n dc_CU_startsNear_16 rfl rfl rfl ?_
  refine g_isub dc_CU_startsNear_17 rfl ?_
  refine g_callS (M := m_JM_abs_I) (As := [.int (y0 - x3)]) (rest := []) ok_JM_abs_I st_JM_abs_I ml_CU_143 rfl rfl (Nat.le_of_ble_eq_true rfl) dc_CU_startsNear_18 rfl rOk_fr (c_JM_abs_I ?_)
  show Go G (fr G m_CU_startsNear (d + 1) P) 21 [some (.ref 33), some (.ref o1), some (.int x2), some (.int x3), some (.int x4), some (.int x5)] [.int (f_JM_abs_I (y0 - x3))] I J
  refine g_iload dc_CU_startsNear_21 rfl rfl ?_
  refine g_ic_gt (tgt := 28) dc_CU_startsNear_23 rfl (by decide) (fun c1 => ?_) (fun c1 => ?_)
  · refine g_iinc (v := (x5 + 1)) (L' := [some (.ref 33), some (.ref o1), some (.int x2), some (.int x3), some (.int x4), some (.int (x5 + 1))]) dc_CU_startsNear_28 rfl rfl (by rw [show Int32.ofInt 1 = 1 from by decide]) (Nat.le_of_ble_eq_true rfl) rfl ?_
    refine g_goto (tgt := 3) dc_CU_startsNear_31 (by decide) ?_
    exact (k1 c1)
  · refine g_iconst (v := 1) dc_CU_startsNear_26 rfl (by decide) ?_
    exact g_zret rfl (by decide) dc_CU_startsNear_27 (q2 c1)
theorem dc_CU_stretchesWorth_0 : decode prog_5_method_21_code 0 = .ok (.bipush (-3), 2) := by decide +kernel
theorem dc_CU_stretchesWorth_2 : decode prog_5_method_21_code 2 = .ok (.istore_n 2, 1) := by decide +kernel
theorem dc_CU_stretchesWorth_3 : decode prog_5_method_21_code 3 = .ok (.lconst 0, 1) := by decide +kernel
theorem dc_CU_stretchesWorth_4 : decode prog_5_method_21_code 4 = .ok (.lstore_n 3, 1) := by decide +kernel
theorem dc_CU_stretchesWorth_5 : decode prog_5_method_21_code 5 = .ok (.lconst 0, 1) := by decide +kernel
theorem dc_CU_stretchesWorth_6 : decode prog_5_method_21_code 6 = .ok (.lstore 5, 2) := by decide +kernel
theorem dc_CU_stretchesWorth_8 : decode prog_5_method_21_code 8 = .ok (.iconst 1, 1) := by decide +kernel
theorem dc_CU_stretchesWorth_9 : decode prog_5_method_21_code 9 = .ok (.istore 7, 2) := by decide +kernel
theorem dc_CU_stretchesWorth_11 : decode prog_5_method_21_code 11 = .ok (.iload 7, 2) := by decide +kernel
theorem dc_CU_stretchesWorth_13 : decode prog_5_method_21_code 13 = .ok (.aload_n 0, 1) := by decide +kernel
theorem dc_CU_stretchesWorth_14 : decode prog_5_method_21_code 14 = .ok (.getfield 113, 3) := by decide +kernel
theorem dc_CU_stretchesWorth_17 : decode prog_5_method_21_code 17 = .ok (.if_icmp .gt 101, 3) := by decide +kernel
theorem dc_CU_stretchesWorth_20 : decode prog_5_method_21_code 20 = .ok (.iconst 0, 1) := by decide +kernel
theorem dc_CU_stretchesWorth_21 : decode prog_5_method_21_code 21 = .ok (.iload 7, 2) := by decide +kernel
theorem dc_CU_stretchesWorth_23 : decode prog_5_method_21_code 23 = .ok (.iconst 0, 1) := by decide +kernel
theorem dc_CU_stretchesWorth_24 : decode prog_5_method_21_code 24 = .ok (.invokestatic 122, 3) := by decide +kernel
theorem dc_CU_stretchesWorth_27 : decode prog_5_method_21_code 27 = .ok (.istore 8, 2) := by decide +kernel
theorem dc_CU_stretchesWorth_29 : decode prog_5_method_21_code 29 = .ok (.aload_n 0, 1) := by decide +kernel
theorem dc_CU_stretchesWorth_30 : decode prog_5_method_21_code 30 = .ok (.getfield 28, 3) := by decide +kernel
theorem dc_CU_stretchesWorth_33 : decode prog_5_method_21_code 33 = .ok (.iload 8, 2) := by decide +kernel
theorem dc_CU_stretchesWorth_35 : decode prog_5_method_21_code 35 = .ok (.laload, 1) := by decide +kernel
theorem dc_CU_stretchesWorth_36 : decode prog_5_method_21_code 36 = .ok (.ldc2_w 95, 3) := by decide +kernel
theorem dc_CU_stretchesWorth_39 : decode prog_5_method_21_code 39 = .ok (.lcmp, 1) := by decide +kernel
theorem dc_CU_stretchesWorth_40 : decode prog_5_method_21_code 40 = .ok (.ifCond .ne 6, 3) := by decide +kernel
theorem dc_CU_stretchesWorth_43 : decode prog_5_method_21_code 43 = .ok (.goto 75, 3) := by decide +kernel
theorem dc_CU_stretchesWorth_46 : decode prog_5_method_21_code 46 = .ok (.aload_n 0, 1) := by decide +kernel
theorem dc_CU_stretchesWorth_47 : decode prog_5_method_21_code 47 = .ok (.getfield 28, 3) := by decide +kernel
theorem dc_CU_stretchesWorth_50 : decode prog_5_method_21_code 50 = .ok (.iload 8, 2) := by decide +kernel
theorem dc_CU_stretchesWorth_52 : decode prog_5_method_21_code 52 = .ok (.laload, 1) := by decide +kernel
theorem dc_CU_stretchesWorth_53 : decode prog_5_method_21_code 53 = .ok (.iload_n 1, 1) := by decide +kernel
theorem dc_CU_stretchesWorth_54 : decode prog_5_method_21_code 54 = .ok (.i2l, 1) := by decide +kernel
theorem dc_CU_stretchesWorth_55 : decode prog_5_method_21_code 55 = .ok (.iload 7, 2) := by decide +kernel
theorem dc_CU_stretchesWorth_57 : decode prog_5_method_21_code 57 = .ok (.iconst 1, 1) := by decide +kernel
theorem dc_CU_stretchesWorth_58 : decode prog_5_method_21_code 58 = .ok (.isub, 1) := by decide +kernel
theorem dc_CU_stretchesWorth_59 : decode prog_5_method_21_code 59 = .ok (.i2l, 1) := by decide +kernel
theorem dc_CU_stretchesWorth_60 : decode prog_5_method_21_code 60 = .ok (.lmul, 1) := by decide +kernel
theorem dc_CU_stretchesWorth_61 : decode prog_5_method_21_code 61 = .ok (.ladd, 1) := by decide +kernel
theorem dc_CU_stretchesWorth_62 : decode prog_5_method_21_code 62 = .ok (.lstore 9, 2) := by decide +kernel
theorem dc_CU_stretchesWorth_64 : decode prog_5_method_21_code 64 = .ok (.iload_n 2, 1) := by decide +kernel
theorem dc_CU_stretchesWorth_65 : decode prog_5_method_21_code 65 = .ok (.bipush (-3), 2) := by decide +kernel
theorem dc_CU_stretchesWorth_67 : decode prog_5_method_21_code 67 = .ok (.if_icmp .eq 30, 3) := by decide +kernel
theorem dc_CU_stretchesWorth_70 : decode prog_5_method_21_code 70 = .ok (.lload 9, 2) := by decide +kernel
theorem dc_CU_stretchesWorth_72 : decode prog_5_method_21_code 72 = .ok (.lload_n 3, 1) := by decide +kernel
theorem dc_CU_stretchesWorth_73 : decode prog_5_method_21_code 73 = .ok (.lcmp, 1) := by decide +kernel
theorem dc_CU_stretchesWorth_74 : decode prog_5_method_21_code 74 = .ok (.ifCond .lt 23, 3) := by decide +kernel
theorem dc_CU_stretchesWorth_77 : decode prog_5_method_21_code 77 = .ok (.lload 9, 2) := by decide +kernel
theorem dc_CU_stretchesWorth_79 : decode prog_5_method_21_code 79 = .ok (.lload_n 3, 1) := by decide +kernel
theorem dc_CU_stretchesWorth_80 : decode prog_5_method_21_code 80 = .ok (.lcmp, 1) := by decide +kernel
theorem dc_CU_stretchesWorth_81 : decode prog_5_method_21_code 81 = .ok (.ifCond .ne 31, 3) := by decide +kernel
theorem dc_CU_stretchesWorth_84 : decode prog_5_method_21_code 84 = .ok (.aload_n 0, 1) := by decide +kernel
theorem dc_CU_stretchesWorth_85 : decode prog_5_method_21_code 85 = .ok (.getfield 32, 3) := by decide +kernel
theorem dc_CU_stretchesWorth_88 : decode prog_5_method_21_code 88 = .ok (.iload 8, 2) := by decide +kernel
theorem dc_CU_stretchesWorth_90 : decode prog_5_method_21_code 90 = .ok (.laload, 1) := by decide +kernel
theorem dc_CU_stretchesWorth_91 : decode prog_5_method_21_code 91 = .ok (.lload 5, 2) := by decide +kernel
theorem dc_CU_stretchesWorth_93 : decode prog_5_method_21_code 93 = .ok (.lcmp, 1) := by decide +kernel
theorem dc_CU_stretchesWorth_94 : decode prog_5_method_21_code 94 = .ok (.ifCond .ge 18, 3) := by decide +kernel
theorem dc_CU_stretchesWorth_97 : decode prog_5_method_21_code 97 = .ok (.iload 7, 2) := by decide +kernel
theorem dc_CU_stretchesWorth_99 : decode prog_5_method_21_code 99 = .ok (.istore_n 2, 1) := by decide +kernel
theorem dc_CU_stretchesWorth_100 : decode prog_5_method_21_code 100 = .ok (.lload 9, 2) := by decide +kernel
theorem dc_CU_stretchesWorth_102 : decode prog_5_method_21_code 102 = .ok (.lstore_n 3, 1) := by decide +kernel
theorem dc_CU_stretchesWorth_103 : decode prog_5_method_21_code 103 = .ok (.aload_n 0, 1) := by decide +kernel
theorem dc_CU_stretchesWorth_104 : decode prog_5_method_21_code 104 = .ok (.getfield 32, 3) := by decide +kernel
theorem dc_CU_stretchesWorth_107 : decode prog_5_method_21_code 107 = .ok (.iload 8, 2) := by decide +kernel
theorem dc_CU_stretchesWorth_109 : decode prog_5_method_21_code 109 = .ok (.laload, 1) := by decide +kernel
theorem dc_CU_stretchesWorth_110 : decode prog_5_method_21_code 110 = .ok (.lstore 5, 2) := by decide +kernel
theorem dc_CU_stretchesWorth_112 : decode prog_5_method_21_code 112 = .ok (.iinc 7 1, 3) := by decide +kernel
theorem dc_CU_stretchesWorth_115 : decode prog_5_method_21_code 115 = .ok (.goto (-104), 3) := by decide +kernel
theorem dc_CU_stretchesWorth_118 : decode prog_5_method_21_code 118 = .ok (.iload_n 2, 1) := by decide +kernel
theorem dc_CU_stretchesWorth_119 : decode prog_5_method_21_code 119 = .ok (.ireturn, 1) := by decide +kernel
theorem w_CU_stretchesWorth_0 {G : GC} {d : Nat} {P : PT} {I : MI} {J : MJ} {x1 : Int32} (k1 : Go G (fr G m_CU_stretchesWorth (d + 1) P) 11 [some (.ref 33), some (.int x1), some (.int (-3)), some (.long 0), none, some (.long 0), none, some (.int 1), none, none, none] [] I J) : Go G (fr G m_CU_stretchesWorth (d + 1) P) 0 [some (.ref 33), some (.int x1), none, none, none, none, none, none, none, none, none] [] I J := by
  refine g_bipush (v := (-3)) dc_CU_stretchesWorth_0 rfl (by decide) ?_
  refine g_istore_n (L' := [some (.ref 33), some (.int x1), some (.int (-3)), none, none, none, none, none, none, none, none]) dc_CU_stretchesWorth_2 rfl rfl (Nat.le_of_ble_eq_true rfl) rfl ?_
  refine g_lconst (v := 0) dc_CU_stretchesWorth_3 rfl (by decide) ?_
  refine g_lstore_n (L' := [some (.ref 33), some (.int x1), some (.int (-3)), some (.long 0), none, none, none, none, none, none, none]) dc_CU_stretchesWorth_4 rfl rfl (Nat.le_of_ble_eq_true rfl) rfl ?_
  refine g_lconst (v := 0) dc_CU_stretchesWorth_5 rfl (by decide) ?_
  refine g_lstore (L' := [some (.ref 33), some (.int x1), some (.int (-3)), some (.long 0), none, some (.long 0), none, none, none, none, none]) dc_CU_stretchesWorth_6 rfl (Nat.le_of_ble_eq_true rfl) rfl ?_
  refine g_iconst (v := 1) dc_CU_stretchesWorth_8 rfl (by decide) ?_
  refine g_istore (L' := [some (.ref 33), some (.int x1), some (.int (-3)), some (.long 0), none, some (.long 0), none, some (.int 1), none, none, none]) dc_CU_stretchesWorth_9 rfl (Nat.le_of_ble_eq_true rfl) rfl ?_
  exact k1
theorem w_CU_stretchesWorth_11 {G : GC} {d : Nat} {P : PT} {I : MI} {J : MJ} {x1 : Int32} {x2 : Int32} {l3 : Int64} {l5 : Int64} {x7 : Int32} (k1 : ((I 33 8) < x7) → Go G (fr G m_CU_stretchesWorth (d + 1) P) 118 [none, none, some (.int x2), none, none, none, none, none, none, none, none] [] I J) (b2 : (¬ ((I 33 8) < x7)) → vp_in (f_CU_at 0 x7 0) 861) (k3 : (¬ ((I 33 8) < x7)) → (¬ (J 42 (f_CU_at 0 x7 0).toNatClampNeg) = (-1)) → (x2 = (-3)) → Go G (fr G m_CU_stretchesWorth (d + 1) P) 97 [some (.ref 33), some (.int x1), none, none, none, none, none, some (.int x7), some (.int (f_CU_at 0 x7 0)), some (.long ((J 42 (f_CU_at 0 x7 0).toNatClampNeg) + ((Int32.toInt64 x1) * (Int32.toInt64 (x7 - 1))))), none] [] I J) (k4 : (¬ ((I 33 8) < x7)) → (¬ (J 42 (f_CU_at 0 x7 0).toNatClampNeg) = (-1)) → (¬ (x2 = (-3))) → (((J 42 (f_CU_at 0 x7 0).toNatClampNeg) + ((Int32.toInt64 x1) * (Int32.toInt64 (x7 - 1)))) < l3) → Go G (fr G m_CU_stretchesWorth (d + 1) P) 97 [some (.ref 33), some (.int x1), none, none, none, none, none, some (.int x7), some (.int (f_CU_at 0 x7 0)), some (.long ((J 42 (f_CU_at 0 x7 0).toNatClampNeg) + ((Int32.toInt64 x1) * (Int32.toInt64 (x7 - 1))))), none] [] I J) (k5 : (¬ ((I 33 8) < x7)) → (¬ (J 42 (f_CU_at 0 x7 0).toNatClampNeg) = (-1)) → (¬ (x2 = (-3))) → (¬ (((J 42 (f_CU_at 0 x7 0).toNatClampNeg) + ((Int32.toInt64 x1) * (Int32.toInt64 (x7 - 1)))) < l3)) → (¬ ((J 42 (f_CU_at 0 x7 0).toNatClampNeg) + ((Int32.toInt64 x1) * (Int32.toInt64 (x7 - 1)))) = l3) → Go G (fr G m_CU_stretchesWorth (d + 1) P) 112 [some (.ref 33), some (.int x1), some (.int x2), some (.long l3), none, some (.long l5), none, some (.int x7), none, none, none] [] I J) (k6 : (¬ ((I 33 8) < x7)) → (¬ (J 42 (f_CU_at 0 x7 0).toNatClampNeg) = (-1)) → (¬ (x2 = (-3))) → (¬ (((J 42 (f_CU_at 0 x7 0).toNatClampNeg) + ((Int32.toInt64 x1) * (Int32.toInt64 (x7 - 1)))) < l3)) → (((J 42 (f_CU_at 0 x7 0).toNatClampNeg) + ((Int32.toInt64 x1) * (Int32.toInt64 (x7 - 1)))) = l3) → (l5 ≤ (J 43 (f_CU_at 0 x7 0).toNatClampNeg)) → Go G (fr G m_CU_stretchesWorth (d + 1) P) 112 [some (.ref 33), some (.int x1), some (.int x2), some (.long l3), none, some (.long l5), none, some (.int x7), none, none, none] [] I J) (k7 : (¬ ((I 33 8) < x7)) → (¬ (J 42 (f_CU_at 0 x7 0).toNatClampNeg) = (-1)) → (¬ (x2 = (-3))) → (¬ (((J 42 (f_CU_at 0 x7 0).toNatClampNeg) + ((Int32.toInt64 x1) * (Int32.toInt64 (x7 - 1)))) < l3)) → (((J 42 (f_CU_at 0 x7 0).toNatClampNeg) + ((Int32.toInt64 x1) * (Int32.toInt64 (x7 - 1)))) = l3) → (¬ (l5 ≤ (J 43 (f_CU_at 0 x7 0).toNatClampNeg))) → Go G (fr G m_CU_stretchesWorth (d + 1) P) 97 [some (.ref 33), some (.int x1), none, none, none, none, none, some (.int x7), some (.int (f_CU_at 0 x7 0)), some (.long ((J 42 (f_CU_at 0 x7 0).toNatClampNeg) + ((Int32.toInt64 x1) * (Int32.toInt64 (x7 - 1))))), none] [] I J) (k8 : (¬ ((I 33 8) < x7)) → ((J 42 (f_CU_at 0 x7 0).toNatClampNeg) = (-1)) → Go G (fr G m_CU_stretchesWorth (d + 1) P) 118 [none, none, some (.int x2), none, none, none, none, none, none, none, none] [] I J) : Go G (fr G m_CU_stretchesWorth (d + 1) P) 11 [some (.ref 33), some (.int x1), some (.int x2), some (.long l3), none, some (.long l5), none, some (.int x7), none, none, none] [] I J := by
  refine g_iload dc_CU_stretchesWorth_11 rfl rfl ?_
  refine g_aload_n dc_CU_stretchesWorth_13 rfl rfl rfl ?_
  refine g_get (C := "LevelBreaks$Cuts") (T := T_CU) (N := 13) (k := 8) (v := .int (I 33 8)) sh_33 (by decide) rfl rfl i_CU (by decide) fl_CU_113 (Or.inl rfl) rfl dc_CU_stretchesWorth_14 rfl ?_
  refine g_ic_gt (tgt := 118) dc_CU_stretchesWorth_17 rfl (by decide) (fun c1 => ?_) (fun c1 => ?_)
  · refine g_weak [none, none, some (.int x2), none, none, none, none, none, none, none, none] ⟨rfl, trivial⟩ ?_
    exact (k1 c1)
  · refine g_iconst (v := 0) dc_CU_stretchesWorth_20 rfl (by decide) ?_
    refine g_iload dc_CU_stretchesWorth_21 rfl rfl ?_
    refine g_iconst (v := 0) dc_CU_stretchesWorth_23 rfl (by decide) ?_
    refine g_callS (M := m_CU_at) (As := [.int 0, .int x7, .int 0]) (rest := []) ok_CU_at st_CU_at ml_CU_122 rfl rfl (Nat.le_of_ble_eq_true rfl) dc_CU_stretchesWorth_24 rfl rOk_fr (c_CU_at ?_)
    show Go G (fr G m_CU_stretchesWorth (d + 1) P) 27 [some (.ref 33), some (.int x1), some (.int x2), some (.long l3), none, some (.long l5), none, some (.int x7), none, none, none] [.int (f_CU_at 0 x7 0)] I J
    refine g_istore (L' := [some (.ref 33), some (.int x1), some (.int x2), some (.long l3), none, some (.long l5), none, some (.int x7), some (.int (f_CU_at 0 x7 0)), none, none]) dc_CU_stretchesWorth_27 rfl (Nat.le_of_ble_eq_true rfl) rfl ?_
    refine g_aload_n dc_CU_stretchesWorth_29 rfl rfl rfl ?_
    refine g_get (C := "LevelBreaks$Cuts") (T := T_CU) (N := 13) (k := 1) (v := .ref 42) sh_33 (by decide) rfl rfl i_CU (by decide) fl_CU_28 (Or.inl rfl) rfl dc_CU_stretchesWorth_30 rfl ?_
    refine g_iload dc_CU_stretchesWorth_33 rfl rfl ?_
    refine g_laldv (v := (J 42 (f_CU_at 0 x7 0).toNatClampNeg)) sh_42 (b2 c1) rfl dc_CU_stretchesWorth_35 rfl ?_
    refine g_ldc2 (v := (-1)) kl_CU_95 dc_CU_stretchesWorth_36 rfl ?_
    refine g_lc_ne (tgt := 46) dc_CU_stretchesWorth_39 rfl dc_CU_stretchesWorth_40 rfl (by decide) (fun c2 => ?_) (fun c2 => ?_)
    · refine g_aload_n dc_CU_stretchesWorth_46 rfl rfl rfl ?_
      refine g_get (C := "LevelBreaks$Cuts") (T := T_CU) (N := 13) (k := 1) (v := .ref 42) sh_33 (by decide) rfl rfl i_CU (by decide) fl_CU_28 (Or.inl rfl) rfl dc_CU_stretchesWorth_47 rfl ?_
      refine g_iload dc_CU_stretchesWorth_50 rfl rfl ?_
      refine g_laldv (v := (J 42 (f_CU_at 0 x7 0).toNatClampNeg)) sh_42 (b2 c1) rfl dc_CU_stretchesWorth_52 rfl ?_
      refine g_iload_n dc_CU_stretchesWorth_53 rfl rfl rfl ?_
      refine g_i2l dc_CU_stretchesWorth_54 rfl ?_
      refine g_iload dc_CU_stretchesWorth_55 rfl rfl ?_
      refine g_iconst (v := 1) dc_CU_stretchesWorth_57 rfl (by decide) ?_
      refine g_isub dc_CU_stretchesWorth_58 rfl ?_
      refine g_i2l dc_CU_stretchesWorth_59 rfl ?_
      refine g_lmul dc_CU_stretchesWorth_60 rfl ?_
      refine g_ladd dc_CU_stretchesWorth_61 rfl ?_
      refine g_lstore (L' := [some (.ref 33), some (.int x1), some (.int x2), some (.long l3), none, some (.long l5), none, some (.int x7), some (.int (f_CU_at 0 x7 0)), some (.long ((J 42 (f_CU_at 0 x7 0).toNatClampNeg) + ((Int32.toInt64 x1) * (Int32.toInt64 (x7 - 1))))), none]) dc_CU_stretchesWorth_62 rfl (Nat.le_of_ble_eq_true rfl) rfl ?_
      refine g_iload_n dc_CU_stretchesWorth_64 rfl rfl rfl ?_
      refine g_bipush (v := (-3)) dc_CU_stretchesWorth_65 rfl (by decide) ?_
      refine g_ic_eq (tgt := 97) dc_CU_stretchesWorth_67 rfl (by decide) (fun c3 => ?_) (fun c3 => ?_)
      · refine g_weak [some (.ref 33), some (.int x1), none, none, none, none, none, some (.int x7), some (.int (f_CU_at 0 x7 0)), some (.long ((J 42 (f_CU_at 0 x7 0).toNatClampNeg) + ((Int32.toInt64 x1) * (Int32.toInt64 (x7 - 1))))), none] ⟨rfl, ⟨rfl, ⟨rfl, ⟨rfl, ⟨rfl, trivial⟩⟩⟩⟩⟩ ?_
        exact (k3 c1 c2 c3)
      · refine g_lload dc_CU_stretchesWorth_70 rfl rfl ?_
        refine g_lload_n dc_CU_stretchesWorth_72 rfl rfl rfl ?_
        refine g_lc_lt (tgt := 97) dc_CU_stretchesWorth_73 rfl dc_CU_stretchesWorth_74 rfl (by decide) (fun c4 => ?_) (fun c4 => ?_)
        · refine g_weak [some (.ref 33), some (.int x1), none, none, none, none, none, some (.int x7), some (.int (f_CU_at 0 x7 0)), some (.long ((J 42 (f_CU_at 0 x7 0).toNatClampNeg) + ((Int32.toInt64 x1) * (Int32.toInt64 (x7 - 1))))), none] ⟨rfl, ⟨rfl, ⟨rfl, ⟨rfl, ⟨rfl, trivial⟩⟩⟩⟩⟩ ?_
          exact (k4 c1 c2 c3 c4)
        · refine g_lload dc_CU_stretchesWorth_77 rfl rfl ?_
          refine g_lload_n dc_CU_stretchesWorth_79 rfl rfl rfl ?_
          refine g_lc_ne (tgt := 112) dc_CU_stretchesWorth_80 rfl dc_CU_stretchesWorth_81 rfl (by decide) (fun c5 => ?_) (fun c5 => ?_)
          · refine g_weak [some (.ref 33), some (.int x1), some (.int x2), some (.long l3), none, some (.long l5), none, some (.int x7), none, none, none] ⟨rfl, ⟨rfl, ⟨rfl, ⟨rfl, ⟨rfl, ⟨rfl, trivial⟩⟩⟩⟩⟩⟩ ?_
            exact (k5 c1 c2 c3 c4 c5)
          · refine g_aload_n dc_CU_stretchesWorth_84 rfl rfl rfl ?_
            refine g_get (C := "LevelBreaks$Cuts") (T := T_CU) (N := 13) (k := 2) (v := .ref 43) sh_33 (by decide) rfl rfl i_CU (by decide) fl_CU_32 (Or.inl rfl) rfl dc_CU_stretchesWorth_85 rfl ?_
            refine g_iload dc_CU_stretchesWorth_88 rfl rfl ?_
            refine g_laldv (v := (J 43 (f_CU_at 0 x7 0).toNatClampNeg)) sh_43 (b2 c1) rfl dc_CU_stretchesWorth_90 rfl ?_
            refine g_lload dc_CU_stretchesWorth_91 rfl rfl ?_
            refine g_lc_ge (tgt := 112) dc_CU_stretchesWorth_93 rfl dc_CU_stretchesWorth_94 rfl (by decide) (fun c6 => ?_) (fun c6 => ?_)
            · refine g_weak [some (.ref 33), some (.int x1), some (.int x2), some (.long l3), none, some (.long l5), none, some (.int x7), none, none, none] ⟨rfl, ⟨rfl, ⟨rfl, ⟨rfl, ⟨rfl, ⟨rfl, trivial⟩⟩⟩⟩⟩⟩ ?_
              exact (k6 c1 c2 c3 c4 c5 c6)
            · refine g_weak [some (.ref 33), some (.int x1), none, none, none, none, none, some (.int x7), some (.int (f_CU_at 0 x7 0)), some (.long ((J 42 (f_CU_at 0 x7 0).toNatClampNeg) + ((Int32.toInt64 x1) * (Int32.toInt64 (x7 - 1))))), none] ⟨rfl, ⟨rfl, ⟨rfl, ⟨rfl, ⟨rfl, trivial⟩⟩⟩⟩⟩ ?_
              exact (k7 c1 c2 c3 c4 c5 c6)
    · refine g_goto (tgt := 118) dc_CU_stretchesWorth_43 (by decide) ?_
      refine g_weak [none, none, some (.int x2), none, none, none, none, none, none, none, none] ⟨rfl, trivial⟩ ?_
      exact (k8 c1 c2)
theorem w_CU_stretchesWorth_97 {G : GC} {d : Nat} {P : PT} {I : MI} {J : MJ} {x1 : Int32} {x7 : Int32} {x8 : Int32} {l9 : Int64} (b1 : vp_in x8 861) (k2 : Go G (fr G m_CU_stretchesWorth (d + 1) P) 112 [some (.ref 33), some (.int x1), some (.int x7), some (.long l9), none, some (.long (J 43 x8.toNatClampNeg)), none, some (.int x7), none, none, none] [] I J) : Go G (fr G m_CU_stretchesWorth (d + 1) P) 97 [some (.ref 33), some (.int x1), none, none, none, none, none, some (.int x7), some (.int x8), some (.long l9), none] [] I J := by
  refine g_iload dc_CU_stretchesWorth_97 rfl rfl ?_
  refine g_istore_n (L' := [some (.ref 33), some (.int x1), some (.int x7), none, none, none, none, some (.int x7), some (.int x8), some (.long l9), none]) dc_CU_stretchesWorth_99 rfl rfl (Nat.le_of_ble_eq_true rfl) rfl ?_
  refine g_lload dc_CU_stretchesWorth_100 rfl rfl ?_
  refine g_lstore_n (L' := [some (.ref 33), some (.int x1), some (.int x7), some (.long l9), none, none, none, some (.int x7), some (.int x8), some (.long l9), none]) dc_CU_stretchesWorth_102 rfl rfl (Nat.le_of_ble_eq_true rfl) rfl ?_
  refine g_aload_n dc_CU_stretchesWorth_103 rfl rfl rfl ?_
  refine g_get (C := "LevelBreaks$Cuts") (T := T_CU) (N := 13) (k := 2) (v := .ref 43) sh_33 (by decide) rfl rfl i_CU (by decide) fl_CU_32 (Or.inl rfl) rfl dc_CU_stretchesWorth_104 rfl ?_
  refine g_iload dc_CU_stretchesWorth_107 rfl rfl ?_
  refine g_laldv (v := (J 43 x8.toNatClampNeg)) sh_43 b1 rfl dc_CU_stretchesWorth_109 rfl ?_
  refine g_lstore (L' := [some (.ref 33), some (.int x1), some (.int x7), some (.long l9), none, some (.long (J 43 x8.toNatClampNeg)), none, some (.int x7), some (.int x8), some (.long l9), none]) dc_CU_stretchesWorth_110 rfl (Nat.le_of_ble_eq_true rfl) rfl ?_
  refine g_weak [some (.ref 33), some (.int x1), some (.int x7), some (.long l9), none, some (.long (J 43 x8.toNatClampNeg)), none, some (.int x7), none, none, none] ⟨rfl, ⟨rfl, ⟨rfl, ⟨rfl, ⟨rfl, ⟨rfl, trivial⟩⟩⟩⟩⟩⟩ ?_
  exact k2
theorem w_CU_stretchesWorth_112 {G : GC} {d : Nat} {P : PT} {I : MI} {J : MJ} {x1 : Int32} {x2 : Int32} {l3 : Int64} {l5 : Int64} {x7 : Int32} (k1 : Go G (fr G m_CU_stretchesWorth (d + 1) P) 11 [some (.ref 33), some (.int x1), some (.int x2), some (.long l3), none, some (.long l5), none, some (.int (x7 + 1)), none, none, none] [] I J) : Go G (fr G m_CU_stretchesWorth (d + 1) P) 112 [some (.ref 33), some (.int x1), some (.int x2), some (.long l3), none, some (.long l5), none, some (.int x7), none, none, none] [] I J := by
  refine g_iinc (v := (x7 + 1)) (L' := [some (.ref 33), some (.int x1), some (.int x2), some (.long l3), none, some (.long l5), none, some (.int (x7 + 1)), none, none, none]) dc_CU_stretchesWorth_112 rfl rfl (by rw [show Int32.ofInt 1 = 1 from by decide]) (Nat.le_of_ble_eq_true rfl) rfl ?_
  refine g_goto (tgt := 11) dc_CU_stretchesWorth_115 (by decide) ?_
  exact k1
theorem w_CU_stretchesWorth_118 {G : GC} {d : Nat} {P : PT} {I : MI} {J : MJ} {x2 : Int32} (q1 : P (some (.int x2)) I J) : Go G (fr G m_CU_stretchesWorth (d + 1) P) 118 [none, none, some (.int x2), none, none, none, none, none, none, none, none] [] I J := by
  refine g_iload_n dc_CU_stretchesWorth_118 rfl rfl rfl ?_
  exact g_iret rfl dc_CU_stretchesWorth_119 q1
theorem dc_CU_trace_0 : decode prog_5_method_14_code 0 = .ok (.aload_n 0, 1) := by decide +kernel
theorem dc_CU_trace_1 : decode prog_5_method_14_code 1 = .ok (.getfield 28, 3) := by decide +kernel
theorem dc_CU_trace_4 : decode prog_5_method_14_code 4 = .ok (.aload_n 0, 1) := by decide +kernel
theorem dc_CU_trace_5 : decode prog_5_method_14_code 5 = .ok (.getfield 116, 3) := by decide +kernel
theorem dc_CU_trace_8 : decode prog_5_method_14_code 8 = .ok (.iload_n 1, 1) := by decide +kernel
theorem dc_CU_trace_9 : decode prog_5_method_14_code 9 = .ok (.iconst 0, 1) := by decide +kernel
theorem dc_CU_trace_10 : decode prog_5_method_14_code 10 = .ok (.invokestatic 122, 3) := by decide +kernel
theorem dc_CU_trace_13 : decode prog_5_method_14_code 13 = .ok (.laload, 1) := by decide +kernel
theorem dc_CU_trace_14 : decode prog_5_method_14_code 14 = .ok (.ldc2_w 95, 3) := by decide +kernel
theorem dc_CU_trace_17 : decode prog_5_method_14_code 17 = .ok (.lcmp, 1) := by decide +kernel
theorem dc_CU_trace_18 : decode prog_5_method_14_code 18 = .ok (.ifCond .ne 5, 3) := by decide +kernel
theorem dc_CU_trace_21 : decode prog_5_method_14_code 21 = .ok (.iconst 0, 1) := by decide +kernel
theorem dc_CU_trace_22 : decode prog_5_method_14_code 22 = .ok (.ireturn, 1) := by decide +kernel
theorem dc_CU_trace_23 : decode prog_5_method_14_code 23 = .ok (.aload_n 0, 1) := by decide +kernel
theorem dc_CU_trace_24 : decode prog_5_method_14_code 24 = .ok (.getfield 116, 3) := by decide +kernel
theorem dc_CU_trace_27 : decode prog_5_method_14_code 27 = .ok (.ifCond .le 5, 3) := by decide +kernel
theorem dc_CU_trace_30 : decode prog_5_method_14_code 30 = .ok (.iconst 1, 1) := by decide +kernel
theorem dc_CU_trace_31 : decode prog_5_method_14_code 31 = .ok (.ireturn, 1) := by decide +kernel
theorem dc_CU_trace_32 : decode prog_5_method_14_code 32 = .ok (.iconst 0, 1) := by decide +kernel
theorem dc_CU_trace_33 : decode prog_5_method_14_code 33 = .ok (.istore_n 2, 1) := by decide +kernel
theorem dc_CU_trace_34 : decode prog_5_method_14_code 34 = .ok (.iconst 0, 1) := by decide +kernel
theorem dc_CU_trace_35 : decode prog_5_method_14_code 35 = .ok (.istore_n 3, 1) := by decide +kernel
theorem dc_CU_trace_36 : decode prog_5_method_14_code 36 = .ok (.iload_n 3, 1) := by decide +kernel
theorem dc_CU_trace_37 : decode prog_5_method_14_code 37 = .ok (.iload_n 1, 1) := by decide +kernel
theorem dc_CU_trace_38 : decode prog_5_method_14_code 38 = .ok (.if_icmp .ge 30, 3) := by decide +kernel
theorem dc_CU_trace_41 : decode prog_5_method_14_code 41 = .ok (.aload_n 0, 1) := by decide +kernel
theorem dc_CU_trace_42 : decode prog_5_method_14_code 42 = .ok (.getfield 51, 3) := by decide +kernel
theorem dc_CU_trace_45 : decode prog_5_method_14_code 45 = .ok (.iload_n 3, 1) := by decide +kernel
theorem dc_CU_trace_46 : decode prog_5_method_14_code 46 = .ok (.iload_n 2, 1) := by decide +kernel
theorem dc_CU_trace_47 : decode prog_5_method_14_code 47 = .ok (.iastore, 1) := by decide +kernel
theorem dc_CU_trace_48 : decode prog_5_method_14_code 48 = .ok (.aload_n 0, 1) := by decide +kernel
theorem dc_CU_trace_49 : decode prog_5_method_14_code 49 = .ok (.getfield 39, 3) := by decide +kernel
theorem dc_CU_trace_52 : decode prog_5_method_14_code 52 = .ok (.iconst 0, 1) := by decide +kernel
theorem dc_CU_trace_53 : decode prog_5_method_14_code 53 = .ok (.iload_n 1, 1) := by decide +kernel
theorem dc_CU_trace_54 : decode prog_5_method_14_code 54 = .ok (.iload_n 3, 1) := by decide +kernel
theorem dc_CU_trace_55 : decode prog_5_method_14_code 55 = .ok (.isub, 1) := by decide +kernel
theorem dc_CU_trace_56 : decode prog_5_method_14_code 56 = .ok (.iload_n 2, 1) := by decide +kernel
theorem dc_CU_trace_57 : decode prog_5_method_14_code 57 = .ok (.invokestatic 122, 3) := by decide +kernel
theorem dc_CU_trace_60 : decode prog_5_method_14_code 60 = .ok (.iaload, 1) := by decide +kernel
theorem dc_CU_trace_61 : decode prog_5_method_14_code 61 = .ok (.istore_n 2, 1) := by decide +kernel
theorem dc_CU_trace_62 : decode prog_5_method_14_code 62 = .ok (.iinc 3 1, 3) := by decide +kernel
theorem dc_CU_trace_65 : decode prog_5_method_14_code 65 = .ok (.goto (-29), 3) := by decide +kernel
theorem dc_CU_trace_68 : decode prog_5_method_14_code 68 = .ok (.iconst 1, 1) := by decide +kernel
theorem dc_CU_trace_69 : decode prog_5_method_14_code 69 = .ok (.ireturn, 1) := by decide +kernel
theorem w_CU_trace_0 {G : GC} {d : Nat} {P : PT} {I : MI} {J : MJ} {x1 : Int32} (b1 : vp_in (f_CU_at (I 33 9) x1 0) 861) (k2 : (¬ (J 42 (f_CU_at (I 33 9) x1 0).toNatClampNeg) = (-1)) → ((I 33 9) ≤ 0) → Go G (fr G m_CU_trace (d + 1) P) 36 [some (.ref 33), some (.int x1), some (.int 0), some (.int 0)] [] I J) (q3 : (¬ (J 42 (f_CU_at (I 33 9) x1 0).toNatClampNeg) = (-1)) → (¬ ((I 33 9) ≤ 0)) → P (some (.int 1)) I J) (q4 : ((J 42 (f_CU_at (I 33 9) x1 0).toNatClampNeg) = (-1)) → P (some (.int 0)) I J) : Go G (fr G m_CU_trace (d + 1) P) 0 [some (.ref 33), some (.int x1), none, none] [] I J := by
  refine g_aload_n dc_CU_trace_0 rfl rfl rfl ?_
  refine g_get (C := "LevelBreaks$Cuts") (T := T_CU) (N := 13) (k := 1) (v := .ref 42) sh_33 (by decide) rfl rfl i_CU (by decide) fl_CU_28 (Or.inl rfl) rfl dc_CU_trace_1 rfl ?_
  refine g_aload_n dc_CU_trace_4 rfl rfl rfl ?_
  refine g_get (C := "LevelBreaks$Cuts") (T := T_CU) (N := 13) (k := 9) (v := .int (I 33 9)) sh_33 (by decide) rfl rfl i_CU (by decide) fl_CU_116 (Or.inl rfl) rfl dc_CU_trace_5 rfl ?_
  refine g_iload_n dc_CU_trace_8 rfl rfl rfl ?_
  refine g_iconst (v := 0) dc_CU_trace_9 rfl (by decide) ?_
  refine g_callS (M := m_CU_at) (As := [.int (I 33 9), .int x1, .int 0]) (rest := [.ref 42]) ok_CU_at st_CU_at ml_CU_122 rfl rfl (Nat.le_of_ble_eq_true rfl) dc_CU_trace_10 rfl rOk_fr (c_CU_at ?_)
  show Go G (fr G m_CU_trace (d + 1) P) 13 [some (.ref 33), some (.int x1), none, none] [.int (f_CU_at (I 33 9) x1 0), .ref 42] I J
  refine g_laldv (v := (J 42 (f_CU_at (I 33 9) x1 0).toNatClampNeg)) sh_42 b1 rfl dc_CU_trace_13 rfl ?_
  refine g_ldc2 (v := (-1)) kl_CU_95 dc_CU_trace_14 rfl ?_
  refine g_lc_ne (tgt := 23) dc_CU_trace_17 rfl dc_CU_trace_18 rfl (by decide) (fun c1 => ?_) (fun c1 => ?_)
  · refine g_aload_n dc_CU_trace_23 rfl rfl rfl ?_
    refine g_get (C := "LevelBreaks$Cuts") (T := T_CU) (N := 13) (k := 9) (v := .int (I 33 9)) sh_33 (by decide) rfl rfl i_CU (by decide) fl_CU_116 (Or.inl rfl) rfl dc_CU_trace_24 rfl ?_
    refine g_if_le (tgt := 32) dc_CU_trace_27 rfl (by decide) (fun c2 => ?_) (fun c2 => ?_)
    · refine g_iconst (v := 0) dc_CU_trace_32 rfl (by decide) ?_
      refine g_istore_n (L' := [some (.ref 33), some (.int x1), some (.int 0), none]) dc_CU_trace_33 rfl rfl (Nat.le_of_ble_eq_true rfl) rfl ?_
      refine g_iconst (v := 0) dc_CU_trace_34 rfl (by decide) ?_
      refine g_istore_n (L' := [some (.ref 33), some (.int x1), some (.int 0), some (.int 0)]) dc_CU_trace_35 rfl rfl (Nat.le_of_ble_eq_true rfl) rfl ?_
      exact (k2 c1 c2)
    · refine g_iconst (v := 1) dc_CU_trace_30 rfl (by decide) ?_
      exact g_zret rfl (by decide) dc_CU_trace_31 (q3 c1 c2)
  · refine g_iconst (v := 0) dc_CU_trace_21 rfl (by decide) ?_
    exact g_zret rfl (by decide) dc_CU_trace_22 (q4 c1)
theorem w_CU_trace_36 {G : GC} {d : Nat} {P : PT} {I : MI} {J : MJ} {x1 : Int32} {x2 : Int32} {x3 : Int32} (q1 : (x1 ≤ x3) → P (some (.int 1)) I J) (b2 : (¬ (x1 ≤ x3)) → vp_in x3 6) (b3 : (¬ (x1 ≤ x3)) → vp_in (f_CU_at 0 (x1 - x3) x2) 861) (k4 : (¬ (x1 ≤ x3)) → Go G (fr G m_CU_trace (d + 1) P) 36 [some (.ref 33), some (.int x1), some (.int (I 45 (f_CU_at 0 (x1 - x3) x2).toNatClampNeg)), some (.int (x3 + 1))] [] (u2 I 49 x3.toNatClampNeg x2) J) : Go G (fr G m_CU_trace (d + 1) P) 36 [some (.ref 33), some (.int x1), some (.int x2), some (.int x3)] [] I J := by
  refine g_iload_n dc_CU_trace_36 rfl rfl rfl ?_
  refine g_iload_n dc_CU_trace_37 rfl rfl rfl ?_
  refine g_ic_ge (tgt := 68) dc_CU_trace_38 rfl (by decide) (fun c1 => ?_) (fun c1 => ?_)
  · refine g_iconst (v := 1) dc_CU_trace_68 rfl (by decide) ?_
    exact g_zret rfl (by decide) dc_CU_trace_69 (q1 c1)
  · refine g_aload_n dc_CU_trace_41 rfl rfl rfl ?_
    refine g_get (C := "LevelBreaks$Cuts") (T := T_CU) (N := 13) (k := 12) (v := .ref 49) sh_33 (by decide) rfl rfl i_CU (by decide) fl_CU_51 (Or.inl rfl) rfl dc_CU_trace_42 rfl ?_
    refine g_iload_n dc_CU_trace_45 rfl rfl rfl ?_
    refine g_iload_n dc_CU_trace_46 rfl rfl rfl ?_
    refine g_iast sh_49 (b2 c1) dc_CU_trace_47 rfl ?_
    refine g_aload_n dc_CU_trace_48 rfl rfl rfl ?_
    refine g_get (C := "LevelBreaks$Cuts") (T := T_CU) (N := 13) (k := 4) (v := .ref 45) sh_33 (by decide) rfl rfl i_CU (by decide) fl_CU_39 (Or.inl rfl) rfl dc_CU_trace_49 rfl ?_
    refine g_iconst (v := 0) dc_CU_trace_52 rfl (by decide) ?_
    refine g_iload_n dc_CU_trace_53 rfl rfl rfl ?_
    refine g_iload_n dc_CU_trace_54 rfl rfl rfl ?_
    refine g_isub dc_CU_trace_55 rfl ?_
    refine g_iload_n dc_CU_trace_56 rfl rfl rfl ?_
    refine g_callS (M := m_CU_at) (As := [.int 0, .int (x1 - x3), .int x2]) (rest := [.ref 45]) ok_CU_at st_CU_at ml_CU_122 rfl rfl (Nat.le_of_ble_eq_true rfl) dc_CU_trace_57 rfl rOk_fr (c_CU_at ?_)
    show Go G (fr G m_CU_trace (d + 1) P) 60 [some (.ref 33), some (.int x1), some (.int x2), some (.int x3)] [.int (f_CU_at 0 (x1 - x3) x2), .ref 45] (u2 I 49 x3.toNatClampNeg x2) J
    refine g_ialdv (v := (I 45 (f_CU_at 0 (x1 - x3) x2).toNatClampNeg)) sh_45 (b3 c1) rfl dc_CU_trace_60 rfl ?_
    refine g_istore_n (L' := [some (.ref 33), some (.int x1), some (.int (I 45 (f_CU_at 0 (x1 - x3) x2).toNatClampNeg)), some (.int x3)]) dc_CU_trace_61 rfl rfl (Nat.le_of_ble_eq_true rfl) rfl ?_
    refine g_iinc (v := (x3 + 1)) (L' := [some (.ref 33), some (.int x1), some (.int (I 45 (f_CU_at 0 (x1 - x3) x2).toNatClampNeg)), some (.int (x3 + 1))]) dc_CU_trace_62 rfl rfl (by rw [show Int32.ofInt 1 = 1 from by decide]) (Nat.le_of_ble_eq_true rfl) rfl ?_
    refine g_goto (tgt := 36) dc_CU_trace_65 (by decide) ?_
    exact (k4 c1)
