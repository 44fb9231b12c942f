theorem w_RM_part_158 {G : GC} {d : Nat} {P : PT} {I : MI} {J : MJ} {x2 : Int32} {x4 : Int32} {y0 : Int32} (k1 : Go G (fr G m_RM_part (d + 2) P) 171 [some (.ref 67), none, some (.int x2), none, some (.int x4), some (.int y0)] [] I J) : Go G (fr G m_RM_part (d + 2) P) 158 [some (.ref 67), none, some (.int x2), none, some (.int x4), none] [.int y0] I J := by
  refine g_istore (L' := [some (.ref 67), none, some (.int x2), none, some (.int x4), some (.int y0)]) dc_RM_part_158 rfl (Nat.le_of_ble_eq_true rfl) rfl ?_
  refine g_goto (tgt := 171) dc_RM_part_160 (by decide) ?_
  exact k1
theorem w_RM_part_171 {G : GC} {d : Nat} {P : PT} {I : MI} {J : MJ} {x2 : Int32} {x4 : Int32} {x5 : Int32} (q1 : (¬ (I 67 34) = (-1)) → P none I J) (b2 : ((I 67 34) = (-1)) → vp_in (I 67 35) 40) (q3 : ((I 67 34) = (-1)) → P none (u2 (u2 (u2 (u2 I 92 (I 67 35).toNatClampNeg x2) 93 (I 67 35).toNatClampNeg x4) 94 (I 67 35).toNatClampNeg x5) 67 35 ((I 67 35) + 1)) J) : Go G (fr G m_RM_part (d + 2) P) 171 [some (.ref 67), none, some (.int x2), none, some (.int x4), some (.int x5)] [] I J := by
  refine g_aload_n dc_RM_part_171 rfl rfl rfl ?_
  refine g_get (C := "LevelBreaksModel") (T := T_RM) (N := 45) (k := 34) (v := .int (I 67 34)) sh_67 (by decide) rfl rfl i_RM (by decide) fl_RM_305 (Or.inl rfl) rfl dc_RM_part_172 rfl ?_
  refine g_iconst (v := (-1)) dc_RM_part_175 rfl (by decide) ?_
  refine g_ic_ne (tgt := 221) dc_RM_part_176 rfl (by decide) (fun c1 => ?_) (fun c1 => ?_)
  · exact g_vret rfl dc_RM_part_221 (q1 c1)
  · refine g_aload_n dc_RM_part_179 rfl rfl rfl ?_
    refine g_get (C := "LevelBreaksModel") (T := T_RM) (N := 45) (k := 36) (v := .ref 92) sh_67 (by decide) rfl rfl i_RM (by decide) fl_RM_88 (Or.inl rfl) rfl dc_RM_part_180 rfl ?_
    refine g_aload_n dc_RM_part_183 rfl rfl rfl ?_
    refine g_get (C := "LevelBreaksModel") (T := T_RM) (N := 45) (k := 35) (v := .int (I 67 35)) sh_67 (by decide) rfl rfl i_RM (by decide) fl_RM_308 (Or.inl rfl) rfl dc_RM_part_184 rfl ?_
    refine g_iload_n dc_RM_part_187 rfl rfl rfl ?_
    refine g_iast sh_92 (b2 c1) dc_RM_part_188 rfl ?_
    refine g_aload_n dc_RM_part_189 rfl rfl rfl ?_
    refine g_get (C := "LevelBreaksModel") (T := T_RM) (N := 45) (k := 37) (v := .ref 93) sh_67 (by decide) rfl rfl i_RM (by decide) fl_RM_91 (Or.inl rfl) rfl dc_RM_part_190 rfl ?_
    refine g_aload_n dc_RM_part_193 rfl rfl rfl ?_
    refine g_get (C := "LevelBreaksModel") (T := T_RM) (N := 45) (k := 35) (v := .int (I 67 35)) sh_67 (by decide) rfl rfl i_RM (by decide) fl_RM_308 (Or.inl rfl) rfl dc_RM_part_194 rfl ?_
    refine g_iload dc_RM_part_197 rfl rfl ?_
    refine g_iast sh_93 (b2 c1) dc_RM_part_199 rfl ?_
    refine g_aload_n dc_RM_part_200 rfl rfl rfl ?_
    refine g_get (C := "LevelBreaksModel") (T := T_RM) (N := 45) (k := 38) (v := .ref 94) sh_67 (by decide) rfl rfl i_RM (by decide) fl_RM_94 (Or.inl rfl) rfl dc_RM_part_201 rfl ?_
    refine g_aload_n dc_RM_part_204 rfl rfl rfl ?_
    refine g_get (C := "LevelBreaksModel") (T := T_RM) (N := 45) (k := 35) (v := .int (I 67 35)) sh_67 (by decide) rfl rfl i_RM (by decide) fl_RM_308 (Or.inl rfl) rfl dc_RM_part_205 rfl ?_
    refine g_iload dc_RM_part_208 rfl rfl ?_
    refine g_iast sh_94 (b2 c1) dc_RM_part_210 rfl ?_
    refine g_aload_n dc_RM_part_211 rfl rfl rfl ?_
    refine g_dup dc_RM_part_212 rfl rfl ?_
    refine g_get (C := "LevelBreaksModel") (T := T_RM) (N := 45) (k := 35) (v := .int (I 67 35)) sh_67 (by decide) rfl rfl i_RM (by decide) fl_RM_308 (Or.inl rfl) rfl dc_RM_part_213 rfl ?_
    refine g_iconst (v := 1) dc_RM_part_216 rfl (by decide) ?_
    refine g_iadd dc_RM_part_217 rfl ?_
    refine g_putI (C := "LevelBreaksModel") (T := T_RM) (N := 45) (k := 35) (ty := t_RM) sh_67 (by decide) rfl rfl i_RM p_RM n_RM (by decide) fl_RM_308 (Or.inl rfl) rfl (by decide) dc_RM_part_218 rfl ?_
    exact g_vret rfl dc_RM_part_221 (q3 c1)
theorem dc_RM_pointFrom_0 : decode prog_14_method_40_code 0 = .ok (.iconst 0, 1) := by decide +kernel
theorem dc_RM_pointFrom_1 : decode prog_14_method_40_code 1 = .ok (.istore_n 2, 1) := by decide +kernel
theorem dc_RM_pointFrom_2 : decode prog_14_method_40_code 2 = .ok (.iload_n 2, 1) := by decide +kernel
theorem dc_RM_pointFrom_3 : decode prog_14_method_40_code 3 = .ok (.aload_n 0, 1) := by decide +kernel
theorem dc_RM_pointFrom_4 : decode prog_14_method_40_code 4 = .ok (.getfield 145, 3) := by decide +kernel
theorem dc_RM_pointFrom_7 : decode prog_14_method_40_code 7 = .ok (.if_icmp .ge 19, 3) := by decide +kernel
theorem dc_RM_pointFrom_10 : decode prog_14_method_40_code 10 = .ok (.aload_n 0, 1) := by decide +kernel
theorem dc_RM_pointFrom_11 : decode prog_14_method_40_code 11 = .ok (.getfield 32, 3) := by decide +kernel
theorem dc_RM_pointFrom_14 : decode prog_14_method_40_code 14 = .ok (.iload_n 2, 1) := by decide +kernel
theorem dc_RM_pointFrom_15 : decode prog_14_method_40_code 15 = .ok (.iaload, 1) := by decide +kernel
theorem dc_RM_pointFrom_16 : decode prog_14_method_40_code 16 = .ok (.iload_n 1, 1) := by decide +kernel
theorem dc_RM_pointFrom_17 : decode prog_14_method_40_code 17 = .ok (.if_icmp .ge 9, 3) := by decide +kernel
theorem dc_RM_pointFrom_20 : decode prog_14_method_40_code 20 = .ok (.iinc 2 1, 3) := by decide +kernel
theorem dc_RM_pointFrom_23 : decode prog_14_method_40_code 23 = .ok (.goto (-21), 3) := by decide +kernel
theorem dc_RM_pointFrom_26 : decode prog_14_method_40_code 26 = .ok (.iload_n 2, 1) := by decide +kernel
theorem dc_RM_pointFrom_27 : decode prog_14_method_40_code 27 = .ok (.ireturn, 1) := by decide +kernel
theorem w_RM_pointFrom_0 {G : GC} {d : Nat} {P : PT} {I : MI} {J : MJ} {x1 : Int32} (k1 : Go G (fr G m_RM_pointFrom d P) 2 [some (.ref 67), some (.int x1), some (.int 0)] [] I J) : Go G (fr G m_RM_pointFrom d P) 0 [some (.ref 67), some (.int x1), none] [] I J := by
  refine g_iconst (v := 0) dc_RM_pointFrom_0 rfl (by decide) ?_
  refine g_istore_n (L' := [some (.ref 67), some (.int x1), some (.int 0)]) dc_RM_pointFrom_1 rfl rfl (Nat.le_of_ble_eq_true rfl) rfl ?_
  exact k1
theorem w_RM_pointFrom_2 {G : GC} {d : Nat} {P : PT} {I : MI} {J : MJ} {x1 : Int32} {x2 : Int32} (k1 : ((I 67 7) ≤ x2) → Go G (fr G m_RM_pointFrom d P) 26 [none, none, some (.int x2)] [] I J) (b2 : (¬ ((I 67 7) ≤ x2)) → vp_in x2 40) (k3 : (¬ ((I 67 7) ≤ x2)) → (x1 ≤ (I 74 x2.toNatClampNeg)) → Go G (fr G m_RM_pointFrom d P) 26 [none, none, some (.int x2)] [] I J) (k4 : (¬ ((I 67 7) ≤ x2)) → (¬ (x1 ≤ (I 74 x2.toNatClampNeg))) → Go G (fr G m_RM_pointFrom d P) 2 [some (.ref 67), some (.int x1), some (.int (x2 + 1))] [] I J) : Go G (fr G m_RM_pointFrom d P) 2 [some (.ref 67), some (.int x1), some (.int x2)] [] I J := by
  refine g_iload_n dc_RM_pointFrom_2 rfl rfl rfl ?_
  refine g_aload_n dc_RM_pointFrom_3 rfl rfl rfl ?_
  refine g_get (C := "LevelBreaksModel") (T := T_RM) (N := 45) (k := 7) (v := .int (I 67 7)) sh_67 (by decide) rfl rfl i_RM (by decide) fl_RM_145 (Or.inl rfl) rfl dc_RM_pointFrom_4 rfl ?_
  refine g_ic_ge (tgt := 26) dc_RM_pointFrom_7 rfl (by decide) (fun c1 => ?_) (fun c1 => ?_)
  · refine g_weak [none, none, some (.int x2)] ⟨rfl, trivial⟩ ?_
    exact (k1 c1)
  · refine g_aload_n dc_RM_pointFrom_10 rfl rfl rfl ?_
    refine g_get (C := "LevelBreaksModel") (T := T_RM) (N := 45) (k := 9) (v := .ref 74) sh_67 (by decide) rfl rfl i_RM (by decide) fl_RM_32 (Or.inl rfl) rfl dc_RM_pointFrom_11 rfl ?_
    refine g_iload_n dc_RM_pointFrom_14 rfl rfl rfl ?_
    refine g_ialdv (v := (I 74 x2.toNatClampNeg)) sh_74 (b2 c1) rfl dc_RM_pointFrom_15 rfl ?_
    refine g_iload_n dc_RM_pointFrom_16 rfl rfl rfl ?_
    refine g_ic_ge (tgt := 26) dc_RM_pointFrom_17 rfl (by decide) (fun c2 => ?_) (fun c2 => ?_)
    · refine g_weak [none, none, some (.int x2)] ⟨rfl, trivial⟩ ?_
      exact (k3 c1 c2)
    · refine g_iinc (v := (x2 + 1)) (L' := [some (.ref 67), some (.int x1), some (.int (x2 + 1))]) dc_RM_pointFrom_20 rfl rfl (by rw [show Int32.ofInt 1 = 1 from by decide]) (Nat.le_of_ble_eq_true rfl) rfl ?_
      refine g_goto (tgt := 2) dc_RM_pointFrom_23 (by decide) ?_
      exact (k4 c1 c2)
theorem w_RM_pointFrom_26 {G : GC} {d : Nat} {P : PT} {I : MI} {J : MJ} {x2 : Int32} (q1 : P (some (.int x2)) I J) : Go G (fr G m_RM_pointFrom d P) 26 [none, none, some (.int x2)] [] I J := by
  refine g_iload_n dc_RM_pointFrom_26 rfl rfl rfl ?_
  exact g_iret rfl dc_RM_pointFrom_27 q1
theorem dc_RM_pointsBy_0 : decode prog_14_method_15_code 0 = .ok (.iconst 0, 1) := by decide +kernel
theorem dc_RM_pointsBy_1 : decode prog_14_method_15_code 1 = .ok (.istore_n 3, 1) := by decide +kernel
theorem dc_RM_pointsBy_2 : decode prog_14_method_15_code 2 = .ok (.iload_n 3, 1) := by decide +kernel
theorem dc_RM_pointsBy_3 : decode prog_14_method_15_code 3 = .ok (.bipush 40, 2) := by decide +kernel
theorem dc_RM_pointsBy_5 : decode prog_14_method_15_code 5 = .ok (.if_icmp .ge 18, 3) := by decide +kernel
theorem dc_RM_pointsBy_8 : decode prog_14_method_15_code 8 = .ok (.aload_n 0, 1) := by decide +kernel
theorem dc_RM_pointsBy_9 : decode prog_14_method_15_code 9 = .ok (.getfield 35, 3) := by decide +kernel
theorem dc_RM_pointsBy_12 : decode prog_14_method_15_code 12 = .ok (.iload_n 3, 1) := by decide +kernel
theorem dc_RM_pointsBy_13 : decode prog_14_method_15_code 13 = .ok (.sipush (-9999), 3) := by decide +kernel
theorem dc_RM_pointsBy_16 : decode prog_14_method_15_code 16 = .ok (.iastore, 1) := by decide +kernel
theorem dc_RM_pointsBy_17 : decode prog_14_method_15_code 17 = .ok (.iinc 3 1, 3) := by decide +kernel
theorem dc_RM_pointsBy_20 : decode prog_14_method_15_code 20 = .ok (.goto (-18), 3) := by decide +kernel
theorem dc_RM_pointsBy_23 : decode prog_14_method_15_code 23 = .ok (.iconst 0, 1) := by decide +kernel
theorem dc_RM_pointsBy_24 : decode prog_14_method_15_code 24 = .ok (.istore_n 3, 1) := by decide +kernel
theorem dc_RM_pointsBy_25 : decode prog_14_method_15_code 25 = .ok (.iload_n 3, 1) := by decide +kernel
theorem dc_RM_pointsBy_26 : decode prog_14_method_15_code 26 = .ok (.aload_n 0, 1) := by decide +kernel
theorem dc_RM_pointsBy_27 : decode prog_14_method_15_code 27 = .ok (.getfield 116, 3) := by decide +kernel
theorem dc_RM_pointsBy_30 : decode prog_14_method_15_code 30 = .ok (.if_icmp .ge 46, 3) := by decide +kernel
theorem dc_RM_pointsBy_33 : decode prog_14_method_15_code 33 = .ok (.aload_n 0, 1) := by decide +kernel
theorem dc_RM_pointsBy_34 : decode prog_14_method_15_code 34 = .ok (.getfield 9, 3) := by decide +kernel
theorem dc_RM_pointsBy_37 : decode prog_14_method_15_code 37 = .ok (.iload_n 3, 1) := by decide +kernel
theorem dc_RM_pointsBy_38 : decode prog_14_method_15_code 38 = .ok (.iaload, 1) := by decide +kernel
theorem dc_RM_pointsBy_39 : decode prog_14_method_15_code 39 = .ok (.iload_n 1, 1) := by decide +kernel
theorem dc_RM_pointsBy_40 : decode prog_14_method_15_code 40 = .ok (.if_icmp .ne 30, 3) := by decide +kernel
theorem dc_RM_pointsBy_43 : decode prog_14_method_15_code 43 = .ok (.aload_n 0, 1) := by decide +kernel
theorem dc_RM_pointsBy_44 : decode prog_14_method_15_code 44 = .ok (.getfield 19, 3) := by decide +kernel
theorem dc_RM_pointsBy_47 : decode prog_14_method_15_code 47 = .ok (.iload_n 3, 1) := by decide +kernel
theorem dc_RM_pointsBy_48 : decode prog_14_method_15_code 48 = .ok (.iaload, 1) := by decide +kernel
theorem dc_RM_pointsBy_49 : decode prog_14_method_15_code 49 = .ok (.iload_n 2, 1) := by decide +kernel
theorem dc_RM_pointsBy_50 : decode prog_14_method_15_code 50 = .ok (.if_icmp .gt 20, 3) := by decide +kernel
theorem dc_RM_pointsBy_53 : decode prog_14_method_15_code 53 = .ok (.aload_n 0, 1) := by decide +kernel
theorem dc_RM_pointsBy_54 : decode prog_14_method_15_code 54 = .ok (.getfield 35, 3) := by decide +kernel
theorem dc_RM_pointsBy_57 : decode prog_14_method_15_code 57 = .ok (.aload_n 0, 1) := by decide +kernel
theorem dc_RM_pointsBy_58 : decode prog_14_method_15_code 58 = .ok (.getfield 13, 3) := by decide +kernel
theorem dc_RM_pointsBy_61 : decode prog_14_method_15_code 61 = .ok (.iload_n 3, 1) := by decide +kernel
theorem dc_RM_pointsBy_62 : decode prog_14_method_15_code 62 = .ok (.iaload, 1) := by decide +kernel
theorem dc_RM_pointsBy_63 : decode prog_14_method_15_code 63 = .ok (.aload_n 0, 1) := by decide +kernel
theorem dc_RM_pointsBy_64 : decode prog_14_method_15_code 64 = .ok (.getfield 16, 3) := by decide +kernel
theorem dc_RM_pointsBy_67 : decode prog_14_method_15_code 67 = .ok (.iload_n 3, 1) := by decide +kernel
theorem dc_RM_pointsBy_68 : decode prog_14_method_15_code 68 = .ok (.iaload, 1) := by decide +kernel
theorem dc_RM_pointsBy_69 : decode prog_14_method_15_code 69 = .ok (.iastore, 1) := by decide +kernel
theorem dc_RM_pointsBy_70 : decode prog_14_method_15_code 70 = .ok (.iinc 3 1, 3) := by decide +kernel
theorem dc_RM_pointsBy_73 : decode prog_14_method_15_code 73 = .ok (.goto (-48), 3) := by decide +kernel
theorem dc_RM_pointsBy_76 : decode prog_14_method_15_code 76 = .ok (.aload_n 0, 1) := by decide +kernel
theorem dc_RM_pointsBy_77 : decode prog_14_method_15_code 77 = .ok (.iconst 0, 1) := by decide +kernel
theorem dc_RM_pointsBy_78 : decode prog_14_method_15_code 78 = .ok (.putfield 145, 3) := by decide +kernel
theorem dc_RM_pointsBy_81 : decode prog_14_method_15_code 81 = .ok (.iconst 0, 1) := by decide +kernel
theorem dc_RM_pointsBy_82 : decode prog_14_method_15_code 82 = .ok (.istore_n 3, 1) := by decide +kernel
theorem dc_RM_pointsBy_83 : decode prog_14_method_15_code 83 = .ok (.iload_n 3, 1) := by decide +kernel
theorem dc_RM_pointsBy_84 : decode prog_14_method_15_code 84 = .ok (.bipush 40, 2) := by decide +kernel
theorem dc_RM_pointsBy_86 : decode prog_14_method_15_code 86 = .ok (.if_icmp .ge 56, 3) := by decide +kernel
theorem dc_RM_pointsBy_89 : decode prog_14_method_15_code 89 = .ok (.aload_n 0, 1) := by decide +kernel
theorem dc_RM_pointsBy_90 : decode prog_14_method_15_code 90 = .ok (.getfield 35, 3) := by decide +kernel
theorem dc_RM_pointsBy_93 : decode prog_14_method_15_code 93 = .ok (.iload_n 3, 1) := by decide +kernel
theorem dc_RM_pointsBy_94 : decode prog_14_method_15_code 94 = .ok (.iaload, 1) := by decide +kernel
theorem dc_RM_pointsBy_95 : decode prog_14_method_15_code 95 = .ok (.sipush (-9999), 3) := by decide +kernel
theorem dc_RM_pointsBy_98 : decode prog_14_method_15_code 98 = .ok (.if_icmp .eq 38, 3) := by decide +kernel
theorem dc_RM_pointsBy_101 : decode prog_14_method_15_code 101 = .ok (.aload_n 0, 1) := by decide +kernel
theorem dc_RM_pointsBy_102 : decode prog_14_method_15_code 102 = .ok (.getfield 29, 3) := by decide +kernel
theorem dc_RM_pointsBy_105 : decode prog_14_method_15_code 105 = .ok (.aload_n 0, 1) := by decide +kernel
theorem dc_RM_pointsBy_106 : decode prog_14_method_15_code 106 = .ok (.getfield 145, 3) := by decide +kernel
theorem dc_RM_pointsBy_109 : decode prog_14_method_15_code 109 = .ok (.aload_n 0, 1) := by decide +kernel
theorem dc_RM_pointsBy_110 : decode prog_14_method_15_code 110 = .ok (.getfield 35, 3) := by decide +kernel
theorem dc_RM_pointsBy_113 : decode prog_14_method_15_code 113 = .ok (.iload_n 3, 1) := by decide +kernel
theorem dc_RM_pointsBy_114 : decode prog_14_method_15_code 114 = .ok (.iaload, 1) := by decide +kernel
theorem dc_RM_pointsBy_115 : decode prog_14_method_15_code 115 = .ok (.iastore, 1) := by decide +kernel
theorem dc_RM_pointsBy_116 : decode prog_14_method_15_code 116 = .ok (.aload_n 0, 1) := by decide +kernel
theorem dc_RM_pointsBy_117 : decode prog_14_method_15_code 117 = .ok (.getfield 32, 3) := by decide +kernel
theorem dc_RM_pointsBy_120 : decode prog_14_method_15_code 120 = .ok (.aload_n 0, 1) := by decide +kernel
theorem dc_RM_pointsBy_121 : decode prog_14_method_15_code 121 = .ok (.getfield 145, 3) := by decide +kernel
theorem dc_RM_pointsBy_124 : decode prog_14_method_15_code 124 = .ok (.iload_n 3, 1) := by decide +kernel
theorem dc_RM_pointsBy_125 : decode prog_14_method_15_code 125 = .ok (.iastore, 1) := by decide +kernel
theorem dc_RM_pointsBy_126 : decode prog_14_method_15_code 126 = .ok (.aload_n 0, 1) := by decide +kernel
theorem dc_RM_pointsBy_127 : decode prog_14_method_15_code 127 = .ok (.dup, 1) := by decide +kernel
theorem dc_RM_pointsBy_128 : decode prog_14_method_15_code 128 = .ok (.getfield 145, 3) := by decide +kernel
theorem dc_RM_pointsBy_131 : decode prog_14_method_15_code 131 = .ok (.iconst 1, 1) := by decide +kernel
theorem dc_RM_pointsBy_132 : decode prog_14_method_15_code 132 = .ok (.iadd, 1) := by decide +kernel
theorem dc_RM_pointsBy_133 : decode prog_14_method_15_code 133 = .ok (.putfield 145, 3) := by decide +kernel
theorem dc_RM_pointsBy_136 : decode prog_14_method_15_code 136 = .ok (.iinc 3 1, 3) := by decide +kernel
theorem dc_RM_pointsBy_139 : decode prog_14_method_15_code 139 = .ok (.goto (-56), 3) := by decide +kernel
theorem dc_RM_pointsBy_142 : decode prog_14_method_15_code 142 = .ok (.return_, 1) := by decide +kernel
theorem w_RM_pointsBy_0 {G : GC} {d : Nat} {P : PT} {I : MI} {J : MJ} {x1 : Int32} {x2 : Int32} (k1 : Go G (fr G m_RM_pointsBy d P) 2 [some (.ref 67), some (.int x1), some (.int x2), some (.int 0)] [] I J) : Go G (fr G m_RM_pointsBy d P) 0 [some (.ref 67), some (.int x1), some (.int x2), none] [] I J := by
  refine g_iconst (v := 0) dc_RM_pointsBy_0 rfl (by decide) ?_
  refine g_istore_n (L' := [some (.ref 67), some (.int x1), some (.int x2), some (.int 0)]) dc_RM_pointsBy_1 rfl rfl (Nat.le_of_ble_eq_true rfl) rfl ?_
  exact k1
theorem w_RM_pointsBy_2 {G : GC} {d : Nat} {P : PT} {I : MI} {J : MJ} {x1 : Int32} {x2 : Int32} {x3 : Int32} (k1 : (40 ≤ x3) → Go G (fr G m_RM_pointsBy d P) 25 [some (.ref 67), some (.int x1), some (.int x2), some (.int 0)] [] I J) (b2 : (¬ (40 ≤ x3)) → vp_in x3 40) (k3 : (¬ (40 ≤ x3)) → Go G (fr G m_RM_pointsBy d P) 2 [some (.ref 67), some (.int x1), some (.int x2), some (.int (x3 + 1))] [] (u2 I 75 x3.toNatClampNeg (-9999)) J) : Go G (fr G m_RM_pointsBy d P) 2 [some (.ref 67), some (.int x1), some (.int x2), some (.int x3)] [] I J := by
  refine g_iload_n dc_RM_pointsBy_2 rfl rfl rfl ?_
  refine g_bipush (v := 40) dc_RM_pointsBy_3 rfl (by decide) ?_
  refine g_ic_ge (tgt := 23) dc_RM_pointsBy_5 rfl (by decide) (fun c1 => ?_) (fun c1 => ?_)
  · refine g_iconst (v := 0) dc_RM_pointsBy_23 rfl (by decide) ?_
    refine g_istore_n (L' := [some (.ref 67), some (.int x1), some (.int x2), some (.int 0)]) dc_RM_pointsBy_24 rfl rfl (Nat.le_of_ble_eq_true rfl) rfl ?_
    exact (k1 c1)
  · refine g_aload_n dc_RM_pointsBy_8 rfl rfl rfl ?_
    refine g_get (C := "LevelBreaksModel") (T := T_RM) (N := 45) (k := 10) (v := .ref 75) sh_67 (by decide) rfl rfl i_RM (by decide) fl_RM_35 (Or.inl rfl) rfl dc_RM_pointsBy_9 rfl ?_
    refine g_iload_n dc_RM_pointsBy_12 rfl rfl rfl ?_
    refine g_sipush (v := (-9999)) dc_RM_pointsBy_13 rfl (by decide) ?_
    refine g_iast sh_75 (b2 c1) dc_RM_pointsBy_16 rfl ?_
    refine g_iinc (v := (x3 + 1)) (L' := [some (.ref 67), some (.int x1), some (.int x2), some (.int (x3 + 1))]) dc_RM_pointsBy_17 rfl rfl (by rw [show Int32.ofInt 1 = 1 from by decide]) (Nat.le_of_ble_eq_true rfl) rfl ?_
    refine g_goto (tgt := 2) dc_RM_pointsBy_20 (by decide) ?_
    exact (k3 c1)
theorem w_RM_pointsBy_25 {G : GC} {d : Nat} {P : PT} {I : MI} {J : MJ} {x1 : Int32} {x2 : Int32} {x3 : Int32} (k1 : ((I 67 0) ≤ x3) → Go G (fr G m_RM_pointsBy d P) 83 [some (.ref 67), none, none, some (.int 0)] [] (u2 I 67 7 0) J) (b2 : (¬ ((I 67 0) ≤ x3)) → vp_in x3 200) (k3 : (¬ ((I 67 0) ≤ x3)) → (¬ (I 68 x3.toNatClampNeg) = x1) → Go G (fr G m_RM_pointsBy d P) 70 [some (.ref 67), some (.int x1), some (.int x2), some (.int x3)] [] I J) (k4 : (¬ ((I 67 0) ≤ x3)) → ((I 68 x3.toNatClampNeg) = x1) → (x2 < (I 71 x3.toNatClampNeg)) → Go G (fr G m_RM_pointsBy d P) 70 [some (.ref 67), some (.int x1), some (.int x2), some (.int x3)] [] I J) (b5 : (¬ ((I 67 0) ≤ x3)) → ((I 68 x3.toNatClampNeg) = x1) → (¬ (x2 < (I 71 x3.toNatClampNeg))) → vp_in (I 69 x3.toNatClampNeg) 40) (k6 : (¬ ((I 67 0) ≤ x3)) → ((I 68 x3.toNatClampNeg) = x1) → (¬ (x2 < (I 71 x3.toNatClampNeg))) → Go G (fr G m_RM_pointsBy d P) 70 [some (.ref 67), some (.int x1), some (.int x2), some (.int x3)] [] (u2 I 75 (I 69 x3.toNatClampNeg).toNatClampNeg (I 70 x3.toNatClampNeg)) J) : Go G (fr G m_RM_pointsBy d P) 25 [some (.ref 67), some (.int x1), some (.int x2), some (.int x3)] [] I J := by
  refine g_iload_n dc_RM_pointsBy_25 rfl rfl rfl ?_
  refine g_aload_n dc_RM_pointsBy_26 rfl rfl rfl ?_
  refine g_get (C := "LevelBreaksModel") (T := T_RM) (N := 45) (k := 0) (v := .int (I 67 0)) sh_67 (by decide) rfl rfl i_RM (by decide) fl_RM_116 (Or.inl rfl) rfl dc_RM_pointsBy_27 rfl ?_
  refine g_ic_ge (tgt := 76) dc_RM_pointsBy_30 rfl (by decide) (fun c1 => ?_) (fun c1 => ?_)
  · refine g_aload_n dc_RM_pointsBy_76 rfl rfl rfl ?_
    refine g_iconst (v := 0) dc_RM_pointsBy_77 rfl (by decide) ?_
    refine g_putI (C := "LevelBreaksModel") (T := T_RM) (N := 45) (k := 7) (ty := t_RM) sh_67 (by decide) rfl rfl i_RM p_RM n_RM (by decide) fl_RM_145 (Or.inl rfl) rfl (by decide) dc_RM_pointsBy_78 rfl ?_
    refine g_iconst (v := 0) dc_RM_pointsBy_81 rfl (by decide) ?_
    refine g_istore_n (L' := [some (.ref 67), some (.int x1), some (.int x2), some (.int 0)]) dc_RM_pointsBy_82 rfl rfl (Nat.le_of_ble_eq_true rfl) rfl ?_
    refine g_weak [some (.ref 67), none, none, some (.int 0)] ⟨rfl, ⟨rfl, trivial⟩⟩ ?_
    exact (k1 c1)
  · refine g_aload_n dc_RM_pointsBy_33 rfl rfl rfl ?_
    refine g_get (C := "LevelBreaksModel") (T := T_RM) (N := 45) (k := 1) (v := .ref 68) sh_67 (by decide) rfl rfl i_RM (by decide) fl_RM_9 (Or.inl rfl) rfl dc_RM_pointsBy_34 rfl ?_
    refine g_iload_n dc_RM_pointsBy_37 rfl rfl rfl ?_
    refine g_ialdv (v := (I 68 x3.toNatClampNeg)) sh_68 (b2 c1) rfl dc_RM_pointsBy_38 rfl ?_
    refine g_iload_n dc_RM_pointsBy_39 rfl rfl rfl ?_
    refine g_ic_ne (tgt := 70) dc_RM_pointsBy_40 rfl (by decide) (fun c2 => ?_) (fun c2 => ?_)
    · exact (k3 c1 c2)
    · refine g_aload_n dc_RM_pointsBy_43 rfl rfl rfl ?_
      refine g_get (C := "LevelBreaksModel") (T := T_RM) (N := 45) (k := 4) (v := .ref 71) sh_67 (by decide) rfl rfl i_RM (by decide) fl_RM_19 (Or.inl rfl) rfl dc_RM_pointsBy_44 rfl ?_
      refine g_iload_n dc_RM_pointsBy_47 rfl rfl rfl ?_
      refine g_ialdv (v := (I 71 x3.toNatClampNeg)) sh_71 (b2 c1) rfl dc_RM_pointsBy_48 rfl ?_
      refine g_iload_n dc_RM_pointsBy_49 rfl rfl rfl ?_
      refine g_ic_gt (tgt := 70) dc_RM_pointsBy_50 rfl (by decide) (fun c3 => ?_) (fun c3 => ?_)
      · exact (k4 c1 c2 c3)
      · refine g_aload_n dc_RM_pointsBy_53 rfl rfl rfl ?_
        refine g_get (C := "LevelBreaksModel") (T := T_RM) (N := 45) (k := 10) (v := .ref 75) sh_67 (by decide) rfl rfl i_RM (by decide) fl_RM_35 (Or.inl rfl) rfl dc_RM_pointsBy_54 rfl ?_
        refine g_aload_n dc_RM_pointsBy_57 rfl rfl rfl ?_
        refine g_get (C := "LevelBreaksModel") (T := T_RM) (N := 45) (k := 2) (v := .ref 69) sh_67 (by decide) rfl rfl i_RM (by decide) fl_RM_13 (Or.inl rfl) rfl dc_RM_pointsBy_58 rfl ?_
        refine g_iload_n dc_RM_pointsBy_61 rfl rfl rfl ?_
        refine g_ialdv (v := (I 69 x3.toNatClampNeg)) sh_69 (b2 c1) rfl dc_RM_pointsBy_62 rfl ?_
        refine g_aload_n dc_RM_pointsBy_63 rfl rfl rfl ?_
        refine g_get (C := "LevelBreaksModel") (T := T_RM) (N := 45) (k := 3) (v := .ref 70) sh_67 (by decide) rfl rfl i_RM (by decide) fl_RM_16 (Or.inl rfl) rfl dc_RM_pointsBy_64 rfl ?_
        refine g_iload_n dc_RM_pointsBy_67 rfl rfl rfl ?_
        refine g_ialdv (v := (I 70 x3.toNatClampNeg)) sh_70 (b2 c1) rfl dc_RM_pointsBy_68 rfl ?_
        refine g_iast sh_75 (b5 c1 c2 c3) dc_RM_pointsBy_69 rfl ?_
        exact (k6 c1 c2 c3)
theorem w_RM_pointsBy_70 {G : GC} {d : Nat} {P : PT} {I : MI} {J : MJ} {x1 : Int32} {x2 : Int32} {x3 : Int32} (k1 : Go G (fr G m_RM_pointsBy d P) 25 [some (.ref 67), some (.int x1), some (.int x2), some (.int (x3 + 1))] [] I J) : Go G (fr G m_RM_pointsBy d P) 70 [some (.ref 67), some (.int x1), some (.int x2), some (.int x3)] [] I J := by
  refine g_iinc (v := (x3 + 1)) (L' := [some (.ref 67), some (.int x1), some (.int x2), some (.int (x3 + 1))]) dc_RM_pointsBy_70 rfl rfl (by rw [show Int32.ofInt 1 = 1 from by decide]) (Nat.le_of_ble_eq_true rfl) rfl ?_
  refine g_goto (tgt := 25) dc_RM_pointsBy_73 (by decide) ?_
  exact k1
theorem w_RM_pointsBy_83 {G : GC} {d : Nat} {P : PT} {I : MI} {J : MJ} {x3 : Int32} (q1 : (40 ≤ x3) → P none I J) (b2 : (¬ (40 ≤ x3)) → vp_in x3 40) (k3 : (¬ (40 ≤ x3)) → ((I 75 x3.toNatClampNeg) = (-9999)) → Go G (fr G m_RM_pointsBy d P) 136 [some (.ref 67), none, none, some (.int x3)] [] I J) (b4 : (¬ (40 ≤ x3)) → (¬ ((I 75 x3.toNatClampNeg) = (-9999))) → vp_in (I 67 7) 40) (k5 : (¬ (40 ≤ x3)) → (¬ ((I 75 x3.toNatClampNeg) = (-9999))) → Go G (fr G m_RM_pointsBy d P) 136 [some (.ref 67), none, none, some (.int x3)] [] (u2 (u2 (u2 I 73 (I 67 7).toNatClampNeg (I 75 x3.toNatClampNeg)) 74 (I 67 7).toNatClampNeg x3) 67 7 ((I 67 7) + 1)) J) : Go G (fr G m_RM_pointsBy d P) 83 [some (.ref 67), none, none, some (.int x3)] [] I J := by
  refine g_iload_n dc_RM_pointsBy_83 rfl rfl rfl ?_
  refine g_bipush (v := 40) dc_RM_pointsBy_84 rfl (by decide) ?_
  refine g_ic_ge (tgt := 142) dc_RM_pointsBy_86 rfl (by decide) (fun c1 => ?_) (fun c1 => ?_)
  · exact g_vret rfl dc_RM_pointsBy_142 (q1 c1)
  · refine g_aload_n dc_RM_pointsBy_89 rfl rfl rfl ?_
    refine g_get (C := "LevelBreaksModel") (T := T_RM) (N := 45) (k := 10) (v := .ref 75) sh_67 (by decide) rfl rfl i_RM (by decide) fl_RM_35 (Or.inl rfl) rfl dc_RM_pointsBy_90 rfl ?_
    refine g_iload_n dc_RM_pointsBy_93 rfl rfl rfl ?_
    refine g_ialdv (v := (I 75 x3.toNatClampNeg)) sh_75 (b2 c1) rfl dc_RM_pointsBy_94 rfl ?_
    refine g_sipush (v := (-9999)) dc_RM_pointsBy_95 rfl (by decide) ?_
    refine g_ic_eq (tgt := 136) dc_RM_pointsBy_98 rfl (by decide) (fun c2 => ?_) (fun c2 => ?_)
    · exact (k3 c1 c2)
    · refine g_aload_n dc_RM_pointsBy_101 rfl rfl rfl ?_
      refine g_get (C := "LevelBreaksModel") (T := T_RM) (N := 45) (k := 8) (v := .ref 73) sh_67 (by decide) rfl rfl i_RM (by decide) fl_RM_29 (Or.inl rfl) rfl dc_RM_pointsBy_102 rfl ?_
      refine g_aload_n dc_RM_pointsBy_105 rfl rfl rfl ?_
      refine g_get (C := "LevelBreaksModel") (T := T_RM) (N := 45) (k := 7) (v := .int (I 67 7)) sh_67 (by decide) rfl rfl i_RM (by decide) fl_RM_145 (Or.inl rfl) rfl dc_RM_pointsBy_106 rfl ?_
      refine g_aload_n dc_RM_pointsBy_109 rfl rfl rfl ?_
      refine g_get (C := "LevelBreaksModel") (T := T_RM) (N := 45) (k := 10) (v := .ref 75) sh_67 (by decide) rfl rfl i_RM (by decide) fl_RM_35 (Or.inl rfl) rfl dc_RM_pointsBy_110 rfl ?_
      refine g_iload_n dc_RM_pointsBy_113 rfl rfl rfl ?_
      refine g_ialdv (v := (I 75 x3.toNatClampNeg)) sh_75 (b2 c1) rfl dc_RM_pointsBy_114 rfl ?_
      refine g_iast sh_73 (b4 c1 c2) dc_RM_pointsBy_115 rfl ?_
      refine g_aload_n dc_RM_pointsBy_116 rfl rfl rfl ?_
      refine g_get (C := "LevelBreaksModel") (T := T_RM) (N := 45) (k := 9) (v := .ref 74) sh_67 (by decide) rfl rfl i_RM (by decide) fl_RM_32 (Or.inl rfl) rfl dc_RM_pointsBy_117 rfl ?_
      refine g_aload_n dc_RM_pointsBy_120 rfl rfl rfl ?_
      refine g_get (C := "LevelBreaksModel") (T := T_RM) (N := 45) (k := 7) (v := .int (I 67 7)) sh_67 (by decide) rfl rfl i_RM (by decide) fl_RM_145 (Or.inl rfl) rfl dc_RM_pointsBy_121 rfl ?_
      refine g_iload_n dc_RM_pointsBy_124 rfl rfl rfl ?_
      refine g_iast sh_74 (b4 c1 c2) dc_RM_pointsBy_125 rfl ?_
      refine g_aload_n dc_RM_pointsBy_126 rfl rfl rfl ?_
      refine g_dup dc_RM_pointsBy_127 rfl rfl ?_
      refine g_get (C := "LevelBreaksModel") (T := T_RM) (N := 45) (k := 7) (v := .int (I 67 7)) sh_67 (by decide) rfl rfl i_RM (by decide) fl_RM_145 (Or.inl rfl) rfl dc_RM_pointsBy_128 rfl ?_
      refine g_iconst (v := 1) dc_RM_pointsBy_131 rfl (by decide) ?_
      refine g_iadd dc_RM_pointsBy_132 rfl ?_
      refine g_putI (C := "LevelBreaksModel") (T := T_RM) (N := 45) (k := 7) (ty := t_RM) sh_67 (by decide) rfl rfl i_RM p_RM n_RM (by decide) fl_RM_145 (Or.inl rfl) rfl (by decide) dc_RM_pointsBy_133 rfl ?_
      exact (k5 c1 c2)
theorem w_RM_pointsBy_136 {G : GC} {d : Nat} {P : PT} {I : MI} {J : MJ} {x3 : Int32} (k1 : Go G (fr G m_RM_pointsBy d P) 83 [some (.ref 67), none, none, some (.int (x3 + 1))] [] I J) : Go G (fr G m_RM_pointsBy d P) 136 [some (.ref 67), none, none, some (.int x3)] [] I J := by
  refine g_iinc (v := (x3 + 1)) (L' := [some (.ref 67), none, none, some (.int (x3 + 1))]) dc_RM_pointsBy_136 rfl rfl (by rw [show Int32.ofInt 1 = 1 from by decide]) (Nat.le_of_ble_eq_true rfl) rfl ?_
  refine g_goto (tgt := 83) dc_RM_pointsBy_139 (by decide) ?_
  exact k1
theorem dc_RM_priced_0 : decode prog_14_method_35_code 0 = .ok (.iload_n 1, 1) := by decide +kernel
theorem dc_RM_priced_1 : decode prog_14_method_35_code 1 = .ok (.invokestatic 119, 3) := by decide +kernel
theorem dc_RM_priced_4 : decode prog_14_method_35_code 4 = .ok (.ifCond .eq 20, 3) := by decide +kernel
theorem dc_RM_priced_7 : decode prog_14_method_35_code 7 = .ok (.iload_n 2, 1) := by decide +kernel
theorem dc_RM_priced_8 : decode prog_14_method_35_code 8 = .ok (.invokestatic 186, 3) := by decide +kernel
theorem dc_RM_priced_11 : decode prog_14_method_35_code 11 = .ok (.ifCond .eq 13, 3) := by decide +kernel
theorem dc_RM_priced_14 : decode prog_14_method_35_code 14 = .ok (.iload_n 3, 1) := by decide +kernel
theorem dc_RM_priced_15 : decode prog_14_method_35_code 15 = .ok (.iconst 0, 1) := by decide +kernel
theorem dc_RM_priced_16 : decode prog_14_method_35_code 16 = .ok (.ldc 230, 2) := by decide +kernel
theorem dc_RM_priced_18 : decode prog_14_method_35_code 18 = .ok (.invokestatic 112, 3) := by decide +kernel
theorem dc_RM_priced_21 : decode prog_14_method_35_code 21 = .ok (.ifCond .ne 6, 3) := by decide +kernel
theorem dc_RM_priced_24 : decode prog_14_method_35_code 24 = .ok (.bipush (-2), 2) := by decide +kernel
theorem dc_RM_priced_26 : decode prog_14_method_35_code 26 = .ok (.ireturn, 1) := by decide +kernel
theorem dc_RM_priced_27 : decode prog_14_method_35_code 27 = .ok (.aload_n 0, 1) := by decide +kernel
theorem dc_RM_priced_28 : decode prog_14_method_35_code 28 = .ok (.iload_n 1, 1) := by decide +kernel
theorem dc_RM_priced_29 : decode prog_14_method_35_code 29 = .ok (.aload_n 0, 1) := by decide +kernel
theorem dc_RM_priced_30 : decode prog_14_method_35_code 30 = .ok (.getfield 22, 3) := by decide +kernel
theorem dc_RM_priced_33 : decode prog_14_method_35_code 33 = .ok (.invokevirtual 148, 3) := by decide +kernel
theorem dc_RM_priced_36 : decode prog_14_method_35_code 36 = .ok (.aload_n 0, 1) := by decide +kernel
theorem dc_RM_priced_37 : decode prog_14_method_35_code 37 = .ok (.getfield 145, 3) := by decide +kernel
theorem dc_RM_priced_40 : decode prog_14_method_35_code 40 = .ok (.ifCond .eq 16, 3) := by decide +kernel
theorem dc_RM_priced_43 : decode prog_14_method_35_code 43 = .ok (.aload_n 0, 1) := by decide +kernel
theorem dc_RM_priced_44 : decode prog_14_method_35_code 44 = .ok (.getfield 145, 3) := by decide +kernel
theorem dc_RM_priced_47 : decode prog_14_method_35_code 47 = .ok (.aload_n 0, 1) := by decide +kernel
theorem dc_RM_priced_48 : decode prog_14_method_35_code 48 = .ok (.getfield 26, 3) := by decide +kernel
theorem dc_RM_priced_51 : decode prog_14_method_35_code 51 = .ok (.iload_n 1, 1) := by decide +kernel
theorem dc_RM_priced_52 : decode prog_14_method_35_code 52 = .ok (.iaload, 1) := by decide +kernel
theorem dc_RM_priced_53 : decode prog_14_method_35_code 53 = .ok (.if_icmp .ge 6, 3) := by decide +kernel
theorem dc_RM_priced_56 : decode prog_14_method_35_code 56 = .ok (.bipush (-3), 2) := by decide +kernel
theorem dc_RM_priced_58 : decode prog_14_method_35_code 58 = .ok (.ireturn, 1) := by decide +kernel
theorem dc_RM_priced_59 : decode prog_14_method_35_code 59 = .ok (.aload_n 0, 1) := by decide +kernel
theorem dc_RM_priced_60 : decode prog_14_method_35_code 60 = .ok (.iload_n 2, 1) := by decide +kernel
theorem dc_RM_priced_61 : decode prog_14_method_35_code 61 = .ok (.invokevirtual 191, 3) := by decide +kernel
theorem dc_RM_priced_64 : decode prog_14_method_35_code 64 = .ok (.aload_n 0, 1) := by decide +kernel
theorem dc_RM_priced_65 : decode prog_14_method_35_code 65 = .ok (.bipush 6, 2) := by decide +kernel
theorem dc_RM_priced_67 : decode prog_14_method_35_code 67 = .ok (.aload_n 0, 1) := by decide +kernel
theorem dc_RM_priced_68 : decode prog_14_method_35_code 68 = .ok (.getfield 26, 3) := by decide +kernel
theorem dc_RM_priced_71 : decode prog_14_method_35_code 71 = .ok (.iload_n 1, 1) := by decide +kernel
theorem dc_RM_priced_72 : decode prog_14_method_35_code 72 = .ok (.iaload, 1) := by decide +kernel
theorem dc_RM_priced_73 : decode prog_14_method_35_code 73 = .ok (.invokevirtual 211, 3) := by decide +kernel
theorem dc_RM_priced_76 : decode prog_14_method_35_code 76 = .ok (.iconst 1, 1) := by decide +kernel
theorem dc_RM_priced_77 : decode prog_14_method_35_code 77 = .ok (.istore 4, 2) := by decide +kernel
theorem dc_RM_priced_79 : decode prog_14_method_35_code 79 = .ok (.iconst 2, 1) := by decide +kernel
theorem dc_RM_priced_80 : decode prog_14_method_35_code 80 = .ok (.istore 5, 2) := by decide +kernel
theorem dc_RM_priced_82 : decode prog_14_method_35_code 82 = .ok (.iload 5, 2) := by decide +kernel
theorem dc_RM_priced_84 : decode prog_14_method_35_code 84 = .ok (.bipush 7, 2) := by decide +kernel
theorem dc_RM_priced_86 : decode prog_14_method_35_code 86 = .ok (.if_icmp .ge 98, 3) := by decide +kernel
theorem dc_RM_priced_89 : decode prog_14_method_35_code 89 = .ok (.aload_n 0, 1) := by decide +kernel
theorem dc_RM_priced_90 : decode prog_14_method_35_code 90 = .ok (.getfield 145, 3) := by decide +kernel
theorem dc_RM_priced_93 : decode prog_14_method_35_code 93 = .ok (.iload 5, 2) := by decide +kernel
theorem dc_RM_priced_95 : decode prog_14_method_35_code 95 = .ok (.aload_n 0, 1) := by decide +kernel
theorem dc_RM_priced_96 : decode prog_14_method_35_code 96 = .ok (.getfield 26, 3) := by decide +kernel
theorem dc_RM_priced_99 : decode prog_14_method_35_code 99 = .ok (.iload_n 1, 1) := by decide +kernel
theorem dc_RM_priced_100 : decode prog_14_method_35_code 100 = .ok (.iaload, 1) := by decide +kernel
theorem dc_RM_priced_101 : decode prog_14_method_35_code 101 = .ok (.imul, 1) := by decide +kernel
theorem dc_RM_priced_102 : decode prog_14_method_35_code 102 = .ok (.if_icmp .lt 82, 3) := by decide +kernel
theorem dc_RM_priced_105 : decode prog_14_method_35_code 105 = .ok (.aload_n 0, 1) := by decide +kernel
theorem dc_RM_priced_106 : decode prog_14_method_35_code 106 = .ok (.aload_n 0, 1) := by decide +kernel
theorem dc_RM_priced_107 : decode prog_14_method_35_code 107 = .ok (.getfield 51, 3) := by decide +kernel
theorem dc_RM_priced_110 : decode prog_14_method_35_code 110 = .ok (.bipush 41, 2) := by decide +kernel
theorem dc_RM_priced_112 : decode prog_14_method_35_code 112 = .ok (.iload 5, 2) := by decide +kernel
theorem dc_RM_priced_114 : decode prog_14_method_35_code 114 = .ok (.imul, 1) := by decide +kernel
theorem dc_RM_priced_115 : decode prog_14_method_35_code 115 = .ok (.laload, 1) := by decide +kernel
theorem dc_RM_priced_116 : decode prog_14_method_35_code 116 = .ok (.iload_n 3, 1) := by decide +kernel
theorem dc_RM_priced_117 : decode prog_14_method_35_code 117 = .ok (.i2l, 1) := by decide +kernel
theorem dc_RM_priced_118 : decode prog_14_method_35_code 118 = .ok (.iload 5, 2) := by decide +kernel
theorem dc_RM_priced_120 : decode prog_14_method_35_code 120 = .ok (.iload 4, 2) := by decide +kernel
theorem dc_RM_priced_122 : decode prog_14_method_35_code 122 = .ok (.isub, 1) := by decide +kernel
theorem dc_RM_priced_123 : decode prog_14_method_35_code 123 = .ok (.i2l, 1) := by decide +kernel
theorem dc_RM_priced_124 : decode prog_14_method_35_code 124 = .ok (.lmul, 1) := by decide +kernel
theorem dc_RM_priced_125 : decode prog_14_method_35_code 125 = .ok (.ladd, 1) := by decide +kernel
theorem dc_RM_priced_126 : decode prog_14_method_35_code 126 = .ok (.putfield 195, 3) := by decide +kernel
theorem dc_RM_priced_129 : decode prog_14_method_35_code 129 = .ok (.aload_n 0, 1) := by decide +kernel
theorem dc_RM_priced_130 : decode prog_14_method_35_code 130 = .ok (.aload_n 0, 1) := by decide +kernel
theorem dc_RM_priced_131 : decode prog_14_method_35_code 131 = .ok (.getfield 54, 3) := by decide +kernel
theorem dc_RM_priced_134 : decode prog_14_method_35_code 134 = .ok (.bipush 41, 2) := by decide +kernel
theorem dc_RM_priced_136 : decode prog_14_method_35_code 136 = .ok (.iload 5, 2) := by decide +kernel
theorem dc_RM_priced_138 : decode prog_14_method_35_code 138 = .ok (.imul, 1) := by decide +kernel
theorem dc_RM_priced_139 : decode prog_14_method_35_code 139 = .ok (.laload, 1) := by decide +kernel
theorem dc_RM_priced_140 : decode prog_14_method_35_code 140 = .ok (.putfield 199, 3) := by decide +kernel
theorem dc_RM_priced_143 : decode prog_14_method_35_code 143 = .ok (.aload_n 0, 1) := by decide +kernel
theorem dc_RM_priced_144 : decode prog_14_method_35_code 144 = .ok (.aload_n 0, 1) := by decide +kernel
theorem dc_RM_priced_145 : decode prog_14_method_35_code 145 = .ok (.getfield 57, 3) := by decide +kernel
theorem dc_RM_priced_148 : decode prog_14_method_35_code 148 = .ok (.bipush 41, 2) := by decide +kernel
theorem dc_RM_priced_150 : decode prog_14_method_35_code 150 = .ok (.iload 5, 2) := by decide +kernel
theorem dc_RM_priced_152 : decode prog_14_method_35_code 152 = .ok (.imul, 1) := by decide +kernel
theorem dc_RM_priced_153 : decode prog_14_method_35_code 153 = .ok (.laload, 1) := by decide +kernel
theorem dc_RM_priced_154 : decode prog_14_method_35_code 154 = .ok (.putfield 202, 3) := by decide +kernel
theorem dc_RM_priced_157 : decode prog_14_method_35_code 157 = .ok (.aload_n 0, 1) := by decide +kernel
theorem dc_RM_priced_158 : decode prog_14_method_35_code 158 = .ok (.bipush 41, 2) := by decide +kernel
theorem dc_RM_priced_160 : decode prog_14_method_35_code 160 = .ok (.iload 4, 2) := by decide +kernel
theorem dc_RM_priced_162 : decode prog_14_method_35_code 162 = .ok (.imul, 1) := by decide +kernel
theorem dc_RM_priced_163 : decode prog_14_method_35_code 163 = .ok (.invokevirtual 208, 3) := by decide +kernel
theorem dc_RM_priced_166 : decode prog_14_method_35_code 166 = .ok (.ifCond .ge 8, 3) := by decide +kernel
theorem dc_RM_priced_169 : decode prog_14_method_35_code 169 = .ok (.iload 5, 2) := by decide +kernel
theorem dc_RM_priced_171 : decode prog_14_method_35_code 171 = .ok (.goto 5, 3) := by decide +kernel
theorem dc_RM_priced_174 : decode prog_14_method_35_code 174 = .ok (.iload 4, 2) := by decide +kernel
theorem dc_RM_priced_176 : decode prog_14_method_35_code 176 = .ok (.istore 4, 2) := by decide +kernel
theorem dc_RM_priced_178 : decode prog_14_method_35_code 178 = .ok (.iinc 5 1, 3) := by decide +kernel
theorem dc_RM_priced_181 : decode prog_14_method_35_code 181 = .ok (.goto (-99), 3) := by decide +kernel
theorem dc_RM_priced_184 : decode prog_14_method_35_code 184 = .ok (.iload 4, 2) := by decide +kernel
theorem dc_RM_priced_186 : decode prog_14_method_35_code 186 = .ok (.ireturn, 1) := by decide +kernel
theorem w_RM_priced_0 {G : GC} {d : Nat} {P : PT} {I : MI} {J : MJ} {x1 : Int32} {x2 : Int32} {x3 : Int32} (k1 : ((f_RM_isRow x1) = 0) → Go G (fr G m_RM_priced (d + 4) P) 24 [none, none, none, none, none, none] [] I J) (k2 : (¬ ((f_RM_isRow x1) = 0)) → ((f_RM_isKind x2) = 0) → Go G (fr G m_RM_priced (d + 4) P) 24 [none, none, none, none, none, none] [] I J) (k3 : (¬ ((f_RM_isRow x1) = 0)) → (¬ ((f_RM_isKind x2) = 0)) → (¬ (f_RM_in x3 0 1000000) = 0) → Ct G (d + 3) m_RM_pointsBy [.ref 67, .int x1, .int (I 67 5)] (fun r I' J' => Go G (fr G m_RM_priced (d + 4) P) 36 [some (.ref 67), some (.int x1), some (.int x2), some (.int x3), none, none] (r.toList ++ []) I' J') I J) (k4 : (¬ ((f_RM_isRow x1) = 0)) → (¬ ((f_RM_isKind x2) = 0)) → ((f_RM_in x3 0 1000000) = 0) → Go G (fr G m_RM_priced (d + 4) P) 24 [none, none, none, none, none, none] [] I J) : Go G (fr G m_RM_priced (d + 4) P) 0 [some (.ref 67), some (.int x1), some (.int x2), some (.int x3), none, none] [] I J := by
  refine g_iload_n dc_RM_priced_0 rfl rfl rfl ?_
  refine g_callS (M := m_RM_isRow) (As := [.int x1]) (rest := []) ok_RM_isRow st_RM_isRow ml_RM_119 rfl rfl (Nat.le_of_ble_eq_true rfl) dc_RM_priced_1 rfl rOk_fr (c_RM_isRow ?_)
  show Go G (fr G m_RM_priced (d + 4) P) 4 [some (.ref 67), some (.int x1), some (.int x2), some (.int x3), none, none] [.int (f_RM_isRow x1)] I J
  refine g_if_eq (tgt := 24) dc_RM_priced_4 rfl (by decide) (fun c1 => ?_) (fun c1 => ?_)
  · refine g_weak [none, none, none, none, none, none] trivial ?_
    exact (k1 c1)
  · refine g_iload_n dc_RM_priced_7 rfl rfl rfl ?_
    refine g_callS (M := m_RM_isKind) (As := [.int x2]) (rest := []) ok_RM_isKind st_RM_isKind ml_RM_186 rfl rfl (Nat.le_of_ble_eq_true rfl) dc_RM_priced_8 rfl rOk_fr (c_RM_isKind ?_)
    show Go G (fr G m_RM_priced (d + 4) P) 11 [some (.ref 67), some (.int x1), some (.int x2), some (.int x3), none, none] [.int (f_RM_isKind x2)] I J
    refine g_if_eq (tgt := 24) dc_RM_priced_11 rfl (by decide) (fun c2 => ?_) (fun c2 => ?_)
    · refine g_weak [none, none, none, none, none, none] trivial ?_
      exact (k2 c1 c2)
    · refine g_iload_n dc_RM_priced_14 rfl rfl rfl ?_
      refine g_iconst (v := 0) dc_RM_priced_15 rfl (by decide) ?_
      refine g_ldc (v := 1000000) kl_RM_230 dc_RM_priced_16 rfl ?_
      refine g_callS (M := m_RM_in) (As := [.int x3, .int 0, .int 1000000]) (rest := []) ok_RM_in st_RM_in ml_RM_112 rfl rfl (Nat.le_of_ble_eq_true rfl) dc_RM_priced_18 rfl rOk_fr (c_RM_in ?_)
      show Go G (fr G m_RM_priced (d + 4) P) 21 [some (.ref 67), some (.int x1), some (.int x2), some (.int x3), none, none] [.int (f_RM_in x3 0 1000000)] I J
      refine g_if_ne (tgt := 27) dc_RM_priced_21 rfl (by decide) (fun c3 => ?_) (fun c3 => ?_)
      · refine g_aload_n dc_RM_priced_27 rfl rfl rfl ?_
        refine g_iload_n dc_RM_priced_28 rfl rfl rfl ?_
        refine g_aload_n dc_RM_priced_29 rfl rfl rfl ?_
        refine g_get (C := "LevelBreaksModel") (T := T_RM) (N := 45) (k := 5) (v := .int (I 67 5)) sh_67 (by decide) rfl rfl i_RM (by decide) fl_RM_22 (Or.inl rfl) rfl dc_RM_priced_30 rfl ?_
        exact g_callV (T := T_RM) (N := 45) (As := [.int x1, .int (I 67 5)]) (rest := []) ok_RM_pointsBy in_RM_pointsBy se_RM_pointsBy ml_RM_148 sh_67 (by decide) rfl rfl rfl (Nat.le_of_ble_eq_true rfl) dc_RM_priced_33 rfl rOk_fr (k3 c1 c2 c3)
      · refine g_weak [none, none, none, none, none, none] trivial ?_
        exact (k4 c1 c2 c3)
theorem w_RM_priced_24 {G : GC} {d : Nat} {P : PT} {I : MI} {J : MJ}  (q1 : P (some (.int (-2))) I J) : Go G (fr G m_RM_priced (d + 4) P) 24 [none, none, none, none, none, none] [] I J := by
  refine g_bipush (v := (-2)) dc_RM_priced_24 rfl (by decide) ?_
  exact g_iret rfl dc_RM_priced_26 q1
theorem w_RM_priced_36 {G : GC} {d : Nat} {P : PT} {I : MI} {J : MJ} {x1 : Int32} {x2 : Int32} {x3 : Int32} (k1 : ((I 67 7) = 0) → Go G (fr G m_RM_priced (d + 4) P) 56 [none, none, none, none, none, none] [] I J) (b2 : (¬ ((I 67 7) = 0)) → vp_in x1 4) (k3 : (¬ ((I 67 7) = 0)) → ((I 72 x1.toNatClampNeg) ≤ (I 67 7)) → Ct G (d + 3) m_RM_costs [.ref 67, .int x2] (fun r I' J' => Go G (fr G m_RM_priced (d + 4) P) 64 [some (.ref 67), some (.int x1), none, some (.int x3), none, none] (r.toList ++ []) I' J') I J) (k4 : (¬ ((I 67 7) = 0)) → (¬ ((I 72 x1.toNatClampNeg) ≤ (I 67 7))) → Go G (fr G m_RM_priced (d + 4) P) 56 [none, none, none, none, none, none] [] I J) : Go G (fr G m_RM_priced (d + 4) P) 36 [some (.ref 67), some (.int x1), some (.int x2), some (.int x3), none, none] [] I J := by
  refine g_aload_n dc_RM_priced_36 rfl rfl rfl ?_
  refine g_get (C := "LevelBreaksModel") (T := T_RM) (N := 45) (k := 7) (v := .int (I 67 7)) sh_67 (by decide) rfl rfl i_RM (by decide) fl_RM_145 (Or.inl rfl) rfl dc_RM_priced_37 rfl ?_
  refine g_if_eq (tgt := 56) dc_RM_priced_40 rfl (by decide) (fun c1 => ?_) (fun c1 => ?_)
  · refine g_weak [none, none, none, none, none, none] trivial ?_
    exact (k1 c1)
  · refine g_aload_n dc_RM_priced_43 rfl rfl rfl ?_
    refine g_get (C := "LevelBreaksModel") (T := T_RM) (N := 45) (k := 7) (v := .int (I 67 7)) sh_67 (by decide) rfl rfl i_RM (by decide) fl_RM_145 (Or.inl rfl) rfl dc_RM_priced_44 rfl ?_
    refine g_aload_n dc_RM_priced_47 rfl rfl rfl ?_
    refine g_get (C := "LevelBreaksModel") (T := T_RM) (N := 45) (k := 6) (v := .ref 72) sh_67 (by decide) rfl rfl i_RM (by decide) fl_RM_26 (Or.inl rfl) rfl dc_RM_priced_48 rfl ?_
    refine g_iload_n dc_RM_priced_51 rfl rfl rfl ?_
    refine g_ialdv (v := (I 72 x1.toNatClampNeg)) sh_72 (b2 c1) rfl dc_RM_priced_52 rfl ?_
    refine g_ic_ge (tgt := 59) dc_RM_priced_53 rfl (by decide) (fun c2 => ?_) (fun c2 => ?_)
    · refine g_aload_n dc_RM_priced_59 rfl rfl rfl ?_
      refine g_iload_n dc_RM_priced_60 rfl rfl rfl ?_
      refine g_weak [some (.ref 67), some (.int x1), none, some (.int x3), none, none] ⟨rfl, ⟨rfl, ⟨rfl, trivial⟩⟩⟩ ?_
      exact g_callV (T := T_RM) (N := 45) (As := [.int x2]) (rest := []) ok_RM_costs in_RM_costs se_RM_costs ml_RM_191 sh_67 (by decide) rfl rfl rfl (Nat.le_of_ble_eq_true rfl) dc_RM_priced_61 rfl rOk_fr (k3 c1 c2)
    · refine g_weak [none, none, none, none, none, none] trivial ?_
      exact (k4 c1 c2)
theorem w_RM_priced_56 {G : GC} {d : Nat} {P : PT} {I : MI} {J : MJ}  (q1 : P (some (.int (-3))) I J) : Go G (fr G m_RM_priced (d + 4) P) 56 [none, none, none, none, none, none] [] I J := by
  refine g_bipush (v := (-3)) dc_RM_priced_56 rfl (by decide) ?_
  exact g_iret rfl dc_RM_priced_58 q1
theorem w_RM_priced_64 {G : GC} {d : Nat} {P : PT} {I : MI} {J : MJ} {x1 : Int32} {x3 : Int32} (b1 : vp_in x1 4) (k2 : Ct G (d + 3) m_RM_cuts [.ref 67, .int 6, .int (I 72 x1.toNatClampNeg)] (fun r I' J' => Go G (fr G m_RM_priced (d + 4) P) 76 [some (.ref 67), some (.int x1), none, some (.int x3), none, none] (r.toList ++ []) I' J') I J) : Go G (fr G m_RM_priced (d + 4) P) 64 [some (.ref 67), some (.int x1), none, some (.int x3), none, none] [] I J := by
  refine g_aload_n dc_RM_priced_64 rfl rfl rfl ?_
  refine g_bipush (v := 6) dc_RM_priced_65 rfl (by decide) ?_
  refine g_aload_n dc_RM_priced_67 rfl rfl rfl ?_
  refine g_get (C := "LevelBreaksModel") (T := T_RM) (N := 45) (k := 6) (v := .ref 72) sh_67 (by decide) rfl rfl i_RM (by decide) fl_RM_26 (Or.inl rfl) rfl dc_RM_priced_68 rfl ?_
  refine g_iload_n dc_RM_priced_71 rfl rfl rfl ?_
  refine g_ialdv (v := (I 72 x1.toNatClampNeg)) sh_72 b1 rfl dc_RM_priced_72 rfl ?_
  exact g_callV (T := T_RM) (N := 45) (As := [.int 6, .int (I 72 x1.toNatClampNeg)]) (rest := []) ok_RM_cuts in_RM_cuts se_RM_cuts ml_RM_211 sh_67 (by decide) rfl rfl rfl (Nat.le_of_ble_eq_true rfl) dc_RM_priced_73 rfl rOk_fr k2
theorem w_RM_priced_76 {G : GC} {d : Nat} {P : PT} {I : MI} {J : MJ} {x1 : Int32} {x3 : Int32} (k1 : Go G (fr G m_RM_priced (d + 4) P) 82 [some (.ref 67), some (.int x1), none, some (.int x3), some (.int 1), some (.int 2)] [] I J) : Go G (fr G m_RM_priced (d + 4) P) 76 [some (.ref 67), some (.int x1), none, some (.int x3), none, none] [] I J := by
  refine g_iconst (v := 1) dc_RM_priced_76 rfl (by decide) ?_
  refine g_istore (L' := [some (.ref 67), some (.int x1), none, some (.int x3), some (.int 1), none]) dc_RM_priced_77 rfl (Nat.le_of_ble_eq_true rfl) rfl ?_
  refine g_iconst (v := 2) dc_RM_priced_79 rfl (by decide) ?_
  refine g_istore (L' := [some (.ref 67), some (.int x1), none, some (.int x3), some (.int 1), some (.int 2)]) dc_RM_priced_80 rfl (Nat.le_of_ble_eq_true rfl) rfl ?_
  exact k1
theorem w_RM_priced_82 {G : GC} {d : Nat} {P : PT} {I : MI} {J : MJ} {x1 : Int32} {x3 : Int32} {x4 : Int32} {x5 : Int32} (k1 : (7 ≤ x5) → Go G (fr G m_RM_priced (d + 4) P) 184 [none, none, none, none, some (.int x4), none] [] I J) (b2 : (¬ (7 ≤ x5)) → vp_in x1 4) (k3 : (¬ (7 ≤ x5)) → ((I 67 7) < (x5 * (I 72 x1.toNatClampNeg))) → Go G (fr G m_RM_priced (d + 4) P) 184 [none, none, none, none, some (.int x4), none] [] I J) (b4 : (¬ (7 ≤ x5)) → (¬ ((I 67 7) < (x5 * (I 72 x1.toNatClampNeg)))) → vp_in (41 * x5) 287) (k5 : (¬ (7 ≤ x5)) → (¬ ((I 67 7) < (x5 * (I 72 x1.toNatClampNeg)))) → Ct G (d + 3) m_RM_against [.ref 67, .int (41 * x4)] (fun r I' J' => Go G (fr G m_RM_priced (d + 4) P) 166 [some (.ref 67), some (.int x1), none, some (.int x3), some (.int x4), some (.int x5)] (r.toList ++ []) I' J') I (u2 (u2 (u2 J 67 18 ((J 80 (41 * x5).toNatClampNeg) + ((Int32.toInt64 x3) * (Int32.toInt64 (x5 - x4))))) 67 19 (J 81 (41 * x5).toNatClampNeg)) 67 20 (J 82 (41 * x5).toNatClampNeg))) : Go G (fr G m_RM_priced (d + 4) P) 82 [some (.ref 67), some (.int x1), none, some (.int x3), some (.int x4), some (.int x5)] [] I J := by
  refine g_iload dc_RM_priced_82 rfl rfl ?_
  refine g_bipush (v := 7) dc_RM_priced_84 rfl (by decide) ?_
  refine g_ic_ge (tgt := 184) dc_RM_priced_86 rfl (by decide) (fun c1 => ?_) (fun c1 => ?_)
  · refine g_weak [none, none, none, none, some (.int x4), none] ⟨rfl, trivial⟩ ?_
    exact (k1 c1)
  · refine g_aload_n dc_RM_priced_89 rfl rfl rfl ?_
    refine g_get (C := "LevelBreaksModel") (T := T_RM) (N := 45) (k := 7) (v := .int (I 67 7)) sh_67 (by decide) rfl rfl i_RM (by decide) fl_RM_145 (Or.inl rfl) rfl dc_RM_priced_90 rfl ?_
    refine g_iload dc_RM_priced_93 rfl rfl ?_
    refine g_aload_n dc_RM_priced_95 rfl rfl rfl ?_
    refine g_get (C := "LevelBreaksModel") (T := T_RM) (N := 45) (k := 6) (v := .ref 72) sh_67 (by decide) rfl rfl i_RM (by decide) fl_RM_26 (Or.inl rfl) rfl dc_RM_priced_96 rfl ?_
    refine g_iload_n dc_RM_priced_99 rfl rfl rfl ?_
    refine g_ialdv (v := (I 72 x1.toNatClampNeg)) sh_72 (b2 c1) rfl dc_RM_priced_100 rfl ?_
    refine g_imul dc_RM_priced_101 rfl ?_
    refine g_ic_lt (tgt := 184) dc_RM_priced_102 rfl (by decide) (fun c2 => ?_) (fun c2 => ?_)
    · refine g_weak [none, none, none, none, some (.int x4), none] ⟨rfl, trivial⟩ ?_
      exact (k3 c1 c2)
    · refine g_aload_n dc_RM_priced_105 rfl rfl rfl ?_
      refine g_aload_n dc_RM_priced_106 rfl rfl rfl ?_
      refine g_get (C := "LevelBreaksModel") (T := T_RM) (N := 45) (k := 15) (v := .ref 80) sh_67 (by decide) rfl rfl i_RM (by decide) fl_RM_51 (Or.inl rfl) rfl dc_RM_priced_107 rfl ?_
      refine g_bipush (v := 41) dc_RM_priced_110 rfl (by decide) ?_
      refine g_iload dc_RM_priced_112 rfl rfl ?_
      refine g_imul dc_RM_priced_114 rfl ?_
      refine g_laldv (v := (J 80 (41 * x5).toNatClampNeg)) sh_80 (b4 c1 c2) rfl dc_RM_priced_115 rfl ?_
      refine g_iload_n dc_RM_priced_116 rfl rfl rfl ?_
      refine g_i2l dc_RM_priced_117 rfl ?_
      refine g_iload dc_RM_priced_118 rfl rfl ?_
      refine g_iload dc_RM_priced_120 rfl rfl ?_
      refine g_isub dc_RM_priced_122 rfl ?_
      refine g_i2l dc_RM_priced_123 rfl ?_
      refine g_lmul dc_RM_priced_124 rfl ?_
      refine g_ladd dc_RM_priced_125 rfl ?_
      refine g_putJ (C := "LevelBreaksModel") (T := T_RM) (N := 45) (k := 18) (ty := t_RM) sh_67 (by decide) rfl rfl i_RM p_RM n_RM (by decide) fl_RM_195 (Or.inl rfl) rfl (by decide) dc_RM_priced_126 rfl ?_
      refine g_aload_n dc_RM_priced_129 rfl rfl rfl ?_
      refine g_aload_n dc_RM_priced_130 rfl rfl rfl ?_
      refine g_get (C := "LevelBreaksModel") (T := T_RM) (N := 45) (k := 16) (v := .ref 81) sh_67 (by decide) rfl rfl i_RM (by decide) fl_RM_54 (Or.inl rfl) rfl dc_RM_priced_131 rfl ?_
      refine g_bipush (v := 41) dc_RM_priced_134 rfl (by decide) ?_
      refine g_iload dc_RM_priced_136 rfl rfl ?_
      refine g_imul dc_RM_priced_138 rfl ?_
      refine g_laldv (v := (J 81 (41 * x5).toNatClampNeg)) sh_81 (b4 c1 c2) rfl dc_RM_priced_139 rfl ?_
      refine g_putJ (C := "LevelBreaksModel") (T := T_RM) (N := 45) (k := 19) (ty := t_RM) sh_67 (by decide) rfl rfl i_RM p_RM n_RM (by decide) fl_RM_199 (Or.inl rfl) rfl (by decide) dc_RM_priced_140 rfl ?_
      refine g_aload_n dc_RM_priced_143 rfl rfl rfl ?_
      refine g_aload_n dc_RM_priced_144 rfl rfl rfl ?_
      refine g_get (C := "LevelBreaksModel") (T := T_RM) (N := 45) (k := 17) (v := .ref 82) sh_67 (by decide) rfl rfl i_RM (by decide) fl_RM_57 (Or.inl rfl) rfl dc_RM_priced_145 rfl ?_
      refine g_bipush (v := 41) dc_RM_priced_148 rfl (by decide) ?_
      refine g_iload dc_RM_priced_150 rfl rfl ?_
      refine g_imul dc_RM_priced_152 rfl ?_
      refine g_laldv (v := (J 82 (41 * x5).toNatClampNeg)) sh_82 (b4 c1 c2) rfl dc_RM_priced_153 rfl ?_
      refine g_putJ (C := "LevelBreaksModel") (T := T_RM) (N := 45) (k := 20) (ty := t_RM) sh_67 (by decide) rfl rfl i_RM p_RM n_RM (by decide) fl_RM_202 (Or.inl rfl) rfl (by decide) dc_RM_priced_154 rfl ?_
      refine g_aload_n dc_RM_priced_157 rfl rfl rfl ?_
      refine g_bipush (v := 41) dc_RM_priced_158 rfl (by decide) ?_
      refine g_iload dc_RM_priced_160 rfl rfl ?_
      refine g_imul dc_RM_priced_162 rfl ?_
      exact g_callV (T := T_RM) (N := 45) (As := [.int (41 * x4)]) (rest := []) ok_RM_against in_RM_against se_RM_against ml_RM_208 sh_67 (by decide) rfl rfl rfl (Nat.le_of_ble_eq_true rfl) dc_RM_priced_163 rfl rOk_fr (k5 c1 c2)
theorem w_RM_priced_166 {G : GC} {d : Nat} {P : PT} {I : MI} {J : MJ} {x1 : Int32} {x3 : Int32} {x4 : Int32} {x5 : Int32} {y0 : Int32} (k1 : (0 ≤ y0) → Go G (fr G m_RM_priced (d + 4) P) 176 [some (.ref 67), some (.int x1), none, some (.int x3), none, some (.int x5)] [.int x4] I J) (k2 : (¬ (0 ≤ y0)) → Go G (fr G m_RM_priced (d + 4) P) 176 [some (.ref 67), some (.int x1), none, some (.int x3), none, some (.int x5)] [.int x5] I J) : Go G (fr G m_RM_priced (d + 4) P) 166 [some (.ref 67), some (.int x1), none, some (.int x3), some (.int x4), some (.int x5)] [.int y0] I J := by
  refine g_if_ge (tgt := 174) dc_RM_priced_166 rfl (by decide) (fun c1 => ?_) (fun c1 => ?_)
  · refine g_iload dc_RM_priced_174 rfl rfl ?_
    refine g_weak [some (.ref 67), some (.int x1), none, some (.int x3), none, some (.int x5)] ⟨rfl, ⟨rfl, ⟨rfl, ⟨rfl, trivial⟩⟩⟩⟩ ?_
    exact (k1 c1)
  · refine g_iload dc_RM_priced_169 rfl rfl ?_
    refine g_goto (tgt := 176) dc_RM_priced_171 (by decide) ?_
    refine g_weak [some (.ref 67), some (.int x1), none, some (.int x3), none, some (.int x5)] ⟨rfl, ⟨rfl, ⟨rfl, ⟨rfl, trivial⟩⟩⟩⟩ ?_
    exact (k2 c1)
theorem w_RM_priced_176 {G : GC} {d : Nat} {P : PT} {I : MI} {J : MJ} {x1 : Int32} {x3 : Int32} {x5 : Int32} {y0 : Int32} (k1 : Go G (fr G m_RM_priced (d + 4) P) 82 [some (.ref 67), some (.int x1), none, some (.int x3), some (.int y0), some (.int (x5 + 1))] [] I J) : Go G (fr G m_RM_priced (d + 4) P) 176 [some (.ref 67), some (.int x1), none, some (.int x3), none, some (.int x5)] [.int y0] I J := by
  refine g_istore (L' := [some (.ref 67), some (.int x1), none, some (.int x3), some (.int y0), some (.int x5)]) dc_RM_priced_176 rfl (Nat.le_of_ble_eq_true rfl) rfl ?_
  refine g_iinc (v := (x5 + 1)) (L' := [some (.ref 67), some (.int x1), none, some (.int x3), some (.int y0), some (.int (x5 + 1))]) dc_RM_priced_178 rfl rfl (by rw [show Int32.ofInt 1 = 1 from by decide]) (Nat.le_of_ble_eq_true rfl) rfl ?_
  refine g_goto (tgt := 82) dc_RM_priced_181 (by decide) ?_
  exact k1
theorem w_RM_priced_184 {G : GC} {d : Nat} {P : PT} {I : MI} {J : MJ} {x4 : Int32} (q1 : P (some (.int x4)) I J) : Go G (fr G m_RM_priced (d + 4) P) 184 [none, none, none, none, some (.int x4), none] [] I J := by
  refine g_iload dc_RM_priced_184 rfl rfl ?_
  exact g_iret rfl dc_RM_priced_186 q1
theorem dc_RM_put_0 : decode prog_14_method_77_code 0 = .ok (.iload_n 1, 1) := by decide +kernel
theorem dc_RM_put_1 : decode prog_14_method_77_code 1 = .ok (.invokestatic 134, 3) := by decide +kernel
theorem dc_RM_put_4 : decode prog_14_method_77_code 4 = .ok (.ifCond .eq 12, 3) := by decide +kernel
theorem dc_RM_put_7 : decode prog_14_method_77_code 7 = .ok (.iload_n 2, 1) := by decide +kernel
theorem dc_RM_put_8 : decode prog_14_method_77_code 8 = .ok (.iconst 0, 1) := by decide +kernel
theorem dc_RM_put_9 : decode prog_14_method_77_code 9 = .ok (.iconst 2, 1) := by decide +kernel
theorem dc_RM_put_10 : decode prog_14_method_77_code 10 = .ok (.invokestatic 112, 3) := by decide +kernel
theorem dc_RM_put_13 : decode prog_14_method_77_code 13 = .ok (.ifCond .ne 6, 3) := by decide +kernel
theorem dc_RM_put_16 : decode prog_14_method_77_code 16 = .ok (.bipush (-2), 2) := by decide +kernel
theorem dc_RM_put_18 : decode prog_14_method_77_code 18 = .ok (.ireturn, 1) := by decide +kernel
theorem dc_RM_put_19 : decode prog_14_method_77_code 19 = .ok (.aload_n 0, 1) := by decide +kernel
theorem dc_RM_put_20 : decode prog_14_method_77_code 20 = .ok (.iload_n 1, 1) := by decide +kernel
theorem dc_RM_put_21 : decode prog_14_method_77_code 21 = .ok (.iload_n 2, 1) := by decide +kernel
theorem dc_RM_put_22 : decode prog_14_method_77_code 22 = .ok (.iload_n 3, 1) := by decide +kernel
theorem dc_RM_put_23 : decode prog_14_method_77_code 23 = .ok (.invokevirtual 327, 3) := by decide +kernel
theorem dc_RM_put_26 : decode prog_14_method_77_code 26 = .ok (.istore 5, 2) := by decide +kernel
theorem dc_RM_put_28 : decode prog_14_method_77_code 28 = .ok (.iload 5, 2) := by decide +kernel
theorem dc_RM_put_30 : decode prog_14_method_77_code 30 = .ok (.ifCond .le 10, 3) := by decide +kernel
theorem dc_RM_put_33 : decode prog_14_method_77_code 33 = .ok (.aload_n 0, 1) := by decide +kernel
theorem dc_RM_put_34 : decode prog_14_method_77_code 34 = .ok (.iload 5, 2) := by decide +kernel
theorem dc_RM_put_36 : decode prog_14_method_77_code 36 = .ok (.invokevirtual 137, 3) := by decide +kernel
theorem dc_RM_put_39 : decode prog_14_method_77_code 39 = .ok (.ireturn, 1) := by decide +kernel
theorem dc_RM_put_40 : decode prog_14_method_77_code 40 = .ok (.aload_n 0, 1) := by decide +kernel
theorem dc_RM_put_41 : decode prog_14_method_77_code 41 = .ok (.iload_n 1, 1) := by decide +kernel
theorem dc_RM_put_42 : decode prog_14_method_77_code 42 = .ok (.iload_n 3, 1) := by decide +kernel
theorem dc_RM_put_43 : decode prog_14_method_77_code 43 = .ok (.iload 4, 2) := by decide +kernel
theorem dc_RM_put_45 : decode prog_14_method_77_code 45 = .ok (.invokevirtual 330, 3) := by decide +kernel
theorem dc_RM_put_48 : decode prog_14_method_77_code 48 = .ok (.iconst 1, 1) := by decide +kernel
theorem dc_RM_put_49 : decode prog_14_method_77_code 49 = .ok (.ireturn, 1) := by decide +kernel
theorem w_RM_put_0 {G : GC} {d : Nat} {P : PT} {I : MI} {J : MJ} {x1 : Int32} {x2 : Int32} {x3 : Int32} {x4 : Int32} (k1 : ((f_RM_isSheet x1) = 0) → Go G (fr G m_RM_put (d + 2) P) 16 [none, none, none, none, none, none] [] I J) (k2 : (¬ ((f_RM_isSheet x1) = 0)) → (¬ (f_RM_in x2 0 2) = 0) → Ct G (d + 1) m_RM_lacks [.ref 67, .int x1, .int x2, .int x3] (fun r I' J' => Go G (fr G m_RM_put (d + 2) P) 26 [some (.ref 67), some (.int x1), none, some (.int x3), some (.int x4), none] (r.toList ++ []) I' J') I J) (k3 : (¬ ((f_RM_isSheet x1) = 0)) → ((f_RM_in x2 0 2) = 0) → Go G (fr G m_RM_put (d + 2) P) 16 [none, none, none, none, none, none] [] I J) : Go G (fr G m_RM_put (d + 2) P) 0 [some (.ref 67), some (.int x1), some (.int x2), some (.int x3), some (.int x4), none] [] I J := by
  refine g_iload_n dc_RM_put_0 rfl rfl rfl ?_
  refine g_callS (M := m_RM_isSheet) (As := [.int x1]) (rest := []) ok_RM_isSheet st_RM_isSheet ml_RM_134 rfl rfl (Nat.le_of_ble_eq_true rfl) dc_RM_put_1 rfl rOk_fr (c_RM_isSheet ?_)
  show Go G (fr G m_RM_put (d + 2) P) 4 [some (.ref 67), some (.int x1), some (.int x2), some (.int x3), some (.int x4), none] [.int (f_RM_isSheet x1)] I J
  refine g_if_eq (tgt := 16) dc_RM_put_4 rfl (by decide) (fun c1 => ?_) (fun c1 => ?_)
  · refine g_weak [none, none, none, none, none, none] trivial ?_
    exact (k1 c1)
  · refine g_iload_n dc_RM_put_7 rfl rfl rfl ?_
    refine g_iconst (v := 0) dc_RM_put_8 rfl (by decide) ?_
    refine g_iconst (v := 2) dc_RM_put_9 rfl (by decide) ?_
    refine g_callS (M := m_RM_in) (As := [.int x2, .int 0, .int 2]) (rest := []) ok_RM_in st_RM_in ml_RM_112 rfl rfl (Nat.le_of_ble_eq_true rfl) dc_RM_put_10 rfl rOk_fr (c_RM_in ?_)
    show Go G (fr G m_RM_put (d + 2) P) 13 [some (.ref 67), some (.int x1), some (.int x2), some (.int x3), some (.int x4), none] [.int (f_RM_in x2 0 2)] I J
    refine g_if_ne (tgt := 19) dc_RM_put_13 rfl (by decide) (fun c2 => ?_) (fun c2 => ?_)
    · refine g_aload_n dc_RM_put_19 rfl rfl rfl ?_
      refine g_iload_n dc_RM_put_20 rfl rfl rfl ?_
      refine g_iload_n dc_RM_put_21 rfl rfl rfl ?_
      refine g_iload_n dc_RM_put_22 rfl rfl rfl ?_
      refine g_weak [some (.ref 67), some (.int x1), none, some (.int x3), some (.int x4), none] ⟨rfl, ⟨rfl, ⟨rfl, ⟨rfl, trivial⟩⟩⟩⟩ ?_
      exact g_callV (T := T_RM) (N := 45) (As := [.int x1, .int x2, .int x3]) (rest := []) ok_RM_lacks in_RM_lacks se_RM_lacks ml_RM_327 sh_67 (by decide) rfl rfl rfl (Nat.le_of_ble_eq_true rfl) dc_RM_put_23 rfl rOk_fr (k2 c1 c2)
    · refine g_weak [none, none, none, none, none, none] trivial ?_
      exact (k3 c1 c2)
theorem w_RM_put_16 {G : GC} {d : Nat} {P : PT} {I : MI} {J : MJ}  (q1 : P (some (.int (-2))) I J) : Go G (fr G m_RM_put (d + 2) P) 16 [none, none, none, none, none, none] [] I J := by
  refine g_bipush (v := (-2)) dc_RM_put_16 rfl (by decide) ?_
  exact g_iret rfl dc_RM_put_18 q1
theorem w_RM_put_26 {G : GC} {d : Nat} {P : PT} {I : MI} {J : MJ} {x1 : Int32} {x3 : Int32} {x4 : Int32} {y0 : Int32} (k1 : (y0 ≤ 0) → Ct G (d + 1) m_RM_lay [.ref 67, .int x1, .int x3, .int x4] (fun r I' J' => Go G (fr G m_RM_put (d + 2) P) 48 [none, none, none, none, none, none] (r.toList ++ []) I' J') I J) (k2 : (¬ (y0 ≤ 0)) → Ct G (d + 1) m_RM_meets [.ref 67, .int y0] (fun r I' J' => Go G (fr G m_RM_put (d + 2) P) 39 [none, none, none, none, none, none] (r.toList ++ []) I' J') I J) : Go G (fr G m_RM_put (d + 2) P) 26 [some (.ref 67), some (.int x1), none, some (.int x3), some (.int x4), none] [.int y0] I J := by
  refine g_istore (L' := [some (.ref 67), some (.int x1), none, some (.int x3), some (.int x4), some (.int y0)]) dc_RM_put_26 rfl (Nat.le_of_ble_eq_true rfl) rfl ?_
  refine g_iload dc_RM_put_28 rfl rfl ?_
  refine g_if_le (tgt := 40) dc_RM_put_30 rfl (by decide) (fun c1 => ?_) (fun c1 => ?_)
  · refine g_aload_n dc_RM_put_40 rfl rfl rfl ?_
    refine g_iload_n dc_RM_put_41 rfl rfl rfl ?_
    refine g_iload_n dc_RM_put_42 rfl rfl rfl ?_
    refine g_iload dc_RM_put_43 rfl rfl ?_
    refine g_weak [none, none, none, none, none, none] trivial ?_
    exact g_callV (T := T_RM) (N := 45) (As := [.int x1, .int x3, .int x4]) (rest := []) ok_RM_lay in_RM_lay se_RM_lay ml_RM_330 sh_67 (by decide) rfl rfl rfl (Nat.le_of_ble_eq_true rfl) dc_RM_put_45 rfl rOk_fr (k1 c1)
  · refine g_aload_n dc_RM_put_33 rfl rfl rfl ?_
    refine g_iload dc_RM_put_34 rfl rfl ?_
    refine g_weak [none, none, none, none, none, none] trivial ?_
    exact g_callV (T := T_RM) (N := 45) (As := [.int y0]) (rest := []) ok_RM_meets in_RM_meets se_RM_meets ml_RM_137 sh_67 (by decide) rfl rfl rfl (Nat.le_of_ble_eq_true rfl) dc_RM_put_36 rfl rOk_fr (k2 c1)
theorem w_RM_put_39 {G : GC} {d : Nat} {P : PT} {I : MI} {J : MJ} {y0 : Int32} (q1 : P (some (.int y0)) I J) : Go G (fr G m_RM_put (d + 2) P) 39 [none, none, none, none, none, none] [.int y0] I J := by
  exact g_iret rfl dc_RM_put_39 q1
theorem w_RM_put_48 {G : GC} {d : Nat} {P : PT} {I : MI} {J : MJ}  (q1 : P (some (.int 1)) I J) : Go G (fr G m_RM_put (d + 2) P) 48 [none, none, none, none, none, none] [] I J := by
  refine g_iconst (v := 1) dc_RM_put_48 rfl (by decide) ?_
  exact g_iret rfl dc_RM_put_49 q1
theorem dc_RM_read_0 : decode prog_14_method_10_code 0 = .ok (.iload_n 1, 1) := by decide +kernel
theorem dc_RM_read_1 : decode prog_14_method_10_code 1 = .ok (.invokestatic 134, 3) := by decide +kernel
theorem dc_RM_read_4 : decode prog_14_method_10_code 4 = .ok (.ifCond .eq 32, 3) := by decide +kernel
theorem dc_RM_read_7 : decode prog_14_method_10_code 7 = .ok (.iload_n 2, 1) := by decide +kernel
theorem dc_RM_read_8 : decode prog_14_method_10_code 8 = .ok (.invokestatic 119, 3) := by decide +kernel
theorem dc_RM_read_11 : decode prog_14_method_10_code 11 = .ok (.ifCond .eq 25, 3) := by decide +kernel
theorem dc_RM_read_14 : decode prog_14_method_10_code 14 = .ok (.iload_n 3, 1) := by decide +kernel
theorem dc_RM_read_15 : decode prog_14_method_10_code 15 = .ok (.invokestatic 123, 3) := by decide +kernel
theorem dc_RM_read_18 : decode prog_14_method_10_code 18 = .ok (.ifCond .eq 18, 3) := by decide +kernel
theorem dc_RM_read_21 : decode prog_14_method_10_code 21 = .ok (.iload 4, 2) := by decide +kernel
theorem dc_RM_read_23 : decode prog_14_method_10_code 23 = .ok (.aload_n 0, 1) := by decide +kernel
theorem dc_RM_read_24 : decode prog_14_method_10_code 24 = .ok (.invokevirtual 126, 3) := by decide +kernel
theorem dc_RM_read_27 : decode prog_14_method_10_code 27 = .ok (.sipush 999, 3) := by decide +kernel
theorem dc_RM_read_30 : decode prog_14_method_10_code 30 = .ok (.invokestatic 112, 3) := by decide +kernel
theorem dc_RM_read_33 : decode prog_14_method_10_code 33 = .ok (.ifCond .ne 6, 3) := by decide +kernel
theorem dc_RM_read_36 : decode prog_14_method_10_code 36 = .ok (.bipush (-2), 2) := by decide +kernel
theorem dc_RM_read_38 : decode prog_14_method_10_code 38 = .ok (.ireturn, 1) := by decide +kernel
theorem dc_RM_read_39 : decode prog_14_method_10_code 39 = .ok (.aload_n 0, 1) := by decide +kernel
theorem dc_RM_read_40 : decode prog_14_method_10_code 40 = .ok (.getfield 97, 3) := by decide +kernel
theorem dc_RM_read_43 : decode prog_14_method_10_code 43 = .ok (.iload_n 1, 1) := by decide +kernel
theorem dc_RM_read_44 : decode prog_14_method_10_code 44 = .ok (.baload, 1) := by decide +kernel
theorem dc_RM_read_45 : decode prog_14_method_10_code 45 = .ok (.ifCond .ne 9, 3) := by decide +kernel
theorem dc_RM_read_48 : decode prog_14_method_10_code 48 = .ok (.aload_n 0, 1) := by decide +kernel
theorem dc_RM_read_49 : decode prog_14_method_10_code 49 = .ok (.iconst 1, 1) := by decide +kernel
theorem dc_RM_read_50 : decode prog_14_method_10_code 50 = .ok (.invokevirtual 137, 3) := by decide +kernel
theorem dc_RM_read_53 : decode prog_14_method_10_code 53 = .ok (.ireturn, 1) := by decide +kernel
theorem dc_RM_read_54 : decode prog_14_method_10_code 54 = .ok (.iconst 0, 1) := by decide +kernel
theorem dc_RM_read_55 : decode prog_14_method_10_code 55 = .ok (.istore 5, 2) := by decide +kernel
theorem dc_RM_read_57 : decode prog_14_method_10_code 57 = .ok (.iload 5, 2) := by decide +kernel
theorem dc_RM_read_59 : decode prog_14_method_10_code 59 = .ok (.aload_n 0, 1) := by decide +kernel
theorem dc_RM_read_60 : decode prog_14_method_10_code 60 = .ok (.getfield 103, 3) := by decide +kernel
theorem dc_RM_read_63 : decode prog_14_method_10_code 63 = .ok (.iload_n 1, 1) := by decide +kernel
theorem dc_RM_read_64 : decode prog_14_method_10_code 64 = .ok (.iaload, 1) := by decide +kernel
theorem dc_RM_read_65 : decode prog_14_method_10_code 65 = .ok (.if_icmp .ge 35, 3) := by decide +kernel
theorem dc_RM_read_68 : decode prog_14_method_10_code 68 = .ok (.aload_n 0, 1) := by decide +kernel
theorem dc_RM_read_69 : decode prog_14_method_10_code 69 = .ok (.iload_n 2, 1) := by decide +kernel
theorem dc_RM_read_70 : decode prog_14_method_10_code 70 = .ok (.iload_n 3, 1) := by decide +kernel
theorem dc_RM_read_71 : decode prog_14_method_10_code 71 = .ok (.iload 5, 2) := by decide +kernel
theorem dc_RM_read_73 : decode prog_14_method_10_code 73 = .ok (.iadd, 1) := by decide +kernel
theorem dc_RM_read_74 : decode prog_14_method_10_code 74 = .ok (.aload_n 0, 1) := by decide +kernel
theorem dc_RM_read_75 : decode prog_14_method_10_code 75 = .ok (.getfield 106, 3) := by decide +kernel
theorem dc_RM_read_78 : decode prog_14_method_10_code 78 = .ok (.bipush 60, 2) := by decide +kernel
theorem dc_RM_read_80 : decode prog_14_method_10_code 80 = .ok (.iload_n 1, 1) := by decide +kernel
theorem dc_RM_read_81 : decode prog_14_method_10_code 81 = .ok (.imul, 1) := by decide +kernel
theorem dc_RM_read_82 : decode prog_14_method_10_code 82 = .ok (.iload 5, 2) := by decide +kernel
theorem dc_RM_read_84 : decode prog_14_method_10_code 84 = .ok (.iadd, 1) := by decide +kernel
theorem dc_RM_read_85 : decode prog_14_method_10_code 85 = .ok (.iaload, 1) := by decide +kernel
theorem dc_RM_read_86 : decode prog_14_method_10_code 86 = .ok (.iload 4, 2) := by decide +kernel
theorem dc_RM_read_88 : decode prog_14_method_10_code 88 = .ok (.invokevirtual 130, 3) := by decide +kernel
theorem dc_RM_read_91 : decode prog_14_method_10_code 91 = .ok (.ifCond .le 9, 3) := by decide +kernel
theorem dc_RM_read_94 : decode prog_14_method_10_code 94 = .ok (.iinc 5 1, 3) := by decide +kernel
theorem dc_RM_read_97 : decode prog_14_method_10_code 97 = .ok (.goto (-40), 3) := by decide +kernel
theorem dc_RM_read_100 : decode prog_14_method_10_code 100 = .ok (.iload 5, 2) := by decide +kernel
theorem dc_RM_read_102 : decode prog_14_method_10_code 102 = .ok (.ireturn, 1) := by decide +kernel
theorem w_RM_read_0 {G : GC} {d : Nat} {P : PT} {I : MI} {J : MJ} {x1 : Int32} {x2 : Int32} {x3 : Int32} {x4 : Int32} (k1 : ((f_RM_isSheet x1) = 0) → Go G (fr G m_RM_read (d + 3) P) 36 [none, none, none, none, none, none] [] I J) (k2 : (¬ ((f_RM_isSheet x1) = 0)) → ((f_RM_isRow x2) = 0) → Go G (fr G m_RM_read (d + 3) P) 36 [none, none, none, none, none, none] [] I J) (k3 : (¬ ((f_RM_isSheet x1) = 0)) → (¬ ((f_RM_isRow x2) = 0)) → ((f_RM_isDay x3) = 0) → Go G (fr G m_RM_read (d + 3) P) 36 [none, none, none, none, none, none] [] I J) (k4 : (¬ ((f_RM_isSheet x1) = 0)) → (¬ ((f_RM_isRow x2) = 0)) → (¬ ((f_RM_isDay x3) = 0)) → Ct G (d + 2) m_RM_lastTime [.ref 67] (fun r I' J' => Go G (fr G m_RM_read (d + 3) P) 27 [some (.ref 67), some (.int x1), some (.int x2), some (.int x3), some (.int x4), none] (r.toList ++ [.int x4]) I' J') I J) : Go G (fr G m_RM_read (d + 3) P) 0 [some (.ref 67), some (.int x1), some (.int x2), some (.int x3), some (.int x4), none] [] I J := by
  refine g_iload_n dc_RM_read_0 rfl rfl rfl ?_
  refine g_callS (M := m_RM_isSheet) (As := [.int x1]) (rest := []) ok_RM_isSheet st_RM_isSheet ml_RM_134 rfl rfl (Nat.le_of_ble_eq_true rfl) dc_RM_read_1 rfl rOk_fr (c_RM_isSheet ?_)
  show Go G (fr G m_RM_read (d + 3) P) 4 [some (.ref 67), some (.int x1), some (.int x2), some (.int x3), some (.int x4), none] [.int (f_RM_isSheet x1)] I J
  refine g_if_eq (tgt := 36) dc_RM_read_4 rfl (by decide) (fun c1 => ?_) (fun c1 => ?_)
  · refine g_weak [none, none, none, none, none, none] trivial ?_
    exact (k1 c1)
  · refine g_iload_n dc_RM_read_7 rfl rfl rfl ?_
    refine g_callS (M := m_RM_isRow) (As := [.int x2]) (rest := []) ok_RM_isRow st_RM_isRow ml_RM_119 rfl rfl (Nat.le_of_ble_eq_true rfl) dc_RM_read_8 rfl rOk_fr (c_RM_isRow ?_)
    show Go G (fr G m_RM_read (d + 3) P) 11 [some (.ref 67), some (.int x1), some (.int x2), some (.int x3), some (.int x4), none] [.int (f_RM_isRow x2)] I J
    refine g_if_eq (tgt := 36) dc_RM_read_11 rfl (by decide) (fun c2 => ?_) (fun c2 => ?_)
    · refine g_weak [none, none, none, none, none, none] trivial ?_
      exact (k2 c1 c2)
    · refine g_iload_n dc_RM_read_14 rfl rfl rfl ?_
      refine g_callS (M := m_RM_isDay) (As := [.int x3]) (rest := []) ok_RM_isDay st_RM_isDay ml_RM_123 rfl rfl (Nat.le_of_ble_eq_true rfl) dc_RM_read_15 rfl rOk_fr (c_RM_isDay ?_)
      show Go G (fr G m_RM_read (d + 3) P) 18 [some (.ref 67), some (.int x1), some (.int x2), some (.int x3), some (.int x4), none] [.int (f_RM_isDay x3)] I J
      refine g_if_eq (tgt := 36) dc_RM_read_18 rfl (by decide) (fun c3 => ?_) (fun c3 => ?_)
      · refine g_weak [none, none, none, none, none, none] trivial ?_
        exact (k3 c1 c2 c3)
      · refine g_iload dc_RM_read_21 rfl rfl ?_
        refine g_aload_n dc_RM_read_23 rfl rfl rfl ?_
        exact g_callV (T := T_RM) (N := 45) (As := []) (rest := [.int x4]) ok_RM_lastTime in_RM_lastTime se_RM_lastTime ml_RM_126 sh_67 (by decide) rfl rfl rfl (Nat.le_of_ble_eq_true rfl) dc_RM_read_24 rfl rOk_fr (k4 c1 c2 c3)
theorem w_RM_read_27 {G : GC} {d : Nat} {P : PT} {I : MI} {J : MJ} {x1 : Int32} {x2 : Int32} {x3 : Int32} {x4 : Int32} {y0 : Int32} {y1 : Int32} (b1 : (¬ (f_RM_in y0 y1 999) = 0) → vp_in x1 4) (k2 : (¬ (f_RM_in y0 y1 999) = 0) → (¬ (I 95 x1.toNatClampNeg) = 0) → Go G (fr G m_RM_read (d + 3) P) 57 [some (.ref 67), some (.int x1), some (.int x2), some (.int x3), some (.int x4), some (.int 0)] [] I J) (k3 : (¬ (f_RM_in y0 y1 999) = 0) → ((I 95 x1.toNatClampNeg) = 0) → Ct G (d + 2) m_RM_meets [.ref 67, .int 1] (fun r I' J' => Go G (fr G m_RM_read (d + 3) P) 53 [none, none, none, none, none, none] (r.toList ++ []) I' J') I J) (k4 : ((f_RM_in y0 y1 999) = 0) → Go G (fr G m_RM_read (d + 3) P) 36 [none, none, none, none, none, none] [] I J) : Go G (fr G m_RM_read (d + 3) P) 27 [some (.ref 67), some (.int x1), some (.int x2), some (.int x3), some (.int x4), none] [.int y1, .int y0] I J := by
  refine g_sipush (v := 999) dc_RM_read_27 rfl (by decide) ?_
  refine g_callS (M := m_RM_in) (As := [.int y0, .int y1, .int 999]) (rest := []) ok_RM_in st_RM_in ml_RM_112 rfl rfl (Nat.le_of_ble_eq_true rfl) dc_RM_read_30 rfl rOk_fr (c_RM_in ?_)
  show Go G (fr G m_RM_read (d + 3) P) 33 [some (.ref 67), some (.int x1), some (.int x2), some (.int x3), some (.int x4), none] [.int (f_RM_in y0 y1 999)] I J
  refine g_if_ne (tgt := 39) dc_RM_read_33 rfl (by decide) (fun c1 => ?_) (fun c1 => ?_)
  · refine g_aload_n dc_RM_read_39 rfl rfl rfl ?_
    refine g_get (C := "LevelBreaksModel") (T := T_RM) (N := 45) (k := 39) (v := .ref 95) sh_67 (by decide) rfl rfl i_RM (by decide) fl_RM_97 (Or.inl rfl) rfl dc_RM_read_40 rfl ?_
    refine g_iload_n dc_RM_read_43 rfl rfl rfl ?_
    refine g_zaldv (v := (I 95 x1.toNatClampNeg)) sh_95 (b1 c1) rfl dc_RM_read_44 rfl ?_
    refine g_if_ne (tgt := 54) dc_RM_read_45 rfl (by decide) (fun c2 => ?_) (fun c2 => ?_)
    · refine g_iconst (v := 0) dc_RM_read_54 rfl (by decide) ?_
      refine g_istore (L' := [some (.ref 67), some (.int x1), some (.int x2), some (.int x3), some (.int x4), some (.int 0)]) dc_RM_read_55 rfl (Nat.le_of_ble_eq_true rfl) rfl ?_
      exact (k2 c1 c2)
    · refine g_aload_n dc_RM_read_48 rfl rfl rfl ?_
      refine g_iconst (v := 1) dc_RM_read_49 rfl (by decide) ?_
      refine g_weak [none, none, none, none, none, none] trivial ?_
      exact g_callV (T := T_RM) (N := 45) (As := [.int 1]) (rest := []) ok_RM_meets in_RM_meets se_RM_meets ml_RM_137 sh_67 (by decide) rfl rfl rfl (Nat.le_of_ble_eq_true rfl) dc_RM_read_50 rfl rOk_fr (k3 c1 c2)
  · refine g_weak [none, none, none, none, none, none] trivial ?_
    exact (k4 c1)
theorem w_RM_read_36 {G : GC} {d : Nat} {P : PT} {I : MI} {J : MJ}  (q1 : P (some (.int (-2))) I J) : Go G (fr G m_RM_read (d + 3) P) 36 [none, none, none, none, none, none] [] I J := by
  refine g_bipush (v := (-2)) dc_RM_read_36 rfl (by decide) ?_
  exact g_iret rfl dc_RM_read_38 q1
theorem w_RM_read_53 {G : GC} {d : Nat} {P : PT} {I : MI} {J : MJ} {y0 : Int32} (q1 : P (some (.int y0)) I J) : Go G (fr G m_RM_read (d + 3) P) 53 [none, none, none, none, none, none] [.int y0] I J := by
  exact g_iret rfl dc_RM_read_53 q1
theorem w_RM_read_57 {G : GC} {d : Nat} {P : PT} {I : MI} {J : MJ} {x1 : Int32} {x2 : Int32} {x3 : Int32} {x4 : Int32} {x5 : Int32} (b1 : vp_in x1 4) (k2 : ((I 97 x1.toNatClampNeg) ≤ x5) → Go G (fr G m_RM_read (d + 3) P) 100 [none, none, none, none, none, some (.int x5)] [] I J) (b3 : (¬ ((I 97 x1.toNatClampNeg) ≤ x5)) → vp_in ((60 * x1) + x5) 240) (k4 : (¬ ((I 97 x1.toNatClampNeg) ≤ x5)) → Ct G (d + 2) m_RM_tells [.ref 67, .int x2, .int (x3 + x5), .int (I 98 ((60 * x1) + x5).toNatClampNeg), .int x4] (fun r I' J' => Go G (fr G m_RM_read (d + 3) P) 91 [some (.ref 67), some (.int x1), some (.int x2), some (.int x3), some (.int x4), some (.int x5)] (r.toList ++ []) I' J') I J) : Go G (fr G m_RM_read (d + 3) P) 57 [some (.ref 67), some (.int x1), some (.int x2), some (.int x3), some (.int x4), some (.int x5)] [] I J := by
  refine g_iload dc_RM_read_57 rfl rfl ?_
  refine g_aload_n dc_RM_read_59 rfl rfl rfl ?_
  refine g_get (C := "LevelBreaksModel") (T := T_RM) (N := 45) (k := 41) (v := .ref 97) sh_67 (by decide) rfl rfl i_RM (by decide) fl_RM_103 (Or.inl rfl) rfl dc_RM_read_60 rfl ?_
  refine g_iload_n dc_RM_read_63 rfl rfl rfl ?_
  refine g_ialdv (v := (I 97 x1.toNatClampNeg)) sh_97 b1 rfl dc_RM_read_64 rfl ?_
  refine g_ic_ge (tgt := 100) dc_RM_read_65 rfl (by decide) (fun c1 => ?_) (fun c1 => ?_)
  · refine g_weak [none, none, none, none, none, some (.int x5)] ⟨rfl, trivial⟩ ?_
    exact (k2 c1)
  · refine g_aload_n dc_RM_read_68 rfl rfl rfl ?_
    refine g_iload_n dc_RM_read_69 rfl rfl rfl ?_
    refine g_iload_n dc_RM_read_70 rfl rfl rfl ?_
    refine g_iload dc_RM_read_71 rfl rfl ?_
    refine g_iadd dc_RM_read_73 rfl ?_
    refine g_aload_n dc_RM_read_74 rfl rfl rfl ?_
    refine g_get (C := "LevelBreaksModel") (T := T_RM) (N := 45) (k := 42) (v := .ref 98) sh_67 (by decide) rfl rfl i_RM (by decide) fl_RM_106 (Or.inl rfl) rfl dc_RM_read_75 rfl ?_
    refine g_bipush (v := 60) dc_RM_read_78 rfl (by decide) ?_
    refine g_iload_n dc_RM_read_80 rfl rfl rfl ?_
    refine g_imul dc_RM_read_81 rfl ?_
    refine g_iload dc_RM_read_82 rfl rfl ?_
    refine g_iadd dc_RM_read_84 rfl ?_
    refine g_ialdv (v := (I 98 ((60 * x1) + x5).toNatClampNeg)) sh_98 (b3 c1) rfl dc_RM_read_85 rfl ?_
    refine g_iload dc_RM_read_86 rfl rfl ?_
    exact g_callV (T := T_RM) (N := 45) (As := [.int x2, .int (x3 + x5), .int (I 98 ((60 * x1) + x5).toNatClampNeg), .int x4]) (rest := []) ok_RM_tells in_RM_tells se_RM_tells ml_RM_130 sh_67 (by decide) rfl rfl rfl (Nat.le_of_ble_eq_true rfl) dc_RM_read_88 rfl rOk_fr (k4 c1)
theorem w_RM_read_91 {G : GC} {d : Nat} {P : PT} {I : MI} {J : MJ} {x1 : Int32} {x2 : Int32} {x3 : Int32} {x4 : Int32} {x5 : Int32} {y0 : Int32} (k1 : (y0 ≤ 0) → Go G (fr G m_RM_read (d + 3) P) 100 [none, none, none, none, none, some (.int x5)] [] I J) (k2 : (¬ (y0 ≤ 0)) → Go G (fr G m_RM_read (d + 3) P) 57 [some (.ref 67), some (.int x1), some (.int x2), some (.int x3), some (.int x4), some (.int (x5 + 1))] [] I J) : Go G (fr G m_RM_read (d + 3) P) 91 [some (.ref 67), some (.int x1), some (.int x2), some (.int x3), some (.int x4), some (.int x5)] [.int y0] I J := by
  refine g_if_le (tgt := 100) dc_RM_read_91 rfl (by decide) (fun c1 => ?_) (fun c1 => ?_)
  · refine g_weak [none, none, none, none, none, some (.int x5)] ⟨rfl, trivial⟩ ?_
    exact (k1 c1)
  · refine g_iinc (v := (x5 + 1)) (L' := [some (.ref 67), some (.int x1), some (.int x2), some (.int x3), some (.int x4), some (.int (x5 + 1))]) dc_RM_read_94 rfl rfl (by rw [show Int32.ofInt 1 = 1 from by decide]) (Nat.le_of_ble_eq_true rfl) rfl ?_
    refine g_goto (tgt := 57) dc_RM_read_97 (by decide) ?_
    exact (k2 c1)
theorem w_RM_read_100 {G : GC} {d : Nat} {P : PT} {I : MI} {J : MJ} {x5 : Int32} (q1 : P (some (.int x5)) I J) : Go G (fr G m_RM_read (d + 3) P) 100 [none, none, none, none, none, some (.int x5)] [] I J := by
  refine g_iload dc_RM_read_100 rfl rfl ?_
  exact g_iret rfl dc_RM_read_102 q1
theorem dc_RM_shared_0 : decode prog_14_method_45_code 0 = .ok (.iload_n 1, 1) := by decide +kernel
theorem dc_RM_shared_1 : decode prog_14_method_45_code 1 = .ok (.iload_n 2, 1) := by decide +kernel
theorem dc_RM_shared_2 : decode prog_14_method_45_code 2 = .ok (.iload_n 3, 1) := by decide +kernel
theorem dc_RM_shared_3 : decode prog_14_method_45_code 3 = .ok (.invokestatic 252, 3) := by decide +kernel
theorem dc_RM_shared_6 : decode prog_14_method_45_code 6 = .ok (.ifCond .eq 15, 3) := by decide +kernel
theorem dc_RM_shared_9 : decode prog_14_method_45_code 9 = .ok (.iload 4, 2) := by decide +kernel
theorem dc_RM_shared_11 : decode prog_14_method_45_code 11 = .ok (.iconst 0, 1) := by decide +kernel
theorem dc_RM_shared_12 : decode prog_14_method_45_code 12 = .ok (.iload_n 3, 1) := by decide +kernel
theorem dc_RM_shared_13 : decode prog_14_method_45_code 13 = .ok (.iconst 1, 1) := by decide +kernel
theorem dc_RM_shared_14 : decode prog_14_method_45_code 14 = .ok (.isub, 1) := by decide +kernel
theorem dc_RM_shared_15 : decode prog_14_method_45_code 15 = .ok (.invokestatic 112, 3) := by decide +kernel
theorem dc_RM_shared_18 : decode prog_14_method_45_code 18 = .ok (.ifCond .ne 6, 3) := by decide +kernel
theorem dc_RM_shared_21 : decode prog_14_method_45_code 21 = .ok (.bipush (-2), 2) := by decide +kernel
theorem dc_RM_shared_23 : decode prog_14_method_45_code 23 = .ok (.ireturn, 1) := by decide +kernel
theorem dc_RM_shared_24 : decode prog_14_method_45_code 24 = .ok (.aload_n 0, 1) := by decide +kernel
theorem dc_RM_shared_25 : decode prog_14_method_45_code 25 = .ok (.iload_n 1, 1) := by decide +kernel
theorem dc_RM_shared_26 : decode prog_14_method_45_code 26 = .ok (.iload_n 2, 1) := by decide +kernel
theorem dc_RM_shared_27 : decode prog_14_method_45_code 27 = .ok (.iload_n 3, 1) := by decide +kernel
theorem dc_RM_shared_28 : decode prog_14_method_45_code 28 = .ok (.invokevirtual 255, 3) := by decide +kernel
theorem dc_RM_shared_31 : decode prog_14_method_45_code 31 = .ok (.ifCond .eq 13, 3) := by decide +kernel
theorem dc_RM_shared_34 : decode prog_14_method_45_code 34 = .ok (.aload_n 0, 1) := by decide +kernel
theorem dc_RM_shared_35 : decode prog_14_method_45_code 35 = .ok (.getfield 60, 3) := by decide +kernel
theorem dc_RM_shared_38 : decode prog_14_method_45_code 38 = .ok (.iload 4, 2) := by decide +kernel
theorem dc_RM_shared_40 : decode prog_14_method_45_code 40 = .ok (.iaload, 1) := by decide +kernel
theorem dc_RM_shared_41 : decode prog_14_method_45_code 41 = .ok (.goto 5, 3) := by decide +kernel
theorem dc_RM_shared_44 : decode prog_14_method_45_code 44 = .ok (.bipush (-3), 2) := by decide +kernel
theorem dc_RM_shared_46 : decode prog_14_method_45_code 46 = .ok (.ireturn, 1) := by decide +kernel
theorem w_RM_shared_0 {G : GC} {d : Nat} {P : PT} {I : MI} {J : MJ} {x1 : Int32} {x2 : Int32} {x3 : Int32} {x4 : Int32} (k1 : ((f_RM_isCommonCut x1 x2 x3) = 0) → Go G (fr G m_RM_shared (d + 6) P) 21 [none, none, none, none, none] [] I J) (k2 : (¬ ((f_RM_isCommonCut x1 x2 x3) = 0)) → (¬ (f_RM_in x4 0 (x3 - 1)) = 0) → Ct G (d + 5) m_RM_shares [.ref 67, .int x1, .int x2, .int x3] (fun r I' J' => Go G (fr G m_RM_shared (d + 6) P) 31 [some (.ref 67), none, none, none, some (.int x4)] (r.toList ++ []) I' J') I J) (k3 : (¬ ((f_RM_isCommonCut x1 x2 x3) = 0)) → ((f_RM_in x4 0 (x3 - 1)) = 0) → Go G (fr G m_RM_shared (d + 6) P) 21 [none, none, none, none, none] [] I J) : Go G (fr G m_RM_shared (d + 6) P) 0 [some (.ref 67), some (.int x1), some (.int x2), some (.int x3), some (.int x4)] [] I J := by
  refine g_iload_n dc_RM_shared_0 rfl rfl rfl ?_
  refine g_iload_n dc_RM_shared_1 rfl rfl rfl ?_
  refine g_iload_n dc_RM_shared_2 rfl rfl rfl ?_
  refine g_callS (M := m_RM_isCommonCut) (As := [.int x1, .int x2, .int x3]) (rest := []) ok_RM_isCommonCut st_RM_isCommonCut ml_RM_252 rfl rfl (Nat.le_of_ble_eq_true rfl) dc_RM_shared_3 rfl rOk_fr (c_RM_isCommonCut ?_)
  show Go G (fr G m_RM_shared (d + 6) P) 6 [some (.ref 67), some (.int x1), some (.int x2), some (.int x3), some (.int x4)] [.int (f_RM_isCommonCut x1 x2 x3)] I J
  refine g_if_eq (tgt := 21) dc_RM_shared_6 rfl (by decide) (fun c1 => ?_) (fun c1 => ?_)
  · refine g_weak [none, none, none, none, none] trivial ?_
    exact (k1 c1)
  · refine g_iload dc_RM_shared_9 rfl rfl ?_
    refine g_iconst (v := 0) dc_RM_shared_11 rfl (by decide) ?_
    refine g_iload_n dc_RM_shared_12 rfl rfl rfl ?_
    refine g_iconst (v := 1) dc_RM_shared_13 rfl (by decide) ?_
    refine g_isub dc_RM_shared_14 rfl ?_
    refine g_callS (M := m_RM_in) (As := [.int x4, .int 0, .int (x3 - 1)]) (rest := []) ok_RM_in st_RM_in ml_RM_112 rfl rfl (Nat.le_of_ble_eq_true rfl) dc_RM_shared_15 rfl rOk_fr (c_RM_in ?_)
    show Go G (fr G m_RM_shared (d + 6) P) 18 [some (.ref 67), some (.int x1), some (.int x2), some (.int x3), some (.int x4)] [.int (f_RM_in x4 0 (x3 - 1))] I J
    refine g_if_ne (tgt := 24) dc_RM_shared_18 rfl (by decide) (fun c2 => ?_) (fun c2 => ?_)
    · refine g_aload_n dc_RM_shared_24 rfl rfl rfl ?_
      refine g_iload_n dc_RM_shared_25 rfl rfl rfl ?_
      refine g_iload_n dc_RM_shared_26 rfl rfl rfl ?_
      refine g_iload_n dc_RM_shared_27 rfl rfl rfl ?_
      refine g_weak [some (.ref 67), none, none, none, some (.int x4)] ⟨rfl, ⟨rfl, trivial⟩⟩ ?_
      exact g_callV (T := T_RM) (N := 45) (As := [.int x1, .int x2, .int x3]) (rest := []) ok_RM_shares in_RM_shares se_RM_shares ml_RM_255 sh_67 (by decide) rfl rfl rfl (Nat.le_of_ble_eq_true rfl) dc_RM_shared_28 rfl rOk_fr (k2 c1 c2)
    · refine g_weak [none, none, none, none, none] trivial ?_
      exact (k3 c1 c2)
theorem w_RM_shared_21 {G : GC} {d : Nat} {P : PT} {I : MI} {J : MJ}  (q1 : P (some (.int (-2))) I J) : Go G (fr G m_RM_shared (d + 6) P) 21 [none, none, none, none, none] [] I J := by
  refine g_bipush (v := (-2)) dc_RM_shared_21 rfl (by decide) ?_
  exact g_iret rfl dc_RM_shared_23 q1
theorem w_RM_shared_31 {G : GC} {d : Nat} {P : PT} {I : MI} {J : MJ} {x4 : Int32} {y0 : Int32} (q1 : (y0 = 0) → P (some (.int (-3))) I J) (b2 : (¬ (y0 = 0)) → vp_in x4 7) (q3 : (¬ (y0 = 0)) → P (some (.int (I 83 x4.toNatClampNeg))) I J) : Go G (fr G m_RM_shared (d + 6) P) 31 [some (.ref 67), none, none, none, some (.int x4)] [.int y0] I J := by
  refine g_if_eq (tgt := 44) dc_RM_shared_31 rfl (by decide) (fun c1 => ?_) (fun c1 => ?_)
  · refine g_bipush (v := (-3)) dc_RM_shared_44 rfl (by decide) ?_
    exact g_iret rfl dc_RM_shared_46 (q1 c1)
  · refine g_aload_n dc_RM_shared_34 rfl rfl rfl ?_
    refine g_get (C := "LevelBreaksModel") (T := T_RM) (N := 45) (k := 21) (v := .ref 83) sh_67 (by decide) rfl rfl i_RM (by decide) fl_RM_60 (Or.inl rfl) rfl dc_RM_shared_35 rfl ?_
    refine g_iload dc_RM_shared_38 rfl rfl ?_
    refine g_ialdv (v := (I 83 x4.toNatClampNeg)) sh_83 (b2 c1) rfl dc_RM_shared_40 rfl ?_
    refine g_goto (tgt := 46) dc_RM_shared_41 (by decide) ?_
    exact g_iret rfl dc_RM_shared_46 (q3 c1)
theorem dc_RM_shares_0 : decode prog_14_method_41_code 0 = .ok (.aload_n 0, 1) := by decide +kernel
theorem dc_RM_shares_1 : decode prog_14_method_41_code 1 = .ok (.iload_n 1, 1) := by decide +kernel
theorem dc_RM_shares_2 : decode prog_14_method_41_code 2 = .ok (.iload_n 2, 1) := by decide +kernel
theorem dc_RM_shares_3 : decode prog_14_method_41_code 3 = .ok (.invokevirtual 246, 3) := by decide +kernel
theorem dc_RM_shares_6 : decode prog_14_method_41_code 6 = .ok (.iconst 0, 1) := by decide +kernel
theorem dc_RM_shares_7 : decode prog_14_method_41_code 7 = .ok (.istore 4, 2) := by decide +kernel
theorem dc_RM_shares_9 : decode prog_14_method_41_code 9 = .ok (.iload 4, 2) := by decide +kernel
theorem dc_RM_shares_11 : decode prog_14_method_41_code 11 = .ok (.iload_n 3, 1) := by decide +kernel
theorem dc_RM_shares_12 : decode prog_14_method_41_code 12 = .ok (.if_icmp .gt 189, 3) := by decide +kernel
theorem dc_RM_shares_15 : decode prog_14_method_41_code 15 = .ok (.bipush 40, 2) := by decide +kernel
theorem dc_RM_shares_17 : decode prog_14_method_41_code 17 = .ok (.istore 5, 2) := by decide +kernel
theorem dc_RM_shares_19 : decode prog_14_method_41_code 19 = .ok (.iload 5, 2) := by decide +kernel
theorem dc_RM_shares_21 : decode prog_14_method_41_code 21 = .ok (.ifCond .lt 174, 3) := by decide +kernel
theorem dc_RM_shares_24 : decode prog_14_method_41_code 24 = .ok (.iload 4, 2) := by decide +kernel
theorem dc_RM_shares_26 : decode prog_14_method_41_code 26 = .ok (.ifCond .ne 14, 3) := by decide +kernel
theorem dc_RM_shares_29 : decode prog_14_method_41_code 29 = .ok (.iload 5, 2) := by decide +kernel
theorem dc_RM_shares_31 : decode prog_14_method_41_code 31 = .ok (.bipush 40, 2) := by decide +kernel
theorem dc_RM_shares_33 : decode prog_14_method_41_code 33 = .ok (.if_icmp .ne 7, 3) := by decide +kernel
theorem dc_RM_shares_36 : decode prog_14_method_41_code 36 = .ok (.lconst 0, 1) := by decide +kernel
theorem dc_RM_shares_37 : decode prog_14_method_41_code 37 = .ok (.goto 6, 3) := by decide +kernel
theorem dc_RM_shares_40 : decode prog_14_method_41_code 40 = .ok (.ldc2_w 244, 3) := by decide +kernel
theorem dc_RM_shares_43 : decode prog_14_method_41_code 43 = .ok (.lstore 6, 2) := by decide +kernel
theorem dc_RM_shares_45 : decode prog_14_method_41_code 45 = .ok (.iload 5, 2) := by decide +kernel
theorem dc_RM_shares_47 : decode prog_14_method_41_code 47 = .ok (.istore 8, 2) := by decide +kernel
theorem dc_RM_shares_49 : decode prog_14_method_41_code 49 = .ok (.iload 8, 2) := by decide +kernel
theorem dc_RM_shares_51 : decode prog_14_method_41_code 51 = .ok (.bipush 40, 2) := by decide +kernel
theorem dc_RM_shares_53 : decode prog_14_method_41_code 53 = .ok (.if_icmp .ge 121, 3) := by decide +kernel
theorem dc_RM_shares_56 : decode prog_14_method_41_code 56 = .ok (.iload 4, 2) := by decide +kernel
theorem dc_RM_shares_58 : decode prog_14_method_41_code 58 = .ok (.ifCond .le 116, 3) := by decide +kernel
theorem dc_RM_shares_61 : decode prog_14_method_41_code 61 = .ok (.aload_n 0, 1) := by decide +kernel
theorem dc_RM_shares_62 : decode prog_14_method_41_code 62 = .ok (.getfield 66, 3) := by decide +kernel
theorem dc_RM_shares_65 : decode prog_14_method_41_code 65 = .ok (.bipush 41, 2) := by decide +kernel
theorem dc_RM_shares_67 : decode prog_14_method_41_code 67 = .ok (.iload 4, 2) := by decide +kernel
theorem dc_RM_shares_69 : decode prog_14_method_41_code 69 = .ok (.iconst 1, 1) := by decide +kernel
theorem dc_RM_shares_70 : decode prog_14_method_41_code 70 = .ok (.isub, 1) := by decide +kernel
theorem dc_RM_shares_71 : decode prog_14_method_41_code 71 = .ok (.imul, 1) := by decide +kernel
theorem dc_RM_shares_72 : decode prog_14_method_41_code 72 = .ok (.iload 8, 2) := by decide +kernel
theorem dc_RM_shares_74 : decode prog_14_method_41_code 74 = .ok (.iadd, 1) := by decide +kernel
theorem dc_RM_shares_75 : decode prog_14_method_41_code 75 = .ok (.iconst 1, 1) := by decide +kernel
theorem dc_RM_shares_76 : decode prog_14_method_41_code 76 = .ok (.iadd, 1) := by decide +kernel
theorem dc_RM_shares_77 : decode prog_14_method_41_code 77 = .ok (.laload, 1) := by decide +kernel
theorem dc_RM_shares_78 : decode prog_14_method_41_code 78 = .ok (.lstore 9, 2) := by decide +kernel
theorem dc_RM_shares_80 : decode prog_14_method_41_code 80 = .ok (.aload_n 0, 1) := by decide +kernel
theorem dc_RM_shares_81 : decode prog_14_method_41_code 81 = .ok (.getfield 63, 3) := by decide +kernel
theorem dc_RM_shares_84 : decode prog_14_method_41_code 84 = .ok (.bipush 40, 2) := by decide +kernel
theorem dc_RM_shares_86 : decode prog_14_method_41_code 86 = .ok (.iload 5, 2) := by decide +kernel
theorem dc_RM_shares_88 : decode prog_14_method_41_code 88 = .ok (.imul, 1) := by decide +kernel
theorem dc_RM_shares_89 : decode prog_14_method_41_code 89 = .ok (.iload 8, 2) := by decide +kernel
theorem dc_RM_shares_91 : decode prog_14_method_41_code 91 = .ok (.iadd, 1) := by decide +kernel
theorem dc_RM_shares_92 : decode prog_14_method_41_code 92 = .ok (.laload, 1) := by decide +kernel
theorem dc_RM_shares_93 : decode prog_14_method_41_code 93 = .ok (.ldc2_w 244, 3) := by decide +kernel
theorem dc_RM_shares_96 : decode prog_14_method_41_code 96 = .ok (.lcmp, 1) := by decide +kernel
theorem dc_RM_shares_97 : decode prog_14_method_41_code 97 = .ok (.ifCond .eq 12, 3) := by decide +kernel
theorem dc_RM_shares_100 : decode prog_14_method_41_code 100 = .ok (.lload 9, 2) := by decide +kernel
theorem dc_RM_shares_102 : decode prog_14_method_41_code 102 = .ok (.ldc2_w 244, 3) := by decide +kernel
theorem dc_RM_shares_105 : decode prog_14_method_41_code 105 = .ok (.lcmp, 1) := by decide +kernel
theorem dc_RM_shares_106 : decode prog_14_method_41_code 106 = .ok (.ifCond .ne 9, 3) := by decide +kernel
theorem dc_RM_shares_109 : decode prog_14_method_41_code 109 = .ok (.ldc2_w 244, 3) := by decide +kernel
theorem dc_RM_shares_112 : decode prog_14_method_41_code 112 = .ok (.goto 19, 3) := by decide +kernel
theorem dc_RM_shares_115 : decode prog_14_method_41_code 115 = .ok (.aload_n 0, 1) := by decide +kernel
theorem dc_RM_shares_116 : decode prog_14_method_41_code 116 = .ok (.getfield 63, 3) := by decide +kernel
theorem dc_RM_shares_119 : decode prog_14_method_41_code 119 = .ok (.bipush 40, 2) := by decide +kernel
theorem dc_RM_shares_121 : decode prog_14_method_41_code 121 = .ok (.iload 5, 2) := by decide +kernel
theorem dc_RM_shares_123 : decode prog_14_method_41_code 123 = .ok (.imul, 1) := by decide +kernel
theorem dc_RM_shares_124 : decode prog_14_method_41_code 124 = .ok (.iload 8, 2) := by decide +kernel
theorem dc_RM_shares_126 : decode prog_14_method_41_code 126 = .ok (.iadd, 1) := by decide +kernel
theorem dc_RM_shares_127 : decode prog_14_method_41_code 127 = .ok (.laload, 1) := by decide +kernel
theorem dc_RM_shares_128 : decode prog_14_method_41_code 128 = .ok (.lload 9, 2) := by decide +kernel
theorem dc_RM_shares_130 : decode prog_14_method_41_code 130 = .ok (.ladd, 1) := by decide +kernel
theorem dc_RM_shares_131 : decode prog_14_method_41_code 131 = .ok (.lstore 11, 2) := by decide +kernel
theorem dc_RM_shares_133 : decode prog_14_method_41_code 133 = .ok (.lload 11, 2) := by decide +kernel
theorem dc_RM_shares_135 : decode prog_14_method_41_code 135 = .ok (.ldc2_w 244, 3) := by decide +kernel
theorem dc_RM_shares_138 : decode prog_14_method_41_code 138 = .ok (.lcmp, 1) := by decide +kernel
theorem dc_RM_shares_139 : decode prog_14_method_41_code 139 = .ok (.ifCond .eq 25, 3) := by decide +kernel
theorem dc_RM_shares_142 : decode prog_14_method_41_code 142 = .ok (.lload 6, 2) := by decide +kernel
theorem dc_RM_shares_144 : decode prog_14_method_41_code 144 = .ok (.ldc2_w 244, 3) := by decide +kernel
theorem dc_RM_shares_147 : decode prog_14_method_41_code 147 = .ok (.lcmp, 1) := by decide +kernel
theorem dc_RM_shares_148 : decode prog_14_method_41_code 148 = .ok (.ifCond .eq 11, 3) := by decide +kernel
theorem dc_RM_shares_151 : decode prog_14_method_41_code 151 = .ok (.lload 11, 2) := by decide +kernel
theorem dc_RM_shares_153 : decode prog_14_method_41_code 153 = .ok (.lload 6, 2) := by decide +kernel
theorem dc_RM_shares_155 : decode prog_14_method_41_code 155 = .ok (.lcmp, 1) := by decide +kernel
theorem dc_RM_shares_156 : decode prog_14_method_41_code 156 = .ok (.ifCond .ge 8, 3) := by decide +kernel
theorem dc_RM_shares_159 : decode prog_14_method_41_code 159 = .ok (.lload 11, 2) := by decide +kernel
theorem dc_RM_shares_161 : decode prog_14_method_41_code 161 = .ok (.goto 5, 3) := by decide +kernel
theorem dc_RM_shares_164 : decode prog_14_method_41_code 164 = .ok (.lload 6, 2) := by decide +kernel
theorem dc_RM_shares_166 : decode prog_14_method_41_code 166 = .ok (.lstore 6, 2) := by decide +kernel
theorem dc_RM_shares_168 : decode prog_14_method_41_code 168 = .ok (.iinc 8 1, 3) := by decide +kernel
theorem dc_RM_shares_171 : decode prog_14_method_41_code 171 = .ok (.goto (-122), 3) := by decide +kernel
theorem dc_RM_shares_174 : decode prog_14_method_41_code 174 = .ok (.aload_n 0, 1) := by decide +kernel
theorem dc_RM_shares_175 : decode prog_14_method_41_code 175 = .ok (.getfield 66, 3) := by decide +kernel
theorem dc_RM_shares_178 : decode prog_14_method_41_code 178 = .ok (.bipush 41, 2) := by decide +kernel
theorem dc_RM_shares_180 : decode prog_14_method_41_code 180 = .ok (.iload 4, 2) := by decide +kernel
theorem dc_RM_shares_182 : decode prog_14_method_41_code 182 = .ok (.imul, 1) := by decide +kernel
theorem dc_RM_shares_183 : decode prog_14_method_41_code 183 = .ok (.iload 5, 2) := by decide +kernel
theorem dc_RM_shares_185 : decode prog_14_method_41_code 185 = .ok (.iadd, 1) := by decide +kernel
theorem dc_RM_shares_186 : decode prog_14_method_41_code 186 = .ok (.lload 6, 2) := by decide +kernel
theorem dc_RM_shares_188 : decode prog_14_method_41_code 188 = .ok (.lastore, 1) := by decide +kernel
theorem dc_RM_shares_189 : decode prog_14_method_41_code 189 = .ok (.iinc 5 (-1), 3) := by decide +kernel
theorem dc_RM_shares_192 : decode prog_14_method_41_code 192 = .ok (.goto (-173), 3) := by decide +kernel
theorem dc_RM_shares_195 : decode prog_14_method_41_code 195 = .ok (.iinc 4 1, 3) := by decide +kernel
theorem dc_RM_shares_198 : decode prog_14_method_41_code 198 = .ok (.goto (-189), 3) := by decide +kernel
theorem dc_RM_shares_201 : decode prog_14_method_41_code 201 = .ok (.aload_n 0, 1) := by decide +kernel
theorem dc_RM_shares_202 : decode prog_14_method_41_code 202 = .ok (.getfield 66, 3) := by decide +kernel
theorem dc_RM_shares_205 : decode prog_14_method_41_code 205 = .ok (.bipush 41, 2) := by decide +kernel
theorem dc_RM_shares_207 : decode prog_14_method_41_code 207 = .ok (.iload_n 3, 1) := by decide +kernel
theorem dc_RM_shares_208 : decode prog_14_method_41_code 208 = .ok (.imul, 1) := by decide +kernel
theorem dc_RM_shares_209 : decode prog_14_method_41_code 209 = .ok (.laload, 1) := by decide +kernel
theorem dc_RM_shares_210 : decode prog_14_method_41_code 210 = .ok (.ldc2_w 244, 3) := by decide +kernel
theorem dc_RM_shares_213 : decode prog_14_method_41_code 213 = .ok (.lcmp, 1) := by decide +kernel
theorem dc_RM_shares_214 : decode prog_14_method_41_code 214 = .ok (.ifCond .ne 5, 3) := by decide +kernel
theorem dc_RM_shares_217 : decode prog_14_method_41_code 217 = .ok (.iconst 0, 1) := by decide +kernel
theorem dc_RM_shares_218 : decode prog_14_method_41_code 218 = .ok (.ireturn, 1) := by decide +kernel
theorem dc_RM_shares_219 : decode prog_14_method_41_code 219 = .ok (.iconst 0, 1) := by decide +kernel
theorem dc_RM_shares_220 : decode prog_14_method_41_code 220 = .ok (.istore 4, 2) := by decide +kernel
theorem dc_RM_shares_222 : decode prog_14_method_41_code 222 = .ok (.iconst 0, 1) := by decide +kernel
theorem dc_RM_shares_223 : decode prog_14_method_41_code 223 = .ok (.istore 5, 2) := by decide +kernel
theorem dc_RM_shares_225 : decode prog_14_method_41_code 225 = .ok (.iload 5, 2) := by decide +kernel
theorem dc_RM_shares_227 : decode prog_14_method_41_code 227 = .ok (.iload_n 3, 1) := by decide +kernel
theorem dc_RM_shares_228 : decode prog_14_method_41_code 228 = .ok (.if_icmp .ge 49, 3) := by decide +kernel
theorem dc_RM_shares_231 : decode prog_14_method_41_code 231 = .ok (.aload_n 0, 1) := by decide +kernel
theorem dc_RM_shares_232 : decode prog_14_method_41_code 232 = .ok (.getfield 60, 3) := by decide +kernel
theorem dc_RM_shares_235 : decode prog_14_method_41_code 235 = .ok (.iload 5, 2) := by decide +kernel
theorem dc_RM_shares_237 : decode prog_14_method_41_code 237 = .ok (.iload 4, 2) := by decide +kernel
theorem dc_RM_shares_239 : decode prog_14_method_41_code 239 = .ok (.iastore, 1) := by decide +kernel
theorem dc_RM_shares_240 : decode prog_14_method_41_code 240 = .ok (.iload 4, 2) := by decide +kernel
theorem dc_RM_shares_242 : decode prog_14_method_41_code 242 = .ok (.istore 6, 2) := by decide +kernel
theorem dc_RM_shares_244 : decode prog_14_method_41_code 244 = .ok (.aload_n 0, 1) := by decide +kernel
theorem dc_RM_shares_245 : decode prog_14_method_41_code 245 = .ok (.iload 4, 2) := by decide +kernel
theorem dc_RM_shares_247 : decode prog_14_method_41_code 247 = .ok (.iload 6, 2) := by decide +kernel
theorem dc_RM_shares_249 : decode prog_14_method_41_code 249 = .ok (.iload_n 3, 1) := by decide +kernel
theorem dc_RM_shares_250 : decode prog_14_method_41_code 250 = .ok (.iload 5, 2) := by decide +kernel
theorem dc_RM_shares_252 : decode prog_14_method_41_code 252 = .ok (.isub, 1) := by decide +kernel
theorem dc_RM_shares_253 : decode prog_14_method_41_code 253 = .ok (.invokevirtual 249, 3) := by decide +kernel
theorem dc_RM_shares_256 : decode prog_14_method_41_code 256 = .ok (.ifCond .ne 9, 3) := by decide +kernel
theorem dc_RM_shares_259 : decode prog_14_method_41_code 259 = .ok (.iinc 6 1, 3) := by decide +kernel
theorem dc_RM_shares_262 : decode prog_14_method_41_code 262 = .ok (.goto (-18), 3) := by decide +kernel
theorem dc_RM_shares_265 : decode prog_14_method_41_code 265 = .ok (.iload 6, 2) := by decide +kernel
theorem dc_RM_shares_267 : decode prog_14_method_41_code 267 = .ok (.iconst 1, 1) := by decide +kernel
theorem dc_RM_shares_268 : decode prog_14_method_41_code 268 = .ok (.iadd, 1) := by decide +kernel
theorem dc_RM_shares_269 : decode prog_14_method_41_code 269 = .ok (.istore 4, 2) := by decide +kernel
theorem dc_RM_shares_271 : decode prog_14_method_41_code 271 = .ok (.iinc 5 1, 3) := by decide +kernel
theorem dc_RM_shares_274 : decode prog_14_method_41_code 274 = .ok (.goto (-49), 3) := by decide +kernel
theorem dc_RM_shares_277 : decode prog_14_method_41_code 277 = .ok (.iconst 1, 1) := by decide +kernel
theorem dc_RM_shares_278 : decode prog_14_method_41_code 278 = .ok (.ireturn, 1) := by decide +kernel
theorem w_RM_shares_0 {G : GC} {d : Nat} {P : PT} {I : MI} {J : MJ} {x1 : Int32} {x2 : Int32} {x3 : Int32} (k1 : Ct G (d + 4) m_RM_commonCosts [.ref 67, .int x1, .int x2] (fun r I' J' => Go G (fr G m_RM_shares (d + 5) P) 6 [some (.ref 67), none, none, some (.int x3), none, none, none, none, none, none, none, none, none] (r.toList ++ []) I' J') I J) : Go G (fr G m_RM_shares (d + 5) P) 0 [some (.ref 67), some (.int x1), some (.int x2), some (.int x3), none, none, none, none, none, none, none, none, none] [] I J := by
  refine g_aload_n dc_RM_shares_0 rfl rfl rfl ?_
  refine g_iload_n dc_RM_shares_1 rfl rfl rfl ?_
  refine g_iload_n dc_RM_shares_2 rfl rfl rfl ?_
  refine g_weak [some (.ref 67), none, none, some (.int x3), none, none, none, none, none, none, none, none, none] ⟨rfl, ⟨rfl, trivial⟩⟩ ?_
  exact g_callV (T := T_RM) (N := 45) (As := [.int x1, .int x2]) (rest := []) ok_RM_commonCosts in_RM_commonCosts se_RM_commonCosts ml_RM_246 sh_67 (by decide) rfl rfl rfl (Nat.le_of_ble_eq_true rfl) dc_RM_shares_3 rfl rOk_fr k1
theorem w_RM_shares_6 {G : GC} {d : Nat} {P : PT} {I : MI} {J : MJ} {x3 : Int32} (k1 : Go G (fr G m_RM_shares (d + 5) P) 9 [some (.ref 67), none, none, some (.int x3), some (.int 0), none, none, none, none, none, none, none, none] [] I J) : Go G (fr G m_RM_shares (d + 5) P) 6 [some (.ref 67), none, none, some (.int x3), none, none, none, none, none, none, none, none, none] [] I J := by
  refine g_iconst (v := 0) dc_RM_shares_6 rfl (by decide) ?_
  refine g_istore (L' := [some (.ref 67), none, none, some (.int x3), some (.int 0), none, none, none, none, none, none, none, none]) dc_RM_shares_7 rfl (Nat.le_of_ble_eq_true rfl) rfl ?_
  exact k1
theorem w_RM_shares_9 {G : GC} {d : Nat} {P : PT} {I : MI} {J : MJ} {x3 : Int32} {x4 : Int32} (b1 : (x3 < x4) → vp_in (41 * x3) 287) (k2 : (x3 < x4) → (¬ (J 85 (41 * x3).toNatClampNeg) = (-1)) → Go G (fr G m_RM_shares (d + 5) P) 225 [some (.ref 67), none, none, some (.int x3), some (.int 0), some (.int 0), none, none, none, none, none, none, none] [] I J) (q3 : (x3 < x4) → ((J 85 (41 * x3).toNatClampNeg) = (-1)) → P (some (.int 0)) I J) (k4 : (¬ (x3 < x4)) → Go G (fr G m_RM_shares (d + 5) P) 19 [some (.ref 67), none, none, some (.int x3), some (.int x4), some (.int 40), none, none, none, none, none, none, none] [] I J) : Go G (fr G m_RM_shares (d + 5) P) 9 [some (.ref 67), none, none, some (.int x3), some (.int x4), none, none, none, none, none, none, none, none] [] I J := by
  refine g_iload dc_RM_shares_9 rfl rfl ?_
  refine g_iload_n dc_RM_shares_11 rfl rfl rfl ?_
  refine g_ic_gt (tgt := 201) dc_RM_shares_12 rfl (by decide) (fun c1 => ?_) (fun c1 => ?_)
  · refine g_aload_n dc_RM_shares_201 rfl rfl rfl ?_
    refine g_get (C := "LevelBreaksModel") (T := T_RM) (N := 45) (k := 23) (v := .ref 85) sh_67 (by decide) rfl rfl i_RM (by decide) fl_RM_66 (Or.inl rfl) rfl dc_RM_shares_202 rfl ?_
    refine g_bipush (v := 41) dc_RM_shares_205 rfl (by decide) ?_
    refine g_iload_n dc_RM_shares_207 rfl rfl rfl ?_
    refine g_imul dc_RM_shares_208 rfl ?_
    refine g_laldv (v := (J 85 (41 * x3).toNatClampNeg)) sh_85 (b1 c1) rfl dc_RM_shares_209 rfl ?_
    refine g_ldc2 (v := (-1)) kl_RM_244 dc_RM_shares_210 rfl ?_
    refine g_lc_ne (tgt := 219) dc_RM_shares_213 rfl dc_RM_shares_214 rfl (by decide) (fun c2 => ?_) (fun c2 => ?_)
    · refine g_iconst (v := 0) dc_RM_shares_219 rfl (by decide) ?_
      refine g_istore (L' := [some (.ref 67), none, none, some (.int x3), some (.int 0), none, none, none, none, none, none, none, none]) dc_RM_shares_220 rfl (Nat.le_of_ble_eq_true rfl) rfl ?_
      refine g_iconst (v := 0) dc_RM_shares_222 rfl (by decide) ?_
      refine g_istore (L' := [some (.ref 67), none, none, some (.int x3), some (.int 0), some (.int 0), none, none, none, none, none, none, none]) dc_RM_shares_223 rfl (Nat.le_of_ble_eq_true rfl) rfl ?_
      exact (k2 c1 c2)
    · refine g_iconst (v := 0) dc_RM_shares_217 rfl (by decide) ?_
      exact g_zret rfl (by decide) dc_RM_shares_218 (q3 c1 c2)
  · refine g_bipush (v := 40) dc_RM_shares_15 rfl (by decide) ?_
    refine g_istore (L' := [some (.ref 67), none, none, some (.int x3), some (.int x4), some (.int 40), none, none, none, none, none, none, none]) dc_RM_shares_17 rfl (Nat.le_of_ble_eq_true rfl) rfl ?_
    exact (k4 c1)
theorem w_RM_shares_19 {G : GC} {d : Nat} {P : PT} {I : MI} {J : MJ} {x3 : Int32} {x4 : Int32} {x5 : Int32} (k1 : (x5 < 0) → Go G (fr G m_RM_shares (d + 5) P) 9 [some (.ref 67), none, none, some (.int x3), some (.int (x4 + 1)), none, none, none, none, none, none, none, none] [] I J) (k2 : (¬ (x5 < 0)) → (¬ x4 = 0) → Go G (fr G m_RM_shares (d + 5) P) 40 [some (.ref 67), none, none, some (.int x3), some (.int x4), some (.int x5), none, none, none, none, none, none, none] [] I J) (k3 : (¬ (x5 < 0)) → (x4 = 0) → (¬ x5 = 40) → Go G (fr G m_RM_shares (d + 5) P) 40 [some (.ref 67), none, none, some (.int x3), some (.int x4), some (.int x5), none, none, none, none, none, none, none] [] I J) (k4 : (¬ (x5 < 0)) → (x4 = 0) → (x5 = 40) → Go G (fr G m_RM_shares (d + 5) P) 43 [some (.ref 67), none, none, some (.int x3), some (.int x4), some (.int x5), none, none, none, none, none, none, none] [.long 0] I J) : Go G (fr G m_RM_shares (d + 5) P) 19 [some (.ref 67), none, none, some (.int x3), some (.int x4), some (.int x5), none, none, none, none, none, none, none] [] I J := by
  refine g_iload dc_RM_shares_19 rfl rfl ?_
  refine g_if_lt (tgt := 195) dc_RM_shares_21 rfl (by decide) (fun c1 => ?_) (fun c1 => ?_)
  · refine g_iinc (v := (x4 + 1)) (L' := [some (.ref 67), none, none, some (.int x3), some (.int (x4 + 1)), some (.int x5), none, none, none, none, none, none, none]) dc_RM_shares_195 rfl rfl (by rw [show Int32.ofInt 1 = 1 from by decide]) (Nat.le_of_ble_eq_true rfl) rfl ?_
    refine g_goto (tgt := 9) dc_RM_shares_198 (by decide) ?_
    refine g_weak [some (.ref 67), none, none, some (.int x3), some (.int (x4 + 1)), none, none, none, none, none, none, none, none] ⟨rfl, ⟨rfl, ⟨rfl, trivial⟩⟩⟩ ?_
    exact (k1 c1)
  · refine g_iload dc_RM_shares_24 rfl rfl ?_
    refine g_if_ne (tgt := 40) dc_RM_shares_26 rfl (by decide) (fun c2 => ?_) (fun c2 => ?_)
    · exact (k2 c1 c2)
    · refine g_iload dc_RM_shares_29 rfl rfl ?_
      refine g_bipush (v := 40) dc_RM_shares_31 rfl (by decide) ?_
      refine g_ic_ne (tgt := 40) dc_RM_shares_33 rfl (by decide) (fun c3 => ?_) (fun c3 => ?_)
      · exact (k3 c1 c2 c3)
      · refine g_lconst (v := 0) dc_RM_shares_36 rfl (by decide) ?_
        refine g_goto (tgt := 43) dc_RM_shares_37 (by decide) ?_
        exact (k4 c1 c2 c3)
theorem w_RM_shares_40 {G : GC} {d : Nat} {P : PT} {I : MI} {J : MJ} {x3 : Int32} {x4 : Int32} {x5 : Int32} (k1 : Go G (fr G m_RM_shares (d + 5) P) 43 [some (.ref 67), none, none, some (.int x3), some (.int x4), some (.int x5), none, none, none, none, none, none, none] [.long (-1)] I J) : Go G (fr G m_RM_shares (d + 5) P) 40 [some (.ref 67), none, none, some (.int x3), some (.int x4), some (.int x5), none, none, none, none, none, none, none] [] I J := by
  refine g_ldc2 (v := (-1)) kl_RM_244 dc_RM_shares_40 rfl ?_
  exact k1
theorem w_RM_shares_43 {G : GC} {d : Nat} {P : PT} {I : MI} {J : MJ} {x3 : Int32} {x4 : Int32} {x5 : Int32} {s0 : Int64} (k1 : Go G (fr G m_RM_shares (d + 5) P) 49 [some (.ref 67), none, none, some (.int x3), some (.int x4), some (.int x5), some (.long s0), none, some (.int x5), none, none, none, none] [] I J) : Go G (fr G m_RM_shares (d + 5) P) 43 [some (.ref 67), none, none, some (.int x3), some (.int x4), some (.int x5), none, none, none, none, none, none, none] [.long s0] I J := by
  refine g_lstore (L' := [some (.ref 67), none, none, some (.int x3), some (.int x4), some (.int x5), some (.long s0), none, none, none, none, none, none]) dc_RM_shares_43 rfl (Nat.le_of_ble_eq_true rfl) rfl ?_
  refine g_iload dc_RM_shares_45 rfl rfl ?_
  refine g_istore (L' := [some (.ref 67), none, none, some (.int x3), some (.int x4), some (.int x5), some (.long s0), none, some (.int x5), none, none, none, none]) dc_RM_shares_47 rfl (Nat.le_of_ble_eq_true rfl) rfl ?_
  exact k1
theorem w_RM_shares_49 {G : GC} {d : Nat} {P : PT} {I : MI} {J : MJ} {x3 : Int32} {x4 : Int32} {x5 : Int32} {l6 : Int64} {x8 : Int32} (k1 : (40 ≤ x8) → Go G (fr G m_RM_shares (d + 5) P) 174 [some (.ref 67), none, none, some (.int x3), some (.int x4), some (.int x5), some (.long l6), none, none, none, none, none, none] [] I J) (k2 : (¬ (40 ≤ x8)) → (x4 ≤ 0) → Go G (fr G m_RM_shares (d + 5) P) 174 [some (.ref 67), none, none, some (.int x3), some (.int x4), some (.int x5), some (.long l6), none, none, none, none, none, none] [] I J) (b3 : (¬ (40 ≤ x8)) → (¬ (x4 ≤ 0)) → vp_in (((41 * (x4 - 1)) + x8) + 1) 287) (b4 : (¬ (40 ≤ x8)) → (¬ (x4 ≤ 0)) → vp_in ((40 * x5) + x8) 1600) (k5 : (¬ (40 ≤ x8)) → (¬ (x4 ≤ 0)) → ((J 84 ((40 * x5) + x8).toNatClampNeg) = (-1)) → Go G (fr G m_RM_shares (d + 5) P) 109 [some (.ref 67), none, none, some (.int x3), some (.int x4), some (.int x5), some (.long l6), none, some (.int x8), none, none, none, none] [] I J) (k6 : (¬ (40 ≤ x8)) → (¬ (x4 ≤ 0)) → (¬ ((J 84 ((40 * x5) + x8).toNatClampNeg) = (-1))) → (¬ (J 85 (((41 * (x4 - 1)) + x8) + 1).toNatClampNeg) = (-1)) → Go G (fr G m_RM_shares (d + 5) P) 131 [some (.ref 67), none, none, some (.int x3), some (.int x4), some (.int x5), some (.long l6), none, some (.int x8), none, none, none, none] [.long ((J 84 ((40 * x5) + x8).toNatClampNeg) + (J 85 (((41 * (x4 - 1)) + x8) + 1).toNatClampNeg))] I J) (k7 : (¬ (40 ≤ x8)) → (¬ (x4 ≤ 0)) → (¬ ((J 84 ((40 * x5) + x8).toNatClampNeg) = (-1))) → ((J 85 (((41 * (x4 - 1)) + x8) + 1).toNatClampNeg) = (-1)) → Go G (fr G m_RM_shares (d + 5) P) 109 [some (.ref 67), none, none, some (.int x3), some (.int x4), some (.int x5), some (.long l6), none, some (.int x8), none, none, none, none] [] I J) : Go G (fr G m_RM_shares (d + 5) P) 49 [some (.ref 67), none, none, some (.int x3), some (.int x4), some (.int x5), some (.long l6), none, some (.int x8), none, none, none, none] [] I J := by
  refine g_iload dc_RM_shares_49 rfl rfl ?_
  refine g_bipush (v := 40) dc_RM_shares_51 rfl (by decide) ?_
  refine g_ic_ge (tgt := 174) dc_RM_shares_53 rfl (by decide) (fun c1 => ?_) (fun c1 => ?_)
  · refine g_weak [some (.ref 67), none, none, some (.int x3), some (.int x4), some (.int x5), some (.long l6), none, none, none, none, none, none] ⟨rfl, ⟨rfl, ⟨rfl, ⟨rfl, ⟨rfl, trivial⟩⟩⟩⟩⟩ ?_
    exact (k1 c1)
  · refine g_iload dc_RM_shares_56 rfl rfl ?_
    refine g_if_le (tgt := 174) dc_RM_shares_58 rfl (by decide) (fun c2 => ?_) (fun c2 => ?_)
    · refine g_weak [some (.ref 67), none, none, some (.int x3), some (.int x4), some (.int x5), some (.long l6), none, none, none, none, none, none] ⟨rfl, ⟨rfl, ⟨rfl, ⟨rfl, ⟨rfl, trivial⟩⟩⟩⟩⟩ ?_
      exact (k2 c1 c2)
    · refine g_aload_n dc_RM_shares_61 rfl rfl rfl ?_
      refine g_get (C := "LevelBreaksModel") (T := T_RM) (N := 45) (k := 23) (v := .ref 85) sh_67 (by decide) rfl rfl i_RM (by decide) fl_RM_66 (Or.inl rfl) rfl dc_RM_shares_62 rfl ?_
      refine g_bipush (v := 41) dc_RM_shares_65 rfl (by decide) ?_
      refine g_iload dc_RM_shares_67 rfl rfl ?_
      refine g_iconst (v := 1) dc_RM_shares_69 rfl (by decide) ?_
      refine g_isub dc_RM_shares_70 rfl ?_
      refine g_imul dc_RM_shares_71 rfl ?_
      refine g_iload dc_RM_shares_72 rfl rfl ?_
      refine g_iadd dc_RM_shares_74 rfl ?_
      refine g_iconst (v := 1) dc_RM_shares_75 rfl (by decide) ?_
      refine g_iadd dc_RM_shares_76 rfl ?_
      refine g_laldv (v := (J 85 (((41 * (x4 - 1)) + x8) + 1).toNatClampNeg)) sh_85 (b3 c1 c2) rfl dc_RM_shares_77 rfl ?_
      refine g_lstore (L' := [some (.ref 67), none, none, some (.int x3), some (.int x4), some (.int x5), some (.long l6), none, some (.int x8), some (.long (J 85 (((41 * (x4 - 1)) + x8) + 1).toNatClampNeg)), none, none, none]) dc_RM_shares_78 rfl (Nat.le_of_ble_eq_true rfl) rfl ?_
      refine g_aload_n dc_RM_shares_80 rfl rfl rfl ?_
      refine g_get (C := "LevelBreaksModel") (T := T_RM) (N := 45) (k := 22) (v := .ref 84) sh_67 (by decide) rfl rfl i_RM (by decide) fl_RM_63 (Or.inl rfl) rfl dc_RM_shares_81 rfl ?_
      refine g_bipush (v := 40) dc_RM_shares_84 rfl (by decide) ?_
      refine g_iload dc_RM_shares_86 rfl rfl ?_
      refine g_imul dc_RM_shares_88 rfl ?_
      refine g_iload dc_RM_shares_89 rfl rfl ?_
      refine g_iadd dc_RM_shares_91 rfl ?_
      refine g_laldv (v := (J 84 ((40 * x5) + x8).toNatClampNeg)) sh_84 (b4 c1 c2) rfl dc_RM_shares_92 rfl ?_
      refine g_ldc2 (v := (-1)) kl_RM_244 dc_RM_shares_93 rfl ?_
      refine g_lc_eq (tgt := 109) dc_RM_shares_96 rfl dc_RM_shares_97 rfl (by decide) (fun c3 => ?_) (fun c3 => ?_)
      · refine g_weak [some (.ref 67), none, none, some (.int x3), some (.int x4), some (.int x5), some (.long l6), none, some (.int x8), none, none, none, none] ⟨rfl, ⟨rfl, ⟨rfl, ⟨rfl, ⟨rfl, ⟨rfl, trivial⟩⟩⟩⟩⟩⟩ ?_
        exact (k5 c1 c2 c3)
      · refine g_lload dc_RM_shares_100 rfl rfl ?_
        refine g_ldc2 (v := (-1)) kl_RM_244 dc_RM_shares_102 rfl ?_
        refine g_lc_ne (tgt := 115) dc_RM_shares_105 rfl dc_RM_shares_106 rfl (by decide) (fun c4 => ?_) (fun c4 => ?_)
        · refine g_aload_n dc_RM_shares_115 rfl rfl rfl ?_
          refine g_get (C := "LevelBreaksModel") (T := T_RM) (N := 45) (k := 22) (v := .ref 84) sh_67 (by decide) rfl rfl i_RM (by decide) fl_RM_63 (Or.inl rfl) rfl dc_RM_shares_116 rfl ?_
          refine g_bipush (v := 40) dc_RM_shares_119 rfl (by decide) ?_
          refine g_iload dc_RM_shares_121 rfl rfl ?_
          refine g_imul dc_RM_shares_123 rfl ?_
          refine g_iload dc_RM_shares_124 rfl rfl ?_
          refine g_iadd dc_RM_shares_126 rfl ?_
          refine g_laldv (v := (J 84 ((40 * x5) + x8).toNatClampNeg)) sh_84 (b4 c1 c2) rfl dc_RM_shares_127 rfl ?_
          refine g_lload dc_RM_shares_128 rfl rfl ?_
          refine g_ladd dc_RM_shares_130 rfl ?_
          refine g_weak [some (.ref 67), none, none, some (.int x3), some (.int x4), some (.int x5), some (.long l6), none, some (.int x8), none, none, none, none] ⟨rfl, ⟨rfl, ⟨rfl, ⟨rfl, ⟨rfl, ⟨rfl, trivial⟩⟩⟩⟩⟩⟩ ?_
          exact (k6 c1 c2 c3 c4)
        · refine g_weak [some (.ref 67), none, none, some (.int x3), some (.int x4), some (.int x5), some (.long l6), none, some (.int x8), none, none, none, none] ⟨rfl, ⟨rfl, ⟨rfl, ⟨rfl, ⟨rfl, ⟨rfl, trivial⟩⟩⟩⟩⟩⟩ ?_
          exact (k7 c1 c2 c3 c4)
theorem w_RM_shares_109 {G : GC} {d : Nat} {P : PT} {I : MI} {J : MJ} {x3 : Int32} {x4 : Int32} {x5 : Int32} {l6 : Int64} {x8 : Int32} (k1 : Go G (fr G m_RM_shares (d + 5) P) 131 [some (.ref 67), none, none, some (.int x3), some (.int x4), some (.int x5), some (.long l6), none, some (.int x8), none, none, none, none] [.long (-1)] I J) : Go G (fr G m_RM_shares (d + 5) P) 109 [some (.ref 67), none, none, some (.int x3), some (.int x4), some (.int x5), some (.long l6), none, some (.int x8), none, none, none, none] [] I J := by
  refine g_ldc2 (v := (-1)) kl_RM_244 dc_RM_shares_109 rfl ?_
  refine g_goto (tgt := 131) dc_RM_shares_112 (by decide) ?_
  exact k1
theorem w_RM_shares_131 {G : GC} {d : Nat} {P : PT} {I : MI} {J : MJ} {x3 : Int32} {x4 : Int32} {x5 : Int32} {l6 : Int64} {x8 : Int32} {s0 : Int64} (k1 : (s0 = (-1)) → Go G (fr G m_RM_shares (d + 5) P) 164 [some (.ref 67), none, none, some (.int x3), some (.int x4), some (.int x5), some (.long l6), none, some (.int x8), none, none, none, none] [] I J) (k2 : (¬ (s0 = (-1))) → (l6 = (-1)) → Go G (fr G m_RM_shares (d + 5) P) 159 [some (.ref 67), none, none, some (.int x3), some (.int x4), some (.int x5), none, none, some (.int x8), none, none, some (.long s0), none] [] I J) (k3 : (¬ (s0 = (-1))) → (¬ (l6 = (-1))) → (l6 ≤ s0) → Go G (fr G m_RM_shares (d + 5) P) 164 [some (.ref 67), none, none, some (.int x3), some (.int x4), some (.int x5), some (.long l6), none, some (.int x8), none, none, none, none] [] I J) (k4 : (¬ (s0 = (-1))) → (¬ (l6 = (-1))) → (¬ (l6 ≤ s0)) → Go G (fr G m_RM_shares (d + 5) P) 159 [some (.ref 67), none, none, some (.int x3), some (.int x4), some (.int x5), none, none, some (.int x8), none, none, some (.long s0), none] [] I J) : Go G (fr G m_RM_shares (d + 5) P) 131 [some (.ref 67), none, none, some (.int x3), some (.int x4), some (.int x5), some (.long l6), none, some (.int x8), none, none, none, none] [.long s0] I J := by
  refine g_lstore (L' := [some (.ref 67), none, none, some (.int x3), some (.int x4), some (.int x5), some (.long l6), none, some (.int x8), none, none, some (.long s0), none]) dc_RM_shares_131 rfl (Nat.le_of_ble_eq_true rfl) rfl ?_
  refine g_lload dc_RM_shares_133 rfl rfl ?_
  refine g_ldc2 (v := (-1)) kl_RM_244 dc_RM_shares_135 rfl ?_
  refine g_lc_eq (tgt := 164) dc_RM_shares_138 rfl dc_RM_shares_139 rfl (by decide) (fun c1 => ?_) (fun c1 => ?_)
  · refine g_weak [some (.ref 67), none, none, some (.int x3), some (.int x4), some (.int x5), some (.long l6), none, some (.int x8), none, none, none, none] ⟨rfl, ⟨rfl, ⟨rfl, ⟨rfl, ⟨rfl, ⟨rfl, trivial⟩⟩⟩⟩⟩⟩ ?_
    exact (k1 c1)
  · refine g_lload dc_RM_shares_142 rfl rfl ?_
    refine g_ldc2 (v := (-1)) kl_RM_244 dc_RM_shares_144 rfl ?_
    refine g_lc_eq (tgt := 159) dc_RM_shares_147 rfl dc_RM_shares_148 rfl (by decide) (fun c2 => ?_) (fun c2 => ?_)
    · refine g_weak [some (.ref 67), none, none, some (.int x3), some (.int x4), some (.int x5), none, none, some (.int x8), none, none, some (.long s0), none] ⟨rfl, ⟨rfl, ⟨rfl, ⟨rfl, ⟨rfl, ⟨rfl, trivial⟩⟩⟩⟩⟩⟩ ?_
      exact (k2 c1 c2)
    · refine g_lload dc_RM_shares_151 rfl rfl ?_
      refine g_lload dc_RM_shares_153 rfl rfl ?_
      refine g_lc_ge (tgt := 164) dc_RM_shares_155 rfl dc_RM_shares_156 rfl (by decide) (fun c3 => ?_) (fun c3 => ?_)
      · refine g_weak [some (.ref 67), none, none, some (.int x3), some (.int x4), some (.int x5), some (.long l6), none, some (.int x8), none, none, none, none] ⟨rfl, ⟨rfl, ⟨rfl, ⟨rfl, ⟨rfl, ⟨rfl, trivial⟩⟩⟩⟩⟩⟩ ?_
        exact (k3 c1 c2 c3)
      · refine g_weak [some (.ref 67), none, none, some (.int x3), some (.int x4), some (.int x5), none, none, some (.int x8), none, none, some (.long s0), none] ⟨rfl, ⟨rfl, ⟨rfl, ⟨rfl, ⟨rfl, ⟨rfl, trivial⟩⟩⟩⟩⟩⟩ ?_
        exact (k4 c1 c2 c3)
theorem w_RM_shares_159 {G : GC} {d : Nat} {P : PT} {I : MI} {J : MJ} {x3 : Int32} {x4 : Int32} {x5 : Int32} {x8 : Int32} {l11 : Int64} (k1 : Go G (fr G m_RM_shares (d + 5) P) 166 [some (.ref 67), none, none, some (.int x3), some (.int x4), some (.int x5), none, none, some (.int x8), none, none, none, none] [.long l11] I J) : Go G (fr G m_RM_shares (d + 5) P) 159 [some (.ref 67), none, none, some (.int x3), some (.int x4), some (.int x5), none, none, some (.int x8), none, none, some (.long l11), none] [] I J := by
  refine g_lload dc_RM_shares_159 rfl rfl ?_
  refine g_goto (tgt := 166) dc_RM_shares_161 (by decide) ?_
  refine g_weak [some (.ref 67), none, none, some (.int x3), some (.int x4), some (.int x5), none, none, some (.int x8), none, none, none, none] ⟨rfl, ⟨rfl, ⟨rfl, ⟨rfl, ⟨rfl, trivial⟩⟩⟩⟩⟩ ?_
  exact k1
theorem w_RM_shares_164 {G : GC} {d : Nat} {P : PT} {I : MI} {J : MJ} {x3 : Int32} {x4 : Int32} {x5 : Int32} {l6 : Int64} {x8 : Int32} (k1 : Go G (fr G m_RM_shares (d + 5) P) 166 [some (.ref 67), none, none, some (.int x3), some (.int x4), some (.int x5), none, none, some (.int x8), none, none, none, none] [.long l6] I J) : Go G (fr G m_RM_shares (d + 5) P) 164 [some (.ref 67), none, none, some (.int x3), some (.int x4), some (.int x5), some (.long l6), none, some (.int x8), none, none, none, none] [] I J := by
  refine g_lload dc_RM_shares_164 rfl rfl ?_
  refine g_weak [some (.ref 67), none, none, some (.int x3), some (.int x4), some (.int x5), none, none, some (.int x8), none, none, none, none] ⟨rfl, ⟨rfl, ⟨rfl, ⟨rfl, ⟨rfl, trivial⟩⟩⟩⟩⟩ ?_
  exact k1
theorem w_RM_shares_166 {G : GC} {d : Nat} {P : PT} {I : MI} {J : MJ} {x3 : Int32} {x4 : Int32} {x5 : Int32} {x8 : Int32} {s0 : Int64} (k1 : Go G (fr G m_RM_shares (d + 5) P) 49 [some (.ref 67), none, none, some (.int x3), some (.int x4), some (.int x5), some (.long s0), none, some (.int (x8 + 1)), none, none, none, none] [] I J) : Go G (fr G m_RM_shares (d + 5) P) 166 [some (.ref 67), none, none, some (.int x3), some (.int x4), some (.int x5), none, none, some (.int x8), none, none, none, none] [.long s0] I J := by
  refine g_lstore (L' := [some (.ref 67), none, none, some (.int x3), some (.int x4), some (.int x5), some (.long s0), none, some (.int x8), none, none, none, none]) dc_RM_shares_166 rfl (Nat.le_of_ble_eq_true rfl) rfl ?_
  refine g_iinc (v := (x8 + 1)) (L' := [some (.ref 67), none, none, some (.int x3), some (.int x4), some (.int x5), some (.long s0), none, some (.int (x8 + 1)), none, none, none, none]) dc_RM_shares_168 rfl rfl (by rw [show Int32.ofInt 1 = 1 from by decide]) (Nat.le_of_ble_eq_true rfl) rfl ?_
  refine g_goto (tgt := 49) dc_RM_shares_171 (by decide) ?_
  exact k1
theorem w_RM_shares_174 {G : GC} {d : Nat} {P : PT} {I : MI} {J : MJ} {x3 : Int32} {x4 : Int32} {x5 : Int32} {l6 : Int64} (b1 : vp_in ((41 * x4) + x5) 287) (k2 : Go G (fr G m_RM_shares (d + 5) P) 19 [some (.ref 67), none, none, some (.int x3), some (.int x4), some (.int (x5 + (-1))), none, none, none, none, none, none, none] [] I (u2 J 85 ((41 * x4) + x5).toNatClampNeg l6)) : Go G (fr G m_RM_shares (d + 5) P) 174 [some (.ref 67), none, none, some (.int x3), some (.int x4), some (.int x5), some (.long l6), none, none, none, none, none, none] [] I J := by
  refine g_aload_n dc_RM_shares_174 rfl rfl rfl ?_
  refine g_get (C := "LevelBreaksModel") (T := T_RM) (N := 45) (k := 23) (v := .ref 85) sh_67 (by decide) rfl rfl i_RM (by decide) fl_RM_66 (Or.inl rfl) rfl dc_RM_shares_175 rfl ?_
  refine g_bipush (v := 41) dc_RM_shares_178 rfl (by decide) ?_
  refine g_iload dc_RM_shares_180 rfl rfl ?_
  refine g_imul dc_RM_shares_182 rfl ?_
  refine g_iload dc_RM_shares_183 rfl rfl ?_
  refine g_iadd dc_RM_shares_185 rfl ?_
  refine g_lload dc_RM_shares_186 rfl rfl ?_
  refine g_last sh_85 b1 dc_RM_shares_188 rfl ?_
  refine g_iinc (v := (x5 + (-1))) (L' := [some (.ref 67), none, none, some (.int x3), some (.int x4), some (.int (x5 + (-1))), some (.long l6), none, none, none, none, none, none]) dc_RM_shares_189 rfl rfl (by rw [show Int32.ofInt (-1) = (-1) from by decide]) (Nat.le_of_ble_eq_true rfl) rfl ?_
  refine g_goto (tgt := 19) dc_RM_shares_192 (by decide) ?_
  refine g_weak [some (.ref 67), none, none, some (.int x3), some (.int x4), some (.int (x5 + (-1))), none, none, none, none, none, none, none] ⟨rfl, ⟨rfl, ⟨rfl, ⟨rfl, trivial⟩⟩⟩⟩ ?_
  exact k2
theorem w_RM_shares_225 {G : GC} {d : Nat} {P : PT} {I : MI} {J : MJ} {x3 : Int32} {x4 : Int32} {x5 : Int32} (q1 : (x3 ≤ x5) → P (some (.int 1)) I J) (b2 : (¬ (x3 ≤ x5)) → vp_in x5 7) (k3 : (¬ (x3 ≤ x5)) → Go G (fr G m_RM_shares (d + 5) P) 244 [some (.ref 67), none, none, some (.int x3), some (.int x4), some (.int x5), some (.int x4), none, none, none, none, none, none] [] (u2 I 83 x5.toNatClampNeg x4) J) : Go G (fr G m_RM_shares (d + 5) P) 225 [some (.ref 67), none, none, some (.int x3), some (.int x4), some (.int x5), none, none, none, none, none, none, none] [] I J := by
  refine g_iload dc_RM_shares_225 rfl rfl ?_
  refine g_iload_n dc_RM_shares_227 rfl rfl rfl ?_
  refine g_ic_ge (tgt := 277) dc_RM_shares_228 rfl (by decide) (fun c1 => ?_) (fun c1 => ?_)
  · refine g_iconst (v := 1) dc_RM_shares_277 rfl (by decide) ?_
    exact g_zret rfl (by decide) dc_RM_shares_278 (q1 c1)
  · refine g_aload_n dc_RM_shares_231 rfl rfl rfl ?_
    refine g_get (C := "LevelBreaksModel") (T := T_RM) (N := 45) (k := 21) (v := .ref 83) sh_67 (by decide) rfl rfl i_RM (by decide) fl_RM_60 (Or.inl rfl) rfl dc_RM_shares_232 rfl ?_
    refine g_iload dc_RM_shares_235 rfl rfl ?_
    refine g_iload dc_RM_shares_237 rfl rfl ?_
    refine g_iast sh_83 (b2 c1) dc_RM_shares_239 rfl ?_
    refine g_iload dc_RM_shares_240 rfl rfl ?_
    refine g_istore (L' := [some (.ref 67), none, none, some (.int x3), some (.int x4), some (.int x5), some (.int x4), none, none, none, none, none, none]) dc_RM_shares_242 rfl (Nat.le_of_ble_eq_true rfl) rfl ?_
    exact (k3 c1)
theorem w_RM_shares_244 {G : GC} {d : Nat} {P : PT} {I : MI} {J : MJ} {x3 : Int32} {x4 : Int32} {x5 : Int32} {x6 : Int32} (k1 : Ct G (d + 4) m_RM_isCommon [.ref 67, .int x4, .int x6, .int (x3 - x5)] (fun r I' J' => Go G (fr G m_RM_shares (d + 5) P) 256 [some (.ref 67), none, none, some (.int x3), some (.int x4), some (.int x5), some (.int x6), none, none, none, none, none, none] (r.toList ++ []) I' J') I J) : Go G (fr G m_RM_shares (d + 5) P) 244 [some (.ref 67), none, none, some (.int x3), some (.int x4), some (.int x5), some (.int x6), none, none, none, none, none, none] [] I J := by
  refine g_aload_n dc_RM_shares_244 rfl rfl rfl ?_
  refine g_iload dc_RM_shares_245 rfl rfl ?_
  refine g_iload dc_RM_shares_247 rfl rfl ?_
  refine g_iload_n dc_RM_shares_249 rfl rfl rfl ?_
  refine g_iload dc_RM_shares_250 rfl rfl ?_
  refine g_isub dc_RM_shares_252 rfl ?_
  exact g_callV (T := T_RM) (N := 45) (As := [.int x4, .int x6, .int (x3 - x5)]) (rest := []) ok_RM_isCommon in_RM_isCommon se_RM_isCommon ml_RM_249 sh_67 (by decide) rfl rfl rfl (Nat.le_of_ble_eq_true rfl) dc_RM_shares_253 rfl rOk_fr k1
theorem w_RM_shares_256 {G : GC} {d : Nat} {P : PT} {I : MI} {J : MJ} {x3 : Int32} {x4 : Int32} {x5 : Int32} {x6 : Int32} {y0 : Int32} (k1 : (¬ y0 = 0) → Go G (fr G m_RM_shares (d + 5) P) 225 [some (.ref 67), none, none, some (.int x3), some (.int (x6 + 1)), some (.int (x5 + 1)), none, none, none, none, none, none, none] [] I J) (k2 : (y0 = 0) → Go G (fr G m_RM_shares (d + 5) P) 244 [some (.ref 67), none, none, some (.int x3), some (.int x4), some (.int x5), some (.int (x6 + 1)), none, none, none, none, none, none] [] I J) : Go G (fr G m_RM_shares (d + 5) P) 256 [some (.ref 67), none, none, some (.int x3), some (.int x4), some (.int x5), some (.int x6), none, none, none, none, none, none] [.int y0] I J := by
  refine g_if_ne (tgt := 265) dc_RM_shares_256 rfl (by decide) (fun c1 => ?_) (fun c1 => ?_)
  · refine g_iload dc_RM_shares_265 rfl rfl ?_
    refine g_iconst (v := 1) dc_RM_shares_267 rfl (by decide) ?_
    refine g_iadd dc_RM_shares_268 rfl ?_
    refine g_istore (L' := [some (.ref 67), none, none, some (.int x3), some (.int (x6 + 1)), some (.int x5), some (.int x6), none, none, none, none, none, none]) dc_RM_shares_269 rfl (Nat.le_of_ble_eq_true rfl) rfl ?_
    refine g_iinc (v := (x5 + 1)) (L' := [some (.ref 67), none, none, some (.int x3), some (.int (x6 + 1)), some (.int (x5 + 1)), some (.int x6), none, none, none, none, none, none]) dc_RM_shares_271 rfl rfl (by rw [show Int32.ofInt 1 = 1 from by decide]) (Nat.le_of_ble_eq_true rfl) rfl ?_
    refine g_goto (tgt := 225) dc_RM_shares_274 (by decide) ?_
    refine g_weak [some (.ref 67), none, none, some (.int x3), some (.int (x6 + 1)), some (.int (x5 + 1)), none, none, none, none, none, none, none] ⟨rfl, ⟨rfl, ⟨rfl, ⟨rfl, trivial⟩⟩⟩⟩ ?_
    exact (k1 c1)
  · refine g_iinc (v := (x6 + 1)) (L' := [some (.ref 67), none, none, some (.int x3), some (.int x4), some (.int x5), some (.int (x6 + 1)), none, none, none, none, none, none]) dc_RM_shares_259 rfl rfl (by rw [show Int32.ofInt 1 = 1 from by decide]) (Nat.le_of_ble_eq_true rfl) rfl ?_
    refine g_goto (tgt := 244) dc_RM_shares_262 (by decide) ?_
    exact (k2 c1)
theorem dc_RM_sheet_0 : decode prog_14_method_73_code 0 = .ok (.iload_n 1, 1) := by decide +kernel
theorem dc_RM_sheet_1 : decode prog_14_method_73_code 1 = .ok (.invokestatic 134, 3) := by decide +kernel
theorem dc_RM_sheet_4 : decode prog_14_method_73_code 4 = .ok (.ifCond .eq 18, 3) := by decide +kernel
theorem dc_RM_sheet_7 : decode prog_14_method_73_code 7 = .ok (.iload_n 2, 1) := by decide +kernel
theorem dc_RM_sheet_8 : decode prog_14_method_73_code 8 = .ok (.iconst 0, 1) := by decide +kernel
theorem dc_RM_sheet_9 : decode prog_14_method_73_code 9 = .ok (.iconst 2, 1) := by decide +kernel
theorem dc_RM_sheet_10 : decode prog_14_method_73_code 10 = .ok (.invokestatic 112, 3) := by decide +kernel
theorem dc_RM_sheet_13 : decode prog_14_method_73_code 13 = .ok (.ifCond .eq 9, 3) := by decide +kernel
theorem dc_RM_sheet_16 : decode prog_14_method_73_code 16 = .ok (.iload_n 3, 1) := by decide +kernel
theorem dc_RM_sheet_17 : decode prog_14_method_73_code 17 = .ok (.bipush 60, 2) := by decide +kernel
theorem dc_RM_sheet_19 : decode prog_14_method_73_code 19 = .ok (.if_icmp .le 6, 3) := by decide +kernel
theorem dc_RM_sheet_22 : decode prog_14_method_73_code 22 = .ok (.bipush (-2), 2) := by decide +kernel
theorem dc_RM_sheet_24 : decode prog_14_method_73_code 24 = .ok (.ireturn, 1) := by decide +kernel
theorem dc_RM_sheet_25 : decode prog_14_method_73_code 25 = .ok (.iload_n 3, 1) := by decide +kernel
theorem dc_RM_sheet_26 : decode prog_14_method_73_code 26 = .ok (.ifCond .ge 9, 3) := by decide +kernel
theorem dc_RM_sheet_29 : decode prog_14_method_73_code 29 = .ok (.aload_n 0, 1) := by decide +kernel
theorem dc_RM_sheet_30 : decode prog_14_method_73_code 30 = .ok (.iconst 5, 1) := by decide +kernel
theorem dc_RM_sheet_31 : decode prog_14_method_73_code 31 = .ok (.invokevirtual 137, 3) := by decide +kernel
theorem dc_RM_sheet_34 : decode prog_14_method_73_code 34 = .ok (.ireturn, 1) := by decide +kernel
theorem dc_RM_sheet_35 : decode prog_14_method_73_code 35 = .ok (.aload_n 0, 1) := by decide +kernel
theorem dc_RM_sheet_36 : decode prog_14_method_73_code 36 = .ok (.getfield 97, 3) := by decide +kernel
theorem dc_RM_sheet_39 : decode prog_14_method_73_code 39 = .ok (.iload_n 1, 1) := by decide +kernel
theorem dc_RM_sheet_40 : decode prog_14_method_73_code 40 = .ok (.iconst 1, 1) := by decide +kernel
theorem dc_RM_sheet_41 : decode prog_14_method_73_code 41 = .ok (.bastore, 1) := by decide +kernel
theorem dc_RM_sheet_42 : decode prog_14_method_73_code 42 = .ok (.aload_n 0, 1) := by decide +kernel
theorem dc_RM_sheet_43 : decode prog_14_method_73_code 43 = .ok (.getfield 100, 3) := by decide +kernel
theorem dc_RM_sheet_46 : decode prog_14_method_73_code 46 = .ok (.iload_n 1, 1) := by decide +kernel
theorem dc_RM_sheet_47 : decode prog_14_method_73_code 47 = .ok (.iload_n 2, 1) := by decide +kernel
theorem dc_RM_sheet_48 : decode prog_14_method_73_code 48 = .ok (.iastore, 1) := by decide +kernel
theorem dc_RM_sheet_49 : decode prog_14_method_73_code 49 = .ok (.aload_n 0, 1) := by decide +kernel
theorem dc_RM_sheet_50 : decode prog_14_method_73_code 50 = .ok (.getfield 103, 3) := by decide +kernel
theorem dc_RM_sheet_53 : decode prog_14_method_73_code 53 = .ok (.iload_n 1, 1) := by decide +kernel
theorem dc_RM_sheet_54 : decode prog_14_method_73_code 54 = .ok (.iload_n 3, 1) := by decide +kernel
theorem dc_RM_sheet_55 : decode prog_14_method_73_code 55 = .ok (.iastore, 1) := by decide +kernel
theorem dc_RM_sheet_56 : decode prog_14_method_73_code 56 = .ok (.iconst 0, 1) := by decide +kernel
theorem dc_RM_sheet_57 : decode prog_14_method_73_code 57 = .ok (.istore 4, 2) := by decide +kernel
theorem dc_RM_sheet_59 : decode prog_14_method_73_code 59 = .ok (.iload 4, 2) := by decide +kernel
theorem dc_RM_sheet_61 : decode prog_14_method_73_code 61 = .ok (.bipush 60, 2) := by decide +kernel
theorem dc_RM_sheet_63 : decode prog_14_method_73_code 63 = .ok (.if_icmp .ge 22, 3) := by decide +kernel
theorem dc_RM_sheet_66 : decode prog_14_method_73_code 66 = .ok (.aload_n 0, 1) := by decide +kernel
theorem dc_RM_sheet_67 : decode prog_14_method_73_code 67 = .ok (.getfield 106, 3) := by decide +kernel
theorem dc_RM_sheet_70 : decode prog_14_method_73_code 70 = .ok (.bipush 60, 2) := by decide +kernel
theorem dc_RM_sheet_72 : decode prog_14_method_73_code 72 = .ok (.iload_n 1, 1) := by decide +kernel
theorem dc_RM_sheet_73 : decode prog_14_method_73_code 73 = .ok (.imul, 1) := by decide +kernel
theorem dc_RM_sheet_74 : decode prog_14_method_73_code 74 = .ok (.iload 4, 2) := by decide +kernel
theorem dc_RM_sheet_76 : decode prog_14_method_73_code 76 = .ok (.iadd, 1) := by decide +kernel
theorem dc_RM_sheet_77 : decode prog_14_method_73_code 77 = .ok (.iconst 0, 1) := by decide +kernel
theorem dc_RM_sheet_78 : decode prog_14_method_73_code 78 = .ok (.iastore, 1) := by decide +kernel
theorem dc_RM_sheet_79 : decode prog_14_method_73_code 79 = .ok (.iinc 4 1, 3) := by decide +kernel
theorem dc_RM_sheet_82 : decode prog_14_method_73_code 82 = .ok (.goto (-23), 3) := by decide +kernel
theorem dc_RM_sheet_85 : decode prog_14_method_73_code 85 = .ok (.iload_n 3, 1) := by decide +kernel
theorem dc_RM_sheet_86 : decode prog_14_method_73_code 86 = .ok (.ireturn, 1) := by decide +kernel
theorem w_RM_sheet_0 {G : GC} {d : Nat} {P : PT} {I : MI} {J : MJ} {x1 : Int32} {x2 : Int32} {x3 : Int32} (k1 : ((f_RM_isSheet x1) = 0) → Go G (fr G m_RM_sheet (d + 2) P) 22 [none, none, none, none, none] [] I J) (k2 : (¬ ((f_RM_isSheet x1) = 0)) → ((f_RM_in x2 0 2) = 0) → Go G (fr G m_RM_sheet (d + 2) P) 22 [none, none, none, none, none] [] I J) (b3 : (¬ ((f_RM_isSheet x1) = 0)) → (¬ ((f_RM_in x2 0 2) = 0)) → (x3 ≤ 60) → (0 ≤ x3) → vp_in x1 4) (k4 : (¬ ((f_RM_isSheet x1) = 0)) → (¬ ((f_RM_in x2 0 2) = 0)) → (x3 ≤ 60) → (0 ≤ x3) → Go G (fr G m_RM_sheet (d + 2) P) 59 [some (.ref 67), some (.int x1), none, some (.int x3), some (.int 0)] [] (u2 (u2 (u2 I 95 x1.toNatClampNeg 1) 96 x1.toNatClampNeg x2) 97 x1.toNatClampNeg x3) J) (k5 : (¬ ((f_RM_isSheet x1) = 0)) → (¬ ((f_RM_in x2 0 2) = 0)) → (x3 ≤ 60) → (¬ (0 ≤ x3)) → Ct G (d + 1) m_RM_meets [.ref 67, .int 5] (fun r I' J' => Go G (fr G m_RM_sheet (d + 2) P) 34 [none, none, none, none, none] (r.toList ++ []) I' J') I J) (k6 : (¬ ((f_RM_isSheet x1) = 0)) → (¬ ((f_RM_in x2 0 2) = 0)) → (¬ (x3 ≤ 60)) → Go G (fr G m_RM_sheet (d + 2) P) 22 [none, none, none, none, none] [] I J) : Go G (fr G m_RM_sheet (d + 2) P) 0 [some (.ref 67), some (.int x1), some (.int x2), some (.int x3), none] [] I J := by
  refine g_iload_n dc_RM_sheet_0 rfl rfl rfl ?_
  refine g_callS (M := m_RM_isSheet) (As := [.int x1]) (rest := []) ok_RM_isSheet st_RM_isSheet ml_RM_134 rfl rfl (Nat.le_of_ble_eq_true rfl) dc_RM_sheet_1 rfl rOk_fr (c_RM_isSheet ?_)
  show Go G (fr G m_RM_sheet (d + 2) P) 4 [some (.ref 67), some (.int x1), some (.int x2), some (.int x3), none] [.int (f_RM_isSheet x1)] I J
  refine g_if_eq (tgt := 22) dc_RM_sheet_4 rfl (by decide) (fun c1 => ?_) (fun c1 => ?_)
  · refine g_weak [none, none, none, none, none] trivial ?_
    exact (k1 c1)
  · refine g_iload_n dc_RM_sheet_7 rfl rfl rfl ?_
    refine g_iconst (v := 0) dc_RM_sheet_8 rfl (by decide) ?_
    refine g_iconst (v := 2) dc_RM_sheet_9 rfl (by decide) ?_
    refine g_callS (M := m_RM_in) (As := [.int x2, .int 0, .int 2]) (rest := []) ok_RM_in st_RM_in ml_RM_112 rfl rfl (Nat.le_of_ble_eq_true rfl) dc_RM_sheet_10 rfl rOk_fr (c_RM_in ?_)
    show Go G (fr G m_RM_sheet (d + 2) P) 13 [some (.ref 67), some (.int x1), some (.int x2), some (.int x3), none] [.int (f_RM_in x2 0 2)] I J
    refine g_if_eq (tgt := 22) dc_RM_sheet_13 rfl (by decide) (fun c2 => ?_) (fun c2 => ?_)
    · refine g_weak [none, none, none, none, none] trivial ?_
      exact (k2 c1 c2)
    · refine g_iload_n dc_RM_sheet_16 rfl rfl rfl ?_
      refine g_bipush (v := 60) dc_RM_sheet_17 rfl (by decide) ?_
      refine g_ic_le (tgt := 25) dc_RM_sheet_19 rfl (by decide) (fun c3 => ?_) (fun c3 => ?_)
      · refine g_iload_n dc_RM_sheet_25 rfl rfl rfl ?_
        refine g_if_ge (tgt := 35) dc_RM_sheet_26 rfl (by decide) (fun c4 => ?_) (fun c4 => ?_)
        · refine g_aload_n dc_RM_sheet_35 rfl rfl rfl ?_
          refine g_get (C := "LevelBreaksModel") (T := T_RM) (N := 45) (k := 39) (v := .ref 95) sh_67 (by decide) rfl rfl i_RM (by decide) fl_RM_97 (Or.inl rfl) rfl dc_RM_sheet_36 rfl ?_
          refine g_iload_n dc_RM_sheet_39 rfl rfl rfl ?_
          refine g_iconst (v := 1) dc_RM_sheet_40 rfl (by decide) ?_
          refine g_zast sh_95 (b3 c1 c2 c3 c4) (by decide) dc_RM_sheet_41 rfl ?_
          refine g_aload_n dc_RM_sheet_42 rfl rfl rfl ?_
          refine g_get (C := "LevelBreaksModel") (T := T_RM) (N := 45) (k := 40) (v := .ref 96) sh_67 (by decide) rfl rfl i_RM (by decide) fl_RM_100 (Or.inl rfl) rfl dc_RM_sheet_43 rfl ?_
          refine g_iload_n dc_RM_sheet_46 rfl rfl rfl ?_
          refine g_iload_n dc_RM_sheet_47 rfl rfl rfl ?_
          refine g_iast sh_96 (b3 c1 c2 c3 c4) dc_RM_sheet_48 rfl ?_
          refine g_aload_n dc_RM_sheet_49 rfl rfl rfl ?_
          refine g_get (C := "LevelBreaksModel") (T := T_RM) (N := 45) (k := 41) (v := .ref 97) sh_67 (by decide) rfl rfl i_RM (by decide) fl_RM_103 (Or.inl rfl) rfl dc_RM_sheet_50 rfl ?_
          refine g_iload_n dc_RM_sheet_53 rfl rfl rfl ?_
          refine g_iload_n dc_RM_sheet_54 rfl rfl rfl ?_
          refine g_iast sh_97 (b3 c1 c2 c3 c4) dc_RM_sheet_55 rfl ?_
          refine g_iconst (v := 0) dc_RM_sheet_56 rfl (by decide) ?_
          refine g_istore (L' := [some (.ref 67), some (.int x1), some (.int x2), some (.int x3), some (.int 0)]) dc_RM_sheet_57 rfl (Nat.le_of_ble_eq_true rfl) rfl ?_
          refine g_weak [some (.ref 67), some (.int x1), none, some (.int x3), some (.int 0)] ⟨rfl, ⟨rfl, ⟨rfl, ⟨rfl, trivial⟩⟩⟩⟩ ?_
          exact (k4 c1 c2 c3 c4)
        · refine g_aload_n dc_RM_sheet_29 rfl rfl rfl ?_
          refine g_iconst (v := 5) dc_RM_sheet_30 rfl (by decide) ?_
          refine g_weak [none, none, none, none, none] trivial ?_
          exact g_callV (T := T_RM) (N := 45) (As := [.int 5]) (rest := []) ok_RM_meets in_RM_meets se_RM_meets ml_RM_137 sh_67 (by decide) rfl rfl rfl (Nat.le_of_ble_eq_true rfl) dc_RM_sheet_31 rfl rOk_fr (k5 c1 c2 c3 c4)
      · refine g_weak [none, none, none, none, none] trivial ?_
        exact (k6 c1 c2 c3)
theorem w_RM_sheet_22 {G : GC} {d : Nat} {P : PT} {I : MI} {J : MJ}  (q1 : P (some (.int (-2))) I J) : Go G (fr G m_RM_sheet (d + 2) P) 22 [none, none, none, none, none] [] I J := by
  refine g_bipush (v := (-2)) dc_RM_sheet_22 rfl (by decide) ?_
  exact g_iret rfl dc_RM_sheet_24 q1
theorem w_RM_sheet_34 {G : GC} {d : Nat} {P : PT} {I : MI} {J : MJ} {y0 : Int32} (q1 : P (some (.int y0)) I J) : Go G (fr G m_RM_sheet (d + 2) P) 34 [none, none, none, none, none] [.int y0] I J := by
  exact g_iret rfl dc_RM_sheet_34 q1
theorem w_RM_sheet_59 {G : GC} {d : Nat} {P : PT} {I : MI} {J : MJ} {x1 : Int32} {x3 : Int32} {x4 : Int32} (q1 : (60 ≤ x4) → P (some (.int x3)) I J) (b2 : (¬ (60 ≤ x4)) → vp_in ((60 * x1) + x4) 240) (k3 : (¬ (60 ≤ x4)) → Go G (fr G m_RM_sheet (d + 2) P) 59 [some (.ref 67), some (.int x1), none, some (.int x3), some (.int (x4 + 1))] [] (u2 I 98 ((60 * x1) + x4).toNatClampNeg 0) J) : Go G (fr G m_RM_sheet (d + 2) P) 59 [some (.ref 67), some (.int x1), none, some (.int x3), some (.int x4)] [] I J := by
  refine g_iload dc_RM_sheet_59 rfl rfl ?_
  refine g_bipush (v := 60) dc_RM_sheet_61 rfl (by decide) ?_
  refine g_ic_ge (tgt := 85) dc_RM_sheet_63 rfl (by decide) (fun c1 => ?_) (fun c1 => ?_)
  · refine g_iload_n dc_RM_sheet_85 rfl rfl rfl ?_
    exact g_iret rfl dc_RM_sheet_86 (q1 c1)
  · refine g_aload_n dc_RM_sheet_66 rfl rfl rfl ?_
    refine g_get (C := "LevelBreaksModel") (T := T_RM) (N := 45) (k := 42) (v := .ref 98) sh_67 (by decide) rfl rfl i_RM (by decide) fl_RM_106 (Or.inl rfl) rfl dc_RM_sheet_67 rfl ?_
    refine g_bipush (v := 60) dc_RM_sheet_70 rfl (by decide) ?_
    refine g_iload_n dc_RM_sheet_72 rfl rfl rfl ?_
    refine g_imul dc_RM_sheet_73 rfl ?_
    refine g_iload dc_RM_sheet_74 rfl rfl ?_
    refine g_iadd dc_RM_sheet_76 rfl ?_
    refine g_iconst (v := 0) dc_RM_sheet_77 rfl (by decide) ?_
    refine g_iast sh_98 (b2 c1) dc_RM_sheet_78 rfl ?_
    refine g_iinc (v := (x4 + 1)) (L' := [some (.ref 67), some (.int x1), none, some (.int x3), some (.int (x4 + 1))]) dc_RM_sheet_79 rfl rfl (by rw [show Int32.ofInt 1 = 1 from by decide]) (Nat.le_of_ble_eq_true rfl) rfl ?_
    refine g_goto (tgt := 59) dc_RM_sheet_82 (by decide) ?_
    exact (k3 c1)
theorem dc_RM_simpler_0 : decode prog_14_method_51_code 0 = .ok (.iload_n 1, 1) := by decide +kernel
theorem dc_RM_simpler_1 : decode prog_14_method_51_code 1 = .ok (.iload_n 2, 1) := by decide +kernel
theorem dc_RM_simpler_2 : decode prog_14_method_51_code 2 = .ok (.iload_n 3, 1) := by decide +kernel
theorem dc_RM_simpler_3 : decode prog_14_method_51_code 3 = .ok (.invokestatic 217, 3) := by decide +kernel
theorem dc_RM_simpler_6 : decode prog_14_method_51_code 6 = .ok (.ifCond .eq 26, 3) := by decide +kernel
theorem dc_RM_simpler_9 : decode prog_14_method_51_code 9 = .ok (.iload 4, 2) := by decide +kernel
theorem dc_RM_simpler_11 : decode prog_14_method_51_code 11 = .ok (.iconst 1, 1) := by decide +kernel
theorem dc_RM_simpler_12 : decode prog_14_method_51_code 12 = .ok (.iconst 2, 1) := by decide +kernel
theorem dc_RM_simpler_13 : decode prog_14_method_51_code 13 = .ok (.invokestatic 112, 3) := by decide +kernel
theorem dc_RM_simpler_16 : decode prog_14_method_51_code 16 = .ok (.ifCond .eq 16, 3) := by decide +kernel
theorem dc_RM_simpler_19 : decode prog_14_method_51_code 19 = .ok (.iload 5, 2) := by decide +kernel
theorem dc_RM_simpler_21 : decode prog_14_method_51_code 21 = .ok (.iconst 0, 1) := by decide +kernel
theorem dc_RM_simpler_22 : decode prog_14_method_51_code 22 = .ok (.iload 4, 2) := by decide +kernel
theorem dc_RM_simpler_24 : decode prog_14_method_51_code 24 = .ok (.iconst 1, 1) := by decide +kernel
theorem dc_RM_simpler_25 : decode prog_14_method_51_code 25 = .ok (.isub, 1) := by decide +kernel
theorem dc_RM_simpler_26 : decode prog_14_method_51_code 26 = .ok (.invokestatic 112, 3) := by decide +kernel
theorem dc_RM_simpler_29 : decode prog_14_method_51_code 29 = .ok (.ifCond .ne 6, 3) := by decide +kernel
theorem dc_RM_simpler_32 : decode prog_14_method_51_code 32 = .ok (.bipush (-2), 2) := by decide +kernel
theorem dc_RM_simpler_34 : decode prog_14_method_51_code 34 = .ok (.ireturn, 1) := by decide +kernel
theorem dc_RM_simpler_35 : decode prog_14_method_51_code 35 = .ok (.aload_n 0, 1) := by decide +kernel
theorem dc_RM_simpler_36 : decode prog_14_method_51_code 36 = .ok (.iload_n 1, 1) := by decide +kernel
theorem dc_RM_simpler_37 : decode prog_14_method_51_code 37 = .ok (.aload_n 0, 1) := by decide +kernel
theorem dc_RM_simpler_38 : decode prog_14_method_51_code 38 = .ok (.getfield 22, 3) := by decide +kernel
theorem dc_RM_simpler_41 : decode prog_14_method_51_code 41 = .ok (.invokevirtual 148, 3) := by decide +kernel
theorem dc_RM_simpler_44 : decode prog_14_method_51_code 44 = .ok (.aload_n 0, 1) := by decide +kernel
theorem dc_RM_simpler_45 : decode prog_14_method_51_code 45 = .ok (.aload_n 0, 1) := by decide +kernel
theorem dc_RM_simpler_46 : decode prog_14_method_51_code 46 = .ok (.getfield 145, 3) := by decide +kernel
theorem dc_RM_simpler_49 : decode prog_14_method_51_code 49 = .ok (.putfield 266, 3) := by decide +kernel
theorem dc_RM_simpler_52 : decode prog_14_method_51_code 52 = .ok (.iconst 0, 1) := by decide +kernel
theorem dc_RM_simpler_53 : decode prog_14_method_51_code 53 = .ok (.istore 6, 2) := by decide +kernel
theorem dc_RM_simpler_55 : decode prog_14_method_51_code 55 = .ok (.iload 6, 2) := by decide +kernel
theorem dc_RM_simpler_57 : decode prog_14_method_51_code 57 = .ok (.aload_n 0, 1) := by decide +kernel
theorem dc_RM_simpler_58 : decode prog_14_method_51_code 58 = .ok (.getfield 145, 3) := by decide +kernel
theorem dc_RM_simpler_61 : decode prog_14_method_51_code 61 = .ok (.if_icmp .ge 37, 3) := by decide +kernel
theorem dc_RM_simpler_64 : decode prog_14_method_51_code 64 = .ok (.aload_n 0, 1) := by decide +kernel
theorem dc_RM_simpler_65 : decode prog_14_method_51_code 65 = .ok (.getfield 72, 3) := by decide +kernel
theorem dc_RM_simpler_68 : decode prog_14_method_51_code 68 = .ok (.iload 6, 2) := by decide +kernel
theorem dc_RM_simpler_70 : decode prog_14_method_51_code 70 = .ok (.aload_n 0, 1) := by decide +kernel
theorem dc_RM_simpler_71 : decode prog_14_method_51_code 71 = .ok (.getfield 29, 3) := by decide +kernel
theorem dc_RM_simpler_74 : decode prog_14_method_51_code 74 = .ok (.iload 6, 2) := by decide +kernel
theorem dc_RM_simpler_76 : decode prog_14_method_51_code 76 = .ok (.iaload, 1) := by decide +kernel
theorem dc_RM_simpler_77 : decode prog_14_method_51_code 77 = .ok (.iastore, 1) := by decide +kernel
theorem dc_RM_simpler_78 : decode prog_14_method_51_code 78 = .ok (.aload_n 0, 1) := by decide +kernel
theorem dc_RM_simpler_79 : decode prog_14_method_51_code 79 = .ok (.getfield 75, 3) := by decide +kernel
theorem dc_RM_simpler_82 : decode prog_14_method_51_code 82 = .ok (.iload 6, 2) := by decide +kernel
theorem dc_RM_simpler_84 : decode prog_14_method_51_code 84 = .ok (.aload_n 0, 1) := by decide +kernel
theorem dc_RM_simpler_85 : decode prog_14_method_51_code 85 = .ok (.getfield 32, 3) := by decide +kernel
theorem dc_RM_simpler_88 : decode prog_14_method_51_code 88 = .ok (.iload 6, 2) := by decide +kernel
theorem dc_RM_simpler_90 : decode prog_14_method_51_code 90 = .ok (.iaload, 1) := by decide +kernel
theorem dc_RM_simpler_91 : decode prog_14_method_51_code 91 = .ok (.iastore, 1) := by decide +kernel
theorem dc_RM_simpler_92 : decode prog_14_method_51_code 92 = .ok (.iinc 6 1, 3) := by decide +kernel
theorem dc_RM_simpler_95 : decode prog_14_method_51_code 95 = .ok (.goto (-40), 3) := by decide +kernel
theorem dc_RM_simpler_98 : decode prog_14_method_51_code 98 = .ok (.aload_n 0, 1) := by decide +kernel
theorem dc_RM_simpler_99 : decode prog_14_method_51_code 99 = .ok (.getfield 266, 3) := by decide +kernel
theorem dc_RM_simpler_102 : decode prog_14_method_51_code 102 = .ok (.iload 4, 2) := by decide +kernel
theorem dc_RM_simpler_104 : decode prog_14_method_51_code 104 = .ok (.isub, 1) := by decide +kernel
theorem dc_RM_simpler_105 : decode prog_14_method_51_code 105 = .ok (.iload_n 3, 1) := by decide +kernel
theorem dc_RM_simpler_106 : decode prog_14_method_51_code 106 = .ok (.aload_n 0, 1) := by decide +kernel
theorem dc_RM_simpler_107 : decode prog_14_method_51_code 107 = .ok (.getfield 26, 3) := by decide +kernel
theorem dc_RM_simpler_110 : decode prog_14_method_51_code 110 = .ok (.iload_n 1, 1) := by decide +kernel
theorem dc_RM_simpler_111 : decode prog_14_method_51_code 111 = .ok (.iaload, 1) := by decide +kernel
theorem dc_RM_simpler_112 : decode prog_14_method_51_code 112 = .ok (.imul, 1) := by decide +kernel
theorem dc_RM_simpler_113 : decode prog_14_method_51_code 113 = .ok (.if_icmp .lt 14, 3) := by decide +kernel
theorem dc_RM_simpler_116 : decode prog_14_method_51_code 116 = .ok (.aload_n 0, 1) := by decide +kernel
theorem dc_RM_simpler_117 : decode prog_14_method_51_code 117 = .ok (.getfield 266, 3) := by decide +kernel
theorem dc_RM_simpler_120 : decode prog_14_method_51_code 120 = .ok (.iload 4, 2) := by decide +kernel
theorem dc_RM_simpler_122 : decode prog_14_method_51_code 122 = .ok (.iconst 1, 1) := by decide +kernel
theorem dc_RM_simpler_123 : decode prog_14_method_51_code 123 = .ok (.iadd, 1) := by decide +kernel
theorem dc_RM_simpler_124 : decode prog_14_method_51_code 124 = .ok (.if_icmp .ge 6, 3) := by decide +kernel
theorem dc_RM_simpler_127 : decode prog_14_method_51_code 127 = .ok (.bipush (-3), 2) := by decide +kernel
theorem dc_RM_simpler_129 : decode prog_14_method_51_code 129 = .ok (.ireturn, 1) := by decide +kernel
theorem dc_RM_simpler_130 : decode prog_14_method_51_code 130 = .ok (.iconst (-1), 1) := by decide +kernel
theorem dc_RM_simpler_131 : decode prog_14_method_51_code 131 = .ok (.istore 6, 2) := by decide +kernel
theorem dc_RM_simpler_133 : decode prog_14_method_51_code 133 = .ok (.iconst (-1), 1) := by decide +kernel
theorem dc_RM_simpler_134 : decode prog_14_method_51_code 134 = .ok (.istore 7, 2) := by decide +kernel
theorem dc_RM_simpler_136 : decode prog_14_method_51_code 136 = .ok (.lconst 0, 1) := by decide +kernel
theorem dc_RM_simpler_137 : decode prog_14_method_51_code 137 = .ok (.lstore 8, 2) := by decide +kernel
theorem dc_RM_simpler_139 : decode prog_14_method_51_code 139 = .ok (.lconst 0, 1) := by decide +kernel
theorem dc_RM_simpler_140 : decode prog_14_method_51_code 140 = .ok (.lstore 10, 2) := by decide +kernel
theorem dc_RM_simpler_142 : decode prog_14_method_51_code 142 = .ok (.lconst 0, 1) := by decide +kernel
theorem dc_RM_simpler_143 : decode prog_14_method_51_code 143 = .ok (.lstore 12, 2) := by decide +kernel
theorem dc_RM_simpler_145 : decode prog_14_method_51_code 145 = .ok (.iconst 0, 1) := by decide +kernel
theorem dc_RM_simpler_146 : decode prog_14_method_51_code 146 = .ok (.istore 14, 2) := by decide +kernel
theorem dc_RM_simpler_148 : decode prog_14_method_51_code 148 = .ok (.iload 14, 2) := by decide +kernel
theorem dc_RM_simpler_150 : decode prog_14_method_51_code 150 = .ok (.aload_n 0, 1) := by decide +kernel
theorem dc_RM_simpler_151 : decode prog_14_method_51_code 151 = .ok (.getfield 266, 3) := by decide +kernel
theorem dc_RM_simpler_154 : decode prog_14_method_51_code 154 = .ok (.if_icmp .ge 154, 3) := by decide +kernel
theorem dc_RM_simpler_157 : decode prog_14_method_51_code 157 = .ok (.iload 14, 2) := by decide +kernel
theorem dc_RM_simpler_159 : decode prog_14_method_51_code 159 = .ok (.istore 15, 2) := by decide +kernel
theorem dc_RM_simpler_161 : decode prog_14_method_51_code 161 = .ok (.iload 15, 2) := by decide +kernel
theorem dc_RM_simpler_163 : decode prog_14_method_51_code 163 = .ok (.aload_n 0, 1) := by decide +kernel
theorem dc_RM_simpler_164 : decode prog_14_method_51_code 164 = .ok (.getfield 266, 3) := by decide +kernel
theorem dc_RM_simpler_167 : decode prog_14_method_51_code 167 = .ok (.if_icmp .ge 135, 3) := by decide +kernel
theorem dc_RM_simpler_170 : decode prog_14_method_51_code 170 = .ok (.iload 4, 2) := by decide +kernel
theorem dc_RM_simpler_172 : decode prog_14_method_51_code 172 = .ok (.iconst 1, 1) := by decide +kernel
theorem dc_RM_simpler_173 : decode prog_14_method_51_code 173 = .ok (.if_icmp .ne 7, 3) := by decide +kernel
theorem dc_RM_simpler_176 : decode prog_14_method_51_code 176 = .ok (.iconst 1, 1) := by decide +kernel
theorem dc_RM_simpler_177 : decode prog_14_method_51_code 177 = .ok (.goto 4, 3) := by decide +kernel
theorem dc_RM_simpler_180 : decode prog_14_method_51_code 180 = .ok (.iconst 0, 1) := by decide +kernel
theorem dc_RM_simpler_181 : decode prog_14_method_51_code 181 = .ok (.iload 14, 2) := by decide +kernel
theorem dc_RM_simpler_183 : decode prog_14_method_51_code 183 = .ok (.iload 15, 2) := by decide +kernel
theorem dc_RM_simpler_185 : decode prog_14_method_51_code 185 = .ok (.if_icmp .ne 7, 3) := by decide +kernel
theorem dc_RM_simpler_188 : decode prog_14_method_51_code 188 = .ok (.iconst 1, 1) := by decide +kernel
theorem dc_RM_simpler_189 : decode prog_14_method_51_code 189 = .ok (.goto 4, 3) := by decide +kernel
theorem dc_RM_simpler_192 : decode prog_14_method_51_code 192 = .ok (.iconst 0, 1) := by decide +kernel
theorem dc_RM_simpler_193 : decode prog_14_method_51_code 193 = .ok (.if_icmp .ne 103, 3) := by decide +kernel
theorem dc_RM_simpler_196 : decode prog_14_method_51_code 196 = .ok (.aload_n 0, 1) := by decide +kernel
theorem dc_RM_simpler_197 : decode prog_14_method_51_code 197 = .ok (.iload 14, 2) := by decide +kernel
theorem dc_RM_simpler_199 : decode prog_14_method_51_code 199 = .ok (.iload 15, 2) := by decide +kernel
theorem dc_RM_simpler_201 : decode prog_14_method_51_code 201 = .ok (.invokevirtual 269, 3) := by decide +kernel
theorem dc_RM_simpler_204 : decode prog_14_method_51_code 204 = .ok (.aload_n 0, 1) := by decide +kernel
theorem dc_RM_simpler_205 : decode prog_14_method_51_code 205 = .ok (.iload_n 2, 1) := by decide +kernel
theorem dc_RM_simpler_206 : decode prog_14_method_51_code 206 = .ok (.invokevirtual 191, 3) := by decide +kernel
theorem dc_RM_simpler_209 : decode prog_14_method_51_code 209 = .ok (.aload_n 0, 1) := by decide +kernel
theorem dc_RM_simpler_210 : decode prog_14_method_51_code 210 = .ok (.iload_n 3, 1) := by decide +kernel
theorem dc_RM_simpler_211 : decode prog_14_method_51_code 211 = .ok (.aload_n 0, 1) := by decide +kernel
theorem dc_RM_simpler_212 : decode prog_14_method_51_code 212 = .ok (.getfield 26, 3) := by decide +kernel
theorem dc_RM_simpler_215 : decode prog_14_method_51_code 215 = .ok (.iload_n 1, 1) := by decide +kernel
theorem dc_RM_simpler_216 : decode prog_14_method_51_code 216 = .ok (.iaload, 1) := by decide +kernel
theorem dc_RM_simpler_217 : decode prog_14_method_51_code 217 = .ok (.invokevirtual 211, 3) := by decide +kernel
theorem dc_RM_simpler_220 : decode prog_14_method_51_code 220 = .ok (.aload_n 0, 1) := by decide +kernel
theorem dc_RM_simpler_221 : decode prog_14_method_51_code 221 = .ok (.lload 8, 2) := by decide +kernel
theorem dc_RM_simpler_223 : decode prog_14_method_51_code 223 = .ok (.putfield 195, 3) := by decide +kernel
theorem dc_RM_simpler_226 : decode prog_14_method_51_code 226 = .ok (.aload_n 0, 1) := by decide +kernel
theorem dc_RM_simpler_227 : decode prog_14_method_51_code 227 = .ok (.lload 10, 2) := by decide +kernel
theorem dc_RM_simpler_229 : decode prog_14_method_51_code 229 = .ok (.putfield 199, 3) := by decide +kernel
theorem dc_RM_simpler_232 : decode prog_14_method_51_code 232 = .ok (.aload_n 0, 1) := by decide +kernel
theorem dc_RM_simpler_233 : decode prog_14_method_51_code 233 = .ok (.lload 12, 2) := by decide +kernel
theorem dc_RM_simpler_235 : decode prog_14_method_51_code 235 = .ok (.putfield 202, 3) := by decide +kernel
theorem dc_RM_simpler_238 : decode prog_14_method_51_code 238 = .ok (.iload 6, 2) := by decide +kernel
theorem dc_RM_simpler_240 : decode prog_14_method_51_code 240 = .ok (.iconst (-1), 1) := by decide +kernel
theorem dc_RM_simpler_241 : decode prog_14_method_51_code 241 = .ok (.if_icmp .eq 14, 3) := by decide +kernel
theorem dc_RM_simpler_244 : decode prog_14_method_51_code 244 = .ok (.aload_n 0, 1) := by decide +kernel
theorem dc_RM_simpler_245 : decode prog_14_method_51_code 245 = .ok (.bipush 41, 2) := by decide +kernel
theorem dc_RM_simpler_247 : decode prog_14_method_51_code 247 = .ok (.iload_n 3, 1) := by decide +kernel
theorem dc_RM_simpler_248 : decode prog_14_method_51_code 248 = .ok (.imul, 1) := by decide +kernel
theorem dc_RM_simpler_249 : decode prog_14_method_51_code 249 = .ok (.invokevirtual 208, 3) := by decide +kernel
theorem dc_RM_simpler_252 : decode prog_14_method_51_code 252 = .ok (.ifCond .le 44, 3) := by decide +kernel
theorem dc_RM_simpler_255 : decode prog_14_method_51_code 255 = .ok (.iload 14, 2) := by decide +kernel
theorem dc_RM_simpler_257 : decode prog_14_method_51_code 257 = .ok (.istore 6, 2) := by decide +kernel
theorem dc_RM_simpler_259 : decode prog_14_method_51_code 259 = .ok (.iload 15, 2) := by decide +kernel
theorem dc_RM_simpler_261 : decode prog_14_method_51_code 261 = .ok (.istore 7, 2) := by decide +kernel
theorem dc_RM_simpler_263 : decode prog_14_method_51_code 263 = .ok (.aload_n 0, 1) := by decide +kernel
theorem dc_RM_simpler_264 : decode prog_14_method_51_code 264 = .ok (.getfield 51, 3) := by decide +kernel
theorem dc_RM_simpler_267 : decode prog_14_method_51_code 267 = .ok (.bipush 41, 2) := by decide +kernel
theorem dc_RM_simpler_269 : decode prog_14_method_51_code 269 = .ok (.iload_n 3, 1) := by decide +kernel
theorem dc_RM_simpler_270 : decode prog_14_method_51_code 270 = .ok (.imul, 1) := by decide +kernel
theorem dc_RM_simpler_271 : decode prog_14_method_51_code 271 = .ok (.laload, 1) := by decide +kernel
theorem dc_RM_simpler_272 : decode prog_14_method_51_code 272 = .ok (.lstore 8, 2) := by decide +kernel
theorem dc_RM_simpler_274 : decode prog_14_method_51_code 274 = .ok (.aload_n 0, 1) := by decide +kernel
theorem dc_RM_simpler_275 : decode prog_14_method_51_code 275 = .ok (.getfield 54, 3) := by decide +kernel
theorem dc_RM_simpler_278 : decode prog_14_method_51_code 278 = .ok (.bipush 41, 2) := by decide +kernel
theorem dc_RM_simpler_280 : decode prog_14_method_51_code 280 = .ok (.iload_n 3, 1) := by decide +kernel
theorem dc_RM_simpler_281 : decode prog_14_method_51_code 281 = .ok (.imul, 1) := by decide +kernel
theorem dc_RM_simpler_282 : decode prog_14_method_51_code 282 = .ok (.laload, 1) := by decide +kernel
theorem dc_RM_simpler_283 : decode prog_14_method_51_code 283 = .ok (.lstore 10, 2) := by decide +kernel
theorem dc_RM_simpler_285 : decode prog_14_method_51_code 285 = .ok (.aload_n 0, 1) := by decide +kernel
theorem dc_RM_simpler_286 : decode prog_14_method_51_code 286 = .ok (.getfield 57, 3) := by decide +kernel
theorem dc_RM_simpler_289 : decode prog_14_method_51_code 289 = .ok (.bipush 41, 2) := by decide +kernel
theorem dc_RM_simpler_291 : decode prog_14_method_51_code 291 = .ok (.iload_n 3, 1) := by decide +kernel
theorem dc_RM_simpler_292 : decode prog_14_method_51_code 292 = .ok (.imul, 1) := by decide +kernel
theorem dc_RM_simpler_293 : decode prog_14_method_51_code 293 = .ok (.laload, 1) := by decide +kernel
theorem dc_RM_simpler_294 : decode prog_14_method_51_code 294 = .ok (.lstore 12, 2) := by decide +kernel
theorem dc_RM_simpler_296 : decode prog_14_method_51_code 296 = .ok (.iinc 15 1, 3) := by decide +kernel
theorem dc_RM_simpler_299 : decode prog_14_method_51_code 299 = .ok (.goto (-138), 3) := by decide +kernel
theorem dc_RM_simpler_302 : decode prog_14_method_51_code 302 = .ok (.iinc 14 1, 3) := by decide +kernel
theorem dc_RM_simpler_305 : decode prog_14_method_51_code 305 = .ok (.goto (-157), 3) := by decide +kernel
theorem dc_RM_simpler_308 : decode prog_14_method_51_code 308 = .ok (.aload_n 0, 1) := by decide +kernel
theorem dc_RM_simpler_309 : decode prog_14_method_51_code 309 = .ok (.getfield 75, 3) := by decide +kernel
theorem dc_RM_simpler_312 : decode prog_14_method_51_code 312 = .ok (.iload 5, 2) := by decide +kernel
theorem dc_RM_simpler_314 : decode prog_14_method_51_code 314 = .ok (.ifCond .ne 8, 3) := by decide +kernel
theorem dc_RM_simpler_317 : decode prog_14_method_51_code 317 = .ok (.iload 6, 2) := by decide +kernel
theorem dc_RM_simpler_319 : decode prog_14_method_51_code 319 = .ok (.goto 5, 3) := by decide +kernel
theorem dc_RM_simpler_322 : decode prog_14_method_51_code 322 = .ok (.iload 7, 2) := by decide +kernel
theorem dc_RM_simpler_324 : decode prog_14_method_51_code 324 = .ok (.iaload, 1) := by decide +kernel
theorem dc_RM_simpler_325 : decode prog_14_method_51_code 325 = .ok (.ireturn, 1) := by decide +kernel
theorem w_RM_simpler_0 {G : GC} {d : Nat} {P : PT} {I : MI} {J : MJ} {x1 : Int32} {x2 : Int32} {x3 : Int32} {x4 : Int32} {x5 : Int32} (k1 : ((f_RM_isCut x1 x2 x3) = 0) → Go G (fr G m_RM_simpler (d + 4) P) 32 [none, none, none, none, none, none, none, none, none, none, none, none, none, none, none, none] [] I J) (k2 : (¬ ((f_RM_isCut x1 x2 x3) = 0)) → ((f_RM_in x4 1 2) = 0) → Go G (fr G m_RM_simpler (d + 4) P) 32 [none, none, none, none, none, none, none, none, none, none, none, none, none, none, none, none] [] I J) (k3 : (¬ ((f_RM_isCut x1 x2 x3) = 0)) → (¬ ((f_RM_in x4 1 2) = 0)) → (¬ (f_RM_in x5 0 (x4 - 1)) = 0) → Ct G (d + 3) m_RM_pointsBy [.ref 67, .int x1, .int (I 67 5)] (fun r I' J' => Go G (fr G m_RM_simpler (d + 4) P) 44 [some (.ref 67), some (.int x1), some (.int x2), some (.int x3), some (.int x4), some (.int x5), none, none, none, none, none, none, none, none, none, none] (r.toList ++ []) I' J') I J) (k4 : (¬ ((f_RM_isCut x1 x2 x3) = 0)) → (¬ ((f_RM_in x4 1 2) = 0)) → ((f_RM_in x5 0 (x4 - 1)) = 0) → Go G (fr G m_RM_simpler (d + 4) P) 32 [none, none, none, none, none, none, none, none, none, none, none, none, none, none, none, none] [] I J) : Go G (fr G m_RM_simpler (d + 4) P) 0 [some (.ref 67), some (.int x1), some (.int x2), some (.int x3), some (.int x4), some (.int x5), none, none, none, none, none, none, none, none, none, none] [] I J := by
  refine g_iload_n dc_RM_simpler_0 rfl rfl rfl ?_
  refine g_iload_n dc_RM_simpler_1 rfl rfl rfl ?_
  refine g_iload_n dc_RM_simpler_2 rfl rfl rfl ?_
  refine g_callS (M := m_RM_isCut) (As := [.int x1, .int x2, .int x3]) (rest := []) ok_RM_isCut st_RM_isCut ml_RM_217 rfl rfl (Nat.le_of_ble_eq_true rfl) dc_RM_simpler_3 rfl rOk_fr (c_RM_isCut ?_)
  show Go G (fr G m_RM_simpler (d + 4) P) 6 [some (.ref 67), some (.int x1), some (.int x2), some (.int x3), some (.int x4), some (.int x5), none, none, none, none, none, none, none, none, none, none] [.int (f_RM_isCut x1 x2 x3)] I J
  refine g_if_eq (tgt := 32) dc_RM_simpler_6 rfl (by decide) (fun c1 => ?_) (fun c1 => ?_)
  · refine g_weak [none, none, none, none, none, none, none, none, none, none, none, none, none, none, none, none] trivial ?_
    exact (k1 c1)
  · refine g_iload dc_RM_simpler_9 rfl rfl ?_
    refine g_iconst (v := 1) dc_RM_simpler_11 rfl (by decide) ?_
    refine g_iconst (v := 2) dc_RM_simpler_12 rfl (by decide) ?_
    refine g_callS (M := m_RM_in) (As := [.int x4, .int 1, .int 2]) (rest := []) ok_RM_in st_RM_in ml_RM_112 rfl rfl (Nat.le_of_ble_eq_true rfl) dc_RM_simpler_13 rfl rOk_fr (c_RM_in ?_)
    show Go G (fr G m_RM_simpler (d + 4) P) 16 [some (.ref 67), some (.int x1), some (.int x2), some (.int x3), some (.int x4), some (.int x5), none, none, none, none, none, none, none, none, none, none] [.int (f_RM_in x4 1 2)] I J
    refine g_if_eq (tgt := 32) dc_RM_simpler_16 rfl (by decide) (fun c2 => ?_) (fun c2 => ?_)
    · refine g_weak [none, none, none, none, none, none, none, none, none, none, none, none, none, none, none, none] trivial ?_
      exact (k2 c1 c2)
    · refine g_iload dc_RM_simpler_19 rfl rfl ?_
      refine g_iconst (v := 0) dc_RM_simpler_21 rfl (by decide) ?_
      refine g_iload dc_RM_simpler_22 rfl rfl ?_
      refine g_iconst (v := 1) dc_RM_simpler_24 rfl (by decide) ?_
      refine g_isub dc_RM_simpler_25 rfl ?_
      refine g_callS (M := m_RM_in) (As := [.int x5, .int 0, .int (x4 - 1)]) (rest := []) ok_RM_in st_RM_in ml_RM_112 rfl rfl (Nat.le_of_ble_eq_true rfl) dc_RM_simpler_26 rfl rOk_fr (c_RM_in ?_)
      show Go G (fr G m_RM_simpler (d + 4) P) 29 [some (.ref 67), some (.int x1), some (.int x2), some (.int x3), some (.int x4), some (.int x5), none, none, none, none, none, none, none, none, none, none] [.int (f_RM_in x5 0 (x4 - 1))] I J
      refine g_if_ne (tgt := 35) dc_RM_simpler_29 rfl (by decide) (fun c3 => ?_) (fun c3 => ?_)
      · refine g_aload_n dc_RM_simpler_35 rfl rfl rfl ?_
        refine g_iload_n dc_RM_simpler_36 rfl rfl rfl ?_
        refine g_aload_n dc_RM_simpler_37 rfl rfl rfl ?_
        refine g_get (C := "LevelBreaksModel") (T := T_RM) (N := 45) (k := 5) (v := .int (I 67 5)) sh_67 (by decide) rfl rfl i_RM (by decide) fl_RM_22 (Or.inl rfl) rfl dc_RM_simpler_38 rfl ?_
        exact g_callV (T := T_RM) (N := 45) (As := [.int x1, .int (I 67 5)]) (rest := []) ok_RM_pointsBy in_RM_pointsBy se_RM_pointsBy ml_RM_148 sh_67 (by decide) rfl rfl rfl (Nat.le_of_ble_eq_true rfl) dc_RM_simpler_41 rfl rOk_fr (k3 c1 c2 c3)
      · refine g_weak [none, none, none, none, none, none, none, none, none, none, none, none, none, none, none, none] trivial ?_
        exact (k4 c1 c2 c3)
theorem w_RM_simpler_32 {G : GC} {d : Nat} {P : PT} {I : MI} {J : MJ}  (q1 : P (some (.int (-2))) I J) : Go G (fr G m_RM_simpler (d + 4) P) 32 [none, none, none, none, none, none, none, none, none, none, none, none, none, none, none, none] [] I J := by
  refine g_bipush (v := (-2)) dc_RM_simpler_32 rfl (by decide) ?_
  exact g_iret rfl dc_RM_simpler_34 q1
theorem w_RM_simpler_44 {G : GC} {d : Nat} {P : PT} {I : MI} {J : MJ} {x1 : Int32} {x2 : Int32} {x3 : Int32} {x4 : Int32} {x5 : Int32} (k1 : Go G (fr G m_RM_simpler (d + 4) P) 55 [some (.ref 67), some (.int x1), some (.int x2), some (.int x3), some (.int x4), some (.int x5), some (.int 0), none, none, none, none, none, none, none, none, none] [] (u2 I 67 25 (I 67 7)) J) : Go G (fr G m_RM_simpler (d + 4) P) 44 [some (.ref 67), some (.int x1), some (.int x2), some (.int x3), some (.int x4), some (.int x5), none, none, none, none, none, none, none, none, none, none] [] I J := by
  refine g_aload_n dc_RM_simpler_44 rfl rfl rfl ?_
  refine g_aload_n dc_RM_simpler_45 rfl rfl rfl ?_
  refine g_get (C := "LevelBreaksModel") (T := T_RM) (N := 45) (k := 7) (v := .int (I 67 7)) sh_67 (by decide) rfl rfl i_RM (by decide) fl_RM_145 (Or.inl rfl) rfl dc_RM_simpler_46 rfl ?_
  refine g_putI (C := "LevelBreaksModel") (T := T_RM) (N := 45) (k := 25) (ty := t_RM) sh_67 (by decide) rfl rfl i_RM p_RM n_RM (by decide) fl_RM_266 (Or.inl rfl) rfl (by decide) dc_RM_simpler_49 rfl ?_
  refine g_iconst (v := 0) dc_RM_simpler_52 rfl (by decide) ?_
  refine g_istore (L' := [some (.ref 67), some (.int x1), some (.int x2), some (.int x3), some (.int x4), some (.int x5), some (.int 0), none, none, none, none, none, none, none, none, none]) dc_RM_simpler_53 rfl (Nat.le_of_ble_eq_true rfl) rfl ?_
  exact k1
theorem w_RM_simpler_55 {G : GC} {d : Nat} {P : PT} {I : MI} {J : MJ} {x1 : Int32} {x2 : Int32} {x3 : Int32} {x4 : Int32} {x5 : Int32} {x6 : Int32} (b1 : ((I 67 7) ≤ x6) → vp_in x1 4) (k2 : ((I 67 7) ≤ x6) → (((I 67 25) - x4) < (x3 * (I 72 x1.toNatClampNeg))) → Go G (fr G m_RM_simpler (d + 4) P) 127 [none, none, none, none, none, none, none, none, none, none, none, none, none, none, none, none] [] I J) (k3 : ((I 67 7) ≤ x6) → (¬ (((I 67 25) - x4) < (x3 * (I 72 x1.toNatClampNeg)))) → ((x4 + 1) ≤ (I 67 25)) → Go G (fr G m_RM_simpler (d + 4) P) 148 [some (.ref 67), some (.int x1), some (.int x2), some (.int x3), some (.int x4), some (.int x5), some (.int (-1)), some (.int (-1)), some (.long 0), none, some (.long 0), none, some (.long 0), none, some (.int 0), none] [] I J) (k4 : ((I 67 7) ≤ x6) → (¬ (((I 67 25) - x4) < (x3 * (I 72 x1.toNatClampNeg)))) → (¬ ((x4 + 1) ≤ (I 67 25))) → Go G (fr G m_RM_simpler (d + 4) P) 127 [none, none, none, none, none, none, none, none, none, none, none, none, none, none, none, none] [] I J) (b5 : (¬ ((I 67 7) ≤ x6)) → vp_in x6 40) (k6 : (¬ ((I 67 7) ≤ x6)) → Go G (fr G m_RM_simpler (d + 4) P) 55 [some (.ref 67), some (.int x1), some (.int x2), some (.int x3), some (.int x4), some (.int x5), some (.int (x6 + 1)), none, none, none, none, none, none, none, none, none] [] (u2 (u2 I 87 x6.toNatClampNeg (I 73 x6.toNatClampNeg)) 88 x6.toNatClampNeg (I 74 x6.toNatClampNeg)) J) : Go G (fr G m_RM_simpler (d + 4) P) 55 [some (.ref 67), some (.int x1), some (.int x2), some (.int x3), some (.int x4), some (.int x5), some (.int x6), none, none, none, none, none, none, none, none, none] [] I J := by
  refine g_iload dc_RM_simpler_55 rfl rfl ?_
  refine g_aload_n dc_RM_simpler_57 rfl rfl rfl ?_
  refine g_get (C := "LevelBreaksModel") (T := T_RM) (N := 45) (k := 7) (v := .int (I 67 7)) sh_67 (by decide) rfl rfl i_RM (by decide) fl_RM_145 (Or.inl rfl) rfl dc_RM_simpler_58 rfl ?_
  refine g_ic_ge (tgt := 98) dc_RM_simpler_61 rfl (by decide) (fun c1 => ?_) (fun c1 => ?_)
  · refine g_aload_n dc_RM_simpler_98 rfl rfl rfl ?_
    refine g_get (C := "LevelBreaksModel") (T := T_RM) (N := 45) (k := 25) (v := .int (I 67 25)) sh_67 (by decide) rfl rfl i_RM (by decide) fl_RM_266 (Or.inl rfl) rfl dc_RM_simpler_99 rfl ?_
    refine g_iload dc_RM_simpler_102 rfl rfl ?_
    refine g_isub dc_RM_simpler_104 rfl ?_
    refine g_iload_n dc_RM_simpler_105 rfl rfl rfl ?_
    refine g_aload_n dc_RM_simpler_106 rfl rfl rfl ?_
    refine g_get (C := "LevelBreaksModel") (T := T_RM) (N := 45) (k := 6) (v := .ref 72) sh_67 (by decide) rfl rfl i_RM (by decide) fl_RM_26 (Or.inl rfl) rfl dc_RM_simpler_107 rfl ?_
    refine g_iload_n dc_RM_simpler_110 rfl rfl rfl ?_
    refine g_ialdv (v := (I 72 x1.toNatClampNeg)) sh_72 (b1 c1) rfl dc_RM_simpler_111 rfl ?_
    refine g_imul dc_RM_simpler_112 rfl ?_
    refine g_ic_lt (tgt := 127) dc_RM_simpler_113 rfl (by decide) (fun c2 => ?_) (fun c2 => ?_)
    · refine g_weak [none, none, none, none, none, none, none, none, none, none, none, none, none, none, none, none] trivial ?_
      exact (k2 c1 c2)
    · refine g_aload_n dc_RM_simpler_116 rfl rfl rfl ?_
      refine g_get (C := "LevelBreaksModel") (T := T_RM) (N := 45) (k := 25) (v := .int (I 67 25)) sh_67 (by decide) rfl rfl i_RM (by decide) fl_RM_266 (Or.inl rfl) rfl dc_RM_simpler_117 rfl ?_
      refine g_iload dc_RM_simpler_120 rfl rfl ?_
      refine g_iconst (v := 1) dc_RM_simpler_122 rfl (by decide) ?_
      refine g_iadd dc_RM_simpler_123 rfl ?_
      refine g_ic_ge (tgt := 130) dc_RM_simpler_124 rfl (by decide) (fun c3 => ?_) (fun c3 => ?_)
      · refine g_iconst (v := (-1)) dc_RM_simpler_130 rfl (by decide) ?_
        refine g_istore (L' := [some (.ref 67), some (.int x1), some (.int x2), some (.int x3), some (.int x4), some (.int x5), some (.int (-1)), none, none, none, none, none, none, none, none, none]) dc_RM_simpler_131 rfl (Nat.le_of_ble_eq_true rfl) rfl ?_
        refine g_iconst (v := (-1)) dc_RM_simpler_133 rfl (by decide) ?_
        refine g_istore (L' := [some (.ref 67), some (.int x1), some (.int x2), some (.int x3), some (.int x4), some (.int x5), some (.int (-1)), some (.int (-1)), none, none, none, none, none, none, none, none]) dc_RM_simpler_134 rfl (Nat.le_of_ble_eq_true rfl) rfl ?_
        refine g_lconst (v := 0) dc_RM_simpler_136 rfl (by decide) ?_
        refine g_lstore (L' := [some (.ref 67), some (.int x1), some (.int x2), some (.int x3), some (.int x4), some (.int x5), some (.int (-1)), some (.int (-1)), some (.long 0), none, none, none, none, none, none, none]) dc_RM_simpler_137 rfl (Nat.le_of_ble_eq_true rfl) rfl ?_
        refine g_lconst (v := 0) dc_RM_simpler_139 rfl (by decide) ?_
        refine g_lstore (L' := [some (.ref 67), some (.int x1), some (.int x2), some (.int x3), some (.int x4), some (.int x5), some (.int (-1)), some (.int (-1)), some (.long 0), none, some (.long 0), none, none, none, none, none]) dc_RM_simpler_140 rfl (Nat.le_of_ble_eq_true rfl) rfl ?_
        refine g_lconst (v := 0) dc_RM_simpler_142 rfl (by decide) ?_
        refine g_lstore (L' := [some (.ref 67), some (.int x1), some (.int x2), some (.int x3), some (.int x4), some (.int x5), some (.int (-1)), some (.int (-1)), some (.long 0), none, some (.long 0), none, some (.long 0), none, none, none]) dc_RM_simpler_143 rfl (Nat.le_of_ble_eq_true rfl) rfl ?_
        refine g_iconst (v := 0) dc_RM_simpler_145 rfl (by decide) ?_
        refine g_istore (L' := [some (.ref 67), some (.int x1), some (.int x2), some (.int x3), some (.int x4), some (.int x5), some (.int (-1)), some (.int (-1)), some (.long 0), none, some (.long 0), none, some (.long 0), none, some (.int 0), none]) dc_RM_simpler_146 rfl (Nat.le_of_ble_eq_true rfl) rfl ?_
        exact (k3 c1 c2 c3)
      · refine g_weak [none, none, none, none, none, none, none, none, none, none, none, none, none, none, none, none] trivial ?_
        exact (k4 c1 c2 c3)
  · refine g_aload_n dc_RM_simpler_64 rfl rfl rfl ?_
    refine g_get (C := "LevelBreaksModel") (T := T_RM) (N := 45) (k := 26) (v := .ref 87) sh_67 (by decide) rfl rfl i_RM (by decide) fl_RM_72 (Or.inl rfl) rfl dc_RM_simpler_65 rfl ?_
    refine g_iload dc_RM_simpler_68 rfl rfl ?_
    refine g_aload_n dc_RM_simpler_70 rfl rfl rfl ?_
    refine g_get (C := "LevelBreaksModel") (T := T_RM) (N := 45) (k := 8) (v := .ref 73) sh_67 (by decide) rfl rfl i_RM (by decide) fl_RM_29 (Or.inl rfl) rfl dc_RM_simpler_71 rfl ?_
    refine g_iload dc_RM_simpler_74 rfl rfl ?_
    refine g_ialdv (v := (I 73 x6.toNatClampNeg)) sh_73 (b5 c1) rfl dc_RM_simpler_76 rfl ?_
    refine g_iast sh_87 (b5 c1) dc_RM_simpler_77 rfl ?_
    refine g_aload_n dc_RM_simpler_78 rfl rfl rfl ?_
    refine g_get (C := "LevelBreaksModel") (T := T_RM) (N := 45) (k := 27) (v := .ref 88) sh_67 (by decide) rfl rfl i_RM (by decide) fl_RM_75 (Or.inl rfl) rfl dc_RM_simpler_79 rfl ?_
    refine g_iload dc_RM_simpler_82 rfl rfl ?_
    refine g_aload_n dc_RM_simpler_84 rfl rfl rfl ?_
    refine g_get (C := "LevelBreaksModel") (T := T_RM) (N := 45) (k := 9) (v := .ref 74) sh_67 (by decide) rfl rfl i_RM (by decide) fl_RM_32 (Or.inl rfl) rfl dc_RM_simpler_85 rfl ?_
    refine g_iload dc_RM_simpler_88 rfl rfl ?_
    refine g_ialdv (v := (I 74 x6.toNatClampNeg)) sh_74 (b5 c1) rfl dc_RM_simpler_90 rfl ?_
    refine g_iast sh_88 (b5 c1) dc_RM_simpler_91 rfl ?_
    refine g_iinc (v := (x6 + 1)) (L' := [some (.ref 67), some (.int x1), some (.int x2), some (.int x3), some (.int x4), some (.int x5), some (.int (x6 + 1)), none, none, none, none, none, none, none, none, none]) dc_RM_simpler_92 rfl rfl (by rw [show Int32.ofInt 1 = 1 from by decide]) (Nat.le_of_ble_eq_true rfl) rfl ?_
    refine g_goto (tgt := 55) dc_RM_simpler_95 (by decide) ?_
    exact (k6 c1)
theorem w_RM_simpler_127 {G : GC} {d : Nat} {P : PT} {I : MI} {J : MJ}  (q1 : P (some (.int (-3))) I J) : Go G (fr G m_RM_simpler (d + 4) P) 127 [none, none, none, none, none, none, none, none, none, none, none, none, none, none, none, none] [] I J := by
  refine g_bipush (v := (-3)) dc_RM_simpler_127 rfl (by decide) ?_
  exact g_iret rfl dc_RM_simpler_129 q1
theorem w_RM_simpler_148 {G : GC} {d : Nat} {P : PT} {I : MI} {J : MJ} {x1 : Int32} {x2 : Int32} {x3 : Int32} {x4 : Int32} {x5 : Int32} {x6 : Int32} {x7 : Int32} {l8 : Int64} {l10 : Int64} {l12 : Int64} {x14 : Int32} (k1 : ((I 67 25) ≤ x14) → (¬ x5 = 0) → Go G (fr G m_RM_simpler (d + 4) P) 324 [none, none, none, none, none, none, none, none, none, none, none, none, none, none, none, none] [.int x7, .ref 88] I J) (k2 : ((I 67 25) ≤ x14) → (x5 = 0) → Go G (fr G m_RM_simpler (d + 4) P) 324 [none, none, none, none, none, none, none, none, none, none, none, none, none, none, none, none] [.int x6, .ref 88] I J) (k3 : (¬ ((I 67 25) ≤ x14)) → Go G (fr G m_RM_simpler (d + 4) P) 161 [some (.ref 67), some (.int x1), some (.int x2), some (.int x3), some (.int x4), some (.int x5), some (.int x6), some (.int x7), some (.long l8), none, some (.long l10), none, some (.long l12), none, some (.int x14), some (.int x14)] [] I J) : Go G (fr G m_RM_simpler (d + 4) P) 148 [some (.ref 67), some (.int x1), some (.int x2), some (.int x3), some (.int x4), some (.int x5), some (.int x6), some (.int x7), some (.long l8), none, some (.long l10), none, some (.long l12), none, some (.int x14), none] [] I J := by
  refine g_iload dc_RM_simpler_148 rfl rfl ?_
  refine g_aload_n dc_RM_simpler_150 rfl rfl rfl ?_
  refine g_get (C := "LevelBreaksModel") (T := T_RM) (N := 45) (k := 25) (v := .int (I 67 25)) sh_67 (by decide) rfl rfl i_RM (by decide) fl_RM_266 (Or.inl rfl) rfl dc_RM_simpler_151 rfl ?_
  refine g_ic_ge (tgt := 308) dc_RM_simpler_154 rfl (by decide) (fun c1 => ?_) (fun c1 => ?_)
  · refine g_aload_n dc_RM_simpler_308 rfl rfl rfl ?_
    refine g_get (C := "LevelBreaksModel") (T := T_RM) (N := 45) (k := 27) (v := .ref 88) sh_67 (by decide) rfl rfl i_RM (by decide) fl_RM_75 (Or.inl rfl) rfl dc_RM_simpler_309 rfl ?_
    refine g_iload dc_RM_simpler_312 rfl rfl ?_
    refine g_if_ne (tgt := 322) dc_RM_simpler_314 rfl (by decide) (fun c2 => ?_) (fun c2 => ?_)
    · refine g_iload dc_RM_simpler_322 rfl rfl ?_
      refine g_weak [none, none, none, none, none, none, none, none, none, none, none, none, none, none, none, none] trivial ?_
      exact (k1 c1 c2)
    · refine g_iload dc_RM_simpler_317 rfl rfl ?_
      refine g_goto (tgt := 324) dc_RM_simpler_319 (by decide) ?_
      refine g_weak [none, none, none, none, none, none, none, none, none, none, none, none, none, none, none, none] trivial ?_
      exact (k2 c1 c2)
  · refine g_iload dc_RM_simpler_157 rfl rfl ?_
    refine g_istore (L' := [some (.ref 67), some (.int x1), some (.int x2), some (.int x3), some (.int x4), some (.int x5), some (.int x6), some (.int x7), some (.long l8), none, some (.long l10), none, some (.long l12), none, some (.int x14), some (.int x14)]) dc_RM_simpler_159 rfl (Nat.le_of_ble_eq_true rfl) rfl ?_
    exact (k3 c1)
theorem w_RM_simpler_161 {G : GC} {d : Nat} {P : PT} {I : MI} {J : MJ} {x1 : Int32} {x2 : Int32} {x3 : Int32} {x4 : Int32} {x5 : Int32} {x6 : Int32} {x7 : Int32} {l8 : Int64} {l10 : Int64} {l12 : Int64} {x14 : Int32} {x15 : Int32} (k1 : ((I 67 25) ≤ x15) → Go G (fr G m_RM_simpler (d + 4) P) 148 [some (.ref 67), some (.int x1), some (.int x2), some (.int x3), some (.int x4), some (.int x5), some (.int x6), some (.int x7), some (.long l8), none, some (.long l10), none, some (.long l12), none, some (.int (x14 + 1)), none] [] I J) (k2 : (¬ ((I 67 25) ≤ x15)) → (¬ x4 = 1) → Go G (fr G m_RM_simpler (d + 4) P) 181 [some (.ref 67), some (.int x1), some (.int x2), some (.int x3), some (.int x4), some (.int x5), some (.int x6), some (.int x7), some (.long l8), none, some (.long l10), none, some (.long l12), none, some (.int x14), some (.int x15)] [.int 0] I J) (k3 : (¬ ((I 67 25) ≤ x15)) → (x4 = 1) → Go G (fr G m_RM_simpler (d + 4) P) 181 [some (.ref 67), some (.int x1), some (.int x2), some (.int x3), some (.int x4), some (.int x5), some (.int x6), some (.int x7), some (.long l8), none, some (.long l10), none, some (.long l12), none, some (.int x14), some (.int x15)] [.int 1] I J) : Go G (fr G m_RM_simpler (d + 4) P) 161 [some (.ref 67), some (.int x1), some (.int x2), some (.int x3), some (.int x4), some (.int x5), some (.int x6), some (.int x7), some (.long l8), none, some (.long l10), none, some (.long l12), none, some (.int x14), some (.int x15)] [] I J := by
  refine g_iload dc_RM_simpler_161 rfl rfl ?_
  refine g_aload_n dc_RM_simpler_163 rfl rfl rfl ?_
  refine g_get (C := "LevelBreaksModel") (T := T_RM) (N := 45) (k := 25) (v := .int (I 67 25)) sh_67 (by decide) rfl rfl i_RM (by decide) fl_RM_266 (Or.inl rfl) rfl dc_RM_simpler_164 rfl ?_
  refine g_ic_ge (tgt := 302) dc_RM_simpler_167 rfl (by decide) (fun c1 => ?_) (fun c1 => ?_)
  · refine g_iinc (v := (x14 + 1)) (L' := [some (.ref 67), some (.int x1), some (.int x2), some (.int x3), some (.int x4), some (.int x5), some (.int x6), some (.int x7), some (.long l8), none, some (.long l10), none, some (.long l12), none, some (.int (x14 + 1)), some (.int x15)]) dc_RM_simpler_302 rfl rfl (by rw [show Int32.ofInt 1 = 1 from by decide]) (Nat.le_of_ble_eq_true rfl) rfl ?_
    refine g_goto (tgt := 148) dc_RM_simpler_305 (by decide) ?_
    refine g_weak [some (.ref 67), some (.int x1), some (.int x2), some (.int x3), some (.int x4), some (.int x5), some (.int x6), some (.int x7), some (.long l8), none, some (.long l10), none, some (.long l12), none, some (.int (x14 + 1)), none] ⟨rfl, ⟨rfl, ⟨rfl, ⟨rfl, ⟨rfl, ⟨rfl, ⟨rfl, ⟨rfl, ⟨rfl, ⟨rfl, ⟨rfl, ⟨rfl, trivial⟩⟩⟩⟩⟩⟩⟩⟩⟩⟩⟩⟩ ?_
    exact (k1 c1)
  · refine g_iload dc_RM_simpler_170 rfl rfl ?_
    refine g_iconst (v := 1) dc_RM_simpler_172 rfl (by decide) ?_
    refine g_ic_ne (tgt := 180) dc_RM_simpler_173 rfl (by decide) (fun c2 => ?_) (fun c2 => ?_)
    · refine g_iconst (v := 0) dc_RM_simpler_180 rfl (by decide) ?_
      exact (k2 c1 c2)
    · refine g_iconst (v := 1) dc_RM_simpler_176 rfl (by decide) ?_
      refine g_goto (tgt := 181) dc_RM_simpler_177 (by decide) ?_
      exact (k3 c1 c2)
theorem w_RM_simpler_181 {G : GC} {d : Nat} {P : PT} {I : MI} {J : MJ} {x1 : Int32} {x2 : Int32} {x3 : Int32} {x4 : Int32} {x5 : Int32} {x6 : Int32} {x7 : Int32} {l8 : Int64} {l10 : Int64} {l12 : Int64} {x14 : Int32} {x15 : Int32} {y0 : Int32} (k1 : (¬ x14 = x15) → Go G (fr G m_RM_simpler (d + 4) P) 193 [some (.ref 67), some (.int x1), some (.int x2), some (.int x3), some (.int x4), some (.int x5), some (.int x6), some (.int x7), some (.long l8), none, some (.long l10), none, some (.long l12), none, some (.int x14), some (.int x15)] [.int 0, .int y0] I J) (k2 : (x14 = x15) → Go G (fr G m_RM_simpler (d + 4) P) 193 [some (.ref 67), some (.int x1), some (.int x2), some (.int x3), some (.int x4), some (.int x5), some (.int x6), some (.int x7), some (.long l8), none, some (.long l10), none, some (.long l12), none, some (.int x14), some (.int x15)] [.int 1, .int y0] I J) : Go G (fr G m_RM_simpler (d + 4) P) 181 [some (.ref 67), some (.int x1), some (.int x2), some (.int x3), some (.int x4), some (.int x5), some (.int x6), some (.int x7), some (.long l8), none, some (.long l10), none, some (.long l12), none, some (.int x14), some (.int x15)] [.int y0] I J := by
  refine g_iload dc_RM_simpler_181 rfl rfl ?_
  refine g_iload dc_RM_simpler_183 rfl rfl ?_
  refine g_ic_ne (tgt := 192) dc_RM_simpler_185 rfl (by decide) (fun c1 => ?_) (fun c1 => ?_)
  · refine g_iconst (v := 0) dc_RM_simpler_192 rfl (by decide) ?_
    exact (k1 c1)
  · refine g_iconst (v := 1) dc_RM_simpler_188 rfl (by decide) ?_
    refine g_goto (tgt := 193) dc_RM_simpler_189 (by decide) ?_
    exact (k2 c1)
theorem w_RM_simpler_193 {G : GC} {d : Nat} {P : PT} {I : MI} {J : MJ} {x1 : Int32} {x2 : Int32} {x3 : Int32} {x4 : Int32} {x5 : Int32} {x6 : Int32} {x7 : Int32} {l8 : Int64} {l10 : Int64} {l12 : Int64} {x14 : Int32} {x15 : Int32} {y0 : Int32} {y1 : Int32} (k1 : (¬ y0 = y1) → Go G (fr G m_RM_simpler (d + 4) P) 296 [some (.ref 67), some (.int x1), some (.int x2), some (.int x3), some (.int x4), some (.int x5), some (.int x6), some (.int x7), some (.long l8), none, some (.long l10), none, some (.long l12), none, some (.int x14), some (.int x15)] [] I J) (k2 : (y0 = y1) → Ct G (d + 3) m_RM_but [.ref 67, .int x14, .int x15] (fun r I' J' => Go G (fr G m_RM_simpler (d + 4) P) 204 [some (.ref 67), some (.int x1), some (.int x2), some (.int x3), some (.int x4), some (.int x5), some (.int x6), some (.int x7), some (.long l8), none, some (.long l10), none, some (.long l12), none, some (.int x14), some (.int x15)] (r.toList ++ []) I' J') I J) : Go G (fr G m_RM_simpler (d + 4) P) 193 [some (.ref 67), some (.int x1), some (.int x2), some (.int x3), some (.int x4), some (.int x5), some (.int x6), some (.int x7), some (.long l8), none, some (.long l10), none, some (.long l12), none, some (.int x14), some (.int x15)] [.int y1, .int y0] I J := by
  refine g_ic_ne (tgt := 296) dc_RM_simpler_193 rfl (by decide) (fun c1 => ?_) (fun c1 => ?_)
  · exact (k1 c1)
  · refine g_aload_n dc_RM_simpler_196 rfl rfl rfl ?_
    refine g_iload dc_RM_simpler_197 rfl rfl ?_
    refine g_iload dc_RM_simpler_199 rfl rfl ?_
    exact g_callV (T := T_RM) (N := 45) (As := [.int x14, .int x15]) (rest := []) ok_RM_but in_RM_but se_RM_but ml_RM_269 sh_67 (by decide) rfl rfl rfl (Nat.le_of_ble_eq_true rfl) dc_RM_simpler_201 rfl rOk_fr (k2 c1)
theorem w_RM_simpler_204 {G : GC} {d : Nat} {P : PT} {I : MI} {J : MJ} {x1 : Int32} {x2 : Int32} {x3 : Int32} {x4 : Int32} {x5 : Int32} {x6 : Int32} {x7 : Int32} {l8 : Int64} {l10 : Int64} {l12 : Int64} {x14 : Int32} {x15 : Int32} (k1 : Ct G (d + 3) m_RM_costs [.ref 67, .int x2] (fun r I' J' => Go G (fr G m_RM_simpler (d + 4) P) 209 [some (.ref 67), some (.int x1), some (.int x2), some (.int x3), some (.int x4), some (.int x5), some (.int x6), some (.int x7), some (.long l8), none, some (.long l10), none, some (.long l12), none, some (.int x14), some (.int x15)] (r.toList ++ []) I' J') I J) : Go G (fr G m_RM_simpler (d + 4) P) 204 [some (.ref 67), some (.int x1), some (.int x2), some (.int x3), some (.int x4), some (.int x5), some (.int x6), some (.int x7), some (.long l8), none, some (.long l10), none, some (.long l12), none, some (.int x14), some (.int x15)] [] I J := by
  refine g_aload_n dc_RM_simpler_204 rfl rfl rfl ?_
  refine g_iload_n dc_RM_simpler_205 rfl rfl rfl ?_
  exact g_callV (T := T_RM) (N := 45) (As := [.int x2]) (rest := []) ok_RM_costs in_RM_costs se_RM_costs ml_RM_191 sh_67 (by decide) rfl rfl rfl (Nat.le_of_ble_eq_true rfl) dc_RM_simpler_206 rfl rOk_fr k1
theorem w_RM_simpler_209 {G : GC} {d : Nat} {P : PT} {I : MI} {J : MJ} {x1 : Int32} {x2 : Int32} {x3 : Int32} {x4 : Int32} {x5 : Int32} {x6 : Int32} {x7 : Int32} {l8 : Int64} {l10 : Int64} {l12 : Int64} {x14 : Int32} {x15 : Int32} (b1 : vp_in x1 4) (k2 : Ct G (d + 3) m_RM_cuts [.ref 67, .int x3, .int (I 72 x1.toNatClampNeg)] (fun r I' J' => Go G (fr G m_RM_simpler (d + 4) P) 220 [some (.ref 67), some (.int x1), some (.int x2), some (.int x3), some (.int x4), some (.int x5), some (.int x6), some (.int x7), some (.long l8), none, some (.long l10), none, some (.long l12), none, some (.int x14), some (.int x15)] (r.toList ++ []) I' J') I J) : Go G (fr G m_RM_simpler (d + 4) P) 209 [some (.ref 67), some (.int x1), some (.int x2), some (.int x3), some (.int x4), some (.int x5), some (.int x6), some (.int x7), some (.long l8), none, some (.long l10), none, some (.long l12), none, some (.int x14), some (.int x15)] [] I J := by
  refine g_aload_n dc_RM_simpler_209 rfl rfl rfl ?_
  refine g_iload_n dc_RM_simpler_210 rfl rfl rfl ?_
  refine g_aload_n dc_RM_simpler_211 rfl rfl rfl ?_
  refine g_get (C := "LevelBreaksModel") (T := T_RM) (N := 45) (k := 6) (v := .ref 72) sh_67 (by decide) rfl rfl i_RM (by decide) fl_RM_26 (Or.inl rfl) rfl dc_RM_simpler_212 rfl ?_
  refine g_iload_n dc_RM_simpler_215 rfl rfl rfl ?_
  refine g_ialdv (v := (I 72 x1.toNatClampNeg)) sh_72 b1 rfl dc_RM_simpler_216 rfl ?_
  exact g_callV (T := T_RM) (N := 45) (As := [.int x3, .int (I 72 x1.toNatClampNeg)]) (rest := []) ok_RM_cuts in_RM_cuts se_RM_cuts ml_RM_211 sh_67 (by decide) rfl rfl rfl (Nat.le_of_ble_eq_true rfl) dc_RM_simpler_217 rfl rOk_fr k2
theorem w_RM_simpler_220 {G : GC} {d : Nat} {P : PT} {I : MI} {J : MJ} {x1 : Int32} {x2 : Int32} {x3 : Int32} {x4 : Int32} {x5 : Int32} {x6 : Int32} {x7 : Int32} {l8 : Int64} {l10 : Int64} {l12 : Int64} {x14 : Int32} {x15 : Int32} (k1 : (x6 = (-1)) → Go G (fr G m_RM_simpler (d + 4) P) 255 [some (.ref 67), some (.int x1), some (.int x2), some (.int x3), some (.int x4), some (.int x5), none, none, none, none, none, none, none, none, some (.int x14), some (.int x15)] [] I (u2 (u2 (u2 J 67 18 l8) 67 19 l10) 67 20 l12)) (k2 : (¬ (x6 = (-1))) → Ct G (d + 3) m_RM_against [.ref 67, .int (41 * x3)] (fun r I' J' => Go G (fr G m_RM_simpler (d + 4) P) 252 [some (.ref 67), some (.int x1), some (.int x2), some (.int x3), some (.int x4), some (.int x5), some (.int x6), some (.int x7), some (.long l8), none, some (.long l10), none, some (.long l12), none, some (.int x14), some (.int x15)] (r.toList ++ []) I' J') I (u2 (u2 (u2 J 67 18 l8) 67 19 l10) 67 20 l12)) : Go G (fr G m_RM_simpler (d + 4) P) 220 [some (.ref 67), some (.int x1), some (.int x2), some (.int x3), some (.int x4), some (.int x5), some (.int x6), some (.int x7), some (.long l8), none, some (.long l10), none, some (.long l12), none, some (.int x14), some (.int x15)] [] I J := by
  refine g_aload_n dc_RM_simpler_220 rfl rfl rfl ?_
  refine g_lload dc_RM_simpler_221 rfl rfl ?_
  refine g_putJ (C := "LevelBreaksModel") (T := T_RM) (N := 45) (k := 18) (ty := t_RM) sh_67 (by decide) rfl rfl i_RM p_RM n_RM (by decide) fl_RM_195 (Or.inl rfl) rfl (by decide) dc_RM_simpler_223 rfl ?_
  refine g_aload_n dc_RM_simpler_226 rfl rfl rfl ?_
  refine g_lload dc_RM_simpler_227 rfl rfl ?_
  refine g_putJ (C := "LevelBreaksModel") (T := T_RM) (N := 45) (k := 19) (ty := t_RM) sh_67 (by decide) rfl rfl i_RM p_RM n_RM (by decide) fl_RM_199 (Or.inl rfl) rfl (by decide) dc_RM_simpler_229 rfl ?_
  refine g_aload_n dc_RM_simpler_232 rfl rfl rfl ?_
  refine g_lload dc_RM_simpler_233 rfl rfl ?_
  refine g_putJ (C := "LevelBreaksModel") (T := T_RM) (N := 45) (k := 20) (ty := t_RM) sh_67 (by decide) rfl rfl i_RM p_RM n_RM (by decide) fl_RM_202 (Or.inl rfl) rfl (by decide) dc_RM_simpler_235 rfl ?_
  refine g_iload dc_RM_simpler_238 rfl rfl ?_
  refine g_iconst (v := (-1)) dc_RM_simpler_240 rfl (by decide) ?_
  refine g_ic_eq (tgt := 255) dc_RM_simpler_241 rfl (by decide) (fun c1 => ?_) (fun c1 => ?_)
  · refine g_weak [some (.ref 67), some (.int x1), some (.int x2), some (.int x3), some (.int x4), some (.int x5), none, none, none, none, none, none, none, none, some (.int x14), some (.int x15)] ⟨rfl, ⟨rfl, ⟨rfl, ⟨rfl, ⟨rfl, ⟨rfl, ⟨rfl, ⟨rfl, trivial⟩⟩⟩⟩⟩⟩⟩⟩ ?_
    exact (k1 c1)
  · refine g_aload_n dc_RM_simpler_244 rfl rfl rfl ?_
    refine g_bipush (v := 41) dc_RM_simpler_245 rfl (by decide) ?_
    refine g_iload_n dc_RM_simpler_247 rfl rfl rfl ?_
    refine g_imul dc_RM_simpler_248 rfl ?_
    exact g_callV (T := T_RM) (N := 45) (As := [.int (41 * x3)]) (rest := []) ok_RM_against in_RM_against se_RM_against ml_RM_208 sh_67 (by decide) rfl rfl rfl (Nat.le_of_ble_eq_true rfl) dc_RM_simpler_249 rfl rOk_fr (k2 c1)
theorem w_RM_simpler_252 {G : GC} {d : Nat} {P : PT} {I : MI} {J : MJ} {x1 : Int32} {x2 : Int32} {x3 : Int32} {x4 : Int32} {x5 : Int32} {x6 : Int32} {x7 : Int32} {l8 : Int64} {l10 : Int64} {l12 : Int64} {x14 : Int32} {x15 : Int32} {y0 : Int32} (k1 : (y0 ≤ 0) → Go G (fr G m_RM_simpler (d + 4) P) 296 [some (.ref 67), some (.int x1), some (.int x2), some (.int x3), some (.int x4), some (.int x5), some (.int x6), some (.int x7), some (.long l8), none, some (.long l10), none, some (.long l12), none, some (.int x14), some (.int x15)] [] I J) (k2 : (¬ (y0 ≤ 0)) → Go G (fr G m_RM_simpler (d + 4) P) 255 [some (.ref 67), some (.int x1), some (.int x2), some (.int x3), some (.int x4), some (.int x5), none, none, none, none, none, none, none, none, some (.int x14), some (.int x15)] [] I J) : Go G (fr G m_RM_simpler (d + 4) P) 252 [some (.ref 67), some (.int x1), some (.int x2), some (.int x3), some (.int x4), some (.int x5), some (.int x6), some (.int x7), some (.long l8), none, some (.long l10), none, some (.long l12), none, some (.int x14), some (.int x15)] [.int y0] I J := by
  refine g_if_le (tgt := 296) dc_RM_simpler_252 rfl (by decide) (fun c1 => ?_) (fun c1 => ?_)
  · exact (k1 c1)
  · refine g_weak [some (.ref 67), some (.int x1), some (.int x2), some (.int x3), some (.int x4), some (.int x5), none, none, none, none, none, none, none, none, some (.int x14), some (.int x15)] ⟨rfl, ⟨rfl, ⟨rfl, ⟨rfl, ⟨rfl, ⟨rfl, ⟨rfl, ⟨rfl, trivial⟩⟩⟩⟩⟩⟩⟩⟩ ?_
    exact (k2 c1)
theorem w_RM_simpler_255 {G : GC} {d : Nat} {P : PT} {I : MI} {J : MJ} {x1 : Int32} {x2 : Int32} {x3 : Int32} {x4 : Int32} {x5 : Int32} {x14 : Int32} {x15 : Int32} (b1 : vp_in (41 * x3) 287) (k2 : Go G (fr G m_RM_simpler (d + 4) P) 296 [some (.ref 67), some (.int x1), some (.int x2), some (.int x3), some (.int x4), some (.int x5), some (.int x14), some (.int x15), some (.long (J 80 (41 * x3).toNatClampNeg)), none, some (.long (J 81 (41 * x3).toNatClampNeg)), none, some (.long (J 82 (41 * x3).toNatClampNeg)), none, some (.int x14), some (.int x15)] [] I J) : Go G (fr G m_RM_simpler (d + 4) P) 255 [some (.ref 67), some (.int x1), some (.int x2), some (.int x3), some (.int x4), some (.int x5), none, none, none, none, none, none, none, none, some (.int x14), some (.int x15)] [] I J := by
  refine g_iload dc_RM_simpler_255 rfl rfl ?_
  refine g_istore (L' := [some (.ref 67), some (.int x1), some (.int x2), some (.int x3), some (.int x4), some (.int x5), some (.int x14), none, none, none, none, none, none, none, some (.int x14), some (.int x15)]) dc_RM_simpler_257 rfl (Nat.le_of_ble_eq_true rfl) rfl ?_
  refine g_iload dc_RM_simpler_259 rfl rfl ?_
  refine g_istore (L' := [some (.ref 67), some (.int x1), some (.int x2), some (.int x3), some (.int x4), some (.int x5), some (.int x14), some (.int x15), none, none, none, none, none, none, some (.int x14), some (.int x15)]) dc_RM_simpler_261 rfl (Nat.le_of_ble_eq_true rfl) rfl ?_
  refine g_aload_n dc_RM_simpler_263 rfl rfl rfl ?_
  refine g_get (C := "LevelBreaksModel") (T := T_RM) (N := 45) (k := 15) (v := .ref 80) sh_67 (by decide) rfl rfl i_RM (by decide) fl_RM_51 (Or.inl rfl) rfl dc_RM_simpler_264 rfl ?_
  refine g_bipush (v := 41) dc_RM_simpler_267 rfl (by decide) ?_
  refine g_iload_n dc_RM_simpler_269 rfl rfl rfl ?_
  refine g_imul dc_RM_simpler_270 rfl ?_
  refine g_laldv (v := (J 80 (41 * x3).toNatClampNeg)) sh_80 b1 rfl dc_RM_simpler_271 rfl ?_
  refine g_lstore (L' := [some (.ref 67), some (.int x1), some (.int x2), some (.int x3), some (.int x4), some (.int x5), some (.int x14), some (.int x15), some (.long (J 80 (41 * x3).toNatClampNeg)), none, none, none, none, none, some (.int x14), some (.int x15)]) dc_RM_simpler_272 rfl (Nat.le_of_ble_eq_true rfl) rfl ?_
  refine g_aload_n dc_RM_simpler_274 rfl rfl rfl ?_
  refine g_get (C := "LevelBreaksModel") (T := T_RM) (N := 45) (k := 16) (v := .ref 81) sh_67 (by decide) rfl rfl i_RM (by decide) fl_RM_54 (Or.inl rfl) rfl dc_RM_simpler_275 rfl ?_
  refine g_bipush (v := 41) dc_RM_simpler_278 rfl (by decide) ?_
  refine g_iload_n dc_RM_simpler_280 rfl rfl rfl ?_
  refine g_imul dc_RM_simpler_281 rfl ?_
  refine g_laldv (v := (J 81 (41 * x3).toNatClampNeg)) sh_81 b1 rfl dc_RM_simpler_282 rfl ?_
  refine g_lstore (L' := [some (.ref 67), some (.int x1), some (.int x2), some (.int x3), some (.int x4), some (.int x5), some (.int x14), some (.int x15), some (.long (J 80 (41 * x3).toNatClampNeg)), none, some (.long (J 81 (41 * x3).toNatClampNeg)), none, none, none, some (.int x14), some (.int x15)]) dc_RM_simpler_283 rfl (Nat.le_of_ble_eq_true rfl) rfl ?_
  refine g_aload_n dc_RM_simpler_285 rfl rfl rfl ?_
  refine g_get (C := "LevelBreaksModel") (T := T_RM) (N := 45) (k := 17) (v := .ref 82) sh_67 (by decide) rfl rfl i_RM (by decide) fl_RM_57 (Or.inl rfl) rfl dc_RM_simpler_286 rfl ?_
  refine g_bipush (v := 41) dc_RM_simpler_289 rfl (by decide) ?_
  refine g_iload_n dc_RM_simpler_291 rfl rfl rfl ?_
  refine g_imul dc_RM_simpler_292 rfl ?_
  refine g_laldv (v := (J 82 (41 * x3).toNatClampNeg)) sh_82 b1 rfl dc_RM_simpler_293 rfl ?_
  refine g_lstore (L' := [some (.ref 67), some (.int x1), some (.int x2), some (.int x3), some (.int x4), some (.int x5), some (.int x14), some (.int x15), some (.long (J 80 (41 * x3).toNatClampNeg)), none, some (.long (J 81 (41 * x3).toNatClampNeg)), none, some (.long (J 82 (41 * x3).toNatClampNeg)), none, some (.int x14), some (.int x15)]) dc_RM_simpler_294 rfl (Nat.le_of_ble_eq_true rfl) rfl ?_
  exact k2
theorem w_RM_simpler_296 {G : GC} {d : Nat} {P : PT} {I : MI} {J : MJ} {x1 : Int32} {x2 : Int32} {x3 : Int32} {x4 : Int32} {x5 : Int32} {x6 : Int32} {x7 : Int32} {l8 : Int64} {l10 : Int64} {l12 : Int64} {x14 : Int32} {x15 : Int32} (k1 : Go G (fr G m_RM_simpler (d + 4) P) 161 [some (.ref 67), some (.int x1), some (.int x2), some (.int x3), some (.int x4), some (.int x5), some (.int x6), some (.int x7), some (.long l8), none, some (.long l10), none, some (.long l12), none, some (.int x14), some (.int (x15 + 1))] [] I J) : Go G (fr G m_RM_simpler (d + 4) P) 296 [some (.ref 67), some (.int x1), some (.int x2), some (.int x3), some (.int x4), some (.int x5), some (.int x6), some (.int x7), some (.long l8), none, some (.long l10), none, some (.long l12), none, some (.int x14), some (.int x15)] [] I J := by
  refine g_iinc (v := (x15 + 1)) (L' := [some (.ref 67), some (.int x1), some (.int x2), some (.int x3), some (.int x4), some (.int x5), some (.int x6), some (.int x7), some (.long l8), none, some (.long l10), none, some (.long l12), none, some (.int x14), some (.int (x15 + 1))]) dc_RM_simpler_296 rfl rfl (by rw [show Int32.ofInt 1 = 1 from by decide]) (Nat.le_of_ble_eq_true rfl) rfl ?_
  refine g_goto (tgt := 161) dc_RM_simpler_299 (by decide) ?_
  exact k1
theorem w_RM_simpler_324 {G : GC} {d : Nat} {P : PT} {I : MI} {J : MJ} {y1 : Int32} (b1 : vp_in y1 40) (q2 : P (some (.int (I 88 y1.toNatClampNeg))) I J) : Go G (fr G m_RM_simpler (d + 4) P) 324 [none, none, none, none, none, none, none, none, none, none, none, none, none, none, none, none] [.int y1, .ref 88] I J := by
  refine g_ialdv (v := (I 88 y1.toNatClampNeg)) sh_88 b1 rfl dc_RM_simpler_324 rfl ?_
  exact g_iret rfl dc_RM_simpler_325 q2
theorem dc_RM_since_0 : decode prog_14_method_47_code 0 = .ok (.iload_n 1, 1) := by decide +kernel
theorem dc_RM_since_1 : decode prog_14_method_47_code 1 = .ok (.iload_n 2, 1) := by decide +kernel
theorem dc_RM_since_2 : decode prog_14_method_47_code 2 = .ok (.iload_n 3, 1) := by decide +kernel
theorem dc_RM_since_3 : decode prog_14_method_47_code 3 = .ok (.invokestatic 217, 3) := by decide +kernel
theorem dc_RM_since_6 : decode prog_14_method_47_code 6 = .ok (.ifCond .ne 6, 3) := by decide +kernel
theorem dc_RM_since_9 : decode prog_14_method_47_code 9 = .ok (.bipush (-2), 2) := by decide +kernel
theorem dc_RM_since_11 : decode prog_14_method_47_code 11 = .ok (.ireturn, 1) := by decide +kernel
theorem dc_RM_since_12 : decode prog_14_method_47_code 12 = .ok (.aload_n 0, 1) := by decide +kernel
theorem dc_RM_since_13 : decode prog_14_method_47_code 13 = .ok (.iload_n 1, 1) := by decide +kernel
theorem dc_RM_since_14 : decode prog_14_method_47_code 14 = .ok (.iload_n 2, 1) := by decide +kernel
theorem dc_RM_since_15 : decode prog_14_method_47_code 15 = .ok (.iload_n 3, 1) := by decide +kernel
theorem dc_RM_since_16 : decode prog_14_method_47_code 16 = .ok (.aload_n 0, 1) := by decide +kernel
theorem dc_RM_since_17 : decode prog_14_method_47_code 17 = .ok (.getfield 22, 3) := by decide +kernel
theorem dc_RM_since_20 : decode prog_14_method_47_code 20 = .ok (.invokevirtual 220, 3) := by decide +kernel
theorem dc_RM_since_23 : decode prog_14_method_47_code 23 = .ok (.ifCond .ne 6, 3) := by decide +kernel
theorem dc_RM_since_26 : decode prog_14_method_47_code 26 = .ok (.bipush (-3), 2) := by decide +kernel
theorem dc_RM_since_28 : decode prog_14_method_47_code 28 = .ok (.ireturn, 1) := by decide +kernel
theorem dc_RM_since_29 : decode prog_14_method_47_code 29 = .ok (.iconst 0, 1) := by decide +kernel
theorem dc_RM_since_30 : decode prog_14_method_47_code 30 = .ok (.istore 4, 2) := by decide +kernel
theorem dc_RM_since_32 : decode prog_14_method_47_code 32 = .ok (.iload 4, 2) := by decide +kernel
theorem dc_RM_since_34 : decode prog_14_method_47_code 34 = .ok (.iload_n 3, 1) := by decide +kernel
theorem dc_RM_since_35 : decode prog_14_method_47_code 35 = .ok (.if_icmp .ge 28, 3) := by decide +kernel
theorem dc_RM_since_38 : decode prog_14_method_47_code 38 = .ok (.aload_n 0, 1) := by decide +kernel
theorem dc_RM_since_39 : decode prog_14_method_47_code 39 = .ok (.getfield 69, 3) := by decide +kernel
theorem dc_RM_since_42 : decode prog_14_method_47_code 42 = .ok (.iload 4, 2) := by decide +kernel
theorem dc_RM_since_44 : decode prog_14_method_47_code 44 = .ok (.aload_n 0, 1) := by decide +kernel
theorem dc_RM_since_45 : decode prog_14_method_47_code 45 = .ok (.getfield 32, 3) := by decide +kernel
theorem dc_RM_since_48 : decode prog_14_method_47_code 48 = .ok (.aload_n 0, 1) := by decide +kernel
theorem dc_RM_since_49 : decode prog_14_method_47_code 49 = .ok (.getfield 60, 3) := by decide +kernel
theorem dc_RM_since_52 : decode prog_14_method_47_code 52 = .ok (.iload 4, 2) := by decide +kernel
theorem dc_RM_since_54 : decode prog_14_method_47_code 54 = .ok (.iaload, 1) := by decide +kernel
theorem dc_RM_since_55 : decode prog_14_method_47_code 55 = .ok (.iaload, 1) := by decide +kernel
theorem dc_RM_since_56 : decode prog_14_method_47_code 56 = .ok (.iastore, 1) := by decide +kernel
theorem dc_RM_since_57 : decode prog_14_method_47_code 57 = .ok (.iinc 4 1, 3) := by decide +kernel
theorem dc_RM_since_60 : decode prog_14_method_47_code 60 = .ok (.goto (-28), 3) := by decide +kernel
theorem dc_RM_since_63 : decode prog_14_method_47_code 63 = .ok (.aload_n 0, 1) := by decide +kernel
theorem dc_RM_since_64 : decode prog_14_method_47_code 64 = .ok (.getfield 22, 3) := by decide +kernel
theorem dc_RM_since_67 : decode prog_14_method_47_code 67 = .ok (.istore 4, 2) := by decide +kernel
theorem dc_RM_since_69 : decode prog_14_method_47_code 69 = .ok (.iconst 1, 1) := by decide +kernel
theorem dc_RM_since_70 : decode prog_14_method_47_code 70 = .ok (.istore 5, 2) := by decide +kernel
theorem dc_RM_since_72 : decode prog_14_method_47_code 72 = .ok (.aload_n 0, 1) := by decide +kernel
theorem dc_RM_since_73 : decode prog_14_method_47_code 73 = .ok (.getfield 116, 3) := by decide +kernel
theorem dc_RM_since_76 : decode prog_14_method_47_code 76 = .ok (.iconst 1, 1) := by decide +kernel
theorem dc_RM_since_77 : decode prog_14_method_47_code 77 = .ok (.isub, 1) := by decide +kernel
theorem dc_RM_since_78 : decode prog_14_method_47_code 78 = .ok (.istore 6, 2) := by decide +kernel
theorem dc_RM_since_80 : decode prog_14_method_47_code 80 = .ok (.iload 6, 2) := by decide +kernel
theorem dc_RM_since_82 : decode prog_14_method_47_code 82 = .ok (.ifCond .lt 66, 3) := by decide +kernel
theorem dc_RM_since_85 : decode prog_14_method_47_code 85 = .ok (.iload 5, 2) := by decide +kernel
theorem dc_RM_since_87 : decode prog_14_method_47_code 87 = .ok (.ifCond .eq 61, 3) := by decide +kernel
theorem dc_RM_since_90 : decode prog_14_method_47_code 90 = .ok (.aload_n 0, 1) := by decide +kernel
theorem dc_RM_since_91 : decode prog_14_method_47_code 91 = .ok (.getfield 9, 3) := by decide +kernel
theorem dc_RM_since_94 : decode prog_14_method_47_code 94 = .ok (.iload 6, 2) := by decide +kernel
theorem dc_RM_since_96 : decode prog_14_method_47_code 96 = .ok (.iaload, 1) := by decide +kernel
theorem dc_RM_since_97 : decode prog_14_method_47_code 97 = .ok (.iload_n 1, 1) := by decide +kernel
theorem dc_RM_since_98 : decode prog_14_method_47_code 98 = .ok (.if_icmp .ne 44, 3) := by decide +kernel
theorem dc_RM_since_101 : decode prog_14_method_47_code 101 = .ok (.aload_n 0, 1) := by decide +kernel
theorem dc_RM_since_102 : decode prog_14_method_47_code 102 = .ok (.getfield 19, 3) := by decide +kernel
theorem dc_RM_since_105 : decode prog_14_method_47_code 105 = .ok (.iload 6, 2) := by decide +kernel
theorem dc_RM_since_107 : decode prog_14_method_47_code 107 = .ok (.iaload, 1) := by decide +kernel
theorem dc_RM_since_108 : decode prog_14_method_47_code 108 = .ok (.aload_n 0, 1) := by decide +kernel
theorem dc_RM_since_109 : decode prog_14_method_47_code 109 = .ok (.getfield 22, 3) := by decide +kernel
theorem dc_RM_since_112 : decode prog_14_method_47_code 112 = .ok (.if_icmp .gt 30, 3) := by decide +kernel
theorem dc_RM_since_115 : decode prog_14_method_47_code 115 = .ok (.aload_n 0, 1) := by decide +kernel
theorem dc_RM_since_116 : decode prog_14_method_47_code 116 = .ok (.getfield 19, 3) := by decide +kernel
theorem dc_RM_since_119 : decode prog_14_method_47_code 119 = .ok (.iload 6, 2) := by decide +kernel
theorem dc_RM_since_121 : decode prog_14_method_47_code 121 = .ok (.iaload, 1) := by decide +kernel
theorem dc_RM_since_122 : decode prog_14_method_47_code 122 = .ok (.istore 4, 2) := by decide +kernel
theorem dc_RM_since_124 : decode prog_14_method_47_code 124 = .ok (.aload_n 0, 1) := by decide +kernel
theorem dc_RM_since_125 : decode prog_14_method_47_code 125 = .ok (.iload_n 1, 1) := by decide +kernel
theorem dc_RM_since_126 : decode prog_14_method_47_code 126 = .ok (.iload_n 2, 1) := by decide +kernel
theorem dc_RM_since_127 : decode prog_14_method_47_code 127 = .ok (.iload_n 3, 1) := by decide +kernel
theorem dc_RM_since_128 : decode prog_14_method_47_code 128 = .ok (.aload_n 0, 1) := by decide +kernel
theorem dc_RM_since_129 : decode prog_14_method_47_code 129 = .ok (.getfield 19, 3) := by decide +kernel
theorem dc_RM_since_132 : decode prog_14_method_47_code 132 = .ok (.iload 6, 2) := by decide +kernel
theorem dc_RM_since_134 : decode prog_14_method_47_code 134 = .ok (.iaload, 1) := by decide +kernel
theorem dc_RM_since_135 : decode prog_14_method_47_code 135 = .ok (.iconst 1, 1) := by decide +kernel
theorem dc_RM_since_136 : decode prog_14_method_47_code 136 = .ok (.isub, 1) := by decide +kernel
theorem dc_RM_since_137 : decode prog_14_method_47_code 137 = .ok (.invokevirtual 258, 3) := by decide +kernel
theorem dc_RM_since_140 : decode prog_14_method_47_code 140 = .ok (.istore 5, 2) := by decide +kernel
theorem dc_RM_since_142 : decode prog_14_method_47_code 142 = .ok (.iinc 6 (-1), 3) := by decide +kernel
theorem dc_RM_since_145 : decode prog_14_method_47_code 145 = .ok (.goto (-65), 3) := by decide +kernel
theorem dc_RM_since_148 : decode prog_14_method_47_code 148 = .ok (.iload 5, 2) := by decide +kernel
theorem dc_RM_since_150 : decode prog_14_method_47_code 150 = .ok (.ifCond .eq 7, 3) := by decide +kernel
theorem dc_RM_since_153 : decode prog_14_method_47_code 153 = .ok (.iconst 0, 1) := by decide +kernel
theorem dc_RM_since_154 : decode prog_14_method_47_code 154 = .ok (.goto 5, 3) := by decide +kernel
theorem dc_RM_since_157 : decode prog_14_method_47_code 157 = .ok (.iload 4, 2) := by decide +kernel
theorem dc_RM_since_159 : decode prog_14_method_47_code 159 = .ok (.ireturn, 1) := by decide +kernel
theorem w_RM_since_0 {G : GC} {d : Nat} {P : PT} {I : MI} {J : MJ} {x1 : Int32} {x2 : Int32} {x3 : Int32} (k1 : (¬ (f_RM_isCut x1 x2 x3) = 0) → Ct G (d + 5) m_RM_finds [.ref 67, .int x1, .int x2, .int x3, .int (I 67 5)] (fun r I' J' => Go G (fr G m_RM_since (d + 6) P) 23 [some (.ref 67), some (.int x1), some (.int x2), some (.int x3), none, none, none] (r.toList ++ []) I' J') I J) (q2 : ((f_RM_isCut x1 x2 x3) = 0) → P (some (.int (-2))) I J) : Go G (fr G m_RM_since (d + 6) P) 0 [some (.ref 67), some (.int x1), some (.int x2), some (.int x3), none, none, none] [] I J := by
  refine g_iload_n dc_RM_since_0 rfl rfl rfl ?_
  refine g_iload_n dc_RM_since_1 rfl rfl rfl ?_
  refine g_iload_n dc_RM_since_2 rfl rfl rfl ?_
  refine g_callS (M := m_RM_isCut) (As := [.int x1, .int x2, .int x3]) (rest := []) ok_RM_isCut st_RM_isCut ml_RM_217 rfl rfl (Nat.le_of_ble_eq_true rfl) dc_RM_since_3 rfl rOk_fr (c_RM_isCut ?_)
  show Go G (fr G m_RM_since (d + 6) P) 6 [some (.ref 67), some (.int x1), some (.int x2), some (.int x3), none, none, none] [.int (f_RM_isCut x1 x2 x3)] I J
  refine g_if_ne (tgt := 12) dc_RM_since_6 rfl (by decide) (fun c1 => ?_) (fun c1 => ?_)
  · refine g_aload_n dc_RM_since_12 rfl rfl rfl ?_
    refine g_iload_n dc_RM_since_13 rfl rfl rfl ?_
    refine g_iload_n dc_RM_since_14 rfl rfl rfl ?_
    refine g_iload_n dc_RM_since_15 rfl rfl rfl ?_
    refine g_aload_n dc_RM_since_16 rfl rfl rfl ?_
    refine g_get (C := "LevelBreaksModel") (T := T_RM) (N := 45) (k := 5) (v := .int (I 67 5)) sh_67 (by decide) rfl rfl i_RM (by decide) fl_RM_22 (Or.inl rfl) rfl dc_RM_since_17 rfl ?_
    exact g_callV (T := T_RM) (N := 45) (As := [.int x1, .int x2, .int x3, .int (I 67 5)]) (rest := []) ok_RM_finds in_RM_finds se_RM_finds ml_RM_220 sh_67 (by decide) rfl rfl rfl (Nat.le_of_ble_eq_true rfl) dc_RM_since_20 rfl rOk_fr (k1 c1)
  · refine g_bipush (v := (-2)) dc_RM_since_9 rfl (by decide) ?_
    exact g_iret rfl dc_RM_since_11 (q2 c1)
theorem w_RM_since_23 {G : GC} {d : Nat} {P : PT} {I : MI} {J : MJ} {x1 : Int32} {x2 : Int32} {x3 : Int32} {y0 : Int32} (k1 : (¬ y0 = 0) → Go G (fr G m_RM_since (d + 6) P) 32 [some (.ref 67), some (.int x1), some (.int x2), some (.int x3), some (.int 0), none, none] [] I J) (q2 : (y0 = 0) → P (some (.int (-3))) I J) : Go G (fr G m_RM_since (d + 6) P) 23 [some (.ref 67), some (.int x1), some (.int x2), some (.int x3), none, none, none] [.int y0] I J := by
  refine g_if_ne (tgt := 29) dc_RM_since_23 rfl (by decide) (fun c1 => ?_) (fun c1 => ?_)
  · refine g_iconst (v := 0) dc_RM_since_29 rfl (by decide) ?_
    refine g_istore (L' := [some (.ref 67), some (.int x1), some (.int x2), some (.int x3), some (.int 0), none, none]) dc_RM_since_30 rfl (Nat.le_of_ble_eq_true rfl) rfl ?_
    exact (k1 c1)
  · refine g_bipush (v := (-3)) dc_RM_since_26 rfl (by decide) ?_
    exact g_iret rfl dc_RM_since_28 (q2 c1)
theorem w_RM_since_32 {G : GC} {d : Nat} {P : PT} {I : MI} {J : MJ} {x1 : Int32} {x2 : Int32} {x3 : Int32} {x4 : Int32} (k1 : (x3 ≤ x4) → Go G (fr G m_RM_since (d + 6) P) 80 [some (.ref 67), some (.int x1), some (.int x2), some (.int x3), some (.int (I 67 5)), some (.int 1), some (.int ((I 67 0) - 1))] [] I J) (b2 : (¬ (x3 ≤ x4)) → vp_in x4 7) (b3 : (¬ (x3 ≤ x4)) → vp_in (I 83 x4.toNatClampNeg) 40) (b4 : (¬ (x3 ≤ x4)) → vp_in x4 6) (k5 : (¬ (x3 ≤ x4)) → Go G (fr G m_RM_since (d + 6) P) 32 [some (.ref 67), some (.int x1), some (.int x2), some (.int x3), some (.int (x4 + 1)), none, none] [] (u2 I 86 x4.toNatClampNeg (I 74 (I 83 x4.toNatClampNeg).toNatClampNeg)) J) : Go G (fr G m_RM_since (d + 6) P) 32 [some (.ref 67), some (.int x1), some (.int x2), some (.int x3), some (.int x4), none, none] [] I J := by
  refine g_iload dc_RM_since_32 rfl rfl ?_
  refine g_iload_n dc_RM_since_34 rfl rfl rfl ?_
  refine g_ic_ge (tgt := 63) dc_RM_since_35 rfl (by decide) (fun c1 => ?_) (fun c1 => ?_)
  · refine g_aload_n dc_RM_since_63 rfl rfl rfl ?_
    refine g_get (C := "LevelBreaksModel") (T := T_RM) (N := 45) (k := 5) (v := .int (I 67 5)) sh_67 (by decide) rfl rfl i_RM (by decide) fl_RM_22 (Or.inl rfl) rfl dc_RM_since_64 rfl ?_
    refine g_istore (L' := [some (.ref 67), some (.int x1), some (.int x2), some (.int x3), some (.int (I 67 5)), none, none]) dc_RM_since_67 rfl (Nat.le_of_ble_eq_true rfl) rfl ?_
    refine g_iconst (v := 1) dc_RM_since_69 rfl (by decide) ?_
    refine g_istore (L' := [some (.ref 67), some (.int x1), some (.int x2), some (.int x3), some (.int (I 67 5)), some (.int 1), none]) dc_RM_since_70 rfl (Nat.le_of_ble_eq_true rfl) rfl ?_
    refine g_aload_n dc_RM_since_72 rfl rfl rfl ?_
    refine g_get (C := "LevelBreaksModel") (T := T_RM) (N := 45) (k := 0) (v := .int (I 67 0)) sh_67 (by decide) rfl rfl i_RM (by decide) fl_RM_116 (Or.inl rfl) rfl dc_RM_since_73 rfl ?_
    refine g_iconst (v := 1) dc_RM_since_76 rfl (by decide) ?_
    refine g_isub dc_RM_since_77 rfl ?_
    refine g_istore (L' := [some (.ref 67), some (.int x1), some (.int x2), some (.int x3), some (.int (I 67 5)), some (.int 1), some (.int ((I 67 0) - 1))]) dc_RM_since_78 rfl (Nat.le_of_ble_eq_true rfl) rfl ?_
    exact (k1 c1)
  · refine g_aload_n dc_RM_since_38 rfl rfl rfl ?_
    refine g_get (C := "LevelBreaksModel") (T := T_RM) (N := 45) (k := 24) (v := .ref 86) sh_67 (by decide) rfl rfl i_RM (by decide) fl_RM_69 (Or.inl rfl) rfl dc_RM_since_39 rfl ?_
    refine g_iload dc_RM_since_42 rfl rfl ?_
    refine g_aload_n dc_RM_since_44 rfl rfl rfl ?_
    refine g_get (C := "LevelBreaksModel") (T := T_RM) (N := 45) (k := 9) (v := .ref 74) sh_67 (by decide) rfl rfl i_RM (by decide) fl_RM_32 (Or.inl rfl) rfl dc_RM_since_45 rfl ?_
    refine g_aload_n dc_RM_since_48 rfl rfl rfl ?_
    refine g_get (C := "LevelBreaksModel") (T := T_RM) (N := 45) (k := 21) (v := .ref 83) sh_67 (by decide) rfl rfl i_RM (by decide) fl_RM_60 (Or.inl rfl) rfl dc_RM_since_49 rfl ?_
    refine g_iload dc_RM_since_52 rfl rfl ?_
    refine g_ialdv (v := (I 83 x4.toNatClampNeg)) sh_83 (b2 c1) rfl dc_RM_since_54 rfl ?_
    refine g_ialdv (v := (I 74 (I 83 x4.toNatClampNeg).toNatClampNeg)) sh_74 (b3 c1) rfl dc_RM_since_55 rfl ?_
    refine g_iast sh_86 (b4 c1) dc_RM_since_56 rfl ?_
    refine g_iinc (v := (x4 + 1)) (L' := [some (.ref 67), some (.int x1), some (.int x2), some (.int x3), some (.int (x4 + 1)), none, none]) dc_RM_since_57 rfl rfl (by rw [show Int32.ofInt 1 = 1 from by decide]) (Nat.le_of_ble_eq_true rfl) rfl ?_
    refine g_goto (tgt := 32) dc_RM_since_60 (by decide) ?_
    exact (k5 c1)
theorem w_RM_since_80 {G : GC} {d : Nat} {P : PT} {I : MI} {J : MJ} {x1 : Int32} {x2 : Int32} {x3 : Int32} {x4 : Int32} {x5 : Int32} {x6 : Int32} (k1 : (x6 < 0) → Go G (fr G m_RM_since (d + 6) P) 148 [none, none, none, none, some (.int x4), some (.int x5), none] [] I J) (k2 : (¬ (x6 < 0)) → (x5 = 0) → Go G (fr G m_RM_since (d + 6) P) 148 [none, none, none, none, some (.int x4), some (.int x5), none] [] I J) (b3 : (¬ (x6 < 0)) → (¬ (x5 = 0)) → vp_in x6 200) (k4 : (¬ (x6 < 0)) → (¬ (x5 = 0)) → (¬ (I 68 x6.toNatClampNeg) = x1) → Go G (fr G m_RM_since (d + 6) P) 142 [some (.ref 67), some (.int x1), some (.int x2), some (.int x3), some (.int x4), some (.int x5), some (.int x6)] [] I J) (k5 : (¬ (x6 < 0)) → (¬ (x5 = 0)) → ((I 68 x6.toNatClampNeg) = x1) → ((I 67 5) < (I 71 x6.toNatClampNeg)) → Go G (fr G m_RM_since (d + 6) P) 142 [some (.ref 67), some (.int x1), some (.int x2), some (.int x3), some (.int x4), some (.int x5), some (.int x6)] [] I J) (k6 : (¬ (x6 < 0)) → (¬ (x5 = 0)) → ((I 68 x6.toNatClampNeg) = x1) → (¬ ((I 67 5) < (I 71 x6.toNatClampNeg))) → Ct G (d + 5) m_RM_isSame [.ref 67, .int x1, .int x2, .int x3, .int ((I 71 x6.toNatClampNeg) - 1)] (fun r I' J' => Go G (fr G m_RM_since (d + 6) P) 140 [some (.ref 67), some (.int x1), some (.int x2), some (.int x3), some (.int (I 71 x6.toNatClampNeg)), none, some (.int x6)] (r.toList ++ []) I' J') I J) : Go G (fr G m_RM_since (d + 6) P) 80 [some (.ref 67), some (.int x1), some (.int x2), some (.int x3), some (.int x4), some (.int x5), some (.int x6)] [] I J := by
  refine g_iload dc_RM_since_80 rfl rfl ?_
  refine g_if_lt (tgt := 148) dc_RM_since_82 rfl (by decide) (fun c1 => ?_) (fun c1 => ?_)
  · refine g_weak [none, none, none, none, some (.int x4), some (.int x5), none] ⟨rfl, ⟨rfl, trivial⟩⟩ ?_
    exact (k1 c1)
  · refine g_iload dc_RM_since_85 rfl rfl ?_
    refine g_if_eq (tgt := 148) dc_RM_since_87 rfl (by decide) (fun c2 => ?_) (fun c2 => ?_)
    · refine g_weak [none, none, none, none, some (.int x4), some (.int x5), none] ⟨rfl, ⟨rfl, trivial⟩⟩ ?_
      exact (k2 c1 c2)
    · refine g_aload_n dc_RM_since_90 rfl rfl rfl ?_
      refine g_get (C := "LevelBreaksModel") (T := T_RM) (N := 45) (k := 1) (v := .ref 68) sh_67 (by decide) rfl rfl i_RM (by decide) fl_RM_9 (Or.inl rfl) rfl dc_RM_since_91 rfl ?_
      refine g_iload dc_RM_since_94 rfl rfl ?_
      refine g_ialdv (v := (I 68 x6.toNatClampNeg)) sh_68 (b3 c1 c2) rfl dc_RM_since_96 rfl ?_
      refine g_iload_n dc_RM_since_97 rfl rfl rfl ?_
      refine g_ic_ne (tgt := 142) dc_RM_since_98 rfl (by decide) (fun c3 => ?_) (fun c3 => ?_)
      · exact (k4 c1 c2 c3)
      · refine g_aload_n dc_RM_since_101 rfl rfl rfl ?_
        refine g_get (C := "LevelBreaksModel") (T := T_RM) (N := 45) (k := 4) (v := .ref 71) sh_67 (by decide) rfl rfl i_RM (by decide) fl_RM_19 (Or.inl rfl) rfl dc_RM_since_102 rfl ?_
        refine g_iload dc_RM_since_105 rfl rfl ?_
        refine g_ialdv (v := (I 71 x6.toNatClampNeg)) sh_71 (b3 c1 c2) rfl dc_RM_since_107 rfl ?_
        refine g_aload_n dc_RM_since_108 rfl rfl rfl ?_
        refine g_get (C := "LevelBreaksModel") (T := T_RM) (N := 45) (k := 5) (v := .int (I 67 5)) sh_67 (by decide) rfl rfl i_RM (by decide) fl_RM_22 (Or.inl rfl) rfl dc_RM_since_109 rfl ?_
        refine g_ic_gt (tgt := 142) dc_RM_since_112 rfl (by decide) (fun c4 => ?_) (fun c4 => ?_)
        · exact (k5 c1 c2 c3 c4)
        · refine g_aload_n dc_RM_since_115 rfl rfl rfl ?_
          refine g_get (C := "LevelBreaksModel") (T := T_RM) (N := 45) (k := 4) (v := .ref 71) sh_67 (by decide) rfl rfl i_RM (by decide) fl_RM_19 (Or.inl rfl) rfl dc_RM_since_116 rfl ?_
          refine g_iload dc_RM_since_119 rfl rfl ?_
          refine g_ialdv (v := (I 71 x6.toNatClampNeg)) sh_71 (b3 c1 c2) rfl dc_RM_since_121 rfl ?_
          refine g_istore (L' := [some (.ref 67), some (.int x1), some (.int x2), some (.int x3), some (.int (I 71 x6.toNatClampNeg)), some (.int x5), some (.int x6)]) dc_RM_since_122 rfl (Nat.le_of_ble_eq_true rfl) rfl ?_
          refine g_aload_n dc_RM_since_124 rfl rfl rfl ?_
          refine g_iload_n dc_RM_since_125 rfl rfl rfl ?_
          refine g_iload_n dc_RM_since_126 rfl rfl rfl ?_
          refine g_iload_n dc_RM_since_127 rfl rfl rfl ?_
          refine g_aload_n dc_RM_since_128 rfl rfl rfl ?_
          refine g_get (C := "LevelBreaksModel") (T := T_RM) (N := 45) (k := 4) (v := .ref 71) sh_67 (by decide) rfl rfl i_RM (by decide) fl_RM_19 (Or.inl rfl) rfl dc_RM_since_129 rfl ?_
          refine g_iload dc_RM_since_132 rfl rfl ?_
          refine g_ialdv (v := (I 71 x6.toNatClampNeg)) sh_71 (b3 c1 c2) rfl dc_RM_since_134 rfl ?_
          refine g_iconst (v := 1) dc_RM_since_135 rfl (by decide) ?_
          refine g_isub dc_RM_since_136 rfl ?_
          refine g_weak [some (.ref 67), some (.int x1), some (.int x2), some (.int x3), some (.int (I 71 x6.toNatClampNeg)), none, some (.int x6)] ⟨rfl, ⟨rfl, ⟨rfl, ⟨rfl, ⟨rfl, ⟨rfl, trivial⟩⟩⟩⟩⟩⟩ ?_
          exact g_callV (T := T_RM) (N := 45) (As := [.int x1, .int x2, .int x3, .int ((I 71 x6.toNatClampNeg) - 1)]) (rest := []) ok_RM_isSame in_RM_isSame se_RM_isSame ml_RM_258 sh_67 (by decide) rfl rfl rfl (Nat.le_of_ble_eq_true rfl) dc_RM_since_137 rfl rOk_fr (k6 c1 c2 c3 c4)
theorem w_RM_since_140 {G : GC} {d : Nat} {P : PT} {I : MI} {J : MJ} {x1 : Int32} {x2 : Int32} {x3 : Int32} {x4 : Int32} {x6 : Int32} {y0 : Int32} (k1 : Go G (fr G m_RM_since (d + 6) P) 142 [some (.ref 67), some (.int x1), some (.int x2), some (.int x3), some (.int x4), some (.int y0), some (.int x6)] [] I J) : Go G (fr G m_RM_since (d + 6) P) 140 [some (.ref 67), some (.int x1), some (.int x2), some (.int x3), some (.int x4), none, some (.int x6)] [.int y0] I J := by
  refine g_istore (L' := [some (.ref 67), some (.int x1), some (.int x2), some (.int x3), some (.int x4), some (.int y0), some (.int x6)]) dc_RM_since_140 rfl (Nat.le_of_ble_eq_true rfl) rfl ?_
  exact k1
theorem w_RM_since_142 {G : GC} {d : Nat} {P : PT} {I : MI} {J : MJ} {x1 : Int32} {x2 : Int32} {x3 : Int32} {x4 : Int32} {x5 : Int32} {x6 : Int32} (k1 : Go G (fr G m_RM_since (d + 6) P) 80 [some (.ref 67), some (.int x1), some (.int x2), some (.int x3), some (.int x4), some (.int x5), some (.int (x6 + (-1)))] [] I J) : Go G (fr G m_RM_since (d + 6) P) 142 [some (.ref 67), some (.int x1), some (.int x2), some (.int x3), some (.int x4), some (.int x5), some (.int x6)] [] I J := by
  refine g_iinc (v := (x6 + (-1))) (L' := [some (.ref 67), some (.int x1), some (.int x2), some (.int x3), some (.int x4), some (.int x5), some (.int (x6 + (-1)))]) dc_RM_since_142 rfl rfl (by rw [show Int32.ofInt (-1) = (-1) from by decide]) (Nat.le_of_ble_eq_true rfl) rfl ?_
  refine g_goto (tgt := 80) dc_RM_since_145 (by decide) ?_
  exact k1
theorem w_RM_since_148 {G : GC} {d : Nat} {P : PT} {I : MI} {J : MJ} {x4 : Int32} {x5 : Int32} (q1 : (x5 = 0) → P (some (.int x4)) I J) (q2 : (¬ (x5 = 0)) → P (some (.int 0)) I J) : Go G (fr G m_RM_since (d + 6) P) 148 [none, none, none, none, some (.int x4), some (.int x5), none] [] I J := by
  refine g_iload dc_RM_since_148 rfl rfl ?_
  refine g_if_eq (tgt := 157) dc_RM_since_150 rfl (by decide) (fun c1 => ?_) (fun c1 => ?_)
  · refine g_iload dc_RM_since_157 rfl rfl ?_
    exact g_iret rfl dc_RM_since_159 (q1 c1)
  · refine g_iconst (v := 0) dc_RM_since_153 rfl (by decide) ?_
    refine g_goto (tgt := 159) dc_RM_since_154 (by decide) ?_
    exact g_iret rfl dc_RM_since_159 (q2 c1)
theorem dc_RM_soon_0 : decode prog_14_method_60_code 0 = .ok (.iload_n 1, 1) := by decide +kernel
theorem dc_RM_soon_1 : decode prog_14_method_60_code 1 = .ok (.iload_n 2, 1) := by decide +kernel
theorem dc_RM_soon_2 : decode prog_14_method_60_code 2 = .ok (.iload_n 3, 1) := by decide +kernel
theorem dc_RM_soon_3 : decode prog_14_method_60_code 3 = .ok (.iload 4, 2) := by decide +kernel
theorem dc_RM_soon_5 : decode prog_14_method_60_code 5 = .ok (.iload 5, 2) := by decide +kernel
theorem dc_RM_soon_7 : decode prog_14_method_60_code 7 = .ok (.invokestatic 282, 3) := by decide +kernel
theorem dc_RM_soon_10 : decode prog_14_method_60_code 10 = .ok (.ifCond .eq 21, 3) := by decide +kernel
theorem dc_RM_soon_13 : decode prog_14_method_60_code 13 = .ok (.iload 6, 2) := by decide +kernel
theorem dc_RM_soon_15 : decode prog_14_method_60_code 15 = .ok (.invokestatic 123, 3) := by decide +kernel
theorem dc_RM_soon_18 : decode prog_14_method_60_code 18 = .ok (.ifCond .eq 13, 3) := by decide +kernel
theorem dc_RM_soon_21 : decode prog_14_method_60_code 21 = .ok (.iload 7, 2) := by decide +kernel
theorem dc_RM_soon_23 : decode prog_14_method_60_code 23 = .ok (.iconst 0, 1) := by decide +kernel
theorem dc_RM_soon_24 : decode prog_14_method_60_code 24 = .ok (.iconst 1, 1) := by decide +kernel
theorem dc_RM_soon_25 : decode prog_14_method_60_code 25 = .ok (.invokestatic 112, 3) := by decide +kernel
theorem dc_RM_soon_28 : decode prog_14_method_60_code 28 = .ok (.ifCond .ne 6, 3) := by decide +kernel
theorem dc_RM_soon_31 : decode prog_14_method_60_code 31 = .ok (.bipush (-2), 2) := by decide +kernel
theorem dc_RM_soon_33 : decode prog_14_method_60_code 33 = .ok (.ireturn, 1) := by decide +kernel
theorem dc_RM_soon_34 : decode prog_14_method_60_code 34 = .ok (.aload_n 0, 1) := by decide +kernel
theorem dc_RM_soon_35 : decode prog_14_method_60_code 35 = .ok (.iload_n 1, 1) := by decide +kernel
theorem dc_RM_soon_36 : decode prog_14_method_60_code 36 = .ok (.aload_n 0, 1) := by decide +kernel
theorem dc_RM_soon_37 : decode prog_14_method_60_code 37 = .ok (.getfield 22, 3) := by decide +kernel
theorem dc_RM_soon_40 : decode prog_14_method_60_code 40 = .ok (.invokevirtual 148, 3) := by decide +kernel
theorem dc_RM_soon_43 : decode prog_14_method_60_code 43 = .ok (.aload_n 0, 1) := by decide +kernel
theorem dc_RM_soon_44 : decode prog_14_method_60_code 44 = .ok (.iload_n 2, 1) := by decide +kernel
theorem dc_RM_soon_45 : decode prog_14_method_60_code 45 = .ok (.iload_n 3, 1) := by decide +kernel
theorem dc_RM_soon_46 : decode prog_14_method_60_code 46 = .ok (.iload 4, 2) := by decide +kernel
theorem dc_RM_soon_48 : decode prog_14_method_60_code 48 = .ok (.iload 5, 2) := by decide +kernel
theorem dc_RM_soon_50 : decode prog_14_method_60_code 50 = .ok (.invokevirtual 286, 3) := by decide +kernel
theorem dc_RM_soon_53 : decode prog_14_method_60_code 53 = .ok (.aload_n 0, 1) := by decide +kernel
theorem dc_RM_soon_54 : decode prog_14_method_60_code 54 = .ok (.iload 6, 2) := by decide +kernel
theorem dc_RM_soon_56 : decode prog_14_method_60_code 56 = .ok (.invokevirtual 290, 3) := by decide +kernel
theorem dc_RM_soon_59 : decode prog_14_method_60_code 59 = .ok (.istore 8, 2) := by decide +kernel
theorem dc_RM_soon_61 : decode prog_14_method_60_code 61 = .ok (.iload 7, 2) := by decide +kernel
theorem dc_RM_soon_63 : decode prog_14_method_60_code 63 = .ok (.iconst 1, 1) := by decide +kernel
theorem dc_RM_soon_64 : decode prog_14_method_60_code 64 = .ok (.if_icmp .ne 12, 3) := by decide +kernel
theorem dc_RM_soon_67 : decode prog_14_method_60_code 67 = .ok (.aload_n 0, 1) := by decide +kernel
theorem dc_RM_soon_68 : decode prog_14_method_60_code 68 = .ok (.iload 6, 2) := by decide +kernel
theorem dc_RM_soon_70 : decode prog_14_method_60_code 70 = .ok (.invokevirtual 293, 3) := by decide +kernel
theorem dc_RM_soon_73 : decode prog_14_method_60_code 73 = .ok (.goto 18, 3) := by decide +kernel
theorem dc_RM_soon_76 : decode prog_14_method_60_code 76 = .ok (.iload 8, 2) := by decide +kernel
theorem dc_RM_soon_78 : decode prog_14_method_60_code 78 = .ok (.iconst (-1), 1) := by decide +kernel
theorem dc_RM_soon_79 : decode prog_14_method_60_code 79 = .ok (.if_icmp .ne 7, 3) := by decide +kernel
theorem dc_RM_soon_82 : decode prog_14_method_60_code 82 = .ok (.iconst (-1), 1) := by decide +kernel
theorem dc_RM_soon_83 : decode prog_14_method_60_code 83 = .ok (.goto 8, 3) := by decide +kernel
theorem dc_RM_soon_86 : decode prog_14_method_60_code 86 = .ok (.iload 8, 2) := by decide +kernel
theorem dc_RM_soon_88 : decode prog_14_method_60_code 88 = .ok (.iload 6, 2) := by decide +kernel
theorem dc_RM_soon_90 : decode prog_14_method_60_code 90 = .ok (.isub, 1) := by decide +kernel
theorem dc_RM_soon_91 : decode prog_14_method_60_code 91 = .ok (.ireturn, 1) := by decide +kernel
theorem w_RM_soon_0 {G : GC} {d : Nat} {P : PT} {I : MI} {J : MJ} {x1 : Int32} {x2 : Int32} {x3 : Int32} {x4 : Int32} {x5 : Int32} {x6 : Int32} {x7 : Int32} (k1 : ((f_RM_isWatch x1 x2 x3 x4 x5) = 0) → Go G (fr G m_RM_soon (d + 3) P) 31 [none, none, none, none, none, none, none, none, none] [] I J) (k2 : (¬ ((f_RM_isWatch x1 x2 x3 x4 x5) = 0)) → ((f_RM_isDay x6) = 0) → Go G (fr G m_RM_soon (d + 3) P) 31 [none, none, none, none, none, none, none, none, none] [] I J) (k3 : (¬ ((f_RM_isWatch x1 x2 x3 x4 x5) = 0)) → (¬ ((f_RM_isDay x6) = 0)) → (¬ (f_RM_in x7 0 1) = 0) → Ct G (d + 2) m_RM_pointsBy [.ref 67, .int x1, .int (I 67 5)] (fun r I' J' => Go G (fr G m_RM_soon (d + 3) P) 43 [some (.ref 67), none, some (.int x2), some (.int x3), some (.int x4), some (.int x5), some (.int x6), some (.int x7), none] (r.toList ++ []) I' J') I J) (k4 : (¬ ((f_RM_isWatch x1 x2 x3 x4 x5) = 0)) → (¬ ((f_RM_isDay x6) = 0)) → ((f_RM_in x7 0 1) = 0) → Go G (fr G m_RM_soon (d + 3) P) 31 [none, none, none, none, none, none, none, none, none] [] I J) : Go G (fr G m_RM_soon (d + 3) P) 0 [some (.ref 67), some (.int x1), some (.int x2), some (.int x3), some (.int x4), some (.int x5), some (.int x6), some (.int x7), none] [] I J := by
  refine g_iload_n dc_RM_soon_0 rfl rfl rfl ?_
  refine g_iload_n dc_RM_soon_1 rfl rfl rfl ?_
  refine g_iload_n dc_RM_soon_2 rfl rfl rfl ?_
  refine g_iload dc_RM_soon_3 rfl rfl ?_
  refine g_iload dc_RM_soon_5 rfl rfl ?_
  refine g_callS (M := m_RM_isWatch) (As := [.int x1, .int x2, .int x3, .int x4, .int x5]) (rest := []) ok_RM_isWatch st_RM_isWatch ml_RM_282 rfl rfl (Nat.le_of_ble_eq_true rfl) dc_RM_soon_7 rfl rOk_fr (c_RM_isWatch ?_)
  show Go G (fr G m_RM_soon (d + 3) P) 10 [some (.ref 67), some (.int x1), some (.int x2), some (.int x3), some (.int x4), some (.int x5), some (.int x6), some (.int x7), none] [.int (f_RM_isWatch x1 x2 x3 x4 x5)] I J
  refine g_if_eq (tgt := 31) dc_RM_soon_10 rfl (by decide) (fun c1 => ?_) (fun c1 => ?_)
  · refine g_weak [none, none, none, none, none, none, none, none, none] trivial ?_
    exact (k1 c1)
  · refine g_iload dc_RM_soon_13 rfl rfl ?_
    refine g_callS (M := m_RM_isDay) (As := [.int x6]) (rest := []) ok_RM_isDay st_RM_isDay ml_RM_123 rfl rfl (Nat.le_of_ble_eq_true rfl) dc_RM_soon_15 rfl rOk_fr (c_RM_isDay ?_)
    show Go G (fr G m_RM_soon (d + 3) P) 18 [some (.ref 67), some (.int x1), some (.int x2), some (.int x3), some (.int x4), some (.int x5), some (.int x6), some (.int x7), none] [.int (f_RM_isDay x6)] I J
    refine g_if_eq (tgt := 31) dc_RM_soon_18 rfl (by decide) (fun c2 => ?_) (fun c2 => ?_)
    · refine g_weak [none, none, none, none, none, none, none, none, none] trivial ?_
      exact (k2 c1 c2)
    · refine g_iload dc_RM_soon_21 rfl rfl ?_
      refine g_iconst (v := 0) dc_RM_soon_23 rfl (by decide) ?_
      refine g_iconst (v := 1) dc_RM_soon_24 rfl (by decide) ?_
      refine g_callS (M := m_RM_in) (As := [.int x7, .int 0, .int 1]) (rest := []) ok_RM_in st_RM_in ml_RM_112 rfl rfl (Nat.le_of_ble_eq_true rfl) dc_RM_soon_25 rfl rOk_fr (c_RM_in ?_)
      show Go G (fr G m_RM_soon (d + 3) P) 28 [some (.ref 67), some (.int x1), some (.int x2), some (.int x3), some (.int x4), some (.int x5), some (.int x6), some (.int x7), none] [.int (f_RM_in x7 0 1)] I J
      refine g_if_ne (tgt := 34) dc_RM_soon_28 rfl (by decide) (fun c3 => ?_) (fun c3 => ?_)
      · refine g_aload_n dc_RM_soon_34 rfl rfl rfl ?_
        refine g_iload_n dc_RM_soon_35 rfl rfl rfl ?_
        refine g_aload_n dc_RM_soon_36 rfl rfl rfl ?_
        refine g_get (C := "LevelBreaksModel") (T := T_RM) (N := 45) (k := 5) (v := .int (I 67 5)) sh_67 (by decide) rfl rfl i_RM (by decide) fl_RM_22 (Or.inl rfl) rfl dc_RM_soon_37 rfl ?_
        refine g_weak [some (.ref 67), none, some (.int x2), some (.int x3), some (.int x4), some (.int x5), some (.int x6), some (.int x7), none] ⟨rfl, ⟨rfl, ⟨rfl, ⟨rfl, ⟨rfl, ⟨rfl, ⟨rfl, trivial⟩⟩⟩⟩⟩⟩⟩ ?_
        exact g_callV (T := T_RM) (N := 45) (As := [.int x1, .int (I 67 5)]) (rest := []) ok_RM_pointsBy in_RM_pointsBy se_RM_pointsBy ml_RM_148 sh_67 (by decide) rfl rfl rfl (Nat.le_of_ble_eq_true rfl) dc_RM_soon_40 rfl rOk_fr (k3 c1 c2 c3)
      · refine g_weak [none, none, none, none, none, none, none, none, none] trivial ?_
        exact (k4 c1 c2 c3)
