theorem w_RM_costsBySums_20 {G : GC} {d : Nat} {P : PT} {I : MI} {J : MJ} {x1 : Int32} {x2 : Int32} {l3 : Int64} {l5 : Int64} {l7 : Int64} {l9 : Int64} {l11 : Int64} {l13 : Int64} {x15 : Int32} (q1 : ((I 67 7) ≤ x15) → P none I J) (b2 : (¬ ((I 67 7) ≤ x15)) → vp_in x15 40) (k3 : (¬ ((I 67 7) ≤ x15)) → (x2 = 0) → Go G (fr G m_RM_costsBySums (d + 2) P) 119 [some (.ref 67), some (.int x1), some (.int x2), some (.long (l3 + 1)), none, some (.long (l5 + (Int32.toInt64 (I 73 x15.toNatClampNeg)))), none, some (.long (l7 + ((Int32.toInt64 (I 73 x15.toNatClampNeg)) * (Int32.toInt64 (I 73 x15.toNatClampNeg))))), none, some (.long (l9 + (Int32.toInt64 (I 74 x15.toNatClampNeg)))), none, some (.long (l11 + ((Int32.toInt64 (I 74 x15.toNatClampNeg)) * (Int32.toInt64 (I 74 x15.toNatClampNeg))))), none, some (.long (l13 + ((Int32.toInt64 (I 73 x15.toNatClampNeg)) * (Int32.toInt64 (I 74 x15.toNatClampNeg))))), none, some (.int x15), none, none, none, none, none, none, none, none, none, none] [.long 0, .long (l13 + ((Int32.toInt64 (I 73 x15.toNatClampNeg)) * (Int32.toInt64 (I 74 x15.toNatClampNeg)))), .long (l11 + ((Int32.toInt64 (I 74 x15.toNatClampNeg)) * (Int32.toInt64 (I 74 x15.toNatClampNeg)))), .long (l9 + (Int32.toInt64 (I 74 x15.toNatClampNeg))), .long (l7 + ((Int32.toInt64 (I 73 x15.toNatClampNeg)) * (Int32.toInt64 (I 73 x15.toNatClampNeg)))), .long (l5 + (Int32.toInt64 (I 73 x15.toNatClampNeg))), .long (l3 + 1)] I J) (k4 : (¬ ((I 67 7) ≤ x15)) → (¬ (x2 = 0)) → Go G (fr G m_RM_costsBySums (d + 2) P) 119 [some (.ref 67), some (.int x1), some (.int x2), some (.long (l3 + 1)), none, some (.long (l5 + (Int32.toInt64 (I 73 x15.toNatClampNeg)))), none, some (.long (l7 + ((Int32.toInt64 (I 73 x15.toNatClampNeg)) * (Int32.toInt64 (I 73 x15.toNatClampNeg))))), none, some (.long (l9 + (Int32.toInt64 (I 74 x15.toNatClampNeg)))), none, some (.long (l11 + ((Int32.toInt64 (I 74 x15.toNatClampNeg)) * (Int32.toInt64 (I 74 x15.toNatClampNeg))))), none, some (.long (l13 + ((Int32.toInt64 (I 73 x15.toNatClampNeg)) * (Int32.toInt64 (I 74 x15.toNatClampNeg))))), none, some (.int x15), none, none, none, none, none, none, none, none, none, none] [.long (-20), .long (l13 + ((Int32.toInt64 (I 73 x15.toNatClampNeg)) * (Int32.toInt64 (I 74 x15.toNatClampNeg)))), .long (l11 + ((Int32.toInt64 (I 74 x15.toNatClampNeg)) * (Int32.toInt64 (I 74 x15.toNatClampNeg)))), .long (l9 + (Int32.toInt64 (I 74 x15.toNatClampNeg))), .long (l7 + ((Int32.toInt64 (I 73 x15.toNatClampNeg)) * (Int32.toInt64 (I 73 x15.toNatClampNeg)))), .long (l5 + (Int32.toInt64 (I 73 x15.toNatClampNeg))), .long (l3 + 1)] I J) : Go G (fr G m_RM_costsBySums (d + 2) P) 20 [some (.ref 67), some (.int x1), some (.int x2), some (.long l3), none, some (.long l5), none, some (.long l7), none, some (.long l9), none, some (.long l11), none, some (.long l13), none, some (.int x15), none, none, none, none, none, none, none, none, none, none] [] I J := by
  refine g_iload dc_RM_costsBySums_20 rfl rfl ?_
  refine g_aload_n dc_RM_costsBySums_22 rfl rfl rfl ?_
  refine g_get (C := "LevelBreaksModel") (T := T_RM) (N := 45) (k := 7) (v := .int (I 67 7)) sh_67 (by decide) rfl rfl i_RM (by decide) fl_RM_145 (Or.inl rfl) rfl dc_RM_costsBySums_23 rfl ?_
  refine g_ic_ge (tgt := 206) dc_RM_costsBySums_26 rfl (by decide) (fun c1 => ?_) (fun c1 => ?_)
  · exact g_vret rfl dc_RM_costsBySums_206 (q1 c1)
  · refine g_aload_n dc_RM_costsBySums_29 rfl rfl rfl ?_
    refine g_get (C := "LevelBreaksModel") (T := T_RM) (N := 45) (k := 8) (v := .ref 73) sh_67 (by decide) rfl rfl i_RM (by decide) fl_RM_29 (Or.inl rfl) rfl dc_RM_costsBySums_30 rfl ?_
    refine g_iload dc_RM_costsBySums_33 rfl rfl ?_
    refine g_ialdv (v := (I 73 x15.toNatClampNeg)) sh_73 (b2 c1) rfl dc_RM_costsBySums_35 rfl ?_
    refine g_i2l dc_RM_costsBySums_36 rfl ?_
    refine g_lstore (L' := [some (.ref 67), some (.int x1), some (.int x2), some (.long l3), none, some (.long l5), none, some (.long l7), none, some (.long l9), none, some (.long l11), none, some (.long l13), none, some (.int x15), some (.long (Int32.toInt64 (I 73 x15.toNatClampNeg))), none, none, none, none, none, none, none, none, none]) dc_RM_costsBySums_37 rfl (Nat.le_of_ble_eq_true rfl) rfl ?_
    refine g_aload_n dc_RM_costsBySums_39 rfl rfl rfl ?_
    refine g_get (C := "LevelBreaksModel") (T := T_RM) (N := 45) (k := 9) (v := .ref 74) sh_67 (by decide) rfl rfl i_RM (by decide) fl_RM_32 (Or.inl rfl) rfl dc_RM_costsBySums_40 rfl ?_
    refine g_iload dc_RM_costsBySums_43 rfl rfl ?_
    refine g_ialdv (v := (I 74 x15.toNatClampNeg)) sh_74 (b2 c1) rfl dc_RM_costsBySums_45 rfl ?_
    refine g_i2l dc_RM_costsBySums_46 rfl ?_
    refine g_lstore (L' := [some (.ref 67), some (.int x1), some (.int x2), some (.long l3), none, some (.long l5), none, some (.long l7), none, some (.long l9), none, some (.long l11), none, some (.long l13), none, some (.int x15), some (.long (Int32.toInt64 (I 73 x15.toNatClampNeg))), none, some (.long (Int32.toInt64 (I 74 x15.toNatClampNeg))), none, none, none, none, none, none, none]) dc_RM_costsBySums_47 rfl (Nat.le_of_ble_eq_true rfl) rfl ?_
    refine g_lload_n dc_RM_costsBySums_49 rfl rfl rfl ?_
    refine g_lconst (v := 1) dc_RM_costsBySums_50 rfl (by decide) ?_
    refine g_ladd dc_RM_costsBySums_51 rfl ?_
    refine g_lstore_n (L' := [some (.ref 67), some (.int x1), some (.int x2), some (.long (l3 + 1)), none, some (.long l5), none, some (.long l7), none, some (.long l9), none, some (.long l11), none, some (.long l13), none, some (.int x15), some (.long (Int32.toInt64 (I 73 x15.toNatClampNeg))), none, some (.long (Int32.toInt64 (I 74 x15.toNatClampNeg))), none, none, none, none, none, none, none]) dc_RM_costsBySums_52 rfl rfl (Nat.le_of_ble_eq_true rfl) rfl ?_
    refine g_lload dc_RM_costsBySums_53 rfl rfl ?_
    refine g_lload dc_RM_costsBySums_55 rfl rfl ?_
    refine g_ladd dc_RM_costsBySums_57 rfl ?_
    refine g_lstore (L' := [some (.ref 67), some (.int x1), some (.int x2), some (.long (l3 + 1)), none, some (.long (l5 + (Int32.toInt64 (I 73 x15.toNatClampNeg)))), none, some (.long l7), none, some (.long l9), none, some (.long l11), none, some (.long l13), none, some (.int x15), some (.long (Int32.toInt64 (I 73 x15.toNatClampNeg))), none, some (.long (Int32.toInt64 (I 74 x15.toNatClampNeg))), none, none, none, none, none, none, none]) dc_RM_costsBySums_58 rfl (Nat.le_of_ble_eq_true rfl) rfl ?_
    refine g_lload dc_RM_costsBySums_60 rfl rfl ?_
    refine g_lload dc_RM_costsBySums_62 rfl rfl ?_
    refine g_lload dc_RM_costsBySums_64 rfl rfl ?_
    refine g_lmul dc_RM_costsBySums_66 rfl ?_
    refine g_ladd dc_RM_costsBySums_67 rfl ?_
    refine g_lstore (L' := [some (.ref 67), some (.int x1), some (.int x2), some (.long (l3 + 1)), none, some (.long (l5 + (Int32.toInt64 (I 73 x15.toNatClampNeg)))), none, some (.long (l7 + ((Int32.toInt64 (I 73 x15.toNatClampNeg)) * (Int32.toInt64 (I 73 x15.toNatClampNeg))))), none, some (.long l9), none, some (.long l11), none, some (.long l13), none, some (.int x15), some (.long (Int32.toInt64 (I 73 x15.toNatClampNeg))), none, some (.long (Int32.toInt64 (I 74 x15.toNatClampNeg))), none, none, none, none, none, none, none]) dc_RM_costsBySums_68 rfl (Nat.le_of_ble_eq_true rfl) rfl ?_
    refine g_lload dc_RM_costsBySums_70 rfl rfl ?_
    refine g_lload dc_RM_costsBySums_72 rfl rfl ?_
    refine g_ladd dc_RM_costsBySums_74 rfl ?_
    refine g_lstore (L' := [some (.ref 67), some (.int x1), some (.int x2), some (.long (l3 + 1)), none, some (.long (l5 + (Int32.toInt64 (I 73 x15.toNatClampNeg)))), none, some (.long (l7 + ((Int32.toInt64 (I 73 x15.toNatClampNeg)) * (Int32.toInt64 (I 73 x15.toNatClampNeg))))), none, some (.long (l9 + (Int32.toInt64 (I 74 x15.toNatClampNeg)))), none, some (.long l11), none, some (.long l13), none, some (.int x15), some (.long (Int32.toInt64 (I 73 x15.toNatClampNeg))), none, some (.long (Int32.toInt64 (I 74 x15.toNatClampNeg))), none, none, none, none, none, none, none]) dc_RM_costsBySums_75 rfl (Nat.le_of_ble_eq_true rfl) rfl ?_
    refine g_lload dc_RM_costsBySums_77 rfl rfl ?_
    refine g_lload dc_RM_costsBySums_79 rfl rfl ?_
    refine g_lload dc_RM_costsBySums_81 rfl rfl ?_
    refine g_lmul dc_RM_costsBySums_83 rfl ?_
    refine g_ladd dc_RM_costsBySums_84 rfl ?_
    refine g_lstore (L' := [some (.ref 67), some (.int x1), some (.int x2), some (.long (l3 + 1)), none, some (.long (l5 + (Int32.toInt64 (I 73 x15.toNatClampNeg)))), none, some (.long (l7 + ((Int32.toInt64 (I 73 x15.toNatClampNeg)) * (Int32.toInt64 (I 73 x15.toNatClampNeg))))), none, some (.long (l9 + (Int32.toInt64 (I 74 x15.toNatClampNeg)))), none, some (.long (l11 + ((Int32.toInt64 (I 74 x15.toNatClampNeg)) * (Int32.toInt64 (I 74 x15.toNatClampNeg))))), none, some (.long l13), none, some (.int x15), some (.long (Int32.toInt64 (I 73 x15.toNatClampNeg))), none, some (.long (Int32.toInt64 (I 74 x15.toNatClampNeg))), none, none, none, none, none, none, none]) dc_RM_costsBySums_85 rfl (Nat.le_of_ble_eq_true rfl) rfl ?_
    refine g_lload dc_RM_costsBySums_87 rfl rfl ?_
    refine g_lload dc_RM_costsBySums_89 rfl rfl ?_
    refine g_lload dc_RM_costsBySums_91 rfl rfl ?_
    refine g_lmul dc_RM_costsBySums_93 rfl ?_
    refine g_ladd dc_RM_costsBySums_94 rfl ?_
    refine g_lstore (L' := [some (.ref 67), some (.int x1), some (.int x2), some (.long (l3 + 1)), none, some (.long (l5 + (Int32.toInt64 (I 73 x15.toNatClampNeg)))), none, some (.long (l7 + ((Int32.toInt64 (I 73 x15.toNatClampNeg)) * (Int32.toInt64 (I 73 x15.toNatClampNeg))))), none, some (.long (l9 + (Int32.toInt64 (I 74 x15.toNatClampNeg)))), none, some (.long (l11 + ((Int32.toInt64 (I 74 x15.toNatClampNeg)) * (Int32.toInt64 (I 74 x15.toNatClampNeg))))), none, some (.long (l13 + ((Int32.toInt64 (I 73 x15.toNatClampNeg)) * (Int32.toInt64 (I 74 x15.toNatClampNeg))))), none, some (.int x15), some (.long (Int32.toInt64 (I 73 x15.toNatClampNeg))), none, some (.long (Int32.toInt64 (I 74 x15.toNatClampNeg))), none, none, none, none, none, none, none]) dc_RM_costsBySums_95 rfl (Nat.le_of_ble_eq_true rfl) rfl ?_
    refine g_lload_n dc_RM_costsBySums_97 rfl rfl rfl ?_
    refine g_lload dc_RM_costsBySums_98 rfl rfl ?_
    refine g_lload dc_RM_costsBySums_100 rfl rfl ?_
    refine g_lload dc_RM_costsBySums_102 rfl rfl ?_
    refine g_lload dc_RM_costsBySums_104 rfl rfl ?_
    refine g_lload dc_RM_costsBySums_106 rfl rfl ?_
    refine g_iload_n dc_RM_costsBySums_108 rfl rfl rfl ?_
    refine g_if_eq (tgt := 118) dc_RM_costsBySums_109 rfl (by decide) (fun c2 => ?_) (fun c2 => ?_)
    · refine g_lconst (v := 0) dc_RM_costsBySums_118 rfl (by decide) ?_
      refine g_weak [some (.ref 67), some (.int x1), some (.int x2), some (.long (l3 + 1)), none, some (.long (l5 + (Int32.toInt64 (I 73 x15.toNatClampNeg)))), none, some (.long (l7 + ((Int32.toInt64 (I 73 x15.toNatClampNeg)) * (Int32.toInt64 (I 73 x15.toNatClampNeg))))), none, some (.long (l9 + (Int32.toInt64 (I 74 x15.toNatClampNeg)))), none, some (.long (l11 + ((Int32.toInt64 (I 74 x15.toNatClampNeg)) * (Int32.toInt64 (I 74 x15.toNatClampNeg))))), none, some (.long (l13 + ((Int32.toInt64 (I 73 x15.toNatClampNeg)) * (Int32.toInt64 (I 74 x15.toNatClampNeg))))), none, some (.int x15), none, none, none, none, none, none, none, none, none, none] ⟨rfl, ⟨rfl, ⟨rfl, ⟨rfl, ⟨rfl, ⟨rfl, ⟨rfl, ⟨rfl, ⟨rfl, ⟨rfl, trivial⟩⟩⟩⟩⟩⟩⟩⟩⟩⟩ ?_
      exact (k3 c1 c2)
    · refine g_ldc2 (v := (-20)) kl_RM_161 dc_RM_costsBySums_112 rfl ?_
      refine g_goto (tgt := 119) dc_RM_costsBySums_115 (by decide) ?_
      refine g_weak [some (.ref 67), some (.int x1), some (.int x2), some (.long (l3 + 1)), none, some (.long (l5 + (Int32.toInt64 (I 73 x15.toNatClampNeg)))), none, some (.long (l7 + ((Int32.toInt64 (I 73 x15.toNatClampNeg)) * (Int32.toInt64 (I 73 x15.toNatClampNeg))))), none, some (.long (l9 + (Int32.toInt64 (I 74 x15.toNatClampNeg)))), none, some (.long (l11 + ((Int32.toInt64 (I 74 x15.toNatClampNeg)) * (Int32.toInt64 (I 74 x15.toNatClampNeg))))), none, some (.long (l13 + ((Int32.toInt64 (I 73 x15.toNatClampNeg)) * (Int32.toInt64 (I 74 x15.toNatClampNeg))))), none, some (.int x15), none, none, none, none, none, none, none, none, none, none] ⟨rfl, ⟨rfl, ⟨rfl, ⟨rfl, ⟨rfl, ⟨rfl, ⟨rfl, ⟨rfl, ⟨rfl, ⟨rfl, trivial⟩⟩⟩⟩⟩⟩⟩⟩⟩⟩ ?_
      exact (k4 c1 c2)
theorem w_RM_costsBySums_119 {G : GC} {d : Nat} {P : PT} {I : MI} {J : MJ} {x1 : Int32} {x2 : Int32} {l3 : Int64} {l5 : Int64} {l7 : Int64} {l9 : Int64} {l11 : Int64} {l13 : Int64} {x15 : Int32} {s0 : Int64} {s1 : Int64} {s2 : Int64} {s3 : Int64} {s4 : Int64} {s5 : Int64} {s6 : Int64} (k1 : Go G (fr G m_RM_costsBySums (d + 2) P) 129 [some (.ref 67), some (.int x1), some (.int x2), some (.long l3), none, some (.long l5), none, some (.long l7), none, some (.long l9), none, some (.long l11), none, some (.long l13), none, some (.int x15), none, none, none, none, some (.long (f_RM_away s0 s1 s2 s3 s4 s5 s6)), none, some (.long (-19)), none, none, none] [] I J) : Go G (fr G m_RM_costsBySums (d + 2) P) 119 [some (.ref 67), some (.int x1), some (.int x2), some (.long l3), none, some (.long l5), none, some (.long l7), none, some (.long l9), none, some (.long l11), none, some (.long l13), none, some (.int x15), none, none, none, none, none, none, none, none, none, none] [.long s6, .long s5, .long s4, .long s3, .long s2, .long s1, .long s0] I J := by
  refine g_callS (M := m_RM_away) (As := [.long s0, .long s1, .long s2, .long s3, .long s4, .long s5, .long s6]) (rest := []) ok_RM_away st_RM_away ml_RM_163 rfl rfl (Nat.le_of_ble_eq_true rfl) dc_RM_costsBySums_119 rfl rOk_fr (c_RM_away ?_)
  show Go G (fr G m_RM_costsBySums (d + 2) P) 122 [some (.ref 67), some (.int x1), some (.int x2), some (.long l3), none, some (.long l5), none, some (.long l7), none, some (.long l9), none, some (.long l11), none, some (.long l13), none, some (.int x15), none, none, none, none, none, none, none, none, none, none] [.long (f_RM_away s0 s1 s2 s3 s4 s5 s6)] I J
  refine g_lstore (L' := [some (.ref 67), some (.int x1), some (.int x2), some (.long l3), none, some (.long l5), none, some (.long l7), none, some (.long l9), none, some (.long l11), none, some (.long l13), none, some (.int x15), none, none, none, none, some (.long (f_RM_away s0 s1 s2 s3 s4 s5 s6)), none, none, none, none, none]) dc_RM_costsBySums_122 rfl (Nat.le_of_ble_eq_true rfl) rfl ?_
  refine g_ldc2 (v := (-19)) kl_RM_167 dc_RM_costsBySums_124 rfl ?_
  refine g_lstore (L' := [some (.ref 67), some (.int x1), some (.int x2), some (.long l3), none, some (.long l5), none, some (.long l7), none, some (.long l9), none, some (.long l11), none, some (.long l13), none, some (.int x15), none, none, none, none, some (.long (f_RM_away s0 s1 s2 s3 s4 s5 s6)), none, some (.long (-19)), none, none, none]) dc_RM_costsBySums_127 rfl (Nat.le_of_ble_eq_true rfl) rfl ?_
  exact k1
theorem w_RM_costsBySums_129 {G : GC} {d : Nat} {P : PT} {I : MI} {J : MJ} {x1 : Int32} {x2 : Int32} {l3 : Int64} {l5 : Int64} {l7 : Int64} {l9 : Int64} {l11 : Int64} {l13 : Int64} {x15 : Int32} {l20 : Int64} {l22 : Int64} (k1 : (21 ≤ l22) → Go G (fr G m_RM_costsBySums (d + 2) P) 186 [some (.ref 67), some (.int x1), some (.int x2), some (.long l3), none, some (.long l5), none, some (.long l7), none, some (.long l9), none, some (.long l11), none, some (.long l13), none, some (.int x15), none, none, none, none, some (.long l20), none, none, none, none, none] [] I J) (k2 : (¬ (21 ≤ l22)) → (x2 = 0) → Go G (fr G m_RM_costsBySums (d + 2) P) 186 [some (.ref 67), some (.int x1), some (.int x2), some (.long l3), none, some (.long l5), none, some (.long l7), none, some (.long l9), none, some (.long l11), none, some (.long l13), none, some (.int x15), none, none, none, none, some (.long l20), none, none, none, none, none] [] I J) (k3 : (¬ (21 ≤ l22)) → (¬ (x2 = 0)) → (l20 ≤ (f_RM_away l3 l5 l7 l9 l11 l13 l22)) → Go G (fr G m_RM_costsBySums (d + 2) P) 175 [some (.ref 67), some (.int x1), some (.int x2), some (.long l3), none, some (.long l5), none, some (.long l7), none, some (.long l9), none, some (.long l11), none, some (.long l13), none, some (.int x15), none, none, none, none, none, none, some (.long l22), none, none, none] [.long l20] I J) (k4 : (¬ (21 ≤ l22)) → (¬ (x2 = 0)) → (¬ (l20 ≤ (f_RM_away l3 l5 l7 l9 l11 l13 l22))) → Go G (fr G m_RM_costsBySums (d + 2) P) 175 [some (.ref 67), some (.int x1), some (.int x2), some (.long l3), none, some (.long l5), none, some (.long l7), none, some (.long l9), none, some (.long l11), none, some (.long l13), none, some (.int x15), none, none, none, none, none, none, some (.long l22), none, none, none] [.long (f_RM_away l3 l5 l7 l9 l11 l13 l22)] I J) : Go G (fr G m_RM_costsBySums (d + 2) P) 129 [some (.ref 67), some (.int x1), some (.int x2), some (.long l3), none, some (.long l5), none, some (.long l7), none, some (.long l9), none, some (.long l11), none, some (.long l13), none, some (.int x15), none, none, none, none, some (.long l20), none, some (.long l22), none, none, none] [] I J := by
  refine g_lload dc_RM_costsBySums_129 rfl rfl ?_
  refine g_ldc2 (v := 21) kl_RM_169 dc_RM_costsBySums_131 rfl ?_
  refine g_lc_ge (tgt := 186) dc_RM_costsBySums_134 rfl dc_RM_costsBySums_135 rfl (by decide) (fun c1 => ?_) (fun c1 => ?_)
  · refine g_weak [some (.ref 67), some (.int x1), some (.int x2), some (.long l3), none, some (.long l5), none, some (.long l7), none, some (.long l9), none, some (.long l11), none, some (.long l13), none, some (.int x15), none, none, none, none, some (.long l20), none, none, none, none, none] ⟨rfl, ⟨rfl, ⟨rfl, ⟨rfl, ⟨rfl, ⟨rfl, ⟨rfl, ⟨rfl, ⟨rfl, ⟨rfl, ⟨rfl, trivial⟩⟩⟩⟩⟩⟩⟩⟩⟩⟩⟩ ?_
    exact (k1 c1)
  · refine g_iload_n dc_RM_costsBySums_138 rfl rfl rfl ?_
    refine g_if_eq (tgt := 186) dc_RM_costsBySums_139 rfl (by decide) (fun c2 => ?_) (fun c2 => ?_)
    · refine g_weak [some (.ref 67), some (.int x1), some (.int x2), some (.long l3), none, some (.long l5), none, some (.long l7), none, some (.long l9), none, some (.long l11), none, some (.long l13), none, some (.int x15), none, none, none, none, some (.long l20), none, none, none, none, none] ⟨rfl, ⟨rfl, ⟨rfl, ⟨rfl, ⟨rfl, ⟨rfl, ⟨rfl, ⟨rfl, ⟨rfl, ⟨rfl, ⟨rfl, trivial⟩⟩⟩⟩⟩⟩⟩⟩⟩⟩⟩ ?_
      exact (k2 c1 c2)
    · refine g_lload_n dc_RM_costsBySums_142 rfl rfl rfl ?_
      refine g_lload dc_RM_costsBySums_143 rfl rfl ?_
      refine g_lload dc_RM_costsBySums_145 rfl rfl ?_
      refine g_lload dc_RM_costsBySums_147 rfl rfl ?_
      refine g_lload dc_RM_costsBySums_149 rfl rfl ?_
      refine g_lload dc_RM_costsBySums_151 rfl rfl ?_
      refine g_lload dc_RM_costsBySums_153 rfl rfl ?_
      refine g_callS (M := m_RM_away) (As := [.long l3, .long l5, .long l7, .long l9, .long l11, .long l13, .long l22]) (rest := []) ok_RM_away st_RM_away ml_RM_163 rfl rfl (Nat.le_of_ble_eq_true rfl) dc_RM_costsBySums_155 rfl rOk_fr (c_RM_away ?_)
      show Go G (fr G m_RM_costsBySums (d + 2) P) 158 [some (.ref 67), some (.int x1), some (.int x2), some (.long l3), none, some (.long l5), none, some (.long l7), none, some (.long l9), none, some (.long l11), none, some (.long l13), none, some (.int x15), none, none, none, none, some (.long l20), none, some (.long l22), none, none, none] [.long (f_RM_away l3 l5 l7 l9 l11 l13 l22)] I J
      refine g_lstore (L' := [some (.ref 67), some (.int x1), some (.int x2), some (.long l3), none, some (.long l5), none, some (.long l7), none, some (.long l9), none, some (.long l11), none, some (.long l13), none, some (.int x15), none, none, none, none, some (.long l20), none, some (.long l22), none, some (.long (f_RM_away l3 l5 l7 l9 l11 l13 l22)), none]) dc_RM_costsBySums_158 rfl (Nat.le_of_ble_eq_true rfl) rfl ?_
      refine g_lload dc_RM_costsBySums_160 rfl rfl ?_
      refine g_lload dc_RM_costsBySums_162 rfl rfl ?_
      refine g_lc_ge (tgt := 173) dc_RM_costsBySums_164 rfl dc_RM_costsBySums_165 rfl (by decide) (fun c3 => ?_) (fun c3 => ?_)
      · refine g_lload dc_RM_costsBySums_173 rfl rfl ?_
        refine g_weak [some (.ref 67), some (.int x1), some (.int x2), some (.long l3), none, some (.long l5), none, some (.long l7), none, some (.long l9), none, some (.long l11), none, some (.long l13), none, some (.int x15), none, none, none, none, none, none, some (.long l22), none, none, none] ⟨rfl, ⟨rfl, ⟨rfl, ⟨rfl, ⟨rfl, ⟨rfl, ⟨rfl, ⟨rfl, ⟨rfl, ⟨rfl, ⟨rfl, trivial⟩⟩⟩⟩⟩⟩⟩⟩⟩⟩⟩ ?_
        exact (k3 c1 c2 c3)
      · refine g_lload dc_RM_costsBySums_168 rfl rfl ?_
        refine g_goto (tgt := 175) dc_RM_costsBySums_170 (by decide) ?_
        refine g_weak [some (.ref 67), some (.int x1), some (.int x2), some (.long l3), none, some (.long l5), none, some (.long l7), none, some (.long l9), none, some (.long l11), none, some (.long l13), none, some (.int x15), none, none, none, none, none, none, some (.long l22), none, none, none] ⟨rfl, ⟨rfl, ⟨rfl, ⟨rfl, ⟨rfl, ⟨rfl, ⟨rfl, ⟨rfl, ⟨rfl, ⟨rfl, ⟨rfl, trivial⟩⟩⟩⟩⟩⟩⟩⟩⟩⟩⟩ ?_
        exact (k4 c1 c2 c3)
theorem w_RM_costsBySums_175 {G : GC} {d : Nat} {P : PT} {I : MI} {J : MJ} {x1 : Int32} {x2 : Int32} {l3 : Int64} {l5 : Int64} {l7 : Int64} {l9 : Int64} {l11 : Int64} {l13 : Int64} {x15 : Int32} {l22 : Int64} {s0 : Int64} (k1 : Go G (fr G m_RM_costsBySums (d + 2) P) 129 [some (.ref 67), some (.int x1), some (.int x2), some (.long l3), none, some (.long l5), none, some (.long l7), none, some (.long l9), none, some (.long l11), none, some (.long l13), none, some (.int x15), none, none, none, none, some (.long s0), none, some (.long (l22 + 1)), none, none, none] [] I J) : Go G (fr G m_RM_costsBySums (d + 2) P) 175 [some (.ref 67), some (.int x1), some (.int x2), some (.long l3), none, some (.long l5), none, some (.long l7), none, some (.long l9), none, some (.long l11), none, some (.long l13), none, some (.int x15), none, none, none, none, none, none, some (.long l22), none, none, none] [.long s0] I J := by
  refine g_lstore (L' := [some (.ref 67), some (.int x1), some (.int x2), some (.long l3), none, some (.long l5), none, some (.long l7), none, some (.long l9), none, some (.long l11), none, some (.long l13), none, some (.int x15), none, none, none, none, some (.long s0), none, some (.long l22), none, none, none]) dc_RM_costsBySums_175 rfl (Nat.le_of_ble_eq_true rfl) rfl ?_
  refine g_lload dc_RM_costsBySums_177 rfl rfl ?_
  refine g_lconst (v := 1) dc_RM_costsBySums_179 rfl (by decide) ?_
  refine g_ladd dc_RM_costsBySums_180 rfl ?_
  refine g_lstore (L' := [some (.ref 67), some (.int x1), some (.int x2), some (.long l3), none, some (.long l5), none, some (.long l7), none, some (.long l9), none, some (.long l11), none, some (.long l13), none, some (.int x15), none, none, none, none, some (.long s0), none, some (.long (l22 + 1)), none, none, none]) dc_RM_costsBySums_181 rfl (Nat.le_of_ble_eq_true rfl) rfl ?_
  refine g_goto (tgt := 129) dc_RM_costsBySums_183 (by decide) ?_
  exact k1
theorem w_RM_costsBySums_186 {G : GC} {d : Nat} {P : PT} {I : MI} {J : MJ} {x1 : Int32} {x2 : Int32} {l3 : Int64} {l5 : Int64} {l7 : Int64} {l9 : Int64} {l11 : Int64} {l13 : Int64} {x15 : Int32} {l20 : Int64} (k1 : Ct G (d + 1) m_RM_keeps [.ref 67, .int ((40 * x1) + x15), .long l20, .long l3] (fun r I' J' => Go G (fr G m_RM_costsBySums (d + 2) P) 200 [some (.ref 67), some (.int x1), some (.int x2), some (.long l3), none, some (.long l5), none, some (.long l7), none, some (.long l9), none, some (.long l11), none, some (.long l13), none, some (.int x15), none, none, none, none, none, none, none, none, none, none] (r.toList ++ []) I' J') I J) : Go G (fr G m_RM_costsBySums (d + 2) P) 186 [some (.ref 67), some (.int x1), some (.int x2), some (.long l3), none, some (.long l5), none, some (.long l7), none, some (.long l9), none, some (.long l11), none, some (.long l13), none, some (.int x15), none, none, none, none, some (.long l20), none, none, none, none, none] [] I J := by
  refine g_aload_n dc_RM_costsBySums_186 rfl rfl rfl ?_
  refine g_bipush (v := 40) dc_RM_costsBySums_187 rfl (by decide) ?_
  refine g_iload_n dc_RM_costsBySums_189 rfl rfl rfl ?_
  refine g_imul dc_RM_costsBySums_190 rfl ?_
  refine g_iload dc_RM_costsBySums_191 rfl rfl ?_
  refine g_iadd dc_RM_costsBySums_193 rfl ?_
  refine g_lload dc_RM_costsBySums_194 rfl rfl ?_
  refine g_lload_n dc_RM_costsBySums_196 rfl rfl rfl ?_
  refine g_weak [some (.ref 67), some (.int x1), some (.int x2), some (.long l3), none, some (.long l5), none, some (.long l7), none, some (.long l9), none, some (.long l11), none, some (.long l13), none, some (.int x15), none, none, none, none, none, none, none, none, none, none] ⟨rfl, ⟨rfl, ⟨rfl, ⟨rfl, ⟨rfl, ⟨rfl, ⟨rfl, ⟨rfl, ⟨rfl, ⟨rfl, trivial⟩⟩⟩⟩⟩⟩⟩⟩⟩⟩ ?_
  exact g_callV (T := T_RM) (N := 45) (As := [.int ((40 * x1) + x15), .long l20, .long l3]) (rest := []) ok_RM_keeps in_RM_keeps se_RM_keeps ml_RM_171 sh_67 (by decide) rfl rfl rfl (Nat.le_of_ble_eq_true rfl) dc_RM_costsBySums_197 rfl rOk_fr k1
theorem w_RM_costsBySums_200 {G : GC} {d : Nat} {P : PT} {I : MI} {J : MJ} {x1 : Int32} {x2 : Int32} {l3 : Int64} {l5 : Int64} {l7 : Int64} {l9 : Int64} {l11 : Int64} {l13 : Int64} {x15 : Int32} (k1 : Go G (fr G m_RM_costsBySums (d + 2) P) 20 [some (.ref 67), some (.int x1), some (.int x2), some (.long l3), none, some (.long l5), none, some (.long l7), none, some (.long l9), none, some (.long l11), none, some (.long l13), none, some (.int (x15 + 1)), none, none, none, none, none, none, none, none, none, none] [] I J) : Go G (fr G m_RM_costsBySums (d + 2) P) 200 [some (.ref 67), some (.int x1), some (.int x2), some (.long l3), none, some (.long l5), none, some (.long l7), none, some (.long l9), none, some (.long l11), none, some (.long l13), none, some (.int x15), none, none, none, none, none, none, none, none, none, none] [] I J := by
  refine g_iinc (v := (x15 + 1)) (L' := [some (.ref 67), some (.int x1), some (.int x2), some (.long l3), none, some (.long l5), none, some (.long l7), none, some (.long l9), none, some (.long l11), none, some (.long l13), none, some (.int (x15 + 1)), none, none, none, none, none, none, none, none, none, none]) dc_RM_costsBySums_200 rfl rfl (by rw [show Int32.ofInt 1 = 1 from by decide]) (Nat.le_of_ble_eq_true rfl) rfl ?_
  refine g_goto (tgt := 20) dc_RM_costsBySums_203 (by decide) ?_
  exact k1
theorem dc_RM_count_0 : decode prog_14_method_81_code 0 = .ok (.iload_n 1, 1) := by decide +kernel
theorem dc_RM_count_1 : decode prog_14_method_81_code 1 = .ok (.tableswitch 82 0 8 #[51, 51, 51, 51, 57, 62, 67, 72, 77], 51) := by decide +kernel
theorem dc_RM_count_52 : decode prog_14_method_81_code 52 = .ok (.aload_n 0, 1) := by decide +kernel
theorem dc_RM_count_53 : decode prog_14_method_81_code 53 = .ok (.iload_n 1, 1) := by decide +kernel
theorem dc_RM_count_54 : decode prog_14_method_81_code 54 = .ok (.invokevirtual 152, 3) := by decide +kernel
theorem dc_RM_count_57 : decode prog_14_method_81_code 57 = .ok (.ireturn, 1) := by decide +kernel
theorem dc_RM_count_58 : decode prog_14_method_81_code 58 = .ok (.aload_n 0, 1) := by decide +kernel
theorem dc_RM_count_59 : decode prog_14_method_81_code 59 = .ok (.getfield 116, 3) := by decide +kernel
theorem dc_RM_count_62 : decode prog_14_method_81_code 62 = .ok (.ireturn, 1) := by decide +kernel
theorem dc_RM_count_63 : decode prog_14_method_81_code 63 = .ok (.aload_n 0, 1) := by decide +kernel
theorem dc_RM_count_64 : decode prog_14_method_81_code 64 = .ok (.getfield 22, 3) := by decide +kernel
theorem dc_RM_count_67 : decode prog_14_method_81_code 67 = .ok (.ireturn, 1) := by decide +kernel
theorem dc_RM_count_68 : decode prog_14_method_81_code 68 = .ok (.aload_n 0, 1) := by decide +kernel
theorem dc_RM_count_69 : decode prog_14_method_81_code 69 = .ok (.invokevirtual 126, 3) := by decide +kernel
theorem dc_RM_count_72 : decode prog_14_method_81_code 72 = .ok (.ireturn, 1) := by decide +kernel
theorem dc_RM_count_73 : decode prog_14_method_81_code 73 = .ok (.aload_n 0, 1) := by decide +kernel
theorem dc_RM_count_74 : decode prog_14_method_81_code 74 = .ok (.getfield 296, 3) := by decide +kernel
theorem dc_RM_count_77 : decode prog_14_method_81_code 77 = .ok (.ireturn, 1) := by decide +kernel
theorem dc_RM_count_78 : decode prog_14_method_81_code 78 = .ok (.aload_n 0, 1) := by decide +kernel
theorem dc_RM_count_79 : decode prog_14_method_81_code 79 = .ok (.getfield 324, 3) := by decide +kernel
theorem dc_RM_count_82 : decode prog_14_method_81_code 82 = .ok (.ireturn, 1) := by decide +kernel
theorem dc_RM_count_83 : decode prog_14_method_81_code 83 = .ok (.bipush (-2), 2) := by decide +kernel
theorem dc_RM_count_85 : decode prog_14_method_81_code 85 = .ok (.ireturn, 1) := by decide +kernel
theorem w_RM_count_0 {G : GC} {d : Nat} {P : PT} {I : MI} {J : MJ} {x1 : Int32} (k1 : (x1 = 0) → Ct G (d + 1) m_RM_manyOf [.ref 67, .int x1] (fun r I' J' => Go G (fr G m_RM_count (d + 2) P) 57 [none, none] (r.toList ++ []) I' J') I J) (k2 : (x1 = 1) → Ct G (d + 1) m_RM_manyOf [.ref 67, .int x1] (fun r I' J' => Go G (fr G m_RM_count (d + 2) P) 57 [none, none] (r.toList ++ []) I' J') I J) (k3 : (x1 = 2) → Ct G (d + 1) m_RM_manyOf [.ref 67, .int x1] (fun r I' J' => Go G (fr G m_RM_count (d + 2) P) 57 [none, none] (r.toList ++ []) I' J') I J) (k4 : (x1 = 3) → Ct G (d + 1) m_RM_manyOf [.ref 67, .int x1] (fun r I' J' => Go G (fr G m_RM_count (d + 2) P) 57 [none, none] (r.toList ++ []) I' J') I J) (q5 : (x1 = 4) → P (some (.int (I 67 0))) I J) (q6 : (x1 = 5) → P (some (.int (I 67 5))) I J) (k7 : (x1 = 6) → Ct G (d + 1) m_RM_lastTime [.ref 67] (fun r I' J' => Go G (fr G m_RM_count (d + 2) P) 72 [none, none] (r.toList ++ []) I' J') I J) (q8 : (x1 = 7) → P (some (.int (I 67 31))) I J) (q9 : (x1 = 8) → P (some (.int (I 67 44))) I J) (q10 : (¬ x1 = 0) → (¬ x1 = 1) → (¬ x1 = 2) → (¬ x1 = 3) → (¬ x1 = 4) → (¬ x1 = 5) → (¬ x1 = 6) → (¬ x1 = 7) → (¬ x1 = 8) → P (some (.int (-2))) I J) : Go G (fr G m_RM_count (d + 2) P) 0 [some (.ref 67), some (.int x1)] [] I J := by
  refine g_iload_n dc_RM_count_0 rfl rfl rfl ?_
  by_cases c1 : x1 = 0
  · refine g_tabIn (tgt := 52) dc_RM_count_1 (by rw [c1]; decide) (by rw [c1]; decide) (by rw [c1]; rfl) (by decide) ?_
    refine g_aload_n dc_RM_count_52 rfl rfl rfl ?_
    refine g_iload_n dc_RM_count_53 rfl rfl rfl ?_
    refine g_weak [none, none] trivial ?_
    exact g_callV (T := T_RM) (N := 45) (As := [.int x1]) (rest := []) ok_RM_manyOf in_RM_manyOf se_RM_manyOf ml_RM_152 sh_67 (by decide) rfl rfl rfl (Nat.le_of_ble_eq_true rfl) dc_RM_count_54 rfl rOk_fr (k1 c1)
  by_cases c2 : x1 = 1
  · refine g_tabIn (tgt := 52) dc_RM_count_1 (by rw [c2]; decide) (by rw [c2]; decide) (by rw [c2]; rfl) (by decide) ?_
    refine g_aload_n dc_RM_count_52 rfl rfl rfl ?_
    refine g_iload_n dc_RM_count_53 rfl rfl rfl ?_
    refine g_weak [none, none] trivial ?_
    exact g_callV (T := T_RM) (N := 45) (As := [.int x1]) (rest := []) ok_RM_manyOf in_RM_manyOf se_RM_manyOf ml_RM_152 sh_67 (by decide) rfl rfl rfl (Nat.le_of_ble_eq_true rfl) dc_RM_count_54 rfl rOk_fr (k2 c2)
  by_cases c3 : x1 = 2
  · refine g_tabIn (tgt := 52) dc_RM_count_1 (by rw [c3]; decide) (by rw [c3]; decide) (by rw [c3]; rfl) (by decide) ?_
    refine g_aload_n dc_RM_count_52 rfl rfl rfl ?_
    refine g_iload_n dc_RM_count_53 rfl rfl rfl ?_
    refine g_weak [none, none] trivial ?_
    exact g_callV (T := T_RM) (N := 45) (As := [.int x1]) (rest := []) ok_RM_manyOf in_RM_manyOf se_RM_manyOf ml_RM_152 sh_67 (by decide) rfl rfl rfl (Nat.le_of_ble_eq_true rfl) dc_RM_count_54 rfl rOk_fr (k3 c3)
  by_cases c4 : x1 = 3
  · refine g_tabIn (tgt := 52) dc_RM_count_1 (by rw [c4]; decide) (by rw [c4]; decide) (by rw [c4]; rfl) (by decide) ?_
    refine g_aload_n dc_RM_count_52 rfl rfl rfl ?_
    refine g_iload_n dc_RM_count_53 rfl rfl rfl ?_
    refine g_weak [none, none] trivial ?_
    exact g_callV (T := T_RM) (N := 45) (As := [.int x1]) (rest := []) ok_RM_manyOf in_RM_manyOf se_RM_manyOf ml_RM_152 sh_67 (by decide) rfl rfl rfl (Nat.le_of_ble_eq_true rfl) dc_RM_count_54 rfl rOk_fr (k4 c4)
  by_cases c5 : x1 = 4
  · refine g_tabIn (tgt := 58) dc_RM_count_1 (by rw [c5]; decide) (by rw [c5]; decide) (by rw [c5]; rfl) (by decide) ?_
    refine g_aload_n dc_RM_count_58 rfl rfl rfl ?_
    refine g_get (C := "LevelBreaksModel") (T := T_RM) (N := 45) (k := 0) (v := .int (I 67 0)) sh_67 (by decide) rfl rfl i_RM (by decide) fl_RM_116 (Or.inl rfl) rfl dc_RM_count_59 rfl ?_
    exact g_iret rfl dc_RM_count_62 (q5 c5)
  by_cases c6 : x1 = 5
  · refine g_tabIn (tgt := 63) dc_RM_count_1 (by rw [c6]; decide) (by rw [c6]; decide) (by rw [c6]; rfl) (by decide) ?_
    refine g_aload_n dc_RM_count_63 rfl rfl rfl ?_
    refine g_get (C := "LevelBreaksModel") (T := T_RM) (N := 45) (k := 5) (v := .int (I 67 5)) sh_67 (by decide) rfl rfl i_RM (by decide) fl_RM_22 (Or.inl rfl) rfl dc_RM_count_64 rfl ?_
    exact g_iret rfl dc_RM_count_67 (q6 c6)
  by_cases c7 : x1 = 6
  · refine g_tabIn (tgt := 68) dc_RM_count_1 (by rw [c7]; decide) (by rw [c7]; decide) (by rw [c7]; rfl) (by decide) ?_
    refine g_aload_n dc_RM_count_68 rfl rfl rfl ?_
    refine g_weak [none, none] trivial ?_
    exact g_callV (T := T_RM) (N := 45) (As := []) (rest := []) ok_RM_lastTime in_RM_lastTime se_RM_lastTime ml_RM_126 sh_67 (by decide) rfl rfl rfl (Nat.le_of_ble_eq_true rfl) dc_RM_count_69 rfl rOk_fr (k7 c7)
  by_cases c8 : x1 = 7
  · refine g_tabIn (tgt := 73) dc_RM_count_1 (by rw [c8]; decide) (by rw [c8]; decide) (by rw [c8]; rfl) (by decide) ?_
    refine g_aload_n dc_RM_count_73 rfl rfl rfl ?_
    refine g_get (C := "LevelBreaksModel") (T := T_RM) (N := 45) (k := 31) (v := .int (I 67 31)) sh_67 (by decide) rfl rfl i_RM (by decide) fl_RM_296 (Or.inl rfl) rfl dc_RM_count_74 rfl ?_
    exact g_iret rfl dc_RM_count_77 (q8 c8)
  by_cases c9 : x1 = 8
  · refine g_tabIn (tgt := 78) dc_RM_count_1 (by rw [c9]; decide) (by rw [c9]; decide) (by rw [c9]; rfl) (by decide) ?_
    refine g_aload_n dc_RM_count_78 rfl rfl rfl ?_
    refine g_get (C := "LevelBreaksModel") (T := T_RM) (N := 45) (k := 44) (v := .int (I 67 44)) sh_67 (by decide) rfl rfl i_RM (by decide) fl_RM_324 (Or.inl rfl) rfl dc_RM_count_79 rfl ?_
    exact g_iret rfl dc_RM_count_82 (q9 c9)
  refine g_tabOut (tgt := 83) dc_RM_count_1 (by
      have t0 : Int32.toInt x1 ≠ 0 := fun h => c1 (Int32.toInt_inj.mp (h.trans (by decide)))
      have t1 : Int32.toInt x1 ≠ 1 := fun h => c2 (Int32.toInt_inj.mp (h.trans (by decide)))
      have t2 : Int32.toInt x1 ≠ 2 := fun h => c3 (Int32.toInt_inj.mp (h.trans (by decide)))
      have t3 : Int32.toInt x1 ≠ 3 := fun h => c4 (Int32.toInt_inj.mp (h.trans (by decide)))
      have t4 : Int32.toInt x1 ≠ 4 := fun h => c5 (Int32.toInt_inj.mp (h.trans (by decide)))
      have t5 : Int32.toInt x1 ≠ 5 := fun h => c6 (Int32.toInt_inj.mp (h.trans (by decide)))
      have t6 : Int32.toInt x1 ≠ 6 := fun h => c7 (Int32.toInt_inj.mp (h.trans (by decide)))
      have t7 : Int32.toInt x1 ≠ 7 := fun h => c8 (Int32.toInt_inj.mp (h.trans (by decide)))
      have t8 : Int32.toInt x1 ≠ 8 := fun h => c9 (Int32.toInt_inj.mp (h.trans (by decide)))
      omega) (by decide) ?_
  refine g_bipush (v := (-2)) dc_RM_count_83 rfl (by decide) ?_
  exact g_iret rfl dc_RM_count_85 (q10 c1 c2 c3 c4 c5 c6 c7 c8 c9)
theorem w_RM_count_57 {G : GC} {d : Nat} {P : PT} {I : MI} {J : MJ} {y0 : Int32} (q1 : P (some (.int y0)) I J) : Go G (fr G m_RM_count (d + 2) P) 57 [none, none] [.int y0] I J := by
  exact g_iret rfl dc_RM_count_57 q1
theorem w_RM_count_72 {G : GC} {d : Nat} {P : PT} {I : MI} {J : MJ} {y0 : Int32} (q1 : P (some (.int y0)) I J) : Go G (fr G m_RM_count (d + 2) P) 72 [none, none] [.int y0] I J := by
  exact g_iret rfl dc_RM_count_72 q1
theorem dc_RM_cut_0 : decode prog_14_method_34_code 0 = .ok (.iload_n 1, 1) := by decide +kernel
theorem dc_RM_cut_1 : decode prog_14_method_34_code 1 = .ok (.iload_n 2, 1) := by decide +kernel
theorem dc_RM_cut_2 : decode prog_14_method_34_code 2 = .ok (.iload_n 3, 1) := by decide +kernel
theorem dc_RM_cut_3 : decode prog_14_method_34_code 3 = .ok (.invokestatic 217, 3) := by decide +kernel
theorem dc_RM_cut_6 : decode prog_14_method_34_code 6 = .ok (.ifCond .eq 15, 3) := by decide +kernel
theorem dc_RM_cut_9 : decode prog_14_method_34_code 9 = .ok (.iload 4, 2) := by decide +kernel
theorem dc_RM_cut_11 : decode prog_14_method_34_code 11 = .ok (.iconst 0, 1) := by decide +kernel
theorem dc_RM_cut_12 : decode prog_14_method_34_code 12 = .ok (.iload_n 3, 1) := by decide +kernel
theorem dc_RM_cut_13 : decode prog_14_method_34_code 13 = .ok (.iconst 1, 1) := by decide +kernel
theorem dc_RM_cut_14 : decode prog_14_method_34_code 14 = .ok (.isub, 1) := by decide +kernel
theorem dc_RM_cut_15 : decode prog_14_method_34_code 15 = .ok (.invokestatic 112, 3) := by decide +kernel
theorem dc_RM_cut_18 : decode prog_14_method_34_code 18 = .ok (.ifCond .ne 6, 3) := by decide +kernel
theorem dc_RM_cut_21 : decode prog_14_method_34_code 21 = .ok (.bipush (-2), 2) := by decide +kernel
theorem dc_RM_cut_23 : decode prog_14_method_34_code 23 = .ok (.ireturn, 1) := by decide +kernel
theorem dc_RM_cut_24 : decode prog_14_method_34_code 24 = .ok (.aload_n 0, 1) := by decide +kernel
theorem dc_RM_cut_25 : decode prog_14_method_34_code 25 = .ok (.iload_n 1, 1) := by decide +kernel
theorem dc_RM_cut_26 : decode prog_14_method_34_code 26 = .ok (.iload_n 2, 1) := by decide +kernel
theorem dc_RM_cut_27 : decode prog_14_method_34_code 27 = .ok (.iload_n 3, 1) := by decide +kernel
theorem dc_RM_cut_28 : decode prog_14_method_34_code 28 = .ok (.aload_n 0, 1) := by decide +kernel
theorem dc_RM_cut_29 : decode prog_14_method_34_code 29 = .ok (.getfield 22, 3) := by decide +kernel
theorem dc_RM_cut_32 : decode prog_14_method_34_code 32 = .ok (.invokevirtual 220, 3) := by decide +kernel
theorem dc_RM_cut_35 : decode prog_14_method_34_code 35 = .ok (.ifCond .eq 18, 3) := by decide +kernel
theorem dc_RM_cut_38 : decode prog_14_method_34_code 38 = .ok (.aload_n 0, 1) := by decide +kernel
theorem dc_RM_cut_39 : decode prog_14_method_34_code 39 = .ok (.getfield 32, 3) := by decide +kernel
theorem dc_RM_cut_42 : decode prog_14_method_34_code 42 = .ok (.aload_n 0, 1) := by decide +kernel
theorem dc_RM_cut_43 : decode prog_14_method_34_code 43 = .ok (.getfield 60, 3) := by decide +kernel
theorem dc_RM_cut_46 : decode prog_14_method_34_code 46 = .ok (.iload 4, 2) := by decide +kernel
theorem dc_RM_cut_48 : decode prog_14_method_34_code 48 = .ok (.iaload, 1) := by decide +kernel
theorem dc_RM_cut_49 : decode prog_14_method_34_code 49 = .ok (.iaload, 1) := by decide +kernel
theorem dc_RM_cut_50 : decode prog_14_method_34_code 50 = .ok (.goto 5, 3) := by decide +kernel
theorem dc_RM_cut_53 : decode prog_14_method_34_code 53 = .ok (.bipush (-3), 2) := by decide +kernel
theorem dc_RM_cut_55 : decode prog_14_method_34_code 55 = .ok (.ireturn, 1) := by decide +kernel
theorem w_RM_cut_0 {G : GC} {d : Nat} {P : PT} {I : MI} {J : MJ} {x1 : Int32} {x2 : Int32} {x3 : Int32} {x4 : Int32} (k1 : ((f_RM_isCut x1 x2 x3) = 0) → Go G (fr G m_RM_cut (d + 5) P) 21 [none, none, none, none, none] [] I J) (k2 : (¬ ((f_RM_isCut x1 x2 x3) = 0)) → (¬ (f_RM_in x4 0 (x3 - 1)) = 0) → Ct G (d + 4) m_RM_finds [.ref 67, .int x1, .int x2, .int x3, .int (I 67 5)] (fun r I' J' => Go G (fr G m_RM_cut (d + 5) P) 35 [some (.ref 67), none, none, none, some (.int x4)] (r.toList ++ []) I' J') I J) (k3 : (¬ ((f_RM_isCut x1 x2 x3) = 0)) → ((f_RM_in x4 0 (x3 - 1)) = 0) → Go G (fr G m_RM_cut (d + 5) P) 21 [none, none, none, none, none] [] I J) : Go G (fr G m_RM_cut (d + 5) P) 0 [some (.ref 67), some (.int x1), some (.int x2), some (.int x3), some (.int x4)] [] I J := by
  refine g_iload_n dc_RM_cut_0 rfl rfl rfl ?_
  refine g_iload_n dc_RM_cut_1 rfl rfl rfl ?_
  refine g_iload_n dc_RM_cut_2 rfl rfl rfl ?_
  refine g_callS (M := m_RM_isCut) (As := [.int x1, .int x2, .int x3]) (rest := []) ok_RM_isCut st_RM_isCut ml_RM_217 rfl rfl (Nat.le_of_ble_eq_true rfl) dc_RM_cut_3 rfl rOk_fr (c_RM_isCut ?_)
  show Go G (fr G m_RM_cut (d + 5) P) 6 [some (.ref 67), some (.int x1), some (.int x2), some (.int x3), some (.int x4)] [.int (f_RM_isCut x1 x2 x3)] I J
  refine g_if_eq (tgt := 21) dc_RM_cut_6 rfl (by decide) (fun c1 => ?_) (fun c1 => ?_)
  · refine g_weak [none, none, none, none, none] trivial ?_
    exact (k1 c1)
  · refine g_iload dc_RM_cut_9 rfl rfl ?_
    refine g_iconst (v := 0) dc_RM_cut_11 rfl (by decide) ?_
    refine g_iload_n dc_RM_cut_12 rfl rfl rfl ?_
    refine g_iconst (v := 1) dc_RM_cut_13 rfl (by decide) ?_
    refine g_isub dc_RM_cut_14 rfl ?_
    refine g_callS (M := m_RM_in) (As := [.int x4, .int 0, .int (x3 - 1)]) (rest := []) ok_RM_in st_RM_in ml_RM_112 rfl rfl (Nat.le_of_ble_eq_true rfl) dc_RM_cut_15 rfl rOk_fr (c_RM_in ?_)
    show Go G (fr G m_RM_cut (d + 5) P) 18 [some (.ref 67), some (.int x1), some (.int x2), some (.int x3), some (.int x4)] [.int (f_RM_in x4 0 (x3 - 1))] I J
    refine g_if_ne (tgt := 24) dc_RM_cut_18 rfl (by decide) (fun c2 => ?_) (fun c2 => ?_)
    · refine g_aload_n dc_RM_cut_24 rfl rfl rfl ?_
      refine g_iload_n dc_RM_cut_25 rfl rfl rfl ?_
      refine g_iload_n dc_RM_cut_26 rfl rfl rfl ?_
      refine g_iload_n dc_RM_cut_27 rfl rfl rfl ?_
      refine g_aload_n dc_RM_cut_28 rfl rfl rfl ?_
      refine g_get (C := "LevelBreaksModel") (T := T_RM) (N := 45) (k := 5) (v := .int (I 67 5)) sh_67 (by decide) rfl rfl i_RM (by decide) fl_RM_22 (Or.inl rfl) rfl dc_RM_cut_29 rfl ?_
      refine g_weak [some (.ref 67), none, none, none, some (.int x4)] ⟨rfl, ⟨rfl, trivial⟩⟩ ?_
      exact g_callV (T := T_RM) (N := 45) (As := [.int x1, .int x2, .int x3, .int (I 67 5)]) (rest := []) ok_RM_finds in_RM_finds se_RM_finds ml_RM_220 sh_67 (by decide) rfl rfl rfl (Nat.le_of_ble_eq_true rfl) dc_RM_cut_32 rfl rOk_fr (k2 c1 c2)
    · refine g_weak [none, none, none, none, none] trivial ?_
      exact (k3 c1 c2)
theorem w_RM_cut_21 {G : GC} {d : Nat} {P : PT} {I : MI} {J : MJ}  (q1 : P (some (.int (-2))) I J) : Go G (fr G m_RM_cut (d + 5) P) 21 [none, none, none, none, none] [] I J := by
  refine g_bipush (v := (-2)) dc_RM_cut_21 rfl (by decide) ?_
  exact g_iret rfl dc_RM_cut_23 q1
theorem w_RM_cut_35 {G : GC} {d : Nat} {P : PT} {I : MI} {J : MJ} {x4 : Int32} {y0 : Int32} (q1 : (y0 = 0) → P (some (.int (-3))) I J) (b2 : (¬ (y0 = 0)) → vp_in x4 7) (b3 : (¬ (y0 = 0)) → vp_in (I 83 x4.toNatClampNeg) 40) (q4 : (¬ (y0 = 0)) → P (some (.int (I 74 (I 83 x4.toNatClampNeg).toNatClampNeg))) I J) : Go G (fr G m_RM_cut (d + 5) P) 35 [some (.ref 67), none, none, none, some (.int x4)] [.int y0] I J := by
  refine g_if_eq (tgt := 53) dc_RM_cut_35 rfl (by decide) (fun c1 => ?_) (fun c1 => ?_)
  · refine g_bipush (v := (-3)) dc_RM_cut_53 rfl (by decide) ?_
    exact g_iret rfl dc_RM_cut_55 (q1 c1)
  · refine g_aload_n dc_RM_cut_38 rfl rfl rfl ?_
    refine g_get (C := "LevelBreaksModel") (T := T_RM) (N := 45) (k := 9) (v := .ref 74) sh_67 (by decide) rfl rfl i_RM (by decide) fl_RM_32 (Or.inl rfl) rfl dc_RM_cut_39 rfl ?_
    refine g_aload_n dc_RM_cut_42 rfl rfl rfl ?_
    refine g_get (C := "LevelBreaksModel") (T := T_RM) (N := 45) (k := 21) (v := .ref 83) sh_67 (by decide) rfl rfl i_RM (by decide) fl_RM_60 (Or.inl rfl) rfl dc_RM_cut_43 rfl ?_
    refine g_iload dc_RM_cut_46 rfl rfl ?_
    refine g_ialdv (v := (I 83 x4.toNatClampNeg)) sh_83 (b2 c1) rfl dc_RM_cut_48 rfl ?_
    refine g_ialdv (v := (I 74 (I 83 x4.toNatClampNeg).toNatClampNeg)) sh_74 (b3 c1) rfl dc_RM_cut_49 rfl ?_
    refine g_goto (tgt := 55) dc_RM_cut_50 (by decide) ?_
    exact g_iret rfl dc_RM_cut_55 (q4 c1)
theorem dc_RM_cuts_0 : decode prog_14_method_28_code 0 = .ok (.iconst 0, 1) := by decide +kernel
theorem dc_RM_cuts_1 : decode prog_14_method_28_code 1 = .ok (.istore_n 3, 1) := by decide +kernel
theorem dc_RM_cuts_2 : decode prog_14_method_28_code 2 = .ok (.iload_n 3, 1) := by decide +kernel
theorem dc_RM_cuts_3 : decode prog_14_method_28_code 3 = .ok (.iload_n 1, 1) := by decide +kernel
theorem dc_RM_cuts_4 : decode prog_14_method_28_code 4 = .ok (.if_icmp .gt 240, 3) := by decide +kernel
theorem dc_RM_cuts_7 : decode prog_14_method_28_code 7 = .ok (.aload_n 0, 1) := by decide +kernel
theorem dc_RM_cuts_8 : decode prog_14_method_28_code 8 = .ok (.getfield 145, 3) := by decide +kernel
theorem dc_RM_cuts_11 : decode prog_14_method_28_code 11 = .ok (.istore 4, 2) := by decide +kernel
theorem dc_RM_cuts_13 : decode prog_14_method_28_code 13 = .ok (.iload 4, 2) := by decide +kernel
theorem dc_RM_cuts_15 : decode prog_14_method_28_code 15 = .ok (.ifCond .lt 223, 3) := by decide +kernel
theorem dc_RM_cuts_18 : decode prog_14_method_28_code 18 = .ok (.bipush 41, 2) := by decide +kernel
theorem dc_RM_cuts_20 : decode prog_14_method_28_code 20 = .ok (.iload_n 3, 1) := by decide +kernel
theorem dc_RM_cuts_21 : decode prog_14_method_28_code 21 = .ok (.imul, 1) := by decide +kernel
theorem dc_RM_cuts_22 : decode prog_14_method_28_code 22 = .ok (.iload 4, 2) := by decide +kernel
theorem dc_RM_cuts_24 : decode prog_14_method_28_code 24 = .ok (.iadd, 1) := by decide +kernel
theorem dc_RM_cuts_25 : decode prog_14_method_28_code 25 = .ok (.istore 5, 2) := by decide +kernel
theorem dc_RM_cuts_27 : decode prog_14_method_28_code 27 = .ok (.aload_n 0, 1) := by decide +kernel
theorem dc_RM_cuts_28 : decode prog_14_method_28_code 28 = .ok (.getfield 51, 3) := by decide +kernel
theorem dc_RM_cuts_31 : decode prog_14_method_28_code 31 = .ok (.iload 5, 2) := by decide +kernel
theorem dc_RM_cuts_33 : decode prog_14_method_28_code 33 = .ok (.lconst 0, 1) := by decide +kernel
theorem dc_RM_cuts_34 : decode prog_14_method_28_code 34 = .ok (.lastore, 1) := by decide +kernel
theorem dc_RM_cuts_35 : decode prog_14_method_28_code 35 = .ok (.aload_n 0, 1) := by decide +kernel
theorem dc_RM_cuts_36 : decode prog_14_method_28_code 36 = .ok (.getfield 54, 3) := by decide +kernel
theorem dc_RM_cuts_39 : decode prog_14_method_28_code 39 = .ok (.iload 5, 2) := by decide +kernel
theorem dc_RM_cuts_41 : decode prog_14_method_28_code 41 = .ok (.lconst 0, 1) := by decide +kernel
theorem dc_RM_cuts_42 : decode prog_14_method_28_code 42 = .ok (.lastore, 1) := by decide +kernel
theorem dc_RM_cuts_43 : decode prog_14_method_28_code 43 = .ok (.aload_n 0, 1) := by decide +kernel
theorem dc_RM_cuts_44 : decode prog_14_method_28_code 44 = .ok (.getfield 57, 3) := by decide +kernel
theorem dc_RM_cuts_47 : decode prog_14_method_28_code 47 = .ok (.iload 5, 2) := by decide +kernel
theorem dc_RM_cuts_49 : decode prog_14_method_28_code 49 = .ok (.iload_n 3, 1) := by decide +kernel
theorem dc_RM_cuts_50 : decode prog_14_method_28_code 50 = .ok (.ifCond .ne 16, 3) := by decide +kernel
theorem dc_RM_cuts_53 : decode prog_14_method_28_code 53 = .ok (.iload 4, 2) := by decide +kernel
theorem dc_RM_cuts_55 : decode prog_14_method_28_code 55 = .ok (.aload_n 0, 1) := by decide +kernel
theorem dc_RM_cuts_56 : decode prog_14_method_28_code 56 = .ok (.getfield 145, 3) := by decide +kernel
theorem dc_RM_cuts_59 : decode prog_14_method_28_code 59 = .ok (.if_icmp .ne 7, 3) := by decide +kernel
theorem dc_RM_cuts_62 : decode prog_14_method_28_code 62 = .ok (.lconst 1, 1) := by decide +kernel
theorem dc_RM_cuts_63 : decode prog_14_method_28_code 63 = .ok (.goto 4, 3) := by decide +kernel
theorem dc_RM_cuts_66 : decode prog_14_method_28_code 66 = .ok (.lconst 0, 1) := by decide +kernel
theorem dc_RM_cuts_67 : decode prog_14_method_28_code 67 = .ok (.lastore, 1) := by decide +kernel
theorem dc_RM_cuts_68 : decode prog_14_method_28_code 68 = .ok (.iload 4, 2) := by decide +kernel
theorem dc_RM_cuts_70 : decode prog_14_method_28_code 70 = .ok (.iload_n 2, 1) := by decide +kernel
theorem dc_RM_cuts_71 : decode prog_14_method_28_code 71 = .ok (.iadd, 1) := by decide +kernel
theorem dc_RM_cuts_72 : decode prog_14_method_28_code 72 = .ok (.iconst 1, 1) := by decide +kernel
theorem dc_RM_cuts_73 : decode prog_14_method_28_code 73 = .ok (.isub, 1) := by decide +kernel
theorem dc_RM_cuts_74 : decode prog_14_method_28_code 74 = .ok (.istore 6, 2) := by decide +kernel
theorem dc_RM_cuts_76 : decode prog_14_method_28_code 76 = .ok (.iload 6, 2) := by decide +kernel
theorem dc_RM_cuts_78 : decode prog_14_method_28_code 78 = .ok (.aload_n 0, 1) := by decide +kernel
theorem dc_RM_cuts_79 : decode prog_14_method_28_code 79 = .ok (.getfield 145, 3) := by decide +kernel
theorem dc_RM_cuts_82 : decode prog_14_method_28_code 82 = .ok (.if_icmp .ge 150, 3) := by decide +kernel
theorem dc_RM_cuts_85 : decode prog_14_method_28_code 85 = .ok (.iload_n 3, 1) := by decide +kernel
theorem dc_RM_cuts_86 : decode prog_14_method_28_code 86 = .ok (.ifCond .le 146, 3) := by decide +kernel
theorem dc_RM_cuts_89 : decode prog_14_method_28_code 89 = .ok (.bipush 41, 2) := by decide +kernel
theorem dc_RM_cuts_91 : decode prog_14_method_28_code 91 = .ok (.iload_n 3, 1) := by decide +kernel
theorem dc_RM_cuts_92 : decode prog_14_method_28_code 92 = .ok (.iconst 1, 1) := by decide +kernel
theorem dc_RM_cuts_93 : decode prog_14_method_28_code 93 = .ok (.isub, 1) := by decide +kernel
theorem dc_RM_cuts_94 : decode prog_14_method_28_code 94 = .ok (.imul, 1) := by decide +kernel
theorem dc_RM_cuts_95 : decode prog_14_method_28_code 95 = .ok (.iload 6, 2) := by decide +kernel
theorem dc_RM_cuts_97 : decode prog_14_method_28_code 97 = .ok (.iadd, 1) := by decide +kernel
theorem dc_RM_cuts_98 : decode prog_14_method_28_code 98 = .ok (.iconst 1, 1) := by decide +kernel
theorem dc_RM_cuts_99 : decode prog_14_method_28_code 99 = .ok (.iadd, 1) := by decide +kernel
theorem dc_RM_cuts_100 : decode prog_14_method_28_code 100 = .ok (.istore 7, 2) := by decide +kernel
theorem dc_RM_cuts_102 : decode prog_14_method_28_code 102 = .ok (.aload_n 0, 1) := by decide +kernel
theorem dc_RM_cuts_103 : decode prog_14_method_28_code 103 = .ok (.getfield 57, 3) := by decide +kernel
theorem dc_RM_cuts_106 : decode prog_14_method_28_code 106 = .ok (.iload 7, 2) := by decide +kernel
theorem dc_RM_cuts_108 : decode prog_14_method_28_code 108 = .ok (.laload, 1) := by decide +kernel
theorem dc_RM_cuts_109 : decode prog_14_method_28_code 109 = .ok (.lconst 0, 1) := by decide +kernel
theorem dc_RM_cuts_110 : decode prog_14_method_28_code 110 = .ok (.lcmp, 1) := by decide +kernel
theorem dc_RM_cuts_111 : decode prog_14_method_28_code 111 = .ok (.ifCond .le 115, 3) := by decide +kernel
theorem dc_RM_cuts_114 : decode prog_14_method_28_code 114 = .ok (.aload_n 0, 1) := by decide +kernel
theorem dc_RM_cuts_115 : decode prog_14_method_28_code 115 = .ok (.getfield 57, 3) := by decide +kernel
theorem dc_RM_cuts_118 : decode prog_14_method_28_code 118 = .ok (.iload 5, 2) := by decide +kernel
theorem dc_RM_cuts_120 : decode prog_14_method_28_code 120 = .ok (.laload, 1) := by decide +kernel
theorem dc_RM_cuts_121 : decode prog_14_method_28_code 121 = .ok (.lconst 0, 1) := by decide +kernel
theorem dc_RM_cuts_122 : decode prog_14_method_28_code 122 = .ok (.lcmp, 1) := by decide +kernel
theorem dc_RM_cuts_123 : decode prog_14_method_28_code 123 = .ok (.ifCond .eq 35, 3) := by decide +kernel
theorem dc_RM_cuts_126 : decode prog_14_method_28_code 126 = .ok (.aload_n 0, 1) := by decide +kernel
theorem dc_RM_cuts_127 : decode prog_14_method_28_code 127 = .ok (.getfield 38, 3) := by decide +kernel
theorem dc_RM_cuts_130 : decode prog_14_method_28_code 130 = .ok (.bipush 40, 2) := by decide +kernel
theorem dc_RM_cuts_132 : decode prog_14_method_28_code 132 = .ok (.iload 4, 2) := by decide +kernel
theorem dc_RM_cuts_134 : decode prog_14_method_28_code 134 = .ok (.imul, 1) := by decide +kernel
theorem dc_RM_cuts_135 : decode prog_14_method_28_code 135 = .ok (.iload 6, 2) := by decide +kernel
theorem dc_RM_cuts_137 : decode prog_14_method_28_code 137 = .ok (.iadd, 1) := by decide +kernel
theorem dc_RM_cuts_138 : decode prog_14_method_28_code 138 = .ok (.laload, 1) := by decide +kernel
theorem dc_RM_cuts_139 : decode prog_14_method_28_code 139 = .ok (.aload_n 0, 1) := by decide +kernel
theorem dc_RM_cuts_140 : decode prog_14_method_28_code 140 = .ok (.getfield 51, 3) := by decide +kernel
theorem dc_RM_cuts_143 : decode prog_14_method_28_code 143 = .ok (.iload 7, 2) := by decide +kernel
theorem dc_RM_cuts_145 : decode prog_14_method_28_code 145 = .ok (.laload, 1) := by decide +kernel
theorem dc_RM_cuts_146 : decode prog_14_method_28_code 146 = .ok (.ladd, 1) := by decide +kernel
theorem dc_RM_cuts_147 : decode prog_14_method_28_code 147 = .ok (.aload_n 0, 1) := by decide +kernel
theorem dc_RM_cuts_148 : decode prog_14_method_28_code 148 = .ok (.getfield 51, 3) := by decide +kernel
theorem dc_RM_cuts_151 : decode prog_14_method_28_code 151 = .ok (.iload 5, 2) := by decide +kernel
theorem dc_RM_cuts_153 : decode prog_14_method_28_code 153 = .ok (.laload, 1) := by decide +kernel
theorem dc_RM_cuts_154 : decode prog_14_method_28_code 154 = .ok (.lcmp, 1) := by decide +kernel
theorem dc_RM_cuts_155 : decode prog_14_method_28_code 155 = .ok (.ifCond .gt 71, 3) := by decide +kernel
theorem dc_RM_cuts_158 : decode prog_14_method_28_code 158 = .ok (.aload_n 0, 1) := by decide +kernel
theorem dc_RM_cuts_159 : decode prog_14_method_28_code 159 = .ok (.bipush 40, 2) := by decide +kernel
theorem dc_RM_cuts_161 : decode prog_14_method_28_code 161 = .ok (.iload 4, 2) := by decide +kernel
theorem dc_RM_cuts_163 : decode prog_14_method_28_code 163 = .ok (.imul, 1) := by decide +kernel
theorem dc_RM_cuts_164 : decode prog_14_method_28_code 164 = .ok (.iload 6, 2) := by decide +kernel
theorem dc_RM_cuts_166 : decode prog_14_method_28_code 166 = .ok (.iadd, 1) := by decide +kernel
theorem dc_RM_cuts_167 : decode prog_14_method_28_code 167 = .ok (.iload 7, 2) := by decide +kernel
theorem dc_RM_cuts_169 : decode prog_14_method_28_code 169 = .ok (.invokevirtual 205, 3) := by decide +kernel
theorem dc_RM_cuts_172 : decode prog_14_method_28_code 172 = .ok (.aload_n 0, 1) := by decide +kernel
theorem dc_RM_cuts_173 : decode prog_14_method_28_code 173 = .ok (.getfield 57, 3) := by decide +kernel
theorem dc_RM_cuts_176 : decode prog_14_method_28_code 176 = .ok (.iload 5, 2) := by decide +kernel
theorem dc_RM_cuts_178 : decode prog_14_method_28_code 178 = .ok (.laload, 1) := by decide +kernel
theorem dc_RM_cuts_179 : decode prog_14_method_28_code 179 = .ok (.lconst 0, 1) := by decide +kernel
theorem dc_RM_cuts_180 : decode prog_14_method_28_code 180 = .ok (.lcmp, 1) := by decide +kernel
theorem dc_RM_cuts_181 : decode prog_14_method_28_code 181 = .ok (.ifCond .eq 12, 3) := by decide +kernel
theorem dc_RM_cuts_184 : decode prog_14_method_28_code 184 = .ok (.aload_n 0, 1) := by decide +kernel
theorem dc_RM_cuts_185 : decode prog_14_method_28_code 185 = .ok (.iload 5, 2) := by decide +kernel
theorem dc_RM_cuts_187 : decode prog_14_method_28_code 187 = .ok (.invokevirtual 208, 3) := by decide +kernel
theorem dc_RM_cuts_190 : decode prog_14_method_28_code 190 = .ok (.ifCond .ge 36, 3) := by decide +kernel
theorem dc_RM_cuts_193 : decode prog_14_method_28_code 193 = .ok (.aload_n 0, 1) := by decide +kernel
theorem dc_RM_cuts_194 : decode prog_14_method_28_code 194 = .ok (.getfield 51, 3) := by decide +kernel
theorem dc_RM_cuts_197 : decode prog_14_method_28_code 197 = .ok (.iload 5, 2) := by decide +kernel
theorem dc_RM_cuts_199 : decode prog_14_method_28_code 199 = .ok (.aload_n 0, 1) := by decide +kernel
theorem dc_RM_cuts_200 : decode prog_14_method_28_code 200 = .ok (.getfield 195, 3) := by decide +kernel
theorem dc_RM_cuts_203 : decode prog_14_method_28_code 203 = .ok (.lastore, 1) := by decide +kernel
theorem dc_RM_cuts_204 : decode prog_14_method_28_code 204 = .ok (.aload_n 0, 1) := by decide +kernel
theorem dc_RM_cuts_205 : decode prog_14_method_28_code 205 = .ok (.getfield 54, 3) := by decide +kernel
theorem dc_RM_cuts_208 : decode prog_14_method_28_code 208 = .ok (.iload 5, 2) := by decide +kernel
theorem dc_RM_cuts_210 : decode prog_14_method_28_code 210 = .ok (.aload_n 0, 1) := by decide +kernel
theorem dc_RM_cuts_211 : decode prog_14_method_28_code 211 = .ok (.getfield 199, 3) := by decide +kernel
theorem dc_RM_cuts_214 : decode prog_14_method_28_code 214 = .ok (.lastore, 1) := by decide +kernel
theorem dc_RM_cuts_215 : decode prog_14_method_28_code 215 = .ok (.aload_n 0, 1) := by decide +kernel
theorem dc_RM_cuts_216 : decode prog_14_method_28_code 216 = .ok (.getfield 57, 3) := by decide +kernel
theorem dc_RM_cuts_219 : decode prog_14_method_28_code 219 = .ok (.iload 5, 2) := by decide +kernel
theorem dc_RM_cuts_221 : decode prog_14_method_28_code 221 = .ok (.aload_n 0, 1) := by decide +kernel
theorem dc_RM_cuts_222 : decode prog_14_method_28_code 222 = .ok (.getfield 202, 3) := by decide +kernel
theorem dc_RM_cuts_225 : decode prog_14_method_28_code 225 = .ok (.lastore, 1) := by decide +kernel
theorem dc_RM_cuts_226 : decode prog_14_method_28_code 226 = .ok (.iinc 6 1, 3) := by decide +kernel
theorem dc_RM_cuts_229 : decode prog_14_method_28_code 229 = .ok (.goto (-153), 3) := by decide +kernel
theorem dc_RM_cuts_232 : decode prog_14_method_28_code 232 = .ok (.iinc 4 (-1), 3) := by decide +kernel
theorem dc_RM_cuts_235 : decode prog_14_method_28_code 235 = .ok (.goto (-222), 3) := by decide +kernel
theorem dc_RM_cuts_238 : decode prog_14_method_28_code 238 = .ok (.iinc 3 1, 3) := by decide +kernel
theorem dc_RM_cuts_241 : decode prog_14_method_28_code 241 = .ok (.goto (-239), 3) := by decide +kernel
theorem dc_RM_cuts_244 : decode prog_14_method_28_code 244 = .ok (.return_, 1) := by decide +kernel
theorem w_RM_cuts_0 {G : GC} {d : Nat} {P : PT} {I : MI} {J : MJ} {x1 : Int32} {x2 : Int32} (k1 : Go G (fr G m_RM_cuts (d + 2) P) 2 [some (.ref 67), some (.int x1), some (.int x2), some (.int 0), none, none, none, none] [] I J) : Go G (fr G m_RM_cuts (d + 2) P) 0 [some (.ref 67), some (.int x1), some (.int x2), none, none, none, none, none] [] I J := by
  refine g_iconst (v := 0) dc_RM_cuts_0 rfl (by decide) ?_
  refine g_istore_n (L' := [some (.ref 67), some (.int x1), some (.int x2), some (.int 0), none, none, none, none]) dc_RM_cuts_1 rfl rfl (Nat.le_of_ble_eq_true rfl) rfl ?_
  exact k1
theorem w_RM_cuts_2 {G : GC} {d : Nat} {P : PT} {I : MI} {J : MJ} {x1 : Int32} {x2 : Int32} {x3 : Int32} (q1 : (x1 < x3) → P none I J) (k2 : (¬ (x1 < x3)) → Go G (fr G m_RM_cuts (d + 2) P) 13 [some (.ref 67), some (.int x1), some (.int x2), some (.int x3), some (.int (I 67 7)), none, none, none] [] I J) : Go G (fr G m_RM_cuts (d + 2) P) 2 [some (.ref 67), some (.int x1), some (.int x2), some (.int x3), none, none, none, none] [] I J := by
  refine g_iload_n dc_RM_cuts_2 rfl rfl rfl ?_
  refine g_iload_n dc_RM_cuts_3 rfl rfl rfl ?_
  refine g_ic_gt (tgt := 244) dc_RM_cuts_4 rfl (by decide) (fun c1 => ?_) (fun c1 => ?_)
  · exact g_vret rfl dc_RM_cuts_244 (q1 c1)
  · refine g_aload_n dc_RM_cuts_7 rfl rfl rfl ?_
    refine g_get (C := "LevelBreaksModel") (T := T_RM) (N := 45) (k := 7) (v := .int (I 67 7)) sh_67 (by decide) rfl rfl i_RM (by decide) fl_RM_145 (Or.inl rfl) rfl dc_RM_cuts_8 rfl ?_
    refine g_istore (L' := [some (.ref 67), some (.int x1), some (.int x2), some (.int x3), some (.int (I 67 7)), none, none, none]) dc_RM_cuts_11 rfl (Nat.le_of_ble_eq_true rfl) rfl ?_
    exact (k2 c1)
theorem w_RM_cuts_13 {G : GC} {d : Nat} {P : PT} {I : MI} {J : MJ} {x1 : Int32} {x2 : Int32} {x3 : Int32} {x4 : Int32} (k1 : (x4 < 0) → Go G (fr G m_RM_cuts (d + 2) P) 2 [some (.ref 67), some (.int x1), some (.int x2), some (.int (x3 + 1)), none, none, none, none] [] I J) (b2 : (¬ (x4 < 0)) → vp_in ((41 * x3) + x4) 287) (k3 : (¬ (x4 < 0)) → (¬ x3 = 0) → Go G (fr G m_RM_cuts (d + 2) P) 66 [some (.ref 67), some (.int x1), some (.int x2), some (.int x3), some (.int x4), some (.int ((41 * x3) + x4)), none, none] [.int ((41 * x3) + x4), .ref 82] I (u2 (u2 J 80 ((41 * x3) + x4).toNatClampNeg 0) 81 ((41 * x3) + x4).toNatClampNeg 0)) (k4 : (¬ (x4 < 0)) → (x3 = 0) → (¬ x4 = (I 67 7)) → Go G (fr G m_RM_cuts (d + 2) P) 66 [some (.ref 67), some (.int x1), some (.int x2), some (.int x3), some (.int x4), some (.int ((41 * x3) + x4)), none, none] [.int ((41 * x3) + x4), .ref 82] I (u2 (u2 J 80 ((41 * x3) + x4).toNatClampNeg 0) 81 ((41 * x3) + x4).toNatClampNeg 0)) (k5 : (¬ (x4 < 0)) → (x3 = 0) → (x4 = (I 67 7)) → Go G (fr G m_RM_cuts (d + 2) P) 67 [some (.ref 67), some (.int x1), some (.int x2), some (.int x3), some (.int x4), some (.int ((41 * x3) + x4)), none, none] [.long 1, .int ((41 * x3) + x4), .ref 82] I (u2 (u2 J 80 ((41 * x3) + x4).toNatClampNeg 0) 81 ((41 * x3) + x4).toNatClampNeg 0)) : Go G (fr G m_RM_cuts (d + 2) P) 13 [some (.ref 67), some (.int x1), some (.int x2), some (.int x3), some (.int x4), none, none, none] [] I J := by
  refine g_iload dc_RM_cuts_13 rfl rfl ?_
  refine g_if_lt (tgt := 238) dc_RM_cuts_15 rfl (by decide) (fun c1 => ?_) (fun c1 => ?_)
  · refine g_iinc (v := (x3 + 1)) (L' := [some (.ref 67), some (.int x1), some (.int x2), some (.int (x3 + 1)), some (.int x4), none, none, none]) dc_RM_cuts_238 rfl rfl (by rw [show Int32.ofInt 1 = 1 from by decide]) (Nat.le_of_ble_eq_true rfl) rfl ?_
    refine g_goto (tgt := 2) dc_RM_cuts_241 (by decide) ?_
    refine g_weak [some (.ref 67), some (.int x1), some (.int x2), some (.int (x3 + 1)), none, none, none, none] ⟨rfl, ⟨rfl, ⟨rfl, ⟨rfl, trivial⟩⟩⟩⟩ ?_
    exact (k1 c1)
  · refine g_bipush (v := 41) dc_RM_cuts_18 rfl (by decide) ?_
    refine g_iload_n dc_RM_cuts_20 rfl rfl rfl ?_
    refine g_imul dc_RM_cuts_21 rfl ?_
    refine g_iload dc_RM_cuts_22 rfl rfl ?_
    refine g_iadd dc_RM_cuts_24 rfl ?_
    refine g_istore (L' := [some (.ref 67), some (.int x1), some (.int x2), some (.int x3), some (.int x4), some (.int ((41 * x3) + x4)), none, none]) dc_RM_cuts_25 rfl (Nat.le_of_ble_eq_true rfl) rfl ?_
    refine g_aload_n dc_RM_cuts_27 rfl rfl rfl ?_
    refine g_get (C := "LevelBreaksModel") (T := T_RM) (N := 45) (k := 15) (v := .ref 80) sh_67 (by decide) rfl rfl i_RM (by decide) fl_RM_51 (Or.inl rfl) rfl dc_RM_cuts_28 rfl ?_
    refine g_iload dc_RM_cuts_31 rfl rfl ?_
    refine g_lconst (v := 0) dc_RM_cuts_33 rfl (by decide) ?_
    refine g_last sh_80 (b2 c1) dc_RM_cuts_34 rfl ?_
    refine g_aload_n dc_RM_cuts_35 rfl rfl rfl ?_
    refine g_get (C := "LevelBreaksModel") (T := T_RM) (N := 45) (k := 16) (v := .ref 81) sh_67 (by decide) rfl rfl i_RM (by decide) fl_RM_54 (Or.inl rfl) rfl dc_RM_cuts_36 rfl ?_
    refine g_iload dc_RM_cuts_39 rfl rfl ?_
    refine g_lconst (v := 0) dc_RM_cuts_41 rfl (by decide) ?_
    refine g_last sh_81 (b2 c1) dc_RM_cuts_42 rfl ?_
    refine g_aload_n dc_RM_cuts_43 rfl rfl rfl ?_
    refine g_get (C := "LevelBreaksModel") (T := T_RM) (N := 45) (k := 17) (v := .ref 82) sh_67 (by decide) rfl rfl i_RM (by decide) fl_RM_57 (Or.inl rfl) rfl dc_RM_cuts_44 rfl ?_
    refine g_iload dc_RM_cuts_47 rfl rfl ?_
    refine g_iload_n dc_RM_cuts_49 rfl rfl rfl ?_
    refine g_if_ne (tgt := 66) dc_RM_cuts_50 rfl (by decide) (fun c2 => ?_) (fun c2 => ?_)
    · exact (k3 c1 c2)
    · refine g_iload dc_RM_cuts_53 rfl rfl ?_
      refine g_aload_n dc_RM_cuts_55 rfl rfl rfl ?_
      refine g_get (C := "LevelBreaksModel") (T := T_RM) (N := 45) (k := 7) (v := .int (I 67 7)) sh_67 (by decide) rfl rfl i_RM (by decide) fl_RM_145 (Or.inl rfl) rfl dc_RM_cuts_56 rfl ?_
      refine g_ic_ne (tgt := 66) dc_RM_cuts_59 rfl (by decide) (fun c3 => ?_) (fun c3 => ?_)
      · exact (k4 c1 c2 c3)
      · refine g_lconst (v := 1) dc_RM_cuts_62 rfl (by decide) ?_
        refine g_goto (tgt := 67) dc_RM_cuts_63 (by decide) ?_
        exact (k5 c1 c2 c3)
theorem w_RM_cuts_66 {G : GC} {d : Nat} {P : PT} {I : MI} {J : MJ} {x1 : Int32} {x2 : Int32} {x3 : Int32} {x4 : Int32} {x5 : Int32} {y1 : Int32} (k1 : Go G (fr G m_RM_cuts (d + 2) P) 67 [some (.ref 67), some (.int x1), some (.int x2), some (.int x3), some (.int x4), some (.int x5), none, none] [.long 0, .int y1, .ref 82] I J) : Go G (fr G m_RM_cuts (d + 2) P) 66 [some (.ref 67), some (.int x1), some (.int x2), some (.int x3), some (.int x4), some (.int x5), none, none] [.int y1, .ref 82] I J := by
  refine g_lconst (v := 0) dc_RM_cuts_66 rfl (by decide) ?_
  exact k1
theorem w_RM_cuts_67 {G : GC} {d : Nat} {P : PT} {I : MI} {J : MJ} {x1 : Int32} {x2 : Int32} {x3 : Int32} {x4 : Int32} {x5 : Int32} {y1 : Int32} {s2 : Int64} (b1 : vp_in y1 287) (k2 : Go G (fr G m_RM_cuts (d + 2) P) 76 [some (.ref 67), some (.int x1), some (.int x2), some (.int x3), some (.int x4), some (.int x5), some (.int ((x4 + x2) - 1)), none] [] I (u2 J 82 y1.toNatClampNeg s2)) : Go G (fr G m_RM_cuts (d + 2) P) 67 [some (.ref 67), some (.int x1), some (.int x2), some (.int x3), some (.int x4), some (.int x5), none, none] [.long s2, .int y1, .ref 82] I J := by
  refine g_last sh_82 b1 dc_RM_cuts_67 rfl ?_
  refine g_iload dc_RM_cuts_68 rfl rfl ?_
  refine g_iload_n dc_RM_cuts_70 rfl rfl rfl ?_
  refine g_iadd dc_RM_cuts_71 rfl ?_
  refine g_iconst (v := 1) dc_RM_cuts_72 rfl (by decide) ?_
  refine g_isub dc_RM_cuts_73 rfl ?_
  refine g_istore (L' := [some (.ref 67), some (.int x1), some (.int x2), some (.int x3), some (.int x4), some (.int x5), some (.int ((x4 + x2) - 1)), none]) dc_RM_cuts_74 rfl (Nat.le_of_ble_eq_true rfl) rfl ?_
  exact k2
theorem w_RM_cuts_76 {G : GC} {d : Nat} {P : PT} {I : MI} {J : MJ} {x1 : Int32} {x2 : Int32} {x3 : Int32} {x4 : Int32} {x5 : Int32} {x6 : Int32} (k1 : ((I 67 7) ≤ x6) → Go G (fr G m_RM_cuts (d + 2) P) 232 [some (.ref 67), some (.int x1), some (.int x2), some (.int x3), some (.int x4), none, none, none] [] I J) (k2 : (¬ ((I 67 7) ≤ x6)) → (x3 ≤ 0) → Go G (fr G m_RM_cuts (d + 2) P) 232 [some (.ref 67), some (.int x1), some (.int x2), some (.int x3), some (.int x4), none, none, none] [] I J) (b3 : (¬ ((I 67 7) ≤ x6)) → (¬ (x3 ≤ 0)) → vp_in (((41 * (x3 - 1)) + x6) + 1) 287) (k4 : (¬ ((I 67 7) ≤ x6)) → (¬ (x3 ≤ 0)) → ((J 82 (((41 * (x3 - 1)) + x6) + 1).toNatClampNeg) ≤ 0) → Go G (fr G m_RM_cuts (d + 2) P) 226 [some (.ref 67), some (.int x1), some (.int x2), some (.int x3), some (.int x4), some (.int x5), some (.int x6), none] [] I J) (b5 : (¬ ((I 67 7) ≤ x6)) → (¬ (x3 ≤ 0)) → (¬ ((J 82 (((41 * (x3 - 1)) + x6) + 1).toNatClampNeg) ≤ 0)) → vp_in x5 287) (k6 : (¬ ((I 67 7) ≤ x6)) → (¬ (x3 ≤ 0)) → (¬ ((J 82 (((41 * (x3 - 1)) + x6) + 1).toNatClampNeg) ≤ 0)) → ((J 82 x5.toNatClampNeg) = 0) → Go G (fr G m_RM_cuts (d + 2) P) 158 [some (.ref 67), some (.int x1), some (.int x2), some (.int x3), some (.int x4), some (.int x5), some (.int x6), some (.int (((41 * (x3 - 1)) + x6) + 1))] [] I J) (b7 : (¬ ((I 67 7) ≤ x6)) → (¬ (x3 ≤ 0)) → (¬ ((J 82 (((41 * (x3 - 1)) + x6) + 1).toNatClampNeg) ≤ 0)) → (¬ ((J 82 x5.toNatClampNeg) = 0)) → vp_in ((40 * x4) + x6) 1600) (k8 : (¬ ((I 67 7) ≤ x6)) → (¬ (x3 ≤ 0)) → (¬ ((J 82 (((41 * (x3 - 1)) + x6) + 1).toNatClampNeg) ≤ 0)) → (¬ ((J 82 x5.toNatClampNeg) = 0)) → ((J 80 x5.toNatClampNeg) < ((J 76 ((40 * x4) + x6).toNatClampNeg) + (J 80 (((41 * (x3 - 1)) + x6) + 1).toNatClampNeg))) → Go G (fr G m_RM_cuts (d + 2) P) 226 [some (.ref 67), some (.int x1), some (.int x2), some (.int x3), some (.int x4), some (.int x5), some (.int x6), none] [] I J) (k9 : (¬ ((I 67 7) ≤ x6)) → (¬ (x3 ≤ 0)) → (¬ ((J 82 (((41 * (x3 - 1)) + x6) + 1).toNatClampNeg) ≤ 0)) → (¬ ((J 82 x5.toNatClampNeg) = 0)) → (¬ ((J 80 x5.toNatClampNeg) < ((J 76 ((40 * x4) + x6).toNatClampNeg) + (J 80 (((41 * (x3 - 1)) + x6) + 1).toNatClampNeg)))) → Go G (fr G m_RM_cuts (d + 2) P) 158 [some (.ref 67), some (.int x1), some (.int x2), some (.int x3), some (.int x4), some (.int x5), some (.int x6), some (.int (((41 * (x3 - 1)) + x6) + 1))] [] I J) : Go G (fr G m_RM_cuts (d + 2) P) 76 [some (.ref 67), some (.int x1), some (.int x2), some (.int x3), some (.int x4), some (.int x5), some (.int x6), none] [] I J := by
  refine g_iload dc_RM_cuts_76 rfl rfl ?_
  refine g_aload_n dc_RM_cuts_78 rfl rfl rfl ?_
  refine g_get (C := "LevelBreaksModel") (T := T_RM) (N := 45) (k := 7) (v := .int (I 67 7)) sh_67 (by decide) rfl rfl i_RM (by decide) fl_RM_145 (Or.inl rfl) rfl dc_RM_cuts_79 rfl ?_
  refine g_ic_ge (tgt := 232) dc_RM_cuts_82 rfl (by decide) (fun c1 => ?_) (fun c1 => ?_)
  · refine g_weak [some (.ref 67), some (.int x1), some (.int x2), some (.int x3), some (.int x4), none, none, none] ⟨rfl, ⟨rfl, ⟨rfl, ⟨rfl, ⟨rfl, trivial⟩⟩⟩⟩⟩ ?_
    exact (k1 c1)
  · refine g_iload_n dc_RM_cuts_85 rfl rfl rfl ?_
    refine g_if_le (tgt := 232) dc_RM_cuts_86 rfl (by decide) (fun c2 => ?_) (fun c2 => ?_)
    · refine g_weak [some (.ref 67), some (.int x1), some (.int x2), some (.int x3), some (.int x4), none, none, none] ⟨rfl, ⟨rfl, ⟨rfl, ⟨rfl, ⟨rfl, trivial⟩⟩⟩⟩⟩ ?_
      exact (k2 c1 c2)
    · refine g_bipush (v := 41) dc_RM_cuts_89 rfl (by decide) ?_
      refine g_iload_n dc_RM_cuts_91 rfl rfl rfl ?_
      refine g_iconst (v := 1) dc_RM_cuts_92 rfl (by decide) ?_
      refine g_isub dc_RM_cuts_93 rfl ?_
      refine g_imul dc_RM_cuts_94 rfl ?_
      refine g_iload dc_RM_cuts_95 rfl rfl ?_
      refine g_iadd dc_RM_cuts_97 rfl ?_
      refine g_iconst (v := 1) dc_RM_cuts_98 rfl (by decide) ?_
      refine g_iadd dc_RM_cuts_99 rfl ?_
      refine g_istore (L' := [some (.ref 67), some (.int x1), some (.int x2), some (.int x3), some (.int x4), some (.int x5), some (.int x6), some (.int (((41 * (x3 - 1)) + x6) + 1))]) dc_RM_cuts_100 rfl (Nat.le_of_ble_eq_true rfl) rfl ?_
      refine g_aload_n dc_RM_cuts_102 rfl rfl rfl ?_
      refine g_get (C := "LevelBreaksModel") (T := T_RM) (N := 45) (k := 17) (v := .ref 82) sh_67 (by decide) rfl rfl i_RM (by decide) fl_RM_57 (Or.inl rfl) rfl dc_RM_cuts_103 rfl ?_
      refine g_iload dc_RM_cuts_106 rfl rfl ?_
      refine g_laldv (v := (J 82 (((41 * (x3 - 1)) + x6) + 1).toNatClampNeg)) sh_82 (b3 c1 c2) rfl dc_RM_cuts_108 rfl ?_
      refine g_lconst (v := 0) dc_RM_cuts_109 rfl (by decide) ?_
      refine g_lc_le (tgt := 226) dc_RM_cuts_110 rfl dc_RM_cuts_111 rfl (by decide) (fun c3 => ?_) (fun c3 => ?_)
      · refine g_weak [some (.ref 67), some (.int x1), some (.int x2), some (.int x3), some (.int x4), some (.int x5), some (.int x6), none] ⟨rfl, ⟨rfl, ⟨rfl, ⟨rfl, ⟨rfl, ⟨rfl, ⟨rfl, trivial⟩⟩⟩⟩⟩⟩⟩ ?_
        exact (k4 c1 c2 c3)
      · refine g_aload_n dc_RM_cuts_114 rfl rfl rfl ?_
        refine g_get (C := "LevelBreaksModel") (T := T_RM) (N := 45) (k := 17) (v := .ref 82) sh_67 (by decide) rfl rfl i_RM (by decide) fl_RM_57 (Or.inl rfl) rfl dc_RM_cuts_115 rfl ?_
        refine g_iload dc_RM_cuts_118 rfl rfl ?_
        refine g_laldv (v := (J 82 x5.toNatClampNeg)) sh_82 (b5 c1 c2 c3) rfl dc_RM_cuts_120 rfl ?_
        refine g_lconst (v := 0) dc_RM_cuts_121 rfl (by decide) ?_
        refine g_lc_eq (tgt := 158) dc_RM_cuts_122 rfl dc_RM_cuts_123 rfl (by decide) (fun c4 => ?_) (fun c4 => ?_)
        · exact (k6 c1 c2 c3 c4)
        · refine g_aload_n dc_RM_cuts_126 rfl rfl rfl ?_
          refine g_get (C := "LevelBreaksModel") (T := T_RM) (N := 45) (k := 11) (v := .ref 76) sh_67 (by decide) rfl rfl i_RM (by decide) fl_RM_38 (Or.inl rfl) rfl dc_RM_cuts_127 rfl ?_
          refine g_bipush (v := 40) dc_RM_cuts_130 rfl (by decide) ?_
          refine g_iload dc_RM_cuts_132 rfl rfl ?_
          refine g_imul dc_RM_cuts_134 rfl ?_
          refine g_iload dc_RM_cuts_135 rfl rfl ?_
          refine g_iadd dc_RM_cuts_137 rfl ?_
          refine g_laldv (v := (J 76 ((40 * x4) + x6).toNatClampNeg)) sh_76 (b7 c1 c2 c3 c4) rfl dc_RM_cuts_138 rfl ?_
          refine g_aload_n dc_RM_cuts_139 rfl rfl rfl ?_
          refine g_get (C := "LevelBreaksModel") (T := T_RM) (N := 45) (k := 15) (v := .ref 80) sh_67 (by decide) rfl rfl i_RM (by decide) fl_RM_51 (Or.inl rfl) rfl dc_RM_cuts_140 rfl ?_
          refine g_iload dc_RM_cuts_143 rfl rfl ?_
          refine g_laldv (v := (J 80 (((41 * (x3 - 1)) + x6) + 1).toNatClampNeg)) sh_80 (b3 c1 c2) rfl dc_RM_cuts_145 rfl ?_
          refine g_ladd dc_RM_cuts_146 rfl ?_
          refine g_aload_n dc_RM_cuts_147 rfl rfl rfl ?_
          refine g_get (C := "LevelBreaksModel") (T := T_RM) (N := 45) (k := 15) (v := .ref 80) sh_67 (by decide) rfl rfl i_RM (by decide) fl_RM_51 (Or.inl rfl) rfl dc_RM_cuts_148 rfl ?_
          refine g_iload dc_RM_cuts_151 rfl rfl ?_
          refine g_laldv (v := (J 80 x5.toNatClampNeg)) sh_80 (b5 c1 c2 c3) rfl dc_RM_cuts_153 rfl ?_
          refine g_lc_gt (tgt := 226) dc_RM_cuts_154 rfl dc_RM_cuts_155 rfl (by decide) (fun c5 => ?_) (fun c5 => ?_)
          · refine g_weak [some (.ref 67), some (.int x1), some (.int x2), some (.int x3), some (.int x4), some (.int x5), some (.int x6), none] ⟨rfl, ⟨rfl, ⟨rfl, ⟨rfl, ⟨rfl, ⟨rfl, ⟨rfl, trivial⟩⟩⟩⟩⟩⟩⟩ ?_
            exact (k8 c1 c2 c3 c4 c5)
          · exact (k9 c1 c2 c3 c4 c5)
theorem w_RM_cuts_158 {G : GC} {d : Nat} {P : PT} {I : MI} {J : MJ} {x1 : Int32} {x2 : Int32} {x3 : Int32} {x4 : Int32} {x5 : Int32} {x6 : Int32} {x7 : Int32} (k1 : Ct G (d + 1) m_RM_adds [.ref 67, .int ((40 * x4) + x6), .int x7] (fun r I' J' => Go G (fr G m_RM_cuts (d + 2) P) 172 [some (.ref 67), some (.int x1), some (.int x2), some (.int x3), some (.int x4), some (.int x5), some (.int x6), none] (r.toList ++ []) I' J') I J) : Go G (fr G m_RM_cuts (d + 2) P) 158 [some (.ref 67), some (.int x1), some (.int x2), some (.int x3), some (.int x4), some (.int x5), some (.int x6), some (.int x7)] [] I J := by
  refine g_aload_n dc_RM_cuts_158 rfl rfl rfl ?_
  refine g_bipush (v := 40) dc_RM_cuts_159 rfl (by decide) ?_
  refine g_iload dc_RM_cuts_161 rfl rfl ?_
  refine g_imul dc_RM_cuts_163 rfl ?_
  refine g_iload dc_RM_cuts_164 rfl rfl ?_
  refine g_iadd dc_RM_cuts_166 rfl ?_
  refine g_iload dc_RM_cuts_167 rfl rfl ?_
  refine g_weak [some (.ref 67), some (.int x1), some (.int x2), some (.int x3), some (.int x4), some (.int x5), some (.int x6), none] ⟨rfl, ⟨rfl, ⟨rfl, ⟨rfl, ⟨rfl, ⟨rfl, ⟨rfl, trivial⟩⟩⟩⟩⟩⟩⟩ ?_
  exact g_callV (T := T_RM) (N := 45) (As := [.int ((40 * x4) + x6), .int x7]) (rest := []) ok_RM_adds in_RM_adds se_RM_adds ml_RM_205 sh_67 (by decide) rfl rfl rfl (Nat.le_of_ble_eq_true rfl) dc_RM_cuts_169 rfl rOk_fr k1
theorem w_RM_cuts_172 {G : GC} {d : Nat} {P : PT} {I : MI} {J : MJ} {x1 : Int32} {x2 : Int32} {x3 : Int32} {x4 : Int32} {x5 : Int32} {x6 : Int32} (b1 : vp_in x5 287) (k2 : ((J 82 x5.toNatClampNeg) = 0) → Go G (fr G m_RM_cuts (d + 2) P) 193 [some (.ref 67), some (.int x1), some (.int x2), some (.int x3), some (.int x4), some (.int x5), some (.int x6), none] [] I J) (k3 : (¬ ((J 82 x5.toNatClampNeg) = 0)) → Ct G (d + 1) m_RM_against [.ref 67, .int x5] (fun r I' J' => Go G (fr G m_RM_cuts (d + 2) P) 190 [some (.ref 67), some (.int x1), some (.int x2), some (.int x3), some (.int x4), some (.int x5), some (.int x6), none] (r.toList ++ []) I' J') I J) : Go G (fr G m_RM_cuts (d + 2) P) 172 [some (.ref 67), some (.int x1), some (.int x2), some (.int x3), some (.int x4), some (.int x5), some (.int x6), none] [] I J := by
  refine g_aload_n dc_RM_cuts_172 rfl rfl rfl ?_
  refine g_get (C := "LevelBreaksModel") (T := T_RM) (N := 45) (k := 17) (v := .ref 82) sh_67 (by decide) rfl rfl i_RM (by decide) fl_RM_57 (Or.inl rfl) rfl dc_RM_cuts_173 rfl ?_
  refine g_iload dc_RM_cuts_176 rfl rfl ?_
  refine g_laldv (v := (J 82 x5.toNatClampNeg)) sh_82 b1 rfl dc_RM_cuts_178 rfl ?_
  refine g_lconst (v := 0) dc_RM_cuts_179 rfl (by decide) ?_
  refine g_lc_eq (tgt := 193) dc_RM_cuts_180 rfl dc_RM_cuts_181 rfl (by decide) (fun c1 => ?_) (fun c1 => ?_)
  · exact (k2 c1)
  · refine g_aload_n dc_RM_cuts_184 rfl rfl rfl ?_
    refine g_iload dc_RM_cuts_185 rfl rfl ?_
    exact g_callV (T := T_RM) (N := 45) (As := [.int x5]) (rest := []) ok_RM_against in_RM_against se_RM_against ml_RM_208 sh_67 (by decide) rfl rfl rfl (Nat.le_of_ble_eq_true rfl) dc_RM_cuts_187 rfl rOk_fr (k3 c1)
theorem w_RM_cuts_190 {G : GC} {d : Nat} {P : PT} {I : MI} {J : MJ} {x1 : Int32} {x2 : Int32} {x3 : Int32} {x4 : Int32} {x5 : Int32} {x6 : Int32} {y0 : Int32} (k1 : (0 ≤ y0) → Go G (fr G m_RM_cuts (d + 2) P) 226 [some (.ref 67), some (.int x1), some (.int x2), some (.int x3), some (.int x4), some (.int x5), some (.int x6), none] [] I J) (k2 : (¬ (0 ≤ y0)) → Go G (fr G m_RM_cuts (d + 2) P) 193 [some (.ref 67), some (.int x1), some (.int x2), some (.int x3), some (.int x4), some (.int x5), some (.int x6), none] [] I J) : Go G (fr G m_RM_cuts (d + 2) P) 190 [some (.ref 67), some (.int x1), some (.int x2), some (.int x3), some (.int x4), some (.int x5), some (.int x6), none] [.int y0] I J := by
  refine g_if_ge (tgt := 226) dc_RM_cuts_190 rfl (by decide) (fun c1 => ?_) (fun c1 => ?_)
  · exact (k1 c1)
  · exact (k2 c1)
theorem w_RM_cuts_193 {G : GC} {d : Nat} {P : PT} {I : MI} {J : MJ} {x1 : Int32} {x2 : Int32} {x3 : Int32} {x4 : Int32} {x5 : Int32} {x6 : Int32} (b1 : vp_in x5 287) (k2 : Go G (fr G m_RM_cuts (d + 2) P) 226 [some (.ref 67), some (.int x1), some (.int x2), some (.int x3), some (.int x4), some (.int x5), some (.int x6), none] [] I (u2 (u2 (u2 J 80 x5.toNatClampNeg (J 67 18)) 81 x5.toNatClampNeg (J 67 19)) 82 x5.toNatClampNeg (J 67 20))) : Go G (fr G m_RM_cuts (d + 2) P) 193 [some (.ref 67), some (.int x1), some (.int x2), some (.int x3), some (.int x4), some (.int x5), some (.int x6), none] [] I J := by
  refine g_aload_n dc_RM_cuts_193 rfl rfl rfl ?_
  refine g_get (C := "LevelBreaksModel") (T := T_RM) (N := 45) (k := 15) (v := .ref 80) sh_67 (by decide) rfl rfl i_RM (by decide) fl_RM_51 (Or.inl rfl) rfl dc_RM_cuts_194 rfl ?_
  refine g_iload dc_RM_cuts_197 rfl rfl ?_
  refine g_aload_n dc_RM_cuts_199 rfl rfl rfl ?_
  refine g_get (C := "LevelBreaksModel") (T := T_RM) (N := 45) (k := 18) (v := .long (J 67 18)) sh_67 (by decide) rfl rfl i_RM (by decide) fl_RM_195 (Or.inl rfl) rfl dc_RM_cuts_200 rfl ?_
  refine g_last sh_80 b1 dc_RM_cuts_203 rfl ?_
  refine g_aload_n dc_RM_cuts_204 rfl rfl rfl ?_
  refine g_get (C := "LevelBreaksModel") (T := T_RM) (N := 45) (k := 16) (v := .ref 81) sh_67 (by decide) rfl rfl i_RM (by decide) fl_RM_54 (Or.inl rfl) rfl dc_RM_cuts_205 rfl ?_
  refine g_iload dc_RM_cuts_208 rfl rfl ?_
  refine g_aload_n dc_RM_cuts_210 rfl rfl rfl ?_
  refine g_get (C := "LevelBreaksModel") (T := T_RM) (N := 45) (k := 19) (v := .long (J 67 19)) sh_67 (by decide) rfl rfl i_RM (by decide) fl_RM_199 (Or.inl rfl) rfl dc_RM_cuts_211 rfl ?_
  refine g_last sh_81 b1 dc_RM_cuts_214 rfl ?_
  refine g_aload_n dc_RM_cuts_215 rfl rfl rfl ?_
  refine g_get (C := "LevelBreaksModel") (T := T_RM) (N := 45) (k := 17) (v := .ref 82) sh_67 (by decide) rfl rfl i_RM (by decide) fl_RM_57 (Or.inl rfl) rfl dc_RM_cuts_216 rfl ?_
  refine g_iload dc_RM_cuts_219 rfl rfl ?_
  refine g_aload_n dc_RM_cuts_221 rfl rfl rfl ?_
  refine g_get (C := "LevelBreaksModel") (T := T_RM) (N := 45) (k := 20) (v := .long (J 67 20)) sh_67 (by decide) rfl rfl i_RM (by decide) fl_RM_202 (Or.inl rfl) rfl dc_RM_cuts_222 rfl ?_
  refine g_last sh_82 b1 dc_RM_cuts_225 rfl ?_
  exact k2
theorem w_RM_cuts_226 {G : GC} {d : Nat} {P : PT} {I : MI} {J : MJ} {x1 : Int32} {x2 : Int32} {x3 : Int32} {x4 : Int32} {x5 : Int32} {x6 : Int32} (k1 : Go G (fr G m_RM_cuts (d + 2) P) 76 [some (.ref 67), some (.int x1), some (.int x2), some (.int x3), some (.int x4), some (.int x5), some (.int (x6 + 1)), none] [] I J) : Go G (fr G m_RM_cuts (d + 2) P) 226 [some (.ref 67), some (.int x1), some (.int x2), some (.int x3), some (.int x4), some (.int x5), some (.int x6), none] [] I J := by
  refine g_iinc (v := (x6 + 1)) (L' := [some (.ref 67), some (.int x1), some (.int x2), some (.int x3), some (.int x4), some (.int x5), some (.int (x6 + 1)), none]) dc_RM_cuts_226 rfl rfl (by rw [show Int32.ofInt 1 = 1 from by decide]) (Nat.le_of_ble_eq_true rfl) rfl ?_
  refine g_goto (tgt := 76) dc_RM_cuts_229 (by decide) ?_
  exact k1
theorem w_RM_cuts_232 {G : GC} {d : Nat} {P : PT} {I : MI} {J : MJ} {x1 : Int32} {x2 : Int32} {x3 : Int32} {x4 : Int32} (k1 : Go G (fr G m_RM_cuts (d + 2) P) 13 [some (.ref 67), some (.int x1), some (.int x2), some (.int x3), some (.int (x4 + (-1))), none, none, none] [] I J) : Go G (fr G m_RM_cuts (d + 2) P) 232 [some (.ref 67), some (.int x1), some (.int x2), some (.int x3), some (.int x4), none, none, none] [] I J := by
  refine g_iinc (v := (x4 + (-1))) (L' := [some (.ref 67), some (.int x1), some (.int x2), some (.int x3), some (.int (x4 + (-1))), none, none, none]) dc_RM_cuts_232 rfl rfl (by rw [show Int32.ofInt (-1) = (-1) from by decide]) (Nat.le_of_ble_eq_true rfl) rfl ?_
  refine g_goto (tgt := 13) dc_RM_cuts_235 (by decide) ?_
  exact k1
theorem dc_RM_digest_0 : decode prog_14_method_82_code 0 = .ok (.ldc2_w 335, 3) := by decide +kernel
theorem dc_RM_digest_3 : decode prog_14_method_82_code 3 = .ok (.lstore_n 1, 1) := by decide +kernel
theorem dc_RM_digest_4 : decode prog_14_method_82_code 4 = .ok (.iconst 0, 1) := by decide +kernel
theorem dc_RM_digest_5 : decode prog_14_method_82_code 5 = .ok (.istore_n 3, 1) := by decide +kernel
theorem dc_RM_digest_6 : decode prog_14_method_82_code 6 = .ok (.iload_n 3, 1) := by decide +kernel
theorem dc_RM_digest_7 : decode prog_14_method_82_code 7 = .ok (.bipush 8, 2) := by decide +kernel
theorem dc_RM_digest_9 : decode prog_14_method_82_code 9 = .ok (.if_icmp .ge 22, 3) := by decide +kernel
theorem dc_RM_digest_12 : decode prog_14_method_82_code 12 = .ok (.ldc2_w 337, 3) := by decide +kernel
theorem dc_RM_digest_15 : decode prog_14_method_82_code 15 = .ok (.lload_n 1, 1) := by decide +kernel
theorem dc_RM_digest_16 : decode prog_14_method_82_code 16 = .ok (.lmul, 1) := by decide +kernel
theorem dc_RM_digest_17 : decode prog_14_method_82_code 17 = .ok (.aload_n 0, 1) := by decide +kernel
theorem dc_RM_digest_18 : decode prog_14_method_82_code 18 = .ok (.iload_n 3, 1) := by decide +kernel
theorem dc_RM_digest_19 : decode prog_14_method_82_code 19 = .ok (.invokevirtual 339, 3) := by decide +kernel
theorem dc_RM_digest_22 : decode prog_14_method_82_code 22 = .ok (.i2l, 1) := by decide +kernel
theorem dc_RM_digest_23 : decode prog_14_method_82_code 23 = .ok (.ladd, 1) := by decide +kernel
theorem dc_RM_digest_24 : decode prog_14_method_82_code 24 = .ok (.lstore_n 1, 1) := by decide +kernel
theorem dc_RM_digest_25 : decode prog_14_method_82_code 25 = .ok (.iinc 3 1, 3) := by decide +kernel
theorem dc_RM_digest_28 : decode prog_14_method_82_code 28 = .ok (.goto (-22), 3) := by decide +kernel
theorem dc_RM_digest_31 : decode prog_14_method_82_code 31 = .ok (.iconst 0, 1) := by decide +kernel
theorem dc_RM_digest_32 : decode prog_14_method_82_code 32 = .ok (.istore_n 3, 1) := by decide +kernel
theorem dc_RM_digest_33 : decode prog_14_method_82_code 33 = .ok (.iload_n 3, 1) := by decide +kernel
theorem dc_RM_digest_34 : decode prog_14_method_82_code 34 = .ok (.iconst 4, 1) := by decide +kernel
theorem dc_RM_digest_35 : decode prog_14_method_82_code 35 = .ok (.if_icmp .ge 49, 3) := by decide +kernel
theorem dc_RM_digest_38 : decode prog_14_method_82_code 38 = .ok (.aload_n 0, 1) := by decide +kernel
theorem dc_RM_digest_39 : decode prog_14_method_82_code 39 = .ok (.iload_n 3, 1) := by decide +kernel
theorem dc_RM_digest_40 : decode prog_14_method_82_code 40 = .ok (.aload_n 0, 1) := by decide +kernel
theorem dc_RM_digest_41 : decode prog_14_method_82_code 41 = .ok (.getfield 22, 3) := by decide +kernel
theorem dc_RM_digest_44 : decode prog_14_method_82_code 44 = .ok (.invokevirtual 148, 3) := by decide +kernel
theorem dc_RM_digest_47 : decode prog_14_method_82_code 47 = .ok (.iconst 0, 1) := by decide +kernel
theorem dc_RM_digest_48 : decode prog_14_method_82_code 48 = .ok (.istore 4, 2) := by decide +kernel
theorem dc_RM_digest_50 : decode prog_14_method_82_code 50 = .ok (.iload 4, 2) := by decide +kernel
theorem dc_RM_digest_52 : decode prog_14_method_82_code 52 = .ok (.bipush 40, 2) := by decide +kernel
theorem dc_RM_digest_54 : decode prog_14_method_82_code 54 = .ok (.if_icmp .ge 24, 3) := by decide +kernel
theorem dc_RM_digest_57 : decode prog_14_method_82_code 57 = .ok (.ldc2_w 337, 3) := by decide +kernel
theorem dc_RM_digest_60 : decode prog_14_method_82_code 60 = .ok (.lload_n 1, 1) := by decide +kernel
theorem dc_RM_digest_61 : decode prog_14_method_82_code 61 = .ok (.lmul, 1) := by decide +kernel
theorem dc_RM_digest_62 : decode prog_14_method_82_code 62 = .ok (.aload_n 0, 1) := by decide +kernel
theorem dc_RM_digest_63 : decode prog_14_method_82_code 63 = .ok (.getfield 35, 3) := by decide +kernel
theorem dc_RM_digest_66 : decode prog_14_method_82_code 66 = .ok (.iload 4, 2) := by decide +kernel
theorem dc_RM_digest_68 : decode prog_14_method_82_code 68 = .ok (.iaload, 1) := by decide +kernel
theorem dc_RM_digest_69 : decode prog_14_method_82_code 69 = .ok (.i2l, 1) := by decide +kernel
theorem dc_RM_digest_70 : decode prog_14_method_82_code 70 = .ok (.ladd, 1) := by decide +kernel
theorem dc_RM_digest_71 : decode prog_14_method_82_code 71 = .ok (.lstore_n 1, 1) := by decide +kernel
theorem dc_RM_digest_72 : decode prog_14_method_82_code 72 = .ok (.iinc 4 1, 3) := by decide +kernel
theorem dc_RM_digest_75 : decode prog_14_method_82_code 75 = .ok (.goto (-25), 3) := by decide +kernel
theorem dc_RM_digest_78 : decode prog_14_method_82_code 78 = .ok (.iinc 3 1, 3) := by decide +kernel
theorem dc_RM_digest_81 : decode prog_14_method_82_code 81 = .ok (.goto (-48), 3) := by decide +kernel
theorem dc_RM_digest_84 : decode prog_14_method_82_code 84 = .ok (.iconst 0, 1) := by decide +kernel
theorem dc_RM_digest_85 : decode prog_14_method_82_code 85 = .ok (.istore_n 3, 1) := by decide +kernel
theorem dc_RM_digest_86 : decode prog_14_method_82_code 86 = .ok (.iload_n 3, 1) := by decide +kernel
theorem dc_RM_digest_87 : decode prog_14_method_82_code 87 = .ok (.iconst 4, 1) := by decide +kernel
theorem dc_RM_digest_88 : decode prog_14_method_82_code 88 = .ok (.if_icmp .ge 86, 3) := by decide +kernel
theorem dc_RM_digest_91 : decode prog_14_method_82_code 91 = .ok (.iconst 0, 1) := by decide +kernel
theorem dc_RM_digest_92 : decode prog_14_method_82_code 92 = .ok (.istore 4, 2) := by decide +kernel
theorem dc_RM_digest_94 : decode prog_14_method_82_code 94 = .ok (.iload 4, 2) := by decide +kernel
theorem dc_RM_digest_96 : decode prog_14_method_82_code 96 = .ok (.iconst 4, 1) := by decide +kernel
theorem dc_RM_digest_97 : decode prog_14_method_82_code 97 = .ok (.if_icmp .ge 71, 3) := by decide +kernel
theorem dc_RM_digest_100 : decode prog_14_method_82_code 100 = .ok (.aload_n 0, 1) := by decide +kernel
theorem dc_RM_digest_101 : decode prog_14_method_82_code 101 = .ok (.iload_n 3, 1) := by decide +kernel
theorem dc_RM_digest_102 : decode prog_14_method_82_code 102 = .ok (.iload 4, 2) := by decide +kernel
theorem dc_RM_digest_104 : decode prog_14_method_82_code 104 = .ok (.iconst 2, 1) := by decide +kernel
theorem dc_RM_digest_105 : decode prog_14_method_82_code 105 = .ok (.aload_n 0, 1) := by decide +kernel
theorem dc_RM_digest_106 : decode prog_14_method_82_code 106 = .ok (.getfield 22, 3) := by decide +kernel
theorem dc_RM_digest_109 : decode prog_14_method_82_code 109 = .ok (.invokevirtual 220, 3) := by decide +kernel
theorem dc_RM_digest_112 : decode prog_14_method_82_code 112 = .ok (.istore 5, 2) := by decide +kernel
theorem dc_RM_digest_114 : decode prog_14_method_82_code 114 = .ok (.ldc2_w 337, 3) := by decide +kernel
theorem dc_RM_digest_117 : decode prog_14_method_82_code 117 = .ok (.lload_n 1, 1) := by decide +kernel
theorem dc_RM_digest_118 : decode prog_14_method_82_code 118 = .ok (.lmul, 1) := by decide +kernel
theorem dc_RM_digest_119 : decode prog_14_method_82_code 119 = .ok (.iload 5, 2) := by decide +kernel
theorem dc_RM_digest_121 : decode prog_14_method_82_code 121 = .ok (.ifCond .eq 12, 3) := by decide +kernel
theorem dc_RM_digest_124 : decode prog_14_method_82_code 124 = .ok (.aload_n 0, 1) := by decide +kernel
theorem dc_RM_digest_125 : decode prog_14_method_82_code 125 = .ok (.iconst 2, 1) := by decide +kernel
theorem dc_RM_digest_126 : decode prog_14_method_82_code 126 = .ok (.iconst 0, 1) := by decide +kernel
theorem dc_RM_digest_127 : decode prog_14_method_82_code 127 = .ok (.invokevirtual 224, 3) := by decide +kernel
theorem dc_RM_digest_130 : decode prog_14_method_82_code 130 = .ok (.goto 6, 3) := by decide +kernel
theorem dc_RM_digest_133 : decode prog_14_method_82_code 133 = .ok (.ldc2_w 342, 3) := by decide +kernel
theorem dc_RM_digest_136 : decode prog_14_method_82_code 136 = .ok (.ladd, 1) := by decide +kernel
theorem dc_RM_digest_137 : decode prog_14_method_82_code 137 = .ok (.lstore_n 1, 1) := by decide +kernel
theorem dc_RM_digest_138 : decode prog_14_method_82_code 138 = .ok (.ldc2_w 337, 3) := by decide +kernel
theorem dc_RM_digest_141 : decode prog_14_method_82_code 141 = .ok (.lload_n 1, 1) := by decide +kernel
theorem dc_RM_digest_142 : decode prog_14_method_82_code 142 = .ok (.lmul, 1) := by decide +kernel
theorem dc_RM_digest_143 : decode prog_14_method_82_code 143 = .ok (.iload 5, 2) := by decide +kernel
theorem dc_RM_digest_145 : decode prog_14_method_82_code 145 = .ok (.ifCond .eq 12, 3) := by decide +kernel
theorem dc_RM_digest_148 : decode prog_14_method_82_code 148 = .ok (.aload_n 0, 1) := by decide +kernel
theorem dc_RM_digest_149 : decode prog_14_method_82_code 149 = .ok (.iconst 2, 1) := by decide +kernel
theorem dc_RM_digest_150 : decode prog_14_method_82_code 150 = .ok (.iconst 1, 1) := by decide +kernel
theorem dc_RM_digest_151 : decode prog_14_method_82_code 151 = .ok (.invokevirtual 224, 3) := by decide +kernel
theorem dc_RM_digest_154 : decode prog_14_method_82_code 154 = .ok (.goto 6, 3) := by decide +kernel
theorem dc_RM_digest_157 : decode prog_14_method_82_code 157 = .ok (.ldc2_w 342, 3) := by decide +kernel
theorem dc_RM_digest_160 : decode prog_14_method_82_code 160 = .ok (.ladd, 1) := by decide +kernel
theorem dc_RM_digest_161 : decode prog_14_method_82_code 161 = .ok (.lstore_n 1, 1) := by decide +kernel
theorem dc_RM_digest_162 : decode prog_14_method_82_code 162 = .ok (.iinc 4 1, 3) := by decide +kernel
theorem dc_RM_digest_165 : decode prog_14_method_82_code 165 = .ok (.goto (-71), 3) := by decide +kernel
theorem dc_RM_digest_168 : decode prog_14_method_82_code 168 = .ok (.iinc 3 1, 3) := by decide +kernel
theorem dc_RM_digest_171 : decode prog_14_method_82_code 171 = .ok (.goto (-85), 3) := by decide +kernel
theorem dc_RM_digest_174 : decode prog_14_method_82_code 174 = .ok (.ldc2_w 337, 3) := by decide +kernel
theorem dc_RM_digest_177 : decode prog_14_method_82_code 177 = .ok (.lload_n 1, 1) := by decide +kernel
theorem dc_RM_digest_178 : decode prog_14_method_82_code 178 = .ok (.lmul, 1) := by decide +kernel
theorem dc_RM_digest_179 : decode prog_14_method_82_code 179 = .ok (.aload_n 0, 1) := by decide +kernel
theorem dc_RM_digest_180 : decode prog_14_method_82_code 180 = .ok (.invokevirtual 318, 3) := by decide +kernel
theorem dc_RM_digest_183 : decode prog_14_method_82_code 183 = .ok (.i2l, 1) := by decide +kernel
theorem dc_RM_digest_184 : decode prog_14_method_82_code 184 = .ok (.ladd, 1) := by decide +kernel
theorem dc_RM_digest_185 : decode prog_14_method_82_code 185 = .ok (.lreturn, 1) := by decide +kernel
theorem w_RM_digest_0 {G : GC} {d : Nat} {P : PT} {I : MI} {J : MJ}  (k1 : Go G (fr G m_RM_digest (d + 5) P) 6 [some (.ref 67), some (.long 17), none, some (.int 0), none, none] [] I J) : Go G (fr G m_RM_digest (d + 5) P) 0 [some (.ref 67), none, none, none, none, none] [] I J := by
  refine g_ldc2 (v := 17) kl_RM_335 dc_RM_digest_0 rfl ?_
  refine g_lstore_n (L' := [some (.ref 67), some (.long 17), none, none, none, none]) dc_RM_digest_3 rfl rfl (Nat.le_of_ble_eq_true rfl) rfl ?_
  refine g_iconst (v := 0) dc_RM_digest_4 rfl (by decide) ?_
  refine g_istore_n (L' := [some (.ref 67), some (.long 17), none, some (.int 0), none, none]) dc_RM_digest_5 rfl rfl (Nat.le_of_ble_eq_true rfl) rfl ?_
  exact k1
theorem w_RM_digest_6 {G : GC} {d : Nat} {P : PT} {I : MI} {J : MJ} {l1 : Int64} {x3 : Int32} (k1 : (8 ≤ x3) → Go G (fr G m_RM_digest (d + 5) P) 33 [some (.ref 67), some (.long l1), none, some (.int 0), none, none] [] I J) (k2 : (¬ (8 ≤ x3)) → Ct G (d + 4) m_RM_count [.ref 67, .int x3] (fun r I' J' => Go G (fr G m_RM_digest (d + 5) P) 22 [some (.ref 67), none, none, some (.int x3), none, none] (r.toList ++ [.long (31 * l1)]) I' J') I J) : Go G (fr G m_RM_digest (d + 5) P) 6 [some (.ref 67), some (.long l1), none, some (.int x3), none, none] [] I J := by
  refine g_iload_n dc_RM_digest_6 rfl rfl rfl ?_
  refine g_bipush (v := 8) dc_RM_digest_7 rfl (by decide) ?_
  refine g_ic_ge (tgt := 31) dc_RM_digest_9 rfl (by decide) (fun c1 => ?_) (fun c1 => ?_)
  · refine g_iconst (v := 0) dc_RM_digest_31 rfl (by decide) ?_
    refine g_istore_n (L' := [some (.ref 67), some (.long l1), none, some (.int 0), none, none]) dc_RM_digest_32 rfl rfl (Nat.le_of_ble_eq_true rfl) rfl ?_
    exact (k1 c1)
  · refine g_ldc2 (v := 31) kl_RM_337 dc_RM_digest_12 rfl ?_
    refine g_lload_n dc_RM_digest_15 rfl rfl rfl ?_
    refine g_lmul dc_RM_digest_16 rfl ?_
    refine g_aload_n dc_RM_digest_17 rfl rfl rfl ?_
    refine g_iload_n dc_RM_digest_18 rfl rfl rfl ?_
    refine g_weak [some (.ref 67), none, none, some (.int x3), none, none] ⟨rfl, ⟨rfl, trivial⟩⟩ ?_
    exact g_callV (T := T_RM) (N := 45) (As := [.int x3]) (rest := [.long (31 * l1)]) ok_RM_count in_RM_count se_RM_count ml_RM_339 sh_67 (by decide) rfl rfl rfl (Nat.le_of_ble_eq_true rfl) dc_RM_digest_19 rfl rOk_fr (k2 c1)
theorem w_RM_digest_22 {G : GC} {d : Nat} {P : PT} {I : MI} {J : MJ} {x3 : Int32} {s0 : Int64} {y1 : Int32} (k1 : Go G (fr G m_RM_digest (d + 5) P) 6 [some (.ref 67), some (.long (s0 + (Int32.toInt64 y1))), none, some (.int (x3 + 1)), none, none] [] I J) : Go G (fr G m_RM_digest (d + 5) P) 22 [some (.ref 67), none, none, some (.int x3), none, none] [.int y1, .long s0] I J := by
  refine g_i2l dc_RM_digest_22 rfl ?_
  refine g_ladd dc_RM_digest_23 rfl ?_
  refine g_lstore_n (L' := [some (.ref 67), some (.long (s0 + (Int32.toInt64 y1))), none, some (.int x3), none, none]) dc_RM_digest_24 rfl rfl (Nat.le_of_ble_eq_true rfl) rfl ?_
  refine g_iinc (v := (x3 + 1)) (L' := [some (.ref 67), some (.long (s0 + (Int32.toInt64 y1))), none, some (.int (x3 + 1)), none, none]) dc_RM_digest_25 rfl rfl (by rw [show Int32.ofInt 1 = 1 from by decide]) (Nat.le_of_ble_eq_true rfl) rfl ?_
  refine g_goto (tgt := 6) dc_RM_digest_28 (by decide) ?_
  exact k1
theorem w_RM_digest_33 {G : GC} {d : Nat} {P : PT} {I : MI} {J : MJ} {l1 : Int64} {x3 : Int32} (k1 : (4 ≤ x3) → Go G (fr G m_RM_digest (d + 5) P) 86 [some (.ref 67), some (.long l1), none, some (.int 0), none, none] [] I J) (k2 : (¬ (4 ≤ x3)) → Ct G (d + 4) m_RM_pointsBy [.ref 67, .int x3, .int (I 67 5)] (fun r I' J' => Go G (fr G m_RM_digest (d + 5) P) 47 [some (.ref 67), some (.long l1), none, some (.int x3), none, none] (r.toList ++ []) I' J') I J) : Go G (fr G m_RM_digest (d + 5) P) 33 [some (.ref 67), some (.long l1), none, some (.int x3), none, none] [] I J := by
  refine g_iload_n dc_RM_digest_33 rfl rfl rfl ?_
  refine g_iconst (v := 4) dc_RM_digest_34 rfl (by decide) ?_
  refine g_ic_ge (tgt := 84) dc_RM_digest_35 rfl (by decide) (fun c1 => ?_) (fun c1 => ?_)
  · refine g_iconst (v := 0) dc_RM_digest_84 rfl (by decide) ?_
    refine g_istore_n (L' := [some (.ref 67), some (.long l1), none, some (.int 0), none, none]) dc_RM_digest_85 rfl rfl (Nat.le_of_ble_eq_true rfl) rfl ?_
    exact (k1 c1)
  · refine g_aload_n dc_RM_digest_38 rfl rfl rfl ?_
    refine g_iload_n dc_RM_digest_39 rfl rfl rfl ?_
    refine g_aload_n dc_RM_digest_40 rfl rfl rfl ?_
    refine g_get (C := "LevelBreaksModel") (T := T_RM) (N := 45) (k := 5) (v := .int (I 67 5)) sh_67 (by decide) rfl rfl i_RM (by decide) fl_RM_22 (Or.inl rfl) rfl dc_RM_digest_41 rfl ?_
    exact g_callV (T := T_RM) (N := 45) (As := [.int x3, .int (I 67 5)]) (rest := []) ok_RM_pointsBy in_RM_pointsBy se_RM_pointsBy ml_RM_148 sh_67 (by decide) rfl rfl rfl (Nat.le_of_ble_eq_true rfl) dc_RM_digest_44 rfl rOk_fr (k2 c1)
theorem w_RM_digest_47 {G : GC} {d : Nat} {P : PT} {I : MI} {J : MJ} {l1 : Int64} {x3 : Int32} (k1 : Go G (fr G m_RM_digest (d + 5) P) 50 [some (.ref 67), some (.long l1), none, some (.int x3), some (.int 0), none] [] I J) : Go G (fr G m_RM_digest (d + 5) P) 47 [some (.ref 67), some (.long l1), none, some (.int x3), none, none] [] I J := by
  refine g_iconst (v := 0) dc_RM_digest_47 rfl (by decide) ?_
  refine g_istore (L' := [some (.ref 67), some (.long l1), none, some (.int x3), some (.int 0), none]) dc_RM_digest_48 rfl (Nat.le_of_ble_eq_true rfl) rfl ?_
  exact k1
theorem w_RM_digest_50 {G : GC} {d : Nat} {P : PT} {I : MI} {J : MJ} {l1 : Int64} {x3 : Int32} {x4 : Int32} (k1 : (40 ≤ x4) → Go G (fr G m_RM_digest (d + 5) P) 33 [some (.ref 67), some (.long l1), none, some (.int (x3 + 1)), none, none] [] I J) (b2 : (¬ (40 ≤ x4)) → vp_in x4 40) (k3 : (¬ (40 ≤ x4)) → Go G (fr G m_RM_digest (d + 5) P) 50 [some (.ref 67), some (.long ((31 * l1) + (Int32.toInt64 (I 75 x4.toNatClampNeg)))), none, some (.int x3), some (.int (x4 + 1)), none] [] I J) : Go G (fr G m_RM_digest (d + 5) P) 50 [some (.ref 67), some (.long l1), none, some (.int x3), some (.int x4), none] [] I J := by
  refine g_iload dc_RM_digest_50 rfl rfl ?_
  refine g_bipush (v := 40) dc_RM_digest_52 rfl (by decide) ?_
  refine g_ic_ge (tgt := 78) dc_RM_digest_54 rfl (by decide) (fun c1 => ?_) (fun c1 => ?_)
  · refine g_iinc (v := (x3 + 1)) (L' := [some (.ref 67), some (.long l1), none, some (.int (x3 + 1)), some (.int x4), none]) dc_RM_digest_78 rfl rfl (by rw [show Int32.ofInt 1 = 1 from by decide]) (Nat.le_of_ble_eq_true rfl) rfl ?_
    refine g_goto (tgt := 33) dc_RM_digest_81 (by decide) ?_
    refine g_weak [some (.ref 67), some (.long l1), none, some (.int (x3 + 1)), none, none] ⟨rfl, ⟨rfl, ⟨rfl, trivial⟩⟩⟩ ?_
    exact (k1 c1)
  · refine g_ldc2 (v := 31) kl_RM_337 dc_RM_digest_57 rfl ?_
    refine g_lload_n dc_RM_digest_60 rfl rfl rfl ?_
    refine g_lmul dc_RM_digest_61 rfl ?_
    refine g_aload_n dc_RM_digest_62 rfl rfl rfl ?_
    refine g_get (C := "LevelBreaksModel") (T := T_RM) (N := 45) (k := 10) (v := .ref 75) sh_67 (by decide) rfl rfl i_RM (by decide) fl_RM_35 (Or.inl rfl) rfl dc_RM_digest_63 rfl ?_
    refine g_iload dc_RM_digest_66 rfl rfl ?_
    refine g_ialdv (v := (I 75 x4.toNatClampNeg)) sh_75 (b2 c1) rfl dc_RM_digest_68 rfl ?_
    refine g_i2l dc_RM_digest_69 rfl ?_
    refine g_ladd dc_RM_digest_70 rfl ?_
    refine g_lstore_n (L' := [some (.ref 67), some (.long ((31 * l1) + (Int32.toInt64 (I 75 x4.toNatClampNeg)))), none, some (.int x3), some (.int x4), none]) dc_RM_digest_71 rfl rfl (Nat.le_of_ble_eq_true rfl) rfl ?_
    refine g_iinc (v := (x4 + 1)) (L' := [some (.ref 67), some (.long ((31 * l1) + (Int32.toInt64 (I 75 x4.toNatClampNeg)))), none, some (.int x3), some (.int (x4 + 1)), none]) dc_RM_digest_72 rfl rfl (by rw [show Int32.ofInt 1 = 1 from by decide]) (Nat.le_of_ble_eq_true rfl) rfl ?_
    refine g_goto (tgt := 50) dc_RM_digest_75 (by decide) ?_
    exact (k3 c1)
theorem w_RM_digest_86 {G : GC} {d : Nat} {P : PT} {I : MI} {J : MJ} {l1 : Int64} {x3 : Int32} (k1 : (4 ≤ x3) → Ct G (d + 4) m_RM_faultNow [.ref 67] (fun r I' J' => Go G (fr G m_RM_digest (d + 5) P) 183 [none, none, none, none, none, none] (r.toList ++ [.long (31 * l1)]) I' J') I J) (k2 : (¬ (4 ≤ x3)) → Go G (fr G m_RM_digest (d + 5) P) 94 [some (.ref 67), some (.long l1), none, some (.int x3), some (.int 0), none] [] I J) : Go G (fr G m_RM_digest (d + 5) P) 86 [some (.ref 67), some (.long l1), none, some (.int x3), none, none] [] I J := by
  refine g_iload_n dc_RM_digest_86 rfl rfl rfl ?_
  refine g_iconst (v := 4) dc_RM_digest_87 rfl (by decide) ?_
  refine g_ic_ge (tgt := 174) dc_RM_digest_88 rfl (by decide) (fun c1 => ?_) (fun c1 => ?_)
  · refine g_ldc2 (v := 31) kl_RM_337 dc_RM_digest_174 rfl ?_
    refine g_lload_n dc_RM_digest_177 rfl rfl rfl ?_
    refine g_lmul dc_RM_digest_178 rfl ?_
    refine g_aload_n dc_RM_digest_179 rfl rfl rfl ?_
    refine g_weak [none, none, none, none, none, none] trivial ?_
    exact g_callV (T := T_RM) (N := 45) (As := []) (rest := [.long (31 * l1)]) ok_RM_faultNow in_RM_faultNow se_RM_faultNow ml_RM_318 sh_67 (by decide) rfl rfl rfl (Nat.le_of_ble_eq_true rfl) dc_RM_digest_180 rfl rOk_fr (k1 c1)
  · refine g_iconst (v := 0) dc_RM_digest_91 rfl (by decide) ?_
    refine g_istore (L' := [some (.ref 67), some (.long l1), none, some (.int x3), some (.int 0), none]) dc_RM_digest_92 rfl (Nat.le_of_ble_eq_true rfl) rfl ?_
    exact (k2 c1)
theorem w_RM_digest_94 {G : GC} {d : Nat} {P : PT} {I : MI} {J : MJ} {l1 : Int64} {x3 : Int32} {x4 : Int32} (k1 : (4 ≤ x4) → Go G (fr G m_RM_digest (d + 5) P) 86 [some (.ref 67), some (.long l1), none, some (.int (x3 + 1)), none, none] [] I J) (k2 : (¬ (4 ≤ x4)) → Ct G (d + 4) m_RM_finds [.ref 67, .int x3, .int x4, .int 2, .int (I 67 5)] (fun r I' J' => Go G (fr G m_RM_digest (d + 5) P) 112 [some (.ref 67), some (.long l1), none, some (.int x3), some (.int x4), none] (r.toList ++ []) I' J') I J) : Go G (fr G m_RM_digest (d + 5) P) 94 [some (.ref 67), some (.long l1), none, some (.int x3), some (.int x4), none] [] I J := by
  refine g_iload dc_RM_digest_94 rfl rfl ?_
  refine g_iconst (v := 4) dc_RM_digest_96 rfl (by decide) ?_
  refine g_ic_ge (tgt := 168) dc_RM_digest_97 rfl (by decide) (fun c1 => ?_) (fun c1 => ?_)
  · refine g_iinc (v := (x3 + 1)) (L' := [some (.ref 67), some (.long l1), none, some (.int (x3 + 1)), some (.int x4), none]) dc_RM_digest_168 rfl rfl (by rw [show Int32.ofInt 1 = 1 from by decide]) (Nat.le_of_ble_eq_true rfl) rfl ?_
    refine g_goto (tgt := 86) dc_RM_digest_171 (by decide) ?_
    refine g_weak [some (.ref 67), some (.long l1), none, some (.int (x3 + 1)), none, none] ⟨rfl, ⟨rfl, ⟨rfl, trivial⟩⟩⟩ ?_
    exact (k1 c1)
  · refine g_aload_n dc_RM_digest_100 rfl rfl rfl ?_
    refine g_iload_n dc_RM_digest_101 rfl rfl rfl ?_
    refine g_iload dc_RM_digest_102 rfl rfl ?_
    refine g_iconst (v := 2) dc_RM_digest_104 rfl (by decide) ?_
    refine g_aload_n dc_RM_digest_105 rfl rfl rfl ?_
    refine g_get (C := "LevelBreaksModel") (T := T_RM) (N := 45) (k := 5) (v := .int (I 67 5)) sh_67 (by decide) rfl rfl i_RM (by decide) fl_RM_22 (Or.inl rfl) rfl dc_RM_digest_106 rfl ?_
    exact g_callV (T := T_RM) (N := 45) (As := [.int x3, .int x4, .int 2, .int (I 67 5)]) (rest := []) ok_RM_finds in_RM_finds se_RM_finds ml_RM_220 sh_67 (by decide) rfl rfl rfl (Nat.le_of_ble_eq_true rfl) dc_RM_digest_109 rfl rOk_fr (k2 c1)
theorem w_RM_digest_112 {G : GC} {d : Nat} {P : PT} {I : MI} {J : MJ} {l1 : Int64} {x3 : Int32} {x4 : Int32} {y0 : Int32} (k1 : (y0 = 0) → Go G (fr G m_RM_digest (d + 5) P) 136 [some (.ref 67), none, none, some (.int x3), some (.int x4), some (.int y0)] [.long (-3), .long (31 * l1)] I J) (k2 : (¬ (y0 = 0)) → Ct G (d + 4) m_RM_bestTold [.ref 67, .int 2, .int 0] (fun r I' J' => Go G (fr G m_RM_digest (d + 5) P) 130 [some (.ref 67), none, none, some (.int x3), some (.int x4), some (.int y0)] (r.toList ++ [.long (31 * l1)]) I' J') I J) : Go G (fr G m_RM_digest (d + 5) P) 112 [some (.ref 67), some (.long l1), none, some (.int x3), some (.int x4), none] [.int y0] I J := by
  refine g_istore (L' := [some (.ref 67), some (.long l1), none, some (.int x3), some (.int x4), some (.int y0)]) dc_RM_digest_112 rfl (Nat.le_of_ble_eq_true rfl) rfl ?_
  refine g_ldc2 (v := 31) kl_RM_337 dc_RM_digest_114 rfl ?_
  refine g_lload_n dc_RM_digest_117 rfl rfl rfl ?_
  refine g_lmul dc_RM_digest_118 rfl ?_
  refine g_iload dc_RM_digest_119 rfl rfl ?_
  refine g_if_eq (tgt := 133) dc_RM_digest_121 rfl (by decide) (fun c1 => ?_) (fun c1 => ?_)
  · refine g_ldc2 (v := (-3)) kl_RM_342 dc_RM_digest_133 rfl ?_
    refine g_weak [some (.ref 67), none, none, some (.int x3), some (.int x4), some (.int y0)] ⟨rfl, ⟨rfl, ⟨rfl, ⟨rfl, trivial⟩⟩⟩⟩ ?_
    exact (k1 c1)
  · refine g_aload_n dc_RM_digest_124 rfl rfl rfl ?_
    refine g_iconst (v := 2) dc_RM_digest_125 rfl (by decide) ?_
    refine g_iconst (v := 0) dc_RM_digest_126 rfl (by decide) ?_
    refine g_weak [some (.ref 67), none, none, some (.int x3), some (.int x4), some (.int y0)] ⟨rfl, ⟨rfl, ⟨rfl, ⟨rfl, trivial⟩⟩⟩⟩ ?_
    exact g_callV (T := T_RM) (N := 45) (As := [.int 2, .int 0]) (rest := [.long (31 * l1)]) ok_RM_bestTold in_RM_bestTold se_RM_bestTold ml_RM_224 sh_67 (by decide) rfl rfl rfl (Nat.le_of_ble_eq_true rfl) dc_RM_digest_127 rfl rOk_fr (k2 c1)
theorem w_RM_digest_130 {G : GC} {d : Nat} {P : PT} {I : MI} {J : MJ} {x3 : Int32} {x4 : Int32} {x5 : Int32} {s0 : Int64} {s1 : Int64} (k1 : Go G (fr G m_RM_digest (d + 5) P) 136 [some (.ref 67), none, none, some (.int x3), some (.int x4), some (.int x5)] [.long s1, .long s0] I J) : Go G (fr G m_RM_digest (d + 5) P) 130 [some (.ref 67), none, none, some (.int x3), some (.int x4), some (.int x5)] [.long s1, .long s0] I J := by
  refine g_goto (tgt := 136) dc_RM_digest_130 (by decide) ?_
  exact k1
theorem w_RM_digest_136 {G : GC} {d : Nat} {P : PT} {I : MI} {J : MJ} {x3 : Int32} {x4 : Int32} {x5 : Int32} {s0 : Int64} {s1 : Int64} (k1 : (x5 = 0) → Go G (fr G m_RM_digest (d + 5) P) 160 [some (.ref 67), none, none, some (.int x3), some (.int x4), none] [.long (-3), .long (31 * (s0 + s1))] I J) (k2 : (¬ (x5 = 0)) → Ct G (d + 4) m_RM_bestTold [.ref 67, .int 2, .int 1] (fun r I' J' => Go G (fr G m_RM_digest (d + 5) P) 154 [some (.ref 67), none, none, some (.int x3), some (.int x4), none] (r.toList ++ [.long (31 * (s0 + s1))]) I' J') I J) : Go G (fr G m_RM_digest (d + 5) P) 136 [some (.ref 67), none, none, some (.int x3), some (.int x4), some (.int x5)] [.long s1, .long s0] I J := by
  refine g_ladd dc_RM_digest_136 rfl ?_
  refine g_lstore_n (L' := [some (.ref 67), some (.long (s0 + s1)), none, some (.int x3), some (.int x4), some (.int x5)]) dc_RM_digest_137 rfl rfl (Nat.le_of_ble_eq_true rfl) rfl ?_
  refine g_ldc2 (v := 31) kl_RM_337 dc_RM_digest_138 rfl ?_
  refine g_lload_n dc_RM_digest_141 rfl rfl rfl ?_
  refine g_lmul dc_RM_digest_142 rfl ?_
  refine g_iload dc_RM_digest_143 rfl rfl ?_
  refine g_if_eq (tgt := 157) dc_RM_digest_145 rfl (by decide) (fun c1 => ?_) (fun c1 => ?_)
  · refine g_ldc2 (v := (-3)) kl_RM_342 dc_RM_digest_157 rfl ?_
    refine g_weak [some (.ref 67), none, none, some (.int x3), some (.int x4), none] ⟨rfl, ⟨rfl, ⟨rfl, trivial⟩⟩⟩ ?_
    exact (k1 c1)
  · refine g_aload_n dc_RM_digest_148 rfl rfl rfl ?_
    refine g_iconst (v := 2) dc_RM_digest_149 rfl (by decide) ?_
    refine g_iconst (v := 1) dc_RM_digest_150 rfl (by decide) ?_
    refine g_weak [some (.ref 67), none, none, some (.int x3), some (.int x4), none] ⟨rfl, ⟨rfl, ⟨rfl, trivial⟩⟩⟩ ?_
    exact g_callV (T := T_RM) (N := 45) (As := [.int 2, .int 1]) (rest := [.long (31 * (s0 + s1))]) ok_RM_bestTold in_RM_bestTold se_RM_bestTold ml_RM_224 sh_67 (by decide) rfl rfl rfl (Nat.le_of_ble_eq_true rfl) dc_RM_digest_151 rfl rOk_fr (k2 c1)
theorem w_RM_digest_154 {G : GC} {d : Nat} {P : PT} {I : MI} {J : MJ} {x3 : Int32} {x4 : Int32} {s0 : Int64} {s1 : Int64} (k1 : Go G (fr G m_RM_digest (d + 5) P) 160 [some (.ref 67), none, none, some (.int x3), some (.int x4), none] [.long s1, .long s0] I J) : Go G (fr G m_RM_digest (d + 5) P) 154 [some (.ref 67), none, none, some (.int x3), some (.int x4), none] [.long s1, .long s0] I J := by
  refine g_goto (tgt := 160) dc_RM_digest_154 (by decide) ?_
  exact k1
theorem w_RM_digest_160 {G : GC} {d : Nat} {P : PT} {I : MI} {J : MJ} {x3 : Int32} {x4 : Int32} {s0 : Int64} {s1 : Int64} (k1 : Go G (fr G m_RM_digest (d + 5) P) 94 [some (.ref 67), some (.long (s0 + s1)), none, some (.int x3), some (.int (x4 + 1)), none] [] I J) : Go G (fr G m_RM_digest (d + 5) P) 160 [some (.ref 67), none, none, some (.int x3), some (.int x4), none] [.long s1, .long s0] I J := by
  refine g_ladd dc_RM_digest_160 rfl ?_
  refine g_lstore_n (L' := [some (.ref 67), some (.long (s0 + s1)), none, some (.int x3), some (.int x4), none]) dc_RM_digest_161 rfl rfl (Nat.le_of_ble_eq_true rfl) rfl ?_
  refine g_iinc (v := (x4 + 1)) (L' := [some (.ref 67), some (.long (s0 + s1)), none, some (.int x3), some (.int (x4 + 1)), none]) dc_RM_digest_162 rfl rfl (by rw [show Int32.ofInt 1 = 1 from by decide]) (Nat.le_of_ble_eq_true rfl) rfl ?_
  refine g_goto (tgt := 94) dc_RM_digest_165 (by decide) ?_
  exact k1
theorem w_RM_digest_183 {G : GC} {d : Nat} {P : PT} {I : MI} {J : MJ} {s0 : Int64} {y1 : Int32} (q1 : P (some (.long (s0 + (Int32.toInt64 y1)))) I J) : Go G (fr G m_RM_digest (d + 5) P) 183 [none, none, none, none, none, none] [.int y1, .long s0] I J := by
  refine g_i2l dc_RM_digest_183 rfl ?_
  refine g_ladd dc_RM_digest_184 rfl ?_
  exact g_lret rfl dc_RM_digest_185 q1
theorem dc_RM_divisor_0 : decode prog_14_method_18_code 0 = .ok (.lload_n 0, 1) := by decide +kernel
theorem dc_RM_divisor_1 : decode prog_14_method_18_code 1 = .ok (.lstore 4, 2) := by decide +kernel
theorem dc_RM_divisor_3 : decode prog_14_method_18_code 3 = .ok (.lload_n 2, 1) := by decide +kernel
theorem dc_RM_divisor_4 : decode prog_14_method_18_code 4 = .ok (.lstore 6, 2) := by decide +kernel
theorem dc_RM_divisor_6 : decode prog_14_method_18_code 6 = .ok (.lload 6, 2) := by decide +kernel
theorem dc_RM_divisor_8 : decode prog_14_method_18_code 8 = .ok (.lconst 0, 1) := by decide +kernel
theorem dc_RM_divisor_9 : decode prog_14_method_18_code 9 = .ok (.lcmp, 1) := by decide +kernel
theorem dc_RM_divisor_10 : decode prog_14_method_18_code 10 = .ok (.ifCond .eq 21, 3) := by decide +kernel
theorem dc_RM_divisor_13 : decode prog_14_method_18_code 13 = .ok (.lload 4, 2) := by decide +kernel
theorem dc_RM_divisor_15 : decode prog_14_method_18_code 15 = .ok (.lload 6, 2) := by decide +kernel
theorem dc_RM_divisor_17 : decode prog_14_method_18_code 17 = .ok (.lrem, 1) := by decide +kernel
theorem dc_RM_divisor_18 : decode prog_14_method_18_code 18 = .ok (.lstore 8, 2) := by decide +kernel
theorem dc_RM_divisor_20 : decode prog_14_method_18_code 20 = .ok (.lload 6, 2) := by decide +kernel
theorem dc_RM_divisor_22 : decode prog_14_method_18_code 22 = .ok (.lstore 4, 2) := by decide +kernel
theorem dc_RM_divisor_24 : decode prog_14_method_18_code 24 = .ok (.lload 8, 2) := by decide +kernel
theorem dc_RM_divisor_26 : decode prog_14_method_18_code 26 = .ok (.lstore 6, 2) := by decide +kernel
theorem dc_RM_divisor_28 : decode prog_14_method_18_code 28 = .ok (.goto (-22), 3) := by decide +kernel
theorem dc_RM_divisor_31 : decode prog_14_method_18_code 31 = .ok (.lload 4, 2) := by decide +kernel
theorem dc_RM_divisor_33 : decode prog_14_method_18_code 33 = .ok (.lreturn, 1) := by decide +kernel
theorem w_RM_divisor_0 {G : GC} {d : Nat} {P : PT} {I : MI} {J : MJ} {l0 : Int64} {l2 : Int64} (k1 : Go G (fr G m_RM_divisor d P) 6 [none, none, none, none, some (.long l0), none, some (.long l2), none, none, none] [] I J) : Go G (fr G m_RM_divisor d P) 0 [some (.long l0), none, some (.long l2), none, none, none, none, none, none, none] [] I J := by
  refine g_lload_n dc_RM_divisor_0 rfl rfl rfl ?_
  refine g_lstore (L' := [some (.long l0), none, some (.long l2), none, some (.long l0), none, none, none, none, none]) dc_RM_divisor_1 rfl (Nat.le_of_ble_eq_true rfl) rfl ?_
  refine g_lload_n dc_RM_divisor_3 rfl rfl rfl ?_
  refine g_lstore (L' := [some (.long l0), none, some (.long l2), none, some (.long l0), none, some (.long l2), none, none, none]) dc_RM_divisor_4 rfl (Nat.le_of_ble_eq_true rfl) rfl ?_
  refine g_weak [none, none, none, none, some (.long l0), none, some (.long l2), none, none, none] ⟨rfl, ⟨rfl, trivial⟩⟩ ?_
  exact k1
theorem w_RM_divisor_6 {G : GC} {d : Nat} {P : PT} {I : MI} {J : MJ} {l4 : Int64} {l6 : Int64} (q1 : (l6 = 0) → P (some (.long l4)) I J) (z2 : (¬ (l6 = 0)) → ¬ l6 = 0) (k3 : (¬ (l6 = 0)) → Go G (fr G m_RM_divisor d P) 6 [none, none, none, none, some (.long l6), none, some (.long (l4 - l4 / l6 * l6)), none, none, none] [] I J) : Go G (fr G m_RM_divisor d P) 6 [none, none, none, none, some (.long l4), none, some (.long l6), none, none, none] [] I J := by
  refine g_lload dc_RM_divisor_6 rfl rfl ?_
  refine g_lconst (v := 0) dc_RM_divisor_8 rfl (by decide) ?_
  refine g_lc_eq (tgt := 31) dc_RM_divisor_9 rfl dc_RM_divisor_10 rfl (by decide) (fun c1 => ?_) (fun c1 => ?_)
  · refine g_lload dc_RM_divisor_31 rfl rfl ?_
    exact g_lret rfl dc_RM_divisor_33 (q1 c1)
  · refine g_lload dc_RM_divisor_13 rfl rfl ?_
    refine g_lload dc_RM_divisor_15 rfl rfl ?_
    refine g_lrem dc_RM_divisor_17 rfl (z2 c1) ?_
    refine g_lstore (L' := [none, none, none, none, some (.long l4), none, some (.long l6), none, some (.long (l4 - l4 / l6 * l6)), none]) dc_RM_divisor_18 rfl (Nat.le_of_ble_eq_true rfl) rfl ?_
    refine g_lload dc_RM_divisor_20 rfl rfl ?_
    refine g_lstore (L' := [none, none, none, none, some (.long l6), none, some (.long l6), none, some (.long (l4 - l4 / l6 * l6)), none]) dc_RM_divisor_22 rfl (Nat.le_of_ble_eq_true rfl) rfl ?_
    refine g_lload dc_RM_divisor_24 rfl rfl ?_
    refine g_lstore (L' := [none, none, none, none, some (.long l6), none, some (.long (l4 - l4 / l6 * l6)), none, some (.long (l4 - l4 / l6 * l6)), none]) dc_RM_divisor_26 rfl (Nat.le_of_ble_eq_true rfl) rfl ?_
    refine g_goto (tgt := 6) dc_RM_divisor_28 (by decide) ?_
    refine g_weak [none, none, none, none, some (.long l6), none, some (.long (l4 - l4 / l6 * l6)), none, none, none] ⟨rfl, ⟨rfl, trivial⟩⟩ ?_
    exact (k3 c1)
theorem dc_RM_doubt_0 : decode prog_14_method_49_code 0 = .ok (.iload_n 1, 1) := by decide +kernel
theorem dc_RM_doubt_1 : decode prog_14_method_49_code 1 = .ok (.invokestatic 119, 3) := by decide +kernel
theorem dc_RM_doubt_4 : decode prog_14_method_49_code 4 = .ok (.ifCond .eq 24, 3) := by decide +kernel
theorem dc_RM_doubt_7 : decode prog_14_method_49_code 7 = .ok (.iload_n 2, 1) := by decide +kernel
theorem dc_RM_doubt_8 : decode prog_14_method_49_code 8 = .ok (.iconst 2, 1) := by decide +kernel
theorem dc_RM_doubt_9 : decode prog_14_method_49_code 9 = .ok (.bipush 6, 2) := by decide +kernel
theorem dc_RM_doubt_11 : decode prog_14_method_49_code 11 = .ok (.invokestatic 112, 3) := by decide +kernel
theorem dc_RM_doubt_14 : decode prog_14_method_49_code 14 = .ok (.ifCond .eq 14, 3) := by decide +kernel
theorem dc_RM_doubt_17 : decode prog_14_method_49_code 17 = .ok (.iload_n 3, 1) := by decide +kernel
theorem dc_RM_doubt_18 : decode prog_14_method_49_code 18 = .ok (.iconst 1, 1) := by decide +kernel
theorem dc_RM_doubt_19 : decode prog_14_method_49_code 19 = .ok (.iload_n 2, 1) := by decide +kernel
theorem dc_RM_doubt_20 : decode prog_14_method_49_code 20 = .ok (.iconst 1, 1) := by decide +kernel
theorem dc_RM_doubt_21 : decode prog_14_method_49_code 21 = .ok (.isub, 1) := by decide +kernel
theorem dc_RM_doubt_22 : decode prog_14_method_49_code 22 = .ok (.invokestatic 112, 3) := by decide +kernel
theorem dc_RM_doubt_25 : decode prog_14_method_49_code 25 = .ok (.ifCond .ne 6, 3) := by decide +kernel
theorem dc_RM_doubt_28 : decode prog_14_method_49_code 28 = .ok (.bipush (-2), 2) := by decide +kernel
theorem dc_RM_doubt_30 : decode prog_14_method_49_code 30 = .ok (.ireturn, 1) := by decide +kernel
theorem dc_RM_doubt_31 : decode prog_14_method_49_code 31 = .ok (.aload_n 0, 1) := by decide +kernel
theorem dc_RM_doubt_32 : decode prog_14_method_49_code 32 = .ok (.iload_n 1, 1) := by decide +kernel
theorem dc_RM_doubt_33 : decode prog_14_method_49_code 33 = .ok (.iconst 0, 1) := by decide +kernel
theorem dc_RM_doubt_34 : decode prog_14_method_49_code 34 = .ok (.iload_n 2, 1) := by decide +kernel
theorem dc_RM_doubt_35 : decode prog_14_method_49_code 35 = .ok (.aload_n 0, 1) := by decide +kernel
theorem dc_RM_doubt_36 : decode prog_14_method_49_code 36 = .ok (.getfield 22, 3) := by decide +kernel
theorem dc_RM_doubt_39 : decode prog_14_method_49_code 39 = .ok (.invokevirtual 220, 3) := by decide +kernel
theorem dc_RM_doubt_42 : decode prog_14_method_49_code 42 = .ok (.ifCond .ne 6, 3) := by decide +kernel
theorem dc_RM_doubt_45 : decode prog_14_method_49_code 45 = .ok (.bipush (-3), 2) := by decide +kernel
theorem dc_RM_doubt_47 : decode prog_14_method_49_code 47 = .ok (.ireturn, 1) := by decide +kernel
theorem dc_RM_doubt_48 : decode prog_14_method_49_code 48 = .ok (.aload_n 0, 1) := by decide +kernel
theorem dc_RM_doubt_49 : decode prog_14_method_49_code 49 = .ok (.getfield 60, 3) := by decide +kernel
theorem dc_RM_doubt_52 : decode prog_14_method_49_code 52 = .ok (.iload_n 3, 1) := by decide +kernel
theorem dc_RM_doubt_53 : decode prog_14_method_49_code 53 = .ok (.iconst 1, 1) := by decide +kernel
theorem dc_RM_doubt_54 : decode prog_14_method_49_code 54 = .ok (.isub, 1) := by decide +kernel
theorem dc_RM_doubt_55 : decode prog_14_method_49_code 55 = .ok (.iaload, 1) := by decide +kernel
theorem dc_RM_doubt_56 : decode prog_14_method_49_code 56 = .ok (.istore 4, 2) := by decide +kernel
theorem dc_RM_doubt_58 : decode prog_14_method_49_code 58 = .ok (.aload_n 0, 1) := by decide +kernel
theorem dc_RM_doubt_59 : decode prog_14_method_49_code 59 = .ok (.getfield 60, 3) := by decide +kernel
theorem dc_RM_doubt_62 : decode prog_14_method_49_code 62 = .ok (.iload_n 3, 1) := by decide +kernel
theorem dc_RM_doubt_63 : decode prog_14_method_49_code 63 = .ok (.iaload, 1) := by decide +kernel
theorem dc_RM_doubt_64 : decode prog_14_method_49_code 64 = .ok (.iload 4, 2) := by decide +kernel
theorem dc_RM_doubt_66 : decode prog_14_method_49_code 66 = .ok (.isub, 1) := by decide +kernel
theorem dc_RM_doubt_67 : decode prog_14_method_49_code 67 = .ok (.istore 5, 2) := by decide +kernel
theorem dc_RM_doubt_69 : decode prog_14_method_49_code 69 = .ok (.aload_n 0, 1) := by decide +kernel
theorem dc_RM_doubt_70 : decode prog_14_method_49_code 70 = .ok (.getfield 60, 3) := by decide +kernel
theorem dc_RM_doubt_73 : decode prog_14_method_49_code 73 = .ok (.iload_n 3, 1) := by decide +kernel
theorem dc_RM_doubt_74 : decode prog_14_method_49_code 74 = .ok (.iconst 1, 1) := by decide +kernel
theorem dc_RM_doubt_75 : decode prog_14_method_49_code 75 = .ok (.iadd, 1) := by decide +kernel
theorem dc_RM_doubt_76 : decode prog_14_method_49_code 76 = .ok (.iaload, 1) := by decide +kernel
theorem dc_RM_doubt_77 : decode prog_14_method_49_code 77 = .ok (.iload 4, 2) := by decide +kernel
theorem dc_RM_doubt_79 : decode prog_14_method_49_code 79 = .ok (.isub, 1) := by decide +kernel
theorem dc_RM_doubt_80 : decode prog_14_method_49_code 80 = .ok (.istore 6, 2) := by decide +kernel
theorem dc_RM_doubt_82 : decode prog_14_method_49_code 82 = .ok (.iload 6, 2) := by decide +kernel
theorem dc_RM_doubt_84 : decode prog_14_method_49_code 84 = .ok (.bipush 16, 2) := by decide +kernel
theorem dc_RM_doubt_86 : decode prog_14_method_49_code 86 = .ok (.if_icmp .le 6, 3) := by decide +kernel
theorem dc_RM_doubt_89 : decode prog_14_method_49_code 89 = .ok (.bipush (-4), 2) := by decide +kernel
theorem dc_RM_doubt_91 : decode prog_14_method_49_code 91 = .ok (.ireturn, 1) := by decide +kernel
theorem dc_RM_doubt_92 : decode prog_14_method_49_code 92 = .ok (.lconst 0, 1) := by decide +kernel
theorem dc_RM_doubt_93 : decode prog_14_method_49_code 93 = .ok (.lstore 7, 2) := by decide +kernel
theorem dc_RM_doubt_95 : decode prog_14_method_49_code 95 = .ok (.lconst 0, 1) := by decide +kernel
theorem dc_RM_doubt_96 : decode prog_14_method_49_code 96 = .ok (.lstore 9, 2) := by decide +kernel
theorem dc_RM_doubt_98 : decode prog_14_method_49_code 98 = .ok (.iconst 0, 1) := by decide +kernel
theorem dc_RM_doubt_99 : decode prog_14_method_49_code 99 = .ok (.istore 11, 2) := by decide +kernel
theorem dc_RM_doubt_101 : decode prog_14_method_49_code 101 = .ok (.iload 11, 2) := by decide +kernel
theorem dc_RM_doubt_103 : decode prog_14_method_49_code 103 = .ok (.iload 6, 2) := by decide +kernel
theorem dc_RM_doubt_105 : decode prog_14_method_49_code 105 = .ok (.if_icmp .ge 52, 3) := by decide +kernel
theorem dc_RM_doubt_108 : decode prog_14_method_49_code 108 = .ok (.lload 7, 2) := by decide +kernel
theorem dc_RM_doubt_110 : decode prog_14_method_49_code 110 = .ok (.aload_n 0, 1) := by decide +kernel
theorem dc_RM_doubt_111 : decode prog_14_method_49_code 111 = .ok (.getfield 29, 3) := by decide +kernel
theorem dc_RM_doubt_114 : decode prog_14_method_49_code 114 = .ok (.iload 4, 2) := by decide +kernel
theorem dc_RM_doubt_116 : decode prog_14_method_49_code 116 = .ok (.iload 11, 2) := by decide +kernel
theorem dc_RM_doubt_118 : decode prog_14_method_49_code 118 = .ok (.iadd, 1) := by decide +kernel
theorem dc_RM_doubt_119 : decode prog_14_method_49_code 119 = .ok (.iaload, 1) := by decide +kernel
theorem dc_RM_doubt_120 : decode prog_14_method_49_code 120 = .ok (.i2l, 1) := by decide +kernel
theorem dc_RM_doubt_121 : decode prog_14_method_49_code 121 = .ok (.ladd, 1) := by decide +kernel
theorem dc_RM_doubt_122 : decode prog_14_method_49_code 122 = .ok (.lstore 7, 2) := by decide +kernel
theorem dc_RM_doubt_124 : decode prog_14_method_49_code 124 = .ok (.lload 9, 2) := by decide +kernel
theorem dc_RM_doubt_126 : decode prog_14_method_49_code 126 = .ok (.iload 11, 2) := by decide +kernel
theorem dc_RM_doubt_128 : decode prog_14_method_49_code 128 = .ok (.iload 5, 2) := by decide +kernel
theorem dc_RM_doubt_130 : decode prog_14_method_49_code 130 = .ok (.if_icmp .ge 17, 3) := by decide +kernel
theorem dc_RM_doubt_133 : decode prog_14_method_49_code 133 = .ok (.aload_n 0, 1) := by decide +kernel
theorem dc_RM_doubt_134 : decode prog_14_method_49_code 134 = .ok (.getfield 29, 3) := by decide +kernel
theorem dc_RM_doubt_137 : decode prog_14_method_49_code 137 = .ok (.iload 4, 2) := by decide +kernel
theorem dc_RM_doubt_139 : decode prog_14_method_49_code 139 = .ok (.iload 11, 2) := by decide +kernel
theorem dc_RM_doubt_141 : decode prog_14_method_49_code 141 = .ok (.iadd, 1) := by decide +kernel
theorem dc_RM_doubt_142 : decode prog_14_method_49_code 142 = .ok (.iaload, 1) := by decide +kernel
theorem dc_RM_doubt_143 : decode prog_14_method_49_code 143 = .ok (.i2l, 1) := by decide +kernel
theorem dc_RM_doubt_144 : decode prog_14_method_49_code 144 = .ok (.goto 4, 3) := by decide +kernel
theorem dc_RM_doubt_147 : decode prog_14_method_49_code 147 = .ok (.lconst 0, 1) := by decide +kernel
theorem dc_RM_doubt_148 : decode prog_14_method_49_code 148 = .ok (.ladd, 1) := by decide +kernel
theorem dc_RM_doubt_149 : decode prog_14_method_49_code 149 = .ok (.lstore 9, 2) := by decide +kernel
theorem dc_RM_doubt_151 : decode prog_14_method_49_code 151 = .ok (.iinc 11 1, 3) := by decide +kernel
theorem dc_RM_doubt_154 : decode prog_14_method_49_code 154 = .ok (.goto (-53), 3) := by decide +kernel
theorem dc_RM_doubt_157 : decode prog_14_method_49_code 157 = .ok (.iload 6, 2) := by decide +kernel
theorem dc_RM_doubt_159 : decode prog_14_method_49_code 159 = .ok (.i2l, 1) := by decide +kernel
theorem dc_RM_doubt_160 : decode prog_14_method_49_code 160 = .ok (.lload 9, 2) := by decide +kernel
theorem dc_RM_doubt_162 : decode prog_14_method_49_code 162 = .ok (.lmul, 1) := by decide +kernel
theorem dc_RM_doubt_163 : decode prog_14_method_49_code 163 = .ok (.lload 7, 2) := by decide +kernel
theorem dc_RM_doubt_165 : decode prog_14_method_49_code 165 = .ok (.iload 5, 2) := by decide +kernel
theorem dc_RM_doubt_167 : decode prog_14_method_49_code 167 = .ok (.i2l, 1) := by decide +kernel
theorem dc_RM_doubt_168 : decode prog_14_method_49_code 168 = .ok (.lmul, 1) := by decide +kernel
theorem dc_RM_doubt_169 : decode prog_14_method_49_code 169 = .ok (.lsub, 1) := by decide +kernel
theorem dc_RM_doubt_170 : decode prog_14_method_49_code 170 = .ok (.invokestatic 175, 3) := by decide +kernel
theorem dc_RM_doubt_173 : decode prog_14_method_49_code 173 = .ok (.lstore 11, 2) := by decide +kernel
theorem dc_RM_doubt_175 : decode prog_14_method_49_code 175 = .ok (.lconst 0, 1) := by decide +kernel
theorem dc_RM_doubt_176 : decode prog_14_method_49_code 176 = .ok (.lstore 13, 2) := by decide +kernel
theorem dc_RM_doubt_178 : decode prog_14_method_49_code 178 = .ok (.lconst 0, 1) := by decide +kernel
theorem dc_RM_doubt_179 : decode prog_14_method_49_code 179 = .ok (.lstore 15, 2) := by decide +kernel
theorem dc_RM_doubt_181 : decode prog_14_method_49_code 181 = .ok (.iconst 0, 1) := by decide +kernel
theorem dc_RM_doubt_182 : decode prog_14_method_49_code 182 = .ok (.istore 17, 2) := by decide +kernel
theorem dc_RM_doubt_184 : decode prog_14_method_49_code 184 = .ok (.iload 17, 2) := by decide +kernel
theorem dc_RM_doubt_186 : decode prog_14_method_49_code 186 = .ok (.iconst 1, 1) := by decide +kernel
theorem dc_RM_doubt_187 : decode prog_14_method_49_code 187 = .ok (.iload 6, 2) := by decide +kernel
theorem dc_RM_doubt_189 : decode prog_14_method_49_code 189 = .ok (.ishl, 1) := by decide +kernel
theorem dc_RM_doubt_190 : decode prog_14_method_49_code 190 = .ok (.if_icmp .ge 107, 3) := by decide +kernel
theorem dc_RM_doubt_193 : decode prog_14_method_49_code 193 = .ok (.iload 17, 2) := by decide +kernel
theorem dc_RM_doubt_195 : decode prog_14_method_49_code 195 = .ok (.invokestatic 261, 3) := by decide +kernel
theorem dc_RM_doubt_198 : decode prog_14_method_49_code 198 = .ok (.iload 5, 2) := by decide +kernel
theorem dc_RM_doubt_200 : decode prog_14_method_49_code 200 = .ok (.if_icmp .ne 91, 3) := by decide +kernel
theorem dc_RM_doubt_203 : decode prog_14_method_49_code 203 = .ok (.lconst 0, 1) := by decide +kernel
theorem dc_RM_doubt_204 : decode prog_14_method_49_code 204 = .ok (.lstore 18, 2) := by decide +kernel
theorem dc_RM_doubt_206 : decode prog_14_method_49_code 206 = .ok (.iconst 0, 1) := by decide +kernel
theorem dc_RM_doubt_207 : decode prog_14_method_49_code 207 = .ok (.istore 20, 2) := by decide +kernel
theorem dc_RM_doubt_209 : decode prog_14_method_49_code 209 = .ok (.iload 20, 2) := by decide +kernel
theorem dc_RM_doubt_211 : decode prog_14_method_49_code 211 = .ok (.iload 6, 2) := by decide +kernel
theorem dc_RM_doubt_213 : decode prog_14_method_49_code 213 = .ok (.if_icmp .ge 40, 3) := by decide +kernel
theorem dc_RM_doubt_216 : decode prog_14_method_49_code 216 = .ok (.lload 18, 2) := by decide +kernel
theorem dc_RM_doubt_218 : decode prog_14_method_49_code 218 = .ok (.iload 17, 2) := by decide +kernel
theorem dc_RM_doubt_220 : decode prog_14_method_49_code 220 = .ok (.iload 20, 2) := by decide +kernel
theorem dc_RM_doubt_222 : decode prog_14_method_49_code 222 = .ok (.ishr, 1) := by decide +kernel
theorem dc_RM_doubt_223 : decode prog_14_method_49_code 223 = .ok (.iconst 1, 1) := by decide +kernel
theorem dc_RM_doubt_224 : decode prog_14_method_49_code 224 = .ok (.iand, 1) := by decide +kernel
theorem dc_RM_doubt_225 : decode prog_14_method_49_code 225 = .ok (.iconst 1, 1) := by decide +kernel
theorem dc_RM_doubt_226 : decode prog_14_method_49_code 226 = .ok (.if_icmp .ne 17, 3) := by decide +kernel
theorem dc_RM_doubt_229 : decode prog_14_method_49_code 229 = .ok (.aload_n 0, 1) := by decide +kernel
theorem dc_RM_doubt_230 : decode prog_14_method_49_code 230 = .ok (.getfield 29, 3) := by decide +kernel
theorem dc_RM_doubt_233 : decode prog_14_method_49_code 233 = .ok (.iload 4, 2) := by decide +kernel
theorem dc_RM_doubt_235 : decode prog_14_method_49_code 235 = .ok (.iload 20, 2) := by decide +kernel
theorem dc_RM_doubt_237 : decode prog_14_method_49_code 237 = .ok (.iadd, 1) := by decide +kernel
theorem dc_RM_doubt_238 : decode prog_14_method_49_code 238 = .ok (.iaload, 1) := by decide +kernel
theorem dc_RM_doubt_239 : decode prog_14_method_49_code 239 = .ok (.i2l, 1) := by decide +kernel
theorem dc_RM_doubt_240 : decode prog_14_method_49_code 240 = .ok (.goto 4, 3) := by decide +kernel
theorem dc_RM_doubt_243 : decode prog_14_method_49_code 243 = .ok (.lconst 0, 1) := by decide +kernel
theorem dc_RM_doubt_244 : decode prog_14_method_49_code 244 = .ok (.ladd, 1) := by decide +kernel
theorem dc_RM_doubt_245 : decode prog_14_method_49_code 245 = .ok (.lstore 18, 2) := by decide +kernel
theorem dc_RM_doubt_247 : decode prog_14_method_49_code 247 = .ok (.iinc 20 1, 3) := by decide +kernel
theorem dc_RM_doubt_250 : decode prog_14_method_49_code 250 = .ok (.goto (-41), 3) := by decide +kernel
theorem dc_RM_doubt_253 : decode prog_14_method_49_code 253 = .ok (.lload 13, 2) := by decide +kernel
theorem dc_RM_doubt_255 : decode prog_14_method_49_code 255 = .ok (.lconst 1, 1) := by decide +kernel
theorem dc_RM_doubt_256 : decode prog_14_method_49_code 256 = .ok (.ladd, 1) := by decide +kernel
theorem dc_RM_doubt_257 : decode prog_14_method_49_code 257 = .ok (.lstore 13, 2) := by decide +kernel
theorem dc_RM_doubt_259 : decode prog_14_method_49_code 259 = .ok (.lload 15, 2) := by decide +kernel
theorem dc_RM_doubt_261 : decode prog_14_method_49_code 261 = .ok (.iload 6, 2) := by decide +kernel
theorem dc_RM_doubt_263 : decode prog_14_method_49_code 263 = .ok (.i2l, 1) := by decide +kernel
theorem dc_RM_doubt_264 : decode prog_14_method_49_code 264 = .ok (.lload 18, 2) := by decide +kernel
theorem dc_RM_doubt_266 : decode prog_14_method_49_code 266 = .ok (.lmul, 1) := by decide +kernel
theorem dc_RM_doubt_267 : decode prog_14_method_49_code 267 = .ok (.lload 7, 2) := by decide +kernel
theorem dc_RM_doubt_269 : decode prog_14_method_49_code 269 = .ok (.iload 5, 2) := by decide +kernel
theorem dc_RM_doubt_271 : decode prog_14_method_49_code 271 = .ok (.i2l, 1) := by decide +kernel
theorem dc_RM_doubt_272 : decode prog_14_method_49_code 272 = .ok (.lmul, 1) := by decide +kernel
theorem dc_RM_doubt_273 : decode prog_14_method_49_code 273 = .ok (.lsub, 1) := by decide +kernel
theorem dc_RM_doubt_274 : decode prog_14_method_49_code 274 = .ok (.invokestatic 175, 3) := by decide +kernel
theorem dc_RM_doubt_277 : decode prog_14_method_49_code 277 = .ok (.lload 11, 2) := by decide +kernel
theorem dc_RM_doubt_279 : decode prog_14_method_49_code 279 = .ok (.lcmp, 1) := by decide +kernel
theorem dc_RM_doubt_280 : decode prog_14_method_49_code 280 = .ok (.ifCond .lt 7, 3) := by decide +kernel
theorem dc_RM_doubt_283 : decode prog_14_method_49_code 283 = .ok (.lconst 1, 1) := by decide +kernel
theorem dc_RM_doubt_284 : decode prog_14_method_49_code 284 = .ok (.goto 4, 3) := by decide +kernel
theorem dc_RM_doubt_287 : decode prog_14_method_49_code 287 = .ok (.lconst 0, 1) := by decide +kernel
theorem dc_RM_doubt_288 : decode prog_14_method_49_code 288 = .ok (.ladd, 1) := by decide +kernel
theorem dc_RM_doubt_289 : decode prog_14_method_49_code 289 = .ok (.lstore 15, 2) := by decide +kernel
theorem dc_RM_doubt_291 : decode prog_14_method_49_code 291 = .ok (.iinc 17 1, 3) := by decide +kernel
theorem dc_RM_doubt_294 : decode prog_14_method_49_code 294 = .ok (.goto (-110), 3) := by decide +kernel
theorem dc_RM_doubt_297 : decode prog_14_method_49_code 297 = .ok (.ldc2_w 264, 3) := by decide +kernel
theorem dc_RM_doubt_300 : decode prog_14_method_49_code 300 = .ok (.lload 15, 2) := by decide +kernel
theorem dc_RM_doubt_302 : decode prog_14_method_49_code 302 = .ok (.lmul, 1) := by decide +kernel
theorem dc_RM_doubt_303 : decode prog_14_method_49_code 303 = .ok (.lload 13, 2) := by decide +kernel
theorem dc_RM_doubt_305 : decode prog_14_method_49_code 305 = .ok (.ldiv, 1) := by decide +kernel
theorem dc_RM_doubt_306 : decode prog_14_method_49_code 306 = .ok (.l2i, 1) := by decide +kernel
theorem dc_RM_doubt_307 : decode prog_14_method_49_code 307 = .ok (.ireturn, 1) := by decide +kernel
theorem w_RM_doubt_0 {G : GC} {d : Nat} {P : PT} {I : MI} {J : MJ} {x1 : Int32} {x2 : Int32} {x3 : Int32} (k1 : ((f_RM_isRow x1) = 0) → Go G (fr G m_RM_doubt (d + 5) P) 28 [none, none, none, none, none, none, none, none, none, none, none, none, none, none, none, none, none, none, none, none, none] [] I J) (k2 : (¬ ((f_RM_isRow x1) = 0)) → ((f_RM_in x2 2 6) = 0) → Go G (fr G m_RM_doubt (d + 5) P) 28 [none, none, none, none, none, none, none, none, none, none, none, none, none, none, none, none, none, none, none, none, none] [] I J) (k3 : (¬ ((f_RM_isRow x1) = 0)) → (¬ ((f_RM_in x2 2 6) = 0)) → (¬ (f_RM_in x3 1 (x2 - 1)) = 0) → Ct G (d + 4) m_RM_finds [.ref 67, .int x1, .int 0, .int x2, .int (I 67 5)] (fun r I' J' => Go G (fr G m_RM_doubt (d + 5) P) 42 [some (.ref 67), none, none, some (.int x3), none, none, none, none, none, none, none, none, none, none, none, none, none, none, none, none, none] (r.toList ++ []) I' J') I J) (k4 : (¬ ((f_RM_isRow x1) = 0)) → (¬ ((f_RM_in x2 2 6) = 0)) → ((f_RM_in x3 1 (x2 - 1)) = 0) → Go G (fr G m_RM_doubt (d + 5) P) 28 [none, none, none, none, none, none, none, none, none, none, none, none, none, none, none, none, none, none, none, none, none] [] I J) : Go G (fr G m_RM_doubt (d + 5) P) 0 [some (.ref 67), some (.int x1), some (.int x2), some (.int x3), none, none, none, none, none, none, none, none, none, none, none, none, none, none, none, none, none] [] I J := by
  refine g_iload_n dc_RM_doubt_0 rfl rfl rfl ?_
  refine g_callS (M := m_RM_isRow) (As := [.int x1]) (rest := []) ok_RM_isRow st_RM_isRow ml_RM_119 rfl rfl (Nat.le_of_ble_eq_true rfl) dc_RM_doubt_1 rfl rOk_fr (c_RM_isRow ?_)
  show Go G (fr G m_RM_doubt (d + 5) P) 4 [some (.ref 67), some (.int x1), some (.int x2), some (.int x3), none, none, none, none, none, none, none, none, none, none, none, none, none, none, none, none, none] [.int (f_RM_isRow x1)] I J
  refine g_if_eq (tgt := 28) dc_RM_doubt_4 rfl (by decide) (fun c1 => ?_) (fun c1 => ?_)
  · refine g_weak [none, none, none, none, none, none, none, none, none, none, none, none, none, none, none, none, none, none, none, none, none] trivial ?_
    exact (k1 c1)
  · refine g_iload_n dc_RM_doubt_7 rfl rfl rfl ?_
    refine g_iconst (v := 2) dc_RM_doubt_8 rfl (by decide) ?_
    refine g_bipush (v := 6) dc_RM_doubt_9 rfl (by decide) ?_
    refine g_callS (M := m_RM_in) (As := [.int x2, .int 2, .int 6]) (rest := []) ok_RM_in st_RM_in ml_RM_112 rfl rfl (Nat.le_of_ble_eq_true rfl) dc_RM_doubt_11 rfl rOk_fr (c_RM_in ?_)
    show Go G (fr G m_RM_doubt (d + 5) P) 14 [some (.ref 67), some (.int x1), some (.int x2), some (.int x3), none, none, none, none, none, none, none, none, none, none, none, none, none, none, none, none, none] [.int (f_RM_in x2 2 6)] I J
    refine g_if_eq (tgt := 28) dc_RM_doubt_14 rfl (by decide) (fun c2 => ?_) (fun c2 => ?_)
    · refine g_weak [none, none, none, none, none, none, none, none, none, none, none, none, none, none, none, none, none, none, none, none, none] trivial ?_
      exact (k2 c1 c2)
    · refine g_iload_n dc_RM_doubt_17 rfl rfl rfl ?_
      refine g_iconst (v := 1) dc_RM_doubt_18 rfl (by decide) ?_
      refine g_iload_n dc_RM_doubt_19 rfl rfl rfl ?_
      refine g_iconst (v := 1) dc_RM_doubt_20 rfl (by decide) ?_
      refine g_isub dc_RM_doubt_21 rfl ?_
      refine g_callS (M := m_RM_in) (As := [.int x3, .int 1, .int (x2 - 1)]) (rest := []) ok_RM_in st_RM_in ml_RM_112 rfl rfl (Nat.le_of_ble_eq_true rfl) dc_RM_doubt_22 rfl rOk_fr (c_RM_in ?_)
      show Go G (fr G m_RM_doubt (d + 5) P) 25 [some (.ref 67), some (.int x1), some (.int x2), some (.int x3), none, none, none, none, none, none, none, none, none, none, none, none, none, none, none, none, none] [.int (f_RM_in x3 1 (x2 - 1))] I J
      refine g_if_ne (tgt := 31) dc_RM_doubt_25 rfl (by decide) (fun c3 => ?_) (fun c3 => ?_)
      · refine g_aload_n dc_RM_doubt_31 rfl rfl rfl ?_
        refine g_iload_n dc_RM_doubt_32 rfl rfl rfl ?_
        refine g_iconst (v := 0) dc_RM_doubt_33 rfl (by decide) ?_
        refine g_iload_n dc_RM_doubt_34 rfl rfl rfl ?_
        refine g_aload_n dc_RM_doubt_35 rfl rfl rfl ?_
        refine g_get (C := "LevelBreaksModel") (T := T_RM) (N := 45) (k := 5) (v := .int (I 67 5)) sh_67 (by decide) rfl rfl i_RM (by decide) fl_RM_22 (Or.inl rfl) rfl dc_RM_doubt_36 rfl ?_
        refine g_weak [some (.ref 67), none, none, some (.int x3), none, none, none, none, none, none, none, none, none, none, none, none, none, none, none, none, none] ⟨rfl, ⟨rfl, trivial⟩⟩ ?_
        exact g_callV (T := T_RM) (N := 45) (As := [.int x1, .int 0, .int x2, .int (I 67 5)]) (rest := []) ok_RM_finds in_RM_finds se_RM_finds ml_RM_220 sh_67 (by decide) rfl rfl rfl (Nat.le_of_ble_eq_true rfl) dc_RM_doubt_39 rfl rOk_fr (k3 c1 c2 c3)
      · refine g_weak [none, none, none, none, none, none, none, none, none, none, none, none, none, none, none, none, none, none, none, none, none] trivial ?_
        exact (k4 c1 c2 c3)
theorem w_RM_doubt_28 {G : GC} {d : Nat} {P : PT} {I : MI} {J : MJ}  (q1 : P (some (.int (-2))) I J) : Go G (fr G m_RM_doubt (d + 5) P) 28 [none, none, none, none, none, none, none, none, none, none, none, none, none, none, none, none, none, none, none, none, none] [] I J := by
  refine g_bipush (v := (-2)) dc_RM_doubt_28 rfl (by decide) ?_
  exact g_iret rfl dc_RM_doubt_30 q1
theorem w_RM_doubt_42 {G : GC} {d : Nat} {P : PT} {I : MI} {J : MJ} {x3 : Int32} {y0 : Int32} (b1 : (¬ y0 = 0) → vp_in (x3 - 1) 7) (b2 : (¬ y0 = 0) → vp_in x3 7) (b3 : (¬ y0 = 0) → vp_in (x3 + 1) 7) (k4 : (¬ y0 = 0) → (((I 83 (x3 + 1).toNatClampNeg) - (I 83 (x3 - 1).toNatClampNeg)) ≤ 16) → Go G (fr G m_RM_doubt (d + 5) P) 101 [some (.ref 67), none, none, none, some (.int (I 83 (x3 - 1).toNatClampNeg)), some (.int ((I 83 x3.toNatClampNeg) - (I 83 (x3 - 1).toNatClampNeg))), some (.int ((I 83 (x3 + 1).toNatClampNeg) - (I 83 (x3 - 1).toNatClampNeg))), some (.long 0), none, some (.long 0), none, some (.int 0), none, none, none, none, none, none, none, none, none] [] I J) (q5 : (¬ y0 = 0) → (¬ (((I 83 (x3 + 1).toNatClampNeg) - (I 83 (x3 - 1).toNatClampNeg)) ≤ 16)) → P (some (.int (-4))) I J) (q6 : (y0 = 0) → P (some (.int (-3))) I J) : Go G (fr G m_RM_doubt (d + 5) P) 42 [some (.ref 67), none, none, some (.int x3), none, none, none, none, none, none, none, none, none, none, none, none, none, none, none, none, none] [.int y0] I J := by
  refine g_if_ne (tgt := 48) dc_RM_doubt_42 rfl (by decide) (fun c1 => ?_) (fun c1 => ?_)
  · refine g_aload_n dc_RM_doubt_48 rfl rfl rfl ?_
    refine g_get (C := "LevelBreaksModel") (T := T_RM) (N := 45) (k := 21) (v := .ref 83) sh_67 (by decide) rfl rfl i_RM (by decide) fl_RM_60 (Or.inl rfl) rfl dc_RM_doubt_49 rfl ?_
    refine g_iload_n dc_RM_doubt_52 rfl rfl rfl ?_
    refine g_iconst (v := 1) dc_RM_doubt_53 rfl (by decide) ?_
    refine g_isub dc_RM_doubt_54 rfl ?_
    refine g_ialdv (v := (I 83 (x3 - 1).toNatClampNeg)) sh_83 (b1 c1) rfl dc_RM_doubt_55 rfl ?_
    refine g_istore (L' := [some (.ref 67), none, none, some (.int x3), some (.int (I 83 (x3 - 1).toNatClampNeg)), none, none, none, none, none, none, none, none, none, none, none, none, none, none, none, none]) dc_RM_doubt_56 rfl (Nat.le_of_ble_eq_true rfl) rfl ?_
    refine g_aload_n dc_RM_doubt_58 rfl rfl rfl ?_
    refine g_get (C := "LevelBreaksModel") (T := T_RM) (N := 45) (k := 21) (v := .ref 83) sh_67 (by decide) rfl rfl i_RM (by decide) fl_RM_60 (Or.inl rfl) rfl dc_RM_doubt_59 rfl ?_
    refine g_iload_n dc_RM_doubt_62 rfl rfl rfl ?_
    refine g_ialdv (v := (I 83 x3.toNatClampNeg)) sh_83 (b2 c1) rfl dc_RM_doubt_63 rfl ?_
    refine g_iload dc_RM_doubt_64 rfl rfl ?_
    refine g_isub dc_RM_doubt_66 rfl ?_
    refine g_istore (L' := [some (.ref 67), none, none, some (.int x3), some (.int (I 83 (x3 - 1).toNatClampNeg)), some (.int ((I 83 x3.toNatClampNeg) - (I 83 (x3 - 1).toNatClampNeg))), none, none, none, none, none, none, none, none, none, none, none, none, none, none, none]) dc_RM_doubt_67 rfl (Nat.le_of_ble_eq_true rfl) rfl ?_
    refine g_aload_n dc_RM_doubt_69 rfl rfl rfl ?_
    refine g_get (C := "LevelBreaksModel") (T := T_RM) (N := 45) (k := 21) (v := .ref 83) sh_67 (by decide) rfl rfl i_RM (by decide) fl_RM_60 (Or.inl rfl) rfl dc_RM_doubt_70 rfl ?_
    refine g_iload_n dc_RM_doubt_73 rfl rfl rfl ?_
    refine g_iconst (v := 1) dc_RM_doubt_74 rfl (by decide) ?_
    refine g_iadd dc_RM_doubt_75 rfl ?_
    refine g_ialdv (v := (I 83 (x3 + 1).toNatClampNeg)) sh_83 (b3 c1) rfl dc_RM_doubt_76 rfl ?_
    refine g_iload dc_RM_doubt_77 rfl rfl ?_
    refine g_isub dc_RM_doubt_79 rfl ?_
    refine g_istore (L' := [some (.ref 67), none, none, some (.int x3), some (.int (I 83 (x3 - 1).toNatClampNeg)), some (.int ((I 83 x3.toNatClampNeg) - (I 83 (x3 - 1).toNatClampNeg))), some (.int ((I 83 (x3 + 1).toNatClampNeg) - (I 83 (x3 - 1).toNatClampNeg))), none, none, none, none, none, none, none, none, none, none, none, none, none, none]) dc_RM_doubt_80 rfl (Nat.le_of_ble_eq_true rfl) rfl ?_
    refine g_iload dc_RM_doubt_82 rfl rfl ?_
    refine g_bipush (v := 16) dc_RM_doubt_84 rfl (by decide) ?_
    refine g_ic_le (tgt := 92) dc_RM_doubt_86 rfl (by decide) (fun c2 => ?_) (fun c2 => ?_)
    · refine g_lconst (v := 0) dc_RM_doubt_92 rfl (by decide) ?_
      refine g_lstore (L' := [some (.ref 67), none, none, some (.int x3), some (.int (I 83 (x3 - 1).toNatClampNeg)), some (.int ((I 83 x3.toNatClampNeg) - (I 83 (x3 - 1).toNatClampNeg))), some (.int ((I 83 (x3 + 1).toNatClampNeg) - (I 83 (x3 - 1).toNatClampNeg))), some (.long 0), none, none, none, none, none, none, none, none, none, none, none, none, none]) dc_RM_doubt_93 rfl (Nat.le_of_ble_eq_true rfl) rfl ?_
      refine g_lconst (v := 0) dc_RM_doubt_95 rfl (by decide) ?_
      refine g_lstore (L' := [some (.ref 67), none, none, some (.int x3), some (.int (I 83 (x3 - 1).toNatClampNeg)), some (.int ((I 83 x3.toNatClampNeg) - (I 83 (x3 - 1).toNatClampNeg))), some (.int ((I 83 (x3 + 1).toNatClampNeg) - (I 83 (x3 - 1).toNatClampNeg))), some (.long 0), none, some (.long 0), none, none, none, none, none, none, none, none, none, none, none]) dc_RM_doubt_96 rfl (Nat.le_of_ble_eq_true rfl) rfl ?_
      refine g_iconst (v := 0) dc_RM_doubt_98 rfl (by decide) ?_
      refine g_istore (L' := [some (.ref 67), none, none, some (.int x3), some (.int (I 83 (x3 - 1).toNatClampNeg)), some (.int ((I 83 x3.toNatClampNeg) - (I 83 (x3 - 1).toNatClampNeg))), some (.int ((I 83 (x3 + 1).toNatClampNeg) - (I 83 (x3 - 1).toNatClampNeg))), some (.long 0), none, some (.long 0), none, some (.int 0), none, none, none, none, none, none, none, none, none]) dc_RM_doubt_99 rfl (Nat.le_of_ble_eq_true rfl) rfl ?_
      refine g_weak [some (.ref 67), none, none, none, some (.int (I 83 (x3 - 1).toNatClampNeg)), some (.int ((I 83 x3.toNatClampNeg) - (I 83 (x3 - 1).toNatClampNeg))), some (.int ((I 83 (x3 + 1).toNatClampNeg) - (I 83 (x3 - 1).toNatClampNeg))), some (.long 0), none, some (.long 0), none, some (.int 0), none, none, none, none, none, none, none, none, none] ⟨rfl, ⟨rfl, ⟨rfl, ⟨rfl, ⟨rfl, ⟨rfl, ⟨rfl, trivial⟩⟩⟩⟩⟩⟩⟩ ?_
      exact (k4 c1 c2)
    · refine g_bipush (v := (-4)) dc_RM_doubt_89 rfl (by decide) ?_
      exact g_iret rfl dc_RM_doubt_91 (q5 c1 c2)
  · refine g_bipush (v := (-3)) dc_RM_doubt_45 rfl (by decide) ?_
    exact g_iret rfl dc_RM_doubt_47 (q6 c1)
theorem w_RM_doubt_101 {G : GC} {d : Nat} {P : PT} {I : MI} {J : MJ} {x4 : Int32} {x5 : Int32} {x6 : Int32} {l7 : Int64} {l9 : Int64} {x11 : Int32} (k1 : (x6 ≤ x11) → Go G (fr G m_RM_doubt (d + 5) P) 184 [some (.ref 67), none, none, none, some (.int x4), some (.int x5), some (.int x6), some (.long l7), none, none, none, some (.long (f_RM_amount (((Int32.toInt64 x6) * l9) - (l7 * (Int32.toInt64 x5))))), none, some (.long 0), none, some (.long 0), none, some (.int 0), none, none, none] [] I J) (b2 : (¬ (x6 ≤ x11)) → vp_in (x4 + x11) 40) (k3 : (¬ (x6 ≤ x11)) → (x5 ≤ x11) → Go G (fr G m_RM_doubt (d + 5) P) 148 [some (.ref 67), none, none, none, some (.int x4), some (.int x5), some (.int x6), some (.long (l7 + (Int32.toInt64 (I 73 (x4 + x11).toNatClampNeg)))), none, none, none, some (.int x11), none, none, none, none, none, none, none, none, none] [.long 0, .long l9] I J) (k4 : (¬ (x6 ≤ x11)) → (¬ (x5 ≤ x11)) → Go G (fr G m_RM_doubt (d + 5) P) 148 [some (.ref 67), none, none, none, some (.int x4), some (.int x5), some (.int x6), some (.long (l7 + (Int32.toInt64 (I 73 (x4 + x11).toNatClampNeg)))), none, none, none, some (.int x11), none, none, none, none, none, none, none, none, none] [.long (Int32.toInt64 (I 73 (x4 + x11).toNatClampNeg)), .long l9] I J) : Go G (fr G m_RM_doubt (d + 5) P) 101 [some (.ref 67), none, none, none, some (.int x4), some (.int x5), some (.int x6), some (.long l7), none, some (.long l9), none, some (.int x11), none, none, none, none, none, none, none, none, none] [] I J := by
  refine g_iload dc_RM_doubt_101 rfl rfl ?_
  refine g_iload dc_RM_doubt_103 rfl rfl ?_
  refine g_ic_ge (tgt := 157) dc_RM_doubt_105 rfl (by decide) (fun c1 => ?_) (fun c1 => ?_)
  · refine g_iload dc_RM_doubt_157 rfl rfl ?_
    refine g_i2l dc_RM_doubt_159 rfl ?_
    refine g_lload dc_RM_doubt_160 rfl rfl ?_
    refine g_lmul dc_RM_doubt_162 rfl ?_
    refine g_lload dc_RM_doubt_163 rfl rfl ?_
    refine g_iload dc_RM_doubt_165 rfl rfl ?_
    refine g_i2l dc_RM_doubt_167 rfl ?_
    refine g_lmul dc_RM_doubt_168 rfl ?_
    refine g_lsub dc_RM_doubt_169 rfl ?_
    refine g_callS (M := m_RM_amount) (As := [.long (((Int32.toInt64 x6) * l9) - (l7 * (Int32.toInt64 x5)))]) (rest := []) ok_RM_amount st_RM_amount ml_RM_175 rfl rfl (Nat.le_of_ble_eq_true rfl) dc_RM_doubt_170 rfl rOk_fr (c_RM_amount ?_)
    show Go G (fr G m_RM_doubt (d + 5) P) 173 [some (.ref 67), none, none, none, some (.int x4), some (.int x5), some (.int x6), some (.long l7), none, some (.long l9), none, some (.int x11), none, none, none, none, none, none, none, none, none] [.long (f_RM_amount (((Int32.toInt64 x6) * l9) - (l7 * (Int32.toInt64 x5))))] I J
    refine g_lstore (L' := [some (.ref 67), none, none, none, some (.int x4), some (.int x5), some (.int x6), some (.long l7), none, some (.long l9), none, some (.long (f_RM_amount (((Int32.toInt64 x6) * l9) - (l7 * (Int32.toInt64 x5))))), none, none, none, none, none, none, none, none, none]) dc_RM_doubt_173 rfl (Nat.le_of_ble_eq_true rfl) rfl ?_
    refine g_lconst (v := 0) dc_RM_doubt_175 rfl (by decide) ?_
    refine g_lstore (L' := [some (.ref 67), none, none, none, some (.int x4), some (.int x5), some (.int x6), some (.long l7), none, some (.long l9), none, some (.long (f_RM_amount (((Int32.toInt64 x6) * l9) - (l7 * (Int32.toInt64 x5))))), none, some (.long 0), none, none, none, none, none, none, none]) dc_RM_doubt_176 rfl (Nat.le_of_ble_eq_true rfl) rfl ?_
    refine g_lconst (v := 0) dc_RM_doubt_178 rfl (by decide) ?_
    refine g_lstore (L' := [some (.ref 67), none, none, none, some (.int x4), some (.int x5), some (.int x6), some (.long l7), none, some (.long l9), none, some (.long (f_RM_amount (((Int32.toInt64 x6) * l9) - (l7 * (Int32.toInt64 x5))))), none, some (.long 0), none, some (.long 0), none, none, none, none, none]) dc_RM_doubt_179 rfl (Nat.le_of_ble_eq_true rfl) rfl ?_
    refine g_iconst (v := 0) dc_RM_doubt_181 rfl (by decide) ?_
    refine g_istore (L' := [some (.ref 67), none, none, none, some (.int x4), some (.int x5), some (.int x6), some (.long l7), none, some (.long l9), none, some (.long (f_RM_amount (((Int32.toInt64 x6) * l9) - (l7 * (Int32.toInt64 x5))))), none, some (.long 0), none, some (.long 0), none, some (.int 0), none, none, none]) dc_RM_doubt_182 rfl (Nat.le_of_ble_eq_true rfl) rfl ?_
    refine g_weak [some (.ref 67), none, none, none, some (.int x4), some (.int x5), some (.int x6), some (.long l7), none, none, none, some (.long (f_RM_amount (((Int32.toInt64 x6) * l9) - (l7 * (Int32.toInt64 x5))))), none, some (.long 0), none, some (.long 0), none, some (.int 0), none, none, none] ⟨rfl, ⟨rfl, ⟨rfl, ⟨rfl, ⟨rfl, ⟨rfl, ⟨rfl, ⟨rfl, ⟨rfl, trivial⟩⟩⟩⟩⟩⟩⟩⟩⟩ ?_
    exact (k1 c1)
  · refine g_lload dc_RM_doubt_108 rfl rfl ?_
    refine g_aload_n dc_RM_doubt_110 rfl rfl rfl ?_
    refine g_get (C := "LevelBreaksModel") (T := T_RM) (N := 45) (k := 8) (v := .ref 73) sh_67 (by decide) rfl rfl i_RM (by decide) fl_RM_29 (Or.inl rfl) rfl dc_RM_doubt_111 rfl ?_
    refine g_iload dc_RM_doubt_114 rfl rfl ?_
    refine g_iload dc_RM_doubt_116 rfl rfl ?_
    refine g_iadd dc_RM_doubt_118 rfl ?_
    refine g_ialdv (v := (I 73 (x4 + x11).toNatClampNeg)) sh_73 (b2 c1) rfl dc_RM_doubt_119 rfl ?_
    refine g_i2l dc_RM_doubt_120 rfl ?_
    refine g_ladd dc_RM_doubt_121 rfl ?_
    refine g_lstore (L' := [some (.ref 67), none, none, none, some (.int x4), some (.int x5), some (.int x6), some (.long (l7 + (Int32.toInt64 (I 73 (x4 + x11).toNatClampNeg)))), none, some (.long l9), none, some (.int x11), none, none, none, none, none, none, none, none, none]) dc_RM_doubt_122 rfl (Nat.le_of_ble_eq_true rfl) rfl ?_
    refine g_lload dc_RM_doubt_124 rfl rfl ?_
    refine g_iload dc_RM_doubt_126 rfl rfl ?_
    refine g_iload dc_RM_doubt_128 rfl rfl ?_
    refine g_ic_ge (tgt := 147) dc_RM_doubt_130 rfl (by decide) (fun c2 => ?_) (fun c2 => ?_)
    · refine g_lconst (v := 0) dc_RM_doubt_147 rfl (by decide) ?_
      refine g_weak [some (.ref 67), none, none, none, some (.int x4), some (.int x5), some (.int x6), some (.long (l7 + (Int32.toInt64 (I 73 (x4 + x11).toNatClampNeg)))), none, none, none, some (.int x11), none, none, none, none, none, none, none, none, none] ⟨rfl, ⟨rfl, ⟨rfl, ⟨rfl, ⟨rfl, ⟨rfl, trivial⟩⟩⟩⟩⟩⟩ ?_
      exact (k3 c1 c2)
    · refine g_aload_n dc_RM_doubt_133 rfl rfl rfl ?_
      refine g_get (C := "LevelBreaksModel") (T := T_RM) (N := 45) (k := 8) (v := .ref 73) sh_67 (by decide) rfl rfl i_RM (by decide) fl_RM_29 (Or.inl rfl) rfl dc_RM_doubt_134 rfl ?_
      refine g_iload dc_RM_doubt_137 rfl rfl ?_
      refine g_iload dc_RM_doubt_139 rfl rfl ?_
      refine g_iadd dc_RM_doubt_141 rfl ?_
      refine g_ialdv (v := (I 73 (x4 + x11).toNatClampNeg)) sh_73 (b2 c1) rfl dc_RM_doubt_142 rfl ?_
      refine g_i2l dc_RM_doubt_143 rfl ?_
      refine g_goto (tgt := 148) dc_RM_doubt_144 (by decide) ?_
      refine g_weak [some (.ref 67), none, none, none, some (.int x4), some (.int x5), some (.int x6), some (.long (l7 + (Int32.toInt64 (I 73 (x4 + x11).toNatClampNeg)))), none, none, none, some (.int x11), none, none, none, none, none, none, none, none, none] ⟨rfl, ⟨rfl, ⟨rfl, ⟨rfl, ⟨rfl, ⟨rfl, trivial⟩⟩⟩⟩⟩⟩ ?_
      exact (k4 c1 c2)
theorem w_RM_doubt_148 {G : GC} {d : Nat} {P : PT} {I : MI} {J : MJ} {x4 : Int32} {x5 : Int32} {x6 : Int32} {l7 : Int64} {x11 : Int32} {s0 : Int64} {s1 : Int64} (k1 : Go G (fr G m_RM_doubt (d + 5) P) 101 [some (.ref 67), none, none, none, some (.int x4), some (.int x5), some (.int x6), some (.long l7), none, some (.long (s0 + s1)), none, some (.int (x11 + 1)), none, none, none, none, none, none, none, none, none] [] I J) : Go G (fr G m_RM_doubt (d + 5) P) 148 [some (.ref 67), none, none, none, some (.int x4), some (.int x5), some (.int x6), some (.long l7), none, none, none, some (.int x11), none, none, none, none, none, none, none, none, none] [.long s1, .long s0] I J := by
  refine g_ladd dc_RM_doubt_148 rfl ?_
  refine g_lstore (L' := [some (.ref 67), none, none, none, some (.int x4), some (.int x5), some (.int x6), some (.long l7), none, some (.long (s0 + s1)), none, some (.int x11), none, none, none, none, none, none, none, none, none]) dc_RM_doubt_149 rfl (Nat.le_of_ble_eq_true rfl) rfl ?_
  refine g_iinc (v := (x11 + 1)) (L' := [some (.ref 67), none, none, none, some (.int x4), some (.int x5), some (.int x6), some (.long l7), none, some (.long (s0 + s1)), none, some (.int (x11 + 1)), none, none, none, none, none, none, none, none, none]) dc_RM_doubt_151 rfl rfl (by rw [show Int32.ofInt 1 = 1 from by decide]) (Nat.le_of_ble_eq_true rfl) rfl ?_
  refine g_goto (tgt := 101) dc_RM_doubt_154 (by decide) ?_
  exact k1
theorem w_RM_doubt_184 {G : GC} {d : Nat} {P : PT} {I : MI} {J : MJ} {x4 : Int32} {x5 : Int32} {x6 : Int32} {l7 : Int64} {l11 : Int64} {l13 : Int64} {l15 : Int64} {x17 : Int32} (z1 : ((1 <<< (x6 &&& 31)) ≤ x17) → ¬ l13 = 0) (q2 : ((1 <<< (x6 &&& 31)) ≤ x17) → P (some (.int (Int64.toInt32 ((1000000 * l15) / l13)))) I J) (k3 : (¬ ((1 <<< (x6 &&& 31)) ≤ x17)) → Ct G (d + 4) m_RM_ones [.int x17] (fun r I' J' => Go G (fr G m_RM_doubt (d + 5) P) 198 [some (.ref 67), none, none, none, some (.int x4), some (.int x5), some (.int x6), some (.long l7), none, none, none, some (.long l11), none, some (.long l13), none, some (.long l15), none, some (.int x17), none, none, none] (r.toList ++ []) I' J') I J) : Go G (fr G m_RM_doubt (d + 5) P) 184 [some (.ref 67), none, none, none, some (.int x4), some (.int x5), some (.int x6), some (.long l7), none, none, none, some (.long l11), none, some (.long l13), none, some (.long l15), none, some (.int x17), none, none, none] [] I J := by
  refine g_iload dc_RM_doubt_184 rfl rfl ?_
  refine g_iconst (v := 1) dc_RM_doubt_186 rfl (by decide) ?_
  refine g_iload dc_RM_doubt_187 rfl rfl ?_
  refine g_ishl dc_RM_doubt_189 rfl ?_
  refine g_ic_ge (tgt := 297) dc_RM_doubt_190 rfl (by decide) (fun c1 => ?_) (fun c1 => ?_)
  · refine g_ldc2 (v := 1000000) kl_RM_264 dc_RM_doubt_297 rfl ?_
    refine g_lload dc_RM_doubt_300 rfl rfl ?_
    refine g_lmul dc_RM_doubt_302 rfl ?_
    refine g_lload dc_RM_doubt_303 rfl rfl ?_
    refine g_ldiv dc_RM_doubt_305 rfl (z1 c1) ?_
    refine g_l2i dc_RM_doubt_306 rfl ?_
    exact g_iret rfl dc_RM_doubt_307 (q2 c1)
  · refine g_iload dc_RM_doubt_193 rfl rfl ?_
    exact g_callS (As := [.int x17]) (rest := []) ok_RM_ones st_RM_ones ml_RM_261 rfl rfl (Nat.le_of_ble_eq_true rfl) dc_RM_doubt_195 rfl rOk_fr (k3 c1)
theorem w_RM_doubt_198 {G : GC} {d : Nat} {P : PT} {I : MI} {J : MJ} {x4 : Int32} {x5 : Int32} {x6 : Int32} {l7 : Int64} {l11 : Int64} {l13 : Int64} {l15 : Int64} {x17 : Int32} {y0 : Int32} (k1 : (¬ y0 = x5) → Go G (fr G m_RM_doubt (d + 5) P) 291 [some (.ref 67), none, none, none, some (.int x4), some (.int x5), some (.int x6), some (.long l7), none, none, none, some (.long l11), none, some (.long l13), none, some (.long l15), none, some (.int x17), none, none, none] [] I J) (k2 : (y0 = x5) → Go G (fr G m_RM_doubt (d + 5) P) 209 [some (.ref 67), none, none, none, some (.int x4), some (.int x5), some (.int x6), some (.long l7), none, none, none, some (.long l11), none, some (.long l13), none, some (.long l15), none, some (.int x17), some (.long 0), none, some (.int 0)] [] I J) : Go G (fr G m_RM_doubt (d + 5) P) 198 [some (.ref 67), none, none, none, some (.int x4), some (.int x5), some (.int x6), some (.long l7), none, none, none, some (.long l11), none, some (.long l13), none, some (.long l15), none, some (.int x17), none, none, none] [.int y0] I J := by
  refine g_iload dc_RM_doubt_198 rfl rfl ?_
  refine g_ic_ne (tgt := 291) dc_RM_doubt_200 rfl (by decide) (fun c1 => ?_) (fun c1 => ?_)
  · exact (k1 c1)
  · refine g_lconst (v := 0) dc_RM_doubt_203 rfl (by decide) ?_
    refine g_lstore (L' := [some (.ref 67), none, none, none, some (.int x4), some (.int x5), some (.int x6), some (.long l7), none, none, none, some (.long l11), none, some (.long l13), none, some (.long l15), none, some (.int x17), some (.long 0), none, none]) dc_RM_doubt_204 rfl (Nat.le_of_ble_eq_true rfl) rfl ?_
    refine g_iconst (v := 0) dc_RM_doubt_206 rfl (by decide) ?_
    refine g_istore (L' := [some (.ref 67), none, none, none, some (.int x4), some (.int x5), some (.int x6), some (.long l7), none, none, none, some (.long l11), none, some (.long l13), none, some (.long l15), none, some (.int x17), some (.long 0), none, some (.int 0)]) dc_RM_doubt_207 rfl (Nat.le_of_ble_eq_true rfl) rfl ?_
    exact (k2 c1)
theorem w_RM_doubt_209 {G : GC} {d : Nat} {P : PT} {I : MI} {J : MJ} {x4 : Int32} {x5 : Int32} {x6 : Int32} {l7 : Int64} {l11 : Int64} {l13 : Int64} {l15 : Int64} {x17 : Int32} {l18 : Int64} {x20 : Int32} (k1 : (x6 ≤ x20) → ((f_RM_amount (((Int32.toInt64 x6) * l18) - (l7 * (Int32.toInt64 x5)))) < l11) → Go G (fr G m_RM_doubt (d + 5) P) 288 [some (.ref 67), none, none, none, some (.int x4), some (.int x5), some (.int x6), some (.long l7), none, none, none, some (.long l11), none, some (.long (l13 + 1)), none, none, none, some (.int x17), none, none, none] [.long 0, .long l15] I J) (k2 : (x6 ≤ x20) → (¬ ((f_RM_amount (((Int32.toInt64 x6) * l18) - (l7 * (Int32.toInt64 x5)))) < l11)) → Go G (fr G m_RM_doubt (d + 5) P) 288 [some (.ref 67), none, none, none, some (.int x4), some (.int x5), some (.int x6), some (.long l7), none, none, none, some (.long l11), none, some (.long (l13 + 1)), none, none, none, some (.int x17), none, none, none] [.long 1, .long l15] I J) (k3 : (¬ (x6 ≤ x20)) → (¬ ((x17 >>> (x20 &&& 31)) &&& 1) = 1) → Go G (fr G m_RM_doubt (d + 5) P) 244 [some (.ref 67), none, none, none, some (.int x4), some (.int x5), some (.int x6), some (.long l7), none, none, none, some (.long l11), none, some (.long l13), none, some (.long l15), none, some (.int x17), none, none, some (.int x20)] [.long 0, .long l18] I J) (b4 : (¬ (x6 ≤ x20)) → (((x17 >>> (x20 &&& 31)) &&& 1) = 1) → vp_in (x4 + x20) 40) (k5 : (¬ (x6 ≤ x20)) → (((x17 >>> (x20 &&& 31)) &&& 1) = 1) → Go G (fr G m_RM_doubt (d + 5) P) 244 [some (.ref 67), none, none, none, some (.int x4), some (.int x5), some (.int x6), some (.long l7), none, none, none, some (.long l11), none, some (.long l13), none, some (.long l15), none, some (.int x17), none, none, some (.int x20)] [.long (Int32.toInt64 (I 73 (x4 + x20).toNatClampNeg)), .long l18] I J) : Go G (fr G m_RM_doubt (d + 5) P) 209 [some (.ref 67), none, none, none, some (.int x4), some (.int x5), some (.int x6), some (.long l7), none, none, none, some (.long l11), none, some (.long l13), none, some (.long l15), none, some (.int x17), some (.long l18), none, some (.int x20)] [] I J := by
  refine g_iload dc_RM_doubt_209 rfl rfl ?_
  refine g_iload dc_RM_doubt_211 rfl rfl ?_
  refine g_ic_ge (tgt := 253) dc_RM_doubt_213 rfl (by decide) (fun c1 => ?_) (fun c1 => ?_)
  · refine g_lload dc_RM_doubt_253 rfl rfl ?_
    refine g_lconst (v := 1) dc_RM_doubt_255 rfl (by decide) ?_
    refine g_ladd dc_RM_doubt_256 rfl ?_
    refine g_lstore (L' := [some (.ref 67), none, none, none, some (.int x4), some (.int x5), some (.int x6), some (.long l7), none, none, none, some (.long l11), none, some (.long (l13 + 1)), none, some (.long l15), none, some (.int x17), some (.long l18), none, some (.int x20)]) dc_RM_doubt_257 rfl (Nat.le_of_ble_eq_true rfl) rfl ?_
    refine g_lload dc_RM_doubt_259 rfl rfl ?_
    refine g_iload dc_RM_doubt_261 rfl rfl ?_
    refine g_i2l dc_RM_doubt_263 rfl ?_
    refine g_lload dc_RM_doubt_264 rfl rfl ?_
    refine g_lmul dc_RM_doubt_266 rfl ?_
    refine g_lload dc_RM_doubt_267 rfl rfl ?_
    refine g_iload dc_RM_doubt_269 rfl rfl ?_
    refine g_i2l dc_RM_doubt_271 rfl ?_
    refine g_lmul dc_RM_doubt_272 rfl ?_
    refine g_lsub dc_RM_doubt_273 rfl ?_
    refine g_callS (M := m_RM_amount) (As := [.long (((Int32.toInt64 x6) * l18) - (l7 * (Int32.toInt64 x5)))]) (rest := [.long l15]) ok_RM_amount st_RM_amount ml_RM_175 rfl rfl (Nat.le_of_ble_eq_true rfl) dc_RM_doubt_274 rfl rOk_fr (c_RM_amount ?_)
    show Go G (fr G m_RM_doubt (d + 5) P) 277 [some (.ref 67), none, none, none, some (.int x4), some (.int x5), some (.int x6), some (.long l7), none, none, none, some (.long l11), none, some (.long (l13 + 1)), none, some (.long l15), none, some (.int x17), some (.long l18), none, some (.int x20)] [.long (f_RM_amount (((Int32.toInt64 x6) * l18) - (l7 * (Int32.toInt64 x5)))), .long l15] I J
    refine g_lload dc_RM_doubt_277 rfl rfl ?_
    refine g_lc_lt (tgt := 287) dc_RM_doubt_279 rfl dc_RM_doubt_280 rfl (by decide) (fun c2 => ?_) (fun c2 => ?_)
    · refine g_lconst (v := 0) dc_RM_doubt_287 rfl (by decide) ?_
      refine g_weak [some (.ref 67), none, none, none, some (.int x4), some (.int x5), some (.int x6), some (.long l7), none, none, none, some (.long l11), none, some (.long (l13 + 1)), none, none, none, some (.int x17), none, none, none] ⟨rfl, ⟨rfl, ⟨rfl, ⟨rfl, ⟨rfl, ⟨rfl, ⟨rfl, ⟨rfl, trivial⟩⟩⟩⟩⟩⟩⟩⟩ ?_
      exact (k1 c1 c2)
    · refine g_lconst (v := 1) dc_RM_doubt_283 rfl (by decide) ?_
      refine g_goto (tgt := 288) dc_RM_doubt_284 (by decide) ?_
      refine g_weak [some (.ref 67), none, none, none, some (.int x4), some (.int x5), some (.int x6), some (.long l7), none, none, none, some (.long l11), none, some (.long (l13 + 1)), none, none, none, some (.int x17), none, none, none] ⟨rfl, ⟨rfl, ⟨rfl, ⟨rfl, ⟨rfl, ⟨rfl, ⟨rfl, ⟨rfl, trivial⟩⟩⟩⟩⟩⟩⟩⟩ ?_
      exact (k2 c1 c2)
  · refine g_lload dc_RM_doubt_216 rfl rfl ?_
    refine g_iload dc_RM_doubt_218 rfl rfl ?_
    refine g_iload dc_RM_doubt_220 rfl rfl ?_
    refine g_ishr dc_RM_doubt_222 rfl ?_
    refine g_iconst (v := 1) dc_RM_doubt_223 rfl (by decide) ?_
    refine g_iand dc_RM_doubt_224 rfl ?_
    refine g_iconst (v := 1) dc_RM_doubt_225 rfl (by decide) ?_
    refine g_ic_ne (tgt := 243) dc_RM_doubt_226 rfl (by decide) (fun c3 => ?_) (fun c3 => ?_)
    · refine g_lconst (v := 0) dc_RM_doubt_243 rfl (by decide) ?_
      refine g_weak [some (.ref 67), none, none, none, some (.int x4), some (.int x5), some (.int x6), some (.long l7), none, none, none, some (.long l11), none, some (.long l13), none, some (.long l15), none, some (.int x17), none, none, some (.int x20)] ⟨rfl, ⟨rfl, ⟨rfl, ⟨rfl, ⟨rfl, ⟨rfl, ⟨rfl, ⟨rfl, ⟨rfl, ⟨rfl, trivial⟩⟩⟩⟩⟩⟩⟩⟩⟩⟩ ?_
      exact (k3 c1 c3)
    · refine g_aload_n dc_RM_doubt_229 rfl rfl rfl ?_
      refine g_get (C := "LevelBreaksModel") (T := T_RM) (N := 45) (k := 8) (v := .ref 73) sh_67 (by decide) rfl rfl i_RM (by decide) fl_RM_29 (Or.inl rfl) rfl dc_RM_doubt_230 rfl ?_
      refine g_iload dc_RM_doubt_233 rfl rfl ?_
      refine g_iload dc_RM_doubt_235 rfl rfl ?_
      refine g_iadd dc_RM_doubt_237 rfl ?_
      refine g_ialdv (v := (I 73 (x4 + x20).toNatClampNeg)) sh_73 (b4 c1 c3) rfl dc_RM_doubt_238 rfl ?_
      refine g_i2l dc_RM_doubt_239 rfl ?_
      refine g_goto (tgt := 244) dc_RM_doubt_240 (by decide) ?_
      refine g_weak [some (.ref 67), none, none, none, some (.int x4), some (.int x5), some (.int x6), some (.long l7), none, none, none, some (.long l11), none, some (.long l13), none, some (.long l15), none, some (.int x17), none, none, some (.int x20)] ⟨rfl, ⟨rfl, ⟨rfl, ⟨rfl, ⟨rfl, ⟨rfl, ⟨rfl, ⟨rfl, ⟨rfl, ⟨rfl, trivial⟩⟩⟩⟩⟩⟩⟩⟩⟩⟩ ?_
      exact (k5 c1 c3)
theorem w_RM_doubt_244 {G : GC} {d : Nat} {P : PT} {I : MI} {J : MJ} {x4 : Int32} {x5 : Int32} {x6 : Int32} {l7 : Int64} {l11 : Int64} {l13 : Int64} {l15 : Int64} {x17 : Int32} {x20 : Int32} {s0 : Int64} {s1 : Int64} (k1 : Go G (fr G m_RM_doubt (d + 5) P) 209 [some (.ref 67), none, none, none, some (.int x4), some (.int x5), some (.int x6), some (.long l7), none, none, none, some (.long l11), none, some (.long l13), none, some (.long l15), none, some (.int x17), some (.long (s0 + s1)), none, some (.int (x20 + 1))] [] I J) : Go G (fr G m_RM_doubt (d + 5) P) 244 [some (.ref 67), none, none, none, some (.int x4), some (.int x5), some (.int x6), some (.long l7), none, none, none, some (.long l11), none, some (.long l13), none, some (.long l15), none, some (.int x17), none, none, some (.int x20)] [.long s1, .long s0] I J := by
  refine g_ladd dc_RM_doubt_244 rfl ?_
  refine g_lstore (L' := [some (.ref 67), none, none, none, some (.int x4), some (.int x5), some (.int x6), some (.long l7), none, none, none, some (.long l11), none, some (.long l13), none, some (.long l15), none, some (.int x17), some (.long (s0 + s1)), none, some (.int x20)]) dc_RM_doubt_245 rfl (Nat.le_of_ble_eq_true rfl) rfl ?_
  refine g_iinc (v := (x20 + 1)) (L' := [some (.ref 67), none, none, none, some (.int x4), some (.int x5), some (.int x6), some (.long l7), none, none, none, some (.long l11), none, some (.long l13), none, some (.long l15), none, some (.int x17), some (.long (s0 + s1)), none, some (.int (x20 + 1))]) dc_RM_doubt_247 rfl rfl (by rw [show Int32.ofInt 1 = 1 from by decide]) (Nat.le_of_ble_eq_true rfl) rfl ?_
  refine g_goto (tgt := 209) dc_RM_doubt_250 (by decide) ?_
  exact k1
theorem w_RM_doubt_288 {G : GC} {d : Nat} {P : PT} {I : MI} {J : MJ} {x4 : Int32} {x5 : Int32} {x6 : Int32} {l7 : Int64} {l11 : Int64} {l13 : Int64} {x17 : Int32} {s0 : Int64} {s1 : Int64} (k1 : Go G (fr G m_RM_doubt (d + 5) P) 291 [some (.ref 67), none, none, none, some (.int x4), some (.int x5), some (.int x6), some (.long l7), none, none, none, some (.long l11), none, some (.long l13), none, some (.long (s0 + s1)), none, some (.int x17), none, none, none] [] I J) : Go G (fr G m_RM_doubt (d + 5) P) 288 [some (.ref 67), none, none, none, some (.int x4), some (.int x5), some (.int x6), some (.long l7), none, none, none, some (.long l11), none, some (.long l13), none, none, none, some (.int x17), none, none, none] [.long s1, .long s0] I J := by
  refine g_ladd dc_RM_doubt_288 rfl ?_
  refine g_lstore (L' := [some (.ref 67), none, none, none, some (.int x4), some (.int x5), some (.int x6), some (.long l7), none, none, none, some (.long l11), none, some (.long l13), none, some (.long (s0 + s1)), none, some (.int x17), none, none, none]) dc_RM_doubt_289 rfl (Nat.le_of_ble_eq_true rfl) rfl ?_
  exact k1
theorem w_RM_doubt_291 {G : GC} {d : Nat} {P : PT} {I : MI} {J : MJ} {x4 : Int32} {x5 : Int32} {x6 : Int32} {l7 : Int64} {l11 : Int64} {l13 : Int64} {l15 : Int64} {x17 : Int32} (k1 : Go G (fr G m_RM_doubt (d + 5) P) 184 [some (.ref 67), none, none, none, some (.int x4), some (.int x5), some (.int x6), some (.long l7), none, none, none, some (.long l11), none, some (.long l13), none, some (.long l15), none, some (.int (x17 + 1)), none, none, none] [] I J) : Go G (fr G m_RM_doubt (d + 5) P) 291 [some (.ref 67), none, none, none, some (.int x4), some (.int x5), some (.int x6), some (.long l7), none, none, none, some (.long l11), none, some (.long l13), none, some (.long l15), none, some (.int x17), none, none, none] [] I J := by
  refine g_iinc (v := (x17 + 1)) (L' := [some (.ref 67), none, none, none, some (.int x4), some (.int x5), some (.int x6), some (.long l7), none, none, none, some (.long l11), none, some (.long l13), none, some (.long l15), none, some (.int (x17 + 1)), none, none, none]) dc_RM_doubt_291 rfl rfl (by rw [show Int32.ofInt 1 = 1 from by decide]) (Nat.le_of_ble_eq_true rfl) rfl ?_
  refine g_goto (tgt := 184) dc_RM_doubt_294 (by decide) ?_
  exact k1
theorem dc_RM_fault_0 : decode prog_14_method_68_code 0 = .ok (.aload_n 0, 1) := by decide +kernel
theorem dc_RM_fault_1 : decode prog_14_method_68_code 1 = .ok (.invokevirtual 318, 3) := by decide +kernel
theorem dc_RM_fault_4 : decode prog_14_method_68_code 4 = .ok (.ireturn, 1) := by decide +kernel
theorem w_RM_fault_0 {G : GC} {d : Nat} {P : PT} {I : MI} {J : MJ}  (k1 : Ct G (d + 3) m_RM_faultNow [.ref 67] (fun r I' J' => Go G (fr G m_RM_fault (d + 4) P) 4 [none] (r.toList ++ []) I' J') I J) : Go G (fr G m_RM_fault (d + 4) P) 0 [some (.ref 67)] [] I J := by
  refine g_aload_n dc_RM_fault_0 rfl rfl rfl ?_
  refine g_weak [none] trivial ?_
  exact g_callV (T := T_RM) (N := 45) (As := []) (rest := []) ok_RM_faultNow in_RM_faultNow se_RM_faultNow ml_RM_318 sh_67 (by decide) rfl rfl rfl (Nat.le_of_ble_eq_true rfl) dc_RM_fault_1 rfl rOk_fr k1
theorem w_RM_fault_4 {G : GC} {d : Nat} {P : PT} {I : MI} {J : MJ} {y0 : Int32} (q1 : P (some (.int y0)) I J) : Go G (fr G m_RM_fault (d + 4) P) 4 [none] [.int y0] I J := by
  exact g_iret rfl dc_RM_fault_4 q1
theorem dc_RM_faultNow_0 : decode prog_14_method_67_code 0 = .ok (.aload_n 0, 1) := by decide +kernel
theorem dc_RM_faultNow_1 : decode prog_14_method_67_code 1 = .ok (.iconst 0, 1) := by decide +kernel
theorem dc_RM_faultNow_2 : decode prog_14_method_67_code 2 = .ok (.putfield 299, 3) := by decide +kernel
theorem dc_RM_faultNow_5 : decode prog_14_method_67_code 5 = .ok (.aload_n 0, 1) := by decide +kernel
theorem dc_RM_faultNow_6 : decode prog_14_method_67_code 6 = .ok (.iconst (-1), 1) := by decide +kernel
theorem dc_RM_faultNow_7 : decode prog_14_method_67_code 7 = .ok (.putfield 305, 3) := by decide +kernel
theorem dc_RM_faultNow_10 : decode prog_14_method_67_code 10 = .ok (.aload_n 0, 1) := by decide +kernel
theorem dc_RM_faultNow_11 : decode prog_14_method_67_code 11 = .ok (.iconst 0, 1) := by decide +kernel
theorem dc_RM_faultNow_12 : decode prog_14_method_67_code 12 = .ok (.putfield 308, 3) := by decide +kernel
theorem dc_RM_faultNow_15 : decode prog_14_method_67_code 15 = .ok (.aload_n 0, 1) := by decide +kernel
theorem dc_RM_faultNow_16 : decode prog_14_method_67_code 16 = .ok (.invokevirtual 315, 3) := by decide +kernel
theorem dc_RM_faultNow_19 : decode prog_14_method_67_code 19 = .ok (.aload_n 0, 1) := by decide +kernel
theorem dc_RM_faultNow_20 : decode prog_14_method_67_code 20 = .ok (.getfield 305, 3) := by decide +kernel
theorem dc_RM_faultNow_23 : decode prog_14_method_67_code 23 = .ok (.iconst (-1), 1) := by decide +kernel
theorem dc_RM_faultNow_24 : decode prog_14_method_67_code 24 = .ok (.if_icmp .ne 57, 3) := by decide +kernel
theorem dc_RM_faultNow_27 : decode prog_14_method_67_code 27 = .ok (.aload_n 0, 1) := by decide +kernel
theorem dc_RM_faultNow_28 : decode prog_14_method_67_code 28 = .ok (.getfield 299, 3) := by decide +kernel
theorem dc_RM_faultNow_31 : decode prog_14_method_67_code 31 = .ok (.aload_n 0, 1) := by decide +kernel
theorem dc_RM_faultNow_32 : decode prog_14_method_67_code 32 = .ok (.getfield 296, 3) := by decide +kernel
theorem dc_RM_faultNow_35 : decode prog_14_method_67_code 35 = .ok (.if_icmp .ge 46, 3) := by decide +kernel
theorem dc_RM_faultNow_38 : decode prog_14_method_67_code 38 = .ok (.aload_n 0, 1) := by decide +kernel
theorem dc_RM_faultNow_39 : decode prog_14_method_67_code 39 = .ok (.aload_n 0, 1) := by decide +kernel
theorem dc_RM_faultNow_40 : decode prog_14_method_67_code 40 = .ok (.getfield 299, 3) := by decide +kernel
theorem dc_RM_faultNow_43 : decode prog_14_method_67_code 43 = .ok (.invokevirtual 302, 3) := by decide +kernel
theorem dc_RM_faultNow_46 : decode prog_14_method_67_code 46 = .ok (.bipush 59, 2) := by decide +kernel
theorem dc_RM_faultNow_48 : decode prog_14_method_67_code 48 = .ok (.if_icmp .eq 16, 3) := by decide +kernel
theorem dc_RM_faultNow_51 : decode prog_14_method_67_code 51 = .ok (.aload_n 0, 1) := by decide +kernel
theorem dc_RM_faultNow_52 : decode prog_14_method_67_code 52 = .ok (.aload_n 0, 1) := by decide +kernel
theorem dc_RM_faultNow_53 : decode prog_14_method_67_code 53 = .ok (.getfield 299, 3) := by decide +kernel
theorem dc_RM_faultNow_56 : decode prog_14_method_67_code 56 = .ok (.putfield 305, 3) := by decide +kernel
theorem dc_RM_faultNow_59 : decode prog_14_method_67_code 59 = .ok (.aload_n 0, 1) := by decide +kernel
theorem dc_RM_faultNow_60 : decode prog_14_method_67_code 60 = .ok (.getfield 299, 3) := by decide +kernel
theorem dc_RM_faultNow_63 : decode prog_14_method_67_code 63 = .ok (.ireturn, 1) := by decide +kernel
theorem dc_RM_faultNow_64 : decode prog_14_method_67_code 64 = .ok (.aload_n 0, 1) := by decide +kernel
theorem dc_RM_faultNow_65 : decode prog_14_method_67_code 65 = .ok (.dup, 1) := by decide +kernel
theorem dc_RM_faultNow_66 : decode prog_14_method_67_code 66 = .ok (.getfield 299, 3) := by decide +kernel
theorem dc_RM_faultNow_69 : decode prog_14_method_67_code 69 = .ok (.iconst 1, 1) := by decide +kernel
theorem dc_RM_faultNow_70 : decode prog_14_method_67_code 70 = .ok (.iadd, 1) := by decide +kernel
theorem dc_RM_faultNow_71 : decode prog_14_method_67_code 71 = .ok (.putfield 299, 3) := by decide +kernel
theorem dc_RM_faultNow_74 : decode prog_14_method_67_code 74 = .ok (.aload_n 0, 1) := by decide +kernel
theorem dc_RM_faultNow_75 : decode prog_14_method_67_code 75 = .ok (.invokevirtual 315, 3) := by decide +kernel
theorem dc_RM_faultNow_78 : decode prog_14_method_67_code 78 = .ok (.goto (-59), 3) := by decide +kernel
theorem dc_RM_faultNow_81 : decode prog_14_method_67_code 81 = .ok (.aload_n 0, 1) := by decide +kernel
theorem dc_RM_faultNow_82 : decode prog_14_method_67_code 82 = .ok (.getfield 305, 3) := by decide +kernel
theorem dc_RM_faultNow_85 : decode prog_14_method_67_code 85 = .ok (.ireturn, 1) := by decide +kernel
theorem w_RM_faultNow_0 {G : GC} {d : Nat} {P : PT} {I : MI} {J : MJ}  (k1 : Ct G (d + 2) m_RM_part [.ref 67] (fun r I' J' => Go G (fr G m_RM_faultNow (d + 3) P) 19 [some (.ref 67)] (r.toList ++ []) I' J') (u2 (u2 (u2 I 67 33 0) 67 34 (-1)) 67 35 0) J) : Go G (fr G m_RM_faultNow (d + 3) P) 0 [some (.ref 67)] [] I J := by
  refine g_aload_n dc_RM_faultNow_0 rfl rfl rfl ?_
  refine g_iconst (v := 0) dc_RM_faultNow_1 rfl (by decide) ?_
  refine g_putI (C := "LevelBreaksModel") (T := T_RM) (N := 45) (k := 33) (ty := t_RM) sh_67 (by decide) rfl rfl i_RM p_RM n_RM (by decide) fl_RM_299 (Or.inl rfl) rfl (by decide) dc_RM_faultNow_2 rfl ?_
  refine g_aload_n dc_RM_faultNow_5 rfl rfl rfl ?_
  refine g_iconst (v := (-1)) dc_RM_faultNow_6 rfl (by decide) ?_
  refine g_putI (C := "LevelBreaksModel") (T := T_RM) (N := 45) (k := 34) (ty := t_RM) sh_67 (by decide) rfl rfl i_RM p_RM n_RM (by decide) fl_RM_305 (Or.inl rfl) rfl (by decide) dc_RM_faultNow_7 rfl ?_
  refine g_aload_n dc_RM_faultNow_10 rfl rfl rfl ?_
  refine g_iconst (v := 0) dc_RM_faultNow_11 rfl (by decide) ?_
  refine g_putI (C := "LevelBreaksModel") (T := T_RM) (N := 45) (k := 35) (ty := t_RM) sh_67 (by decide) rfl rfl i_RM p_RM n_RM (by decide) fl_RM_308 (Or.inl rfl) rfl (by decide) dc_RM_faultNow_12 rfl ?_
  refine g_aload_n dc_RM_faultNow_15 rfl rfl rfl ?_
  exact g_callV (T := T_RM) (N := 45) (As := []) (rest := []) ok_RM_part in_RM_part se_RM_part ml_RM_315 sh_67 (by decide) rfl rfl rfl (Nat.le_of_ble_eq_true rfl) dc_RM_faultNow_16 rfl rOk_fr k1
theorem w_RM_faultNow_19 {G : GC} {d : Nat} {P : PT} {I : MI} {J : MJ}  (k1 : (¬ (I 67 34) = (-1)) → Go G (fr G m_RM_faultNow (d + 3) P) 81 [some (.ref 67)] [] I J) (k2 : ((I 67 34) = (-1)) → ((I 67 31) ≤ (I 67 33)) → Go G (fr G m_RM_faultNow (d + 3) P) 81 [some (.ref 67)] [] I J) (k3 : ((I 67 34) = (-1)) → (¬ ((I 67 31) ≤ (I 67 33))) → Ct G (d + 2) m_RM_byteAt [.ref 67, .int (I 67 33)] (fun r I' J' => Go G (fr G m_RM_faultNow (d + 3) P) 46 [some (.ref 67)] (r.toList ++ []) I' J') I J) : Go G (fr G m_RM_faultNow (d + 3) P) 19 [some (.ref 67)] [] I J := by
  refine g_aload_n dc_RM_faultNow_19 rfl rfl rfl ?_
  refine g_get (C := "LevelBreaksModel") (T := T_RM) (N := 45) (k := 34) (v := .int (I 67 34)) sh_67 (by decide) rfl rfl i_RM (by decide) fl_RM_305 (Or.inl rfl) rfl dc_RM_faultNow_20 rfl ?_
  refine g_iconst (v := (-1)) dc_RM_faultNow_23 rfl (by decide) ?_
  refine g_ic_ne (tgt := 81) dc_RM_faultNow_24 rfl (by decide) (fun c1 => ?_) (fun c1 => ?_)
  · exact (k1 c1)
  · refine g_aload_n dc_RM_faultNow_27 rfl rfl rfl ?_
    refine g_get (C := "LevelBreaksModel") (T := T_RM) (N := 45) (k := 33) (v := .int (I 67 33)) sh_67 (by decide) rfl rfl i_RM (by decide) fl_RM_299 (Or.inl rfl) rfl dc_RM_faultNow_28 rfl ?_
    refine g_aload_n dc_RM_faultNow_31 rfl rfl rfl ?_
    refine g_get (C := "LevelBreaksModel") (T := T_RM) (N := 45) (k := 31) (v := .int (I 67 31)) sh_67 (by decide) rfl rfl i_RM (by decide) fl_RM_296 (Or.inl rfl) rfl dc_RM_faultNow_32 rfl ?_
    refine g_ic_ge (tgt := 81) dc_RM_faultNow_35 rfl (by decide) (fun c2 => ?_) (fun c2 => ?_)
    · exact (k2 c1 c2)
    · refine g_aload_n dc_RM_faultNow_38 rfl rfl rfl ?_
      refine g_aload_n dc_RM_faultNow_39 rfl rfl rfl ?_
      refine g_get (C := "LevelBreaksModel") (T := T_RM) (N := 45) (k := 33) (v := .int (I 67 33)) sh_67 (by decide) rfl rfl i_RM (by decide) fl_RM_299 (Or.inl rfl) rfl dc_RM_faultNow_40 rfl ?_
      exact g_callV (T := T_RM) (N := 45) (As := [.int (I 67 33)]) (rest := []) ok_RM_byteAt in_RM_byteAt se_RM_byteAt ml_RM_302 sh_67 (by decide) rfl rfl rfl (Nat.le_of_ble_eq_true rfl) dc_RM_faultNow_43 rfl rOk_fr (k3 c1 c2)
theorem w_RM_faultNow_46 {G : GC} {d : Nat} {P : PT} {I : MI} {J : MJ} {y0 : Int32} (k1 : (y0 = 59) → Ct G (d + 2) m_RM_part [.ref 67] (fun r I' J' => Go G (fr G m_RM_faultNow (d + 3) P) 78 [some (.ref 67)] (r.toList ++ []) I' J') (u2 I 67 33 ((I 67 33) + 1)) J) (q2 : (¬ (y0 = 59)) → P (some (.int (I 67 33))) (u2 I 67 34 (I 67 33)) J) : Go G (fr G m_RM_faultNow (d + 3) P) 46 [some (.ref 67)] [.int y0] I J := by
  refine g_bipush (v := 59) dc_RM_faultNow_46 rfl (by decide) ?_
  refine g_ic_eq (tgt := 64) dc_RM_faultNow_48 rfl (by decide) (fun c1 => ?_) (fun c1 => ?_)
  · refine g_aload_n dc_RM_faultNow_64 rfl rfl rfl ?_
    refine g_dup dc_RM_faultNow_65 rfl rfl ?_
    refine g_get (C := "LevelBreaksModel") (T := T_RM) (N := 45) (k := 33) (v := .int (I 67 33)) sh_67 (by decide) rfl rfl i_RM (by decide) fl_RM_299 (Or.inl rfl) rfl dc_RM_faultNow_66 rfl ?_
    refine g_iconst (v := 1) dc_RM_faultNow_69 rfl (by decide) ?_
    refine g_iadd dc_RM_faultNow_70 rfl ?_
    refine g_putI (C := "LevelBreaksModel") (T := T_RM) (N := 45) (k := 33) (ty := t_RM) sh_67 (by decide) rfl rfl i_RM p_RM n_RM (by decide) fl_RM_299 (Or.inl rfl) rfl (by decide) dc_RM_faultNow_71 rfl ?_
    refine g_aload_n dc_RM_faultNow_74 rfl rfl rfl ?_
    exact g_callV (T := T_RM) (N := 45) (As := []) (rest := []) ok_RM_part in_RM_part se_RM_part ml_RM_315 sh_67 (by decide) rfl rfl rfl (Nat.le_of_ble_eq_true rfl) dc_RM_faultNow_75 rfl rOk_fr (k1 c1)
  · refine g_aload_n dc_RM_faultNow_51 rfl rfl rfl ?_
    refine g_aload_n dc_RM_faultNow_52 rfl rfl rfl ?_
    refine g_get (C := "LevelBreaksModel") (T := T_RM) (N := 45) (k := 33) (v := .int (I 67 33)) sh_67 (by decide) rfl rfl i_RM (by decide) fl_RM_299 (Or.inl rfl) rfl dc_RM_faultNow_53 rfl ?_
    refine g_putI (C := "LevelBreaksModel") (T := T_RM) (N := 45) (k := 34) (ty := t_RM) sh_67 (by decide) rfl rfl i_RM p_RM n_RM (by decide) fl_RM_305 (Or.inl rfl) rfl (by decide) dc_RM_faultNow_56 rfl ?_
    refine g_aload_n dc_RM_faultNow_59 rfl rfl rfl ?_
    refine g_get (C := "LevelBreaksModel") (T := T_RM) (N := 45) (k := 33) (v := .int (I 67 33)) sh_67 (by decide) rfl rfl i_RM (by decide) fl_RM_299 (Or.inl rfl) rfl dc_RM_faultNow_60 rfl ?_
    exact g_iret rfl dc_RM_faultNow_63 (q2 c1)
theorem w_RM_faultNow_78 {G : GC} {d : Nat} {P : PT} {I : MI} {J : MJ}  (k1 : Go G (fr G m_RM_faultNow (d + 3) P) 19 [some (.ref 67)] [] I J) : Go G (fr G m_RM_faultNow (d + 3) P) 78 [some (.ref 67)] [] I J := by
  refine g_goto (tgt := 19) dc_RM_faultNow_78 (by decide) ?_
  exact k1
theorem w_RM_faultNow_81 {G : GC} {d : Nat} {P : PT} {I : MI} {J : MJ}  (q1 : P (some (.int (I 67 34))) I J) : Go G (fr G m_RM_faultNow (d + 3) P) 81 [some (.ref 67)] [] I J := by
  refine g_aload_n dc_RM_faultNow_81 rfl rfl rfl ?_
  refine g_get (C := "LevelBreaksModel") (T := T_RM) (N := 45) (k := 34) (v := .int (I 67 34)) sh_67 (by decide) rfl rfl i_RM (by decide) fl_RM_305 (Or.inl rfl) rfl dc_RM_faultNow_82 rfl ?_
  exact g_iret rfl dc_RM_faultNow_85 q1
theorem dc_RM_figures_0 : decode prog_14_method_65_code 0 = .ok (.aload_n 0, 1) := by decide +kernel
theorem dc_RM_figures_1 : decode prog_14_method_65_code 1 = .ok (.getfield 299, 3) := by decide +kernel
theorem dc_RM_figures_4 : decode prog_14_method_65_code 4 = .ok (.istore 5, 2) := by decide +kernel
theorem dc_RM_figures_6 : decode prog_14_method_65_code 6 = .ok (.iload_n 2, 1) := by decide +kernel
theorem dc_RM_figures_7 : decode prog_14_method_65_code 7 = .ok (.ifCond .eq 20, 3) := by decide +kernel
theorem dc_RM_figures_10 : decode prog_14_method_65_code 10 = .ok (.aload_n 0, 1) := by decide +kernel
theorem dc_RM_figures_11 : decode prog_14_method_65_code 11 = .ok (.aload_n 0, 1) := by decide +kernel
theorem dc_RM_figures_12 : decode prog_14_method_65_code 12 = .ok (.getfield 299, 3) := by decide +kernel
theorem dc_RM_figures_15 : decode prog_14_method_65_code 15 = .ok (.invokevirtual 302, 3) := by decide +kernel
theorem dc_RM_figures_18 : decode prog_14_method_65_code 18 = .ok (.bipush 45, 2) := by decide +kernel
theorem dc_RM_figures_20 : decode prog_14_method_65_code 20 = .ok (.if_icmp .ne 7, 3) := by decide +kernel
theorem dc_RM_figures_23 : decode prog_14_method_65_code 23 = .ok (.iconst 1, 1) := by decide +kernel
theorem dc_RM_figures_24 : decode prog_14_method_65_code 24 = .ok (.goto 4, 3) := by decide +kernel
theorem dc_RM_figures_27 : decode prog_14_method_65_code 27 = .ok (.iconst 0, 1) := by decide +kernel
theorem dc_RM_figures_28 : decode prog_14_method_65_code 28 = .ok (.istore 6, 2) := by decide +kernel
theorem dc_RM_figures_30 : decode prog_14_method_65_code 30 = .ok (.aload_n 0, 1) := by decide +kernel
theorem dc_RM_figures_31 : decode prog_14_method_65_code 31 = .ok (.dup, 1) := by decide +kernel
theorem dc_RM_figures_32 : decode prog_14_method_65_code 32 = .ok (.getfield 299, 3) := by decide +kernel
theorem dc_RM_figures_35 : decode prog_14_method_65_code 35 = .ok (.iload 6, 2) := by decide +kernel
theorem dc_RM_figures_37 : decode prog_14_method_65_code 37 = .ok (.ifCond .eq 7, 3) := by decide +kernel
theorem dc_RM_figures_40 : decode prog_14_method_65_code 40 = .ok (.iconst 1, 1) := by decide +kernel
theorem dc_RM_figures_41 : decode prog_14_method_65_code 41 = .ok (.goto 4, 3) := by decide +kernel
theorem dc_RM_figures_44 : decode prog_14_method_65_code 44 = .ok (.iconst 0, 1) := by decide +kernel
theorem dc_RM_figures_45 : decode prog_14_method_65_code 45 = .ok (.iadd, 1) := by decide +kernel
theorem dc_RM_figures_46 : decode prog_14_method_65_code 46 = .ok (.putfield 299, 3) := by decide +kernel
theorem dc_RM_figures_49 : decode prog_14_method_65_code 49 = .ok (.aload_n 0, 1) := by decide +kernel
theorem dc_RM_figures_50 : decode prog_14_method_65_code 50 = .ok (.getfield 299, 3) := by decide +kernel
theorem dc_RM_figures_53 : decode prog_14_method_65_code 53 = .ok (.istore 7, 2) := by decide +kernel
theorem dc_RM_figures_55 : decode prog_14_method_65_code 55 = .ok (.iconst 0, 1) := by decide +kernel
theorem dc_RM_figures_56 : decode prog_14_method_65_code 56 = .ok (.istore 8, 2) := by decide +kernel
theorem dc_RM_figures_58 : decode prog_14_method_65_code 58 = .ok (.aload_n 0, 1) := by decide +kernel
theorem dc_RM_figures_59 : decode prog_14_method_65_code 59 = .ok (.getfield 299, 3) := by decide +kernel
theorem dc_RM_figures_62 : decode prog_14_method_65_code 62 = .ok (.iload 7, 2) := by decide +kernel
theorem dc_RM_figures_64 : decode prog_14_method_65_code 64 = .ok (.iload_n 1, 1) := by decide +kernel
theorem dc_RM_figures_65 : decode prog_14_method_65_code 65 = .ok (.iadd, 1) := by decide +kernel
theorem dc_RM_figures_66 : decode prog_14_method_65_code 66 = .ok (.if_icmp .ge 61, 3) := by decide +kernel
theorem dc_RM_figures_69 : decode prog_14_method_65_code 69 = .ok (.aload_n 0, 1) := by decide +kernel
theorem dc_RM_figures_70 : decode prog_14_method_65_code 70 = .ok (.aload_n 0, 1) := by decide +kernel
theorem dc_RM_figures_71 : decode prog_14_method_65_code 71 = .ok (.getfield 299, 3) := by decide +kernel
theorem dc_RM_figures_74 : decode prog_14_method_65_code 74 = .ok (.invokevirtual 302, 3) := by decide +kernel
theorem dc_RM_figures_77 : decode prog_14_method_65_code 77 = .ok (.bipush 48, 2) := by decide +kernel
theorem dc_RM_figures_79 : decode prog_14_method_65_code 79 = .ok (.if_icmp .lt 48, 3) := by decide +kernel
theorem dc_RM_figures_82 : decode prog_14_method_65_code 82 = .ok (.aload_n 0, 1) := by decide +kernel
theorem dc_RM_figures_83 : decode prog_14_method_65_code 83 = .ok (.aload_n 0, 1) := by decide +kernel
theorem dc_RM_figures_84 : decode prog_14_method_65_code 84 = .ok (.getfield 299, 3) := by decide +kernel
theorem dc_RM_figures_87 : decode prog_14_method_65_code 87 = .ok (.invokevirtual 302, 3) := by decide +kernel
theorem dc_RM_figures_90 : decode prog_14_method_65_code 90 = .ok (.bipush 57, 2) := by decide +kernel
theorem dc_RM_figures_92 : decode prog_14_method_65_code 92 = .ok (.if_icmp .gt 35, 3) := by decide +kernel
theorem dc_RM_figures_95 : decode prog_14_method_65_code 95 = .ok (.bipush 10, 2) := by decide +kernel
theorem dc_RM_figures_97 : decode prog_14_method_65_code 97 = .ok (.iload 8, 2) := by decide +kernel
theorem dc_RM_figures_99 : decode prog_14_method_65_code 99 = .ok (.imul, 1) := by decide +kernel
theorem dc_RM_figures_100 : decode prog_14_method_65_code 100 = .ok (.aload_n 0, 1) := by decide +kernel
theorem dc_RM_figures_101 : decode prog_14_method_65_code 101 = .ok (.aload_n 0, 1) := by decide +kernel
theorem dc_RM_figures_102 : decode prog_14_method_65_code 102 = .ok (.getfield 299, 3) := by decide +kernel
theorem dc_RM_figures_105 : decode prog_14_method_65_code 105 = .ok (.invokevirtual 302, 3) := by decide +kernel
theorem dc_RM_figures_108 : decode prog_14_method_65_code 108 = .ok (.iadd, 1) := by decide +kernel
theorem dc_RM_figures_109 : decode prog_14_method_65_code 109 = .ok (.bipush 48, 2) := by decide +kernel
theorem dc_RM_figures_111 : decode prog_14_method_65_code 111 = .ok (.isub, 1) := by decide +kernel
theorem dc_RM_figures_112 : decode prog_14_method_65_code 112 = .ok (.istore 8, 2) := by decide +kernel
theorem dc_RM_figures_114 : decode prog_14_method_65_code 114 = .ok (.aload_n 0, 1) := by decide +kernel
theorem dc_RM_figures_115 : decode prog_14_method_65_code 115 = .ok (.dup, 1) := by decide +kernel
theorem dc_RM_figures_116 : decode prog_14_method_65_code 116 = .ok (.getfield 299, 3) := by decide +kernel
theorem dc_RM_figures_119 : decode prog_14_method_65_code 119 = .ok (.iconst 1, 1) := by decide +kernel
theorem dc_RM_figures_120 : decode prog_14_method_65_code 120 = .ok (.iadd, 1) := by decide +kernel
theorem dc_RM_figures_121 : decode prog_14_method_65_code 121 = .ok (.putfield 299, 3) := by decide +kernel
theorem dc_RM_figures_124 : decode prog_14_method_65_code 124 = .ok (.goto (-66), 3) := by decide +kernel
theorem dc_RM_figures_127 : decode prog_14_method_65_code 127 = .ok (.iload 6, 2) := by decide +kernel
theorem dc_RM_figures_129 : decode prog_14_method_65_code 129 = .ok (.ifCond .eq 9, 3) := by decide +kernel
theorem dc_RM_figures_132 : decode prog_14_method_65_code 132 = .ok (.iload 8, 2) := by decide +kernel
theorem dc_RM_figures_134 : decode prog_14_method_65_code 134 = .ok (.ineg, 1) := by decide +kernel
theorem dc_RM_figures_135 : decode prog_14_method_65_code 135 = .ok (.goto 5, 3) := by decide +kernel
theorem dc_RM_figures_138 : decode prog_14_method_65_code 138 = .ok (.iload 8, 2) := by decide +kernel
theorem dc_RM_figures_140 : decode prog_14_method_65_code 140 = .ok (.istore 8, 2) := by decide +kernel
theorem dc_RM_figures_142 : decode prog_14_method_65_code 142 = .ok (.aload_n 0, 1) := by decide +kernel
theorem dc_RM_figures_143 : decode prog_14_method_65_code 143 = .ok (.getfield 299, 3) := by decide +kernel
theorem dc_RM_figures_146 : decode prog_14_method_65_code 146 = .ok (.iload 7, 2) := by decide +kernel
theorem dc_RM_figures_148 : decode prog_14_method_65_code 148 = .ok (.if_icmp .ne 14, 3) := by decide +kernel
theorem dc_RM_figures_151 : decode prog_14_method_65_code 151 = .ok (.aload_n 0, 1) := by decide +kernel
theorem dc_RM_figures_152 : decode prog_14_method_65_code 152 = .ok (.aload_n 0, 1) := by decide +kernel
theorem dc_RM_figures_153 : decode prog_14_method_65_code 153 = .ok (.getfield 299, 3) := by decide +kernel
theorem dc_RM_figures_156 : decode prog_14_method_65_code 156 = .ok (.putfield 305, 3) := by decide +kernel
theorem dc_RM_figures_159 : decode prog_14_method_65_code 159 = .ok (.goto 20, 3) := by decide +kernel
theorem dc_RM_figures_162 : decode prog_14_method_65_code 162 = .ok (.iload 8, 2) := by decide +kernel
theorem dc_RM_figures_164 : decode prog_14_method_65_code 164 = .ok (.iload_n 3, 1) := by decide +kernel
theorem dc_RM_figures_165 : decode prog_14_method_65_code 165 = .ok (.iload 4, 2) := by decide +kernel
theorem dc_RM_figures_167 : decode prog_14_method_65_code 167 = .ok (.invokestatic 112, 3) := by decide +kernel
theorem dc_RM_figures_170 : decode prog_14_method_65_code 170 = .ok (.ifCond .ne 9, 3) := by decide +kernel
theorem dc_RM_figures_173 : decode prog_14_method_65_code 173 = .ok (.aload_n 0, 1) := by decide +kernel
theorem dc_RM_figures_174 : decode prog_14_method_65_code 174 = .ok (.iload 5, 2) := by decide +kernel
theorem dc_RM_figures_176 : decode prog_14_method_65_code 176 = .ok (.putfield 305, 3) := by decide +kernel
theorem dc_RM_figures_179 : decode prog_14_method_65_code 179 = .ok (.iload 8, 2) := by decide +kernel
theorem dc_RM_figures_181 : decode prog_14_method_65_code 181 = .ok (.ireturn, 1) := by decide +kernel
theorem w_RM_figures_0 {G : GC} {d : Nat} {P : PT} {I : MI} {J : MJ} {x1 : Int32} {x2 : Int32} {x3 : Int32} {x4 : Int32} (k1 : (x2 = 0) → Go G (fr G m_RM_figures (d + 1) P) 27 [some (.ref 67), some (.int x1), none, some (.int x3), some (.int x4), some (.int (I 67 33)), none, none, none] [] I J) (k2 : (¬ (x2 = 0)) → Ct G d m_RM_byteAt [.ref 67, .int (I 67 33)] (fun r I' J' => Go G (fr G m_RM_figures (d + 1) P) 18 [some (.ref 67), some (.int x1), none, some (.int x3), some (.int x4), some (.int (I 67 33)), none, none, none] (r.toList ++ []) I' J') I J) : Go G (fr G m_RM_figures (d + 1) P) 0 [some (.ref 67), some (.int x1), some (.int x2), some (.int x3), some (.int x4), none, none, none, none] [] I J := by
  refine g_aload_n dc_RM_figures_0 rfl rfl rfl ?_
  refine g_get (C := "LevelBreaksModel") (T := T_RM) (N := 45) (k := 33) (v := .int (I 67 33)) sh_67 (by decide) rfl rfl i_RM (by decide) fl_RM_299 (Or.inl rfl) rfl dc_RM_figures_1 rfl ?_
  refine g_istore (L' := [some (.ref 67), some (.int x1), some (.int x2), some (.int x3), some (.int x4), some (.int (I 67 33)), none, none, none]) dc_RM_figures_4 rfl (Nat.le_of_ble_eq_true rfl) rfl ?_
  refine g_iload_n dc_RM_figures_6 rfl rfl rfl ?_
  refine g_if_eq (tgt := 27) dc_RM_figures_7 rfl (by decide) (fun c1 => ?_) (fun c1 => ?_)
  · refine g_weak [some (.ref 67), some (.int x1), none, some (.int x3), some (.int x4), some (.int (I 67 33)), none, none, none] ⟨rfl, ⟨rfl, ⟨rfl, ⟨rfl, ⟨rfl, trivial⟩⟩⟩⟩⟩ ?_
    exact (k1 c1)
  · refine g_aload_n dc_RM_figures_10 rfl rfl rfl ?_
    refine g_aload_n dc_RM_figures_11 rfl rfl rfl ?_
    refine g_get (C := "LevelBreaksModel") (T := T_RM) (N := 45) (k := 33) (v := .int (I 67 33)) sh_67 (by decide) rfl rfl i_RM (by decide) fl_RM_299 (Or.inl rfl) rfl dc_RM_figures_12 rfl ?_
    refine g_weak [some (.ref 67), some (.int x1), none, some (.int x3), some (.int x4), some (.int (I 67 33)), none, none, none] ⟨rfl, ⟨rfl, ⟨rfl, ⟨rfl, ⟨rfl, trivial⟩⟩⟩⟩⟩ ?_
    exact g_callV (T := T_RM) (N := 45) (As := [.int (I 67 33)]) (rest := []) ok_RM_byteAt in_RM_byteAt se_RM_byteAt ml_RM_302 sh_67 (by decide) rfl rfl rfl (Nat.le_of_ble_eq_true rfl) dc_RM_figures_15 rfl rOk_fr (k2 c1)
theorem w_RM_figures_18 {G : GC} {d : Nat} {P : PT} {I : MI} {J : MJ} {x1 : Int32} {x3 : Int32} {x4 : Int32} {x5 : Int32} {y0 : Int32} (k1 : (¬ y0 = 45) → Go G (fr G m_RM_figures (d + 1) P) 27 [some (.ref 67), some (.int x1), none, some (.int x3), some (.int x4), some (.int x5), none, none, none] [] I J) (k2 : (y0 = 45) → Go G (fr G m_RM_figures (d + 1) P) 28 [some (.ref 67), some (.int x1), none, some (.int x3), some (.int x4), some (.int x5), none, none, none] [.int 1] I J) : Go G (fr G m_RM_figures (d + 1) P) 18 [some (.ref 67), some (.int x1), none, some (.int x3), some (.int x4), some (.int x5), none, none, none] [.int y0] I J := by
  refine g_bipush (v := 45) dc_RM_figures_18 rfl (by decide) ?_
  refine g_ic_ne (tgt := 27) dc_RM_figures_20 rfl (by decide) (fun c1 => ?_) (fun c1 => ?_)
  · exact (k1 c1)
  · refine g_iconst (v := 1) dc_RM_figures_23 rfl (by decide) ?_
    refine g_goto (tgt := 28) dc_RM_figures_24 (by decide) ?_
    exact (k2 c1)
theorem w_RM_figures_27 {G : GC} {d : Nat} {P : PT} {I : MI} {J : MJ} {x1 : Int32} {x3 : Int32} {x4 : Int32} {x5 : Int32} (k1 : Go G (fr G m_RM_figures (d + 1) P) 28 [some (.ref 67), some (.int x1), none, some (.int x3), some (.int x4), some (.int x5), none, none, none] [.int 0] I J) : Go G (fr G m_RM_figures (d + 1) P) 27 [some (.ref 67), some (.int x1), none, some (.int x3), some (.int x4), some (.int x5), none, none, none] [] I J := by
  refine g_iconst (v := 0) dc_RM_figures_27 rfl (by decide) ?_
  exact k1
theorem w_RM_figures_28 {G : GC} {d : Nat} {P : PT} {I : MI} {J : MJ} {x1 : Int32} {x3 : Int32} {x4 : Int32} {x5 : Int32} {y0 : Int32} (k1 : (y0 = 0) → Go G (fr G m_RM_figures (d + 1) P) 45 [some (.ref 67), some (.int x1), none, some (.int x3), some (.int x4), some (.int x5), some (.int y0), none, none] [.int 0, .int (I 67 33), .ref 67] I J) (k2 : (¬ (y0 = 0)) → Go G (fr G m_RM_figures (d + 1) P) 45 [some (.ref 67), some (.int x1), none, some (.int x3), some (.int x4), some (.int x5), some (.int y0), none, none] [.int 1, .int (I 67 33), .ref 67] I J) : Go G (fr G m_RM_figures (d + 1) P) 28 [some (.ref 67), some (.int x1), none, some (.int x3), some (.int x4), some (.int x5), none, none, none] [.int y0] I J := by
  refine g_istore (L' := [some (.ref 67), some (.int x1), none, some (.int x3), some (.int x4), some (.int x5), some (.int y0), none, none]) dc_RM_figures_28 rfl (Nat.le_of_ble_eq_true rfl) rfl ?_
  refine g_aload_n dc_RM_figures_30 rfl rfl rfl ?_
  refine g_dup dc_RM_figures_31 rfl rfl ?_
  refine g_get (C := "LevelBreaksModel") (T := T_RM) (N := 45) (k := 33) (v := .int (I 67 33)) sh_67 (by decide) rfl rfl i_RM (by decide) fl_RM_299 (Or.inl rfl) rfl dc_RM_figures_32 rfl ?_
  refine g_iload dc_RM_figures_35 rfl rfl ?_
  refine g_if_eq (tgt := 44) dc_RM_figures_37 rfl (by decide) (fun c1 => ?_) (fun c1 => ?_)
  · refine g_iconst (v := 0) dc_RM_figures_44 rfl (by decide) ?_
    exact (k1 c1)
  · refine g_iconst (v := 1) dc_RM_figures_40 rfl (by decide) ?_
    refine g_goto (tgt := 45) dc_RM_figures_41 (by decide) ?_
    exact (k2 c1)
theorem w_RM_figures_45 {G : GC} {d : Nat} {P : PT} {I : MI} {J : MJ} {x1 : Int32} {x3 : Int32} {x4 : Int32} {x5 : Int32} {x6 : Int32} {y1 : Int32} {y2 : Int32} (k1 : Go G (fr G m_RM_figures (d + 1) P) 58 [some (.ref 67), some (.int x1), none, some (.int x3), some (.int x4), some (.int x5), some (.int x6), some (.int (y1 + y2)), some (.int 0)] [] (u2 I 67 33 (y1 + y2)) J) : Go G (fr G m_RM_figures (d + 1) P) 45 [some (.ref 67), some (.int x1), none, some (.int x3), some (.int x4), some (.int x5), some (.int x6), none, none] [.int y2, .int y1, .ref 67] I J := by
  refine g_iadd dc_RM_figures_45 rfl ?_
  refine g_putI (C := "LevelBreaksModel") (T := T_RM) (N := 45) (k := 33) (ty := t_RM) sh_67 (by decide) rfl rfl i_RM p_RM n_RM (by decide) fl_RM_299 (Or.inl rfl) rfl (by decide) dc_RM_figures_46 rfl ?_
  refine g_aload_n dc_RM_figures_49 rfl rfl rfl ?_
  refine g_get (C := "LevelBreaksModel") (T := T_RM) (N := 45) (k := 33) (v := .int (y1 + y2)) sh_67 (by decide) rfl rfl i_RM (by decide) fl_RM_299 (Or.inl rfl) rfl dc_RM_figures_50 rfl ?_
  refine g_istore (L' := [some (.ref 67), some (.int x1), none, some (.int x3), some (.int x4), some (.int x5), some (.int x6), some (.int (y1 + y2)), none]) dc_RM_figures_53 rfl (Nat.le_of_ble_eq_true rfl) rfl ?_
  refine g_iconst (v := 0) dc_RM_figures_55 rfl (by decide) ?_
  refine g_istore (L' := [some (.ref 67), some (.int x1), none, some (.int x3), some (.int x4), some (.int x5), some (.int x6), some (.int (y1 + y2)), some (.int 0)]) dc_RM_figures_56 rfl (Nat.le_of_ble_eq_true rfl) rfl ?_
  exact k1
theorem w_RM_figures_58 {G : GC} {d : Nat} {P : PT} {I : MI} {J : MJ} {x1 : Int32} {x3 : Int32} {x4 : Int32} {x5 : Int32} {x6 : Int32} {x7 : Int32} {x8 : Int32} (k1 : ((x7 + x1) ≤ (I 67 33)) → Go G (fr G m_RM_figures (d + 1) P) 127 [some (.ref 67), none, none, some (.int x3), some (.int x4), some (.int x5), some (.int x6), some (.int x7), some (.int x8)] [] I J) (k2 : (¬ ((x7 + x1) ≤ (I 67 33))) → Ct G d m_RM_byteAt [.ref 67, .int (I 67 33)] (fun r I' J' => Go G (fr G m_RM_figures (d + 1) P) 77 [some (.ref 67), some (.int x1), none, some (.int x3), some (.int x4), some (.int x5), some (.int x6), some (.int x7), some (.int x8)] (r.toList ++ []) I' J') I J) : Go G (fr G m_RM_figures (d + 1) P) 58 [some (.ref 67), some (.int x1), none, some (.int x3), some (.int x4), some (.int x5), some (.int x6), some (.int x7), some (.int x8)] [] I J := by
  refine g_aload_n dc_RM_figures_58 rfl rfl rfl ?_
  refine g_get (C := "LevelBreaksModel") (T := T_RM) (N := 45) (k := 33) (v := .int (I 67 33)) sh_67 (by decide) rfl rfl i_RM (by decide) fl_RM_299 (Or.inl rfl) rfl dc_RM_figures_59 rfl ?_
  refine g_iload dc_RM_figures_62 rfl rfl ?_
  refine g_iload_n dc_RM_figures_64 rfl rfl rfl ?_
  refine g_iadd dc_RM_figures_65 rfl ?_
  refine g_ic_ge (tgt := 127) dc_RM_figures_66 rfl (by decide) (fun c1 => ?_) (fun c1 => ?_)
  · refine g_weak [some (.ref 67), none, none, some (.int x3), some (.int x4), some (.int x5), some (.int x6), some (.int x7), some (.int x8)] ⟨rfl, ⟨rfl, ⟨rfl, ⟨rfl, ⟨rfl, ⟨rfl, ⟨rfl, trivial⟩⟩⟩⟩⟩⟩⟩ ?_
    exact (k1 c1)
  · refine g_aload_n dc_RM_figures_69 rfl rfl rfl ?_
    refine g_aload_n dc_RM_figures_70 rfl rfl rfl ?_
    refine g_get (C := "LevelBreaksModel") (T := T_RM) (N := 45) (k := 33) (v := .int (I 67 33)) sh_67 (by decide) rfl rfl i_RM (by decide) fl_RM_299 (Or.inl rfl) rfl dc_RM_figures_71 rfl ?_
    exact g_callV (T := T_RM) (N := 45) (As := [.int (I 67 33)]) (rest := []) ok_RM_byteAt in_RM_byteAt se_RM_byteAt ml_RM_302 sh_67 (by decide) rfl rfl rfl (Nat.le_of_ble_eq_true rfl) dc_RM_figures_74 rfl rOk_fr (k2 c1)
theorem w_RM_figures_77 {G : GC} {d : Nat} {P : PT} {I : MI} {J : MJ} {x1 : Int32} {x3 : Int32} {x4 : Int32} {x5 : Int32} {x6 : Int32} {x7 : Int32} {x8 : Int32} {y0 : Int32} (k1 : (y0 < 48) → Go G (fr G m_RM_figures (d + 1) P) 127 [some (.ref 67), none, none, some (.int x3), some (.int x4), some (.int x5), some (.int x6), some (.int x7), some (.int x8)] [] I J) (k2 : (¬ (y0 < 48)) → Ct G d m_RM_byteAt [.ref 67, .int (I 67 33)] (fun r I' J' => Go G (fr G m_RM_figures (d + 1) P) 90 [some (.ref 67), some (.int x1), none, some (.int x3), some (.int x4), some (.int x5), some (.int x6), some (.int x7), some (.int x8)] (r.toList ++ []) I' J') I J) : Go G (fr G m_RM_figures (d + 1) P) 77 [some (.ref 67), some (.int x1), none, some (.int x3), some (.int x4), some (.int x5), some (.int x6), some (.int x7), some (.int x8)] [.int y0] I J := by
  refine g_bipush (v := 48) dc_RM_figures_77 rfl (by decide) ?_
  refine g_ic_lt (tgt := 127) dc_RM_figures_79 rfl (by decide) (fun c1 => ?_) (fun c1 => ?_)
  · refine g_weak [some (.ref 67), none, none, some (.int x3), some (.int x4), some (.int x5), some (.int x6), some (.int x7), some (.int x8)] ⟨rfl, ⟨rfl, ⟨rfl, ⟨rfl, ⟨rfl, ⟨rfl, ⟨rfl, trivial⟩⟩⟩⟩⟩⟩⟩ ?_
    exact (k1 c1)
  · refine g_aload_n dc_RM_figures_82 rfl rfl rfl ?_
    refine g_aload_n dc_RM_figures_83 rfl rfl rfl ?_
    refine g_get (C := "LevelBreaksModel") (T := T_RM) (N := 45) (k := 33) (v := .int (I 67 33)) sh_67 (by decide) rfl rfl i_RM (by decide) fl_RM_299 (Or.inl rfl) rfl dc_RM_figures_84 rfl ?_
    exact g_callV (T := T_RM) (N := 45) (As := [.int (I 67 33)]) (rest := []) ok_RM_byteAt in_RM_byteAt se_RM_byteAt ml_RM_302 sh_67 (by decide) rfl rfl rfl (Nat.le_of_ble_eq_true rfl) dc_RM_figures_87 rfl rOk_fr (k2 c1)
theorem w_RM_figures_90 {G : GC} {d : Nat} {P : PT} {I : MI} {J : MJ} {x1 : Int32} {x3 : Int32} {x4 : Int32} {x5 : Int32} {x6 : Int32} {x7 : Int32} {x8 : Int32} {y0 : Int32} (k1 : (57 < y0) → Go G (fr G m_RM_figures (d + 1) P) 127 [some (.ref 67), none, none, some (.int x3), some (.int x4), some (.int x5), some (.int x6), some (.int x7), some (.int x8)] [] I J) (k2 : (¬ (57 < y0)) → Ct G d m_RM_byteAt [.ref 67, .int (I 67 33)] (fun r I' J' => Go G (fr G m_RM_figures (d + 1) P) 108 [some (.ref 67), some (.int x1), none, some (.int x3), some (.int x4), some (.int x5), some (.int x6), some (.int x7), none] (r.toList ++ [.int (10 * x8)]) I' J') I J) : Go G (fr G m_RM_figures (d + 1) P) 90 [some (.ref 67), some (.int x1), none, some (.int x3), some (.int x4), some (.int x5), some (.int x6), some (.int x7), some (.int x8)] [.int y0] I J := by
  refine g_bipush (v := 57) dc_RM_figures_90 rfl (by decide) ?_
  refine g_ic_gt (tgt := 127) dc_RM_figures_92 rfl (by decide) (fun c1 => ?_) (fun c1 => ?_)
  · refine g_weak [some (.ref 67), none, none, some (.int x3), some (.int x4), some (.int x5), some (.int x6), some (.int x7), some (.int x8)] ⟨rfl, ⟨rfl, ⟨rfl, ⟨rfl, ⟨rfl, ⟨rfl, ⟨rfl, trivial⟩⟩⟩⟩⟩⟩⟩ ?_
    exact (k1 c1)
  · refine g_bipush (v := 10) dc_RM_figures_95 rfl (by decide) ?_
    refine g_iload dc_RM_figures_97 rfl rfl ?_
    refine g_imul dc_RM_figures_99 rfl ?_
    refine g_aload_n dc_RM_figures_100 rfl rfl rfl ?_
    refine g_aload_n dc_RM_figures_101 rfl rfl rfl ?_
    refine g_get (C := "LevelBreaksModel") (T := T_RM) (N := 45) (k := 33) (v := .int (I 67 33)) sh_67 (by decide) rfl rfl i_RM (by decide) fl_RM_299 (Or.inl rfl) rfl dc_RM_figures_102 rfl ?_
    refine g_weak [some (.ref 67), some (.int x1), none, some (.int x3), some (.int x4), some (.int x5), some (.int x6), some (.int x7), none] ⟨rfl, ⟨rfl, ⟨rfl, ⟨rfl, ⟨rfl, ⟨rfl, ⟨rfl, trivial⟩⟩⟩⟩⟩⟩⟩ ?_
    exact g_callV (T := T_RM) (N := 45) (As := [.int (I 67 33)]) (rest := [.int (10 * x8)]) ok_RM_byteAt in_RM_byteAt se_RM_byteAt ml_RM_302 sh_67 (by decide) rfl rfl rfl (Nat.le_of_ble_eq_true rfl) dc_RM_figures_105 rfl rOk_fr (k2 c1)
theorem w_RM_figures_108 {G : GC} {d : Nat} {P : PT} {I : MI} {J : MJ} {x1 : Int32} {x3 : Int32} {x4 : Int32} {x5 : Int32} {x6 : Int32} {x7 : Int32} {y0 : Int32} {y1 : Int32} (k1 : Go G (fr G m_RM_figures (d + 1) P) 58 [some (.ref 67), some (.int x1), none, some (.int x3), some (.int x4), some (.int x5), some (.int x6), some (.int x7), some (.int ((y0 + y1) - 48))] [] (u2 I 67 33 ((I 67 33) + 1)) J) : Go G (fr G m_RM_figures (d + 1) P) 108 [some (.ref 67), some (.int x1), none, some (.int x3), some (.int x4), some (.int x5), some (.int x6), some (.int x7), none] [.int y1, .int y0] I J := by
  refine g_iadd dc_RM_figures_108 rfl ?_
  refine g_bipush (v := 48) dc_RM_figures_109 rfl (by decide) ?_
  refine g_isub dc_RM_figures_111 rfl ?_
  refine g_istore (L' := [some (.ref 67), some (.int x1), none, some (.int x3), some (.int x4), some (.int x5), some (.int x6), some (.int x7), some (.int ((y0 + y1) - 48))]) dc_RM_figures_112 rfl (Nat.le_of_ble_eq_true rfl) rfl ?_
  refine g_aload_n dc_RM_figures_114 rfl rfl rfl ?_
  refine g_dup dc_RM_figures_115 rfl rfl ?_
  refine g_get (C := "LevelBreaksModel") (T := T_RM) (N := 45) (k := 33) (v := .int (I 67 33)) sh_67 (by decide) rfl rfl i_RM (by decide) fl_RM_299 (Or.inl rfl) rfl dc_RM_figures_116 rfl ?_
  refine g_iconst (v := 1) dc_RM_figures_119 rfl (by decide) ?_
  refine g_iadd dc_RM_figures_120 rfl ?_
  refine g_putI (C := "LevelBreaksModel") (T := T_RM) (N := 45) (k := 33) (ty := t_RM) sh_67 (by decide) rfl rfl i_RM p_RM n_RM (by decide) fl_RM_299 (Or.inl rfl) rfl (by decide) dc_RM_figures_121 rfl ?_
  refine g_goto (tgt := 58) dc_RM_figures_124 (by decide) ?_
  exact k1
theorem w_RM_figures_127 {G : GC} {d : Nat} {P : PT} {I : MI} {J : MJ} {x3 : Int32} {x4 : Int32} {x5 : Int32} {x6 : Int32} {x7 : Int32} {x8 : Int32} (k1 : (x6 = 0) → Go G (fr G m_RM_figures (d + 1) P) 140 [some (.ref 67), none, none, some (.int x3), some (.int x4), some (.int x5), none, some (.int x7), none] [.int x8] I J) (k2 : (¬ (x6 = 0)) → Go G (fr G m_RM_figures (d + 1) P) 140 [some (.ref 67), none, none, some (.int x3), some (.int x4), some (.int x5), none, some (.int x7), none] [.int (0 - x8)] I J) : Go G (fr G m_RM_figures (d + 1) P) 127 [some (.ref 67), none, none, some (.int x3), some (.int x4), some (.int x5), some (.int x6), some (.int x7), some (.int x8)] [] I J := by
  refine g_iload dc_RM_figures_127 rfl rfl ?_
  refine g_if_eq (tgt := 138) dc_RM_figures_129 rfl (by decide) (fun c1 => ?_) (fun c1 => ?_)
  · refine g_iload dc_RM_figures_138 rfl rfl ?_
    refine g_weak [some (.ref 67), none, none, some (.int x3), some (.int x4), some (.int x5), none, some (.int x7), none] ⟨rfl, ⟨rfl, ⟨rfl, ⟨rfl, ⟨rfl, trivial⟩⟩⟩⟩⟩ ?_
    exact (k1 c1)
  · refine g_iload dc_RM_figures_132 rfl rfl ?_
    refine g_ineg dc_RM_figures_134 rfl ?_
    refine g_goto (tgt := 140) dc_RM_figures_135 (by decide) ?_
    refine g_weak [some (.ref 67), none, none, some (.int x3), some (.int x4), some (.int x5), none, some (.int x7), none] ⟨rfl, ⟨rfl, ⟨rfl, ⟨rfl, ⟨rfl, trivial⟩⟩⟩⟩⟩ ?_
    exact (k2 c1)
theorem w_RM_figures_140 {G : GC} {d : Nat} {P : PT} {I : MI} {J : MJ} {x3 : Int32} {x4 : Int32} {x5 : Int32} {x7 : Int32} {y0 : Int32} (k1 : (¬ (I 67 33) = x7) → (¬ (f_RM_in y0 x3 x4) = 0) → Go G (fr G m_RM_figures (d + 1) P) 179 [none, none, none, none, none, none, none, none, some (.int y0)] [] I J) (k2 : (¬ (I 67 33) = x7) → ((f_RM_in y0 x3 x4) = 0) → Go G (fr G m_RM_figures (d + 1) P) 179 [none, none, none, none, none, none, none, none, some (.int y0)] [] (u2 I 67 34 x5) J) (k3 : ((I 67 33) = x7) → Go G (fr G m_RM_figures (d + 1) P) 179 [none, none, none, none, none, none, none, none, some (.int y0)] [] (u2 I 67 34 (I 67 33)) J) : Go G (fr G m_RM_figures (d + 1) P) 140 [some (.ref 67), none, none, some (.int x3), some (.int x4), some (.int x5), none, some (.int x7), none] [.int y0] I J := by
  refine g_istore (L' := [some (.ref 67), none, none, some (.int x3), some (.int x4), some (.int x5), none, some (.int x7), some (.int y0)]) dc_RM_figures_140 rfl (Nat.le_of_ble_eq_true rfl) rfl ?_
  refine g_aload_n dc_RM_figures_142 rfl rfl rfl ?_
  refine g_get (C := "LevelBreaksModel") (T := T_RM) (N := 45) (k := 33) (v := .int (I 67 33)) sh_67 (by decide) rfl rfl i_RM (by decide) fl_RM_299 (Or.inl rfl) rfl dc_RM_figures_143 rfl ?_
  refine g_iload dc_RM_figures_146 rfl rfl ?_
  refine g_ic_ne (tgt := 162) dc_RM_figures_148 rfl (by decide) (fun c1 => ?_) (fun c1 => ?_)
  · refine g_iload dc_RM_figures_162 rfl rfl ?_
    refine g_iload_n dc_RM_figures_164 rfl rfl rfl ?_
    refine g_iload dc_RM_figures_165 rfl rfl ?_
    refine g_callS (M := m_RM_in) (As := [.int y0, .int x3, .int x4]) (rest := []) ok_RM_in st_RM_in ml_RM_112 rfl rfl (Nat.le_of_ble_eq_true rfl) dc_RM_figures_167 rfl rOk_fr (c_RM_in ?_)
    show Go G (fr G m_RM_figures (d + 1) P) 170 [some (.ref 67), none, none, some (.int x3), some (.int x4), some (.int x5), none, some (.int x7), some (.int y0)] [.int (f_RM_in y0 x3 x4)] I J
    refine g_if_ne (tgt := 179) dc_RM_figures_170 rfl (by decide) (fun c2 => ?_) (fun c2 => ?_)
    · refine g_weak [none, none, none, none, none, none, none, none, some (.int y0)] ⟨rfl, trivial⟩ ?_
      exact (k1 c1 c2)
    · refine g_aload_n dc_RM_figures_173 rfl rfl rfl ?_
      refine g_iload dc_RM_figures_174 rfl rfl ?_
      refine g_putI (C := "LevelBreaksModel") (T := T_RM) (N := 45) (k := 34) (ty := t_RM) sh_67 (by decide) rfl rfl i_RM p_RM n_RM (by decide) fl_RM_305 (Or.inl rfl) rfl (by decide) dc_RM_figures_176 rfl ?_
      refine g_weak [none, none, none, none, none, none, none, none, some (.int y0)] ⟨rfl, trivial⟩ ?_
      exact (k2 c1 c2)
  · refine g_aload_n dc_RM_figures_151 rfl rfl rfl ?_
    refine g_aload_n dc_RM_figures_152 rfl rfl rfl ?_
    refine g_get (C := "LevelBreaksModel") (T := T_RM) (N := 45) (k := 33) (v := .int (I 67 33)) sh_67 (by decide) rfl rfl i_RM (by decide) fl_RM_299 (Or.inl rfl) rfl dc_RM_figures_153 rfl ?_
    refine g_putI (C := "LevelBreaksModel") (T := T_RM) (N := 45) (k := 34) (ty := t_RM) sh_67 (by decide) rfl rfl i_RM p_RM n_RM (by decide) fl_RM_305 (Or.inl rfl) rfl (by decide) dc_RM_figures_156 rfl ?_
    refine g_goto (tgt := 179) dc_RM_figures_159 (by decide) ?_
    refine g_weak [none, none, none, none, none, none, none, none, some (.int y0)] ⟨rfl, trivial⟩ ?_
    exact (k3 c1)
theorem w_RM_figures_179 {G : GC} {d : Nat} {P : PT} {I : MI} {J : MJ} {x8 : Int32} (q1 : P (some (.int x8)) I J) : Go G (fr G m_RM_figures (d + 1) P) 179 [none, none, none, none, none, none, none, none, some (.int x8)] [] I J := by
  refine g_iload dc_RM_figures_179 rfl rfl ?_
  exact g_iret rfl dc_RM_figures_181 q1
theorem dc_RM_finds_0 : decode prog_14_method_30_code 0 = .ok (.aload_n 0, 1) := by decide +kernel
theorem dc_RM_finds_1 : decode prog_14_method_30_code 1 = .ok (.iload_n 1, 1) := by decide +kernel
theorem dc_RM_finds_2 : decode prog_14_method_30_code 2 = .ok (.iload 4, 2) := by decide +kernel
theorem dc_RM_finds_4 : decode prog_14_method_30_code 4 = .ok (.invokevirtual 148, 3) := by decide +kernel
theorem dc_RM_finds_7 : decode prog_14_method_30_code 7 = .ok (.aload_n 0, 1) := by decide +kernel
theorem dc_RM_finds_8 : decode prog_14_method_30_code 8 = .ok (.getfield 145, 3) := by decide +kernel
theorem dc_RM_finds_11 : decode prog_14_method_30_code 11 = .ok (.ifCond .eq 18, 3) := by decide +kernel
theorem dc_RM_finds_14 : decode prog_14_method_30_code 14 = .ok (.aload_n 0, 1) := by decide +kernel
theorem dc_RM_finds_15 : decode prog_14_method_30_code 15 = .ok (.getfield 145, 3) := by decide +kernel
theorem dc_RM_finds_18 : decode prog_14_method_30_code 18 = .ok (.iload_n 3, 1) := by decide +kernel
theorem dc_RM_finds_19 : decode prog_14_method_30_code 19 = .ok (.aload_n 0, 1) := by decide +kernel
theorem dc_RM_finds_20 : decode prog_14_method_30_code 20 = .ok (.getfield 26, 3) := by decide +kernel
theorem dc_RM_finds_23 : decode prog_14_method_30_code 23 = .ok (.iload_n 1, 1) := by decide +kernel
theorem dc_RM_finds_24 : decode prog_14_method_30_code 24 = .ok (.iaload, 1) := by decide +kernel
theorem dc_RM_finds_25 : decode prog_14_method_30_code 25 = .ok (.imul, 1) := by decide +kernel
theorem dc_RM_finds_26 : decode prog_14_method_30_code 26 = .ok (.if_icmp .ge 5, 3) := by decide +kernel
theorem dc_RM_finds_29 : decode prog_14_method_30_code 29 = .ok (.iconst 0, 1) := by decide +kernel
theorem dc_RM_finds_30 : decode prog_14_method_30_code 30 = .ok (.ireturn, 1) := by decide +kernel
theorem dc_RM_finds_31 : decode prog_14_method_30_code 31 = .ok (.aload_n 0, 1) := by decide +kernel
theorem dc_RM_finds_32 : decode prog_14_method_30_code 32 = .ok (.iload_n 2, 1) := by decide +kernel
theorem dc_RM_finds_33 : decode prog_14_method_30_code 33 = .ok (.invokevirtual 191, 3) := by decide +kernel
theorem dc_RM_finds_36 : decode prog_14_method_30_code 36 = .ok (.aload_n 0, 1) := by decide +kernel
theorem dc_RM_finds_37 : decode prog_14_method_30_code 37 = .ok (.iload_n 3, 1) := by decide +kernel
theorem dc_RM_finds_38 : decode prog_14_method_30_code 38 = .ok (.aload_n 0, 1) := by decide +kernel
theorem dc_RM_finds_39 : decode prog_14_method_30_code 39 = .ok (.getfield 26, 3) := by decide +kernel
theorem dc_RM_finds_42 : decode prog_14_method_30_code 42 = .ok (.iload_n 1, 1) := by decide +kernel
theorem dc_RM_finds_43 : decode prog_14_method_30_code 43 = .ok (.iaload, 1) := by decide +kernel
theorem dc_RM_finds_44 : decode prog_14_method_30_code 44 = .ok (.invokevirtual 211, 3) := by decide +kernel
theorem dc_RM_finds_47 : decode prog_14_method_30_code 47 = .ok (.aload_n 0, 1) := by decide +kernel
theorem dc_RM_finds_48 : decode prog_14_method_30_code 48 = .ok (.iload_n 3, 1) := by decide +kernel
theorem dc_RM_finds_49 : decode prog_14_method_30_code 49 = .ok (.aload_n 0, 1) := by decide +kernel
theorem dc_RM_finds_50 : decode prog_14_method_30_code 50 = .ok (.getfield 26, 3) := by decide +kernel
theorem dc_RM_finds_53 : decode prog_14_method_30_code 53 = .ok (.iload_n 1, 1) := by decide +kernel
theorem dc_RM_finds_54 : decode prog_14_method_30_code 54 = .ok (.iaload, 1) := by decide +kernel
theorem dc_RM_finds_55 : decode prog_14_method_30_code 55 = .ok (.invokevirtual 214, 3) := by decide +kernel
theorem dc_RM_finds_58 : decode prog_14_method_30_code 58 = .ok (.iconst 1, 1) := by decide +kernel
theorem dc_RM_finds_59 : decode prog_14_method_30_code 59 = .ok (.ireturn, 1) := by decide +kernel
theorem w_RM_finds_0 {G : GC} {d : Nat} {P : PT} {I : MI} {J : MJ} {x1 : Int32} {x2 : Int32} {x3 : Int32} {x4 : Int32} (k1 : Ct G (d + 3) m_RM_pointsBy [.ref 67, .int x1, .int x4] (fun r I' J' => Go G (fr G m_RM_finds (d + 4) P) 7 [some (.ref 67), some (.int x1), some (.int x2), some (.int x3), none] (r.toList ++ []) I' J') I J) : Go G (fr G m_RM_finds (d + 4) P) 0 [some (.ref 67), some (.int x1), some (.int x2), some (.int x3), some (.int x4)] [] I J := by
  refine g_aload_n dc_RM_finds_0 rfl rfl rfl ?_
  refine g_iload_n dc_RM_finds_1 rfl rfl rfl ?_
  refine g_iload dc_RM_finds_2 rfl rfl ?_
  refine g_weak [some (.ref 67), some (.int x1), some (.int x2), some (.int x3), none] ⟨rfl, ⟨rfl, ⟨rfl, ⟨rfl, trivial⟩⟩⟩⟩ ?_
  exact g_callV (T := T_RM) (N := 45) (As := [.int x1, .int x4]) (rest := []) ok_RM_pointsBy in_RM_pointsBy se_RM_pointsBy ml_RM_148 sh_67 (by decide) rfl rfl rfl (Nat.le_of_ble_eq_true rfl) dc_RM_finds_4 rfl rOk_fr k1
theorem w_RM_finds_7 {G : GC} {d : Nat} {P : PT} {I : MI} {J : MJ} {x1 : Int32} {x2 : Int32} {x3 : Int32} (k1 : ((I 67 7) = 0) → Go G (fr G m_RM_finds (d + 4) P) 29 [none, none, none, none, none] [] I J) (b2 : (¬ ((I 67 7) = 0)) → vp_in x1 4) (k3 : (¬ ((I 67 7) = 0)) → ((x3 * (I 72 x1.toNatClampNeg)) ≤ (I 67 7)) → Ct G (d + 3) m_RM_costs [.ref 67, .int x2] (fun r I' J' => Go G (fr G m_RM_finds (d + 4) P) 36 [some (.ref 67), some (.int x1), none, some (.int x3), none] (r.toList ++ []) I' J') I J) (k4 : (¬ ((I 67 7) = 0)) → (¬ ((x3 * (I 72 x1.toNatClampNeg)) ≤ (I 67 7))) → Go G (fr G m_RM_finds (d + 4) P) 29 [none, none, none, none, none] [] I J) : Go G (fr G m_RM_finds (d + 4) P) 7 [some (.ref 67), some (.int x1), some (.int x2), some (.int x3), none] [] I J := by
  refine g_aload_n dc_RM_finds_7 rfl rfl rfl ?_
  refine g_get (C := "LevelBreaksModel") (T := T_RM) (N := 45) (k := 7) (v := .int (I 67 7)) sh_67 (by decide) rfl rfl i_RM (by decide) fl_RM_145 (Or.inl rfl) rfl dc_RM_finds_8 rfl ?_
  refine g_if_eq (tgt := 29) dc_RM_finds_11 rfl (by decide) (fun c1 => ?_) (fun c1 => ?_)
  · refine g_weak [none, none, none, none, none] trivial ?_
    exact (k1 c1)
  · refine g_aload_n dc_RM_finds_14 rfl rfl rfl ?_
    refine g_get (C := "LevelBreaksModel") (T := T_RM) (N := 45) (k := 7) (v := .int (I 67 7)) sh_67 (by decide) rfl rfl i_RM (by decide) fl_RM_145 (Or.inl rfl) rfl dc_RM_finds_15 rfl ?_
    refine g_iload_n dc_RM_finds_18 rfl rfl rfl ?_
    refine g_aload_n dc_RM_finds_19 rfl rfl rfl ?_
    refine g_get (C := "LevelBreaksModel") (T := T_RM) (N := 45) (k := 6) (v := .ref 72) sh_67 (by decide) rfl rfl i_RM (by decide) fl_RM_26 (Or.inl rfl) rfl dc_RM_finds_20 rfl ?_
    refine g_iload_n dc_RM_finds_23 rfl rfl rfl ?_
    refine g_ialdv (v := (I 72 x1.toNatClampNeg)) sh_72 (b2 c1) rfl dc_RM_finds_24 rfl ?_
    refine g_imul dc_RM_finds_25 rfl ?_
    refine g_ic_ge (tgt := 31) dc_RM_finds_26 rfl (by decide) (fun c2 => ?_) (fun c2 => ?_)
    · refine g_aload_n dc_RM_finds_31 rfl rfl rfl ?_
      refine g_iload_n dc_RM_finds_32 rfl rfl rfl ?_
      refine g_weak [some (.ref 67), some (.int x1), none, some (.int x3), none] ⟨rfl, ⟨rfl, ⟨rfl, trivial⟩⟩⟩ ?_
      exact g_callV (T := T_RM) (N := 45) (As := [.int x2]) (rest := []) ok_RM_costs in_RM_costs se_RM_costs ml_RM_191 sh_67 (by decide) rfl rfl rfl (Nat.le_of_ble_eq_true rfl) dc_RM_finds_33 rfl rOk_fr (k3 c1 c2)
    · refine g_weak [none, none, none, none, none] trivial ?_
      exact (k4 c1 c2)
theorem w_RM_finds_29 {G : GC} {d : Nat} {P : PT} {I : MI} {J : MJ}  (q1 : P (some (.int 0)) I J) : Go G (fr G m_RM_finds (d + 4) P) 29 [none, none, none, none, none] [] I J := by
  refine g_iconst (v := 0) dc_RM_finds_29 rfl (by decide) ?_
  exact g_zret rfl (by decide) dc_RM_finds_30 q1
theorem w_RM_finds_36 {G : GC} {d : Nat} {P : PT} {I : MI} {J : MJ} {x1 : Int32} {x3 : Int32} (b1 : vp_in x1 4) (k2 : Ct G (d + 3) m_RM_cuts [.ref 67, .int x3, .int (I 72 x1.toNatClampNeg)] (fun r I' J' => Go G (fr G m_RM_finds (d + 4) P) 47 [some (.ref 67), some (.int x1), none, some (.int x3), none] (r.toList ++ []) I' J') I J) : Go G (fr G m_RM_finds (d + 4) P) 36 [some (.ref 67), some (.int x1), none, some (.int x3), none] [] I J := by
  refine g_aload_n dc_RM_finds_36 rfl rfl rfl ?_
  refine g_iload_n dc_RM_finds_37 rfl rfl rfl ?_
  refine g_aload_n dc_RM_finds_38 rfl rfl rfl ?_
  refine g_get (C := "LevelBreaksModel") (T := T_RM) (N := 45) (k := 6) (v := .ref 72) sh_67 (by decide) rfl rfl i_RM (by decide) fl_RM_26 (Or.inl rfl) rfl dc_RM_finds_39 rfl ?_
  refine g_iload_n dc_RM_finds_42 rfl rfl rfl ?_
  refine g_ialdv (v := (I 72 x1.toNatClampNeg)) sh_72 b1 rfl dc_RM_finds_43 rfl ?_
  exact g_callV (T := T_RM) (N := 45) (As := [.int x3, .int (I 72 x1.toNatClampNeg)]) (rest := []) ok_RM_cuts in_RM_cuts se_RM_cuts ml_RM_211 sh_67 (by decide) rfl rfl rfl (Nat.le_of_ble_eq_true rfl) dc_RM_finds_44 rfl rOk_fr k2
theorem w_RM_finds_47 {G : GC} {d : Nat} {P : PT} {I : MI} {J : MJ} {x1 : Int32} {x3 : Int32} (b1 : vp_in x1 4) (k2 : Ct G (d + 3) m_RM_follows [.ref 67, .int x3, .int (I 72 x1.toNatClampNeg)] (fun r I' J' => Go G (fr G m_RM_finds (d + 4) P) 58 [none, none, none, none, none] (r.toList ++ []) I' J') I J) : Go G (fr G m_RM_finds (d + 4) P) 47 [some (.ref 67), some (.int x1), none, some (.int x3), none] [] I J := by
  refine g_aload_n dc_RM_finds_47 rfl rfl rfl ?_
  refine g_iload_n dc_RM_finds_48 rfl rfl rfl ?_
  refine g_aload_n dc_RM_finds_49 rfl rfl rfl ?_
  refine g_get (C := "LevelBreaksModel") (T := T_RM) (N := 45) (k := 6) (v := .ref 72) sh_67 (by decide) rfl rfl i_RM (by decide) fl_RM_26 (Or.inl rfl) rfl dc_RM_finds_50 rfl ?_
  refine g_iload_n dc_RM_finds_53 rfl rfl rfl ?_
  refine g_ialdv (v := (I 72 x1.toNatClampNeg)) sh_72 b1 rfl dc_RM_finds_54 rfl ?_
  refine g_weak [none, none, none, none, none] trivial ?_
  exact g_callV (T := T_RM) (N := 45) (As := [.int x3, .int (I 72 x1.toNatClampNeg)]) (rest := []) ok_RM_follows in_RM_follows se_RM_follows ml_RM_214 sh_67 (by decide) rfl rfl rfl (Nat.le_of_ble_eq_true rfl) dc_RM_finds_55 rfl rOk_fr k2
theorem w_RM_finds_58 {G : GC} {d : Nat} {P : PT} {I : MI} {J : MJ}  (q1 : P (some (.int 1)) I J) : Go G (fr G m_RM_finds (d + 4) P) 58 [none, none, none, none, none] [] I J := by
  refine g_iconst (v := 1) dc_RM_finds_58 rfl (by decide) ?_
  exact g_zret rfl (by decide) dc_RM_finds_59 q1
theorem dc_RM_firstFrom_0 : decode prog_14_method_58_code 0 = .ok (.iload_n 1, 1) := by decide +kernel
theorem dc_RM_firstFrom_1 : decode prog_14_method_58_code 1 = .ok (.istore_n 2, 1) := by decide +kernel
theorem dc_RM_firstFrom_2 : decode prog_14_method_58_code 2 = .ok (.iload_n 2, 1) := by decide +kernel
theorem dc_RM_firstFrom_3 : decode prog_14_method_58_code 3 = .ok (.bipush 40, 2) := by decide +kernel
theorem dc_RM_firstFrom_5 : decode prog_14_method_58_code 5 = .ok (.if_icmp .ge 18, 3) := by decide +kernel
theorem dc_RM_firstFrom_8 : decode prog_14_method_58_code 8 = .ok (.aload_n 0, 1) := by decide +kernel
theorem dc_RM_firstFrom_9 : decode prog_14_method_58_code 9 = .ok (.getfield 81, 3) := by decide +kernel
theorem dc_RM_firstFrom_12 : decode prog_14_method_58_code 12 = .ok (.iload_n 2, 1) := by decide +kernel
theorem dc_RM_firstFrom_13 : decode prog_14_method_58_code 13 = .ok (.baload, 1) := by decide +kernel
theorem dc_RM_firstFrom_14 : decode prog_14_method_58_code 14 = .ok (.ifCond .ne 9, 3) := by decide +kernel
theorem dc_RM_firstFrom_17 : decode prog_14_method_58_code 17 = .ok (.iinc 2 1, 3) := by decide +kernel
theorem dc_RM_firstFrom_20 : decode prog_14_method_58_code 20 = .ok (.goto (-18), 3) := by decide +kernel
theorem dc_RM_firstFrom_23 : decode prog_14_method_58_code 23 = .ok (.iload_n 2, 1) := by decide +kernel
theorem dc_RM_firstFrom_24 : decode prog_14_method_58_code 24 = .ok (.bipush 40, 2) := by decide +kernel
theorem dc_RM_firstFrom_26 : decode prog_14_method_58_code 26 = .ok (.if_icmp .ne 7, 3) := by decide +kernel
theorem dc_RM_firstFrom_29 : decode prog_14_method_58_code 29 = .ok (.iconst (-1), 1) := by decide +kernel
theorem dc_RM_firstFrom_30 : decode prog_14_method_58_code 30 = .ok (.goto 4, 3) := by decide +kernel
theorem dc_RM_firstFrom_33 : decode prog_14_method_58_code 33 = .ok (.iload_n 2, 1) := by decide +kernel
theorem dc_RM_firstFrom_34 : decode prog_14_method_58_code 34 = .ok (.ireturn, 1) := by decide +kernel
theorem w_RM_firstFrom_0 {G : GC} {d : Nat} {P : PT} {I : MI} {J : MJ} {x1 : Int32} (k1 : Go G (fr G m_RM_firstFrom d P) 2 [some (.ref 67), none, some (.int x1)] [] I J) : Go G (fr G m_RM_firstFrom d P) 0 [some (.ref 67), some (.int x1), none] [] I J := by
  refine g_iload_n dc_RM_firstFrom_0 rfl rfl rfl ?_
  refine g_istore_n (L' := [some (.ref 67), some (.int x1), some (.int x1)]) dc_RM_firstFrom_1 rfl rfl (Nat.le_of_ble_eq_true rfl) rfl ?_
  refine g_weak [some (.ref 67), none, some (.int x1)] ⟨rfl, ⟨rfl, trivial⟩⟩ ?_
  exact k1
theorem w_RM_firstFrom_2 {G : GC} {d : Nat} {P : PT} {I : MI} {J : MJ} {x2 : Int32} (k1 : (40 ≤ x2) → Go G (fr G m_RM_firstFrom d P) 23 [none, none, some (.int x2)] [] I J) (b2 : (¬ (40 ≤ x2)) → vp_in x2 40) (k3 : (¬ (40 ≤ x2)) → (¬ (I 90 x2.toNatClampNeg) = 0) → Go G (fr G m_RM_firstFrom d P) 23 [none, none, some (.int x2)] [] I J) (k4 : (¬ (40 ≤ x2)) → ((I 90 x2.toNatClampNeg) = 0) → Go G (fr G m_RM_firstFrom d P) 2 [some (.ref 67), none, some (.int (x2 + 1))] [] I J) : Go G (fr G m_RM_firstFrom d P) 2 [some (.ref 67), none, some (.int x2)] [] I J := by
  refine g_iload_n dc_RM_firstFrom_2 rfl rfl rfl ?_
  refine g_bipush (v := 40) dc_RM_firstFrom_3 rfl (by decide) ?_
  refine g_ic_ge (tgt := 23) dc_RM_firstFrom_5 rfl (by decide) (fun c1 => ?_) (fun c1 => ?_)
  · refine g_weak [none, none, some (.int x2)] ⟨rfl, trivial⟩ ?_
    exact (k1 c1)
  · refine g_aload_n dc_RM_firstFrom_8 rfl rfl rfl ?_
    refine g_get (C := "LevelBreaksModel") (T := T_RM) (N := 45) (k := 30) (v := .ref 90) sh_67 (by decide) rfl rfl i_RM (by decide) fl_RM_81 (Or.inl rfl) rfl dc_RM_firstFrom_9 rfl ?_
    refine g_iload_n dc_RM_firstFrom_12 rfl rfl rfl ?_
    refine g_zaldv (v := (I 90 x2.toNatClampNeg)) sh_90 (b2 c1) rfl dc_RM_firstFrom_13 rfl ?_
    refine g_if_ne (tgt := 23) dc_RM_firstFrom_14 rfl (by decide) (fun c2 => ?_) (fun c2 => ?_)
    · refine g_weak [none, none, some (.int x2)] ⟨rfl, trivial⟩ ?_
      exact (k3 c1 c2)
    · refine g_iinc (v := (x2 + 1)) (L' := [some (.ref 67), none, some (.int (x2 + 1))]) dc_RM_firstFrom_17 rfl rfl (by rw [show Int32.ofInt 1 = 1 from by decide]) (Nat.le_of_ble_eq_true rfl) rfl ?_
      refine g_goto (tgt := 2) dc_RM_firstFrom_20 (by decide) ?_
      exact (k4 c1 c2)
theorem w_RM_firstFrom_23 {G : GC} {d : Nat} {P : PT} {I : MI} {J : MJ} {x2 : Int32} (q1 : (¬ x2 = 40) → P (some (.int x2)) I J) (q2 : (x2 = 40) → P (some (.int (-1))) I J) : Go G (fr G m_RM_firstFrom d P) 23 [none, none, some (.int x2)] [] I J := by
  refine g_iload_n dc_RM_firstFrom_23 rfl rfl rfl ?_
  refine g_bipush (v := 40) dc_RM_firstFrom_24 rfl (by decide) ?_
  refine g_ic_ne (tgt := 33) dc_RM_firstFrom_26 rfl (by decide) (fun c1 => ?_) (fun c1 => ?_)
  · refine g_iload_n dc_RM_firstFrom_33 rfl rfl rfl ?_
    exact g_iret rfl dc_RM_firstFrom_34 (q1 c1)
  · refine g_iconst (v := (-1)) dc_RM_firstFrom_29 rfl (by decide) ?_
    refine g_goto (tgt := 34) dc_RM_firstFrom_30 (by decide) ?_
    exact g_iret rfl dc_RM_firstFrom_34 (q2 c1)
