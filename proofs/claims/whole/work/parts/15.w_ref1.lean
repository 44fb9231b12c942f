theorem dc_RM_adds_0 : decode prog_14_method_26_code 0 = .ok (.aload_n 0, 1) := by decide +kernel
theorem dc_RM_adds_1 : decode prog_14_method_26_code 1 = .ok (.getfield 45, 3) := by decide +kernel
theorem dc_RM_adds_4 : decode prog_14_method_26_code 4 = .ok (.iload_n 1, 1) := by decide +kernel
theorem dc_RM_adds_5 : decode prog_14_method_26_code 5 = .ok (.laload, 1) := by decide +kernel
theorem dc_RM_adds_6 : decode prog_14_method_26_code 6 = .ok (.aload_n 0, 1) := by decide +kernel
theorem dc_RM_adds_7 : decode prog_14_method_26_code 7 = .ok (.getfield 57, 3) := by decide +kernel
theorem dc_RM_adds_10 : decode prog_14_method_26_code 10 = .ok (.iload_n 2, 1) := by decide +kernel
theorem dc_RM_adds_11 : decode prog_14_method_26_code 11 = .ok (.laload, 1) := by decide +kernel
theorem dc_RM_adds_12 : decode prog_14_method_26_code 12 = .ok (.invokestatic 157, 3) := by decide +kernel
theorem dc_RM_adds_15 : decode prog_14_method_26_code 15 = .ok (.lstore_n 3, 1) := by decide +kernel
theorem dc_RM_adds_16 : decode prog_14_method_26_code 16 = .ok (.aload_n 0, 1) := by decide +kernel
theorem dc_RM_adds_17 : decode prog_14_method_26_code 17 = .ok (.getfield 45, 3) := by decide +kernel
theorem dc_RM_adds_20 : decode prog_14_method_26_code 20 = .ok (.iload_n 1, 1) := by decide +kernel
theorem dc_RM_adds_21 : decode prog_14_method_26_code 21 = .ok (.laload, 1) := by decide +kernel
theorem dc_RM_adds_22 : decode prog_14_method_26_code 22 = .ok (.lload_n 3, 1) := by decide +kernel
theorem dc_RM_adds_23 : decode prog_14_method_26_code 23 = .ok (.ldiv, 1) := by decide +kernel
theorem dc_RM_adds_24 : decode prog_14_method_26_code 24 = .ok (.aload_n 0, 1) := by decide +kernel
theorem dc_RM_adds_25 : decode prog_14_method_26_code 25 = .ok (.getfield 57, 3) := by decide +kernel
theorem dc_RM_adds_28 : decode prog_14_method_26_code 28 = .ok (.iload_n 2, 1) := by decide +kernel
theorem dc_RM_adds_29 : decode prog_14_method_26_code 29 = .ok (.laload, 1) := by decide +kernel
theorem dc_RM_adds_30 : decode prog_14_method_26_code 30 = .ok (.lmul, 1) := by decide +kernel
theorem dc_RM_adds_31 : decode prog_14_method_26_code 31 = .ok (.lstore 5, 2) := by decide +kernel
theorem dc_RM_adds_33 : decode prog_14_method_26_code 33 = .ok (.aload_n 0, 1) := by decide +kernel
theorem dc_RM_adds_34 : decode prog_14_method_26_code 34 = .ok (.getfield 42, 3) := by decide +kernel
theorem dc_RM_adds_37 : decode prog_14_method_26_code 37 = .ok (.iload_n 1, 1) := by decide +kernel
theorem dc_RM_adds_38 : decode prog_14_method_26_code 38 = .ok (.laload, 1) := by decide +kernel
theorem dc_RM_adds_39 : decode prog_14_method_26_code 39 = .ok (.aload_n 0, 1) := by decide +kernel
theorem dc_RM_adds_40 : decode prog_14_method_26_code 40 = .ok (.getfield 57, 3) := by decide +kernel
theorem dc_RM_adds_43 : decode prog_14_method_26_code 43 = .ok (.iload_n 2, 1) := by decide +kernel
theorem dc_RM_adds_44 : decode prog_14_method_26_code 44 = .ok (.laload, 1) := by decide +kernel
theorem dc_RM_adds_45 : decode prog_14_method_26_code 45 = .ok (.lload_n 3, 1) := by decide +kernel
theorem dc_RM_adds_46 : decode prog_14_method_26_code 46 = .ok (.ldiv, 1) := by decide +kernel
theorem dc_RM_adds_47 : decode prog_14_method_26_code 47 = .ok (.lmul, 1) := by decide +kernel
theorem dc_RM_adds_48 : decode prog_14_method_26_code 48 = .ok (.aload_n 0, 1) := by decide +kernel
theorem dc_RM_adds_49 : decode prog_14_method_26_code 49 = .ok (.getfield 54, 3) := by decide +kernel
theorem dc_RM_adds_52 : decode prog_14_method_26_code 52 = .ok (.iload_n 2, 1) := by decide +kernel
theorem dc_RM_adds_53 : decode prog_14_method_26_code 53 = .ok (.laload, 1) := by decide +kernel
theorem dc_RM_adds_54 : decode prog_14_method_26_code 54 = .ok (.aload_n 0, 1) := by decide +kernel
theorem dc_RM_adds_55 : decode prog_14_method_26_code 55 = .ok (.getfield 45, 3) := by decide +kernel
theorem dc_RM_adds_58 : decode prog_14_method_26_code 58 = .ok (.iload_n 1, 1) := by decide +kernel
theorem dc_RM_adds_59 : decode prog_14_method_26_code 59 = .ok (.laload, 1) := by decide +kernel
theorem dc_RM_adds_60 : decode prog_14_method_26_code 60 = .ok (.lload_n 3, 1) := by decide +kernel
theorem dc_RM_adds_61 : decode prog_14_method_26_code 61 = .ok (.ldiv, 1) := by decide +kernel
theorem dc_RM_adds_62 : decode prog_14_method_26_code 62 = .ok (.lmul, 1) := by decide +kernel
theorem dc_RM_adds_63 : decode prog_14_method_26_code 63 = .ok (.ladd, 1) := by decide +kernel
theorem dc_RM_adds_64 : decode prog_14_method_26_code 64 = .ok (.lstore 7, 2) := by decide +kernel
theorem dc_RM_adds_66 : decode prog_14_method_26_code 66 = .ok (.aload_n 0, 1) := by decide +kernel
theorem dc_RM_adds_67 : decode prog_14_method_26_code 67 = .ok (.aload_n 0, 1) := by decide +kernel
theorem dc_RM_adds_68 : decode prog_14_method_26_code 68 = .ok (.getfield 38, 3) := by decide +kernel
theorem dc_RM_adds_71 : decode prog_14_method_26_code 71 = .ok (.iload_n 1, 1) := by decide +kernel
theorem dc_RM_adds_72 : decode prog_14_method_26_code 72 = .ok (.laload, 1) := by decide +kernel
theorem dc_RM_adds_73 : decode prog_14_method_26_code 73 = .ok (.aload_n 0, 1) := by decide +kernel
theorem dc_RM_adds_74 : decode prog_14_method_26_code 74 = .ok (.getfield 51, 3) := by decide +kernel
theorem dc_RM_adds_77 : decode prog_14_method_26_code 77 = .ok (.iload_n 2, 1) := by decide +kernel
theorem dc_RM_adds_78 : decode prog_14_method_26_code 78 = .ok (.laload, 1) := by decide +kernel
theorem dc_RM_adds_79 : decode prog_14_method_26_code 79 = .ok (.ladd, 1) := by decide +kernel
theorem dc_RM_adds_80 : decode prog_14_method_26_code 80 = .ok (.lload 7, 2) := by decide +kernel
theorem dc_RM_adds_82 : decode prog_14_method_26_code 82 = .ok (.lload 5, 2) := by decide +kernel
theorem dc_RM_adds_84 : decode prog_14_method_26_code 84 = .ok (.ldiv, 1) := by decide +kernel
theorem dc_RM_adds_85 : decode prog_14_method_26_code 85 = .ok (.ladd, 1) := by decide +kernel
theorem dc_RM_adds_86 : decode prog_14_method_26_code 86 = .ok (.putfield 195, 3) := by decide +kernel
theorem dc_RM_adds_89 : decode prog_14_method_26_code 89 = .ok (.lload 7, 2) := by decide +kernel
theorem dc_RM_adds_91 : decode prog_14_method_26_code 91 = .ok (.lload 5, 2) := by decide +kernel
theorem dc_RM_adds_93 : decode prog_14_method_26_code 93 = .ok (.lrem, 1) := by decide +kernel
theorem dc_RM_adds_94 : decode prog_14_method_26_code 94 = .ok (.lstore 9, 2) := by decide +kernel
theorem dc_RM_adds_96 : decode prog_14_method_26_code 96 = .ok (.lload 9, 2) := by decide +kernel
theorem dc_RM_adds_98 : decode prog_14_method_26_code 98 = .ok (.lload 5, 2) := by decide +kernel
theorem dc_RM_adds_100 : decode prog_14_method_26_code 100 = .ok (.invokestatic 157, 3) := by decide +kernel
theorem dc_RM_adds_103 : decode prog_14_method_26_code 103 = .ok (.lstore 11, 2) := by decide +kernel
theorem dc_RM_adds_105 : decode prog_14_method_26_code 105 = .ok (.aload_n 0, 1) := by decide +kernel
theorem dc_RM_adds_106 : decode prog_14_method_26_code 106 = .ok (.lload 9, 2) := by decide +kernel
theorem dc_RM_adds_108 : decode prog_14_method_26_code 108 = .ok (.lload 11, 2) := by decide +kernel
theorem dc_RM_adds_110 : decode prog_14_method_26_code 110 = .ok (.ldiv, 1) := by decide +kernel
theorem dc_RM_adds_111 : decode prog_14_method_26_code 111 = .ok (.putfield 199, 3) := by decide +kernel
theorem dc_RM_adds_114 : decode prog_14_method_26_code 114 = .ok (.aload_n 0, 1) := by decide +kernel
theorem dc_RM_adds_115 : decode prog_14_method_26_code 115 = .ok (.lload 5, 2) := by decide +kernel
theorem dc_RM_adds_117 : decode prog_14_method_26_code 117 = .ok (.lload 11, 2) := by decide +kernel
theorem dc_RM_adds_119 : decode prog_14_method_26_code 119 = .ok (.ldiv, 1) := by decide +kernel
theorem dc_RM_adds_120 : decode prog_14_method_26_code 120 = .ok (.putfield 202, 3) := by decide +kernel
theorem dc_RM_adds_123 : decode prog_14_method_26_code 123 = .ok (.return_, 1) := by decide +kernel
theorem w_RM_adds_0 {G : GC} {d : Nat} {P : PT} {I : MI} {J : MJ} {x1 : Int32} {x2 : Int32} (b1 : vp_in x1 1600) (b2 : vp_in x2 287) (k3 : Ct G d m_RM_divisor [.long (J 78 x1.toNatClampNeg), .long (J 82 x2.toNatClampNeg)] (fun r I' J' => Go G (fr G m_RM_adds (d + 1) P) 15 [some (.ref 67), some (.int x1), some (.int x2), none, none, none, none, none, none, none, none, none, none] (r.toList ++ []) I' J') I J) : Go G (fr G m_RM_adds (d + 1) P) 0 [some (.ref 67), some (.int x1), some (.int x2), none, none, none, none, none, none, none, none, none, none] [] I J := by
  refine g_aload_n dc_RM_adds_0 rfl rfl rfl ?_
  refine g_get (C := "LevelBreaksModel") (T := T_RM) (N := 45) (k := 13) (v := .ref 78) sh_67 (by decide) rfl rfl i_RM (by decide) fl_RM_45 (Or.inl rfl) rfl dc_RM_adds_1 rfl ?_
  refine g_iload_n dc_RM_adds_4 rfl rfl rfl ?_
  refine g_laldv (v := (J 78 x1.toNatClampNeg)) sh_78 b1 rfl dc_RM_adds_5 rfl ?_
  refine g_aload_n dc_RM_adds_6 rfl rfl rfl ?_
  refine g_get (C := "LevelBreaksModel") (T := T_RM) (N := 45) (k := 17) (v := .ref 82) sh_67 (by decide) rfl rfl i_RM (by decide) fl_RM_57 (Or.inl rfl) rfl dc_RM_adds_7 rfl ?_
  refine g_iload_n dc_RM_adds_10 rfl rfl rfl ?_
  refine g_laldv (v := (J 82 x2.toNatClampNeg)) sh_82 b2 rfl dc_RM_adds_11 rfl ?_
  exact g_callS (As := [.long (J 78 x1.toNatClampNeg), .long (J 82 x2.toNatClampNeg)]) (rest := []) ok_RM_divisor st_RM_divisor ml_RM_157 rfl rfl (Nat.le_of_ble_eq_true rfl) dc_RM_adds_12 rfl rOk_fr k3
theorem w_RM_adds_15 {G : GC} {d : Nat} {P : PT} {I : MI} {J : MJ} {x1 : Int32} {x2 : Int32} {s0 : Int64} (b1 : vp_in x1 1600) (z2 : ¬ s0 = 0) (b3 : vp_in x2 287) (z4 : ¬ (((J 78 x1.toNatClampNeg) / s0) * (J 82 x2.toNatClampNeg)) = 0) (k5 : Ct G d m_RM_divisor [.long ((((J 77 x1.toNatClampNeg) * ((J 82 x2.toNatClampNeg) / s0)) + ((J 81 x2.toNatClampNeg) * ((J 78 x1.toNatClampNeg) / s0))) - (((J 77 x1.toNatClampNeg) * ((J 82 x2.toNatClampNeg) / s0)) + ((J 81 x2.toNatClampNeg) * ((J 78 x1.toNatClampNeg) / s0))) / (((J 78 x1.toNatClampNeg) / s0) * (J 82 x2.toNatClampNeg)) * (((J 78 x1.toNatClampNeg) / s0) * (J 82 x2.toNatClampNeg))), .long (((J 78 x1.toNatClampNeg) / s0) * (J 82 x2.toNatClampNeg))] (fun r I' J' => Go G (fr G m_RM_adds (d + 1) P) 103 [some (.ref 67), none, none, none, none, some (.long (((J 78 x1.toNatClampNeg) / s0) * (J 82 x2.toNatClampNeg))), none, none, none, some (.long ((((J 77 x1.toNatClampNeg) * ((J 82 x2.toNatClampNeg) / s0)) + ((J 81 x2.toNatClampNeg) * ((J 78 x1.toNatClampNeg) / s0))) - (((J 77 x1.toNatClampNeg) * ((J 82 x2.toNatClampNeg) / s0)) + ((J 81 x2.toNatClampNeg) * ((J 78 x1.toNatClampNeg) / s0))) / (((J 78 x1.toNatClampNeg) / s0) * (J 82 x2.toNatClampNeg)) * (((J 78 x1.toNatClampNeg) / s0) * (J 82 x2.toNatClampNeg)))), none, none, none] (r.toList ++ []) I' J') I (u2 J 67 18 (((J 76 x1.toNatClampNeg) + (J 80 x2.toNatClampNeg)) + ((((J 77 x1.toNatClampNeg) * ((J 82 x2.toNatClampNeg) / s0)) + ((J 81 x2.toNatClampNeg) * ((J 78 x1.toNatClampNeg) / s0))) / (((J 78 x1.toNatClampNeg) / s0) * (J 82 x2.toNatClampNeg)))))) : Go G (fr G m_RM_adds (d + 1) P) 15 [some (.ref 67), some (.int x1), some (.int x2), none, none, none, none, none, none, none, none, none, none] [.long s0] I J := by
  refine g_lstore_n (L' := [some (.ref 67), some (.int x1), some (.int x2), some (.long s0), none, none, none, none, none, none, none, none, none]) dc_RM_adds_15 rfl rfl (Nat.le_of_ble_eq_true rfl) rfl ?_
  refine g_aload_n dc_RM_adds_16 rfl rfl rfl ?_
  refine g_get (C := "LevelBreaksModel") (T := T_RM) (N := 45) (k := 13) (v := .ref 78) sh_67 (by decide) rfl rfl i_RM (by decide) fl_RM_45 (Or.inl rfl) rfl dc_RM_adds_17 rfl ?_
  refine g_iload_n dc_RM_adds_20 rfl rfl rfl ?_
  refine g_laldv (v := (J 78 x1.toNatClampNeg)) sh_78 b1 rfl dc_RM_adds_21 rfl ?_
  refine g_lload_n dc_RM_adds_22 rfl rfl rfl ?_
  refine g_ldiv dc_RM_adds_23 rfl z2 ?_
  refine g_aload_n dc_RM_adds_24 rfl rfl rfl ?_
  refine g_get (C := "LevelBreaksModel") (T := T_RM) (N := 45) (k := 17) (v := .ref 82) sh_67 (by decide) rfl rfl i_RM (by decide) fl_RM_57 (Or.inl rfl) rfl dc_RM_adds_25 rfl ?_
  refine g_iload_n dc_RM_adds_28 rfl rfl rfl ?_
  refine g_laldv (v := (J 82 x2.toNatClampNeg)) sh_82 b3 rfl dc_RM_adds_29 rfl ?_
  refine g_lmul dc_RM_adds_30 rfl ?_
  refine g_lstore (L' := [some (.ref 67), some (.int x1), some (.int x2), some (.long s0), none, some (.long (((J 78 x1.toNatClampNeg) / s0) * (J 82 x2.toNatClampNeg))), none, none, none, none, none, none, none]) dc_RM_adds_31 rfl (Nat.le_of_ble_eq_true rfl) rfl ?_
  refine g_aload_n dc_RM_adds_33 rfl rfl rfl ?_
  refine g_get (C := "LevelBreaksModel") (T := T_RM) (N := 45) (k := 12) (v := .ref 77) sh_67 (by decide) rfl rfl i_RM (by decide) fl_RM_42 (Or.inl rfl) rfl dc_RM_adds_34 rfl ?_
  refine g_iload_n dc_RM_adds_37 rfl rfl rfl ?_
  refine g_laldv (v := (J 77 x1.toNatClampNeg)) sh_77 b1 rfl dc_RM_adds_38 rfl ?_
  refine g_aload_n dc_RM_adds_39 rfl rfl rfl ?_
  refine g_get (C := "LevelBreaksModel") (T := T_RM) (N := 45) (k := 17) (v := .ref 82) sh_67 (by decide) rfl rfl i_RM (by decide) fl_RM_57 (Or.inl rfl) rfl dc_RM_adds_40 rfl ?_
  refine g_iload_n dc_RM_adds_43 rfl rfl rfl ?_
  refine g_laldv (v := (J 82 x2.toNatClampNeg)) sh_82 b3 rfl dc_RM_adds_44 rfl ?_
  refine g_lload_n dc_RM_adds_45 rfl rfl rfl ?_
  refine g_ldiv dc_RM_adds_46 rfl z2 ?_
  refine g_lmul dc_RM_adds_47 rfl ?_
  refine g_aload_n dc_RM_adds_48 rfl rfl rfl ?_
  refine g_get (C := "LevelBreaksModel") (T := T_RM) (N := 45) (k := 16) (v := .ref 81) sh_67 (by decide) rfl rfl i_RM (by decide) fl_RM_54 (Or.inl rfl) rfl dc_RM_adds_49 rfl ?_
  refine g_iload_n dc_RM_adds_52 rfl rfl rfl ?_
  refine g_laldv (v := (J 81 x2.toNatClampNeg)) sh_81 b3 rfl dc_RM_adds_53 rfl ?_
  refine g_aload_n dc_RM_adds_54 rfl rfl rfl ?_
  refine g_get (C := "LevelBreaksModel") (T := T_RM) (N := 45) (k := 13) (v := .ref 78) sh_67 (by decide) rfl rfl i_RM (by decide) fl_RM_45 (Or.inl rfl) rfl dc_RM_adds_55 rfl ?_
  refine g_iload_n dc_RM_adds_58 rfl rfl rfl ?_
  refine g_laldv (v := (J 78 x1.toNatClampNeg)) sh_78 b1 rfl dc_RM_adds_59 rfl ?_
  refine g_lload_n dc_RM_adds_60 rfl rfl rfl ?_
  refine g_ldiv dc_RM_adds_61 rfl z2 ?_
  refine g_lmul dc_RM_adds_62 rfl ?_
  refine g_ladd dc_RM_adds_63 rfl ?_
  refine g_lstore (L' := [some (.ref 67), some (.int x1), some (.int x2), some (.long s0), none, some (.long (((J 78 x1.toNatClampNeg) / s0) * (J 82 x2.toNatClampNeg))), none, some (.long (((J 77 x1.toNatClampNeg) * ((J 82 x2.toNatClampNeg) / s0)) + ((J 81 x2.toNatClampNeg) * ((J 78 x1.toNatClampNeg) / s0)))), none, none, none, none, none]) dc_RM_adds_64 rfl (Nat.le_of_ble_eq_true rfl) rfl ?_
  refine g_aload_n dc_RM_adds_66 rfl rfl rfl ?_
  refine g_aload_n dc_RM_adds_67 rfl rfl rfl ?_
  refine g_get (C := "LevelBreaksModel") (T := T_RM) (N := 45) (k := 11) (v := .ref 76) sh_67 (by decide) rfl rfl i_RM (by decide) fl_RM_38 (Or.inl rfl) rfl dc_RM_adds_68 rfl ?_
  refine g_iload_n dc_RM_adds_71 rfl rfl rfl ?_
  refine g_laldv (v := (J 76 x1.toNatClampNeg)) sh_76 b1 rfl dc_RM_adds_72 rfl ?_
  refine g_aload_n dc_RM_adds_73 rfl rfl rfl ?_
  refine g_get (C := "LevelBreaksModel") (T := T_RM) (N := 45) (k := 15) (v := .ref 80) sh_67 (by decide) rfl rfl i_RM (by decide) fl_RM_51 (Or.inl rfl) rfl dc_RM_adds_74 rfl ?_
  refine g_iload_n dc_RM_adds_77 rfl rfl rfl ?_
  refine g_laldv (v := (J 80 x2.toNatClampNeg)) sh_80 b3 rfl dc_RM_adds_78 rfl ?_
  refine g_ladd dc_RM_adds_79 rfl ?_
  refine g_lload dc_RM_adds_80 rfl rfl ?_
  refine g_lload dc_RM_adds_82 rfl rfl ?_
  refine g_ldiv dc_RM_adds_84 rfl z4 ?_
  refine g_ladd dc_RM_adds_85 rfl ?_
  refine g_putJ (C := "LevelBreaksModel") (T := T_RM) (N := 45) (k := 18) (ty := t_RM) sh_67 (by decide) rfl rfl i_RM p_RM n_RM (by decide) fl_RM_195 (Or.inl rfl) rfl (by decide) dc_RM_adds_86 rfl ?_
  refine g_lload dc_RM_adds_89 rfl rfl ?_
  refine g_lload dc_RM_adds_91 rfl rfl ?_
  refine g_lrem dc_RM_adds_93 rfl z4 ?_
  refine g_lstore (L' := [some (.ref 67), some (.int x1), some (.int x2), some (.long s0), none, some (.long (((J 78 x1.toNatClampNeg) / s0) * (J 82 x2.toNatClampNeg))), none, some (.long (((J 77 x1.toNatClampNeg) * ((J 82 x2.toNatClampNeg) / s0)) + ((J 81 x2.toNatClampNeg) * ((J 78 x1.toNatClampNeg) / s0)))), none, some (.long ((((J 77 x1.toNatClampNeg) * ((J 82 x2.toNatClampNeg) / s0)) + ((J 81 x2.toNatClampNeg) * ((J 78 x1.toNatClampNeg) / s0))) - (((J 77 x1.toNatClampNeg) * ((J 82 x2.toNatClampNeg) / s0)) + ((J 81 x2.toNatClampNeg) * ((J 78 x1.toNatClampNeg) / s0))) / (((J 78 x1.toNatClampNeg) / s0) * (J 82 x2.toNatClampNeg)) * (((J 78 x1.toNatClampNeg) / s0) * (J 82 x2.toNatClampNeg)))), none, none, none]) dc_RM_adds_94 rfl (Nat.le_of_ble_eq_true rfl) rfl ?_
  refine g_lload dc_RM_adds_96 rfl rfl ?_
  refine g_lload dc_RM_adds_98 rfl rfl ?_
  refine g_weak [some (.ref 67), none, none, none, none, some (.long (((J 78 x1.toNatClampNeg) / s0) * (J 82 x2.toNatClampNeg))), none, none, none, some (.long ((((J 77 x1.toNatClampNeg) * ((J 82 x2.toNatClampNeg) / s0)) + ((J 81 x2.toNatClampNeg) * ((J 78 x1.toNatClampNeg) / s0))) - (((J 77 x1.toNatClampNeg) * ((J 82 x2.toNatClampNeg) / s0)) + ((J 81 x2.toNatClampNeg) * ((J 78 x1.toNatClampNeg) / s0))) / (((J 78 x1.toNatClampNeg) / s0) * (J 82 x2.toNatClampNeg)) * (((J 78 x1.toNatClampNeg) / s0) * (J 82 x2.toNatClampNeg)))), none, none, none] ⟨rfl, ⟨rfl, ⟨rfl, trivial⟩⟩⟩ ?_
  exact g_callS (As := [.long ((((J 77 x1.toNatClampNeg) * ((J 82 x2.toNatClampNeg) / s0)) + ((J 81 x2.toNatClampNeg) * ((J 78 x1.toNatClampNeg) / s0))) - (((J 77 x1.toNatClampNeg) * ((J 82 x2.toNatClampNeg) / s0)) + ((J 81 x2.toNatClampNeg) * ((J 78 x1.toNatClampNeg) / s0))) / (((J 78 x1.toNatClampNeg) / s0) * (J 82 x2.toNatClampNeg)) * (((J 78 x1.toNatClampNeg) / s0) * (J 82 x2.toNatClampNeg))), .long (((J 78 x1.toNatClampNeg) / s0) * (J 82 x2.toNatClampNeg))]) (rest := []) ok_RM_divisor st_RM_divisor ml_RM_157 rfl rfl (Nat.le_of_ble_eq_true rfl) dc_RM_adds_100 rfl rOk_fr k5
theorem w_RM_adds_103 {G : GC} {d : Nat} {P : PT} {I : MI} {J : MJ} {l5 : Int64} {l9 : Int64} {s0 : Int64} (z1 : ¬ s0 = 0) (q2 : P none I (u2 (u2 J 67 19 (l9 / s0)) 67 20 (l5 / s0))) : Go G (fr G m_RM_adds (d + 1) P) 103 [some (.ref 67), none, none, none, none, some (.long l5), none, none, none, some (.long l9), none, none, none] [.long s0] I J := by
  refine g_lstore (L' := [some (.ref 67), none, none, none, none, some (.long l5), none, none, none, some (.long l9), none, some (.long s0), none]) dc_RM_adds_103 rfl (Nat.le_of_ble_eq_true rfl) rfl ?_
  refine g_aload_n dc_RM_adds_105 rfl rfl rfl ?_
  refine g_lload dc_RM_adds_106 rfl rfl ?_
  refine g_lload dc_RM_adds_108 rfl rfl ?_
  refine g_ldiv dc_RM_adds_110 rfl z1 ?_
  refine g_putJ (C := "LevelBreaksModel") (T := T_RM) (N := 45) (k := 19) (ty := t_RM) sh_67 (by decide) rfl rfl i_RM p_RM n_RM (by decide) fl_RM_199 (Or.inl rfl) rfl (by decide) dc_RM_adds_111 rfl ?_
  refine g_aload_n dc_RM_adds_114 rfl rfl rfl ?_
  refine g_lload dc_RM_adds_115 rfl rfl ?_
  refine g_lload dc_RM_adds_117 rfl rfl ?_
  refine g_ldiv dc_RM_adds_119 rfl z1 ?_
  refine g_putJ (C := "LevelBreaksModel") (T := T_RM) (N := 45) (k := 20) (ty := t_RM) sh_67 (by decide) rfl rfl i_RM p_RM n_RM (by decide) fl_RM_202 (Or.inl rfl) rfl (by decide) dc_RM_adds_120 rfl ?_
  exact g_vret rfl dc_RM_adds_123 q2
theorem dc_RM_against_0 : decode prog_14_method_27_code 0 = .ok (.aload_n 0, 1) := by decide +kernel
theorem dc_RM_against_1 : decode prog_14_method_27_code 1 = .ok (.getfield 195, 3) := by decide +kernel
theorem dc_RM_against_4 : decode prog_14_method_27_code 4 = .ok (.aload_n 0, 1) := by decide +kernel
theorem dc_RM_against_5 : decode prog_14_method_27_code 5 = .ok (.getfield 51, 3) := by decide +kernel
theorem dc_RM_against_8 : decode prog_14_method_27_code 8 = .ok (.iload_n 1, 1) := by decide +kernel
theorem dc_RM_against_9 : decode prog_14_method_27_code 9 = .ok (.laload, 1) := by decide +kernel
theorem dc_RM_against_10 : decode prog_14_method_27_code 10 = .ok (.lcmp, 1) := by decide +kernel
theorem dc_RM_against_11 : decode prog_14_method_27_code 11 = .ok (.ifCond .eq 23, 3) := by decide +kernel
theorem dc_RM_against_14 : decode prog_14_method_27_code 14 = .ok (.aload_n 0, 1) := by decide +kernel
theorem dc_RM_against_15 : decode prog_14_method_27_code 15 = .ok (.getfield 195, 3) := by decide +kernel
theorem dc_RM_against_18 : decode prog_14_method_27_code 18 = .ok (.aload_n 0, 1) := by decide +kernel
theorem dc_RM_against_19 : decode prog_14_method_27_code 19 = .ok (.getfield 51, 3) := by decide +kernel
theorem dc_RM_against_22 : decode prog_14_method_27_code 22 = .ok (.iload_n 1, 1) := by decide +kernel
theorem dc_RM_against_23 : decode prog_14_method_27_code 23 = .ok (.laload, 1) := by decide +kernel
theorem dc_RM_against_24 : decode prog_14_method_27_code 24 = .ok (.lcmp, 1) := by decide +kernel
theorem dc_RM_against_25 : decode prog_14_method_27_code 25 = .ok (.ifCond .ge 7, 3) := by decide +kernel
theorem dc_RM_against_28 : decode prog_14_method_27_code 28 = .ok (.iconst (-1), 1) := by decide +kernel
theorem dc_RM_against_29 : decode prog_14_method_27_code 29 = .ok (.goto 4, 3) := by decide +kernel
theorem dc_RM_against_32 : decode prog_14_method_27_code 32 = .ok (.iconst 1, 1) := by decide +kernel
theorem dc_RM_against_33 : decode prog_14_method_27_code 33 = .ok (.ireturn, 1) := by decide +kernel
theorem dc_RM_against_34 : decode prog_14_method_27_code 34 = .ok (.aload_n 0, 1) := by decide +kernel
theorem dc_RM_against_35 : decode prog_14_method_27_code 35 = .ok (.getfield 199, 3) := by decide +kernel
theorem dc_RM_against_38 : decode prog_14_method_27_code 38 = .ok (.aload_n 0, 1) := by decide +kernel
theorem dc_RM_against_39 : decode prog_14_method_27_code 39 = .ok (.getfield 57, 3) := by decide +kernel
theorem dc_RM_against_42 : decode prog_14_method_27_code 42 = .ok (.iload_n 1, 1) := by decide +kernel
theorem dc_RM_against_43 : decode prog_14_method_27_code 43 = .ok (.laload, 1) := by decide +kernel
theorem dc_RM_against_44 : decode prog_14_method_27_code 44 = .ok (.lmul, 1) := by decide +kernel
theorem dc_RM_against_45 : decode prog_14_method_27_code 45 = .ok (.aload_n 0, 1) := by decide +kernel
theorem dc_RM_against_46 : decode prog_14_method_27_code 46 = .ok (.getfield 54, 3) := by decide +kernel
theorem dc_RM_against_49 : decode prog_14_method_27_code 49 = .ok (.iload_n 1, 1) := by decide +kernel
theorem dc_RM_against_50 : decode prog_14_method_27_code 50 = .ok (.laload, 1) := by decide +kernel
theorem dc_RM_against_51 : decode prog_14_method_27_code 51 = .ok (.aload_n 0, 1) := by decide +kernel
theorem dc_RM_against_52 : decode prog_14_method_27_code 52 = .ok (.getfield 202, 3) := by decide +kernel
theorem dc_RM_against_55 : decode prog_14_method_27_code 55 = .ok (.lmul, 1) := by decide +kernel
theorem dc_RM_against_56 : decode prog_14_method_27_code 56 = .ok (.lsub, 1) := by decide +kernel
theorem dc_RM_against_57 : decode prog_14_method_27_code 57 = .ok (.lstore_n 2, 1) := by decide +kernel
theorem dc_RM_against_58 : decode prog_14_method_27_code 58 = .ok (.lload_n 2, 1) := by decide +kernel
theorem dc_RM_against_59 : decode prog_14_method_27_code 59 = .ok (.lconst 0, 1) := by decide +kernel
theorem dc_RM_against_60 : decode prog_14_method_27_code 60 = .ok (.lcmp, 1) := by decide +kernel
theorem dc_RM_against_61 : decode prog_14_method_27_code 61 = .ok (.ifCond .ge 7, 3) := by decide +kernel
theorem dc_RM_against_64 : decode prog_14_method_27_code 64 = .ok (.iconst (-1), 1) := by decide +kernel
theorem dc_RM_against_65 : decode prog_14_method_27_code 65 = .ok (.goto 14, 3) := by decide +kernel
theorem dc_RM_against_68 : decode prog_14_method_27_code 68 = .ok (.lload_n 2, 1) := by decide +kernel
theorem dc_RM_against_69 : decode prog_14_method_27_code 69 = .ok (.lconst 0, 1) := by decide +kernel
theorem dc_RM_against_70 : decode prog_14_method_27_code 70 = .ok (.lcmp, 1) := by decide +kernel
theorem dc_RM_against_71 : decode prog_14_method_27_code 71 = .ok (.ifCond .le 7, 3) := by decide +kernel
theorem dc_RM_against_74 : decode prog_14_method_27_code 74 = .ok (.iconst 1, 1) := by decide +kernel
theorem dc_RM_against_75 : decode prog_14_method_27_code 75 = .ok (.goto 4, 3) := by decide +kernel
theorem dc_RM_against_78 : decode prog_14_method_27_code 78 = .ok (.iconst 0, 1) := by decide +kernel
theorem dc_RM_against_79 : decode prog_14_method_27_code 79 = .ok (.ireturn, 1) := by decide +kernel
theorem w_RM_against_0 {G : GC} {d : Nat} {P : PT} {I : MI} {J : MJ} {x1 : Int32} (b1 : vp_in x1 287) (q2 : ((J 67 18) = (J 80 x1.toNatClampNeg)) → (0 ≤ (((J 67 19) * (J 82 x1.toNatClampNeg)) - ((J 81 x1.toNatClampNeg) * (J 67 20)))) → ((((J 67 19) * (J 82 x1.toNatClampNeg)) - ((J 81 x1.toNatClampNeg) * (J 67 20))) ≤ 0) → P (some (.int 0)) I J) (q3 : ((J 67 18) = (J 80 x1.toNatClampNeg)) → (0 ≤ (((J 67 19) * (J 82 x1.toNatClampNeg)) - ((J 81 x1.toNatClampNeg) * (J 67 20)))) → (¬ ((((J 67 19) * (J 82 x1.toNatClampNeg)) - ((J 81 x1.toNatClampNeg) * (J 67 20))) ≤ 0)) → P (some (.int 1)) I J) (q4 : ((J 67 18) = (J 80 x1.toNatClampNeg)) → (¬ (0 ≤ (((J 67 19) * (J 82 x1.toNatClampNeg)) - ((J 81 x1.toNatClampNeg) * (J 67 20))))) → P (some (.int (-1))) I J) (q5 : (¬ ((J 67 18) = (J 80 x1.toNatClampNeg))) → ((J 80 x1.toNatClampNeg) ≤ (J 67 18)) → P (some (.int 1)) I J) (q6 : (¬ ((J 67 18) = (J 80 x1.toNatClampNeg))) → (¬ ((J 80 x1.toNatClampNeg) ≤ (J 67 18))) → P (some (.int (-1))) I J) : Go G (fr G m_RM_against d P) 0 [some (.ref 67), some (.int x1), none, none] [] I J := by
  refine g_aload_n dc_RM_against_0 rfl rfl rfl ?_
  refine g_get (C := "LevelBreaksModel") (T := T_RM) (N := 45) (k := 18) (v := .long (J 67 18)) sh_67 (by decide) rfl rfl i_RM (by decide) fl_RM_195 (Or.inl rfl) rfl dc_RM_against_1 rfl ?_
  refine g_aload_n dc_RM_against_4 rfl rfl rfl ?_
  refine g_get (C := "LevelBreaksModel") (T := T_RM) (N := 45) (k := 15) (v := .ref 80) sh_67 (by decide) rfl rfl i_RM (by decide) fl_RM_51 (Or.inl rfl) rfl dc_RM_against_5 rfl ?_
  refine g_iload_n dc_RM_against_8 rfl rfl rfl ?_
  refine g_laldv (v := (J 80 x1.toNatClampNeg)) sh_80 b1 rfl dc_RM_against_9 rfl ?_
  refine g_lc_eq (tgt := 34) dc_RM_against_10 rfl dc_RM_against_11 rfl (by decide) (fun c1 => ?_) (fun c1 => ?_)
  · refine g_aload_n dc_RM_against_34 rfl rfl rfl ?_
    refine g_get (C := "LevelBreaksModel") (T := T_RM) (N := 45) (k := 19) (v := .long (J 67 19)) sh_67 (by decide) rfl rfl i_RM (by decide) fl_RM_199 (Or.inl rfl) rfl dc_RM_against_35 rfl ?_
    refine g_aload_n dc_RM_against_38 rfl rfl rfl ?_
    refine g_get (C := "LevelBreaksModel") (T := T_RM) (N := 45) (k := 17) (v := .ref 82) sh_67 (by decide) rfl rfl i_RM (by decide) fl_RM_57 (Or.inl rfl) rfl dc_RM_against_39 rfl ?_
    refine g_iload_n dc_RM_against_42 rfl rfl rfl ?_
    refine g_laldv (v := (J 82 x1.toNatClampNeg)) sh_82 b1 rfl dc_RM_against_43 rfl ?_
    refine g_lmul dc_RM_against_44 rfl ?_
    refine g_aload_n dc_RM_against_45 rfl rfl rfl ?_
    refine g_get (C := "LevelBreaksModel") (T := T_RM) (N := 45) (k := 16) (v := .ref 81) sh_67 (by decide) rfl rfl i_RM (by decide) fl_RM_54 (Or.inl rfl) rfl dc_RM_against_46 rfl ?_
    refine g_iload_n dc_RM_against_49 rfl rfl rfl ?_
    refine g_laldv (v := (J 81 x1.toNatClampNeg)) sh_81 b1 rfl dc_RM_against_50 rfl ?_
    refine g_aload_n dc_RM_against_51 rfl rfl rfl ?_
    refine g_get (C := "LevelBreaksModel") (T := T_RM) (N := 45) (k := 20) (v := .long (J 67 20)) sh_67 (by decide) rfl rfl i_RM (by decide) fl_RM_202 (Or.inl rfl) rfl dc_RM_against_52 rfl ?_
    refine g_lmul dc_RM_against_55 rfl ?_
    refine g_lsub dc_RM_against_56 rfl ?_
    refine g_lstore_n (L' := [some (.ref 67), some (.int x1), some (.long (((J 67 19) * (J 82 x1.toNatClampNeg)) - ((J 81 x1.toNatClampNeg) * (J 67 20)))), none]) dc_RM_against_57 rfl rfl (Nat.le_of_ble_eq_true rfl) rfl ?_
    refine g_lload_n dc_RM_against_58 rfl rfl rfl ?_
    refine g_lconst (v := 0) dc_RM_against_59 rfl (by decide) ?_
    refine g_lc_ge (tgt := 68) dc_RM_against_60 rfl dc_RM_against_61 rfl (by decide) (fun c2 => ?_) (fun c2 => ?_)
    · refine g_lload_n dc_RM_against_68 rfl rfl rfl ?_
      refine g_lconst (v := 0) dc_RM_against_69 rfl (by decide) ?_
      refine g_lc_le (tgt := 78) dc_RM_against_70 rfl dc_RM_against_71 rfl (by decide) (fun c3 => ?_) (fun c3 => ?_)
      · refine g_iconst (v := 0) dc_RM_against_78 rfl (by decide) ?_
        exact g_iret rfl dc_RM_against_79 (q2 c1 c2 c3)
      · refine g_iconst (v := 1) dc_RM_against_74 rfl (by decide) ?_
        refine g_goto (tgt := 79) dc_RM_against_75 (by decide) ?_
        exact g_iret rfl dc_RM_against_79 (q3 c1 c2 c3)
    · refine g_iconst (v := (-1)) dc_RM_against_64 rfl (by decide) ?_
      refine g_goto (tgt := 79) dc_RM_against_65 (by decide) ?_
      exact g_iret rfl dc_RM_against_79 (q4 c1 c2)
  · refine g_aload_n dc_RM_against_14 rfl rfl rfl ?_
    refine g_get (C := "LevelBreaksModel") (T := T_RM) (N := 45) (k := 18) (v := .long (J 67 18)) sh_67 (by decide) rfl rfl i_RM (by decide) fl_RM_195 (Or.inl rfl) rfl dc_RM_against_15 rfl ?_
    refine g_aload_n dc_RM_against_18 rfl rfl rfl ?_
    refine g_get (C := "LevelBreaksModel") (T := T_RM) (N := 45) (k := 15) (v := .ref 80) sh_67 (by decide) rfl rfl i_RM (by decide) fl_RM_51 (Or.inl rfl) rfl dc_RM_against_19 rfl ?_
    refine g_iload_n dc_RM_against_22 rfl rfl rfl ?_
    refine g_laldv (v := (J 80 x1.toNatClampNeg)) sh_80 b1 rfl dc_RM_against_23 rfl ?_
    refine g_lc_ge (tgt := 32) dc_RM_against_24 rfl dc_RM_against_25 rfl (by decide) (fun c4 => ?_) (fun c4 => ?_)
    · refine g_iconst (v := 1) dc_RM_against_32 rfl (by decide) ?_
      exact g_iret rfl dc_RM_against_33 (q5 c1 c4)
    · refine g_iconst (v := (-1)) dc_RM_against_28 rfl (by decide) ?_
      refine g_goto (tgt := 33) dc_RM_against_29 (by decide) ?_
      exact g_iret rfl dc_RM_against_33 (q6 c1 c4)
theorem dc_RM_alarm_0 : decode prog_14_method_57_code 0 = .ok (.iload_n 1, 1) := by decide +kernel
theorem dc_RM_alarm_1 : decode prog_14_method_57_code 1 = .ok (.iload_n 2, 1) := by decide +kernel
theorem dc_RM_alarm_2 : decode prog_14_method_57_code 2 = .ok (.iload_n 3, 1) := by decide +kernel
theorem dc_RM_alarm_3 : decode prog_14_method_57_code 3 = .ok (.iload 4, 2) := by decide +kernel
theorem dc_RM_alarm_5 : decode prog_14_method_57_code 5 = .ok (.iload 5, 2) := by decide +kernel
theorem dc_RM_alarm_7 : decode prog_14_method_57_code 7 = .ok (.invokestatic 282, 3) := by decide +kernel
theorem dc_RM_alarm_10 : decode prog_14_method_57_code 10 = .ok (.ifCond .eq 14, 3) := by decide +kernel
theorem dc_RM_alarm_13 : decode prog_14_method_57_code 13 = .ok (.iload 6, 2) := by decide +kernel
theorem dc_RM_alarm_15 : decode prog_14_method_57_code 15 = .ok (.iconst (-1), 1) := by decide +kernel
theorem dc_RM_alarm_16 : decode prog_14_method_57_code 16 = .ok (.bipush 39, 2) := by decide +kernel
theorem dc_RM_alarm_18 : decode prog_14_method_57_code 18 = .ok (.invokestatic 112, 3) := by decide +kernel
theorem dc_RM_alarm_21 : decode prog_14_method_57_code 21 = .ok (.ifCond .ne 6, 3) := by decide +kernel
theorem dc_RM_alarm_24 : decode prog_14_method_57_code 24 = .ok (.bipush (-2), 2) := by decide +kernel
theorem dc_RM_alarm_26 : decode prog_14_method_57_code 26 = .ok (.ireturn, 1) := by decide +kernel
theorem dc_RM_alarm_27 : decode prog_14_method_57_code 27 = .ok (.aload_n 0, 1) := by decide +kernel
theorem dc_RM_alarm_28 : decode prog_14_method_57_code 28 = .ok (.iload_n 1, 1) := by decide +kernel
theorem dc_RM_alarm_29 : decode prog_14_method_57_code 29 = .ok (.aload_n 0, 1) := by decide +kernel
theorem dc_RM_alarm_30 : decode prog_14_method_57_code 30 = .ok (.getfield 22, 3) := by decide +kernel
theorem dc_RM_alarm_33 : decode prog_14_method_57_code 33 = .ok (.invokevirtual 148, 3) := by decide +kernel
theorem dc_RM_alarm_36 : decode prog_14_method_57_code 36 = .ok (.aload_n 0, 1) := by decide +kernel
theorem dc_RM_alarm_37 : decode prog_14_method_57_code 37 = .ok (.iload_n 2, 1) := by decide +kernel
theorem dc_RM_alarm_38 : decode prog_14_method_57_code 38 = .ok (.iload_n 3, 1) := by decide +kernel
theorem dc_RM_alarm_39 : decode prog_14_method_57_code 39 = .ok (.iload 4, 2) := by decide +kernel
theorem dc_RM_alarm_41 : decode prog_14_method_57_code 41 = .ok (.iload 5, 2) := by decide +kernel
theorem dc_RM_alarm_43 : decode prog_14_method_57_code 43 = .ok (.invokevirtual 286, 3) := by decide +kernel
theorem dc_RM_alarm_46 : decode prog_14_method_57_code 46 = .ok (.iload 6, 2) := by decide +kernel
theorem dc_RM_alarm_48 : decode prog_14_method_57_code 48 = .ok (.iconst (-1), 1) := by decide +kernel
theorem dc_RM_alarm_49 : decode prog_14_method_57_code 49 = .ok (.if_icmp .ne 10, 3) := by decide +kernel
theorem dc_RM_alarm_52 : decode prog_14_method_57_code 52 = .ok (.aload_n 0, 1) := by decide +kernel
theorem dc_RM_alarm_53 : decode prog_14_method_57_code 53 = .ok (.getfield 279, 3) := by decide +kernel
theorem dc_RM_alarm_56 : decode prog_14_method_57_code 56 = .ok (.goto 18, 3) := by decide +kernel
theorem dc_RM_alarm_59 : decode prog_14_method_57_code 59 = .ok (.aload_n 0, 1) := by decide +kernel
theorem dc_RM_alarm_60 : decode prog_14_method_57_code 60 = .ok (.getfield 81, 3) := by decide +kernel
theorem dc_RM_alarm_63 : decode prog_14_method_57_code 63 = .ok (.iload 6, 2) := by decide +kernel
theorem dc_RM_alarm_65 : decode prog_14_method_57_code 65 = .ok (.baload, 1) := by decide +kernel
theorem dc_RM_alarm_66 : decode prog_14_method_57_code 66 = .ok (.ifCond .eq 7, 3) := by decide +kernel
theorem dc_RM_alarm_69 : decode prog_14_method_57_code 69 = .ok (.iconst 1, 1) := by decide +kernel
theorem dc_RM_alarm_70 : decode prog_14_method_57_code 70 = .ok (.goto 4, 3) := by decide +kernel
theorem dc_RM_alarm_73 : decode prog_14_method_57_code 73 = .ok (.iconst 0, 1) := by decide +kernel
theorem dc_RM_alarm_74 : decode prog_14_method_57_code 74 = .ok (.ireturn, 1) := by decide +kernel
theorem w_RM_alarm_0 {G : GC} {d : Nat} {P : PT} {I : MI} {J : MJ} {x1 : Int32} {x2 : Int32} {x3 : Int32} {x4 : Int32} {x5 : Int32} {x6 : Int32} (k1 : ((f_RM_isWatch x1 x2 x3 x4 x5) = 0) → Go G (fr G m_RM_alarm (d + 3) P) 24 [none, none, none, none, none, none, none] [] I J) (k2 : (¬ ((f_RM_isWatch x1 x2 x3 x4 x5) = 0)) → (¬ (f_RM_in x6 (-1) 39) = 0) → Ct G (d + 2) m_RM_pointsBy [.ref 67, .int x1, .int (I 67 5)] (fun r I' J' => Go G (fr G m_RM_alarm (d + 3) P) 36 [some (.ref 67), none, some (.int x2), some (.int x3), some (.int x4), some (.int x5), some (.int x6)] (r.toList ++ []) I' J') I J) (k3 : (¬ ((f_RM_isWatch x1 x2 x3 x4 x5) = 0)) → ((f_RM_in x6 (-1) 39) = 0) → Go G (fr G m_RM_alarm (d + 3) P) 24 [none, none, none, none, none, none, none] [] I J) : Go G (fr G m_RM_alarm (d + 3) P) 0 [some (.ref 67), some (.int x1), some (.int x2), some (.int x3), some (.int x4), some (.int x5), some (.int x6)] [] I J := by
  refine g_iload_n dc_RM_alarm_0 rfl rfl rfl ?_
  refine g_iload_n dc_RM_alarm_1 rfl rfl rfl ?_
  refine g_iload_n dc_RM_alarm_2 rfl rfl rfl ?_
  refine g_iload dc_RM_alarm_3 rfl rfl ?_
  refine g_iload dc_RM_alarm_5 rfl rfl ?_
  refine g_callS (M := m_RM_isWatch) (As := [.int x1, .int x2, .int x3, .int x4, .int x5]) (rest := []) ok_RM_isWatch st_RM_isWatch ml_RM_282 rfl rfl (Nat.le_of_ble_eq_true rfl) dc_RM_alarm_7 rfl rOk_fr (c_RM_isWatch ?_)
  show Go G (fr G m_RM_alarm (d + 3) P) 10 [some (.ref 67), some (.int x1), some (.int x2), some (.int x3), some (.int x4), some (.int x5), some (.int x6)] [.int (f_RM_isWatch x1 x2 x3 x4 x5)] I J
  refine g_if_eq (tgt := 24) dc_RM_alarm_10 rfl (by decide) (fun c1 => ?_) (fun c1 => ?_)
  · refine g_weak [none, none, none, none, none, none, none] trivial ?_
    exact (k1 c1)
  · refine g_iload dc_RM_alarm_13 rfl rfl ?_
    refine g_iconst (v := (-1)) dc_RM_alarm_15 rfl (by decide) ?_
    refine g_bipush (v := 39) dc_RM_alarm_16 rfl (by decide) ?_
    refine g_callS (M := m_RM_in) (As := [.int x6, .int (-1), .int 39]) (rest := []) ok_RM_in st_RM_in ml_RM_112 rfl rfl (Nat.le_of_ble_eq_true rfl) dc_RM_alarm_18 rfl rOk_fr (c_RM_in ?_)
    show Go G (fr G m_RM_alarm (d + 3) P) 21 [some (.ref 67), some (.int x1), some (.int x2), some (.int x3), some (.int x4), some (.int x5), some (.int x6)] [.int (f_RM_in x6 (-1) 39)] I J
    refine g_if_ne (tgt := 27) dc_RM_alarm_21 rfl (by decide) (fun c2 => ?_) (fun c2 => ?_)
    · refine g_aload_n dc_RM_alarm_27 rfl rfl rfl ?_
      refine g_iload_n dc_RM_alarm_28 rfl rfl rfl ?_
      refine g_aload_n dc_RM_alarm_29 rfl rfl rfl ?_
      refine g_get (C := "LevelBreaksModel") (T := T_RM) (N := 45) (k := 5) (v := .int (I 67 5)) sh_67 (by decide) rfl rfl i_RM (by decide) fl_RM_22 (Or.inl rfl) rfl dc_RM_alarm_30 rfl ?_
      refine g_weak [some (.ref 67), none, some (.int x2), some (.int x3), some (.int x4), some (.int x5), some (.int x6)] ⟨rfl, ⟨rfl, ⟨rfl, ⟨rfl, ⟨rfl, ⟨rfl, trivial⟩⟩⟩⟩⟩⟩ ?_
      exact g_callV (T := T_RM) (N := 45) (As := [.int x1, .int (I 67 5)]) (rest := []) ok_RM_pointsBy in_RM_pointsBy se_RM_pointsBy ml_RM_148 sh_67 (by decide) rfl rfl rfl (Nat.le_of_ble_eq_true rfl) dc_RM_alarm_33 rfl rOk_fr (k2 c1 c2)
    · refine g_weak [none, none, none, none, none, none, none] trivial ?_
      exact (k3 c1 c2)
theorem w_RM_alarm_24 {G : GC} {d : Nat} {P : PT} {I : MI} {J : MJ}  (q1 : P (some (.int (-2))) I J) : Go G (fr G m_RM_alarm (d + 3) P) 24 [none, none, none, none, none, none, none] [] I J := by
  refine g_bipush (v := (-2)) dc_RM_alarm_24 rfl (by decide) ?_
  exact g_iret rfl dc_RM_alarm_26 q1
theorem w_RM_alarm_36 {G : GC} {d : Nat} {P : PT} {I : MI} {J : MJ} {x2 : Int32} {x3 : Int32} {x4 : Int32} {x5 : Int32} {x6 : Int32} (k1 : Ct G (d + 2) m_RM_watches [.ref 67, .int x2, .int x3, .int x4, .int x5] (fun r I' J' => Go G (fr G m_RM_alarm (d + 3) P) 46 [some (.ref 67), none, none, none, none, none, some (.int x6)] (r.toList ++ []) I' J') I J) : Go G (fr G m_RM_alarm (d + 3) P) 36 [some (.ref 67), none, some (.int x2), some (.int x3), some (.int x4), some (.int x5), some (.int x6)] [] I J := by
  refine g_aload_n dc_RM_alarm_36 rfl rfl rfl ?_
  refine g_iload_n dc_RM_alarm_37 rfl rfl rfl ?_
  refine g_iload_n dc_RM_alarm_38 rfl rfl rfl ?_
  refine g_iload dc_RM_alarm_39 rfl rfl ?_
  refine g_iload dc_RM_alarm_41 rfl rfl ?_
  refine g_weak [some (.ref 67), none, none, none, none, none, some (.int x6)] ⟨rfl, ⟨rfl, trivial⟩⟩ ?_
  exact g_callV (T := T_RM) (N := 45) (As := [.int x2, .int x3, .int x4, .int x5]) (rest := []) ok_RM_watches in_RM_watches se_RM_watches ml_RM_286 sh_67 (by decide) rfl rfl rfl (Nat.le_of_ble_eq_true rfl) dc_RM_alarm_43 rfl rOk_fr k1
theorem w_RM_alarm_46 {G : GC} {d : Nat} {P : PT} {I : MI} {J : MJ} {x6 : Int32} (b1 : (¬ x6 = (-1)) → vp_in x6 40) (q2 : (¬ x6 = (-1)) → ((I 90 x6.toNatClampNeg) = 0) → P (some (.int 0)) I J) (q3 : (¬ x6 = (-1)) → (¬ ((I 90 x6.toNatClampNeg) = 0)) → P (some (.int 1)) I J) (q4 : (x6 = (-1)) → P (some (.int (I 67 29))) I J) : Go G (fr G m_RM_alarm (d + 3) P) 46 [some (.ref 67), none, none, none, none, none, some (.int x6)] [] I J := by
  refine g_iload dc_RM_alarm_46 rfl rfl ?_
  refine g_iconst (v := (-1)) dc_RM_alarm_48 rfl (by decide) ?_
  refine g_ic_ne (tgt := 59) dc_RM_alarm_49 rfl (by decide) (fun c1 => ?_) (fun c1 => ?_)
  · refine g_aload_n dc_RM_alarm_59 rfl rfl rfl ?_
    refine g_get (C := "LevelBreaksModel") (T := T_RM) (N := 45) (k := 30) (v := .ref 90) sh_67 (by decide) rfl rfl i_RM (by decide) fl_RM_81 (Or.inl rfl) rfl dc_RM_alarm_60 rfl ?_
    refine g_iload dc_RM_alarm_63 rfl rfl ?_
    refine g_zaldv (v := (I 90 x6.toNatClampNeg)) sh_90 (b1 c1) rfl dc_RM_alarm_65 rfl ?_
    refine g_if_eq (tgt := 73) dc_RM_alarm_66 rfl (by decide) (fun c2 => ?_) (fun c2 => ?_)
    · refine g_iconst (v := 0) dc_RM_alarm_73 rfl (by decide) ?_
      exact g_iret rfl dc_RM_alarm_74 (q2 c1 c2)
    · refine g_iconst (v := 1) dc_RM_alarm_69 rfl (by decide) ?_
      refine g_goto (tgt := 74) dc_RM_alarm_70 (by decide) ?_
      exact g_iret rfl dc_RM_alarm_74 (q3 c1 c2)
  · refine g_aload_n dc_RM_alarm_52 rfl rfl rfl ?_
    refine g_get (C := "LevelBreaksModel") (T := T_RM) (N := 45) (k := 29) (v := .int (I 67 29)) sh_67 (by decide) rfl rfl i_RM (by decide) fl_RM_279 (Or.inl rfl) rfl dc_RM_alarm_53 rfl ?_
    refine g_goto (tgt := 74) dc_RM_alarm_56 (by decide) ?_
    exact g_iret rfl dc_RM_alarm_74 (q4 c1)
theorem dc_RM_asOf_0 : decode prog_14_method_11_code 0 = .ok (.iload_n 1, 1) := by decide +kernel
theorem dc_RM_asOf_1 : decode prog_14_method_11_code 1 = .ok (.iconst 0, 1) := by decide +kernel
theorem dc_RM_asOf_2 : decode prog_14_method_11_code 2 = .ok (.sipush 999, 3) := by decide +kernel
theorem dc_RM_asOf_5 : decode prog_14_method_11_code 5 = .ok (.invokestatic 112, 3) := by decide +kernel
theorem dc_RM_asOf_8 : decode prog_14_method_11_code 8 = .ok (.ifCond .ne 6, 3) := by decide +kernel
theorem dc_RM_asOf_11 : decode prog_14_method_11_code 11 = .ok (.bipush (-2), 2) := by decide +kernel
theorem dc_RM_asOf_13 : decode prog_14_method_11_code 13 = .ok (.ireturn, 1) := by decide +kernel
theorem dc_RM_asOf_14 : decode prog_14_method_11_code 14 = .ok (.aload_n 0, 1) := by decide +kernel
theorem dc_RM_asOf_15 : decode prog_14_method_11_code 15 = .ok (.getfield 22, 3) := by decide +kernel
theorem dc_RM_asOf_18 : decode prog_14_method_11_code 18 = .ok (.istore_n 2, 1) := by decide +kernel
theorem dc_RM_asOf_19 : decode prog_14_method_11_code 19 = .ok (.aload_n 0, 1) := by decide +kernel
theorem dc_RM_asOf_20 : decode prog_14_method_11_code 20 = .ok (.iload_n 1, 1) := by decide +kernel
theorem dc_RM_asOf_21 : decode prog_14_method_11_code 21 = .ok (.putfield 22, 3) := by decide +kernel
theorem dc_RM_asOf_24 : decode prog_14_method_11_code 24 = .ok (.iload_n 2, 1) := by decide +kernel
theorem dc_RM_asOf_25 : decode prog_14_method_11_code 25 = .ok (.ireturn, 1) := by decide +kernel
theorem w_RM_asOf_0 {G : GC} {d : Nat} {P : PT} {I : MI} {J : MJ} {x1 : Int32} (q1 : (¬ (f_RM_in x1 0 999) = 0) → P (some (.int (I 67 5))) (u2 I 67 5 x1) J) (q2 : ((f_RM_in x1 0 999) = 0) → P (some (.int (-2))) I J) : Go G (fr G m_RM_asOf (d + 1) P) 0 [some (.ref 67), some (.int x1), none] [] I J := by
  refine g_iload_n dc_RM_asOf_0 rfl rfl rfl ?_
  refine g_iconst (v := 0) dc_RM_asOf_1 rfl (by decide) ?_
  refine g_sipush (v := 999) dc_RM_asOf_2 rfl (by decide) ?_
  refine g_callS (M := m_RM_in) (As := [.int x1, .int 0, .int 999]) (rest := []) ok_RM_in st_RM_in ml_RM_112 rfl rfl (Nat.le_of_ble_eq_true rfl) dc_RM_asOf_5 rfl rOk_fr (c_RM_in ?_)
  show Go G (fr G m_RM_asOf (d + 1) P) 8 [some (.ref 67), some (.int x1), none] [.int (f_RM_in x1 0 999)] I J
  refine g_if_ne (tgt := 14) dc_RM_asOf_8 rfl (by decide) (fun c1 => ?_) (fun c1 => ?_)
  · refine g_aload_n dc_RM_asOf_14 rfl rfl rfl ?_
    refine g_get (C := "LevelBreaksModel") (T := T_RM) (N := 45) (k := 5) (v := .int (I 67 5)) sh_67 (by decide) rfl rfl i_RM (by decide) fl_RM_22 (Or.inl rfl) rfl dc_RM_asOf_15 rfl ?_
    refine g_istore_n (L' := [some (.ref 67), some (.int x1), some (.int (I 67 5))]) dc_RM_asOf_18 rfl rfl (Nat.le_of_ble_eq_true rfl) rfl ?_
    refine g_aload_n dc_RM_asOf_19 rfl rfl rfl ?_
    refine g_iload_n dc_RM_asOf_20 rfl rfl rfl ?_
    refine g_putI (C := "LevelBreaksModel") (T := T_RM) (N := 45) (k := 5) (ty := t_RM) sh_67 (by decide) rfl rfl i_RM p_RM n_RM (by decide) fl_RM_22 (Or.inl rfl) rfl (by decide) dc_RM_asOf_21 rfl ?_
    refine g_iload_n dc_RM_asOf_24 rfl rfl rfl ?_
    exact g_iret rfl dc_RM_asOf_25 (q1 c1)
  · refine g_bipush (v := (-2)) dc_RM_asOf_11 rfl (by decide) ?_
    exact g_iret rfl dc_RM_asOf_13 (q2 c1)
theorem dc_RM_before_0 : decode prog_14_method_59_code 0 = .ok (.iconst 0, 1) := by decide +kernel
theorem dc_RM_before_1 : decode prog_14_method_59_code 1 = .ok (.istore_n 2, 1) := by decide +kernel
theorem dc_RM_before_2 : decode prog_14_method_59_code 2 = .ok (.iconst 0, 1) := by decide +kernel
theorem dc_RM_before_3 : decode prog_14_method_59_code 3 = .ok (.istore_n 3, 1) := by decide +kernel
theorem dc_RM_before_4 : decode prog_14_method_59_code 4 = .ok (.iload_n 3, 1) := by decide +kernel
theorem dc_RM_before_5 : decode prog_14_method_59_code 5 = .ok (.iload_n 1, 1) := by decide +kernel
theorem dc_RM_before_6 : decode prog_14_method_59_code 6 = .ok (.if_icmp .ge 26, 3) := by decide +kernel
theorem dc_RM_before_9 : decode prog_14_method_59_code 9 = .ok (.iload_n 2, 1) := by decide +kernel
theorem dc_RM_before_10 : decode prog_14_method_59_code 10 = .ok (.aload_n 0, 1) := by decide +kernel
theorem dc_RM_before_11 : decode prog_14_method_59_code 11 = .ok (.getfield 81, 3) := by decide +kernel
theorem dc_RM_before_14 : decode prog_14_method_59_code 14 = .ok (.iload_n 3, 1) := by decide +kernel
theorem dc_RM_before_15 : decode prog_14_method_59_code 15 = .ok (.baload, 1) := by decide +kernel
theorem dc_RM_before_16 : decode prog_14_method_59_code 16 = .ok (.ifCond .eq 7, 3) := by decide +kernel
theorem dc_RM_before_19 : decode prog_14_method_59_code 19 = .ok (.iconst 1, 1) := by decide +kernel
theorem dc_RM_before_20 : decode prog_14_method_59_code 20 = .ok (.goto 4, 3) := by decide +kernel
theorem dc_RM_before_23 : decode prog_14_method_59_code 23 = .ok (.iconst 0, 1) := by decide +kernel
theorem dc_RM_before_24 : decode prog_14_method_59_code 24 = .ok (.iadd, 1) := by decide +kernel
theorem dc_RM_before_25 : decode prog_14_method_59_code 25 = .ok (.istore_n 2, 1) := by decide +kernel
theorem dc_RM_before_26 : decode prog_14_method_59_code 26 = .ok (.iinc 3 1, 3) := by decide +kernel
theorem dc_RM_before_29 : decode prog_14_method_59_code 29 = .ok (.goto (-25), 3) := by decide +kernel
theorem dc_RM_before_32 : decode prog_14_method_59_code 32 = .ok (.iload_n 2, 1) := by decide +kernel
theorem dc_RM_before_33 : decode prog_14_method_59_code 33 = .ok (.ireturn, 1) := by decide +kernel
theorem w_RM_before_0 {G : GC} {d : Nat} {P : PT} {I : MI} {J : MJ} {x1 : Int32} (k1 : Go G (fr G m_RM_before d P) 4 [some (.ref 67), some (.int x1), some (.int 0), some (.int 0)] [] I J) : Go G (fr G m_RM_before d P) 0 [some (.ref 67), some (.int x1), none, none] [] I J := by
  refine g_iconst (v := 0) dc_RM_before_0 rfl (by decide) ?_
  refine g_istore_n (L' := [some (.ref 67), some (.int x1), some (.int 0), none]) dc_RM_before_1 rfl rfl (Nat.le_of_ble_eq_true rfl) rfl ?_
  refine g_iconst (v := 0) dc_RM_before_2 rfl (by decide) ?_
  refine g_istore_n (L' := [some (.ref 67), some (.int x1), some (.int 0), some (.int 0)]) dc_RM_before_3 rfl rfl (Nat.le_of_ble_eq_true rfl) rfl ?_
  exact k1
theorem w_RM_before_4 {G : GC} {d : Nat} {P : PT} {I : MI} {J : MJ} {x1 : Int32} {x2 : Int32} {x3 : Int32} (q1 : (x1 ≤ x3) → P (some (.int x2)) I J) (b2 : (¬ (x1 ≤ x3)) → vp_in x3 40) (k3 : (¬ (x1 ≤ x3)) → ((I 90 x3.toNatClampNeg) = 0) → Go G (fr G m_RM_before d P) 24 [some (.ref 67), some (.int x1), none, some (.int x3)] [.int 0, .int x2] I J) (k4 : (¬ (x1 ≤ x3)) → (¬ ((I 90 x3.toNatClampNeg) = 0)) → Go G (fr G m_RM_before d P) 24 [some (.ref 67), some (.int x1), none, some (.int x3)] [.int 1, .int x2] I J) : Go G (fr G m_RM_before d P) 4 [some (.ref 67), some (.int x1), some (.int x2), some (.int x3)] [] I J := by
  refine g_iload_n dc_RM_before_4 rfl rfl rfl ?_
  refine g_iload_n dc_RM_before_5 rfl rfl rfl ?_
  refine g_ic_ge (tgt := 32) dc_RM_before_6 rfl (by decide) (fun c1 => ?_) (fun c1 => ?_)
  · refine g_iload_n dc_RM_before_32 rfl rfl rfl ?_
    exact g_iret rfl dc_RM_before_33 (q1 c1)
  · refine g_iload_n dc_RM_before_9 rfl rfl rfl ?_
    refine g_aload_n dc_RM_before_10 rfl rfl rfl ?_
    refine g_get (C := "LevelBreaksModel") (T := T_RM) (N := 45) (k := 30) (v := .ref 90) sh_67 (by decide) rfl rfl i_RM (by decide) fl_RM_81 (Or.inl rfl) rfl dc_RM_before_11 rfl ?_
    refine g_iload_n dc_RM_before_14 rfl rfl rfl ?_
    refine g_zaldv (v := (I 90 x3.toNatClampNeg)) sh_90 (b2 c1) rfl dc_RM_before_15 rfl ?_
    refine g_if_eq (tgt := 23) dc_RM_before_16 rfl (by decide) (fun c2 => ?_) (fun c2 => ?_)
    · refine g_iconst (v := 0) dc_RM_before_23 rfl (by decide) ?_
      refine g_weak [some (.ref 67), some (.int x1), none, some (.int x3)] ⟨rfl, ⟨rfl, ⟨rfl, trivial⟩⟩⟩ ?_
      exact (k3 c1 c2)
    · refine g_iconst (v := 1) dc_RM_before_19 rfl (by decide) ?_
      refine g_goto (tgt := 24) dc_RM_before_20 (by decide) ?_
      refine g_weak [some (.ref 67), some (.int x1), none, some (.int x3)] ⟨rfl, ⟨rfl, ⟨rfl, trivial⟩⟩⟩ ?_
      exact (k4 c1 c2)
theorem w_RM_before_24 {G : GC} {d : Nat} {P : PT} {I : MI} {J : MJ} {x1 : Int32} {x3 : Int32} {y0 : Int32} {y1 : Int32} (k1 : Go G (fr G m_RM_before d P) 4 [some (.ref 67), some (.int x1), some (.int (y0 + y1)), some (.int (x3 + 1))] [] I J) : Go G (fr G m_RM_before d P) 24 [some (.ref 67), some (.int x1), none, some (.int x3)] [.int y1, .int y0] I J := by
  refine g_iadd dc_RM_before_24 rfl ?_
  refine g_istore_n (L' := [some (.ref 67), some (.int x1), some (.int (y0 + y1)), some (.int x3)]) dc_RM_before_25 rfl rfl (Nat.le_of_ble_eq_true rfl) rfl ?_
  refine g_iinc (v := (x3 + 1)) (L' := [some (.ref 67), some (.int x1), some (.int (y0 + y1)), some (.int (x3 + 1))]) dc_RM_before_26 rfl rfl (by rw [show Int32.ofInt 1 = 1 from by decide]) (Nat.le_of_ble_eq_true rfl) rfl ?_
  refine g_goto (tgt := 4) dc_RM_before_29 (by decide) ?_
  exact k1
theorem dc_RM_best_0 : decode prog_14_method_33_code 0 = .ok (.iload_n 1, 1) := by decide +kernel
theorem dc_RM_best_1 : decode prog_14_method_33_code 1 = .ok (.iload_n 2, 1) := by decide +kernel
theorem dc_RM_best_2 : decode prog_14_method_33_code 2 = .ok (.iload_n 3, 1) := by decide +kernel
theorem dc_RM_best_3 : decode prog_14_method_33_code 3 = .ok (.invokestatic 217, 3) := by decide +kernel
theorem dc_RM_best_6 : decode prog_14_method_33_code 6 = .ok (.ifCond .eq 13, 3) := by decide +kernel
theorem dc_RM_best_9 : decode prog_14_method_33_code 9 = .ok (.iload 4, 2) := by decide +kernel
theorem dc_RM_best_11 : decode prog_14_method_33_code 11 = .ok (.iconst 0, 1) := by decide +kernel
theorem dc_RM_best_12 : decode prog_14_method_33_code 12 = .ok (.iconst 1, 1) := by decide +kernel
theorem dc_RM_best_13 : decode prog_14_method_33_code 13 = .ok (.invokestatic 112, 3) := by decide +kernel
theorem dc_RM_best_16 : decode prog_14_method_33_code 16 = .ok (.ifCond .ne 7, 3) := by decide +kernel
theorem dc_RM_best_19 : decode prog_14_method_33_code 19 = .ok (.ldc2_w 189, 3) := by decide +kernel
theorem dc_RM_best_22 : decode prog_14_method_33_code 22 = .ok (.lreturn, 1) := by decide +kernel
theorem dc_RM_best_23 : decode prog_14_method_33_code 23 = .ok (.aload_n 0, 1) := by decide +kernel
theorem dc_RM_best_24 : decode prog_14_method_33_code 24 = .ok (.iload_n 1, 1) := by decide +kernel
theorem dc_RM_best_25 : decode prog_14_method_33_code 25 = .ok (.iload_n 2, 1) := by decide +kernel
theorem dc_RM_best_26 : decode prog_14_method_33_code 26 = .ok (.iload_n 3, 1) := by decide +kernel
theorem dc_RM_best_27 : decode prog_14_method_33_code 27 = .ok (.aload_n 0, 1) := by decide +kernel
theorem dc_RM_best_28 : decode prog_14_method_33_code 28 = .ok (.getfield 22, 3) := by decide +kernel
theorem dc_RM_best_31 : decode prog_14_method_33_code 31 = .ok (.invokevirtual 220, 3) := by decide +kernel
theorem dc_RM_best_34 : decode prog_14_method_33_code 34 = .ok (.ifCond .eq 13, 3) := by decide +kernel
theorem dc_RM_best_37 : decode prog_14_method_33_code 37 = .ok (.aload_n 0, 1) := by decide +kernel
theorem dc_RM_best_38 : decode prog_14_method_33_code 38 = .ok (.iload_n 3, 1) := by decide +kernel
theorem dc_RM_best_39 : decode prog_14_method_33_code 39 = .ok (.iload 4, 2) := by decide +kernel
theorem dc_RM_best_41 : decode prog_14_method_33_code 41 = .ok (.invokevirtual 224, 3) := by decide +kernel
theorem dc_RM_best_44 : decode prog_14_method_33_code 44 = .ok (.goto 6, 3) := by decide +kernel
theorem dc_RM_best_47 : decode prog_14_method_33_code 47 = .ok (.ldc2_w 228, 3) := by decide +kernel
theorem dc_RM_best_50 : decode prog_14_method_33_code 50 = .ok (.lreturn, 1) := by decide +kernel
theorem w_RM_best_0 {G : GC} {d : Nat} {P : PT} {I : MI} {J : MJ} {x1 : Int32} {x2 : Int32} {x3 : Int32} {x4 : Int32} (k1 : ((f_RM_isCut x1 x2 x3) = 0) → Go G (fr G m_RM_best (d + 5) P) 19 [none, none, none, none, none] [] I J) (k2 : (¬ ((f_RM_isCut x1 x2 x3) = 0)) → (¬ (f_RM_in x4 0 1) = 0) → Ct G (d + 4) m_RM_finds [.ref 67, .int x1, .int x2, .int x3, .int (I 67 5)] (fun r I' J' => Go G (fr G m_RM_best (d + 5) P) 34 [some (.ref 67), none, none, some (.int x3), some (.int x4)] (r.toList ++ []) I' J') I J) (k3 : (¬ ((f_RM_isCut x1 x2 x3) = 0)) → ((f_RM_in x4 0 1) = 0) → Go G (fr G m_RM_best (d + 5) P) 19 [none, none, none, none, none] [] I J) : Go G (fr G m_RM_best (d + 5) P) 0 [some (.ref 67), some (.int x1), some (.int x2), some (.int x3), some (.int x4)] [] I J := by
  refine g_iload_n dc_RM_best_0 rfl rfl rfl ?_
  refine g_iload_n dc_RM_best_1 rfl rfl rfl ?_
  refine g_iload_n dc_RM_best_2 rfl rfl rfl ?_
  refine g_callS (M := m_RM_isCut) (As := [.int x1, .int x2, .int x3]) (rest := []) ok_RM_isCut st_RM_isCut ml_RM_217 rfl rfl (Nat.le_of_ble_eq_true rfl) dc_RM_best_3 rfl rOk_fr (c_RM_isCut ?_)
  show Go G (fr G m_RM_best (d + 5) P) 6 [some (.ref 67), some (.int x1), some (.int x2), some (.int x3), some (.int x4)] [.int (f_RM_isCut x1 x2 x3)] I J
  refine g_if_eq (tgt := 19) dc_RM_best_6 rfl (by decide) (fun c1 => ?_) (fun c1 => ?_)
  · refine g_weak [none, none, none, none, none] trivial ?_
    exact (k1 c1)
  · refine g_iload dc_RM_best_9 rfl rfl ?_
    refine g_iconst (v := 0) dc_RM_best_11 rfl (by decide) ?_
    refine g_iconst (v := 1) dc_RM_best_12 rfl (by decide) ?_
    refine g_callS (M := m_RM_in) (As := [.int x4, .int 0, .int 1]) (rest := []) ok_RM_in st_RM_in ml_RM_112 rfl rfl (Nat.le_of_ble_eq_true rfl) dc_RM_best_13 rfl rOk_fr (c_RM_in ?_)
    show Go G (fr G m_RM_best (d + 5) P) 16 [some (.ref 67), some (.int x1), some (.int x2), some (.int x3), some (.int x4)] [.int (f_RM_in x4 0 1)] I J
    refine g_if_ne (tgt := 23) dc_RM_best_16 rfl (by decide) (fun c2 => ?_) (fun c2 => ?_)
    · refine g_aload_n dc_RM_best_23 rfl rfl rfl ?_
      refine g_iload_n dc_RM_best_24 rfl rfl rfl ?_
      refine g_iload_n dc_RM_best_25 rfl rfl rfl ?_
      refine g_iload_n dc_RM_best_26 rfl rfl rfl ?_
      refine g_aload_n dc_RM_best_27 rfl rfl rfl ?_
      refine g_get (C := "LevelBreaksModel") (T := T_RM) (N := 45) (k := 5) (v := .int (I 67 5)) sh_67 (by decide) rfl rfl i_RM (by decide) fl_RM_22 (Or.inl rfl) rfl dc_RM_best_28 rfl ?_
      refine g_weak [some (.ref 67), none, none, some (.int x3), some (.int x4)] ⟨rfl, ⟨rfl, ⟨rfl, trivial⟩⟩⟩ ?_
      exact g_callV (T := T_RM) (N := 45) (As := [.int x1, .int x2, .int x3, .int (I 67 5)]) (rest := []) ok_RM_finds in_RM_finds se_RM_finds ml_RM_220 sh_67 (by decide) rfl rfl rfl (Nat.le_of_ble_eq_true rfl) dc_RM_best_31 rfl rOk_fr (k2 c1 c2)
    · refine g_weak [none, none, none, none, none] trivial ?_
      exact (k3 c1 c2)
theorem w_RM_best_19 {G : GC} {d : Nat} {P : PT} {I : MI} {J : MJ}  (q1 : P (some (.long (-9223372036854775806))) I J) : Go G (fr G m_RM_best (d + 5) P) 19 [none, none, none, none, none] [] I J := by
  refine g_ldc2 (v := (-9223372036854775806)) kl_RM_189 dc_RM_best_19 rfl ?_
  exact g_lret rfl dc_RM_best_22 q1
theorem w_RM_best_34 {G : GC} {d : Nat} {P : PT} {I : MI} {J : MJ} {x3 : Int32} {x4 : Int32} {y0 : Int32} (q1 : (y0 = 0) → P (some (.long (-9223372036854775805))) I J) (k2 : (¬ (y0 = 0)) → Ct G (d + 4) m_RM_bestTold [.ref 67, .int x3, .int x4] (fun r I' J' => Go G (fr G m_RM_best (d + 5) P) 44 [none, none, none, none, none] (r.toList ++ []) I' J') I J) : Go G (fr G m_RM_best (d + 5) P) 34 [some (.ref 67), none, none, some (.int x3), some (.int x4)] [.int y0] I J := by
  refine g_if_eq (tgt := 47) dc_RM_best_34 rfl (by decide) (fun c1 => ?_) (fun c1 => ?_)
  · refine g_ldc2 (v := (-9223372036854775805)) kl_RM_228 dc_RM_best_47 rfl ?_
    exact g_lret rfl dc_RM_best_50 (q1 c1)
  · refine g_aload_n dc_RM_best_37 rfl rfl rfl ?_
    refine g_iload_n dc_RM_best_38 rfl rfl rfl ?_
    refine g_iload dc_RM_best_39 rfl rfl ?_
    refine g_weak [none, none, none, none, none] trivial ?_
    exact g_callV (T := T_RM) (N := 45) (As := [.int x3, .int x4]) (rest := []) ok_RM_bestTold in_RM_bestTold se_RM_bestTold ml_RM_224 sh_67 (by decide) rfl rfl rfl (Nat.le_of_ble_eq_true rfl) dc_RM_best_41 rfl rOk_fr (k2 c1)
theorem w_RM_best_44 {G : GC} {d : Nat} {P : PT} {I : MI} {J : MJ} {s0 : Int64} (q1 : P (some (.long s0)) I J) : Go G (fr G m_RM_best (d + 5) P) 44 [none, none, none, none, none] [.long s0] I J := by
  refine g_goto (tgt := 50) dc_RM_best_44 (by decide) ?_
  exact g_lret rfl dc_RM_best_50 q1
theorem dc_RM_bestTold_0 : decode prog_14_method_32_code 0 = .ok (.bipush 41, 2) := by decide +kernel
theorem dc_RM_bestTold_2 : decode prog_14_method_32_code 2 = .ok (.iload_n 1, 1) := by decide +kernel
theorem dc_RM_bestTold_3 : decode prog_14_method_32_code 3 = .ok (.imul, 1) := by decide +kernel
theorem dc_RM_bestTold_4 : decode prog_14_method_32_code 4 = .ok (.istore_n 3, 1) := by decide +kernel
theorem dc_RM_bestTold_5 : decode prog_14_method_32_code 5 = .ok (.iload_n 2, 1) := by decide +kernel
theorem dc_RM_bestTold_6 : decode prog_14_method_32_code 6 = .ok (.ifCond .ne 26, 3) := by decide +kernel
theorem dc_RM_bestTold_9 : decode prog_14_method_32_code 9 = .ok (.aload_n 0, 1) := by decide +kernel
theorem dc_RM_bestTold_10 : decode prog_14_method_32_code 10 = .ok (.getfield 51, 3) := by decide +kernel
theorem dc_RM_bestTold_13 : decode prog_14_method_32_code 13 = .ok (.iload_n 3, 1) := by decide +kernel
theorem dc_RM_bestTold_14 : decode prog_14_method_32_code 14 = .ok (.laload, 1) := by decide +kernel
theorem dc_RM_bestTold_15 : decode prog_14_method_32_code 15 = .ok (.aload_n 0, 1) := by decide +kernel
theorem dc_RM_bestTold_16 : decode prog_14_method_32_code 16 = .ok (.getfield 57, 3) := by decide +kernel
theorem dc_RM_bestTold_19 : decode prog_14_method_32_code 19 = .ok (.iload_n 3, 1) := by decide +kernel
theorem dc_RM_bestTold_20 : decode prog_14_method_32_code 20 = .ok (.laload, 1) := by decide +kernel
theorem dc_RM_bestTold_21 : decode prog_14_method_32_code 21 = .ok (.lmul, 1) := by decide +kernel
theorem dc_RM_bestTold_22 : decode prog_14_method_32_code 22 = .ok (.aload_n 0, 1) := by decide +kernel
theorem dc_RM_bestTold_23 : decode prog_14_method_32_code 23 = .ok (.getfield 54, 3) := by decide +kernel
theorem dc_RM_bestTold_26 : decode prog_14_method_32_code 26 = .ok (.iload_n 3, 1) := by decide +kernel
theorem dc_RM_bestTold_27 : decode prog_14_method_32_code 27 = .ok (.laload, 1) := by decide +kernel
theorem dc_RM_bestTold_28 : decode prog_14_method_32_code 28 = .ok (.ladd, 1) := by decide +kernel
theorem dc_RM_bestTold_29 : decode prog_14_method_32_code 29 = .ok (.goto 9, 3) := by decide +kernel
theorem dc_RM_bestTold_32 : decode prog_14_method_32_code 32 = .ok (.aload_n 0, 1) := by decide +kernel
theorem dc_RM_bestTold_33 : decode prog_14_method_32_code 33 = .ok (.getfield 57, 3) := by decide +kernel
theorem dc_RM_bestTold_36 : decode prog_14_method_32_code 36 = .ok (.iload_n 3, 1) := by decide +kernel
theorem dc_RM_bestTold_37 : decode prog_14_method_32_code 37 = .ok (.laload, 1) := by decide +kernel
theorem dc_RM_bestTold_38 : decode prog_14_method_32_code 38 = .ok (.lreturn, 1) := by decide +kernel
theorem w_RM_bestTold_0 {G : GC} {d : Nat} {P : PT} {I : MI} {J : MJ} {x1 : Int32} {x2 : Int32} (b1 : (¬ x2 = 0) → vp_in (41 * x1) 287) (q2 : (¬ x2 = 0) → P (some (.long (J 82 (41 * x1).toNatClampNeg))) I J) (b3 : (x2 = 0) → vp_in (41 * x1) 287) (q4 : (x2 = 0) → P (some (.long (((J 80 (41 * x1).toNatClampNeg) * (J 82 (41 * x1).toNatClampNeg)) + (J 81 (41 * x1).toNatClampNeg)))) I J) : Go G (fr G m_RM_bestTold d P) 0 [some (.ref 67), some (.int x1), some (.int x2), none] [] I J := by
  refine g_bipush (v := 41) dc_RM_bestTold_0 rfl (by decide) ?_
  refine g_iload_n dc_RM_bestTold_2 rfl rfl rfl ?_
  refine g_imul dc_RM_bestTold_3 rfl ?_
  refine g_istore_n (L' := [some (.ref 67), some (.int x1), some (.int x2), some (.int (41 * x1))]) dc_RM_bestTold_4 rfl rfl (Nat.le_of_ble_eq_true rfl) rfl ?_
  refine g_iload_n dc_RM_bestTold_5 rfl rfl rfl ?_
  refine g_if_ne (tgt := 32) dc_RM_bestTold_6 rfl (by decide) (fun c1 => ?_) (fun c1 => ?_)
  · refine g_aload_n dc_RM_bestTold_32 rfl rfl rfl ?_
    refine g_get (C := "LevelBreaksModel") (T := T_RM) (N := 45) (k := 17) (v := .ref 82) sh_67 (by decide) rfl rfl i_RM (by decide) fl_RM_57 (Or.inl rfl) rfl dc_RM_bestTold_33 rfl ?_
    refine g_iload_n dc_RM_bestTold_36 rfl rfl rfl ?_
    refine g_laldv (v := (J 82 (41 * x1).toNatClampNeg)) sh_82 (b1 c1) rfl dc_RM_bestTold_37 rfl ?_
    exact g_lret rfl dc_RM_bestTold_38 (q2 c1)
  · refine g_aload_n dc_RM_bestTold_9 rfl rfl rfl ?_
    refine g_get (C := "LevelBreaksModel") (T := T_RM) (N := 45) (k := 15) (v := .ref 80) sh_67 (by decide) rfl rfl i_RM (by decide) fl_RM_51 (Or.inl rfl) rfl dc_RM_bestTold_10 rfl ?_
    refine g_iload_n dc_RM_bestTold_13 rfl rfl rfl ?_
    refine g_laldv (v := (J 80 (41 * x1).toNatClampNeg)) sh_80 (b3 c1) rfl dc_RM_bestTold_14 rfl ?_
    refine g_aload_n dc_RM_bestTold_15 rfl rfl rfl ?_
    refine g_get (C := "LevelBreaksModel") (T := T_RM) (N := 45) (k := 17) (v := .ref 82) sh_67 (by decide) rfl rfl i_RM (by decide) fl_RM_57 (Or.inl rfl) rfl dc_RM_bestTold_16 rfl ?_
    refine g_iload_n dc_RM_bestTold_19 rfl rfl rfl ?_
    refine g_laldv (v := (J 82 (41 * x1).toNatClampNeg)) sh_82 (b3 c1) rfl dc_RM_bestTold_20 rfl ?_
    refine g_lmul dc_RM_bestTold_21 rfl ?_
    refine g_aload_n dc_RM_bestTold_22 rfl rfl rfl ?_
    refine g_get (C := "LevelBreaksModel") (T := T_RM) (N := 45) (k := 16) (v := .ref 81) sh_67 (by decide) rfl rfl i_RM (by decide) fl_RM_54 (Or.inl rfl) rfl dc_RM_bestTold_23 rfl ?_
    refine g_iload_n dc_RM_bestTold_26 rfl rfl rfl ?_
    refine g_laldv (v := (J 81 (41 * x1).toNatClampNeg)) sh_81 (b3 c1) rfl dc_RM_bestTold_27 rfl ?_
    refine g_ladd dc_RM_bestTold_28 rfl ?_
    refine g_goto (tgt := 38) dc_RM_bestTold_29 (by decide) ?_
    exact g_lret rfl dc_RM_bestTold_38 (q4 c1)
theorem dc_RM_but_0 : decode prog_14_method_50_code 0 = .ok (.aload_n 0, 1) := by decide +kernel
theorem dc_RM_but_1 : decode prog_14_method_50_code 1 = .ok (.iconst 0, 1) := by decide +kernel
theorem dc_RM_but_2 : decode prog_14_method_50_code 2 = .ok (.putfield 145, 3) := by decide +kernel
theorem dc_RM_but_5 : decode prog_14_method_50_code 5 = .ok (.iconst 0, 1) := by decide +kernel
theorem dc_RM_but_6 : decode prog_14_method_50_code 6 = .ok (.istore_n 3, 1) := by decide +kernel
theorem dc_RM_but_7 : decode prog_14_method_50_code 7 = .ok (.iload_n 3, 1) := by decide +kernel
theorem dc_RM_but_8 : decode prog_14_method_50_code 8 = .ok (.aload_n 0, 1) := by decide +kernel
theorem dc_RM_but_9 : decode prog_14_method_50_code 9 = .ok (.getfield 266, 3) := by decide +kernel
theorem dc_RM_but_12 : decode prog_14_method_50_code 12 = .ok (.if_icmp .ge 59, 3) := by decide +kernel
theorem dc_RM_but_15 : decode prog_14_method_50_code 15 = .ok (.iload_n 3, 1) := by decide +kernel
theorem dc_RM_but_16 : decode prog_14_method_50_code 16 = .ok (.iload_n 1, 1) := by decide +kernel
theorem dc_RM_but_17 : decode prog_14_method_50_code 17 = .ok (.if_icmp .eq 48, 3) := by decide +kernel
theorem dc_RM_but_20 : decode prog_14_method_50_code 20 = .ok (.iload_n 3, 1) := by decide +kernel
theorem dc_RM_but_21 : decode prog_14_method_50_code 21 = .ok (.iload_n 2, 1) := by decide +kernel
theorem dc_RM_but_22 : decode prog_14_method_50_code 22 = .ok (.if_icmp .eq 43, 3) := by decide +kernel
theorem dc_RM_but_25 : decode prog_14_method_50_code 25 = .ok (.aload_n 0, 1) := by decide +kernel
theorem dc_RM_but_26 : decode prog_14_method_50_code 26 = .ok (.getfield 29, 3) := by decide +kernel
theorem dc_RM_but_29 : decode prog_14_method_50_code 29 = .ok (.aload_n 0, 1) := by decide +kernel
theorem dc_RM_but_30 : decode prog_14_method_50_code 30 = .ok (.getfield 145, 3) := by decide +kernel
theorem dc_RM_but_33 : decode prog_14_method_50_code 33 = .ok (.aload_n 0, 1) := by decide +kernel
theorem dc_RM_but_34 : decode prog_14_method_50_code 34 = .ok (.getfield 72, 3) := by decide +kernel
theorem dc_RM_but_37 : decode prog_14_method_50_code 37 = .ok (.iload_n 3, 1) := by decide +kernel
theorem dc_RM_but_38 : decode prog_14_method_50_code 38 = .ok (.iaload, 1) := by decide +kernel
theorem dc_RM_but_39 : decode prog_14_method_50_code 39 = .ok (.iastore, 1) := by decide +kernel
theorem dc_RM_but_40 : decode prog_14_method_50_code 40 = .ok (.aload_n 0, 1) := by decide +kernel
theorem dc_RM_but_41 : decode prog_14_method_50_code 41 = .ok (.getfield 32, 3) := by decide +kernel
theorem dc_RM_but_44 : decode prog_14_method_50_code 44 = .ok (.aload_n 0, 1) := by decide +kernel
theorem dc_RM_but_45 : decode prog_14_method_50_code 45 = .ok (.getfield 145, 3) := by decide +kernel
theorem dc_RM_but_48 : decode prog_14_method_50_code 48 = .ok (.aload_n 0, 1) := by decide +kernel
theorem dc_RM_but_49 : decode prog_14_method_50_code 49 = .ok (.getfield 75, 3) := by decide +kernel
theorem dc_RM_but_52 : decode prog_14_method_50_code 52 = .ok (.iload_n 3, 1) := by decide +kernel
theorem dc_RM_but_53 : decode prog_14_method_50_code 53 = .ok (.iaload, 1) := by decide +kernel
theorem dc_RM_but_54 : decode prog_14_method_50_code 54 = .ok (.iastore, 1) := by decide +kernel
theorem dc_RM_but_55 : decode prog_14_method_50_code 55 = .ok (.aload_n 0, 1) := by decide +kernel
theorem dc_RM_but_56 : decode prog_14_method_50_code 56 = .ok (.dup, 1) := by decide +kernel
theorem dc_RM_but_57 : decode prog_14_method_50_code 57 = .ok (.getfield 145, 3) := by decide +kernel
theorem dc_RM_but_60 : decode prog_14_method_50_code 60 = .ok (.iconst 1, 1) := by decide +kernel
theorem dc_RM_but_61 : decode prog_14_method_50_code 61 = .ok (.iadd, 1) := by decide +kernel
theorem dc_RM_but_62 : decode prog_14_method_50_code 62 = .ok (.putfield 145, 3) := by decide +kernel
theorem dc_RM_but_65 : decode prog_14_method_50_code 65 = .ok (.iinc 3 1, 3) := by decide +kernel
theorem dc_RM_but_68 : decode prog_14_method_50_code 68 = .ok (.goto (-61), 3) := by decide +kernel
theorem dc_RM_but_71 : decode prog_14_method_50_code 71 = .ok (.return_, 1) := by decide +kernel
theorem w_RM_but_0 {G : GC} {d : Nat} {P : PT} {I : MI} {J : MJ} {x1 : Int32} {x2 : Int32} (k1 : Go G (fr G m_RM_but d P) 7 [some (.ref 67), some (.int x1), some (.int x2), some (.int 0)] [] (u2 I 67 7 0) J) : Go G (fr G m_RM_but d P) 0 [some (.ref 67), some (.int x1), some (.int x2), none] [] I J := by
  refine g_aload_n dc_RM_but_0 rfl rfl rfl ?_
  refine g_iconst (v := 0) dc_RM_but_1 rfl (by decide) ?_
  refine g_putI (C := "LevelBreaksModel") (T := T_RM) (N := 45) (k := 7) (ty := t_RM) sh_67 (by decide) rfl rfl i_RM p_RM n_RM (by decide) fl_RM_145 (Or.inl rfl) rfl (by decide) dc_RM_but_2 rfl ?_
  refine g_iconst (v := 0) dc_RM_but_5 rfl (by decide) ?_
  refine g_istore_n (L' := [some (.ref 67), some (.int x1), some (.int x2), some (.int 0)]) dc_RM_but_6 rfl rfl (Nat.le_of_ble_eq_true rfl) rfl ?_
  exact k1
theorem w_RM_but_7 {G : GC} {d : Nat} {P : PT} {I : MI} {J : MJ} {x1 : Int32} {x2 : Int32} {x3 : Int32} (q1 : ((I 67 25) ≤ x3) → P none I J) (k2 : (¬ ((I 67 25) ≤ x3)) → (x3 = x1) → Go G (fr G m_RM_but d P) 65 [some (.ref 67), some (.int x1), some (.int x2), some (.int x3)] [] I J) (k3 : (¬ ((I 67 25) ≤ x3)) → (¬ (x3 = x1)) → (x3 = x2) → Go G (fr G m_RM_but d P) 65 [some (.ref 67), some (.int x1), some (.int x2), some (.int x3)] [] I J) (b4 : (¬ ((I 67 25) ≤ x3)) → (¬ (x3 = x1)) → (¬ (x3 = x2)) → vp_in x3 40) (b5 : (¬ ((I 67 25) ≤ x3)) → (¬ (x3 = x1)) → (¬ (x3 = x2)) → vp_in (I 67 7) 40) (k6 : (¬ ((I 67 25) ≤ x3)) → (¬ (x3 = x1)) → (¬ (x3 = x2)) → Go G (fr G m_RM_but d P) 65 [some (.ref 67), some (.int x1), some (.int x2), some (.int x3)] [] (u2 (u2 (u2 I 73 (I 67 7).toNatClampNeg (I 87 x3.toNatClampNeg)) 74 (I 67 7).toNatClampNeg (I 88 x3.toNatClampNeg)) 67 7 ((I 67 7) + 1)) J) : Go G (fr G m_RM_but d P) 7 [some (.ref 67), some (.int x1), some (.int x2), some (.int x3)] [] I J := by
  refine g_iload_n dc_RM_but_7 rfl rfl rfl ?_
  refine g_aload_n dc_RM_but_8 rfl rfl rfl ?_
  refine g_get (C := "LevelBreaksModel") (T := T_RM) (N := 45) (k := 25) (v := .int (I 67 25)) sh_67 (by decide) rfl rfl i_RM (by decide) fl_RM_266 (Or.inl rfl) rfl dc_RM_but_9 rfl ?_
  refine g_ic_ge (tgt := 71) dc_RM_but_12 rfl (by decide) (fun c1 => ?_) (fun c1 => ?_)
  · exact g_vret rfl dc_RM_but_71 (q1 c1)
  · refine g_iload_n dc_RM_but_15 rfl rfl rfl ?_
    refine g_iload_n dc_RM_but_16 rfl rfl rfl ?_
    refine g_ic_eq (tgt := 65) dc_RM_but_17 rfl (by decide) (fun c2 => ?_) (fun c2 => ?_)
    · exact (k2 c1 c2)
    · refine g_iload_n dc_RM_but_20 rfl rfl rfl ?_
      refine g_iload_n dc_RM_but_21 rfl rfl rfl ?_
      refine g_ic_eq (tgt := 65) dc_RM_but_22 rfl (by decide) (fun c3 => ?_) (fun c3 => ?_)
      · exact (k3 c1 c2 c3)
      · refine g_aload_n dc_RM_but_25 rfl rfl rfl ?_
        refine g_get (C := "LevelBreaksModel") (T := T_RM) (N := 45) (k := 8) (v := .ref 73) sh_67 (by decide) rfl rfl i_RM (by decide) fl_RM_29 (Or.inl rfl) rfl dc_RM_but_26 rfl ?_
        refine g_aload_n dc_RM_but_29 rfl rfl rfl ?_
        refine g_get (C := "LevelBreaksModel") (T := T_RM) (N := 45) (k := 7) (v := .int (I 67 7)) sh_67 (by decide) rfl rfl i_RM (by decide) fl_RM_145 (Or.inl rfl) rfl dc_RM_but_30 rfl ?_
        refine g_aload_n dc_RM_but_33 rfl rfl rfl ?_
        refine g_get (C := "LevelBreaksModel") (T := T_RM) (N := 45) (k := 26) (v := .ref 87) sh_67 (by decide) rfl rfl i_RM (by decide) fl_RM_72 (Or.inl rfl) rfl dc_RM_but_34 rfl ?_
        refine g_iload_n dc_RM_but_37 rfl rfl rfl ?_
        refine g_ialdv (v := (I 87 x3.toNatClampNeg)) sh_87 (b4 c1 c2 c3) rfl dc_RM_but_38 rfl ?_
        refine g_iast sh_73 (b5 c1 c2 c3) dc_RM_but_39 rfl ?_
        refine g_aload_n dc_RM_but_40 rfl rfl rfl ?_
        refine g_get (C := "LevelBreaksModel") (T := T_RM) (N := 45) (k := 9) (v := .ref 74) sh_67 (by decide) rfl rfl i_RM (by decide) fl_RM_32 (Or.inl rfl) rfl dc_RM_but_41 rfl ?_
        refine g_aload_n dc_RM_but_44 rfl rfl rfl ?_
        refine g_get (C := "LevelBreaksModel") (T := T_RM) (N := 45) (k := 7) (v := .int (I 67 7)) sh_67 (by decide) rfl rfl i_RM (by decide) fl_RM_145 (Or.inl rfl) rfl dc_RM_but_45 rfl ?_
        refine g_aload_n dc_RM_but_48 rfl rfl rfl ?_
        refine g_get (C := "LevelBreaksModel") (T := T_RM) (N := 45) (k := 27) (v := .ref 88) sh_67 (by decide) rfl rfl i_RM (by decide) fl_RM_75 (Or.inl rfl) rfl dc_RM_but_49 rfl ?_
        refine g_iload_n dc_RM_but_52 rfl rfl rfl ?_
        refine g_ialdv (v := (I 88 x3.toNatClampNeg)) sh_88 (b4 c1 c2 c3) rfl dc_RM_but_53 rfl ?_
        refine g_iast sh_74 (b5 c1 c2 c3) dc_RM_but_54 rfl ?_
        refine g_aload_n dc_RM_but_55 rfl rfl rfl ?_
        refine g_dup dc_RM_but_56 rfl rfl ?_
        refine g_get (C := "LevelBreaksModel") (T := T_RM) (N := 45) (k := 7) (v := .int (I 67 7)) sh_67 (by decide) rfl rfl i_RM (by decide) fl_RM_145 (Or.inl rfl) rfl dc_RM_but_57 rfl ?_
        refine g_iconst (v := 1) dc_RM_but_60 rfl (by decide) ?_
        refine g_iadd dc_RM_but_61 rfl ?_
        refine g_putI (C := "LevelBreaksModel") (T := T_RM) (N := 45) (k := 7) (ty := t_RM) sh_67 (by decide) rfl rfl i_RM p_RM n_RM (by decide) fl_RM_145 (Or.inl rfl) rfl (by decide) dc_RM_but_62 rfl ?_
        exact (k6 c1 c2 c3)
theorem w_RM_but_65 {G : GC} {d : Nat} {P : PT} {I : MI} {J : MJ} {x1 : Int32} {x2 : Int32} {x3 : Int32} (k1 : Go G (fr G m_RM_but d P) 7 [some (.ref 67), some (.int x1), some (.int x2), some (.int (x3 + 1))] [] I J) : Go G (fr G m_RM_but d P) 65 [some (.ref 67), some (.int x1), some (.int x2), some (.int x3)] [] I J := by
  refine g_iinc (v := (x3 + 1)) (L' := [some (.ref 67), some (.int x1), some (.int x2), some (.int (x3 + 1))]) dc_RM_but_65 rfl rfl (by rw [show Int32.ofInt 1 = 1 from by decide]) (Nat.le_of_ble_eq_true rfl) rfl ?_
  refine g_goto (tgt := 7) dc_RM_but_68 (by decide) ?_
  exact k1
theorem dc_RM_byteAt_0 : decode prog_14_method_64_code 0 = .ok (.iload_n 1, 1) := by decide +kernel
theorem dc_RM_byteAt_1 : decode prog_14_method_64_code 1 = .ok (.aload_n 0, 1) := by decide +kernel
theorem dc_RM_byteAt_2 : decode prog_14_method_64_code 2 = .ok (.getfield 296, 3) := by decide +kernel
theorem dc_RM_byteAt_5 : decode prog_14_method_64_code 5 = .ok (.if_icmp .ge 12, 3) := by decide +kernel
theorem dc_RM_byteAt_8 : decode prog_14_method_64_code 8 = .ok (.aload_n 0, 1) := by decide +kernel
theorem dc_RM_byteAt_9 : decode prog_14_method_64_code 9 = .ok (.getfield 85, 3) := by decide +kernel
theorem dc_RM_byteAt_12 : decode prog_14_method_64_code 12 = .ok (.iload_n 1, 1) := by decide +kernel
theorem dc_RM_byteAt_13 : decode prog_14_method_64_code 13 = .ok (.iaload, 1) := by decide +kernel
theorem dc_RM_byteAt_14 : decode prog_14_method_64_code 14 = .ok (.goto 4, 3) := by decide +kernel
theorem dc_RM_byteAt_17 : decode prog_14_method_64_code 17 = .ok (.iconst (-1), 1) := by decide +kernel
theorem dc_RM_byteAt_18 : decode prog_14_method_64_code 18 = .ok (.ireturn, 1) := by decide +kernel
theorem w_RM_byteAt_0 {G : GC} {d : Nat} {P : PT} {I : MI} {J : MJ} {x1 : Int32} (q1 : ((I 67 31) ≤ x1) → P (some (.int (-1))) I J) (b2 : (¬ ((I 67 31) ≤ x1)) → vp_in x1 100) (q3 : (¬ ((I 67 31) ≤ x1)) → P (some (.int (I 91 x1.toNatClampNeg))) I J) : Go G (fr G m_RM_byteAt d P) 0 [some (.ref 67), some (.int x1)] [] I J := by
  refine g_iload_n dc_RM_byteAt_0 rfl rfl rfl ?_
  refine g_aload_n dc_RM_byteAt_1 rfl rfl rfl ?_
  refine g_get (C := "LevelBreaksModel") (T := T_RM) (N := 45) (k := 31) (v := .int (I 67 31)) sh_67 (by decide) rfl rfl i_RM (by decide) fl_RM_296 (Or.inl rfl) rfl dc_RM_byteAt_2 rfl ?_
  refine g_ic_ge (tgt := 17) dc_RM_byteAt_5 rfl (by decide) (fun c1 => ?_) (fun c1 => ?_)
  · refine g_iconst (v := (-1)) dc_RM_byteAt_17 rfl (by decide) ?_
    exact g_iret rfl dc_RM_byteAt_18 (q1 c1)
  · refine g_aload_n dc_RM_byteAt_8 rfl rfl rfl ?_
    refine g_get (C := "LevelBreaksModel") (T := T_RM) (N := 45) (k := 32) (v := .ref 91) sh_67 (by decide) rfl rfl i_RM (by decide) fl_RM_85 (Or.inl rfl) rfl dc_RM_byteAt_9 rfl ?_
    refine g_iload_n dc_RM_byteAt_12 rfl rfl rfl ?_
    refine g_ialdv (v := (I 91 x1.toNatClampNeg)) sh_91 (b2 c1) rfl dc_RM_byteAt_13 rfl ?_
    refine g_goto (tgt := 18) dc_RM_byteAt_14 (by decide) ?_
    exact g_iret rfl dc_RM_byteAt_18 (q3 c1)
theorem dc_RM_choose_0 : decode prog_14_method_52_code 0 = .ok (.iload_n 1, 1) := by decide +kernel
theorem dc_RM_choose_1 : decode prog_14_method_52_code 1 = .ok (.iload_n 0, 1) := by decide +kernel
theorem dc_RM_choose_2 : decode prog_14_method_52_code 2 = .ok (.if_icmp .le 7, 3) := by decide +kernel
theorem dc_RM_choose_5 : decode prog_14_method_52_code 5 = .ok (.lconst 0, 1) := by decide +kernel
theorem dc_RM_choose_6 : decode prog_14_method_52_code 6 = .ok (.goto 4, 3) := by decide +kernel
theorem dc_RM_choose_9 : decode prog_14_method_52_code 9 = .ok (.lconst 1, 1) := by decide +kernel
theorem dc_RM_choose_10 : decode prog_14_method_52_code 10 = .ok (.lstore_n 2, 1) := by decide +kernel
theorem dc_RM_choose_11 : decode prog_14_method_52_code 11 = .ok (.iconst 1, 1) := by decide +kernel
theorem dc_RM_choose_12 : decode prog_14_method_52_code 12 = .ok (.istore 4, 2) := by decide +kernel
theorem dc_RM_choose_14 : decode prog_14_method_52_code 14 = .ok (.iload 4, 2) := by decide +kernel
theorem dc_RM_choose_16 : decode prog_14_method_52_code 16 = .ok (.iload_n 1, 1) := by decide +kernel
theorem dc_RM_choose_17 : decode prog_14_method_52_code 17 = .ok (.if_icmp .gt 29, 3) := by decide +kernel
theorem dc_RM_choose_20 : decode prog_14_method_52_code 20 = .ok (.lload_n 2, 1) := by decide +kernel
theorem dc_RM_choose_21 : decode prog_14_method_52_code 21 = .ok (.lconst 0, 1) := by decide +kernel
theorem dc_RM_choose_22 : decode prog_14_method_52_code 22 = .ok (.lcmp, 1) := by decide +kernel
theorem dc_RM_choose_23 : decode prog_14_method_52_code 23 = .ok (.ifCond .le 23, 3) := by decide +kernel
theorem dc_RM_choose_26 : decode prog_14_method_52_code 26 = .ok (.lload_n 2, 1) := by decide +kernel
theorem dc_RM_choose_27 : decode prog_14_method_52_code 27 = .ok (.iload_n 0, 1) := by decide +kernel
theorem dc_RM_choose_28 : decode prog_14_method_52_code 28 = .ok (.iload_n 1, 1) := by decide +kernel
theorem dc_RM_choose_29 : decode prog_14_method_52_code 29 = .ok (.isub, 1) := by decide +kernel
theorem dc_RM_choose_30 : decode prog_14_method_52_code 30 = .ok (.iload 4, 2) := by decide +kernel
theorem dc_RM_choose_32 : decode prog_14_method_52_code 32 = .ok (.iadd, 1) := by decide +kernel
theorem dc_RM_choose_33 : decode prog_14_method_52_code 33 = .ok (.i2l, 1) := by decide +kernel
theorem dc_RM_choose_34 : decode prog_14_method_52_code 34 = .ok (.lmul, 1) := by decide +kernel
theorem dc_RM_choose_35 : decode prog_14_method_52_code 35 = .ok (.iload 4, 2) := by decide +kernel
theorem dc_RM_choose_37 : decode prog_14_method_52_code 37 = .ok (.i2l, 1) := by decide +kernel
theorem dc_RM_choose_38 : decode prog_14_method_52_code 38 = .ok (.ldiv, 1) := by decide +kernel
theorem dc_RM_choose_39 : decode prog_14_method_52_code 39 = .ok (.lstore_n 2, 1) := by decide +kernel
theorem dc_RM_choose_40 : decode prog_14_method_52_code 40 = .ok (.iinc 4 1, 3) := by decide +kernel
theorem dc_RM_choose_43 : decode prog_14_method_52_code 43 = .ok (.goto (-29), 3) := by decide +kernel
theorem dc_RM_choose_46 : decode prog_14_method_52_code 46 = .ok (.lload_n 2, 1) := by decide +kernel
theorem dc_RM_choose_47 : decode prog_14_method_52_code 47 = .ok (.lreturn, 1) := by decide +kernel
theorem w_RM_choose_0 {G : GC} {d : Nat} {P : PT} {I : MI} {J : MJ} {x0 : Int32} {x1 : Int32} (k1 : (x1 ≤ x0) → Go G (fr G m_RM_choose d P) 10 [some (.int x0), some (.int x1), none, none, none] [.long 1] I J) (k2 : (¬ (x1 ≤ x0)) → Go G (fr G m_RM_choose d P) 10 [some (.int x0), some (.int x1), none, none, none] [.long 0] I J) : Go G (fr G m_RM_choose d P) 0 [some (.int x0), some (.int x1), none, none, none] [] I J := by
  refine g_iload_n dc_RM_choose_0 rfl rfl rfl ?_
  refine g_iload_n dc_RM_choose_1 rfl rfl rfl ?_
  refine g_ic_le (tgt := 9) dc_RM_choose_2 rfl (by decide) (fun c1 => ?_) (fun c1 => ?_)
  · refine g_lconst (v := 1) dc_RM_choose_9 rfl (by decide) ?_
    exact (k1 c1)
  · refine g_lconst (v := 0) dc_RM_choose_5 rfl (by decide) ?_
    refine g_goto (tgt := 10) dc_RM_choose_6 (by decide) ?_
    exact (k2 c1)
theorem w_RM_choose_10 {G : GC} {d : Nat} {P : PT} {I : MI} {J : MJ} {x0 : Int32} {x1 : Int32} {s0 : Int64} (k1 : Go G (fr G m_RM_choose d P) 14 [some (.int x0), some (.int x1), some (.long s0), none, some (.int 1)] [] I J) : Go G (fr G m_RM_choose d P) 10 [some (.int x0), some (.int x1), none, none, none] [.long s0] I J := by
  refine g_lstore_n (L' := [some (.int x0), some (.int x1), some (.long s0), none, none]) dc_RM_choose_10 rfl rfl (Nat.le_of_ble_eq_true rfl) rfl ?_
  refine g_iconst (v := 1) dc_RM_choose_11 rfl (by decide) ?_
  refine g_istore (L' := [some (.int x0), some (.int x1), some (.long s0), none, some (.int 1)]) dc_RM_choose_12 rfl (Nat.le_of_ble_eq_true rfl) rfl ?_
  exact k1
theorem w_RM_choose_14 {G : GC} {d : Nat} {P : PT} {I : MI} {J : MJ} {x0 : Int32} {x1 : Int32} {l2 : Int64} {x4 : Int32} (k1 : (x1 < x4) → Go G (fr G m_RM_choose d P) 46 [none, none, some (.long l2), none, none] [] I J) (k2 : (¬ (x1 < x4)) → (l2 ≤ 0) → Go G (fr G m_RM_choose d P) 46 [none, none, some (.long l2), none, none] [] I J) (z3 : (¬ (x1 < x4)) → (¬ (l2 ≤ 0)) → ¬ (Int32.toInt64 x4) = 0) (k4 : (¬ (x1 < x4)) → (¬ (l2 ≤ 0)) → Go G (fr G m_RM_choose d P) 14 [some (.int x0), some (.int x1), some (.long ((l2 * (Int32.toInt64 ((x0 - x1) + x4))) / (Int32.toInt64 x4))), none, some (.int (x4 + 1))] [] I J) : Go G (fr G m_RM_choose d P) 14 [some (.int x0), some (.int x1), some (.long l2), none, some (.int x4)] [] I J := by
  refine g_iload dc_RM_choose_14 rfl rfl ?_
  refine g_iload_n dc_RM_choose_16 rfl rfl rfl ?_
  refine g_ic_gt (tgt := 46) dc_RM_choose_17 rfl (by decide) (fun c1 => ?_) (fun c1 => ?_)
  · refine g_weak [none, none, some (.long l2), none, none] ⟨rfl, trivial⟩ ?_
    exact (k1 c1)
  · refine g_lload_n dc_RM_choose_20 rfl rfl rfl ?_
    refine g_lconst (v := 0) dc_RM_choose_21 rfl (by decide) ?_
    refine g_lc_le (tgt := 46) dc_RM_choose_22 rfl dc_RM_choose_23 rfl (by decide) (fun c2 => ?_) (fun c2 => ?_)
    · refine g_weak [none, none, some (.long l2), none, none] ⟨rfl, trivial⟩ ?_
      exact (k2 c1 c2)
    · refine g_lload_n dc_RM_choose_26 rfl rfl rfl ?_
      refine g_iload_n dc_RM_choose_27 rfl rfl rfl ?_
      refine g_iload_n dc_RM_choose_28 rfl rfl rfl ?_
      refine g_isub dc_RM_choose_29 rfl ?_
      refine g_iload dc_RM_choose_30 rfl rfl ?_
      refine g_iadd dc_RM_choose_32 rfl ?_
      refine g_i2l dc_RM_choose_33 rfl ?_
      refine g_lmul dc_RM_choose_34 rfl ?_
      refine g_iload dc_RM_choose_35 rfl rfl ?_
      refine g_i2l dc_RM_choose_37 rfl ?_
      refine g_ldiv dc_RM_choose_38 rfl (z3 c1 c2) ?_
      refine g_lstore_n (L' := [some (.int x0), some (.int x1), some (.long ((l2 * (Int32.toInt64 ((x0 - x1) + x4))) / (Int32.toInt64 x4))), none, some (.int x4)]) dc_RM_choose_39 rfl rfl (Nat.le_of_ble_eq_true rfl) rfl ?_
      refine g_iinc (v := (x4 + 1)) (L' := [some (.int x0), some (.int x1), some (.long ((l2 * (Int32.toInt64 ((x0 - x1) + x4))) / (Int32.toInt64 x4))), none, some (.int (x4 + 1))]) dc_RM_choose_40 rfl rfl (by rw [show Int32.ofInt 1 = 1 from by decide]) (Nat.le_of_ble_eq_true rfl) rfl ?_
      refine g_goto (tgt := 14) dc_RM_choose_43 (by decide) ?_
      exact (k4 c1 c2)
theorem w_RM_choose_46 {G : GC} {d : Nat} {P : PT} {I : MI} {J : MJ} {l2 : Int64} (q1 : P (some (.long l2)) I J) : Go G (fr G m_RM_choose d P) 46 [none, none, some (.long l2), none, none] [] I J := by
  refine g_lload_n dc_RM_choose_46 rfl rfl rfl ?_
  exact g_lret rfl dc_RM_choose_47 q1
theorem dc_RM_common_0 : decode prog_14_method_44_code 0 = .ok (.iload_n 1, 1) := by decide +kernel
theorem dc_RM_common_1 : decode prog_14_method_44_code 1 = .ok (.iload_n 2, 1) := by decide +kernel
theorem dc_RM_common_2 : decode prog_14_method_44_code 2 = .ok (.iload_n 3, 1) := by decide +kernel
theorem dc_RM_common_3 : decode prog_14_method_44_code 3 = .ok (.invokestatic 252, 3) := by decide +kernel
theorem dc_RM_common_6 : decode prog_14_method_44_code 6 = .ok (.ifCond .ne 6, 3) := by decide +kernel
theorem dc_RM_common_9 : decode prog_14_method_44_code 9 = .ok (.bipush (-2), 2) := by decide +kernel
theorem dc_RM_common_11 : decode prog_14_method_44_code 11 = .ok (.ireturn, 1) := by decide +kernel
theorem dc_RM_common_12 : decode prog_14_method_44_code 12 = .ok (.aload_n 0, 1) := by decide +kernel
theorem dc_RM_common_13 : decode prog_14_method_44_code 13 = .ok (.iload_n 1, 1) := by decide +kernel
theorem dc_RM_common_14 : decode prog_14_method_44_code 14 = .ok (.iload_n 2, 1) := by decide +kernel
theorem dc_RM_common_15 : decode prog_14_method_44_code 15 = .ok (.iload_n 3, 1) := by decide +kernel
theorem dc_RM_common_16 : decode prog_14_method_44_code 16 = .ok (.invokevirtual 255, 3) := by decide +kernel
theorem dc_RM_common_19 : decode prog_14_method_44_code 19 = .ok (.ifCond .eq 16, 3) := by decide +kernel
theorem dc_RM_common_22 : decode prog_14_method_44_code 22 = .ok (.aload_n 0, 1) := by decide +kernel
theorem dc_RM_common_23 : decode prog_14_method_44_code 23 = .ok (.getfield 66, 3) := by decide +kernel
theorem dc_RM_common_26 : decode prog_14_method_44_code 26 = .ok (.bipush 41, 2) := by decide +kernel
theorem dc_RM_common_28 : decode prog_14_method_44_code 28 = .ok (.iload_n 3, 1) := by decide +kernel
theorem dc_RM_common_29 : decode prog_14_method_44_code 29 = .ok (.imul, 1) := by decide +kernel
theorem dc_RM_common_30 : decode prog_14_method_44_code 30 = .ok (.laload, 1) := by decide +kernel
theorem dc_RM_common_31 : decode prog_14_method_44_code 31 = .ok (.l2i, 1) := by decide +kernel
theorem dc_RM_common_32 : decode prog_14_method_44_code 32 = .ok (.goto 5, 3) := by decide +kernel
theorem dc_RM_common_35 : decode prog_14_method_44_code 35 = .ok (.bipush (-3), 2) := by decide +kernel
theorem dc_RM_common_37 : decode prog_14_method_44_code 37 = .ok (.ireturn, 1) := by decide +kernel
theorem w_RM_common_0 {G : GC} {d : Nat} {P : PT} {I : MI} {J : MJ} {x1 : Int32} {x2 : Int32} {x3 : Int32} (k1 : (¬ (f_RM_isCommonCut x1 x2 x3) = 0) → Ct G (d + 5) m_RM_shares [.ref 67, .int x1, .int x2, .int x3] (fun r I' J' => Go G (fr G m_RM_common (d + 6) P) 19 [some (.ref 67), none, none, some (.int x3)] (r.toList ++ []) I' J') I J) (q2 : ((f_RM_isCommonCut x1 x2 x3) = 0) → P (some (.int (-2))) I J) : Go G (fr G m_RM_common (d + 6) P) 0 [some (.ref 67), some (.int x1), some (.int x2), some (.int x3)] [] I J := by
  refine g_iload_n dc_RM_common_0 rfl rfl rfl ?_
  refine g_iload_n dc_RM_common_1 rfl rfl rfl ?_
  refine g_iload_n dc_RM_common_2 rfl rfl rfl ?_
  refine g_callS (M := m_RM_isCommonCut) (As := [.int x1, .int x2, .int x3]) (rest := []) ok_RM_isCommonCut st_RM_isCommonCut ml_RM_252 rfl rfl (Nat.le_of_ble_eq_true rfl) dc_RM_common_3 rfl rOk_fr (c_RM_isCommonCut ?_)
  show Go G (fr G m_RM_common (d + 6) P) 6 [some (.ref 67), some (.int x1), some (.int x2), some (.int x3)] [.int (f_RM_isCommonCut x1 x2 x3)] I J
  refine g_if_ne (tgt := 12) dc_RM_common_6 rfl (by decide) (fun c1 => ?_) (fun c1 => ?_)
  · refine g_aload_n dc_RM_common_12 rfl rfl rfl ?_
    refine g_iload_n dc_RM_common_13 rfl rfl rfl ?_
    refine g_iload_n dc_RM_common_14 rfl rfl rfl ?_
    refine g_iload_n dc_RM_common_15 rfl rfl rfl ?_
    refine g_weak [some (.ref 67), none, none, some (.int x3)] ⟨rfl, ⟨rfl, trivial⟩⟩ ?_
    exact g_callV (T := T_RM) (N := 45) (As := [.int x1, .int x2, .int x3]) (rest := []) ok_RM_shares in_RM_shares se_RM_shares ml_RM_255 sh_67 (by decide) rfl rfl rfl (Nat.le_of_ble_eq_true rfl) dc_RM_common_16 rfl rOk_fr (k1 c1)
  · refine g_bipush (v := (-2)) dc_RM_common_9 rfl (by decide) ?_
    exact g_iret rfl dc_RM_common_11 (q2 c1)
theorem w_RM_common_19 {G : GC} {d : Nat} {P : PT} {I : MI} {J : MJ} {x3 : Int32} {y0 : Int32} (q1 : (y0 = 0) → P (some (.int (-3))) I J) (b2 : (¬ (y0 = 0)) → vp_in (41 * x3) 287) (q3 : (¬ (y0 = 0)) → P (some (.int (Int64.toInt32 (J 85 (41 * x3).toNatClampNeg)))) I J) : Go G (fr G m_RM_common (d + 6) P) 19 [some (.ref 67), none, none, some (.int x3)] [.int y0] I J := by
  refine g_if_eq (tgt := 35) dc_RM_common_19 rfl (by decide) (fun c1 => ?_) (fun c1 => ?_)
  · refine g_bipush (v := (-3)) dc_RM_common_35 rfl (by decide) ?_
    exact g_iret rfl dc_RM_common_37 (q1 c1)
  · refine g_aload_n dc_RM_common_22 rfl rfl rfl ?_
    refine g_get (C := "LevelBreaksModel") (T := T_RM) (N := 45) (k := 23) (v := .ref 85) sh_67 (by decide) rfl rfl i_RM (by decide) fl_RM_66 (Or.inl rfl) rfl dc_RM_common_23 rfl ?_
    refine g_bipush (v := 41) dc_RM_common_26 rfl (by decide) ?_
    refine g_iload_n dc_RM_common_28 rfl rfl rfl ?_
    refine g_imul dc_RM_common_29 rfl ?_
    refine g_laldv (v := (J 85 (41 * x3).toNatClampNeg)) sh_85 (b2 c1) rfl dc_RM_common_30 rfl ?_
    refine g_l2i dc_RM_common_31 rfl ?_
    refine g_goto (tgt := 37) dc_RM_common_32 (by decide) ?_
    exact g_iret rfl dc_RM_common_37 (q3 c1)
theorem dc_RM_commonCosts_0 : decode prog_14_method_39_code 0 = .ok (.iconst 0, 1) := by decide +kernel
theorem dc_RM_commonCosts_1 : decode prog_14_method_39_code 1 = .ok (.istore_n 3, 1) := by decide +kernel
theorem dc_RM_commonCosts_2 : decode prog_14_method_39_code 2 = .ok (.iload_n 3, 1) := by decide +kernel
theorem dc_RM_commonCosts_3 : decode prog_14_method_39_code 3 = .ok (.sipush 1600, 3) := by decide +kernel
theorem dc_RM_commonCosts_6 : decode prog_14_method_39_code 6 = .ok (.if_icmp .ge 16, 3) := by decide +kernel
theorem dc_RM_commonCosts_9 : decode prog_14_method_39_code 9 = .ok (.aload_n 0, 1) := by decide +kernel
theorem dc_RM_commonCosts_10 : decode prog_14_method_39_code 10 = .ok (.getfield 63, 3) := by decide +kernel
theorem dc_RM_commonCosts_13 : decode prog_14_method_39_code 13 = .ok (.iload_n 3, 1) := by decide +kernel
theorem dc_RM_commonCosts_14 : decode prog_14_method_39_code 14 = .ok (.lconst 0, 1) := by decide +kernel
theorem dc_RM_commonCosts_15 : decode prog_14_method_39_code 15 = .ok (.lastore, 1) := by decide +kernel
theorem dc_RM_commonCosts_16 : decode prog_14_method_39_code 16 = .ok (.iinc 3 1, 3) := by decide +kernel
theorem dc_RM_commonCosts_19 : decode prog_14_method_39_code 19 = .ok (.goto (-17), 3) := by decide +kernel
theorem dc_RM_commonCosts_22 : decode prog_14_method_39_code 22 = .ok (.iconst 0, 1) := by decide +kernel
theorem dc_RM_commonCosts_23 : decode prog_14_method_39_code 23 = .ok (.istore_n 3, 1) := by decide +kernel
theorem dc_RM_commonCosts_24 : decode prog_14_method_39_code 24 = .ok (.iload_n 3, 1) := by decide +kernel
theorem dc_RM_commonCosts_25 : decode prog_14_method_39_code 25 = .ok (.iconst 4, 1) := by decide +kernel
theorem dc_RM_commonCosts_26 : decode prog_14_method_39_code 26 = .ok (.if_icmp .ge 179, 3) := by decide +kernel
theorem dc_RM_commonCosts_29 : decode prog_14_method_39_code 29 = .ok (.iload_n 1, 1) := by decide +kernel
theorem dc_RM_commonCosts_30 : decode prog_14_method_39_code 30 = .ok (.iload_n 3, 1) := by decide +kernel
theorem dc_RM_commonCosts_31 : decode prog_14_method_39_code 31 = .ok (.ishr, 1) := by decide +kernel
theorem dc_RM_commonCosts_32 : decode prog_14_method_39_code 32 = .ok (.iconst 1, 1) := by decide +kernel
theorem dc_RM_commonCosts_33 : decode prog_14_method_39_code 33 = .ok (.iand, 1) := by decide +kernel
theorem dc_RM_commonCosts_34 : decode prog_14_method_39_code 34 = .ok (.iconst 1, 1) := by decide +kernel
theorem dc_RM_commonCosts_35 : decode prog_14_method_39_code 35 = .ok (.if_icmp .ne 164, 3) := by decide +kernel
theorem dc_RM_commonCosts_38 : decode prog_14_method_39_code 38 = .ok (.aload_n 0, 1) := by decide +kernel
theorem dc_RM_commonCosts_39 : decode prog_14_method_39_code 39 = .ok (.iload_n 3, 1) := by decide +kernel
theorem dc_RM_commonCosts_40 : decode prog_14_method_39_code 40 = .ok (.aload_n 0, 1) := by decide +kernel
theorem dc_RM_commonCosts_41 : decode prog_14_method_39_code 41 = .ok (.getfield 22, 3) := by decide +kernel
theorem dc_RM_commonCosts_44 : decode prog_14_method_39_code 44 = .ok (.invokevirtual 148, 3) := by decide +kernel
theorem dc_RM_commonCosts_47 : decode prog_14_method_39_code 47 = .ok (.aload_n 0, 1) := by decide +kernel
theorem dc_RM_commonCosts_48 : decode prog_14_method_39_code 48 = .ok (.iload_n 2, 1) := by decide +kernel
theorem dc_RM_commonCosts_49 : decode prog_14_method_39_code 49 = .ok (.invokevirtual 191, 3) := by decide +kernel
theorem dc_RM_commonCosts_52 : decode prog_14_method_39_code 52 = .ok (.iconst 0, 1) := by decide +kernel
theorem dc_RM_commonCosts_53 : decode prog_14_method_39_code 53 = .ok (.istore 4, 2) := by decide +kernel
theorem dc_RM_commonCosts_55 : decode prog_14_method_39_code 55 = .ok (.iload 4, 2) := by decide +kernel
theorem dc_RM_commonCosts_57 : decode prog_14_method_39_code 57 = .ok (.bipush 40, 2) := by decide +kernel
theorem dc_RM_commonCosts_59 : decode prog_14_method_39_code 59 = .ok (.if_icmp .ge 140, 3) := by decide +kernel
theorem dc_RM_commonCosts_62 : decode prog_14_method_39_code 62 = .ok (.iload 4, 2) := by decide +kernel
theorem dc_RM_commonCosts_64 : decode prog_14_method_39_code 64 = .ok (.istore 5, 2) := by decide +kernel
theorem dc_RM_commonCosts_66 : decode prog_14_method_39_code 66 = .ok (.iload 5, 2) := by decide +kernel
theorem dc_RM_commonCosts_68 : decode prog_14_method_39_code 68 = .ok (.bipush 40, 2) := by decide +kernel
theorem dc_RM_commonCosts_70 : decode prog_14_method_39_code 70 = .ok (.if_icmp .ge 123, 3) := by decide +kernel
theorem dc_RM_commonCosts_73 : decode prog_14_method_39_code 73 = .ok (.aload_n 0, 1) := by decide +kernel
theorem dc_RM_commonCosts_74 : decode prog_14_method_39_code 74 = .ok (.iload 4, 2) := by decide +kernel
theorem dc_RM_commonCosts_76 : decode prog_14_method_39_code 76 = .ok (.invokevirtual 241, 3) := by decide +kernel
theorem dc_RM_commonCosts_79 : decode prog_14_method_39_code 79 = .ok (.istore 6, 2) := by decide +kernel
theorem dc_RM_commonCosts_81 : decode prog_14_method_39_code 81 = .ok (.aload_n 0, 1) := by decide +kernel
theorem dc_RM_commonCosts_82 : decode prog_14_method_39_code 82 = .ok (.iload 5, 2) := by decide +kernel
theorem dc_RM_commonCosts_84 : decode prog_14_method_39_code 84 = .ok (.iconst 1, 1) := by decide +kernel
theorem dc_RM_commonCosts_85 : decode prog_14_method_39_code 85 = .ok (.iadd, 1) := by decide +kernel
theorem dc_RM_commonCosts_86 : decode prog_14_method_39_code 86 = .ok (.invokevirtual 241, 3) := by decide +kernel
theorem dc_RM_commonCosts_89 : decode prog_14_method_39_code 89 = .ok (.iconst 1, 1) := by decide +kernel
theorem dc_RM_commonCosts_90 : decode prog_14_method_39_code 90 = .ok (.isub, 1) := by decide +kernel
theorem dc_RM_commonCosts_91 : decode prog_14_method_39_code 91 = .ok (.istore 7, 2) := by decide +kernel
theorem dc_RM_commonCosts_93 : decode prog_14_method_39_code 93 = .ok (.iload 7, 2) := by decide +kernel
theorem dc_RM_commonCosts_95 : decode prog_14_method_39_code 95 = .ok (.iload 6, 2) := by decide +kernel
theorem dc_RM_commonCosts_97 : decode prog_14_method_39_code 97 = .ok (.isub, 1) := by decide +kernel
theorem dc_RM_commonCosts_98 : decode prog_14_method_39_code 98 = .ok (.iconst 1, 1) := by decide +kernel
theorem dc_RM_commonCosts_99 : decode prog_14_method_39_code 99 = .ok (.iadd, 1) := by decide +kernel
theorem dc_RM_commonCosts_100 : decode prog_14_method_39_code 100 = .ok (.aload_n 0, 1) := by decide +kernel
theorem dc_RM_commonCosts_101 : decode prog_14_method_39_code 101 = .ok (.getfield 26, 3) := by decide +kernel
theorem dc_RM_commonCosts_104 : decode prog_14_method_39_code 104 = .ok (.iload_n 3, 1) := by decide +kernel
theorem dc_RM_commonCosts_105 : decode prog_14_method_39_code 105 = .ok (.iaload, 1) := by decide +kernel
theorem dc_RM_commonCosts_106 : decode prog_14_method_39_code 106 = .ok (.if_icmp .lt 23, 3) := by decide +kernel
theorem dc_RM_commonCosts_109 : decode prog_14_method_39_code 109 = .ok (.aload_n 0, 1) := by decide +kernel
theorem dc_RM_commonCosts_110 : decode prog_14_method_39_code 110 = .ok (.getfield 63, 3) := by decide +kernel
theorem dc_RM_commonCosts_113 : decode prog_14_method_39_code 113 = .ok (.bipush 40, 2) := by decide +kernel
theorem dc_RM_commonCosts_115 : decode prog_14_method_39_code 115 = .ok (.iload 4, 2) := by decide +kernel
theorem dc_RM_commonCosts_117 : decode prog_14_method_39_code 117 = .ok (.imul, 1) := by decide +kernel
theorem dc_RM_commonCosts_118 : decode prog_14_method_39_code 118 = .ok (.iload 5, 2) := by decide +kernel
theorem dc_RM_commonCosts_120 : decode prog_14_method_39_code 120 = .ok (.iadd, 1) := by decide +kernel
theorem dc_RM_commonCosts_121 : decode prog_14_method_39_code 121 = .ok (.laload, 1) := by decide +kernel
theorem dc_RM_commonCosts_122 : decode prog_14_method_39_code 122 = .ok (.ldc2_w 244, 3) := by decide +kernel
theorem dc_RM_commonCosts_125 : decode prog_14_method_39_code 125 = .ok (.lcmp, 1) := by decide +kernel
theorem dc_RM_commonCosts_126 : decode prog_14_method_39_code 126 = .ok (.ifCond .ne 7, 3) := by decide +kernel
theorem dc_RM_commonCosts_129 : decode prog_14_method_39_code 129 = .ok (.iconst 1, 1) := by decide +kernel
theorem dc_RM_commonCosts_130 : decode prog_14_method_39_code 130 = .ok (.goto 4, 3) := by decide +kernel
theorem dc_RM_commonCosts_133 : decode prog_14_method_39_code 133 = .ok (.iconst 0, 1) := by decide +kernel
theorem dc_RM_commonCosts_134 : decode prog_14_method_39_code 134 = .ok (.istore 8, 2) := by decide +kernel
theorem dc_RM_commonCosts_136 : decode prog_14_method_39_code 136 = .ok (.aload_n 0, 1) := by decide +kernel
theorem dc_RM_commonCosts_137 : decode prog_14_method_39_code 137 = .ok (.getfield 63, 3) := by decide +kernel
theorem dc_RM_commonCosts_140 : decode prog_14_method_39_code 140 = .ok (.bipush 40, 2) := by decide +kernel
theorem dc_RM_commonCosts_142 : decode prog_14_method_39_code 142 = .ok (.iload 4, 2) := by decide +kernel
theorem dc_RM_commonCosts_144 : decode prog_14_method_39_code 144 = .ok (.imul, 1) := by decide +kernel
theorem dc_RM_commonCosts_145 : decode prog_14_method_39_code 145 = .ok (.iload 5, 2) := by decide +kernel
theorem dc_RM_commonCosts_147 : decode prog_14_method_39_code 147 = .ok (.iadd, 1) := by decide +kernel
theorem dc_RM_commonCosts_148 : decode prog_14_method_39_code 148 = .ok (.iload 8, 2) := by decide +kernel
theorem dc_RM_commonCosts_150 : decode prog_14_method_39_code 150 = .ok (.ifCond .eq 9, 3) := by decide +kernel
theorem dc_RM_commonCosts_153 : decode prog_14_method_39_code 153 = .ok (.ldc2_w 244, 3) := by decide +kernel
theorem dc_RM_commonCosts_156 : decode prog_14_method_39_code 156 = .ok (.goto 30, 3) := by decide +kernel
theorem dc_RM_commonCosts_159 : decode prog_14_method_39_code 159 = .ok (.aload_n 0, 1) := by decide +kernel
theorem dc_RM_commonCosts_160 : decode prog_14_method_39_code 160 = .ok (.getfield 63, 3) := by decide +kernel
theorem dc_RM_commonCosts_163 : decode prog_14_method_39_code 163 = .ok (.bipush 40, 2) := by decide +kernel
theorem dc_RM_commonCosts_165 : decode prog_14_method_39_code 165 = .ok (.iload 4, 2) := by decide +kernel
theorem dc_RM_commonCosts_167 : decode prog_14_method_39_code 167 = .ok (.imul, 1) := by decide +kernel
theorem dc_RM_commonCosts_168 : decode prog_14_method_39_code 168 = .ok (.iload 5, 2) := by decide +kernel
theorem dc_RM_commonCosts_170 : decode prog_14_method_39_code 170 = .ok (.iadd, 1) := by decide +kernel
theorem dc_RM_commonCosts_171 : decode prog_14_method_39_code 171 = .ok (.laload, 1) := by decide +kernel
theorem dc_RM_commonCosts_172 : decode prog_14_method_39_code 172 = .ok (.aload_n 0, 1) := by decide +kernel
theorem dc_RM_commonCosts_173 : decode prog_14_method_39_code 173 = .ok (.getfield 38, 3) := by decide +kernel
theorem dc_RM_commonCosts_176 : decode prog_14_method_39_code 176 = .ok (.bipush 40, 2) := by decide +kernel
theorem dc_RM_commonCosts_178 : decode prog_14_method_39_code 178 = .ok (.iload 6, 2) := by decide +kernel
theorem dc_RM_commonCosts_180 : decode prog_14_method_39_code 180 = .ok (.imul, 1) := by decide +kernel
theorem dc_RM_commonCosts_181 : decode prog_14_method_39_code 181 = .ok (.iload 7, 2) := by decide +kernel
theorem dc_RM_commonCosts_183 : decode prog_14_method_39_code 183 = .ok (.iadd, 1) := by decide +kernel
theorem dc_RM_commonCosts_184 : decode prog_14_method_39_code 184 = .ok (.laload, 1) := by decide +kernel
theorem dc_RM_commonCosts_185 : decode prog_14_method_39_code 185 = .ok (.ladd, 1) := by decide +kernel
theorem dc_RM_commonCosts_186 : decode prog_14_method_39_code 186 = .ok (.lastore, 1) := by decide +kernel
theorem dc_RM_commonCosts_187 : decode prog_14_method_39_code 187 = .ok (.iinc 5 1, 3) := by decide +kernel
theorem dc_RM_commonCosts_190 : decode prog_14_method_39_code 190 = .ok (.goto (-124), 3) := by decide +kernel
theorem dc_RM_commonCosts_193 : decode prog_14_method_39_code 193 = .ok (.iinc 4 1, 3) := by decide +kernel
theorem dc_RM_commonCosts_196 : decode prog_14_method_39_code 196 = .ok (.goto (-141), 3) := by decide +kernel
theorem dc_RM_commonCosts_199 : decode prog_14_method_39_code 199 = .ok (.iinc 3 1, 3) := by decide +kernel
theorem dc_RM_commonCosts_202 : decode prog_14_method_39_code 202 = .ok (.goto (-178), 3) := by decide +kernel
theorem dc_RM_commonCosts_205 : decode prog_14_method_39_code 205 = .ok (.return_, 1) := by decide +kernel
theorem w_RM_commonCosts_0 {G : GC} {d : Nat} {P : PT} {I : MI} {J : MJ} {x1 : Int32} {x2 : Int32} (k1 : Go G (fr G m_RM_commonCosts (d + 4) P) 2 [some (.ref 67), some (.int x1), some (.int x2), some (.int 0), none, none, none, none, none] [] I J) : Go G (fr G m_RM_commonCosts (d + 4) P) 0 [some (.ref 67), some (.int x1), some (.int x2), none, none, none, none, none, none] [] I J := by
  refine g_iconst (v := 0) dc_RM_commonCosts_0 rfl (by decide) ?_
  refine g_istore_n (L' := [some (.ref 67), some (.int x1), some (.int x2), some (.int 0), none, none, none, none, none]) dc_RM_commonCosts_1 rfl rfl (Nat.le_of_ble_eq_true rfl) rfl ?_
  exact k1
theorem w_RM_commonCosts_2 {G : GC} {d : Nat} {P : PT} {I : MI} {J : MJ} {x1 : Int32} {x2 : Int32} {x3 : Int32} (k1 : (1600 ≤ x3) → Go G (fr G m_RM_commonCosts (d + 4) P) 24 [some (.ref 67), some (.int x1), some (.int x2), some (.int 0), none, none, none, none, none] [] I J) (b2 : (¬ (1600 ≤ x3)) → vp_in x3 1600) (k3 : (¬ (1600 ≤ x3)) → Go G (fr G m_RM_commonCosts (d + 4) P) 2 [some (.ref 67), some (.int x1), some (.int x2), some (.int (x3 + 1)), none, none, none, none, none] [] I (u2 J 84 x3.toNatClampNeg 0)) : Go G (fr G m_RM_commonCosts (d + 4) P) 2 [some (.ref 67), some (.int x1), some (.int x2), some (.int x3), none, none, none, none, none] [] I J := by
  refine g_iload_n dc_RM_commonCosts_2 rfl rfl rfl ?_
  refine g_sipush (v := 1600) dc_RM_commonCosts_3 rfl (by decide) ?_
  refine g_ic_ge (tgt := 22) dc_RM_commonCosts_6 rfl (by decide) (fun c1 => ?_) (fun c1 => ?_)
  · refine g_iconst (v := 0) dc_RM_commonCosts_22 rfl (by decide) ?_
    refine g_istore_n (L' := [some (.ref 67), some (.int x1), some (.int x2), some (.int 0), none, none, none, none, none]) dc_RM_commonCosts_23 rfl rfl (Nat.le_of_ble_eq_true rfl) rfl ?_
    exact (k1 c1)
  · refine g_aload_n dc_RM_commonCosts_9 rfl rfl rfl ?_
    refine g_get (C := "LevelBreaksModel") (T := T_RM) (N := 45) (k := 22) (v := .ref 84) sh_67 (by decide) rfl rfl i_RM (by decide) fl_RM_63 (Or.inl rfl) rfl dc_RM_commonCosts_10 rfl ?_
    refine g_iload_n dc_RM_commonCosts_13 rfl rfl rfl ?_
    refine g_lconst (v := 0) dc_RM_commonCosts_14 rfl (by decide) ?_
    refine g_last sh_84 (b2 c1) dc_RM_commonCosts_15 rfl ?_
    refine g_iinc (v := (x3 + 1)) (L' := [some (.ref 67), some (.int x1), some (.int x2), some (.int (x3 + 1)), none, none, none, none, none]) dc_RM_commonCosts_16 rfl rfl (by rw [show Int32.ofInt 1 = 1 from by decide]) (Nat.le_of_ble_eq_true rfl) rfl ?_
    refine g_goto (tgt := 2) dc_RM_commonCosts_19 (by decide) ?_
    exact (k3 c1)
theorem w_RM_commonCosts_24 {G : GC} {d : Nat} {P : PT} {I : MI} {J : MJ} {x1 : Int32} {x2 : Int32} {x3 : Int32} (q1 : (4 ≤ x3) → P none I J) (k2 : (¬ (4 ≤ x3)) → (¬ ((x1 >>> (x3 &&& 31)) &&& 1) = 1) → Go G (fr G m_RM_commonCosts (d + 4) P) 199 [some (.ref 67), some (.int x1), some (.int x2), some (.int x3), none, none, none, none, none] [] I J) (k3 : (¬ (4 ≤ x3)) → (((x1 >>> (x3 &&& 31)) &&& 1) = 1) → Ct G (d + 3) m_RM_pointsBy [.ref 67, .int x3, .int (I 67 5)] (fun r I' J' => Go G (fr G m_RM_commonCosts (d + 4) P) 47 [some (.ref 67), some (.int x1), some (.int x2), some (.int x3), none, none, none, none, none] (r.toList ++ []) I' J') I J) : Go G (fr G m_RM_commonCosts (d + 4) P) 24 [some (.ref 67), some (.int x1), some (.int x2), some (.int x3), none, none, none, none, none] [] I J := by
  refine g_iload_n dc_RM_commonCosts_24 rfl rfl rfl ?_
  refine g_iconst (v := 4) dc_RM_commonCosts_25 rfl (by decide) ?_
  refine g_ic_ge (tgt := 205) dc_RM_commonCosts_26 rfl (by decide) (fun c1 => ?_) (fun c1 => ?_)
  · exact g_vret rfl dc_RM_commonCosts_205 (q1 c1)
  · refine g_iload_n dc_RM_commonCosts_29 rfl rfl rfl ?_
    refine g_iload_n dc_RM_commonCosts_30 rfl rfl rfl ?_
    refine g_ishr dc_RM_commonCosts_31 rfl ?_
    refine g_iconst (v := 1) dc_RM_commonCosts_32 rfl (by decide) ?_
    refine g_iand dc_RM_commonCosts_33 rfl ?_
    refine g_iconst (v := 1) dc_RM_commonCosts_34 rfl (by decide) ?_
    refine g_ic_ne (tgt := 199) dc_RM_commonCosts_35 rfl (by decide) (fun c2 => ?_) (fun c2 => ?_)
    · exact (k2 c1 c2)
    · refine g_aload_n dc_RM_commonCosts_38 rfl rfl rfl ?_
      refine g_iload_n dc_RM_commonCosts_39 rfl rfl rfl ?_
      refine g_aload_n dc_RM_commonCosts_40 rfl rfl rfl ?_
      refine g_get (C := "LevelBreaksModel") (T := T_RM) (N := 45) (k := 5) (v := .int (I 67 5)) sh_67 (by decide) rfl rfl i_RM (by decide) fl_RM_22 (Or.inl rfl) rfl dc_RM_commonCosts_41 rfl ?_
      exact g_callV (T := T_RM) (N := 45) (As := [.int x3, .int (I 67 5)]) (rest := []) ok_RM_pointsBy in_RM_pointsBy se_RM_pointsBy ml_RM_148 sh_67 (by decide) rfl rfl rfl (Nat.le_of_ble_eq_true rfl) dc_RM_commonCosts_44 rfl rOk_fr (k3 c1 c2)
theorem w_RM_commonCosts_47 {G : GC} {d : Nat} {P : PT} {I : MI} {J : MJ} {x1 : Int32} {x2 : Int32} {x3 : Int32} (k1 : Ct G (d + 3) m_RM_costs [.ref 67, .int x2] (fun r I' J' => Go G (fr G m_RM_commonCosts (d + 4) P) 52 [some (.ref 67), some (.int x1), some (.int x2), some (.int x3), none, none, none, none, none] (r.toList ++ []) I' J') I J) : Go G (fr G m_RM_commonCosts (d + 4) P) 47 [some (.ref 67), some (.int x1), some (.int x2), some (.int x3), none, none, none, none, none] [] I J := by
  refine g_aload_n dc_RM_commonCosts_47 rfl rfl rfl ?_
  refine g_iload_n dc_RM_commonCosts_48 rfl rfl rfl ?_
  exact g_callV (T := T_RM) (N := 45) (As := [.int x2]) (rest := []) ok_RM_costs in_RM_costs se_RM_costs ml_RM_191 sh_67 (by decide) rfl rfl rfl (Nat.le_of_ble_eq_true rfl) dc_RM_commonCosts_49 rfl rOk_fr k1
theorem w_RM_commonCosts_52 {G : GC} {d : Nat} {P : PT} {I : MI} {J : MJ} {x1 : Int32} {x2 : Int32} {x3 : Int32} (k1 : Go G (fr G m_RM_commonCosts (d + 4) P) 55 [some (.ref 67), some (.int x1), some (.int x2), some (.int x3), some (.int 0), none, none, none, none] [] I J) : Go G (fr G m_RM_commonCosts (d + 4) P) 52 [some (.ref 67), some (.int x1), some (.int x2), some (.int x3), none, none, none, none, none] [] I J := by
  refine g_iconst (v := 0) dc_RM_commonCosts_52 rfl (by decide) ?_
  refine g_istore (L' := [some (.ref 67), some (.int x1), some (.int x2), some (.int x3), some (.int 0), none, none, none, none]) dc_RM_commonCosts_53 rfl (Nat.le_of_ble_eq_true rfl) rfl ?_
  exact k1
theorem w_RM_commonCosts_55 {G : GC} {d : Nat} {P : PT} {I : MI} {J : MJ} {x1 : Int32} {x2 : Int32} {x3 : Int32} {x4 : Int32} (k1 : (40 ≤ x4) → Go G (fr G m_RM_commonCosts (d + 4) P) 199 [some (.ref 67), some (.int x1), some (.int x2), some (.int x3), none, none, none, none, none] [] I J) (k2 : (¬ (40 ≤ x4)) → Go G (fr G m_RM_commonCosts (d + 4) P) 66 [some (.ref 67), some (.int x1), some (.int x2), some (.int x3), some (.int x4), some (.int x4), none, none, none] [] I J) : Go G (fr G m_RM_commonCosts (d + 4) P) 55 [some (.ref 67), some (.int x1), some (.int x2), some (.int x3), some (.int x4), none, none, none, none] [] I J := by
  refine g_iload dc_RM_commonCosts_55 rfl rfl ?_
  refine g_bipush (v := 40) dc_RM_commonCosts_57 rfl (by decide) ?_
  refine g_ic_ge (tgt := 199) dc_RM_commonCosts_59 rfl (by decide) (fun c1 => ?_) (fun c1 => ?_)
  · refine g_weak [some (.ref 67), some (.int x1), some (.int x2), some (.int x3), none, none, none, none, none] ⟨rfl, ⟨rfl, ⟨rfl, ⟨rfl, trivial⟩⟩⟩⟩ ?_
    exact (k1 c1)
  · refine g_iload dc_RM_commonCosts_62 rfl rfl ?_
    refine g_istore (L' := [some (.ref 67), some (.int x1), some (.int x2), some (.int x3), some (.int x4), some (.int x4), none, none, none]) dc_RM_commonCosts_64 rfl (Nat.le_of_ble_eq_true rfl) rfl ?_
    exact (k2 c1)
theorem w_RM_commonCosts_66 {G : GC} {d : Nat} {P : PT} {I : MI} {J : MJ} {x1 : Int32} {x2 : Int32} {x3 : Int32} {x4 : Int32} {x5 : Int32} (k1 : (40 ≤ x5) → Go G (fr G m_RM_commonCosts (d + 4) P) 55 [some (.ref 67), some (.int x1), some (.int x2), some (.int x3), some (.int (x4 + 1)), none, none, none, none] [] I J) (k2 : (¬ (40 ≤ x5)) → Ct G (d + 3) m_RM_pointFrom [.ref 67, .int x4] (fun r I' J' => Go G (fr G m_RM_commonCosts (d + 4) P) 79 [some (.ref 67), some (.int x1), some (.int x2), some (.int x3), some (.int x4), some (.int x5), none, none, none] (r.toList ++ []) I' J') I J) : Go G (fr G m_RM_commonCosts (d + 4) P) 66 [some (.ref 67), some (.int x1), some (.int x2), some (.int x3), some (.int x4), some (.int x5), none, none, none] [] I J := by
  refine g_iload dc_RM_commonCosts_66 rfl rfl ?_
  refine g_bipush (v := 40) dc_RM_commonCosts_68 rfl (by decide) ?_
  refine g_ic_ge (tgt := 193) dc_RM_commonCosts_70 rfl (by decide) (fun c1 => ?_) (fun c1 => ?_)
  · refine g_iinc (v := (x4 + 1)) (L' := [some (.ref 67), some (.int x1), some (.int x2), some (.int x3), some (.int (x4 + 1)), some (.int x5), none, none, none]) dc_RM_commonCosts_193 rfl rfl (by rw [show Int32.ofInt 1 = 1 from by decide]) (Nat.le_of_ble_eq_true rfl) rfl ?_
    refine g_goto (tgt := 55) dc_RM_commonCosts_196 (by decide) ?_
    refine g_weak [some (.ref 67), some (.int x1), some (.int x2), some (.int x3), some (.int (x4 + 1)), none, none, none, none] ⟨rfl, ⟨rfl, ⟨rfl, ⟨rfl, ⟨rfl, trivial⟩⟩⟩⟩⟩ ?_
    exact (k1 c1)
  · refine g_aload_n dc_RM_commonCosts_73 rfl rfl rfl ?_
    refine g_iload dc_RM_commonCosts_74 rfl rfl ?_
    exact g_callV (T := T_RM) (N := 45) (As := [.int x4]) (rest := []) ok_RM_pointFrom in_RM_pointFrom se_RM_pointFrom ml_RM_241 sh_67 (by decide) rfl rfl rfl (Nat.le_of_ble_eq_true rfl) dc_RM_commonCosts_76 rfl rOk_fr (k2 c1)
theorem w_RM_commonCosts_79 {G : GC} {d : Nat} {P : PT} {I : MI} {J : MJ} {x1 : Int32} {x2 : Int32} {x3 : Int32} {x4 : Int32} {x5 : Int32} {y0 : Int32} (k1 : Ct G (d + 3) m_RM_pointFrom [.ref 67, .int (x5 + 1)] (fun r I' J' => Go G (fr G m_RM_commonCosts (d + 4) P) 89 [some (.ref 67), some (.int x1), some (.int x2), some (.int x3), some (.int x4), some (.int x5), some (.int y0), none, none] (r.toList ++ []) I' J') I J) : Go G (fr G m_RM_commonCosts (d + 4) P) 79 [some (.ref 67), some (.int x1), some (.int x2), some (.int x3), some (.int x4), some (.int x5), none, none, none] [.int y0] I J := by
  refine g_istore (L' := [some (.ref 67), some (.int x1), some (.int x2), some (.int x3), some (.int x4), some (.int x5), some (.int y0), none, none]) dc_RM_commonCosts_79 rfl (Nat.le_of_ble_eq_true rfl) rfl ?_
  refine g_aload_n dc_RM_commonCosts_81 rfl rfl rfl ?_
  refine g_iload dc_RM_commonCosts_82 rfl rfl ?_
  refine g_iconst (v := 1) dc_RM_commonCosts_84 rfl (by decide) ?_
  refine g_iadd dc_RM_commonCosts_85 rfl ?_
  exact g_callV (T := T_RM) (N := 45) (As := [.int (x5 + 1)]) (rest := []) ok_RM_pointFrom in_RM_pointFrom se_RM_pointFrom ml_RM_241 sh_67 (by decide) rfl rfl rfl (Nat.le_of_ble_eq_true rfl) dc_RM_commonCosts_86 rfl rOk_fr k1
theorem w_RM_commonCosts_89 {G : GC} {d : Nat} {P : PT} {I : MI} {J : MJ} {x1 : Int32} {x2 : Int32} {x3 : Int32} {x4 : Int32} {x5 : Int32} {x6 : Int32} {y0 : Int32} (b1 : vp_in x3 4) (k2 : ((((y0 - 1) - x6) + 1) < (I 72 x3.toNatClampNeg)) → Go G (fr G m_RM_commonCosts (d + 4) P) 129 [some (.ref 67), some (.int x1), some (.int x2), some (.int x3), some (.int x4), some (.int x5), some (.int x6), some (.int (y0 - 1)), none] [] I J) (b3 : (¬ ((((y0 - 1) - x6) + 1) < (I 72 x3.toNatClampNeg))) → vp_in ((40 * x4) + x5) 1600) (k4 : (¬ ((((y0 - 1) - x6) + 1) < (I 72 x3.toNatClampNeg))) → (¬ (J 84 ((40 * x4) + x5).toNatClampNeg) = (-1)) → Go G (fr G m_RM_commonCosts (d + 4) P) 134 [some (.ref 67), some (.int x1), some (.int x2), some (.int x3), some (.int x4), some (.int x5), some (.int x6), some (.int (y0 - 1)), none] [.int 0] I J) (k5 : (¬ ((((y0 - 1) - x6) + 1) < (I 72 x3.toNatClampNeg))) → ((J 84 ((40 * x4) + x5).toNatClampNeg) = (-1)) → Go G (fr G m_RM_commonCosts (d + 4) P) 129 [some (.ref 67), some (.int x1), some (.int x2), some (.int x3), some (.int x4), some (.int x5), some (.int x6), some (.int (y0 - 1)), none] [] I J) : Go G (fr G m_RM_commonCosts (d + 4) P) 89 [some (.ref 67), some (.int x1), some (.int x2), some (.int x3), some (.int x4), some (.int x5), some (.int x6), none, none] [.int y0] I J := by
  refine g_iconst (v := 1) dc_RM_commonCosts_89 rfl (by decide) ?_
  refine g_isub dc_RM_commonCosts_90 rfl ?_
  refine g_istore (L' := [some (.ref 67), some (.int x1), some (.int x2), some (.int x3), some (.int x4), some (.int x5), some (.int x6), some (.int (y0 - 1)), none]) dc_RM_commonCosts_91 rfl (Nat.le_of_ble_eq_true rfl) rfl ?_
  refine g_iload dc_RM_commonCosts_93 rfl rfl ?_
  refine g_iload dc_RM_commonCosts_95 rfl rfl ?_
  refine g_isub dc_RM_commonCosts_97 rfl ?_
  refine g_iconst (v := 1) dc_RM_commonCosts_98 rfl (by decide) ?_
  refine g_iadd dc_RM_commonCosts_99 rfl ?_
  refine g_aload_n dc_RM_commonCosts_100 rfl rfl rfl ?_
  refine g_get (C := "LevelBreaksModel") (T := T_RM) (N := 45) (k := 6) (v := .ref 72) sh_67 (by decide) rfl rfl i_RM (by decide) fl_RM_26 (Or.inl rfl) rfl dc_RM_commonCosts_101 rfl ?_
  refine g_iload_n dc_RM_commonCosts_104 rfl rfl rfl ?_
  refine g_ialdv (v := (I 72 x3.toNatClampNeg)) sh_72 b1 rfl dc_RM_commonCosts_105 rfl ?_
  refine g_ic_lt (tgt := 129) dc_RM_commonCosts_106 rfl (by decide) (fun c1 => ?_) (fun c1 => ?_)
  · exact (k2 c1)
  · refine g_aload_n dc_RM_commonCosts_109 rfl rfl rfl ?_
    refine g_get (C := "LevelBreaksModel") (T := T_RM) (N := 45) (k := 22) (v := .ref 84) sh_67 (by decide) rfl rfl i_RM (by decide) fl_RM_63 (Or.inl rfl) rfl dc_RM_commonCosts_110 rfl ?_
    refine g_bipush (v := 40) dc_RM_commonCosts_113 rfl (by decide) ?_
    refine g_iload dc_RM_commonCosts_115 rfl rfl ?_
    refine g_imul dc_RM_commonCosts_117 rfl ?_
    refine g_iload dc_RM_commonCosts_118 rfl rfl ?_
    refine g_iadd dc_RM_commonCosts_120 rfl ?_
    refine g_laldv (v := (J 84 ((40 * x4) + x5).toNatClampNeg)) sh_84 (b3 c1) rfl dc_RM_commonCosts_121 rfl ?_
    refine g_ldc2 (v := (-1)) kl_RM_244 dc_RM_commonCosts_122 rfl ?_
    refine g_lc_ne (tgt := 133) dc_RM_commonCosts_125 rfl dc_RM_commonCosts_126 rfl (by decide) (fun c2 => ?_) (fun c2 => ?_)
    · refine g_iconst (v := 0) dc_RM_commonCosts_133 rfl (by decide) ?_
      exact (k4 c1 c2)
    · exact (k5 c1 c2)
theorem w_RM_commonCosts_129 {G : GC} {d : Nat} {P : PT} {I : MI} {J : MJ} {x1 : Int32} {x2 : Int32} {x3 : Int32} {x4 : Int32} {x5 : Int32} {x6 : Int32} {x7 : Int32} (k1 : Go G (fr G m_RM_commonCosts (d + 4) P) 134 [some (.ref 67), some (.int x1), some (.int x2), some (.int x3), some (.int x4), some (.int x5), some (.int x6), some (.int x7), none] [.int 1] I J) : Go G (fr G m_RM_commonCosts (d + 4) P) 129 [some (.ref 67), some (.int x1), some (.int x2), some (.int x3), some (.int x4), some (.int x5), some (.int x6), some (.int x7), none] [] I J := by
  refine g_iconst (v := 1) dc_RM_commonCosts_129 rfl (by decide) ?_
  refine g_goto (tgt := 134) dc_RM_commonCosts_130 (by decide) ?_
  exact k1
theorem w_RM_commonCosts_134 {G : GC} {d : Nat} {P : PT} {I : MI} {J : MJ} {x1 : Int32} {x2 : Int32} {x3 : Int32} {x4 : Int32} {x5 : Int32} {x6 : Int32} {x7 : Int32} {y0 : Int32} (b1 : (y0 = 0) → vp_in ((40 * x4) + x5) 1600) (b2 : (y0 = 0) → vp_in ((40 * x6) + x7) 1600) (k3 : (y0 = 0) → Go G (fr G m_RM_commonCosts (d + 4) P) 186 [some (.ref 67), some (.int x1), some (.int x2), some (.int x3), some (.int x4), some (.int x5), none, none, none] [.long ((J 84 ((40 * x4) + x5).toNatClampNeg) + (J 76 ((40 * x6) + x7).toNatClampNeg)), .int ((40 * x4) + x5), .ref 84] I J) (k4 : (¬ (y0 = 0)) → Go G (fr G m_RM_commonCosts (d + 4) P) 186 [some (.ref 67), some (.int x1), some (.int x2), some (.int x3), some (.int x4), some (.int x5), none, none, none] [.long (-1), .int ((40 * x4) + x5), .ref 84] I J) : Go G (fr G m_RM_commonCosts (d + 4) P) 134 [some (.ref 67), some (.int x1), some (.int x2), some (.int x3), some (.int x4), some (.int x5), some (.int x6), some (.int x7), none] [.int y0] I J := by
  refine g_istore (L' := [some (.ref 67), some (.int x1), some (.int x2), some (.int x3), some (.int x4), some (.int x5), some (.int x6), some (.int x7), some (.int y0)]) dc_RM_commonCosts_134 rfl (Nat.le_of_ble_eq_true rfl) rfl ?_
  refine g_aload_n dc_RM_commonCosts_136 rfl rfl rfl ?_
  refine g_get (C := "LevelBreaksModel") (T := T_RM) (N := 45) (k := 22) (v := .ref 84) sh_67 (by decide) rfl rfl i_RM (by decide) fl_RM_63 (Or.inl rfl) rfl dc_RM_commonCosts_137 rfl ?_
  refine g_bipush (v := 40) dc_RM_commonCosts_140 rfl (by decide) ?_
  refine g_iload dc_RM_commonCosts_142 rfl rfl ?_
  refine g_imul dc_RM_commonCosts_144 rfl ?_
  refine g_iload dc_RM_commonCosts_145 rfl rfl ?_
  refine g_iadd dc_RM_commonCosts_147 rfl ?_
  refine g_iload dc_RM_commonCosts_148 rfl rfl ?_
  refine g_if_eq (tgt := 159) dc_RM_commonCosts_150 rfl (by decide) (fun c1 => ?_) (fun c1 => ?_)
  · refine g_aload_n dc_RM_commonCosts_159 rfl rfl rfl ?_
    refine g_get (C := "LevelBreaksModel") (T := T_RM) (N := 45) (k := 22) (v := .ref 84) sh_67 (by decide) rfl rfl i_RM (by decide) fl_RM_63 (Or.inl rfl) rfl dc_RM_commonCosts_160 rfl ?_
    refine g_bipush (v := 40) dc_RM_commonCosts_163 rfl (by decide) ?_
    refine g_iload dc_RM_commonCosts_165 rfl rfl ?_
    refine g_imul dc_RM_commonCosts_167 rfl ?_
    refine g_iload dc_RM_commonCosts_168 rfl rfl ?_
    refine g_iadd dc_RM_commonCosts_170 rfl ?_
    refine g_laldv (v := (J 84 ((40 * x4) + x5).toNatClampNeg)) sh_84 (b1 c1) rfl dc_RM_commonCosts_171 rfl ?_
    refine g_aload_n dc_RM_commonCosts_172 rfl rfl rfl ?_
    refine g_get (C := "LevelBreaksModel") (T := T_RM) (N := 45) (k := 11) (v := .ref 76) sh_67 (by decide) rfl rfl i_RM (by decide) fl_RM_38 (Or.inl rfl) rfl dc_RM_commonCosts_173 rfl ?_
    refine g_bipush (v := 40) dc_RM_commonCosts_176 rfl (by decide) ?_
    refine g_iload dc_RM_commonCosts_178 rfl rfl ?_
    refine g_imul dc_RM_commonCosts_180 rfl ?_
    refine g_iload dc_RM_commonCosts_181 rfl rfl ?_
    refine g_iadd dc_RM_commonCosts_183 rfl ?_
    refine g_laldv (v := (J 76 ((40 * x6) + x7).toNatClampNeg)) sh_76 (b2 c1) rfl dc_RM_commonCosts_184 rfl ?_
    refine g_ladd dc_RM_commonCosts_185 rfl ?_
    refine g_weak [some (.ref 67), some (.int x1), some (.int x2), some (.int x3), some (.int x4), some (.int x5), none, none, none] ⟨rfl, ⟨rfl, ⟨rfl, ⟨rfl, ⟨rfl, ⟨rfl, trivial⟩⟩⟩⟩⟩⟩ ?_
    exact (k3 c1)
  · refine g_ldc2 (v := (-1)) kl_RM_244 dc_RM_commonCosts_153 rfl ?_
    refine g_goto (tgt := 186) dc_RM_commonCosts_156 (by decide) ?_
    refine g_weak [some (.ref 67), some (.int x1), some (.int x2), some (.int x3), some (.int x4), some (.int x5), none, none, none] ⟨rfl, ⟨rfl, ⟨rfl, ⟨rfl, ⟨rfl, ⟨rfl, trivial⟩⟩⟩⟩⟩⟩ ?_
    exact (k4 c1)
theorem w_RM_commonCosts_186 {G : GC} {d : Nat} {P : PT} {I : MI} {J : MJ} {x1 : Int32} {x2 : Int32} {x3 : Int32} {x4 : Int32} {x5 : Int32} {y1 : Int32} {s2 : Int64} (b1 : vp_in y1 1600) (k2 : Go G (fr G m_RM_commonCosts (d + 4) P) 66 [some (.ref 67), some (.int x1), some (.int x2), some (.int x3), some (.int x4), some (.int (x5 + 1)), none, none, none] [] I (u2 J 84 y1.toNatClampNeg s2)) : Go G (fr G m_RM_commonCosts (d + 4) P) 186 [some (.ref 67), some (.int x1), some (.int x2), some (.int x3), some (.int x4), some (.int x5), none, none, none] [.long s2, .int y1, .ref 84] I J := by
  refine g_last sh_84 b1 dc_RM_commonCosts_186 rfl ?_
  refine g_iinc (v := (x5 + 1)) (L' := [some (.ref 67), some (.int x1), some (.int x2), some (.int x3), some (.int x4), some (.int (x5 + 1)), none, none, none]) dc_RM_commonCosts_187 rfl rfl (by rw [show Int32.ofInt 1 = 1 from by decide]) (Nat.le_of_ble_eq_true rfl) rfl ?_
  refine g_goto (tgt := 66) dc_RM_commonCosts_190 (by decide) ?_
  exact k2
theorem w_RM_commonCosts_199 {G : GC} {d : Nat} {P : PT} {I : MI} {J : MJ} {x1 : Int32} {x2 : Int32} {x3 : Int32} (k1 : Go G (fr G m_RM_commonCosts (d + 4) P) 24 [some (.ref 67), some (.int x1), some (.int x2), some (.int (x3 + 1)), none, none, none, none, none] [] I J) : Go G (fr G m_RM_commonCosts (d + 4) P) 199 [some (.ref 67), some (.int x1), some (.int x2), some (.int x3), none, none, none, none, none] [] I J := by
  refine g_iinc (v := (x3 + 1)) (L' := [some (.ref 67), some (.int x1), some (.int x2), some (.int (x3 + 1)), none, none, none, none, none]) dc_RM_commonCosts_199 rfl rfl (by rw [show Int32.ofInt 1 = 1 from by decide]) (Nat.le_of_ble_eq_true rfl) rfl ?_
  refine g_goto (tgt := 24) dc_RM_commonCosts_202 (by decide) ?_
  exact k1
theorem dc_RM_copy_0 : decode prog_14_method_79_code 0 = .ok (.iload_n 1, 1) := by decide +kernel
theorem dc_RM_copy_1 : decode prog_14_method_79_code 1 = .ok (.invokestatic 134, 3) := by decide +kernel
theorem dc_RM_copy_4 : decode prog_14_method_79_code 4 = .ok (.ifCond .eq 10, 3) := by decide +kernel
theorem dc_RM_copy_7 : decode prog_14_method_79_code 7 = .ok (.iload_n 3, 1) := by decide +kernel
theorem dc_RM_copy_8 : decode prog_14_method_79_code 8 = .ok (.invokestatic 134, 3) := by decide +kernel
theorem dc_RM_copy_11 : decode prog_14_method_79_code 11 = .ok (.ifCond .ne 6, 3) := by decide +kernel
theorem dc_RM_copy_14 : decode prog_14_method_79_code 14 = .ok (.bipush (-2), 2) := by decide +kernel
theorem dc_RM_copy_16 : decode prog_14_method_79_code 16 = .ok (.ireturn, 1) := by decide +kernel
theorem dc_RM_copy_17 : decode prog_14_method_79_code 17 = .ok (.aload_n 0, 1) := by decide +kernel
theorem dc_RM_copy_18 : decode prog_14_method_79_code 18 = .ok (.getfield 97, 3) := by decide +kernel
theorem dc_RM_copy_21 : decode prog_14_method_79_code 21 = .ok (.iload_n 1, 1) := by decide +kernel
theorem dc_RM_copy_22 : decode prog_14_method_79_code 22 = .ok (.baload, 1) := by decide +kernel
theorem dc_RM_copy_23 : decode prog_14_method_79_code 23 = .ok (.ifCond .eq 12, 3) := by decide +kernel
theorem dc_RM_copy_26 : decode prog_14_method_79_code 26 = .ok (.aload_n 0, 1) := by decide +kernel
theorem dc_RM_copy_27 : decode prog_14_method_79_code 27 = .ok (.getfield 97, 3) := by decide +kernel
theorem dc_RM_copy_30 : decode prog_14_method_79_code 30 = .ok (.iload_n 3, 1) := by decide +kernel
theorem dc_RM_copy_31 : decode prog_14_method_79_code 31 = .ok (.baload, 1) := by decide +kernel
theorem dc_RM_copy_32 : decode prog_14_method_79_code 32 = .ok (.ifCond .ne 9, 3) := by decide +kernel
theorem dc_RM_copy_35 : decode prog_14_method_79_code 35 = .ok (.aload_n 0, 1) := by decide +kernel
theorem dc_RM_copy_36 : decode prog_14_method_79_code 36 = .ok (.iconst 1, 1) := by decide +kernel
theorem dc_RM_copy_37 : decode prog_14_method_79_code 37 = .ok (.invokevirtual 137, 3) := by decide +kernel
theorem dc_RM_copy_40 : decode prog_14_method_79_code 40 = .ok (.ireturn, 1) := by decide +kernel
theorem dc_RM_copy_41 : decode prog_14_method_79_code 41 = .ok (.aload_n 0, 1) := by decide +kernel
theorem dc_RM_copy_42 : decode prog_14_method_79_code 42 = .ok (.getfield 100, 3) := by decide +kernel
theorem dc_RM_copy_45 : decode prog_14_method_79_code 45 = .ok (.iload_n 1, 1) := by decide +kernel
theorem dc_RM_copy_46 : decode prog_14_method_79_code 46 = .ok (.iaload, 1) := by decide +kernel
theorem dc_RM_copy_47 : decode prog_14_method_79_code 47 = .ok (.aload_n 0, 1) := by decide +kernel
theorem dc_RM_copy_48 : decode prog_14_method_79_code 48 = .ok (.getfield 100, 3) := by decide +kernel
theorem dc_RM_copy_51 : decode prog_14_method_79_code 51 = .ok (.iload_n 3, 1) := by decide +kernel
theorem dc_RM_copy_52 : decode prog_14_method_79_code 52 = .ok (.iaload, 1) := by decide +kernel
theorem dc_RM_copy_53 : decode prog_14_method_79_code 53 = .ok (.if_icmp .eq 9, 3) := by decide +kernel
theorem dc_RM_copy_56 : decode prog_14_method_79_code 56 = .ok (.aload_n 0, 1) := by decide +kernel
theorem dc_RM_copy_57 : decode prog_14_method_79_code 57 = .ok (.iconst 4, 1) := by decide +kernel
theorem dc_RM_copy_58 : decode prog_14_method_79_code 58 = .ok (.invokevirtual 137, 3) := by decide +kernel
theorem dc_RM_copy_61 : decode prog_14_method_79_code 61 = .ok (.ireturn, 1) := by decide +kernel
theorem dc_RM_copy_62 : decode prog_14_method_79_code 62 = .ok (.iload_n 2, 1) := by decide +kernel
theorem dc_RM_copy_63 : decode prog_14_method_79_code 63 = .ok (.ifCond .lt 48, 3) := by decide +kernel
theorem dc_RM_copy_66 : decode prog_14_method_79_code 66 = .ok (.iload 4, 2) := by decide +kernel
theorem dc_RM_copy_68 : decode prog_14_method_79_code 68 = .ok (.ifCond .lt 43, 3) := by decide +kernel
theorem dc_RM_copy_71 : decode prog_14_method_79_code 71 = .ok (.iload 5, 2) := by decide +kernel
theorem dc_RM_copy_73 : decode prog_14_method_79_code 73 = .ok (.ifCond .lt 38, 3) := by decide +kernel
theorem dc_RM_copy_76 : decode prog_14_method_79_code 76 = .ok (.iload_n 2, 1) := by decide +kernel
theorem dc_RM_copy_77 : decode prog_14_method_79_code 77 = .ok (.i2l, 1) := by decide +kernel
theorem dc_RM_copy_78 : decode prog_14_method_79_code 78 = .ok (.iload 5, 2) := by decide +kernel
theorem dc_RM_copy_80 : decode prog_14_method_79_code 80 = .ok (.i2l, 1) := by decide +kernel
theorem dc_RM_copy_81 : decode prog_14_method_79_code 81 = .ok (.ladd, 1) := by decide +kernel
theorem dc_RM_copy_82 : decode prog_14_method_79_code 82 = .ok (.aload_n 0, 1) := by decide +kernel
theorem dc_RM_copy_83 : decode prog_14_method_79_code 83 = .ok (.getfield 103, 3) := by decide +kernel
theorem dc_RM_copy_86 : decode prog_14_method_79_code 86 = .ok (.iload_n 1, 1) := by decide +kernel
theorem dc_RM_copy_87 : decode prog_14_method_79_code 87 = .ok (.iaload, 1) := by decide +kernel
theorem dc_RM_copy_88 : decode prog_14_method_79_code 88 = .ok (.i2l, 1) := by decide +kernel
theorem dc_RM_copy_89 : decode prog_14_method_79_code 89 = .ok (.lcmp, 1) := by decide +kernel
theorem dc_RM_copy_90 : decode prog_14_method_79_code 90 = .ok (.ifCond .gt 21, 3) := by decide +kernel
theorem dc_RM_copy_93 : decode prog_14_method_79_code 93 = .ok (.iload 4, 2) := by decide +kernel
theorem dc_RM_copy_95 : decode prog_14_method_79_code 95 = .ok (.i2l, 1) := by decide +kernel
theorem dc_RM_copy_96 : decode prog_14_method_79_code 96 = .ok (.iload 5, 2) := by decide +kernel
theorem dc_RM_copy_98 : decode prog_14_method_79_code 98 = .ok (.i2l, 1) := by decide +kernel
theorem dc_RM_copy_99 : decode prog_14_method_79_code 99 = .ok (.ladd, 1) := by decide +kernel
theorem dc_RM_copy_100 : decode prog_14_method_79_code 100 = .ok (.aload_n 0, 1) := by decide +kernel
theorem dc_RM_copy_101 : decode prog_14_method_79_code 101 = .ok (.getfield 103, 3) := by decide +kernel
theorem dc_RM_copy_104 : decode prog_14_method_79_code 104 = .ok (.iload_n 3, 1) := by decide +kernel
theorem dc_RM_copy_105 : decode prog_14_method_79_code 105 = .ok (.iaload, 1) := by decide +kernel
theorem dc_RM_copy_106 : decode prog_14_method_79_code 106 = .ok (.i2l, 1) := by decide +kernel
theorem dc_RM_copy_107 : decode prog_14_method_79_code 107 = .ok (.lcmp, 1) := by decide +kernel
theorem dc_RM_copy_108 : decode prog_14_method_79_code 108 = .ok (.ifCond .le 9, 3) := by decide +kernel
theorem dc_RM_copy_111 : decode prog_14_method_79_code 111 = .ok (.aload_n 0, 1) := by decide +kernel
theorem dc_RM_copy_112 : decode prog_14_method_79_code 112 = .ok (.iconst 2, 1) := by decide +kernel
theorem dc_RM_copy_113 : decode prog_14_method_79_code 113 = .ok (.invokevirtual 137, 3) := by decide +kernel
theorem dc_RM_copy_116 : decode prog_14_method_79_code 116 = .ok (.ireturn, 1) := by decide +kernel
theorem dc_RM_copy_117 : decode prog_14_method_79_code 117 = .ok (.iconst 0, 1) := by decide +kernel
theorem dc_RM_copy_118 : decode prog_14_method_79_code 118 = .ok (.istore 6, 2) := by decide +kernel
theorem dc_RM_copy_120 : decode prog_14_method_79_code 120 = .ok (.iload 6, 2) := by decide +kernel
theorem dc_RM_copy_122 : decode prog_14_method_79_code 122 = .ok (.iload 5, 2) := by decide +kernel
theorem dc_RM_copy_124 : decode prog_14_method_79_code 124 = .ok (.if_icmp .ge 30, 3) := by decide +kernel
theorem dc_RM_copy_127 : decode prog_14_method_79_code 127 = .ok (.aload_n 0, 1) := by decide +kernel
theorem dc_RM_copy_128 : decode prog_14_method_79_code 128 = .ok (.getfield 109, 3) := by decide +kernel
theorem dc_RM_copy_131 : decode prog_14_method_79_code 131 = .ok (.iload 6, 2) := by decide +kernel
theorem dc_RM_copy_133 : decode prog_14_method_79_code 133 = .ok (.aload_n 0, 1) := by decide +kernel
theorem dc_RM_copy_134 : decode prog_14_method_79_code 134 = .ok (.getfield 106, 3) := by decide +kernel
theorem dc_RM_copy_137 : decode prog_14_method_79_code 137 = .ok (.bipush 60, 2) := by decide +kernel
theorem dc_RM_copy_139 : decode prog_14_method_79_code 139 = .ok (.iload_n 1, 1) := by decide +kernel
theorem dc_RM_copy_140 : decode prog_14_method_79_code 140 = .ok (.imul, 1) := by decide +kernel
theorem dc_RM_copy_141 : decode prog_14_method_79_code 141 = .ok (.iload_n 2, 1) := by decide +kernel
theorem dc_RM_copy_142 : decode prog_14_method_79_code 142 = .ok (.iadd, 1) := by decide +kernel
theorem dc_RM_copy_143 : decode prog_14_method_79_code 143 = .ok (.iload 6, 2) := by decide +kernel
theorem dc_RM_copy_145 : decode prog_14_method_79_code 145 = .ok (.iadd, 1) := by decide +kernel
theorem dc_RM_copy_146 : decode prog_14_method_79_code 146 = .ok (.iaload, 1) := by decide +kernel
theorem dc_RM_copy_147 : decode prog_14_method_79_code 147 = .ok (.iastore, 1) := by decide +kernel
theorem dc_RM_copy_148 : decode prog_14_method_79_code 148 = .ok (.iinc 6 1, 3) := by decide +kernel
theorem dc_RM_copy_151 : decode prog_14_method_79_code 151 = .ok (.goto (-31), 3) := by decide +kernel
theorem dc_RM_copy_154 : decode prog_14_method_79_code 154 = .ok (.iconst 0, 1) := by decide +kernel
theorem dc_RM_copy_155 : decode prog_14_method_79_code 155 = .ok (.istore 6, 2) := by decide +kernel
theorem dc_RM_copy_157 : decode prog_14_method_79_code 157 = .ok (.iload 6, 2) := by decide +kernel
theorem dc_RM_copy_159 : decode prog_14_method_79_code 159 = .ok (.iload 5, 2) := by decide +kernel
theorem dc_RM_copy_161 : decode prog_14_method_79_code 161 = .ok (.if_icmp .ge 31, 3) := by decide +kernel
theorem dc_RM_copy_164 : decode prog_14_method_79_code 164 = .ok (.aload_n 0, 1) := by decide +kernel
theorem dc_RM_copy_165 : decode prog_14_method_79_code 165 = .ok (.getfield 106, 3) := by decide +kernel
theorem dc_RM_copy_168 : decode prog_14_method_79_code 168 = .ok (.bipush 60, 2) := by decide +kernel
theorem dc_RM_copy_170 : decode prog_14_method_79_code 170 = .ok (.iload_n 3, 1) := by decide +kernel
theorem dc_RM_copy_171 : decode prog_14_method_79_code 171 = .ok (.imul, 1) := by decide +kernel
theorem dc_RM_copy_172 : decode prog_14_method_79_code 172 = .ok (.iload 4, 2) := by decide +kernel
theorem dc_RM_copy_174 : decode prog_14_method_79_code 174 = .ok (.iadd, 1) := by decide +kernel
theorem dc_RM_copy_175 : decode prog_14_method_79_code 175 = .ok (.iload 6, 2) := by decide +kernel
theorem dc_RM_copy_177 : decode prog_14_method_79_code 177 = .ok (.iadd, 1) := by decide +kernel
theorem dc_RM_copy_178 : decode prog_14_method_79_code 178 = .ok (.aload_n 0, 1) := by decide +kernel
theorem dc_RM_copy_179 : decode prog_14_method_79_code 179 = .ok (.getfield 109, 3) := by decide +kernel
theorem dc_RM_copy_182 : decode prog_14_method_79_code 182 = .ok (.iload 6, 2) := by decide +kernel
theorem dc_RM_copy_184 : decode prog_14_method_79_code 184 = .ok (.iaload, 1) := by decide +kernel
theorem dc_RM_copy_185 : decode prog_14_method_79_code 185 = .ok (.iastore, 1) := by decide +kernel
theorem dc_RM_copy_186 : decode prog_14_method_79_code 186 = .ok (.iinc 6 1, 3) := by decide +kernel
theorem dc_RM_copy_189 : decode prog_14_method_79_code 189 = .ok (.goto (-32), 3) := by decide +kernel
theorem dc_RM_copy_192 : decode prog_14_method_79_code 192 = .ok (.iconst 1, 1) := by decide +kernel
theorem dc_RM_copy_193 : decode prog_14_method_79_code 193 = .ok (.ireturn, 1) := by decide +kernel
theorem w_RM_copy_0 {G : GC} {d : Nat} {P : PT} {I : MI} {J : MJ} {x1 : Int32} {x2 : Int32} {x3 : Int32} {x4 : Int32} {x5 : Int32} (k1 : ((f_RM_isSheet x1) = 0) → Go G (fr G m_RM_copy (d + 2) P) 14 [none, none, none, none, none, none, none] [] I J) (b2 : (¬ ((f_RM_isSheet x1) = 0)) → (¬ (f_RM_isSheet x3) = 0) → vp_in x1 4) (k3 : (¬ ((f_RM_isSheet x1) = 0)) → (¬ (f_RM_isSheet x3) = 0) → ((I 95 x1.toNatClampNeg) = 0) → Go G (fr G m_RM_copy (d + 2) P) 35 [some (.ref 67), none, none, none, none, none, none] [] I J) (b4 : (¬ ((f_RM_isSheet x1) = 0)) → (¬ (f_RM_isSheet x3) = 0) → (¬ ((I 95 x1.toNatClampNeg) = 0)) → vp_in x3 4) (k5 : (¬ ((f_RM_isSheet x1) = 0)) → (¬ (f_RM_isSheet x3) = 0) → (¬ ((I 95 x1.toNatClampNeg) = 0)) → (¬ (I 95 x3.toNatClampNeg) = 0) → ((I 96 x1.toNatClampNeg) = (I 96 x3.toNatClampNeg)) → (x2 < 0) → Go G (fr G m_RM_copy (d + 2) P) 111 [some (.ref 67), none, none, none, none, none, none] [] I J) (k6 : (¬ ((f_RM_isSheet x1) = 0)) → (¬ (f_RM_isSheet x3) = 0) → (¬ ((I 95 x1.toNatClampNeg) = 0)) → (¬ (I 95 x3.toNatClampNeg) = 0) → ((I 96 x1.toNatClampNeg) = (I 96 x3.toNatClampNeg)) → (¬ (x2 < 0)) → (x4 < 0) → Go G (fr G m_RM_copy (d + 2) P) 111 [some (.ref 67), none, none, none, none, none, none] [] I J) (k7 : (¬ ((f_RM_isSheet x1) = 0)) → (¬ (f_RM_isSheet x3) = 0) → (¬ ((I 95 x1.toNatClampNeg) = 0)) → (¬ (I 95 x3.toNatClampNeg) = 0) → ((I 96 x1.toNatClampNeg) = (I 96 x3.toNatClampNeg)) → (¬ (x2 < 0)) → (¬ (x4 < 0)) → (x5 < 0) → Go G (fr G m_RM_copy (d + 2) P) 111 [some (.ref 67), none, none, none, none, none, none] [] I J) (k8 : (¬ ((f_RM_isSheet x1) = 0)) → (¬ (f_RM_isSheet x3) = 0) → (¬ ((I 95 x1.toNatClampNeg) = 0)) → (¬ (I 95 x3.toNatClampNeg) = 0) → ((I 96 x1.toNatClampNeg) = (I 96 x3.toNatClampNeg)) → (¬ (x2 < 0)) → (¬ (x4 < 0)) → (¬ (x5 < 0)) → ((Int32.toInt64 (I 97 x1.toNatClampNeg)) < ((Int32.toInt64 x2) + (Int32.toInt64 x5))) → Go G (fr G m_RM_copy (d + 2) P) 111 [some (.ref 67), none, none, none, none, none, none] [] I J) (k9 : (¬ ((f_RM_isSheet x1) = 0)) → (¬ (f_RM_isSheet x3) = 0) → (¬ ((I 95 x1.toNatClampNeg) = 0)) → (¬ (I 95 x3.toNatClampNeg) = 0) → ((I 96 x1.toNatClampNeg) = (I 96 x3.toNatClampNeg)) → (¬ (x2 < 0)) → (¬ (x4 < 0)) → (¬ (x5 < 0)) → (¬ ((Int32.toInt64 (I 97 x1.toNatClampNeg)) < ((Int32.toInt64 x2) + (Int32.toInt64 x5)))) → (((Int32.toInt64 x4) + (Int32.toInt64 x5)) ≤ (Int32.toInt64 (I 97 x3.toNatClampNeg))) → Go G (fr G m_RM_copy (d + 2) P) 120 [some (.ref 67), some (.int x1), some (.int x2), some (.int x3), some (.int x4), some (.int x5), some (.int 0)] [] I J) (k10 : (¬ ((f_RM_isSheet x1) = 0)) → (¬ (f_RM_isSheet x3) = 0) → (¬ ((I 95 x1.toNatClampNeg) = 0)) → (¬ (I 95 x3.toNatClampNeg) = 0) → ((I 96 x1.toNatClampNeg) = (I 96 x3.toNatClampNeg)) → (¬ (x2 < 0)) → (¬ (x4 < 0)) → (¬ (x5 < 0)) → (¬ ((Int32.toInt64 (I 97 x1.toNatClampNeg)) < ((Int32.toInt64 x2) + (Int32.toInt64 x5)))) → (¬ (((Int32.toInt64 x4) + (Int32.toInt64 x5)) ≤ (Int32.toInt64 (I 97 x3.toNatClampNeg)))) → Go G (fr G m_RM_copy (d + 2) P) 111 [some (.ref 67), none, none, none, none, none, none] [] I J) (k11 : (¬ ((f_RM_isSheet x1) = 0)) → (¬ (f_RM_isSheet x3) = 0) → (¬ ((I 95 x1.toNatClampNeg) = 0)) → (¬ (I 95 x3.toNatClampNeg) = 0) → (¬ ((I 96 x1.toNatClampNeg) = (I 96 x3.toNatClampNeg))) → Ct G (d + 1) m_RM_meets [.ref 67, .int 4] (fun r I' J' => Go G (fr G m_RM_copy (d + 2) P) 61 [none, none, none, none, none, none, none] (r.toList ++ []) I' J') I J) (k12 : (¬ ((f_RM_isSheet x1) = 0)) → (¬ (f_RM_isSheet x3) = 0) → (¬ ((I 95 x1.toNatClampNeg) = 0)) → ((I 95 x3.toNatClampNeg) = 0) → Go G (fr G m_RM_copy (d + 2) P) 35 [some (.ref 67), none, none, none, none, none, none] [] I J) (k13 : (¬ ((f_RM_isSheet x1) = 0)) → ((f_RM_isSheet x3) = 0) → Go G (fr G m_RM_copy (d + 2) P) 14 [none, none, none, none, none, none, none] [] I J) : Go G (fr G m_RM_copy (d + 2) P) 0 [some (.ref 67), some (.int x1), some (.int x2), some (.int x3), some (.int x4), some (.int x5), none] [] I J := by
  refine g_iload_n dc_RM_copy_0 rfl rfl rfl ?_
  refine g_callS (M := m_RM_isSheet) (As := [.int x1]) (rest := []) ok_RM_isSheet st_RM_isSheet ml_RM_134 rfl rfl (Nat.le_of_ble_eq_true rfl) dc_RM_copy_1 rfl rOk_fr (c_RM_isSheet ?_)
  show Go G (fr G m_RM_copy (d + 2) P) 4 [some (.ref 67), some (.int x1), some (.int x2), some (.int x3), some (.int x4), some (.int x5), none] [.int (f_RM_isSheet x1)] I J
  refine g_if_eq (tgt := 14) dc_RM_copy_4 rfl (by decide) (fun c1 => ?_) (fun c1 => ?_)
  · refine g_weak [none, none, none, none, none, none, none] trivial ?_
    exact (k1 c1)
  · refine g_iload_n dc_RM_copy_7 rfl rfl rfl ?_
    refine g_callS (M := m_RM_isSheet) (As := [.int x3]) (rest := []) ok_RM_isSheet st_RM_isSheet ml_RM_134 rfl rfl (Nat.le_of_ble_eq_true rfl) dc_RM_copy_8 rfl rOk_fr (c_RM_isSheet ?_)
    show Go G (fr G m_RM_copy (d + 2) P) 11 [some (.ref 67), some (.int x1), some (.int x2), some (.int x3), some (.int x4), some (.int x5), none] [.int (f_RM_isSheet x3)] I J
    refine g_if_ne (tgt := 17) dc_RM_copy_11 rfl (by decide) (fun c2 => ?_) (fun c2 => ?_)
    · refine g_aload_n dc_RM_copy_17 rfl rfl rfl ?_
      refine g_get (C := "LevelBreaksModel") (T := T_RM) (N := 45) (k := 39) (v := .ref 95) sh_67 (by decide) rfl rfl i_RM (by decide) fl_RM_97 (Or.inl rfl) rfl dc_RM_copy_18 rfl ?_
      refine g_iload_n dc_RM_copy_21 rfl rfl rfl ?_
      refine g_zaldv (v := (I 95 x1.toNatClampNeg)) sh_95 (b2 c1 c2) rfl dc_RM_copy_22 rfl ?_
      refine g_if_eq (tgt := 35) dc_RM_copy_23 rfl (by decide) (fun c3 => ?_) (fun c3 => ?_)
      · refine g_weak [some (.ref 67), none, none, none, none, none, none] ⟨rfl, trivial⟩ ?_
        exact (k3 c1 c2 c3)
      · refine g_aload_n dc_RM_copy_26 rfl rfl rfl ?_
        refine g_get (C := "LevelBreaksModel") (T := T_RM) (N := 45) (k := 39) (v := .ref 95) sh_67 (by decide) rfl rfl i_RM (by decide) fl_RM_97 (Or.inl rfl) rfl dc_RM_copy_27 rfl ?_
        refine g_iload_n dc_RM_copy_30 rfl rfl rfl ?_
        refine g_zaldv (v := (I 95 x3.toNatClampNeg)) sh_95 (b4 c1 c2 c3) rfl dc_RM_copy_31 rfl ?_
        refine g_if_ne (tgt := 41) dc_RM_copy_32 rfl (by decide) (fun c4 => ?_) (fun c4 => ?_)
        · refine g_aload_n dc_RM_copy_41 rfl rfl rfl ?_
          refine g_get (C := "LevelBreaksModel") (T := T_RM) (N := 45) (k := 40) (v := .ref 96) sh_67 (by decide) rfl rfl i_RM (by decide) fl_RM_100 (Or.inl rfl) rfl dc_RM_copy_42 rfl ?_
          refine g_iload_n dc_RM_copy_45 rfl rfl rfl ?_
          refine g_ialdv (v := (I 96 x1.toNatClampNeg)) sh_96 (b2 c1 c2) rfl dc_RM_copy_46 rfl ?_
          refine g_aload_n dc_RM_copy_47 rfl rfl rfl ?_
          refine g_get (C := "LevelBreaksModel") (T := T_RM) (N := 45) (k := 40) (v := .ref 96) sh_67 (by decide) rfl rfl i_RM (by decide) fl_RM_100 (Or.inl rfl) rfl dc_RM_copy_48 rfl ?_
          refine g_iload_n dc_RM_copy_51 rfl rfl rfl ?_
          refine g_ialdv (v := (I 96 x3.toNatClampNeg)) sh_96 (b4 c1 c2 c3) rfl dc_RM_copy_52 rfl ?_
          refine g_ic_eq (tgt := 62) dc_RM_copy_53 rfl (by decide) (fun c5 => ?_) (fun c5 => ?_)
          · refine g_iload_n dc_RM_copy_62 rfl rfl rfl ?_
            refine g_if_lt (tgt := 111) dc_RM_copy_63 rfl (by decide) (fun c6 => ?_) (fun c6 => ?_)
            · refine g_weak [some (.ref 67), none, none, none, none, none, none] ⟨rfl, trivial⟩ ?_
              exact (k5 c1 c2 c3 c4 c5 c6)
            · refine g_iload dc_RM_copy_66 rfl rfl ?_
              refine g_if_lt (tgt := 111) dc_RM_copy_68 rfl (by decide) (fun c7 => ?_) (fun c7 => ?_)
              · refine g_weak [some (.ref 67), none, none, none, none, none, none] ⟨rfl, trivial⟩ ?_
                exact (k6 c1 c2 c3 c4 c5 c6 c7)
              · refine g_iload dc_RM_copy_71 rfl rfl ?_
                refine g_if_lt (tgt := 111) dc_RM_copy_73 rfl (by decide) (fun c8 => ?_) (fun c8 => ?_)
                · refine g_weak [some (.ref 67), none, none, none, none, none, none] ⟨rfl, trivial⟩ ?_
                  exact (k7 c1 c2 c3 c4 c5 c6 c7 c8)
                · refine g_iload_n dc_RM_copy_76 rfl rfl rfl ?_
                  refine g_i2l dc_RM_copy_77 rfl ?_
                  refine g_iload dc_RM_copy_78 rfl rfl ?_
                  refine g_i2l dc_RM_copy_80 rfl ?_
                  refine g_ladd dc_RM_copy_81 rfl ?_
                  refine g_aload_n dc_RM_copy_82 rfl rfl rfl ?_
                  refine g_get (C := "LevelBreaksModel") (T := T_RM) (N := 45) (k := 41) (v := .ref 97) sh_67 (by decide) rfl rfl i_RM (by decide) fl_RM_103 (Or.inl rfl) rfl dc_RM_copy_83 rfl ?_
                  refine g_iload_n dc_RM_copy_86 rfl rfl rfl ?_
                  refine g_ialdv (v := (I 97 x1.toNatClampNeg)) sh_97 (b2 c1 c2) rfl dc_RM_copy_87 rfl ?_
                  refine g_i2l dc_RM_copy_88 rfl ?_
                  refine g_lc_gt (tgt := 111) dc_RM_copy_89 rfl dc_RM_copy_90 rfl (by decide) (fun c9 => ?_) (fun c9 => ?_)
                  · refine g_weak [some (.ref 67), none, none, none, none, none, none] ⟨rfl, trivial⟩ ?_
                    exact (k8 c1 c2 c3 c4 c5 c6 c7 c8 c9)
                  · refine g_iload dc_RM_copy_93 rfl rfl ?_
                    refine g_i2l dc_RM_copy_95 rfl ?_
                    refine g_iload dc_RM_copy_96 rfl rfl ?_
                    refine g_i2l dc_RM_copy_98 rfl ?_
                    refine g_ladd dc_RM_copy_99 rfl ?_
                    refine g_aload_n dc_RM_copy_100 rfl rfl rfl ?_
                    refine g_get (C := "LevelBreaksModel") (T := T_RM) (N := 45) (k := 41) (v := .ref 97) sh_67 (by decide) rfl rfl i_RM (by decide) fl_RM_103 (Or.inl rfl) rfl dc_RM_copy_101 rfl ?_
                    refine g_iload_n dc_RM_copy_104 rfl rfl rfl ?_
                    refine g_ialdv (v := (I 97 x3.toNatClampNeg)) sh_97 (b4 c1 c2 c3) rfl dc_RM_copy_105 rfl ?_
                    refine g_i2l dc_RM_copy_106 rfl ?_
                    refine g_lc_le (tgt := 117) dc_RM_copy_107 rfl dc_RM_copy_108 rfl (by decide) (fun c10 => ?_) (fun c10 => ?_)
                    · refine g_iconst (v := 0) dc_RM_copy_117 rfl (by decide) ?_
                      refine g_istore (L' := [some (.ref 67), some (.int x1), some (.int x2), some (.int x3), some (.int x4), some (.int x5), some (.int 0)]) dc_RM_copy_118 rfl (Nat.le_of_ble_eq_true rfl) rfl ?_
                      exact (k9 c1 c2 c3 c4 c5 c6 c7 c8 c9 c10)
                    · refine g_weak [some (.ref 67), none, none, none, none, none, none] ⟨rfl, trivial⟩ ?_
                      exact (k10 c1 c2 c3 c4 c5 c6 c7 c8 c9 c10)
          · refine g_aload_n dc_RM_copy_56 rfl rfl rfl ?_
            refine g_iconst (v := 4) dc_RM_copy_57 rfl (by decide) ?_
            refine g_weak [none, none, none, none, none, none, none] trivial ?_
            exact g_callV (T := T_RM) (N := 45) (As := [.int 4]) (rest := []) ok_RM_meets in_RM_meets se_RM_meets ml_RM_137 sh_67 (by decide) rfl rfl rfl (Nat.le_of_ble_eq_true rfl) dc_RM_copy_58 rfl rOk_fr (k11 c1 c2 c3 c4 c5)
        · refine g_weak [some (.ref 67), none, none, none, none, none, none] ⟨rfl, trivial⟩ ?_
          exact (k12 c1 c2 c3 c4)
    · refine g_weak [none, none, none, none, none, none, none] trivial ?_
      exact (k13 c1 c2)
theorem w_RM_copy_14 {G : GC} {d : Nat} {P : PT} {I : MI} {J : MJ}  (q1 : P (some (.int (-2))) I J) : Go G (fr G m_RM_copy (d + 2) P) 14 [none, none, none, none, none, none, none] [] I J := by
  refine g_bipush (v := (-2)) dc_RM_copy_14 rfl (by decide) ?_
  exact g_iret rfl dc_RM_copy_16 q1
theorem w_RM_copy_35 {G : GC} {d : Nat} {P : PT} {I : MI} {J : MJ}  (k1 : Ct G (d + 1) m_RM_meets [.ref 67, .int 1] (fun r I' J' => Go G (fr G m_RM_copy (d + 2) P) 40 [none, none, none, none, none, none, none] (r.toList ++ []) I' J') I J) : Go G (fr G m_RM_copy (d + 2) P) 35 [some (.ref 67), none, none, none, none, none, none] [] I J := by
  refine g_aload_n dc_RM_copy_35 rfl rfl rfl ?_
  refine g_iconst (v := 1) dc_RM_copy_36 rfl (by decide) ?_
  refine g_weak [none, none, none, none, none, none, none] trivial ?_
  exact g_callV (T := T_RM) (N := 45) (As := [.int 1]) (rest := []) ok_RM_meets in_RM_meets se_RM_meets ml_RM_137 sh_67 (by decide) rfl rfl rfl (Nat.le_of_ble_eq_true rfl) dc_RM_copy_37 rfl rOk_fr k1
theorem w_RM_copy_40 {G : GC} {d : Nat} {P : PT} {I : MI} {J : MJ} {y0 : Int32} (q1 : P (some (.int y0)) I J) : Go G (fr G m_RM_copy (d + 2) P) 40 [none, none, none, none, none, none, none] [.int y0] I J := by
  exact g_iret rfl dc_RM_copy_40 q1
theorem w_RM_copy_61 {G : GC} {d : Nat} {P : PT} {I : MI} {J : MJ} {y0 : Int32} (q1 : P (some (.int y0)) I J) : Go G (fr G m_RM_copy (d + 2) P) 61 [none, none, none, none, none, none, none] [.int y0] I J := by
  exact g_iret rfl dc_RM_copy_61 q1
theorem w_RM_copy_111 {G : GC} {d : Nat} {P : PT} {I : MI} {J : MJ}  (k1 : Ct G (d + 1) m_RM_meets [.ref 67, .int 2] (fun r I' J' => Go G (fr G m_RM_copy (d + 2) P) 116 [none, none, none, none, none, none, none] (r.toList ++ []) I' J') I J) : Go G (fr G m_RM_copy (d + 2) P) 111 [some (.ref 67), none, none, none, none, none, none] [] I J := by
  refine g_aload_n dc_RM_copy_111 rfl rfl rfl ?_
  refine g_iconst (v := 2) dc_RM_copy_112 rfl (by decide) ?_
  refine g_weak [none, none, none, none, none, none, none] trivial ?_
  exact g_callV (T := T_RM) (N := 45) (As := [.int 2]) (rest := []) ok_RM_meets in_RM_meets se_RM_meets ml_RM_137 sh_67 (by decide) rfl rfl rfl (Nat.le_of_ble_eq_true rfl) dc_RM_copy_113 rfl rOk_fr k1
theorem w_RM_copy_116 {G : GC} {d : Nat} {P : PT} {I : MI} {J : MJ} {y0 : Int32} (q1 : P (some (.int y0)) I J) : Go G (fr G m_RM_copy (d + 2) P) 116 [none, none, none, none, none, none, none] [.int y0] I J := by
  exact g_iret rfl dc_RM_copy_116 q1
theorem w_RM_copy_120 {G : GC} {d : Nat} {P : PT} {I : MI} {J : MJ} {x1 : Int32} {x2 : Int32} {x3 : Int32} {x4 : Int32} {x5 : Int32} {x6 : Int32} (k1 : (x5 ≤ x6) → Go G (fr G m_RM_copy (d + 2) P) 157 [some (.ref 67), none, none, some (.int x3), some (.int x4), some (.int x5), some (.int 0)] [] I J) (b2 : (¬ (x5 ≤ x6)) → vp_in (((60 * x1) + x2) + x6) 240) (b3 : (¬ (x5 ≤ x6)) → vp_in x6 60) (k4 : (¬ (x5 ≤ x6)) → Go G (fr G m_RM_copy (d + 2) P) 120 [some (.ref 67), some (.int x1), some (.int x2), some (.int x3), some (.int x4), some (.int x5), some (.int (x6 + 1))] [] (u2 I 99 x6.toNatClampNeg (I 98 (((60 * x1) + x2) + x6).toNatClampNeg)) J) : Go G (fr G m_RM_copy (d + 2) P) 120 [some (.ref 67), some (.int x1), some (.int x2), some (.int x3), some (.int x4), some (.int x5), some (.int x6)] [] I J := by
  refine g_iload dc_RM_copy_120 rfl rfl ?_
  refine g_iload dc_RM_copy_122 rfl rfl ?_
  refine g_ic_ge (tgt := 154) dc_RM_copy_124 rfl (by decide) (fun c1 => ?_) (fun c1 => ?_)
  · refine g_iconst (v := 0) dc_RM_copy_154 rfl (by decide) ?_
    refine g_istore (L' := [some (.ref 67), some (.int x1), some (.int x2), some (.int x3), some (.int x4), some (.int x5), some (.int 0)]) dc_RM_copy_155 rfl (Nat.le_of_ble_eq_true rfl) rfl ?_
    refine g_weak [some (.ref 67), none, none, some (.int x3), some (.int x4), some (.int x5), some (.int 0)] ⟨rfl, ⟨rfl, ⟨rfl, ⟨rfl, ⟨rfl, trivial⟩⟩⟩⟩⟩ ?_
    exact (k1 c1)
  · refine g_aload_n dc_RM_copy_127 rfl rfl rfl ?_
    refine g_get (C := "LevelBreaksModel") (T := T_RM) (N := 45) (k := 43) (v := .ref 99) sh_67 (by decide) rfl rfl i_RM (by decide) fl_RM_109 (Or.inl rfl) rfl dc_RM_copy_128 rfl ?_
    refine g_iload dc_RM_copy_131 rfl rfl ?_
    refine g_aload_n dc_RM_copy_133 rfl rfl rfl ?_
    refine g_get (C := "LevelBreaksModel") (T := T_RM) (N := 45) (k := 42) (v := .ref 98) sh_67 (by decide) rfl rfl i_RM (by decide) fl_RM_106 (Or.inl rfl) rfl dc_RM_copy_134 rfl ?_
    refine g_bipush (v := 60) dc_RM_copy_137 rfl (by decide) ?_
    refine g_iload_n dc_RM_copy_139 rfl rfl rfl ?_
    refine g_imul dc_RM_copy_140 rfl ?_
    refine g_iload_n dc_RM_copy_141 rfl rfl rfl ?_
    refine g_iadd dc_RM_copy_142 rfl ?_
    refine g_iload dc_RM_copy_143 rfl rfl ?_
    refine g_iadd dc_RM_copy_145 rfl ?_
    refine g_ialdv (v := (I 98 (((60 * x1) + x2) + x6).toNatClampNeg)) sh_98 (b2 c1) rfl dc_RM_copy_146 rfl ?_
    refine g_iast sh_99 (b3 c1) dc_RM_copy_147 rfl ?_
    refine g_iinc (v := (x6 + 1)) (L' := [some (.ref 67), some (.int x1), some (.int x2), some (.int x3), some (.int x4), some (.int x5), some (.int (x6 + 1))]) dc_RM_copy_148 rfl rfl (by rw [show Int32.ofInt 1 = 1 from by decide]) (Nat.le_of_ble_eq_true rfl) rfl ?_
    refine g_goto (tgt := 120) dc_RM_copy_151 (by decide) ?_
    exact (k4 c1)
theorem w_RM_copy_157 {G : GC} {d : Nat} {P : PT} {I : MI} {J : MJ} {x3 : Int32} {x4 : Int32} {x5 : Int32} {x6 : Int32} (q1 : (x5 ≤ x6) → P (some (.int 1)) I J) (b2 : (¬ (x5 ≤ x6)) → vp_in x6 60) (b3 : (¬ (x5 ≤ x6)) → vp_in (((60 * x3) + x4) + x6) 240) (k4 : (¬ (x5 ≤ x6)) → Go G (fr G m_RM_copy (d + 2) P) 157 [some (.ref 67), none, none, some (.int x3), some (.int x4), some (.int x5), some (.int (x6 + 1))] [] (u2 I 98 (((60 * x3) + x4) + x6).toNatClampNeg (I 99 x6.toNatClampNeg)) J) : Go G (fr G m_RM_copy (d + 2) P) 157 [some (.ref 67), none, none, some (.int x3), some (.int x4), some (.int x5), some (.int x6)] [] I J := by
  refine g_iload dc_RM_copy_157 rfl rfl ?_
  refine g_iload dc_RM_copy_159 rfl rfl ?_
  refine g_ic_ge (tgt := 192) dc_RM_copy_161 rfl (by decide) (fun c1 => ?_) (fun c1 => ?_)
  · refine g_iconst (v := 1) dc_RM_copy_192 rfl (by decide) ?_
    exact g_iret rfl dc_RM_copy_193 (q1 c1)
  · refine g_aload_n dc_RM_copy_164 rfl rfl rfl ?_
    refine g_get (C := "LevelBreaksModel") (T := T_RM) (N := 45) (k := 42) (v := .ref 98) sh_67 (by decide) rfl rfl i_RM (by decide) fl_RM_106 (Or.inl rfl) rfl dc_RM_copy_165 rfl ?_
    refine g_bipush (v := 60) dc_RM_copy_168 rfl (by decide) ?_
    refine g_iload_n dc_RM_copy_170 rfl rfl rfl ?_
    refine g_imul dc_RM_copy_171 rfl ?_
    refine g_iload dc_RM_copy_172 rfl rfl ?_
    refine g_iadd dc_RM_copy_174 rfl ?_
    refine g_iload dc_RM_copy_175 rfl rfl ?_
    refine g_iadd dc_RM_copy_177 rfl ?_
    refine g_aload_n dc_RM_copy_178 rfl rfl rfl ?_
    refine g_get (C := "LevelBreaksModel") (T := T_RM) (N := 45) (k := 43) (v := .ref 99) sh_67 (by decide) rfl rfl i_RM (by decide) fl_RM_109 (Or.inl rfl) rfl dc_RM_copy_179 rfl ?_
    refine g_iload dc_RM_copy_182 rfl rfl ?_
    refine g_ialdv (v := (I 99 x6.toNatClampNeg)) sh_99 (b2 c1) rfl dc_RM_copy_184 rfl ?_
    refine g_iast sh_98 (b3 c1) dc_RM_copy_185 rfl ?_
    refine g_iinc (v := (x6 + 1)) (L' := [some (.ref 67), none, none, some (.int x3), some (.int x4), some (.int x5), some (.int (x6 + 1))]) dc_RM_copy_186 rfl rfl (by rw [show Int32.ofInt 1 = 1 from by decide]) (Nat.le_of_ble_eq_true rfl) rfl ?_
    refine g_goto (tgt := 157) dc_RM_copy_189 (by decide) ?_
    exact (k4 c1)
theorem dc_RM_cost_0 : decode prog_14_method_25_code 0 = .ok (.iload_n 1, 1) := by decide +kernel
theorem dc_RM_cost_1 : decode prog_14_method_25_code 1 = .ok (.invokestatic 119, 3) := by decide +kernel
theorem dc_RM_cost_4 : decode prog_14_method_25_code 4 = .ok (.ifCond .eq 40, 3) := by decide +kernel
theorem dc_RM_cost_7 : decode prog_14_method_25_code 7 = .ok (.iload_n 2, 1) := by decide +kernel
theorem dc_RM_cost_8 : decode prog_14_method_25_code 8 = .ok (.invokestatic 186, 3) := by decide +kernel
theorem dc_RM_cost_11 : decode prog_14_method_25_code 11 = .ok (.ifCond .eq 33, 3) := by decide +kernel
theorem dc_RM_cost_14 : decode prog_14_method_25_code 14 = .ok (.iload 5, 2) := by decide +kernel
theorem dc_RM_cost_16 : decode prog_14_method_25_code 16 = .ok (.iconst 0, 1) := by decide +kernel
theorem dc_RM_cost_17 : decode prog_14_method_25_code 17 = .ok (.iconst 1, 1) := by decide +kernel
theorem dc_RM_cost_18 : decode prog_14_method_25_code 18 = .ok (.invokestatic 112, 3) := by decide +kernel
theorem dc_RM_cost_21 : decode prog_14_method_25_code 21 = .ok (.ifCond .eq 23, 3) := by decide +kernel
theorem dc_RM_cost_24 : decode prog_14_method_25_code 24 = .ok (.iload_n 3, 1) := by decide +kernel
theorem dc_RM_cost_25 : decode prog_14_method_25_code 25 = .ok (.ifCond .lt 19, 3) := by decide +kernel
theorem dc_RM_cost_28 : decode prog_14_method_25_code 28 = .ok (.iload 4, 2) := by decide +kernel
theorem dc_RM_cost_30 : decode prog_14_method_25_code 30 = .ok (.iload_n 3, 1) := by decide +kernel
theorem dc_RM_cost_31 : decode prog_14_method_25_code 31 = .ok (.if_icmp .lt 13, 3) := by decide +kernel
theorem dc_RM_cost_34 : decode prog_14_method_25_code 34 = .ok (.iload 4, 2) := by decide +kernel
theorem dc_RM_cost_36 : decode prog_14_method_25_code 36 = .ok (.aload_n 0, 1) := by decide +kernel
theorem dc_RM_cost_37 : decode prog_14_method_25_code 37 = .ok (.iload_n 1, 1) := by decide +kernel
theorem dc_RM_cost_38 : decode prog_14_method_25_code 38 = .ok (.invokevirtual 152, 3) := by decide +kernel
theorem dc_RM_cost_41 : decode prog_14_method_25_code 41 = .ok (.if_icmp .lt 7, 3) := by decide +kernel
theorem dc_RM_cost_44 : decode prog_14_method_25_code 44 = .ok (.ldc2_w 189, 3) := by decide +kernel
theorem dc_RM_cost_47 : decode prog_14_method_25_code 47 = .ok (.lreturn, 1) := by decide +kernel
theorem dc_RM_cost_48 : decode prog_14_method_25_code 48 = .ok (.aload_n 0, 1) := by decide +kernel
theorem dc_RM_cost_49 : decode prog_14_method_25_code 49 = .ok (.iload_n 2, 1) := by decide +kernel
theorem dc_RM_cost_50 : decode prog_14_method_25_code 50 = .ok (.invokevirtual 191, 3) := by decide +kernel
theorem dc_RM_cost_53 : decode prog_14_method_25_code 53 = .ok (.bipush 40, 2) := by decide +kernel
theorem dc_RM_cost_55 : decode prog_14_method_25_code 55 = .ok (.iload_n 3, 1) := by decide +kernel
theorem dc_RM_cost_56 : decode prog_14_method_25_code 56 = .ok (.imul, 1) := by decide +kernel
theorem dc_RM_cost_57 : decode prog_14_method_25_code 57 = .ok (.iload 4, 2) := by decide +kernel
theorem dc_RM_cost_59 : decode prog_14_method_25_code 59 = .ok (.iadd, 1) := by decide +kernel
theorem dc_RM_cost_60 : decode prog_14_method_25_code 60 = .ok (.istore 6, 2) := by decide +kernel
theorem dc_RM_cost_62 : decode prog_14_method_25_code 62 = .ok (.iload 5, 2) := by decide +kernel
theorem dc_RM_cost_64 : decode prog_14_method_25_code 64 = .ok (.ifCond .ne 29, 3) := by decide +kernel
theorem dc_RM_cost_67 : decode prog_14_method_25_code 67 = .ok (.aload_n 0, 1) := by decide +kernel
theorem dc_RM_cost_68 : decode prog_14_method_25_code 68 = .ok (.getfield 38, 3) := by decide +kernel
theorem dc_RM_cost_71 : decode prog_14_method_25_code 71 = .ok (.iload 6, 2) := by decide +kernel
theorem dc_RM_cost_73 : decode prog_14_method_25_code 73 = .ok (.laload, 1) := by decide +kernel
theorem dc_RM_cost_74 : decode prog_14_method_25_code 74 = .ok (.aload_n 0, 1) := by decide +kernel
theorem dc_RM_cost_75 : decode prog_14_method_25_code 75 = .ok (.getfield 45, 3) := by decide +kernel
theorem dc_RM_cost_78 : decode prog_14_method_25_code 78 = .ok (.iload 6, 2) := by decide +kernel
theorem dc_RM_cost_80 : decode prog_14_method_25_code 80 = .ok (.laload, 1) := by decide +kernel
theorem dc_RM_cost_81 : decode prog_14_method_25_code 81 = .ok (.lmul, 1) := by decide +kernel
theorem dc_RM_cost_82 : decode prog_14_method_25_code 82 = .ok (.aload_n 0, 1) := by decide +kernel
theorem dc_RM_cost_83 : decode prog_14_method_25_code 83 = .ok (.getfield 42, 3) := by decide +kernel
theorem dc_RM_cost_86 : decode prog_14_method_25_code 86 = .ok (.iload 6, 2) := by decide +kernel
theorem dc_RM_cost_88 : decode prog_14_method_25_code 88 = .ok (.laload, 1) := by decide +kernel
theorem dc_RM_cost_89 : decode prog_14_method_25_code 89 = .ok (.ladd, 1) := by decide +kernel
theorem dc_RM_cost_90 : decode prog_14_method_25_code 90 = .ok (.goto 10, 3) := by decide +kernel
theorem dc_RM_cost_93 : decode prog_14_method_25_code 93 = .ok (.aload_n 0, 1) := by decide +kernel
theorem dc_RM_cost_94 : decode prog_14_method_25_code 94 = .ok (.getfield 45, 3) := by decide +kernel
theorem dc_RM_cost_97 : decode prog_14_method_25_code 97 = .ok (.iload 6, 2) := by decide +kernel
theorem dc_RM_cost_99 : decode prog_14_method_25_code 99 = .ok (.laload, 1) := by decide +kernel
theorem dc_RM_cost_100 : decode prog_14_method_25_code 100 = .ok (.lreturn, 1) := by decide +kernel
theorem w_RM_cost_0 {G : GC} {d : Nat} {P : PT} {I : MI} {J : MJ} {x1 : Int32} {x2 : Int32} {x3 : Int32} {x4 : Int32} {x5 : Int32} (k1 : ((f_RM_isRow x1) = 0) → Go G (fr G m_RM_cost (d + 4) P) 44 [none, none, none, none, none, none, none] [] I J) (k2 : (¬ ((f_RM_isRow x1) = 0)) → ((f_RM_isKind x2) = 0) → Go G (fr G m_RM_cost (d + 4) P) 44 [none, none, none, none, none, none, none] [] I J) (k3 : (¬ ((f_RM_isRow x1) = 0)) → (¬ ((f_RM_isKind x2) = 0)) → ((f_RM_in x5 0 1) = 0) → Go G (fr G m_RM_cost (d + 4) P) 44 [none, none, none, none, none, none, none] [] I J) (k4 : (¬ ((f_RM_isRow x1) = 0)) → (¬ ((f_RM_isKind x2) = 0)) → (¬ ((f_RM_in x5 0 1) = 0)) → (x3 < 0) → Go G (fr G m_RM_cost (d + 4) P) 44 [none, none, none, none, none, none, none] [] I J) (k5 : (¬ ((f_RM_isRow x1) = 0)) → (¬ ((f_RM_isKind x2) = 0)) → (¬ ((f_RM_in x5 0 1) = 0)) → (¬ (x3 < 0)) → (x4 < x3) → Go G (fr G m_RM_cost (d + 4) P) 44 [none, none, none, none, none, none, none] [] I J) (k6 : (¬ ((f_RM_isRow x1) = 0)) → (¬ ((f_RM_isKind x2) = 0)) → (¬ ((f_RM_in x5 0 1) = 0)) → (¬ (x3 < 0)) → (¬ (x4 < x3)) → Ct G (d + 3) m_RM_manyOf [.ref 67, .int x1] (fun r I' J' => Go G (fr G m_RM_cost (d + 4) P) 41 [some (.ref 67), none, some (.int x2), some (.int x3), some (.int x4), some (.int x5), none] (r.toList ++ [.int x4]) I' J') I J) : Go G (fr G m_RM_cost (d + 4) P) 0 [some (.ref 67), some (.int x1), some (.int x2), some (.int x3), some (.int x4), some (.int x5), none] [] I J := by
  refine g_iload_n dc_RM_cost_0 rfl rfl rfl ?_
  refine g_callS (M := m_RM_isRow) (As := [.int x1]) (rest := []) ok_RM_isRow st_RM_isRow ml_RM_119 rfl rfl (Nat.le_of_ble_eq_true rfl) dc_RM_cost_1 rfl rOk_fr (c_RM_isRow ?_)
  show Go G (fr G m_RM_cost (d + 4) P) 4 [some (.ref 67), some (.int x1), some (.int x2), some (.int x3), some (.int x4), some (.int x5), none] [.int (f_RM_isRow x1)] I J
  refine g_if_eq (tgt := 44) dc_RM_cost_4 rfl (by decide) (fun c1 => ?_) (fun c1 => ?_)
  · refine g_weak [none, none, none, none, none, none, none] trivial ?_
    exact (k1 c1)
  · refine g_iload_n dc_RM_cost_7 rfl rfl rfl ?_
    refine g_callS (M := m_RM_isKind) (As := [.int x2]) (rest := []) ok_RM_isKind st_RM_isKind ml_RM_186 rfl rfl (Nat.le_of_ble_eq_true rfl) dc_RM_cost_8 rfl rOk_fr (c_RM_isKind ?_)
    show Go G (fr G m_RM_cost (d + 4) P) 11 [some (.ref 67), some (.int x1), some (.int x2), some (.int x3), some (.int x4), some (.int x5), none] [.int (f_RM_isKind x2)] I J
    refine g_if_eq (tgt := 44) dc_RM_cost_11 rfl (by decide) (fun c2 => ?_) (fun c2 => ?_)
    · refine g_weak [none, none, none, none, none, none, none] trivial ?_
      exact (k2 c1 c2)
    · refine g_iload dc_RM_cost_14 rfl rfl ?_
      refine g_iconst (v := 0) dc_RM_cost_16 rfl (by decide) ?_
      refine g_iconst (v := 1) dc_RM_cost_17 rfl (by decide) ?_
      refine g_callS (M := m_RM_in) (As := [.int x5, .int 0, .int 1]) (rest := []) ok_RM_in st_RM_in ml_RM_112 rfl rfl (Nat.le_of_ble_eq_true rfl) dc_RM_cost_18 rfl rOk_fr (c_RM_in ?_)
      show Go G (fr G m_RM_cost (d + 4) P) 21 [some (.ref 67), some (.int x1), some (.int x2), some (.int x3), some (.int x4), some (.int x5), none] [.int (f_RM_in x5 0 1)] I J
      refine g_if_eq (tgt := 44) dc_RM_cost_21 rfl (by decide) (fun c3 => ?_) (fun c3 => ?_)
      · refine g_weak [none, none, none, none, none, none, none] trivial ?_
        exact (k3 c1 c2 c3)
      · refine g_iload_n dc_RM_cost_24 rfl rfl rfl ?_
        refine g_if_lt (tgt := 44) dc_RM_cost_25 rfl (by decide) (fun c4 => ?_) (fun c4 => ?_)
        · refine g_weak [none, none, none, none, none, none, none] trivial ?_
          exact (k4 c1 c2 c3 c4)
        · refine g_iload dc_RM_cost_28 rfl rfl ?_
          refine g_iload_n dc_RM_cost_30 rfl rfl rfl ?_
          refine g_ic_lt (tgt := 44) dc_RM_cost_31 rfl (by decide) (fun c5 => ?_) (fun c5 => ?_)
          · refine g_weak [none, none, none, none, none, none, none] trivial ?_
            exact (k5 c1 c2 c3 c4 c5)
          · refine g_iload dc_RM_cost_34 rfl rfl ?_
            refine g_aload_n dc_RM_cost_36 rfl rfl rfl ?_
            refine g_iload_n dc_RM_cost_37 rfl rfl rfl ?_
            refine g_weak [some (.ref 67), none, some (.int x2), some (.int x3), some (.int x4), some (.int x5), none] ⟨rfl, ⟨rfl, ⟨rfl, ⟨rfl, ⟨rfl, trivial⟩⟩⟩⟩⟩ ?_
            exact g_callV (T := T_RM) (N := 45) (As := [.int x1]) (rest := [.int x4]) ok_RM_manyOf in_RM_manyOf se_RM_manyOf ml_RM_152 sh_67 (by decide) rfl rfl rfl (Nat.le_of_ble_eq_true rfl) dc_RM_cost_38 rfl rOk_fr (k6 c1 c2 c3 c4 c5)
theorem w_RM_cost_41 {G : GC} {d : Nat} {P : PT} {I : MI} {J : MJ} {x2 : Int32} {x3 : Int32} {x4 : Int32} {x5 : Int32} {y0 : Int32} {y1 : Int32} (k1 : (y0 < y1) → Ct G (d + 3) m_RM_costs [.ref 67, .int x2] (fun r I' J' => Go G (fr G m_RM_cost (d + 4) P) 53 [some (.ref 67), none, none, some (.int x3), some (.int x4), some (.int x5), none] (r.toList ++ []) I' J') I J) (k2 : (¬ (y0 < y1)) → Go G (fr G m_RM_cost (d + 4) P) 44 [none, none, none, none, none, none, none] [] I J) : Go G (fr G m_RM_cost (d + 4) P) 41 [some (.ref 67), none, some (.int x2), some (.int x3), some (.int x4), some (.int x5), none] [.int y1, .int y0] I J := by
  refine g_ic_lt (tgt := 48) dc_RM_cost_41 rfl (by decide) (fun c1 => ?_) (fun c1 => ?_)
  · refine g_aload_n dc_RM_cost_48 rfl rfl rfl ?_
    refine g_iload_n dc_RM_cost_49 rfl rfl rfl ?_
    refine g_weak [some (.ref 67), none, none, some (.int x3), some (.int x4), some (.int x5), none] ⟨rfl, ⟨rfl, ⟨rfl, ⟨rfl, trivial⟩⟩⟩⟩ ?_
    exact g_callV (T := T_RM) (N := 45) (As := [.int x2]) (rest := []) ok_RM_costs in_RM_costs se_RM_costs ml_RM_191 sh_67 (by decide) rfl rfl rfl (Nat.le_of_ble_eq_true rfl) dc_RM_cost_50 rfl rOk_fr (k1 c1)
  · refine g_weak [none, none, none, none, none, none, none] trivial ?_
    exact (k2 c1)
theorem w_RM_cost_44 {G : GC} {d : Nat} {P : PT} {I : MI} {J : MJ}  (q1 : P (some (.long (-9223372036854775806))) I J) : Go G (fr G m_RM_cost (d + 4) P) 44 [none, none, none, none, none, none, none] [] I J := by
  refine g_ldc2 (v := (-9223372036854775806)) kl_RM_189 dc_RM_cost_44 rfl ?_
  exact g_lret rfl dc_RM_cost_47 q1
theorem w_RM_cost_53 {G : GC} {d : Nat} {P : PT} {I : MI} {J : MJ} {x3 : Int32} {x4 : Int32} {x5 : Int32} (b1 : (¬ x5 = 0) → vp_in ((40 * x3) + x4) 1600) (q2 : (¬ x5 = 0) → P (some (.long (J 78 ((40 * x3) + x4).toNatClampNeg))) I J) (b3 : (x5 = 0) → vp_in ((40 * x3) + x4) 1600) (q4 : (x5 = 0) → P (some (.long (((J 76 ((40 * x3) + x4).toNatClampNeg) * (J 78 ((40 * x3) + x4).toNatClampNeg)) + (J 77 ((40 * x3) + x4).toNatClampNeg)))) I J) : Go G (fr G m_RM_cost (d + 4) P) 53 [some (.ref 67), none, none, some (.int x3), some (.int x4), some (.int x5), none] [] I J := by
  refine g_bipush (v := 40) dc_RM_cost_53 rfl (by decide) ?_
  refine g_iload_n dc_RM_cost_55 rfl rfl rfl ?_
  refine g_imul dc_RM_cost_56 rfl ?_
  refine g_iload dc_RM_cost_57 rfl rfl ?_
  refine g_iadd dc_RM_cost_59 rfl ?_
  refine g_istore (L' := [some (.ref 67), none, none, some (.int x3), some (.int x4), some (.int x5), some (.int ((40 * x3) + x4))]) dc_RM_cost_60 rfl (Nat.le_of_ble_eq_true rfl) rfl ?_
  refine g_iload dc_RM_cost_62 rfl rfl ?_
  refine g_if_ne (tgt := 93) dc_RM_cost_64 rfl (by decide) (fun c1 => ?_) (fun c1 => ?_)
  · refine g_aload_n dc_RM_cost_93 rfl rfl rfl ?_
    refine g_get (C := "LevelBreaksModel") (T := T_RM) (N := 45) (k := 13) (v := .ref 78) sh_67 (by decide) rfl rfl i_RM (by decide) fl_RM_45 (Or.inl rfl) rfl dc_RM_cost_94 rfl ?_
    refine g_iload dc_RM_cost_97 rfl rfl ?_
    refine g_laldv (v := (J 78 ((40 * x3) + x4).toNatClampNeg)) sh_78 (b1 c1) rfl dc_RM_cost_99 rfl ?_
    exact g_lret rfl dc_RM_cost_100 (q2 c1)
  · refine g_aload_n dc_RM_cost_67 rfl rfl rfl ?_
    refine g_get (C := "LevelBreaksModel") (T := T_RM) (N := 45) (k := 11) (v := .ref 76) sh_67 (by decide) rfl rfl i_RM (by decide) fl_RM_38 (Or.inl rfl) rfl dc_RM_cost_68 rfl ?_
    refine g_iload dc_RM_cost_71 rfl rfl ?_
    refine g_laldv (v := (J 76 ((40 * x3) + x4).toNatClampNeg)) sh_76 (b3 c1) rfl dc_RM_cost_73 rfl ?_
    refine g_aload_n dc_RM_cost_74 rfl rfl rfl ?_
    refine g_get (C := "LevelBreaksModel") (T := T_RM) (N := 45) (k := 13) (v := .ref 78) sh_67 (by decide) rfl rfl i_RM (by decide) fl_RM_45 (Or.inl rfl) rfl dc_RM_cost_75 rfl ?_
    refine g_iload dc_RM_cost_78 rfl rfl ?_
    refine g_laldv (v := (J 78 ((40 * x3) + x4).toNatClampNeg)) sh_78 (b3 c1) rfl dc_RM_cost_80 rfl ?_
    refine g_lmul dc_RM_cost_81 rfl ?_
    refine g_aload_n dc_RM_cost_82 rfl rfl rfl ?_
    refine g_get (C := "LevelBreaksModel") (T := T_RM) (N := 45) (k := 12) (v := .ref 77) sh_67 (by decide) rfl rfl i_RM (by decide) fl_RM_42 (Or.inl rfl) rfl dc_RM_cost_83 rfl ?_
    refine g_iload dc_RM_cost_86 rfl rfl ?_
    refine g_laldv (v := (J 77 ((40 * x3) + x4).toNatClampNeg)) sh_77 (b3 c1) rfl dc_RM_cost_88 rfl ?_
    refine g_ladd dc_RM_cost_89 rfl ?_
    refine g_goto (tgt := 100) dc_RM_cost_90 (by decide) ?_
    exact g_lret rfl dc_RM_cost_100 (q4 c1)
theorem dc_RM_costs_0 : decode prog_14_method_23_code 0 = .ok (.iconst 0, 1) := by decide +kernel
theorem dc_RM_costs_1 : decode prog_14_method_23_code 1 = .ok (.istore_n 2, 1) := by decide +kernel
theorem dc_RM_costs_2 : decode prog_14_method_23_code 2 = .ok (.iload_n 2, 1) := by decide +kernel
theorem dc_RM_costs_3 : decode prog_14_method_23_code 3 = .ok (.aload_n 0, 1) := by decide +kernel
theorem dc_RM_costs_4 : decode prog_14_method_23_code 4 = .ok (.getfield 145, 3) := by decide +kernel
theorem dc_RM_costs_7 : decode prog_14_method_23_code 7 = .ok (.if_icmp .ge 48, 3) := by decide +kernel
theorem dc_RM_costs_10 : decode prog_14_method_23_code 10 = .ok (.iload_n 1, 1) := by decide +kernel
theorem dc_RM_costs_11 : decode prog_14_method_23_code 11 = .ok (.iconst 2, 1) := by decide +kernel
theorem dc_RM_costs_12 : decode prog_14_method_23_code 12 = .ok (.irem, 1) := by decide +kernel
theorem dc_RM_costs_13 : decode prog_14_method_23_code 13 = .ok (.ifCond .ne 21, 3) := by decide +kernel
theorem dc_RM_costs_16 : decode prog_14_method_23_code 16 = .ok (.aload_n 0, 1) := by decide +kernel
theorem dc_RM_costs_17 : decode prog_14_method_23_code 17 = .ok (.iload_n 2, 1) := by decide +kernel
theorem dc_RM_costs_18 : decode prog_14_method_23_code 18 = .ok (.iload_n 1, 1) := by decide +kernel
theorem dc_RM_costs_19 : decode prog_14_method_23_code 19 = .ok (.iconst 2, 1) := by decide +kernel
theorem dc_RM_costs_20 : decode prog_14_method_23_code 20 = .ok (.if_icmp .ne 7, 3) := by decide +kernel
theorem dc_RM_costs_23 : decode prog_14_method_23_code 23 = .ok (.iconst 1, 1) := by decide +kernel
theorem dc_RM_costs_24 : decode prog_14_method_23_code 24 = .ok (.goto 4, 3) := by decide +kernel
theorem dc_RM_costs_27 : decode prog_14_method_23_code 27 = .ok (.iconst 0, 1) := by decide +kernel
theorem dc_RM_costs_28 : decode prog_14_method_23_code 28 = .ok (.invokevirtual 179, 3) := by decide +kernel
theorem dc_RM_costs_31 : decode prog_14_method_23_code 31 = .ok (.goto 18, 3) := by decide +kernel
theorem dc_RM_costs_34 : decode prog_14_method_23_code 34 = .ok (.aload_n 0, 1) := by decide +kernel
theorem dc_RM_costs_35 : decode prog_14_method_23_code 35 = .ok (.iload_n 2, 1) := by decide +kernel
theorem dc_RM_costs_36 : decode prog_14_method_23_code 36 = .ok (.iload_n 1, 1) := by decide +kernel
theorem dc_RM_costs_37 : decode prog_14_method_23_code 37 = .ok (.iconst 1, 1) := by decide +kernel
theorem dc_RM_costs_38 : decode prog_14_method_23_code 38 = .ok (.if_icmp .ne 7, 3) := by decide +kernel
theorem dc_RM_costs_41 : decode prog_14_method_23_code 41 = .ok (.iconst 1, 1) := by decide +kernel
theorem dc_RM_costs_42 : decode prog_14_method_23_code 42 = .ok (.goto 4, 3) := by decide +kernel
theorem dc_RM_costs_45 : decode prog_14_method_23_code 45 = .ok (.iconst 0, 1) := by decide +kernel
theorem dc_RM_costs_46 : decode prog_14_method_23_code 46 = .ok (.invokevirtual 183, 3) := by decide +kernel
theorem dc_RM_costs_49 : decode prog_14_method_23_code 49 = .ok (.iinc 2 1, 3) := by decide +kernel
theorem dc_RM_costs_52 : decode prog_14_method_23_code 52 = .ok (.goto (-50), 3) := by decide +kernel
theorem dc_RM_costs_55 : decode prog_14_method_23_code 55 = .ok (.return_, 1) := by decide +kernel
theorem w_RM_costs_0 {G : GC} {d : Nat} {P : PT} {I : MI} {J : MJ} {x1 : Int32} (k1 : Go G (fr G m_RM_costs (d + 3) P) 2 [some (.ref 67), some (.int x1), some (.int 0)] [] I J) : Go G (fr G m_RM_costs (d + 3) P) 0 [some (.ref 67), some (.int x1), none] [] I J := by
  refine g_iconst (v := 0) dc_RM_costs_0 rfl (by decide) ?_
  refine g_istore_n (L' := [some (.ref 67), some (.int x1), some (.int 0)]) dc_RM_costs_1 rfl rfl (Nat.le_of_ble_eq_true rfl) rfl ?_
  exact k1
theorem w_RM_costs_2 {G : GC} {d : Nat} {P : PT} {I : MI} {J : MJ} {x1 : Int32} {x2 : Int32} (q1 : ((I 67 7) ≤ x2) → P none I J) (k2 : (¬ ((I 67 7) ≤ x2)) → (¬ (x1 - x1 / 2 * 2) = 0) → (¬ x1 = 1) → Go G (fr G m_RM_costs (d + 3) P) 46 [some (.ref 67), some (.int x1), some (.int x2)] [.int 0, .int x2, .ref 67] I J) (k3 : (¬ ((I 67 7) ≤ x2)) → (¬ (x1 - x1 / 2 * 2) = 0) → (x1 = 1) → Go G (fr G m_RM_costs (d + 3) P) 46 [some (.ref 67), some (.int x1), some (.int x2)] [.int 1, .int x2, .ref 67] I J) (k4 : (¬ ((I 67 7) ≤ x2)) → ((x1 - x1 / 2 * 2) = 0) → (¬ x1 = 2) → Go G (fr G m_RM_costs (d + 3) P) 28 [some (.ref 67), some (.int x1), some (.int x2)] [.int 0, .int x2, .ref 67] I J) (k5 : (¬ ((I 67 7) ≤ x2)) → ((x1 - x1 / 2 * 2) = 0) → (x1 = 2) → Go G (fr G m_RM_costs (d + 3) P) 28 [some (.ref 67), some (.int x1), some (.int x2)] [.int 1, .int x2, .ref 67] I J) : Go G (fr G m_RM_costs (d + 3) P) 2 [some (.ref 67), some (.int x1), some (.int x2)] [] I J := by
  refine g_iload_n dc_RM_costs_2 rfl rfl rfl ?_
  refine g_aload_n dc_RM_costs_3 rfl rfl rfl ?_
  refine g_get (C := "LevelBreaksModel") (T := T_RM) (N := 45) (k := 7) (v := .int (I 67 7)) sh_67 (by decide) rfl rfl i_RM (by decide) fl_RM_145 (Or.inl rfl) rfl dc_RM_costs_4 rfl ?_
  refine g_ic_ge (tgt := 55) dc_RM_costs_7 rfl (by decide) (fun c1 => ?_) (fun c1 => ?_)
  · exact g_vret rfl dc_RM_costs_55 (q1 c1)
  · refine g_iload_n dc_RM_costs_10 rfl rfl rfl ?_
    refine g_iconst (v := 2) dc_RM_costs_11 rfl (by decide) ?_
    refine g_irem dc_RM_costs_12 rfl (by decide) ?_
    refine g_if_ne (tgt := 34) dc_RM_costs_13 rfl (by decide) (fun c2 => ?_) (fun c2 => ?_)
    · refine g_aload_n dc_RM_costs_34 rfl rfl rfl ?_
      refine g_iload_n dc_RM_costs_35 rfl rfl rfl ?_
      refine g_iload_n dc_RM_costs_36 rfl rfl rfl ?_
      refine g_iconst (v := 1) dc_RM_costs_37 rfl (by decide) ?_
      refine g_ic_ne (tgt := 45) dc_RM_costs_38 rfl (by decide) (fun c3 => ?_) (fun c3 => ?_)
      · refine g_iconst (v := 0) dc_RM_costs_45 rfl (by decide) ?_
        exact (k2 c1 c2 c3)
      · refine g_iconst (v := 1) dc_RM_costs_41 rfl (by decide) ?_
        refine g_goto (tgt := 46) dc_RM_costs_42 (by decide) ?_
        exact (k3 c1 c2 c3)
    · refine g_aload_n dc_RM_costs_16 rfl rfl rfl ?_
      refine g_iload_n dc_RM_costs_17 rfl rfl rfl ?_
      refine g_iload_n dc_RM_costs_18 rfl rfl rfl ?_
      refine g_iconst (v := 2) dc_RM_costs_19 rfl (by decide) ?_
      refine g_ic_ne (tgt := 27) dc_RM_costs_20 rfl (by decide) (fun c4 => ?_) (fun c4 => ?_)
      · refine g_iconst (v := 0) dc_RM_costs_27 rfl (by decide) ?_
        exact (k4 c1 c2 c4)
      · refine g_iconst (v := 1) dc_RM_costs_23 rfl (by decide) ?_
        refine g_goto (tgt := 28) dc_RM_costs_24 (by decide) ?_
        exact (k5 c1 c2 c4)
theorem w_RM_costs_28 {G : GC} {d : Nat} {P : PT} {I : MI} {J : MJ} {x1 : Int32} {x2 : Int32} {y1 : Int32} {y2 : Int32} (k1 : Ct G (d + 2) m_RM_costsBySums [.ref 67, .int y1, .int y2] (fun r I' J' => Go G (fr G m_RM_costs (d + 3) P) 31 [some (.ref 67), some (.int x1), some (.int x2)] (r.toList ++ []) I' J') I J) : Go G (fr G m_RM_costs (d + 3) P) 28 [some (.ref 67), some (.int x1), some (.int x2)] [.int y2, .int y1, .ref 67] I J := by
  exact g_callV (T := T_RM) (N := 45) (As := [.int y1, .int y2]) (rest := []) ok_RM_costsBySums in_RM_costsBySums se_RM_costsBySums ml_RM_179 sh_67 (by decide) rfl rfl rfl (Nat.le_of_ble_eq_true rfl) dc_RM_costs_28 rfl rOk_fr k1
theorem w_RM_costs_31 {G : GC} {d : Nat} {P : PT} {I : MI} {J : MJ} {x1 : Int32} {x2 : Int32} (k1 : Go G (fr G m_RM_costs (d + 3) P) 49 [some (.ref 67), some (.int x1), some (.int x2)] [] I J) : Go G (fr G m_RM_costs (d + 3) P) 31 [some (.ref 67), some (.int x1), some (.int x2)] [] I J := by
  refine g_goto (tgt := 49) dc_RM_costs_31 (by decide) ?_
  exact k1
theorem w_RM_costs_46 {G : GC} {d : Nat} {P : PT} {I : MI} {J : MJ} {x1 : Int32} {x2 : Int32} {y1 : Int32} {y2 : Int32} (k1 : Ct G (d + 2) m_RM_costsBySorting [.ref 67, .int y1, .int y2] (fun r I' J' => Go G (fr G m_RM_costs (d + 3) P) 49 [some (.ref 67), some (.int x1), some (.int x2)] (r.toList ++ []) I' J') I J) : Go G (fr G m_RM_costs (d + 3) P) 46 [some (.ref 67), some (.int x1), some (.int x2)] [.int y2, .int y1, .ref 67] I J := by
  exact g_callV (T := T_RM) (N := 45) (As := [.int y1, .int y2]) (rest := []) ok_RM_costsBySorting in_RM_costsBySorting se_RM_costsBySorting ml_RM_183 sh_67 (by decide) rfl rfl rfl (Nat.le_of_ble_eq_true rfl) dc_RM_costs_46 rfl rOk_fr k1
theorem w_RM_costs_49 {G : GC} {d : Nat} {P : PT} {I : MI} {J : MJ} {x1 : Int32} {x2 : Int32} (k1 : Go G (fr G m_RM_costs (d + 3) P) 2 [some (.ref 67), some (.int x1), some (.int (x2 + 1))] [] I J) : Go G (fr G m_RM_costs (d + 3) P) 49 [some (.ref 67), some (.int x1), some (.int x2)] [] I J := by
  refine g_iinc (v := (x2 + 1)) (L' := [some (.ref 67), some (.int x1), some (.int (x2 + 1))]) dc_RM_costs_49 rfl rfl (by rw [show Int32.ofInt 1 = 1 from by decide]) (Nat.le_of_ble_eq_true rfl) rfl ?_
  refine g_goto (tgt := 2) dc_RM_costs_52 (by decide) ?_
  exact k1
theorem dc_RM_costsBySorting_0 : decode prog_14_method_22_code 0 = .ok (.iconst 0, 1) := by decide +kernel
theorem dc_RM_costsBySorting_1 : decode prog_14_method_22_code 1 = .ok (.istore_n 3, 1) := by decide +kernel
theorem dc_RM_costsBySorting_2 : decode prog_14_method_22_code 2 = .ok (.iload_n 1, 1) := by decide +kernel
theorem dc_RM_costsBySorting_3 : decode prog_14_method_22_code 3 = .ok (.istore 4, 2) := by decide +kernel
theorem dc_RM_costsBySorting_5 : decode prog_14_method_22_code 5 = .ok (.iload 4, 2) := by decide +kernel
theorem dc_RM_costsBySorting_7 : decode prog_14_method_22_code 7 = .ok (.aload_n 0, 1) := by decide +kernel
theorem dc_RM_costsBySorting_8 : decode prog_14_method_22_code 8 = .ok (.getfield 145, 3) := by decide +kernel
theorem dc_RM_costsBySorting_11 : decode prog_14_method_22_code 11 = .ok (.if_icmp .ge 202, 3) := by decide +kernel
theorem dc_RM_costsBySorting_14 : decode prog_14_method_22_code 14 = .ok (.iload_n 3, 1) := by decide +kernel
theorem dc_RM_costsBySorting_15 : decode prog_14_method_22_code 15 = .ok (.istore 5, 2) := by decide +kernel
theorem dc_RM_costsBySorting_17 : decode prog_14_method_22_code 17 = .ok (.iload 5, 2) := by decide +kernel
theorem dc_RM_costsBySorting_19 : decode prog_14_method_22_code 19 = .ok (.ifCond .le 44, 3) := by decide +kernel
theorem dc_RM_costsBySorting_22 : decode prog_14_method_22_code 22 = .ok (.aload_n 0, 1) := by decide +kernel
theorem dc_RM_costsBySorting_23 : decode prog_14_method_22_code 23 = .ok (.getfield 48, 3) := by decide +kernel
theorem dc_RM_costsBySorting_26 : decode prog_14_method_22_code 26 = .ok (.iload 5, 2) := by decide +kernel
theorem dc_RM_costsBySorting_28 : decode prog_14_method_22_code 28 = .ok (.iconst 1, 1) := by decide +kernel
theorem dc_RM_costsBySorting_29 : decode prog_14_method_22_code 29 = .ok (.isub, 1) := by decide +kernel
theorem dc_RM_costsBySorting_30 : decode prog_14_method_22_code 30 = .ok (.iaload, 1) := by decide +kernel
theorem dc_RM_costsBySorting_31 : decode prog_14_method_22_code 31 = .ok (.aload_n 0, 1) := by decide +kernel
theorem dc_RM_costsBySorting_32 : decode prog_14_method_22_code 32 = .ok (.getfield 29, 3) := by decide +kernel
theorem dc_RM_costsBySorting_35 : decode prog_14_method_22_code 35 = .ok (.iload 4, 2) := by decide +kernel
theorem dc_RM_costsBySorting_37 : decode prog_14_method_22_code 37 = .ok (.iaload, 1) := by decide +kernel
theorem dc_RM_costsBySorting_38 : decode prog_14_method_22_code 38 = .ok (.if_icmp .le 25, 3) := by decide +kernel
theorem dc_RM_costsBySorting_41 : decode prog_14_method_22_code 41 = .ok (.aload_n 0, 1) := by decide +kernel
theorem dc_RM_costsBySorting_42 : decode prog_14_method_22_code 42 = .ok (.getfield 48, 3) := by decide +kernel
theorem dc_RM_costsBySorting_45 : decode prog_14_method_22_code 45 = .ok (.iload 5, 2) := by decide +kernel
theorem dc_RM_costsBySorting_47 : decode prog_14_method_22_code 47 = .ok (.aload_n 0, 1) := by decide +kernel
theorem dc_RM_costsBySorting_48 : decode prog_14_method_22_code 48 = .ok (.getfield 48, 3) := by decide +kernel
theorem dc_RM_costsBySorting_51 : decode prog_14_method_22_code 51 = .ok (.iload 5, 2) := by decide +kernel
theorem dc_RM_costsBySorting_53 : decode prog_14_method_22_code 53 = .ok (.iconst 1, 1) := by decide +kernel
theorem dc_RM_costsBySorting_54 : decode prog_14_method_22_code 54 = .ok (.isub, 1) := by decide +kernel
theorem dc_RM_costsBySorting_55 : decode prog_14_method_22_code 55 = .ok (.iaload, 1) := by decide +kernel
theorem dc_RM_costsBySorting_56 : decode prog_14_method_22_code 56 = .ok (.iastore, 1) := by decide +kernel
theorem dc_RM_costsBySorting_57 : decode prog_14_method_22_code 57 = .ok (.iinc 5 (-1), 3) := by decide +kernel
theorem dc_RM_costsBySorting_60 : decode prog_14_method_22_code 60 = .ok (.goto (-43), 3) := by decide +kernel
theorem dc_RM_costsBySorting_63 : decode prog_14_method_22_code 63 = .ok (.aload_n 0, 1) := by decide +kernel
theorem dc_RM_costsBySorting_64 : decode prog_14_method_22_code 64 = .ok (.getfield 48, 3) := by decide +kernel
theorem dc_RM_costsBySorting_67 : decode prog_14_method_22_code 67 = .ok (.iload 5, 2) := by decide +kernel
theorem dc_RM_costsBySorting_69 : decode prog_14_method_22_code 69 = .ok (.aload_n 0, 1) := by decide +kernel
theorem dc_RM_costsBySorting_70 : decode prog_14_method_22_code 70 = .ok (.getfield 29, 3) := by decide +kernel
theorem dc_RM_costsBySorting_73 : decode prog_14_method_22_code 73 = .ok (.iload 4, 2) := by decide +kernel
theorem dc_RM_costsBySorting_75 : decode prog_14_method_22_code 75 = .ok (.iaload, 1) := by decide +kernel
theorem dc_RM_costsBySorting_76 : decode prog_14_method_22_code 76 = .ok (.iastore, 1) := by decide +kernel
theorem dc_RM_costsBySorting_77 : decode prog_14_method_22_code 77 = .ok (.iinc 3 1, 3) := by decide +kernel
theorem dc_RM_costsBySorting_80 : decode prog_14_method_22_code 80 = .ok (.lconst 0, 1) := by decide +kernel
theorem dc_RM_costsBySorting_81 : decode prog_14_method_22_code 81 = .ok (.lstore 6, 2) := by decide +kernel
theorem dc_RM_costsBySorting_83 : decode prog_14_method_22_code 83 = .ok (.iconst 0, 1) := by decide +kernel
theorem dc_RM_costsBySorting_84 : decode prog_14_method_22_code 84 = .ok (.istore 8, 2) := by decide +kernel
theorem dc_RM_costsBySorting_86 : decode prog_14_method_22_code 86 = .ok (.iconst 0, 1) := by decide +kernel
theorem dc_RM_costsBySorting_87 : decode prog_14_method_22_code 87 = .ok (.istore 9, 2) := by decide +kernel
theorem dc_RM_costsBySorting_89 : decode prog_14_method_22_code 89 = .ok (.iconst 0, 1) := by decide +kernel
theorem dc_RM_costsBySorting_90 : decode prog_14_method_22_code 90 = .ok (.istore 10, 2) := by decide +kernel
theorem dc_RM_costsBySorting_92 : decode prog_14_method_22_code 92 = .ok (.iload 10, 2) := by decide +kernel
theorem dc_RM_costsBySorting_94 : decode prog_14_method_22_code 94 = .ok (.iload_n 3, 1) := by decide +kernel
theorem dc_RM_costsBySorting_95 : decode prog_14_method_22_code 95 = .ok (.if_icmp .ge 86, 3) := by decide +kernel
theorem dc_RM_costsBySorting_98 : decode prog_14_method_22_code 98 = .ok (.lload 6, 2) := by decide +kernel
theorem dc_RM_costsBySorting_100 : decode prog_14_method_22_code 100 = .ok (.aload_n 0, 1) := by decide +kernel
theorem dc_RM_costsBySorting_101 : decode prog_14_method_22_code 101 = .ok (.getfield 48, 3) := by decide +kernel
theorem dc_RM_costsBySorting_104 : decode prog_14_method_22_code 104 = .ok (.iload 10, 2) := by decide +kernel
theorem dc_RM_costsBySorting_106 : decode prog_14_method_22_code 106 = .ok (.iaload, 1) := by decide +kernel
theorem dc_RM_costsBySorting_107 : decode prog_14_method_22_code 107 = .ok (.aload_n 0, 1) := by decide +kernel
theorem dc_RM_costsBySorting_108 : decode prog_14_method_22_code 108 = .ok (.getfield 48, 3) := by decide +kernel
theorem dc_RM_costsBySorting_111 : decode prog_14_method_22_code 111 = .ok (.iload_n 3, 1) := by decide +kernel
theorem dc_RM_costsBySorting_112 : decode prog_14_method_22_code 112 = .ok (.iconst 1, 1) := by decide +kernel
theorem dc_RM_costsBySorting_113 : decode prog_14_method_22_code 113 = .ok (.isub, 1) := by decide +kernel
theorem dc_RM_costsBySorting_114 : decode prog_14_method_22_code 114 = .ok (.iconst 2, 1) := by decide +kernel
theorem dc_RM_costsBySorting_115 : decode prog_14_method_22_code 115 = .ok (.idiv, 1) := by decide +kernel
theorem dc_RM_costsBySorting_116 : decode prog_14_method_22_code 116 = .ok (.iaload, 1) := by decide +kernel
theorem dc_RM_costsBySorting_117 : decode prog_14_method_22_code 117 = .ok (.isub, 1) := by decide +kernel
theorem dc_RM_costsBySorting_118 : decode prog_14_method_22_code 118 = .ok (.i2l, 1) := by decide +kernel
theorem dc_RM_costsBySorting_119 : decode prog_14_method_22_code 119 = .ok (.invokestatic 175, 3) := by decide +kernel
theorem dc_RM_costsBySorting_122 : decode prog_14_method_22_code 122 = .ok (.ladd, 1) := by decide +kernel
theorem dc_RM_costsBySorting_123 : decode prog_14_method_22_code 123 = .ok (.lstore 6, 2) := by decide +kernel
theorem dc_RM_costsBySorting_125 : decode prog_14_method_22_code 125 = .ok (.iload 10, 2) := by decide +kernel
theorem dc_RM_costsBySorting_127 : decode prog_14_method_22_code 127 = .ok (.ifCond .le 29, 3) := by decide +kernel
theorem dc_RM_costsBySorting_130 : decode prog_14_method_22_code 130 = .ok (.aload_n 0, 1) := by decide +kernel
theorem dc_RM_costsBySorting_131 : decode prog_14_method_22_code 131 = .ok (.getfield 48, 3) := by decide +kernel
theorem dc_RM_costsBySorting_134 : decode prog_14_method_22_code 134 = .ok (.iload 10, 2) := by decide +kernel
theorem dc_RM_costsBySorting_136 : decode prog_14_method_22_code 136 = .ok (.iaload, 1) := by decide +kernel
theorem dc_RM_costsBySorting_137 : decode prog_14_method_22_code 137 = .ok (.aload_n 0, 1) := by decide +kernel
theorem dc_RM_costsBySorting_138 : decode prog_14_method_22_code 138 = .ok (.getfield 48, 3) := by decide +kernel
theorem dc_RM_costsBySorting_141 : decode prog_14_method_22_code 141 = .ok (.iload 10, 2) := by decide +kernel
theorem dc_RM_costsBySorting_143 : decode prog_14_method_22_code 143 = .ok (.iconst 1, 1) := by decide +kernel
theorem dc_RM_costsBySorting_144 : decode prog_14_method_22_code 144 = .ok (.isub, 1) := by decide +kernel
theorem dc_RM_costsBySorting_145 : decode prog_14_method_22_code 145 = .ok (.iaload, 1) := by decide +kernel
theorem dc_RM_costsBySorting_146 : decode prog_14_method_22_code 146 = .ok (.if_icmp .ne 10, 3) := by decide +kernel
theorem dc_RM_costsBySorting_149 : decode prog_14_method_22_code 149 = .ok (.iload 8, 2) := by decide +kernel
theorem dc_RM_costsBySorting_151 : decode prog_14_method_22_code 151 = .ok (.iconst 1, 1) := by decide +kernel
theorem dc_RM_costsBySorting_152 : decode prog_14_method_22_code 152 = .ok (.iadd, 1) := by decide +kernel
theorem dc_RM_costsBySorting_153 : decode prog_14_method_22_code 153 = .ok (.goto 4, 3) := by decide +kernel
theorem dc_RM_costsBySorting_156 : decode prog_14_method_22_code 156 = .ok (.iconst 1, 1) := by decide +kernel
theorem dc_RM_costsBySorting_157 : decode prog_14_method_22_code 157 = .ok (.istore 8, 2) := by decide +kernel
theorem dc_RM_costsBySorting_159 : decode prog_14_method_22_code 159 = .ok (.iload 8, 2) := by decide +kernel
theorem dc_RM_costsBySorting_161 : decode prog_14_method_22_code 161 = .ok (.iload 9, 2) := by decide +kernel
theorem dc_RM_costsBySorting_163 : decode prog_14_method_22_code 163 = .ok (.if_icmp .le 8, 3) := by decide +kernel
theorem dc_RM_costsBySorting_166 : decode prog_14_method_22_code 166 = .ok (.iload 8, 2) := by decide +kernel
theorem dc_RM_costsBySorting_168 : decode prog_14_method_22_code 168 = .ok (.goto 5, 3) := by decide +kernel
theorem dc_RM_costsBySorting_171 : decode prog_14_method_22_code 171 = .ok (.iload 9, 2) := by decide +kernel
theorem dc_RM_costsBySorting_173 : decode prog_14_method_22_code 173 = .ok (.istore 9, 2) := by decide +kernel
theorem dc_RM_costsBySorting_175 : decode prog_14_method_22_code 175 = .ok (.iinc 10 1, 3) := by decide +kernel
theorem dc_RM_costsBySorting_178 : decode prog_14_method_22_code 178 = .ok (.goto (-86), 3) := by decide +kernel
theorem dc_RM_costsBySorting_181 : decode prog_14_method_22_code 181 = .ok (.aload_n 0, 1) := by decide +kernel
theorem dc_RM_costsBySorting_182 : decode prog_14_method_22_code 182 = .ok (.bipush 40, 2) := by decide +kernel
theorem dc_RM_costsBySorting_184 : decode prog_14_method_22_code 184 = .ok (.iload_n 1, 1) := by decide +kernel
theorem dc_RM_costsBySorting_185 : decode prog_14_method_22_code 185 = .ok (.imul, 1) := by decide +kernel
theorem dc_RM_costsBySorting_186 : decode prog_14_method_22_code 186 = .ok (.iload 4, 2) := by decide +kernel
theorem dc_RM_costsBySorting_188 : decode prog_14_method_22_code 188 = .ok (.iadd, 1) := by decide +kernel
theorem dc_RM_costsBySorting_189 : decode prog_14_method_22_code 189 = .ok (.iload_n 2, 1) := by decide +kernel
theorem dc_RM_costsBySorting_190 : decode prog_14_method_22_code 190 = .ok (.ifCond .eq 8, 3) := by decide +kernel
theorem dc_RM_costsBySorting_193 : decode prog_14_method_22_code 193 = .ok (.lload 6, 2) := by decide +kernel
theorem dc_RM_costsBySorting_195 : decode prog_14_method_22_code 195 = .ok (.goto 8, 3) := by decide +kernel
theorem dc_RM_costsBySorting_198 : decode prog_14_method_22_code 198 = .ok (.iload_n 3, 1) := by decide +kernel
theorem dc_RM_costsBySorting_199 : decode prog_14_method_22_code 199 = .ok (.iload 9, 2) := by decide +kernel
theorem dc_RM_costsBySorting_201 : decode prog_14_method_22_code 201 = .ok (.isub, 1) := by decide +kernel
theorem dc_RM_costsBySorting_202 : decode prog_14_method_22_code 202 = .ok (.i2l, 1) := by decide +kernel
theorem dc_RM_costsBySorting_203 : decode prog_14_method_22_code 203 = .ok (.lconst 1, 1) := by decide +kernel
theorem dc_RM_costsBySorting_204 : decode prog_14_method_22_code 204 = .ok (.invokevirtual 171, 3) := by decide +kernel
theorem dc_RM_costsBySorting_207 : decode prog_14_method_22_code 207 = .ok (.iinc 4 1, 3) := by decide +kernel
theorem dc_RM_costsBySorting_210 : decode prog_14_method_22_code 210 = .ok (.goto (-205), 3) := by decide +kernel
theorem dc_RM_costsBySorting_213 : decode prog_14_method_22_code 213 = .ok (.return_, 1) := by decide +kernel
theorem w_RM_costsBySorting_0 {G : GC} {d : Nat} {P : PT} {I : MI} {J : MJ} {x1 : Int32} {x2 : Int32} (k1 : Go G (fr G m_RM_costsBySorting (d + 2) P) 5 [some (.ref 67), some (.int x1), some (.int x2), some (.int 0), some (.int x1), none, none, none, none, none, none] [] I J) : Go G (fr G m_RM_costsBySorting (d + 2) P) 0 [some (.ref 67), some (.int x1), some (.int x2), none, none, none, none, none, none, none, none] [] I J := by
  refine g_iconst (v := 0) dc_RM_costsBySorting_0 rfl (by decide) ?_
  refine g_istore_n (L' := [some (.ref 67), some (.int x1), some (.int x2), some (.int 0), none, none, none, none, none, none, none]) dc_RM_costsBySorting_1 rfl rfl (Nat.le_of_ble_eq_true rfl) rfl ?_
  refine g_iload_n dc_RM_costsBySorting_2 rfl rfl rfl ?_
  refine g_istore (L' := [some (.ref 67), some (.int x1), some (.int x2), some (.int 0), some (.int x1), none, none, none, none, none, none]) dc_RM_costsBySorting_3 rfl (Nat.le_of_ble_eq_true rfl) rfl ?_
  exact k1
theorem w_RM_costsBySorting_5 {G : GC} {d : Nat} {P : PT} {I : MI} {J : MJ} {x1 : Int32} {x2 : Int32} {x3 : Int32} {x4 : Int32} (q1 : ((I 67 7) ≤ x4) → P none I J) (k2 : (¬ ((I 67 7) ≤ x4)) → Go G (fr G m_RM_costsBySorting (d + 2) P) 17 [some (.ref 67), some (.int x1), some (.int x2), some (.int x3), some (.int x4), some (.int x3), none, none, none, none, none] [] I J) : Go G (fr G m_RM_costsBySorting (d + 2) P) 5 [some (.ref 67), some (.int x1), some (.int x2), some (.int x3), some (.int x4), none, none, none, none, none, none] [] I J := by
  refine g_iload dc_RM_costsBySorting_5 rfl rfl ?_
  refine g_aload_n dc_RM_costsBySorting_7 rfl rfl rfl ?_
  refine g_get (C := "LevelBreaksModel") (T := T_RM) (N := 45) (k := 7) (v := .int (I 67 7)) sh_67 (by decide) rfl rfl i_RM (by decide) fl_RM_145 (Or.inl rfl) rfl dc_RM_costsBySorting_8 rfl ?_
  refine g_ic_ge (tgt := 213) dc_RM_costsBySorting_11 rfl (by decide) (fun c1 => ?_) (fun c1 => ?_)
  · exact g_vret rfl dc_RM_costsBySorting_213 (q1 c1)
  · refine g_iload_n dc_RM_costsBySorting_14 rfl rfl rfl ?_
    refine g_istore (L' := [some (.ref 67), some (.int x1), some (.int x2), some (.int x3), some (.int x4), some (.int x3), none, none, none, none, none]) dc_RM_costsBySorting_15 rfl (Nat.le_of_ble_eq_true rfl) rfl ?_
    exact (k2 c1)
theorem w_RM_costsBySorting_17 {G : GC} {d : Nat} {P : PT} {I : MI} {J : MJ} {x1 : Int32} {x2 : Int32} {x3 : Int32} {x4 : Int32} {x5 : Int32} (k1 : (x5 ≤ 0) → Go G (fr G m_RM_costsBySorting (d + 2) P) 63 [some (.ref 67), some (.int x1), some (.int x2), some (.int x3), some (.int x4), some (.int x5), none, none, none, none, none] [] I J) (b2 : (¬ (x5 ≤ 0)) → vp_in (x5 - 1) 40) (b3 : (¬ (x5 ≤ 0)) → vp_in x4 40) (k4 : (¬ (x5 ≤ 0)) → ((I 79 (x5 - 1).toNatClampNeg) ≤ (I 73 x4.toNatClampNeg)) → Go G (fr G m_RM_costsBySorting (d + 2) P) 63 [some (.ref 67), some (.int x1), some (.int x2), some (.int x3), some (.int x4), some (.int x5), none, none, none, none, none] [] I J) (b5 : (¬ (x5 ≤ 0)) → (¬ ((I 79 (x5 - 1).toNatClampNeg) ≤ (I 73 x4.toNatClampNeg))) → vp_in x5 40) (k6 : (¬ (x5 ≤ 0)) → (¬ ((I 79 (x5 - 1).toNatClampNeg) ≤ (I 73 x4.toNatClampNeg))) → Go G (fr G m_RM_costsBySorting (d + 2) P) 17 [some (.ref 67), some (.int x1), some (.int x2), some (.int x3), some (.int x4), some (.int (x5 + (-1))), none, none, none, none, none] [] (u2 I 79 x5.toNatClampNeg (I 79 (x5 - 1).toNatClampNeg)) J) : Go G (fr G m_RM_costsBySorting (d + 2) P) 17 [some (.ref 67), some (.int x1), some (.int x2), some (.int x3), some (.int x4), some (.int x5), none, none, none, none, none] [] I J := by
  refine g_iload dc_RM_costsBySorting_17 rfl rfl ?_
  refine g_if_le (tgt := 63) dc_RM_costsBySorting_19 rfl (by decide) (fun c1 => ?_) (fun c1 => ?_)
  · exact (k1 c1)
  · refine g_aload_n dc_RM_costsBySorting_22 rfl rfl rfl ?_
    refine g_get (C := "LevelBreaksModel") (T := T_RM) (N := 45) (k := 14) (v := .ref 79) sh_67 (by decide) rfl rfl i_RM (by decide) fl_RM_48 (Or.inl rfl) rfl dc_RM_costsBySorting_23 rfl ?_
    refine g_iload dc_RM_costsBySorting_26 rfl rfl ?_
    refine g_iconst (v := 1) dc_RM_costsBySorting_28 rfl (by decide) ?_
    refine g_isub dc_RM_costsBySorting_29 rfl ?_
    refine g_ialdv (v := (I 79 (x5 - 1).toNatClampNeg)) sh_79 (b2 c1) rfl dc_RM_costsBySorting_30 rfl ?_
    refine g_aload_n dc_RM_costsBySorting_31 rfl rfl rfl ?_
    refine g_get (C := "LevelBreaksModel") (T := T_RM) (N := 45) (k := 8) (v := .ref 73) sh_67 (by decide) rfl rfl i_RM (by decide) fl_RM_29 (Or.inl rfl) rfl dc_RM_costsBySorting_32 rfl ?_
    refine g_iload dc_RM_costsBySorting_35 rfl rfl ?_
    refine g_ialdv (v := (I 73 x4.toNatClampNeg)) sh_73 (b3 c1) rfl dc_RM_costsBySorting_37 rfl ?_
    refine g_ic_le (tgt := 63) dc_RM_costsBySorting_38 rfl (by decide) (fun c2 => ?_) (fun c2 => ?_)
    · exact (k4 c1 c2)
    · refine g_aload_n dc_RM_costsBySorting_41 rfl rfl rfl ?_
      refine g_get (C := "LevelBreaksModel") (T := T_RM) (N := 45) (k := 14) (v := .ref 79) sh_67 (by decide) rfl rfl i_RM (by decide) fl_RM_48 (Or.inl rfl) rfl dc_RM_costsBySorting_42 rfl ?_
      refine g_iload dc_RM_costsBySorting_45 rfl rfl ?_
      refine g_aload_n dc_RM_costsBySorting_47 rfl rfl rfl ?_
      refine g_get (C := "LevelBreaksModel") (T := T_RM) (N := 45) (k := 14) (v := .ref 79) sh_67 (by decide) rfl rfl i_RM (by decide) fl_RM_48 (Or.inl rfl) rfl dc_RM_costsBySorting_48 rfl ?_
      refine g_iload dc_RM_costsBySorting_51 rfl rfl ?_
      refine g_iconst (v := 1) dc_RM_costsBySorting_53 rfl (by decide) ?_
      refine g_isub dc_RM_costsBySorting_54 rfl ?_
      refine g_ialdv (v := (I 79 (x5 - 1).toNatClampNeg)) sh_79 (b2 c1) rfl dc_RM_costsBySorting_55 rfl ?_
      refine g_iast sh_79 (b5 c1 c2) dc_RM_costsBySorting_56 rfl ?_
      refine g_iinc (v := (x5 + (-1))) (L' := [some (.ref 67), some (.int x1), some (.int x2), some (.int x3), some (.int x4), some (.int (x5 + (-1))), none, none, none, none, none]) dc_RM_costsBySorting_57 rfl rfl (by rw [show Int32.ofInt (-1) = (-1) from by decide]) (Nat.le_of_ble_eq_true rfl) rfl ?_
      refine g_goto (tgt := 17) dc_RM_costsBySorting_60 (by decide) ?_
      exact (k6 c1 c2)
theorem w_RM_costsBySorting_63 {G : GC} {d : Nat} {P : PT} {I : MI} {J : MJ} {x1 : Int32} {x2 : Int32} {x3 : Int32} {x4 : Int32} {x5 : Int32} (b1 : vp_in x4 40) (b2 : vp_in x5 40) (k3 : Go G (fr G m_RM_costsBySorting (d + 2) P) 92 [some (.ref 67), some (.int x1), some (.int x2), some (.int (x3 + 1)), some (.int x4), none, some (.long 0), none, some (.int 0), some (.int 0), some (.int 0)] [] (u2 I 79 x5.toNatClampNeg (I 73 x4.toNatClampNeg)) J) : Go G (fr G m_RM_costsBySorting (d + 2) P) 63 [some (.ref 67), some (.int x1), some (.int x2), some (.int x3), some (.int x4), some (.int x5), none, none, none, none, none] [] I J := by
  refine g_aload_n dc_RM_costsBySorting_63 rfl rfl rfl ?_
  refine g_get (C := "LevelBreaksModel") (T := T_RM) (N := 45) (k := 14) (v := .ref 79) sh_67 (by decide) rfl rfl i_RM (by decide) fl_RM_48 (Or.inl rfl) rfl dc_RM_costsBySorting_64 rfl ?_
  refine g_iload dc_RM_costsBySorting_67 rfl rfl ?_
  refine g_aload_n dc_RM_costsBySorting_69 rfl rfl rfl ?_
  refine g_get (C := "LevelBreaksModel") (T := T_RM) (N := 45) (k := 8) (v := .ref 73) sh_67 (by decide) rfl rfl i_RM (by decide) fl_RM_29 (Or.inl rfl) rfl dc_RM_costsBySorting_70 rfl ?_
  refine g_iload dc_RM_costsBySorting_73 rfl rfl ?_
  refine g_ialdv (v := (I 73 x4.toNatClampNeg)) sh_73 b1 rfl dc_RM_costsBySorting_75 rfl ?_
  refine g_iast sh_79 b2 dc_RM_costsBySorting_76 rfl ?_
  refine g_iinc (v := (x3 + 1)) (L' := [some (.ref 67), some (.int x1), some (.int x2), some (.int (x3 + 1)), some (.int x4), some (.int x5), none, none, none, none, none]) dc_RM_costsBySorting_77 rfl rfl (by rw [show Int32.ofInt 1 = 1 from by decide]) (Nat.le_of_ble_eq_true rfl) rfl ?_
  refine g_lconst (v := 0) dc_RM_costsBySorting_80 rfl (by decide) ?_
  refine g_lstore (L' := [some (.ref 67), some (.int x1), some (.int x2), some (.int (x3 + 1)), some (.int x4), some (.int x5), some (.long 0), none, none, none, none]) dc_RM_costsBySorting_81 rfl (Nat.le_of_ble_eq_true rfl) rfl ?_
  refine g_iconst (v := 0) dc_RM_costsBySorting_83 rfl (by decide) ?_
  refine g_istore (L' := [some (.ref 67), some (.int x1), some (.int x2), some (.int (x3 + 1)), some (.int x4), some (.int x5), some (.long 0), none, some (.int 0), none, none]) dc_RM_costsBySorting_84 rfl (Nat.le_of_ble_eq_true rfl) rfl ?_
  refine g_iconst (v := 0) dc_RM_costsBySorting_86 rfl (by decide) ?_
  refine g_istore (L' := [some (.ref 67), some (.int x1), some (.int x2), some (.int (x3 + 1)), some (.int x4), some (.int x5), some (.long 0), none, some (.int 0), some (.int 0), none]) dc_RM_costsBySorting_87 rfl (Nat.le_of_ble_eq_true rfl) rfl ?_
  refine g_iconst (v := 0) dc_RM_costsBySorting_89 rfl (by decide) ?_
  refine g_istore (L' := [some (.ref 67), some (.int x1), some (.int x2), some (.int (x3 + 1)), some (.int x4), some (.int x5), some (.long 0), none, some (.int 0), some (.int 0), some (.int 0)]) dc_RM_costsBySorting_90 rfl (Nat.le_of_ble_eq_true rfl) rfl ?_
  refine g_weak [some (.ref 67), some (.int x1), some (.int x2), some (.int (x3 + 1)), some (.int x4), none, some (.long 0), none, some (.int 0), some (.int 0), some (.int 0)] ⟨rfl, ⟨rfl, ⟨rfl, ⟨rfl, ⟨rfl, ⟨rfl, ⟨rfl, ⟨rfl, ⟨rfl, trivial⟩⟩⟩⟩⟩⟩⟩⟩⟩ ?_
  exact k3
theorem w_RM_costsBySorting_92 {G : GC} {d : Nat} {P : PT} {I : MI} {J : MJ} {x1 : Int32} {x2 : Int32} {x3 : Int32} {x4 : Int32} {l6 : Int64} {x8 : Int32} {x9 : Int32} {x10 : Int32} (k1 : (x3 ≤ x10) → (x2 = 0) → Go G (fr G m_RM_costsBySorting (d + 2) P) 203 [some (.ref 67), some (.int x1), some (.int x2), some (.int x3), some (.int x4), none, none, none, none, none, none] [.long (Int32.toInt64 (x3 - x9)), .int ((40 * x1) + x4), .ref 67] I J) (k2 : (x3 ≤ x10) → (¬ (x2 = 0)) → Go G (fr G m_RM_costsBySorting (d + 2) P) 203 [some (.ref 67), some (.int x1), some (.int x2), some (.int x3), some (.int x4), none, none, none, none, none, none] [.long l6, .int ((40 * x1) + x4), .ref 67] I J) (b3 : (¬ (x3 ≤ x10)) → vp_in x10 40) (b4 : (¬ (x3 ≤ x10)) → vp_in ((x3 - 1) / 2) 40) (k5 : (¬ (x3 ≤ x10)) → (x10 ≤ 0) → Go G (fr G m_RM_costsBySorting (d + 2) P) 156 [some (.ref 67), some (.int x1), some (.int x2), some (.int x3), some (.int x4), none, some (.long (l6 + (f_RM_amount (Int32.toInt64 ((I 79 x10.toNatClampNeg) - (I 79 ((x3 - 1) / 2).toNatClampNeg)))))), none, none, some (.int x9), some (.int x10)] [] I J) (b6 : (¬ (x3 ≤ x10)) → (¬ (x10 ≤ 0)) → vp_in (x10 - 1) 40) (k7 : (¬ (x3 ≤ x10)) → (¬ (x10 ≤ 0)) → (¬ (I 79 x10.toNatClampNeg) = (I 79 (x10 - 1).toNatClampNeg)) → Go G (fr G m_RM_costsBySorting (d + 2) P) 156 [some (.ref 67), some (.int x1), some (.int x2), some (.int x3), some (.int x4), none, some (.long (l6 + (f_RM_amount (Int32.toInt64 ((I 79 x10.toNatClampNeg) - (I 79 ((x3 - 1) / 2).toNatClampNeg)))))), none, none, some (.int x9), some (.int x10)] [] I J) (k8 : (¬ (x3 ≤ x10)) → (¬ (x10 ≤ 0)) → ((I 79 x10.toNatClampNeg) = (I 79 (x10 - 1).toNatClampNeg)) → Go G (fr G m_RM_costsBySorting (d + 2) P) 157 [some (.ref 67), some (.int x1), some (.int x2), some (.int x3), some (.int x4), none, some (.long (l6 + (f_RM_amount (Int32.toInt64 ((I 79 x10.toNatClampNeg) - (I 79 ((x3 - 1) / 2).toNatClampNeg)))))), none, none, some (.int x9), some (.int x10)] [.int (x8 + 1)] I J) : Go G (fr G m_RM_costsBySorting (d + 2) P) 92 [some (.ref 67), some (.int x1), some (.int x2), some (.int x3), some (.int x4), none, some (.long l6), none, some (.int x8), some (.int x9), some (.int x10)] [] I J := by
  refine g_iload dc_RM_costsBySorting_92 rfl rfl ?_
  refine g_iload_n dc_RM_costsBySorting_94 rfl rfl rfl ?_
  refine g_ic_ge (tgt := 181) dc_RM_costsBySorting_95 rfl (by decide) (fun c1 => ?_) (fun c1 => ?_)
  · refine g_aload_n dc_RM_costsBySorting_181 rfl rfl rfl ?_
    refine g_bipush (v := 40) dc_RM_costsBySorting_182 rfl (by decide) ?_
    refine g_iload_n dc_RM_costsBySorting_184 rfl rfl rfl ?_
    refine g_imul dc_RM_costsBySorting_185 rfl ?_
    refine g_iload dc_RM_costsBySorting_186 rfl rfl ?_
    refine g_iadd dc_RM_costsBySorting_188 rfl ?_
    refine g_iload_n dc_RM_costsBySorting_189 rfl rfl rfl ?_
    refine g_if_eq (tgt := 198) dc_RM_costsBySorting_190 rfl (by decide) (fun c2 => ?_) (fun c2 => ?_)
    · refine g_iload_n dc_RM_costsBySorting_198 rfl rfl rfl ?_
      refine g_iload dc_RM_costsBySorting_199 rfl rfl ?_
      refine g_isub dc_RM_costsBySorting_201 rfl ?_
      refine g_i2l dc_RM_costsBySorting_202 rfl ?_
      refine g_weak [some (.ref 67), some (.int x1), some (.int x2), some (.int x3), some (.int x4), none, none, none, none, none, none] ⟨rfl, ⟨rfl, ⟨rfl, ⟨rfl, ⟨rfl, trivial⟩⟩⟩⟩⟩ ?_
      exact (k1 c1 c2)
    · refine g_lload dc_RM_costsBySorting_193 rfl rfl ?_
      refine g_goto (tgt := 203) dc_RM_costsBySorting_195 (by decide) ?_
      refine g_weak [some (.ref 67), some (.int x1), some (.int x2), some (.int x3), some (.int x4), none, none, none, none, none, none] ⟨rfl, ⟨rfl, ⟨rfl, ⟨rfl, ⟨rfl, trivial⟩⟩⟩⟩⟩ ?_
      exact (k2 c1 c2)
  · refine g_lload dc_RM_costsBySorting_98 rfl rfl ?_
    refine g_aload_n dc_RM_costsBySorting_100 rfl rfl rfl ?_
    refine g_get (C := "LevelBreaksModel") (T := T_RM) (N := 45) (k := 14) (v := .ref 79) sh_67 (by decide) rfl rfl i_RM (by decide) fl_RM_48 (Or.inl rfl) rfl dc_RM_costsBySorting_101 rfl ?_
    refine g_iload dc_RM_costsBySorting_104 rfl rfl ?_
    refine g_ialdv (v := (I 79 x10.toNatClampNeg)) sh_79 (b3 c1) rfl dc_RM_costsBySorting_106 rfl ?_
    refine g_aload_n dc_RM_costsBySorting_107 rfl rfl rfl ?_
    refine g_get (C := "LevelBreaksModel") (T := T_RM) (N := 45) (k := 14) (v := .ref 79) sh_67 (by decide) rfl rfl i_RM (by decide) fl_RM_48 (Or.inl rfl) rfl dc_RM_costsBySorting_108 rfl ?_
    refine g_iload_n dc_RM_costsBySorting_111 rfl rfl rfl ?_
    refine g_iconst (v := 1) dc_RM_costsBySorting_112 rfl (by decide) ?_
    refine g_isub dc_RM_costsBySorting_113 rfl ?_
    refine g_iconst (v := 2) dc_RM_costsBySorting_114 rfl (by decide) ?_
    refine g_idiv dc_RM_costsBySorting_115 rfl (by decide) ?_
    refine g_ialdv (v := (I 79 ((x3 - 1) / 2).toNatClampNeg)) sh_79 (b4 c1) rfl dc_RM_costsBySorting_116 rfl ?_
    refine g_isub dc_RM_costsBySorting_117 rfl ?_
    refine g_i2l dc_RM_costsBySorting_118 rfl ?_
    refine g_callS (M := m_RM_amount) (As := [.long (Int32.toInt64 ((I 79 x10.toNatClampNeg) - (I 79 ((x3 - 1) / 2).toNatClampNeg)))]) (rest := [.long l6]) ok_RM_amount st_RM_amount ml_RM_175 rfl rfl (Nat.le_of_ble_eq_true rfl) dc_RM_costsBySorting_119 rfl rOk_fr (c_RM_amount ?_)
    show Go G (fr G m_RM_costsBySorting (d + 2) P) 122 [some (.ref 67), some (.int x1), some (.int x2), some (.int x3), some (.int x4), none, some (.long l6), none, some (.int x8), some (.int x9), some (.int x10)] [.long (f_RM_amount (Int32.toInt64 ((I 79 x10.toNatClampNeg) - (I 79 ((x3 - 1) / 2).toNatClampNeg)))), .long l6] I J
    refine g_ladd dc_RM_costsBySorting_122 rfl ?_
    refine g_lstore (L' := [some (.ref 67), some (.int x1), some (.int x2), some (.int x3), some (.int x4), none, some (.long (l6 + (f_RM_amount (Int32.toInt64 ((I 79 x10.toNatClampNeg) - (I 79 ((x3 - 1) / 2).toNatClampNeg)))))), none, some (.int x8), some (.int x9), some (.int x10)]) dc_RM_costsBySorting_123 rfl (Nat.le_of_ble_eq_true rfl) rfl ?_
    refine g_iload dc_RM_costsBySorting_125 rfl rfl ?_
    refine g_if_le (tgt := 156) dc_RM_costsBySorting_127 rfl (by decide) (fun c3 => ?_) (fun c3 => ?_)
    · refine g_weak [some (.ref 67), some (.int x1), some (.int x2), some (.int x3), some (.int x4), none, some (.long (l6 + (f_RM_amount (Int32.toInt64 ((I 79 x10.toNatClampNeg) - (I 79 ((x3 - 1) / 2).toNatClampNeg)))))), none, none, some (.int x9), some (.int x10)] ⟨rfl, ⟨rfl, ⟨rfl, ⟨rfl, ⟨rfl, ⟨rfl, ⟨rfl, ⟨rfl, trivial⟩⟩⟩⟩⟩⟩⟩⟩ ?_
      exact (k5 c1 c3)
    · refine g_aload_n dc_RM_costsBySorting_130 rfl rfl rfl ?_
      refine g_get (C := "LevelBreaksModel") (T := T_RM) (N := 45) (k := 14) (v := .ref 79) sh_67 (by decide) rfl rfl i_RM (by decide) fl_RM_48 (Or.inl rfl) rfl dc_RM_costsBySorting_131 rfl ?_
      refine g_iload dc_RM_costsBySorting_134 rfl rfl ?_
      refine g_ialdv (v := (I 79 x10.toNatClampNeg)) sh_79 (b3 c1) rfl dc_RM_costsBySorting_136 rfl ?_
      refine g_aload_n dc_RM_costsBySorting_137 rfl rfl rfl ?_
      refine g_get (C := "LevelBreaksModel") (T := T_RM) (N := 45) (k := 14) (v := .ref 79) sh_67 (by decide) rfl rfl i_RM (by decide) fl_RM_48 (Or.inl rfl) rfl dc_RM_costsBySorting_138 rfl ?_
      refine g_iload dc_RM_costsBySorting_141 rfl rfl ?_
      refine g_iconst (v := 1) dc_RM_costsBySorting_143 rfl (by decide) ?_
      refine g_isub dc_RM_costsBySorting_144 rfl ?_
      refine g_ialdv (v := (I 79 (x10 - 1).toNatClampNeg)) sh_79 (b6 c1 c3) rfl dc_RM_costsBySorting_145 rfl ?_
      refine g_ic_ne (tgt := 156) dc_RM_costsBySorting_146 rfl (by decide) (fun c4 => ?_) (fun c4 => ?_)
      · refine g_weak [some (.ref 67), some (.int x1), some (.int x2), some (.int x3), some (.int x4), none, some (.long (l6 + (f_RM_amount (Int32.toInt64 ((I 79 x10.toNatClampNeg) - (I 79 ((x3 - 1) / 2).toNatClampNeg)))))), none, none, some (.int x9), some (.int x10)] ⟨rfl, ⟨rfl, ⟨rfl, ⟨rfl, ⟨rfl, ⟨rfl, ⟨rfl, ⟨rfl, trivial⟩⟩⟩⟩⟩⟩⟩⟩ ?_
        exact (k7 c1 c3 c4)
      · refine g_iload dc_RM_costsBySorting_149 rfl rfl ?_
        refine g_iconst (v := 1) dc_RM_costsBySorting_151 rfl (by decide) ?_
        refine g_iadd dc_RM_costsBySorting_152 rfl ?_
        refine g_goto (tgt := 157) dc_RM_costsBySorting_153 (by decide) ?_
        refine g_weak [some (.ref 67), some (.int x1), some (.int x2), some (.int x3), some (.int x4), none, some (.long (l6 + (f_RM_amount (Int32.toInt64 ((I 79 x10.toNatClampNeg) - (I 79 ((x3 - 1) / 2).toNatClampNeg)))))), none, none, some (.int x9), some (.int x10)] ⟨rfl, ⟨rfl, ⟨rfl, ⟨rfl, ⟨rfl, ⟨rfl, ⟨rfl, ⟨rfl, trivial⟩⟩⟩⟩⟩⟩⟩⟩ ?_
        exact (k8 c1 c3 c4)
theorem w_RM_costsBySorting_156 {G : GC} {d : Nat} {P : PT} {I : MI} {J : MJ} {x1 : Int32} {x2 : Int32} {x3 : Int32} {x4 : Int32} {l6 : Int64} {x9 : Int32} {x10 : Int32} (k1 : Go G (fr G m_RM_costsBySorting (d + 2) P) 157 [some (.ref 67), some (.int x1), some (.int x2), some (.int x3), some (.int x4), none, some (.long l6), none, none, some (.int x9), some (.int x10)] [.int 1] I J) : Go G (fr G m_RM_costsBySorting (d + 2) P) 156 [some (.ref 67), some (.int x1), some (.int x2), some (.int x3), some (.int x4), none, some (.long l6), none, none, some (.int x9), some (.int x10)] [] I J := by
  refine g_iconst (v := 1) dc_RM_costsBySorting_156 rfl (by decide) ?_
  exact k1
theorem w_RM_costsBySorting_157 {G : GC} {d : Nat} {P : PT} {I : MI} {J : MJ} {x1 : Int32} {x2 : Int32} {x3 : Int32} {x4 : Int32} {l6 : Int64} {x9 : Int32} {x10 : Int32} {y0 : Int32} (k1 : (y0 ≤ x9) → Go G (fr G m_RM_costsBySorting (d + 2) P) 173 [some (.ref 67), some (.int x1), some (.int x2), some (.int x3), some (.int x4), none, some (.long l6), none, some (.int y0), none, some (.int x10)] [.int x9] I J) (k2 : (¬ (y0 ≤ x9)) → Go G (fr G m_RM_costsBySorting (d + 2) P) 173 [some (.ref 67), some (.int x1), some (.int x2), some (.int x3), some (.int x4), none, some (.long l6), none, some (.int y0), none, some (.int x10)] [.int y0] I J) : Go G (fr G m_RM_costsBySorting (d + 2) P) 157 [some (.ref 67), some (.int x1), some (.int x2), some (.int x3), some (.int x4), none, some (.long l6), none, none, some (.int x9), some (.int x10)] [.int y0] I J := by
  refine g_istore (L' := [some (.ref 67), some (.int x1), some (.int x2), some (.int x3), some (.int x4), none, some (.long l6), none, some (.int y0), some (.int x9), some (.int x10)]) dc_RM_costsBySorting_157 rfl (Nat.le_of_ble_eq_true rfl) rfl ?_
  refine g_iload dc_RM_costsBySorting_159 rfl rfl ?_
  refine g_iload dc_RM_costsBySorting_161 rfl rfl ?_
  refine g_ic_le (tgt := 171) dc_RM_costsBySorting_163 rfl (by decide) (fun c1 => ?_) (fun c1 => ?_)
  · refine g_iload dc_RM_costsBySorting_171 rfl rfl ?_
    refine g_weak [some (.ref 67), some (.int x1), some (.int x2), some (.int x3), some (.int x4), none, some (.long l6), none, some (.int y0), none, some (.int x10)] ⟨rfl, ⟨rfl, ⟨rfl, ⟨rfl, ⟨rfl, ⟨rfl, ⟨rfl, ⟨rfl, trivial⟩⟩⟩⟩⟩⟩⟩⟩ ?_
    exact (k1 c1)
  · refine g_iload dc_RM_costsBySorting_166 rfl rfl ?_
    refine g_goto (tgt := 173) dc_RM_costsBySorting_168 (by decide) ?_
    refine g_weak [some (.ref 67), some (.int x1), some (.int x2), some (.int x3), some (.int x4), none, some (.long l6), none, some (.int y0), none, some (.int x10)] ⟨rfl, ⟨rfl, ⟨rfl, ⟨rfl, ⟨rfl, ⟨rfl, ⟨rfl, ⟨rfl, trivial⟩⟩⟩⟩⟩⟩⟩⟩ ?_
    exact (k2 c1)
theorem w_RM_costsBySorting_173 {G : GC} {d : Nat} {P : PT} {I : MI} {J : MJ} {x1 : Int32} {x2 : Int32} {x3 : Int32} {x4 : Int32} {l6 : Int64} {x8 : Int32} {x10 : Int32} {y0 : Int32} (k1 : Go G (fr G m_RM_costsBySorting (d + 2) P) 92 [some (.ref 67), some (.int x1), some (.int x2), some (.int x3), some (.int x4), none, some (.long l6), none, some (.int x8), some (.int y0), some (.int (x10 + 1))] [] I J) : Go G (fr G m_RM_costsBySorting (d + 2) P) 173 [some (.ref 67), some (.int x1), some (.int x2), some (.int x3), some (.int x4), none, some (.long l6), none, some (.int x8), none, some (.int x10)] [.int y0] I J := by
  refine g_istore (L' := [some (.ref 67), some (.int x1), some (.int x2), some (.int x3), some (.int x4), none, some (.long l6), none, some (.int x8), some (.int y0), some (.int x10)]) dc_RM_costsBySorting_173 rfl (Nat.le_of_ble_eq_true rfl) rfl ?_
  refine g_iinc (v := (x10 + 1)) (L' := [some (.ref 67), some (.int x1), some (.int x2), some (.int x3), some (.int x4), none, some (.long l6), none, some (.int x8), some (.int y0), some (.int (x10 + 1))]) dc_RM_costsBySorting_175 rfl rfl (by rw [show Int32.ofInt 1 = 1 from by decide]) (Nat.le_of_ble_eq_true rfl) rfl ?_
  refine g_goto (tgt := 92) dc_RM_costsBySorting_178 (by decide) ?_
  exact k1
theorem w_RM_costsBySorting_203 {G : GC} {d : Nat} {P : PT} {I : MI} {J : MJ} {x1 : Int32} {x2 : Int32} {x3 : Int32} {x4 : Int32} {y1 : Int32} {s2 : Int64} (k1 : Ct G (d + 1) m_RM_keeps [.ref 67, .int y1, .long s2, .long 1] (fun r I' J' => Go G (fr G m_RM_costsBySorting (d + 2) P) 207 [some (.ref 67), some (.int x1), some (.int x2), some (.int x3), some (.int x4), none, none, none, none, none, none] (r.toList ++ []) I' J') I J) : Go G (fr G m_RM_costsBySorting (d + 2) P) 203 [some (.ref 67), some (.int x1), some (.int x2), some (.int x3), some (.int x4), none, none, none, none, none, none] [.long s2, .int y1, .ref 67] I J := by
  refine g_lconst (v := 1) dc_RM_costsBySorting_203 rfl (by decide) ?_
  exact g_callV (T := T_RM) (N := 45) (As := [.int y1, .long s2, .long 1]) (rest := []) ok_RM_keeps in_RM_keeps se_RM_keeps ml_RM_171 sh_67 (by decide) rfl rfl rfl (Nat.le_of_ble_eq_true rfl) dc_RM_costsBySorting_204 rfl rOk_fr k1
theorem w_RM_costsBySorting_207 {G : GC} {d : Nat} {P : PT} {I : MI} {J : MJ} {x1 : Int32} {x2 : Int32} {x3 : Int32} {x4 : Int32} (k1 : Go G (fr G m_RM_costsBySorting (d + 2) P) 5 [some (.ref 67), some (.int x1), some (.int x2), some (.int x3), some (.int (x4 + 1)), none, none, none, none, none, none] [] I J) : Go G (fr G m_RM_costsBySorting (d + 2) P) 207 [some (.ref 67), some (.int x1), some (.int x2), some (.int x3), some (.int x4), none, none, none, none, none, none] [] I J := by
  refine g_iinc (v := (x4 + 1)) (L' := [some (.ref 67), some (.int x1), some (.int x2), some (.int x3), some (.int (x4 + 1)), none, none, none, none, none, none]) dc_RM_costsBySorting_207 rfl rfl (by rw [show Int32.ofInt 1 = 1 from by decide]) (Nat.le_of_ble_eq_true rfl) rfl ?_
  refine g_goto (tgt := 5) dc_RM_costsBySorting_210 (by decide) ?_
  exact k1
theorem dc_RM_costsBySums_0 : decode prog_14_method_21_code 0 = .ok (.lconst 0, 1) := by decide +kernel
theorem dc_RM_costsBySums_1 : decode prog_14_method_21_code 1 = .ok (.lstore_n 3, 1) := by decide +kernel
theorem dc_RM_costsBySums_2 : decode prog_14_method_21_code 2 = .ok (.lconst 0, 1) := by decide +kernel
theorem dc_RM_costsBySums_3 : decode prog_14_method_21_code 3 = .ok (.lstore 5, 2) := by decide +kernel
theorem dc_RM_costsBySums_5 : decode prog_14_method_21_code 5 = .ok (.lconst 0, 1) := by decide +kernel
theorem dc_RM_costsBySums_6 : decode prog_14_method_21_code 6 = .ok (.lstore 7, 2) := by decide +kernel
theorem dc_RM_costsBySums_8 : decode prog_14_method_21_code 8 = .ok (.lconst 0, 1) := by decide +kernel
theorem dc_RM_costsBySums_9 : decode prog_14_method_21_code 9 = .ok (.lstore 9, 2) := by decide +kernel
theorem dc_RM_costsBySums_11 : decode prog_14_method_21_code 11 = .ok (.lconst 0, 1) := by decide +kernel
theorem dc_RM_costsBySums_12 : decode prog_14_method_21_code 12 = .ok (.lstore 11, 2) := by decide +kernel
theorem dc_RM_costsBySums_14 : decode prog_14_method_21_code 14 = .ok (.lconst 0, 1) := by decide +kernel
theorem dc_RM_costsBySums_15 : decode prog_14_method_21_code 15 = .ok (.lstore 13, 2) := by decide +kernel
theorem dc_RM_costsBySums_17 : decode prog_14_method_21_code 17 = .ok (.iload_n 1, 1) := by decide +kernel
theorem dc_RM_costsBySums_18 : decode prog_14_method_21_code 18 = .ok (.istore 15, 2) := by decide +kernel
theorem dc_RM_costsBySums_20 : decode prog_14_method_21_code 20 = .ok (.iload 15, 2) := by decide +kernel
theorem dc_RM_costsBySums_22 : decode prog_14_method_21_code 22 = .ok (.aload_n 0, 1) := by decide +kernel
theorem dc_RM_costsBySums_23 : decode prog_14_method_21_code 23 = .ok (.getfield 145, 3) := by decide +kernel
theorem dc_RM_costsBySums_26 : decode prog_14_method_21_code 26 = .ok (.if_icmp .ge 180, 3) := by decide +kernel
theorem dc_RM_costsBySums_29 : decode prog_14_method_21_code 29 = .ok (.aload_n 0, 1) := by decide +kernel
theorem dc_RM_costsBySums_30 : decode prog_14_method_21_code 30 = .ok (.getfield 29, 3) := by decide +kernel
theorem dc_RM_costsBySums_33 : decode prog_14_method_21_code 33 = .ok (.iload 15, 2) := by decide +kernel
theorem dc_RM_costsBySums_35 : decode prog_14_method_21_code 35 = .ok (.iaload, 1) := by decide +kernel
theorem dc_RM_costsBySums_36 : decode prog_14_method_21_code 36 = .ok (.i2l, 1) := by decide +kernel
theorem dc_RM_costsBySums_37 : decode prog_14_method_21_code 37 = .ok (.lstore 16, 2) := by decide +kernel
theorem dc_RM_costsBySums_39 : decode prog_14_method_21_code 39 = .ok (.aload_n 0, 1) := by decide +kernel
theorem dc_RM_costsBySums_40 : decode prog_14_method_21_code 40 = .ok (.getfield 32, 3) := by decide +kernel
theorem dc_RM_costsBySums_43 : decode prog_14_method_21_code 43 = .ok (.iload 15, 2) := by decide +kernel
theorem dc_RM_costsBySums_45 : decode prog_14_method_21_code 45 = .ok (.iaload, 1) := by decide +kernel
theorem dc_RM_costsBySums_46 : decode prog_14_method_21_code 46 = .ok (.i2l, 1) := by decide +kernel
theorem dc_RM_costsBySums_47 : decode prog_14_method_21_code 47 = .ok (.lstore 18, 2) := by decide +kernel
theorem dc_RM_costsBySums_49 : decode prog_14_method_21_code 49 = .ok (.lload_n 3, 1) := by decide +kernel
theorem dc_RM_costsBySums_50 : decode prog_14_method_21_code 50 = .ok (.lconst 1, 1) := by decide +kernel
theorem dc_RM_costsBySums_51 : decode prog_14_method_21_code 51 = .ok (.ladd, 1) := by decide +kernel
theorem dc_RM_costsBySums_52 : decode prog_14_method_21_code 52 = .ok (.lstore_n 3, 1) := by decide +kernel
theorem dc_RM_costsBySums_53 : decode prog_14_method_21_code 53 = .ok (.lload 5, 2) := by decide +kernel
theorem dc_RM_costsBySums_55 : decode prog_14_method_21_code 55 = .ok (.lload 16, 2) := by decide +kernel
theorem dc_RM_costsBySums_57 : decode prog_14_method_21_code 57 = .ok (.ladd, 1) := by decide +kernel
theorem dc_RM_costsBySums_58 : decode prog_14_method_21_code 58 = .ok (.lstore 5, 2) := by decide +kernel
theorem dc_RM_costsBySums_60 : decode prog_14_method_21_code 60 = .ok (.lload 7, 2) := by decide +kernel
theorem dc_RM_costsBySums_62 : decode prog_14_method_21_code 62 = .ok (.lload 16, 2) := by decide +kernel
theorem dc_RM_costsBySums_64 : decode prog_14_method_21_code 64 = .ok (.lload 16, 2) := by decide +kernel
theorem dc_RM_costsBySums_66 : decode prog_14_method_21_code 66 = .ok (.lmul, 1) := by decide +kernel
theorem dc_RM_costsBySums_67 : decode prog_14_method_21_code 67 = .ok (.ladd, 1) := by decide +kernel
theorem dc_RM_costsBySums_68 : decode prog_14_method_21_code 68 = .ok (.lstore 7, 2) := by decide +kernel
theorem dc_RM_costsBySums_70 : decode prog_14_method_21_code 70 = .ok (.lload 9, 2) := by decide +kernel
theorem dc_RM_costsBySums_72 : decode prog_14_method_21_code 72 = .ok (.lload 18, 2) := by decide +kernel
theorem dc_RM_costsBySums_74 : decode prog_14_method_21_code 74 = .ok (.ladd, 1) := by decide +kernel
theorem dc_RM_costsBySums_75 : decode prog_14_method_21_code 75 = .ok (.lstore 9, 2) := by decide +kernel
theorem dc_RM_costsBySums_77 : decode prog_14_method_21_code 77 = .ok (.lload 11, 2) := by decide +kernel
theorem dc_RM_costsBySums_79 : decode prog_14_method_21_code 79 = .ok (.lload 18, 2) := by decide +kernel
theorem dc_RM_costsBySums_81 : decode prog_14_method_21_code 81 = .ok (.lload 18, 2) := by decide +kernel
theorem dc_RM_costsBySums_83 : decode prog_14_method_21_code 83 = .ok (.lmul, 1) := by decide +kernel
theorem dc_RM_costsBySums_84 : decode prog_14_method_21_code 84 = .ok (.ladd, 1) := by decide +kernel
theorem dc_RM_costsBySums_85 : decode prog_14_method_21_code 85 = .ok (.lstore 11, 2) := by decide +kernel
theorem dc_RM_costsBySums_87 : decode prog_14_method_21_code 87 = .ok (.lload 13, 2) := by decide +kernel
theorem dc_RM_costsBySums_89 : decode prog_14_method_21_code 89 = .ok (.lload 16, 2) := by decide +kernel
theorem dc_RM_costsBySums_91 : decode prog_14_method_21_code 91 = .ok (.lload 18, 2) := by decide +kernel
theorem dc_RM_costsBySums_93 : decode prog_14_method_21_code 93 = .ok (.lmul, 1) := by decide +kernel
theorem dc_RM_costsBySums_94 : decode prog_14_method_21_code 94 = .ok (.ladd, 1) := by decide +kernel
theorem dc_RM_costsBySums_95 : decode prog_14_method_21_code 95 = .ok (.lstore 13, 2) := by decide +kernel
theorem dc_RM_costsBySums_97 : decode prog_14_method_21_code 97 = .ok (.lload_n 3, 1) := by decide +kernel
theorem dc_RM_costsBySums_98 : decode prog_14_method_21_code 98 = .ok (.lload 5, 2) := by decide +kernel
theorem dc_RM_costsBySums_100 : decode prog_14_method_21_code 100 = .ok (.lload 7, 2) := by decide +kernel
theorem dc_RM_costsBySums_102 : decode prog_14_method_21_code 102 = .ok (.lload 9, 2) := by decide +kernel
theorem dc_RM_costsBySums_104 : decode prog_14_method_21_code 104 = .ok (.lload 11, 2) := by decide +kernel
theorem dc_RM_costsBySums_106 : decode prog_14_method_21_code 106 = .ok (.lload 13, 2) := by decide +kernel
theorem dc_RM_costsBySums_108 : decode prog_14_method_21_code 108 = .ok (.iload_n 2, 1) := by decide +kernel
theorem dc_RM_costsBySums_109 : decode prog_14_method_21_code 109 = .ok (.ifCond .eq 9, 3) := by decide +kernel
theorem dc_RM_costsBySums_112 : decode prog_14_method_21_code 112 = .ok (.ldc2_w 161, 3) := by decide +kernel
theorem dc_RM_costsBySums_115 : decode prog_14_method_21_code 115 = .ok (.goto 4, 3) := by decide +kernel
theorem dc_RM_costsBySums_118 : decode prog_14_method_21_code 118 = .ok (.lconst 0, 1) := by decide +kernel
theorem dc_RM_costsBySums_119 : decode prog_14_method_21_code 119 = .ok (.invokestatic 163, 3) := by decide +kernel
theorem dc_RM_costsBySums_122 : decode prog_14_method_21_code 122 = .ok (.lstore 20, 2) := by decide +kernel
theorem dc_RM_costsBySums_124 : decode prog_14_method_21_code 124 = .ok (.ldc2_w 167, 3) := by decide +kernel
theorem dc_RM_costsBySums_127 : decode prog_14_method_21_code 127 = .ok (.lstore 22, 2) := by decide +kernel
theorem dc_RM_costsBySums_129 : decode prog_14_method_21_code 129 = .ok (.lload 22, 2) := by decide +kernel
theorem dc_RM_costsBySums_131 : decode prog_14_method_21_code 131 = .ok (.ldc2_w 169, 3) := by decide +kernel
theorem dc_RM_costsBySums_134 : decode prog_14_method_21_code 134 = .ok (.lcmp, 1) := by decide +kernel
theorem dc_RM_costsBySums_135 : decode prog_14_method_21_code 135 = .ok (.ifCond .ge 51, 3) := by decide +kernel
theorem dc_RM_costsBySums_138 : decode prog_14_method_21_code 138 = .ok (.iload_n 2, 1) := by decide +kernel
theorem dc_RM_costsBySums_139 : decode prog_14_method_21_code 139 = .ok (.ifCond .eq 47, 3) := by decide +kernel
theorem dc_RM_costsBySums_142 : decode prog_14_method_21_code 142 = .ok (.lload_n 3, 1) := by decide +kernel
theorem dc_RM_costsBySums_143 : decode prog_14_method_21_code 143 = .ok (.lload 5, 2) := by decide +kernel
theorem dc_RM_costsBySums_145 : decode prog_14_method_21_code 145 = .ok (.lload 7, 2) := by decide +kernel
theorem dc_RM_costsBySums_147 : decode prog_14_method_21_code 147 = .ok (.lload 9, 2) := by decide +kernel
theorem dc_RM_costsBySums_149 : decode prog_14_method_21_code 149 = .ok (.lload 11, 2) := by decide +kernel
theorem dc_RM_costsBySums_151 : decode prog_14_method_21_code 151 = .ok (.lload 13, 2) := by decide +kernel
theorem dc_RM_costsBySums_153 : decode prog_14_method_21_code 153 = .ok (.lload 22, 2) := by decide +kernel
theorem dc_RM_costsBySums_155 : decode prog_14_method_21_code 155 = .ok (.invokestatic 163, 3) := by decide +kernel
theorem dc_RM_costsBySums_158 : decode prog_14_method_21_code 158 = .ok (.lstore 24, 2) := by decide +kernel
theorem dc_RM_costsBySums_160 : decode prog_14_method_21_code 160 = .ok (.lload 24, 2) := by decide +kernel
theorem dc_RM_costsBySums_162 : decode prog_14_method_21_code 162 = .ok (.lload 20, 2) := by decide +kernel
theorem dc_RM_costsBySums_164 : decode prog_14_method_21_code 164 = .ok (.lcmp, 1) := by decide +kernel
theorem dc_RM_costsBySums_165 : decode prog_14_method_21_code 165 = .ok (.ifCond .ge 8, 3) := by decide +kernel
theorem dc_RM_costsBySums_168 : decode prog_14_method_21_code 168 = .ok (.lload 24, 2) := by decide +kernel
theorem dc_RM_costsBySums_170 : decode prog_14_method_21_code 170 = .ok (.goto 5, 3) := by decide +kernel
theorem dc_RM_costsBySums_173 : decode prog_14_method_21_code 173 = .ok (.lload 20, 2) := by decide +kernel
theorem dc_RM_costsBySums_175 : decode prog_14_method_21_code 175 = .ok (.lstore 20, 2) := by decide +kernel
theorem dc_RM_costsBySums_177 : decode prog_14_method_21_code 177 = .ok (.lload 22, 2) := by decide +kernel
theorem dc_RM_costsBySums_179 : decode prog_14_method_21_code 179 = .ok (.lconst 1, 1) := by decide +kernel
theorem dc_RM_costsBySums_180 : decode prog_14_method_21_code 180 = .ok (.ladd, 1) := by decide +kernel
theorem dc_RM_costsBySums_181 : decode prog_14_method_21_code 181 = .ok (.lstore 22, 2) := by decide +kernel
theorem dc_RM_costsBySums_183 : decode prog_14_method_21_code 183 = .ok (.goto (-54), 3) := by decide +kernel
theorem dc_RM_costsBySums_186 : decode prog_14_method_21_code 186 = .ok (.aload_n 0, 1) := by decide +kernel
theorem dc_RM_costsBySums_187 : decode prog_14_method_21_code 187 = .ok (.bipush 40, 2) := by decide +kernel
theorem dc_RM_costsBySums_189 : decode prog_14_method_21_code 189 = .ok (.iload_n 1, 1) := by decide +kernel
theorem dc_RM_costsBySums_190 : decode prog_14_method_21_code 190 = .ok (.imul, 1) := by decide +kernel
theorem dc_RM_costsBySums_191 : decode prog_14_method_21_code 191 = .ok (.iload 15, 2) := by decide +kernel
theorem dc_RM_costsBySums_193 : decode prog_14_method_21_code 193 = .ok (.iadd, 1) := by decide +kernel
theorem dc_RM_costsBySums_194 : decode prog_14_method_21_code 194 = .ok (.lload 20, 2) := by decide +kernel
theorem dc_RM_costsBySums_196 : decode prog_14_method_21_code 196 = .ok (.lload_n 3, 1) := by decide +kernel
theorem dc_RM_costsBySums_197 : decode prog_14_method_21_code 197 = .ok (.invokevirtual 171, 3) := by decide +kernel
theorem dc_RM_costsBySums_200 : decode prog_14_method_21_code 200 = .ok (.iinc 15 1, 3) := by decide +kernel
theorem dc_RM_costsBySums_203 : decode prog_14_method_21_code 203 = .ok (.goto (-183), 3) := by decide +kernel
theorem dc_RM_costsBySums_206 : decode prog_14_method_21_code 206 = .ok (.return_, 1) := by decide +kernel
theorem w_RM_costsBySums_0 {G : GC} {d : Nat} {P : PT} {I : MI} {J : MJ} {x1 : Int32} {x2 : Int32} (k1 : Go G (fr G m_RM_costsBySums (d + 2) P) 20 [some (.ref 67), some (.int x1), some (.int x2), some (.long 0), none, some (.long 0), none, some (.long 0), none, some (.long 0), none, some (.long 0), none, some (.long 0), none, some (.int x1), none, none, none, none, none, none, none, none, none, none] [] I J) : Go G (fr G m_RM_costsBySums (d + 2) P) 0 [some (.ref 67), some (.int x1), some (.int x2), none, none, none, none, none, none, none, none, none, none, none, none, none, none, none, none, none, none, none, none, none, none, none] [] I J := by
  refine g_lconst (v := 0) dc_RM_costsBySums_0 rfl (by decide) ?_
  refine g_lstore_n (L' := [some (.ref 67), some (.int x1), some (.int x2), some (.long 0), none, none, none, none, none, none, none, none, none, none, none, none, none, none, none, none, none, none, none, none, none, none]) dc_RM_costsBySums_1 rfl rfl (Nat.le_of_ble_eq_true rfl) rfl ?_
  refine g_lconst (v := 0) dc_RM_costsBySums_2 rfl (by decide) ?_
  refine g_lstore (L' := [some (.ref 67), some (.int x1), some (.int x2), some (.long 0), none, some (.long 0), none, none, none, none, none, none, none, none, none, none, none, none, none, none, none, none, none, none, none, none]) dc_RM_costsBySums_3 rfl (Nat.le_of_ble_eq_true rfl) rfl ?_
  refine g_lconst (v := 0) dc_RM_costsBySums_5 rfl (by decide) ?_
  refine g_lstore (L' := [some (.ref 67), some (.int x1), some (.int x2), some (.long 0), none, some (.long 0), none, some (.long 0), none, none, none, none, none, none, none, none, none, none, none, none, none, none, none, none, none, none]) dc_RM_costsBySums_6 rfl (Nat.le_of_ble_eq_true rfl) rfl ?_
  refine g_lconst (v := 0) dc_RM_costsBySums_8 rfl (by decide) ?_
  refine g_lstore (L' := [some (.ref 67), some (.int x1), some (.int x2), some (.long 0), none, some (.long 0), none, some (.long 0), none, some (.long 0), none, none, none, none, none, none, none, none, none, none, none, none, none, none, none, none]) dc_RM_costsBySums_9 rfl (Nat.le_of_ble_eq_true rfl) rfl ?_
  refine g_lconst (v := 0) dc_RM_costsBySums_11 rfl (by decide) ?_
  refine g_lstore (L' := [some (.ref 67), some (.int x1), some (.int x2), some (.long 0), none, some (.long 0), none, some (.long 0), none, some (.long 0), none, some (.long 0), none, none, none, none, none, none, none, none, none, none, none, none, none, none]) dc_RM_costsBySums_12 rfl (Nat.le_of_ble_eq_true rfl) rfl ?_
  refine g_lconst (v := 0) dc_RM_costsBySums_14 rfl (by decide) ?_
  refine g_lstore (L' := [some (.ref 67), some (.int x1), some (.int x2), some (.long 0), none, some (.long 0), none, some (.long 0), none, some (.long 0), none, some (.long 0), none, some (.long 0), none, none, none, none, none, none, none, none, none, none, none, none]) dc_RM_costsBySums_15 rfl (Nat.le_of_ble_eq_true rfl) rfl ?_
  refine g_iload_n dc_RM_costsBySums_17 rfl rfl rfl ?_
  refine g_istore (L' := [some (.ref 67), some (.int x1), some (.int x2), some (.long 0), none, some (.long 0), none, some (.long 0), none, some (.long 0), none, some (.long 0), none, some (.long 0), none, some (.int x1), none, none, none, none, none, none, none, none, none, none]) dc_RM_costsBySums_18 rfl (Nat.le_of_ble_eq_true rfl) rfl ?_
  exact k1
