theorem w_RM_soon_31 {G : GC} {d : Nat} {P : PT} {I : MI} {J : MJ}  (q1 : P (some (.int (-2))) I J) : Go G (fr G m_RM_soon (d + 3) P) 31 [none, none, none, none, none, none, none, none, none] [] I J := by
  refine g_bipush (v := (-2)) dc_RM_soon_31 rfl (by decide) ?_
  exact g_iret rfl dc_RM_soon_33 q1
theorem w_RM_soon_43 {G : GC} {d : Nat} {P : PT} {I : MI} {J : MJ} {x2 : Int32} {x3 : Int32} {x4 : Int32} {x5 : Int32} {x6 : Int32} {x7 : Int32} (k1 : Ct G (d + 2) m_RM_watches [.ref 67, .int x2, .int x3, .int x4, .int x5] (fun r I' J' => Go G (fr G m_RM_soon (d + 3) P) 53 [some (.ref 67), none, none, none, none, none, some (.int x6), some (.int x7), none] (r.toList ++ []) I' J') I J) : Go G (fr G m_RM_soon (d + 3) P) 43 [some (.ref 67), none, some (.int x2), some (.int x3), some (.int x4), some (.int x5), some (.int x6), some (.int x7), none] [] I J := by
  refine g_aload_n dc_RM_soon_43 rfl rfl rfl ?_
  refine g_iload_n dc_RM_soon_44 rfl rfl rfl ?_
  refine g_iload_n dc_RM_soon_45 rfl rfl rfl ?_
  refine g_iload dc_RM_soon_46 rfl rfl ?_
  refine g_iload dc_RM_soon_48 rfl rfl ?_
  refine g_weak [some (.ref 67), none, none, none, none, none, some (.int x6), some (.int x7), none] ⟨rfl, ⟨rfl, ⟨rfl, trivial⟩⟩⟩ ?_
  exact g_callV (T := T_RM) (N := 45) (As := [.int x2, .int x3, .int x4, .int x5]) (rest := []) ok_RM_watches in_RM_watches se_RM_watches ml_RM_286 sh_67 (by decide) rfl rfl rfl (Nat.le_of_ble_eq_true rfl) dc_RM_soon_50 rfl rOk_fr k1
theorem w_RM_soon_53 {G : GC} {d : Nat} {P : PT} {I : MI} {J : MJ} {x6 : Int32} {x7 : Int32} (k1 : Ct G (d + 2) m_RM_firstFrom [.ref 67, .int x6] (fun r I' J' => Go G (fr G m_RM_soon (d + 3) P) 59 [some (.ref 67), none, none, none, none, none, some (.int x6), some (.int x7), none] (r.toList ++ []) I' J') I J) : Go G (fr G m_RM_soon (d + 3) P) 53 [some (.ref 67), none, none, none, none, none, some (.int x6), some (.int x7), none] [] I J := by
  refine g_aload_n dc_RM_soon_53 rfl rfl rfl ?_
  refine g_iload dc_RM_soon_54 rfl rfl ?_
  exact g_callV (T := T_RM) (N := 45) (As := [.int x6]) (rest := []) ok_RM_firstFrom in_RM_firstFrom se_RM_firstFrom ml_RM_290 sh_67 (by decide) rfl rfl rfl (Nat.le_of_ble_eq_true rfl) dc_RM_soon_56 rfl rOk_fr k1
theorem w_RM_soon_59 {G : GC} {d : Nat} {P : PT} {I : MI} {J : MJ} {x6 : Int32} {x7 : Int32} {y0 : Int32} (q1 : (¬ x7 = 1) → (¬ y0 = (-1)) → P (some (.int (y0 - x6))) I J) (q2 : (¬ x7 = 1) → (y0 = (-1)) → P (some (.int (-1))) I J) (k3 : (x7 = 1) → Ct G (d + 2) m_RM_before [.ref 67, .int x6] (fun r I' J' => Go G (fr G m_RM_soon (d + 3) P) 73 [none, none, none, none, none, none, none, none, none] (r.toList ++ []) I' J') I J) : Go G (fr G m_RM_soon (d + 3) P) 59 [some (.ref 67), none, none, none, none, none, some (.int x6), some (.int x7), none] [.int y0] I J := by
  refine g_istore (L' := [some (.ref 67), none, none, none, none, none, some (.int x6), some (.int x7), some (.int y0)]) dc_RM_soon_59 rfl (Nat.le_of_ble_eq_true rfl) rfl ?_
  refine g_iload dc_RM_soon_61 rfl rfl ?_
  refine g_iconst (v := 1) dc_RM_soon_63 rfl (by decide) ?_
  refine g_ic_ne (tgt := 76) dc_RM_soon_64 rfl (by decide) (fun c1 => ?_) (fun c1 => ?_)
  · refine g_iload dc_RM_soon_76 rfl rfl ?_
    refine g_iconst (v := (-1)) dc_RM_soon_78 rfl (by decide) ?_
    refine g_ic_ne (tgt := 86) dc_RM_soon_79 rfl (by decide) (fun c2 => ?_) (fun c2 => ?_)
    · refine g_iload dc_RM_soon_86 rfl rfl ?_
      refine g_iload dc_RM_soon_88 rfl rfl ?_
      refine g_isub dc_RM_soon_90 rfl ?_
      exact g_iret rfl dc_RM_soon_91 (q1 c1 c2)
    · refine g_iconst (v := (-1)) dc_RM_soon_82 rfl (by decide) ?_
      refine g_goto (tgt := 91) dc_RM_soon_83 (by decide) ?_
      exact g_iret rfl dc_RM_soon_91 (q2 c1 c2)
  · refine g_aload_n dc_RM_soon_67 rfl rfl rfl ?_
    refine g_iload dc_RM_soon_68 rfl rfl ?_
    refine g_weak [none, none, none, none, none, none, none, none, none] trivial ?_
    exact g_callV (T := T_RM) (N := 45) (As := [.int x6]) (rest := []) ok_RM_before in_RM_before se_RM_before ml_RM_293 sh_67 (by decide) rfl rfl rfl (Nat.le_of_ble_eq_true rfl) dc_RM_soon_70 rfl rOk_fr (k3 c1)
theorem w_RM_soon_73 {G : GC} {d : Nat} {P : PT} {I : MI} {J : MJ} {y0 : Int32} (q1 : P (some (.int y0)) I J) : Go G (fr G m_RM_soon (d + 3) P) 73 [none, none, none, none, none, none, none, none, none] [.int y0] I J := by
  refine g_goto (tgt := 91) dc_RM_soon_73 (by decide) ?_
  exact g_iret rfl dc_RM_soon_91 q1
theorem dc_RM_tell_0 : decode prog_14_method_9_code 0 = .ok (.aload_n 0, 1) := by decide +kernel
theorem dc_RM_tell_1 : decode prog_14_method_9_code 1 = .ok (.iload_n 1, 1) := by decide +kernel
theorem dc_RM_tell_2 : decode prog_14_method_9_code 2 = .ok (.iload_n 2, 1) := by decide +kernel
theorem dc_RM_tell_3 : decode prog_14_method_9_code 3 = .ok (.iload_n 3, 1) := by decide +kernel
theorem dc_RM_tell_4 : decode prog_14_method_9_code 4 = .ok (.iload 4, 2) := by decide +kernel
theorem dc_RM_tell_6 : decode prog_14_method_9_code 6 = .ok (.invokevirtual 130, 3) := by decide +kernel
theorem dc_RM_tell_9 : decode prog_14_method_9_code 9 = .ok (.ireturn, 1) := by decide +kernel
theorem w_RM_tell_0 {G : GC} {d : Nat} {P : PT} {I : MI} {J : MJ} {x1 : Int32} {x2 : Int32} {x3 : Int32} {x4 : Int32} (k1 : Ct G (d + 2) m_RM_tells [.ref 67, .int x1, .int x2, .int x3, .int x4] (fun r I' J' => Go G (fr G m_RM_tell (d + 3) P) 9 [none, none, none, none, none] (r.toList ++ []) I' J') I J) : Go G (fr G m_RM_tell (d + 3) P) 0 [some (.ref 67), some (.int x1), some (.int x2), some (.int x3), some (.int x4)] [] I J := by
  refine g_aload_n dc_RM_tell_0 rfl rfl rfl ?_
  refine g_iload_n dc_RM_tell_1 rfl rfl rfl ?_
  refine g_iload_n dc_RM_tell_2 rfl rfl rfl ?_
  refine g_iload_n dc_RM_tell_3 rfl rfl rfl ?_
  refine g_iload dc_RM_tell_4 rfl rfl ?_
  refine g_weak [none, none, none, none, none] trivial ?_
  exact g_callV (T := T_RM) (N := 45) (As := [.int x1, .int x2, .int x3, .int x4]) (rest := []) ok_RM_tells in_RM_tells se_RM_tells ml_RM_130 sh_67 (by decide) rfl rfl rfl (Nat.le_of_ble_eq_true rfl) dc_RM_tell_6 rfl rOk_fr k1
theorem w_RM_tell_9 {G : GC} {d : Nat} {P : PT} {I : MI} {J : MJ} {y0 : Int32} (q1 : P (some (.int y0)) I J) : Go G (fr G m_RM_tell (d + 3) P) 9 [none, none, none, none, none] [.int y0] I J := by
  exact g_iret rfl dc_RM_tell_9 q1
theorem dc_RM_tells_0 : decode prog_14_method_8_code 0 = .ok (.iload_n 1, 1) := by decide +kernel
theorem dc_RM_tells_1 : decode prog_14_method_8_code 1 = .ok (.invokestatic 119, 3) := by decide +kernel
theorem dc_RM_tells_4 : decode prog_14_method_8_code 4 = .ok (.ifCond .eq 45, 3) := by decide +kernel
theorem dc_RM_tells_7 : decode prog_14_method_8_code 7 = .ok (.iload_n 2, 1) := by decide +kernel
theorem dc_RM_tells_8 : decode prog_14_method_8_code 8 = .ok (.invokestatic 123, 3) := by decide +kernel
theorem dc_RM_tells_11 : decode prog_14_method_8_code 11 = .ok (.ifCond .eq 38, 3) := by decide +kernel
theorem dc_RM_tells_14 : decode prog_14_method_8_code 14 = .ok (.iload_n 3, 1) := by decide +kernel
theorem dc_RM_tells_15 : decode prog_14_method_8_code 15 = .ok (.sipush (-9999), 3) := by decide +kernel
theorem dc_RM_tells_18 : decode prog_14_method_8_code 18 = .ok (.if_icmp .eq 16, 3) := by decide +kernel
theorem dc_RM_tells_21 : decode prog_14_method_8_code 21 = .ok (.iload_n 3, 1) := by decide +kernel
theorem dc_RM_tells_22 : decode prog_14_method_8_code 22 = .ok (.sipush (-1000), 3) := by decide +kernel
theorem dc_RM_tells_25 : decode prog_14_method_8_code 25 = .ok (.sipush 1000, 3) := by decide +kernel
theorem dc_RM_tells_28 : decode prog_14_method_8_code 28 = .ok (.invokestatic 112, 3) := by decide +kernel
theorem dc_RM_tells_31 : decode prog_14_method_8_code 31 = .ok (.ifCond .eq 18, 3) := by decide +kernel
theorem dc_RM_tells_34 : decode prog_14_method_8_code 34 = .ok (.iload 4, 2) := by decide +kernel
theorem dc_RM_tells_36 : decode prog_14_method_8_code 36 = .ok (.aload_n 0, 1) := by decide +kernel
theorem dc_RM_tells_37 : decode prog_14_method_8_code 37 = .ok (.invokevirtual 126, 3) := by decide +kernel
theorem dc_RM_tells_40 : decode prog_14_method_8_code 40 = .ok (.sipush 999, 3) := by decide +kernel
theorem dc_RM_tells_43 : decode prog_14_method_8_code 43 = .ok (.invokestatic 112, 3) := by decide +kernel
theorem dc_RM_tells_46 : decode prog_14_method_8_code 46 = .ok (.ifCond .ne 6, 3) := by decide +kernel
theorem dc_RM_tells_49 : decode prog_14_method_8_code 49 = .ok (.bipush (-2), 2) := by decide +kernel
theorem dc_RM_tells_51 : decode prog_14_method_8_code 51 = .ok (.ireturn, 1) := by decide +kernel
theorem dc_RM_tells_52 : decode prog_14_method_8_code 52 = .ok (.aload_n 0, 1) := by decide +kernel
theorem dc_RM_tells_53 : decode prog_14_method_8_code 53 = .ok (.getfield 116, 3) := by decide +kernel
theorem dc_RM_tells_56 : decode prog_14_method_8_code 56 = .ok (.sipush 200, 3) := by decide +kernel
theorem dc_RM_tells_59 : decode prog_14_method_8_code 59 = .ok (.if_icmp .ne 6, 3) := by decide +kernel
theorem dc_RM_tells_62 : decode prog_14_method_8_code 62 = .ok (.bipush (-4), 2) := by decide +kernel
theorem dc_RM_tells_64 : decode prog_14_method_8_code 64 = .ok (.ireturn, 1) := by decide +kernel
theorem dc_RM_tells_65 : decode prog_14_method_8_code 65 = .ok (.aload_n 0, 1) := by decide +kernel
theorem dc_RM_tells_66 : decode prog_14_method_8_code 66 = .ok (.getfield 9, 3) := by decide +kernel
theorem dc_RM_tells_69 : decode prog_14_method_8_code 69 = .ok (.aload_n 0, 1) := by decide +kernel
theorem dc_RM_tells_70 : decode prog_14_method_8_code 70 = .ok (.getfield 116, 3) := by decide +kernel
theorem dc_RM_tells_73 : decode prog_14_method_8_code 73 = .ok (.iload_n 1, 1) := by decide +kernel
theorem dc_RM_tells_74 : decode prog_14_method_8_code 74 = .ok (.iastore, 1) := by decide +kernel
theorem dc_RM_tells_75 : decode prog_14_method_8_code 75 = .ok (.aload_n 0, 1) := by decide +kernel
theorem dc_RM_tells_76 : decode prog_14_method_8_code 76 = .ok (.getfield 13, 3) := by decide +kernel
theorem dc_RM_tells_79 : decode prog_14_method_8_code 79 = .ok (.aload_n 0, 1) := by decide +kernel
theorem dc_RM_tells_80 : decode prog_14_method_8_code 80 = .ok (.getfield 116, 3) := by decide +kernel
theorem dc_RM_tells_83 : decode prog_14_method_8_code 83 = .ok (.iload_n 2, 1) := by decide +kernel
theorem dc_RM_tells_84 : decode prog_14_method_8_code 84 = .ok (.iastore, 1) := by decide +kernel
theorem dc_RM_tells_85 : decode prog_14_method_8_code 85 = .ok (.aload_n 0, 1) := by decide +kernel
theorem dc_RM_tells_86 : decode prog_14_method_8_code 86 = .ok (.getfield 16, 3) := by decide +kernel
theorem dc_RM_tells_89 : decode prog_14_method_8_code 89 = .ok (.aload_n 0, 1) := by decide +kernel
theorem dc_RM_tells_90 : decode prog_14_method_8_code 90 = .ok (.getfield 116, 3) := by decide +kernel
theorem dc_RM_tells_93 : decode prog_14_method_8_code 93 = .ok (.iload_n 3, 1) := by decide +kernel
theorem dc_RM_tells_94 : decode prog_14_method_8_code 94 = .ok (.iastore, 1) := by decide +kernel
theorem dc_RM_tells_95 : decode prog_14_method_8_code 95 = .ok (.aload_n 0, 1) := by decide +kernel
theorem dc_RM_tells_96 : decode prog_14_method_8_code 96 = .ok (.getfield 19, 3) := by decide +kernel
theorem dc_RM_tells_99 : decode prog_14_method_8_code 99 = .ok (.aload_n 0, 1) := by decide +kernel
theorem dc_RM_tells_100 : decode prog_14_method_8_code 100 = .ok (.getfield 116, 3) := by decide +kernel
theorem dc_RM_tells_103 : decode prog_14_method_8_code 103 = .ok (.iload 4, 2) := by decide +kernel
theorem dc_RM_tells_105 : decode prog_14_method_8_code 105 = .ok (.iastore, 1) := by decide +kernel
theorem dc_RM_tells_106 : decode prog_14_method_8_code 106 = .ok (.aload_n 0, 1) := by decide +kernel
theorem dc_RM_tells_107 : decode prog_14_method_8_code 107 = .ok (.dup, 1) := by decide +kernel
theorem dc_RM_tells_108 : decode prog_14_method_8_code 108 = .ok (.getfield 116, 3) := by decide +kernel
theorem dc_RM_tells_111 : decode prog_14_method_8_code 111 = .ok (.iconst 1, 1) := by decide +kernel
theorem dc_RM_tells_112 : decode prog_14_method_8_code 112 = .ok (.iadd, 1) := by decide +kernel
theorem dc_RM_tells_113 : decode prog_14_method_8_code 113 = .ok (.putfield 116, 3) := by decide +kernel
theorem dc_RM_tells_116 : decode prog_14_method_8_code 116 = .ok (.aload_n 0, 1) := by decide +kernel
theorem dc_RM_tells_117 : decode prog_14_method_8_code 117 = .ok (.getfield 116, 3) := by decide +kernel
theorem dc_RM_tells_120 : decode prog_14_method_8_code 120 = .ok (.ireturn, 1) := by decide +kernel
theorem w_RM_tells_0 {G : GC} {d : Nat} {P : PT} {I : MI} {J : MJ} {x1 : Int32} {x2 : Int32} {x3 : Int32} {x4 : Int32} (k1 : ((f_RM_isRow x1) = 0) → Go G (fr G m_RM_tells (d + 2) P) 49 [none, none, none, none, none] [] I J) (k2 : (¬ ((f_RM_isRow x1) = 0)) → ((f_RM_isDay x2) = 0) → Go G (fr G m_RM_tells (d + 2) P) 49 [none, none, none, none, none] [] I J) (k3 : (¬ ((f_RM_isRow x1) = 0)) → (¬ ((f_RM_isDay x2) = 0)) → (x3 = (-9999)) → Go G (fr G m_RM_tells (d + 2) P) 34 [some (.ref 67), some (.int x1), some (.int x2), some (.int x3), some (.int x4)] [] I J) (k4 : (¬ ((f_RM_isRow x1) = 0)) → (¬ ((f_RM_isDay x2) = 0)) → (¬ (x3 = (-9999))) → ((f_RM_in x3 (-1000) 1000) = 0) → Go G (fr G m_RM_tells (d + 2) P) 49 [none, none, none, none, none] [] I J) (k5 : (¬ ((f_RM_isRow x1) = 0)) → (¬ ((f_RM_isDay x2) = 0)) → (¬ (x3 = (-9999))) → (¬ ((f_RM_in x3 (-1000) 1000) = 0)) → Go G (fr G m_RM_tells (d + 2) P) 34 [some (.ref 67), some (.int x1), some (.int x2), some (.int x3), some (.int x4)] [] I J) : Go G (fr G m_RM_tells (d + 2) P) 0 [some (.ref 67), some (.int x1), some (.int x2), some (.int x3), some (.int x4)] [] I J := by
  refine g_iload_n dc_RM_tells_0 rfl rfl rfl ?_
  refine g_callS (M := m_RM_isRow) (As := [.int x1]) (rest := []) ok_RM_isRow st_RM_isRow ml_RM_119 rfl rfl (Nat.le_of_ble_eq_true rfl) dc_RM_tells_1 rfl rOk_fr (c_RM_isRow ?_)
  show Go G (fr G m_RM_tells (d + 2) P) 4 [some (.ref 67), some (.int x1), some (.int x2), some (.int x3), some (.int x4)] [.int (f_RM_isRow x1)] I J
  refine g_if_eq (tgt := 49) dc_RM_tells_4 rfl (by decide) (fun c1 => ?_) (fun c1 => ?_)
  · refine g_weak [none, none, none, none, none] trivial ?_
    exact (k1 c1)
  · refine g_iload_n dc_RM_tells_7 rfl rfl rfl ?_
    refine g_callS (M := m_RM_isDay) (As := [.int x2]) (rest := []) ok_RM_isDay st_RM_isDay ml_RM_123 rfl rfl (Nat.le_of_ble_eq_true rfl) dc_RM_tells_8 rfl rOk_fr (c_RM_isDay ?_)
    show Go G (fr G m_RM_tells (d + 2) P) 11 [some (.ref 67), some (.int x1), some (.int x2), some (.int x3), some (.int x4)] [.int (f_RM_isDay x2)] I J
    refine g_if_eq (tgt := 49) dc_RM_tells_11 rfl (by decide) (fun c2 => ?_) (fun c2 => ?_)
    · refine g_weak [none, none, none, none, none] trivial ?_
      exact (k2 c1 c2)
    · refine g_iload_n dc_RM_tells_14 rfl rfl rfl ?_
      refine g_sipush (v := (-9999)) dc_RM_tells_15 rfl (by decide) ?_
      refine g_ic_eq (tgt := 34) dc_RM_tells_18 rfl (by decide) (fun c3 => ?_) (fun c3 => ?_)
      · exact (k3 c1 c2 c3)
      · refine g_iload_n dc_RM_tells_21 rfl rfl rfl ?_
        refine g_sipush (v := (-1000)) dc_RM_tells_22 rfl (by decide) ?_
        refine g_sipush (v := 1000) dc_RM_tells_25 rfl (by decide) ?_
        refine g_callS (M := m_RM_in) (As := [.int x3, .int (-1000), .int 1000]) (rest := []) ok_RM_in st_RM_in ml_RM_112 rfl rfl (Nat.le_of_ble_eq_true rfl) dc_RM_tells_28 rfl rOk_fr (c_RM_in ?_)
        show Go G (fr G m_RM_tells (d + 2) P) 31 [some (.ref 67), some (.int x1), some (.int x2), some (.int x3), some (.int x4)] [.int (f_RM_in x3 (-1000) 1000)] I J
        refine g_if_eq (tgt := 49) dc_RM_tells_31 rfl (by decide) (fun c4 => ?_) (fun c4 => ?_)
        · refine g_weak [none, none, none, none, none] trivial ?_
          exact (k4 c1 c2 c3 c4)
        · exact (k5 c1 c2 c3 c4)
theorem w_RM_tells_34 {G : GC} {d : Nat} {P : PT} {I : MI} {J : MJ} {x1 : Int32} {x2 : Int32} {x3 : Int32} {x4 : Int32} (k1 : Ct G (d + 1) m_RM_lastTime [.ref 67] (fun r I' J' => Go G (fr G m_RM_tells (d + 2) P) 40 [some (.ref 67), some (.int x1), some (.int x2), some (.int x3), some (.int x4)] (r.toList ++ [.int x4]) I' J') I J) : Go G (fr G m_RM_tells (d + 2) P) 34 [some (.ref 67), some (.int x1), some (.int x2), some (.int x3), some (.int x4)] [] I J := by
  refine g_iload dc_RM_tells_34 rfl rfl ?_
  refine g_aload_n dc_RM_tells_36 rfl rfl rfl ?_
  exact g_callV (T := T_RM) (N := 45) (As := []) (rest := [.int x4]) ok_RM_lastTime in_RM_lastTime se_RM_lastTime ml_RM_126 sh_67 (by decide) rfl rfl rfl (Nat.le_of_ble_eq_true rfl) dc_RM_tells_37 rfl rOk_fr k1
theorem w_RM_tells_40 {G : GC} {d : Nat} {P : PT} {I : MI} {J : MJ} {x1 : Int32} {x2 : Int32} {x3 : Int32} {x4 : Int32} {y0 : Int32} {y1 : Int32} (b1 : (¬ (f_RM_in y0 y1 999) = 0) → (¬ (I 67 0) = 200) → vp_in (I 67 0) 200) (q2 : (¬ (f_RM_in y0 y1 999) = 0) → (¬ (I 67 0) = 200) → P (some (.int ((I 67 0) + 1))) (u2 (u2 (u2 (u2 (u2 I 68 (I 67 0).toNatClampNeg x1) 69 (I 67 0).toNatClampNeg x2) 70 (I 67 0).toNatClampNeg x3) 71 (I 67 0).toNatClampNeg x4) 67 0 ((I 67 0) + 1)) J) (q3 : (¬ (f_RM_in y0 y1 999) = 0) → ((I 67 0) = 200) → P (some (.int (-4))) I J) (k4 : ((f_RM_in y0 y1 999) = 0) → Go G (fr G m_RM_tells (d + 2) P) 49 [none, none, none, none, none] [] I J) : Go G (fr G m_RM_tells (d + 2) P) 40 [some (.ref 67), some (.int x1), some (.int x2), some (.int x3), some (.int x4)] [.int y1, .int y0] I J := by
  refine g_sipush (v := 999) dc_RM_tells_40 rfl (by decide) ?_
  refine g_callS (M := m_RM_in) (As := [.int y0, .int y1, .int 999]) (rest := []) ok_RM_in st_RM_in ml_RM_112 rfl rfl (Nat.le_of_ble_eq_true rfl) dc_RM_tells_43 rfl rOk_fr (c_RM_in ?_)
  show Go G (fr G m_RM_tells (d + 2) P) 46 [some (.ref 67), some (.int x1), some (.int x2), some (.int x3), some (.int x4)] [.int (f_RM_in y0 y1 999)] I J
  refine g_if_ne (tgt := 52) dc_RM_tells_46 rfl (by decide) (fun c1 => ?_) (fun c1 => ?_)
  · refine g_aload_n dc_RM_tells_52 rfl rfl rfl ?_
    refine g_get (C := "LevelBreaksModel") (T := T_RM) (N := 45) (k := 0) (v := .int (I 67 0)) sh_67 (by decide) rfl rfl i_RM (by decide) fl_RM_116 (Or.inl rfl) rfl dc_RM_tells_53 rfl ?_
    refine g_sipush (v := 200) dc_RM_tells_56 rfl (by decide) ?_
    refine g_ic_ne (tgt := 65) dc_RM_tells_59 rfl (by decide) (fun c2 => ?_) (fun c2 => ?_)
    · refine g_aload_n dc_RM_tells_65 rfl rfl rfl ?_
      refine g_get (C := "LevelBreaksModel") (T := T_RM) (N := 45) (k := 1) (v := .ref 68) sh_67 (by decide) rfl rfl i_RM (by decide) fl_RM_9 (Or.inl rfl) rfl dc_RM_tells_66 rfl ?_
      refine g_aload_n dc_RM_tells_69 rfl rfl rfl ?_
      refine g_get (C := "LevelBreaksModel") (T := T_RM) (N := 45) (k := 0) (v := .int (I 67 0)) sh_67 (by decide) rfl rfl i_RM (by decide) fl_RM_116 (Or.inl rfl) rfl dc_RM_tells_70 rfl ?_
      refine g_iload_n dc_RM_tells_73 rfl rfl rfl ?_
      refine g_iast sh_68 (b1 c1 c2) dc_RM_tells_74 rfl ?_
      refine g_aload_n dc_RM_tells_75 rfl rfl rfl ?_
      refine g_get (C := "LevelBreaksModel") (T := T_RM) (N := 45) (k := 2) (v := .ref 69) sh_67 (by decide) rfl rfl i_RM (by decide) fl_RM_13 (Or.inl rfl) rfl dc_RM_tells_76 rfl ?_
      refine g_aload_n dc_RM_tells_79 rfl rfl rfl ?_
      refine g_get (C := "LevelBreaksModel") (T := T_RM) (N := 45) (k := 0) (v := .int (I 67 0)) sh_67 (by decide) rfl rfl i_RM (by decide) fl_RM_116 (Or.inl rfl) rfl dc_RM_tells_80 rfl ?_
      refine g_iload_n dc_RM_tells_83 rfl rfl rfl ?_
      refine g_iast sh_69 (b1 c1 c2) dc_RM_tells_84 rfl ?_
      refine g_aload_n dc_RM_tells_85 rfl rfl rfl ?_
      refine g_get (C := "LevelBreaksModel") (T := T_RM) (N := 45) (k := 3) (v := .ref 70) sh_67 (by decide) rfl rfl i_RM (by decide) fl_RM_16 (Or.inl rfl) rfl dc_RM_tells_86 rfl ?_
      refine g_aload_n dc_RM_tells_89 rfl rfl rfl ?_
      refine g_get (C := "LevelBreaksModel") (T := T_RM) (N := 45) (k := 0) (v := .int (I 67 0)) sh_67 (by decide) rfl rfl i_RM (by decide) fl_RM_116 (Or.inl rfl) rfl dc_RM_tells_90 rfl ?_
      refine g_iload_n dc_RM_tells_93 rfl rfl rfl ?_
      refine g_iast sh_70 (b1 c1 c2) dc_RM_tells_94 rfl ?_
      refine g_aload_n dc_RM_tells_95 rfl rfl rfl ?_
      refine g_get (C := "LevelBreaksModel") (T := T_RM) (N := 45) (k := 4) (v := .ref 71) sh_67 (by decide) rfl rfl i_RM (by decide) fl_RM_19 (Or.inl rfl) rfl dc_RM_tells_96 rfl ?_
      refine g_aload_n dc_RM_tells_99 rfl rfl rfl ?_
      refine g_get (C := "LevelBreaksModel") (T := T_RM) (N := 45) (k := 0) (v := .int (I 67 0)) sh_67 (by decide) rfl rfl i_RM (by decide) fl_RM_116 (Or.inl rfl) rfl dc_RM_tells_100 rfl ?_
      refine g_iload dc_RM_tells_103 rfl rfl ?_
      refine g_iast sh_71 (b1 c1 c2) dc_RM_tells_105 rfl ?_
      refine g_aload_n dc_RM_tells_106 rfl rfl rfl ?_
      refine g_dup dc_RM_tells_107 rfl rfl ?_
      refine g_get (C := "LevelBreaksModel") (T := T_RM) (N := 45) (k := 0) (v := .int (I 67 0)) sh_67 (by decide) rfl rfl i_RM (by decide) fl_RM_116 (Or.inl rfl) rfl dc_RM_tells_108 rfl ?_
      refine g_iconst (v := 1) dc_RM_tells_111 rfl (by decide) ?_
      refine g_iadd dc_RM_tells_112 rfl ?_
      refine g_putI (C := "LevelBreaksModel") (T := T_RM) (N := 45) (k := 0) (ty := t_RM) sh_67 (by decide) rfl rfl i_RM p_RM n_RM (by decide) fl_RM_116 (Or.inl rfl) rfl (by decide) dc_RM_tells_113 rfl ?_
      refine g_aload_n dc_RM_tells_116 rfl rfl rfl ?_
      refine g_get (C := "LevelBreaksModel") (T := T_RM) (N := 45) (k := 0) (v := .int ((I 67 0) + 1)) sh_67 (by decide) rfl rfl i_RM (by decide) fl_RM_116 (Or.inl rfl) rfl dc_RM_tells_117 rfl ?_
      exact g_iret rfl dc_RM_tells_120 (q2 c1 c2)
    · refine g_bipush (v := (-4)) dc_RM_tells_62 rfl (by decide) ?_
      exact g_iret rfl dc_RM_tells_64 (q3 c1 c2)
  · refine g_weak [none, none, none, none, none] trivial ?_
    exact (k4 c1)
theorem w_RM_tells_49 {G : GC} {d : Nat} {P : PT} {I : MI} {J : MJ}  (q1 : P (some (.int (-2))) I J) : Go G (fr G m_RM_tells (d + 2) P) 49 [none, none, none, none, none] [] I J := by
  refine g_bipush (v := (-2)) dc_RM_tells_49 rfl (by decide) ?_
  exact g_iret rfl dc_RM_tells_51 q1
theorem dc_RM_together_0 : decode prog_14_method_54_code 0 = .ok (.iload_n 1, 1) := by decide +kernel
theorem dc_RM_together_1 : decode prog_14_method_54_code 1 = .ok (.invokestatic 119, 3) := by decide +kernel
theorem dc_RM_together_4 : decode prog_14_method_54_code 4 = .ok (.ifCond .eq 54, 3) := by decide +kernel
theorem dc_RM_together_7 : decode prog_14_method_54_code 7 = .ok (.iload_n 2, 1) := by decide +kernel
theorem dc_RM_together_8 : decode prog_14_method_54_code 8 = .ok (.invokestatic 119, 3) := by decide +kernel
theorem dc_RM_together_11 : decode prog_14_method_54_code 11 = .ok (.ifCond .eq 47, 3) := by decide +kernel
theorem dc_RM_together_14 : decode prog_14_method_54_code 14 = .ok (.iload_n 1, 1) := by decide +kernel
theorem dc_RM_together_15 : decode prog_14_method_54_code 15 = .ok (.iload_n 2, 1) := by decide +kernel
theorem dc_RM_together_16 : decode prog_14_method_54_code 16 = .ok (.if_icmp .eq 42, 3) := by decide +kernel
theorem dc_RM_together_19 : decode prog_14_method_54_code 19 = .ok (.iload_n 3, 1) := by decide +kernel
theorem dc_RM_together_20 : decode prog_14_method_54_code 20 = .ok (.invokestatic 186, 3) := by decide +kernel
theorem dc_RM_together_23 : decode prog_14_method_54_code 23 = .ok (.ifCond .eq 35, 3) := by decide +kernel
theorem dc_RM_together_26 : decode prog_14_method_54_code 26 = .ok (.iload 4, 2) := by decide +kernel
theorem dc_RM_together_28 : decode prog_14_method_54_code 28 = .ok (.iconst 2, 1) := by decide +kernel
theorem dc_RM_together_29 : decode prog_14_method_54_code 29 = .ok (.bipush 6, 2) := by decide +kernel
theorem dc_RM_together_31 : decode prog_14_method_54_code 31 = .ok (.invokestatic 112, 3) := by decide +kernel
theorem dc_RM_together_34 : decode prog_14_method_54_code 34 = .ok (.ifCond .eq 24, 3) := by decide +kernel
theorem dc_RM_together_37 : decode prog_14_method_54_code 37 = .ok (.iload 5, 2) := by decide +kernel
theorem dc_RM_together_39 : decode prog_14_method_54_code 39 = .ok (.iconst 0, 1) := by decide +kernel
theorem dc_RM_together_40 : decode prog_14_method_54_code 40 = .ok (.bipush 9, 2) := by decide +kernel
theorem dc_RM_together_42 : decode prog_14_method_54_code 42 = .ok (.invokestatic 112, 3) := by decide +kernel
theorem dc_RM_together_45 : decode prog_14_method_54_code 45 = .ok (.ifCond .eq 13, 3) := by decide +kernel
theorem dc_RM_together_48 : decode prog_14_method_54_code 48 = .ok (.iload 6, 2) := by decide +kernel
theorem dc_RM_together_50 : decode prog_14_method_54_code 50 = .ok (.iconst 0, 1) := by decide +kernel
theorem dc_RM_together_51 : decode prog_14_method_54_code 51 = .ok (.iconst 1, 1) := by decide +kernel
theorem dc_RM_together_52 : decode prog_14_method_54_code 52 = .ok (.invokestatic 112, 3) := by decide +kernel
theorem dc_RM_together_55 : decode prog_14_method_54_code 55 = .ok (.ifCond .ne 6, 3) := by decide +kernel
theorem dc_RM_together_58 : decode prog_14_method_54_code 58 = .ok (.bipush (-2), 2) := by decide +kernel
theorem dc_RM_together_60 : decode prog_14_method_54_code 60 = .ok (.ireturn, 1) := by decide +kernel
theorem dc_RM_together_61 : decode prog_14_method_54_code 61 = .ok (.aload_n 0, 1) := by decide +kernel
theorem dc_RM_together_62 : decode prog_14_method_54_code 62 = .ok (.iload_n 2, 1) := by decide +kernel
theorem dc_RM_together_63 : decode prog_14_method_54_code 63 = .ok (.iload_n 3, 1) := by decide +kernel
theorem dc_RM_together_64 : decode prog_14_method_54_code 64 = .ok (.iload 4, 2) := by decide +kernel
theorem dc_RM_together_66 : decode prog_14_method_54_code 66 = .ok (.aload_n 0, 1) := by decide +kernel
theorem dc_RM_together_67 : decode prog_14_method_54_code 67 = .ok (.getfield 22, 3) := by decide +kernel
theorem dc_RM_together_70 : decode prog_14_method_54_code 70 = .ok (.invokevirtual 220, 3) := by decide +kernel
theorem dc_RM_together_73 : decode prog_14_method_54_code 73 = .ok (.ifCond .ne 6, 3) := by decide +kernel
theorem dc_RM_together_76 : decode prog_14_method_54_code 76 = .ok (.bipush (-3), 2) := by decide +kernel
theorem dc_RM_together_78 : decode prog_14_method_54_code 78 = .ok (.ireturn, 1) := by decide +kernel
theorem dc_RM_together_79 : decode prog_14_method_54_code 79 = .ok (.iconst 0, 1) := by decide +kernel
theorem dc_RM_together_80 : decode prog_14_method_54_code 80 = .ok (.istore 7, 2) := by decide +kernel
theorem dc_RM_together_82 : decode prog_14_method_54_code 82 = .ok (.iload 7, 2) := by decide +kernel
theorem dc_RM_together_84 : decode prog_14_method_54_code 84 = .ok (.iload 4, 2) := by decide +kernel
theorem dc_RM_together_86 : decode prog_14_method_54_code 86 = .ok (.if_icmp .ge 28, 3) := by decide +kernel
theorem dc_RM_together_89 : decode prog_14_method_54_code 89 = .ok (.aload_n 0, 1) := by decide +kernel
theorem dc_RM_together_90 : decode prog_14_method_54_code 90 = .ok (.getfield 78, 3) := by decide +kernel
theorem dc_RM_together_93 : decode prog_14_method_54_code 93 = .ok (.iload 7, 2) := by decide +kernel
theorem dc_RM_together_95 : decode prog_14_method_54_code 95 = .ok (.aload_n 0, 1) := by decide +kernel
theorem dc_RM_together_96 : decode prog_14_method_54_code 96 = .ok (.getfield 32, 3) := by decide +kernel
theorem dc_RM_together_99 : decode prog_14_method_54_code 99 = .ok (.aload_n 0, 1) := by decide +kernel
theorem dc_RM_together_100 : decode prog_14_method_54_code 100 = .ok (.getfield 60, 3) := by decide +kernel
theorem dc_RM_together_103 : decode prog_14_method_54_code 103 = .ok (.iload 7, 2) := by decide +kernel
theorem dc_RM_together_105 : decode prog_14_method_54_code 105 = .ok (.iaload, 1) := by decide +kernel
theorem dc_RM_together_106 : decode prog_14_method_54_code 106 = .ok (.iaload, 1) := by decide +kernel
theorem dc_RM_together_107 : decode prog_14_method_54_code 107 = .ok (.iastore, 1) := by decide +kernel
theorem dc_RM_together_108 : decode prog_14_method_54_code 108 = .ok (.iinc 7 1, 3) := by decide +kernel
theorem dc_RM_together_111 : decode prog_14_method_54_code 111 = .ok (.goto (-29), 3) := by decide +kernel
theorem dc_RM_together_114 : decode prog_14_method_54_code 114 = .ok (.aload_n 0, 1) := by decide +kernel
theorem dc_RM_together_115 : decode prog_14_method_54_code 115 = .ok (.iload_n 1, 1) := by decide +kernel
theorem dc_RM_together_116 : decode prog_14_method_54_code 116 = .ok (.iload_n 3, 1) := by decide +kernel
theorem dc_RM_together_117 : decode prog_14_method_54_code 117 = .ok (.iload 4, 2) := by decide +kernel
theorem dc_RM_together_119 : decode prog_14_method_54_code 119 = .ok (.aload_n 0, 1) := by decide +kernel
theorem dc_RM_together_120 : decode prog_14_method_54_code 120 = .ok (.getfield 22, 3) := by decide +kernel
theorem dc_RM_together_123 : decode prog_14_method_54_code 123 = .ok (.invokevirtual 220, 3) := by decide +kernel
theorem dc_RM_together_126 : decode prog_14_method_54_code 126 = .ok (.ifCond .ne 6, 3) := by decide +kernel
theorem dc_RM_together_129 : decode prog_14_method_54_code 129 = .ok (.bipush (-3), 2) := by decide +kernel
theorem dc_RM_together_131 : decode prog_14_method_54_code 131 = .ok (.ireturn, 1) := by decide +kernel
theorem dc_RM_together_132 : decode prog_14_method_54_code 132 = .ok (.iconst 0, 1) := by decide +kernel
theorem dc_RM_together_133 : decode prog_14_method_54_code 133 = .ok (.istore 7, 2) := by decide +kernel
theorem dc_RM_together_135 : decode prog_14_method_54_code 135 = .ok (.iconst 1, 1) := by decide +kernel
theorem dc_RM_together_136 : decode prog_14_method_54_code 136 = .ok (.istore 8, 2) := by decide +kernel
theorem dc_RM_together_138 : decode prog_14_method_54_code 138 = .ok (.iload 8, 2) := by decide +kernel
theorem dc_RM_together_140 : decode prog_14_method_54_code 140 = .ok (.iload 4, 2) := by decide +kernel
theorem dc_RM_together_142 : decode prog_14_method_54_code 142 = .ok (.if_icmp .ge 42, 3) := by decide +kernel
theorem dc_RM_together_145 : decode prog_14_method_54_code 145 = .ok (.iload 7, 2) := by decide +kernel
theorem dc_RM_together_147 : decode prog_14_method_54_code 147 = .ok (.aload_n 0, 1) := by decide +kernel
theorem dc_RM_together_148 : decode prog_14_method_54_code 148 = .ok (.aload_n 0, 1) := by decide +kernel
theorem dc_RM_together_149 : decode prog_14_method_54_code 149 = .ok (.getfield 32, 3) := by decide +kernel
theorem dc_RM_together_152 : decode prog_14_method_54_code 152 = .ok (.aload_n 0, 1) := by decide +kernel
theorem dc_RM_together_153 : decode prog_14_method_54_code 153 = .ok (.getfield 60, 3) := by decide +kernel
theorem dc_RM_together_156 : decode prog_14_method_54_code 156 = .ok (.iload 8, 2) := by decide +kernel
theorem dc_RM_together_158 : decode prog_14_method_54_code 158 = .ok (.iaload, 1) := by decide +kernel
theorem dc_RM_together_159 : decode prog_14_method_54_code 159 = .ok (.iaload, 1) := by decide +kernel
theorem dc_RM_together_160 : decode prog_14_method_54_code 160 = .ok (.iload 4, 2) := by decide +kernel
theorem dc_RM_together_162 : decode prog_14_method_54_code 162 = .ok (.iload 5, 2) := by decide +kernel
theorem dc_RM_together_164 : decode prog_14_method_54_code 164 = .ok (.invokevirtual 272, 3) := by decide +kernel
theorem dc_RM_together_167 : decode prog_14_method_54_code 167 = .ok (.ifCond .eq 7, 3) := by decide +kernel
theorem dc_RM_together_170 : decode prog_14_method_54_code 170 = .ok (.iconst 1, 1) := by decide +kernel
theorem dc_RM_together_171 : decode prog_14_method_54_code 171 = .ok (.goto 4, 3) := by decide +kernel
theorem dc_RM_together_174 : decode prog_14_method_54_code 174 = .ok (.iconst 0, 1) := by decide +kernel
theorem dc_RM_together_175 : decode prog_14_method_54_code 175 = .ok (.iadd, 1) := by decide +kernel
theorem dc_RM_together_176 : decode prog_14_method_54_code 176 = .ok (.istore 7, 2) := by decide +kernel
theorem dc_RM_together_178 : decode prog_14_method_54_code 178 = .ok (.iinc 8 1, 3) := by decide +kernel
theorem dc_RM_together_181 : decode prog_14_method_54_code 181 = .ok (.goto (-43), 3) := by decide +kernel
theorem dc_RM_together_184 : decode prog_14_method_54_code 184 = .ok (.iload 6, 2) := by decide +kernel
theorem dc_RM_together_186 : decode prog_14_method_54_code 186 = .ok (.ifCond .ne 6, 3) := by decide +kernel
theorem dc_RM_together_189 : decode prog_14_method_54_code 189 = .ok (.iload 7, 2) := by decide +kernel
theorem dc_RM_together_191 : decode prog_14_method_54_code 191 = .ok (.ireturn, 1) := by decide +kernel
theorem dc_RM_together_192 : decode prog_14_method_54_code 192 = .ok (.iconst 0, 1) := by decide +kernel
theorem dc_RM_together_193 : decode prog_14_method_54_code 193 = .ok (.istore 8, 2) := by decide +kernel
theorem dc_RM_together_195 : decode prog_14_method_54_code 195 = .ok (.iconst 1, 1) := by decide +kernel
theorem dc_RM_together_196 : decode prog_14_method_54_code 196 = .ok (.istore 9, 2) := by decide +kernel
theorem dc_RM_together_198 : decode prog_14_method_54_code 198 = .ok (.iload 9, 2) := by decide +kernel
theorem dc_RM_together_200 : decode prog_14_method_54_code 200 = .ok (.bipush 40, 2) := by decide +kernel
theorem dc_RM_together_202 : decode prog_14_method_54_code 202 = .ok (.if_icmp .ge 32, 3) := by decide +kernel
theorem dc_RM_together_205 : decode prog_14_method_54_code 205 = .ok (.iload 8, 2) := by decide +kernel
theorem dc_RM_together_207 : decode prog_14_method_54_code 207 = .ok (.aload_n 0, 1) := by decide +kernel
theorem dc_RM_together_208 : decode prog_14_method_54_code 208 = .ok (.iload 9, 2) := by decide +kernel
theorem dc_RM_together_210 : decode prog_14_method_54_code 210 = .ok (.iload 4, 2) := by decide +kernel
theorem dc_RM_together_212 : decode prog_14_method_54_code 212 = .ok (.iload 5, 2) := by decide +kernel
theorem dc_RM_together_214 : decode prog_14_method_54_code 214 = .ok (.invokevirtual 272, 3) := by decide +kernel
theorem dc_RM_together_217 : decode prog_14_method_54_code 217 = .ok (.ifCond .eq 7, 3) := by decide +kernel
theorem dc_RM_together_220 : decode prog_14_method_54_code 220 = .ok (.iconst 1, 1) := by decide +kernel
theorem dc_RM_together_221 : decode prog_14_method_54_code 221 = .ok (.goto 4, 3) := by decide +kernel
theorem dc_RM_together_224 : decode prog_14_method_54_code 224 = .ok (.iconst 0, 1) := by decide +kernel
theorem dc_RM_together_225 : decode prog_14_method_54_code 225 = .ok (.iadd, 1) := by decide +kernel
theorem dc_RM_together_226 : decode prog_14_method_54_code 226 = .ok (.istore 8, 2) := by decide +kernel
theorem dc_RM_together_228 : decode prog_14_method_54_code 228 = .ok (.iinc 9 1, 3) := by decide +kernel
theorem dc_RM_together_231 : decode prog_14_method_54_code 231 = .ok (.goto (-33), 3) := by decide +kernel
theorem dc_RM_together_234 : decode prog_14_method_54_code 234 = .ok (.lconst 0, 1) := by decide +kernel
theorem dc_RM_together_235 : decode prog_14_method_54_code 235 = .ok (.lstore 9, 2) := by decide +kernel
theorem dc_RM_together_237 : decode prog_14_method_54_code 237 = .ok (.iload 7, 2) := by decide +kernel
theorem dc_RM_together_239 : decode prog_14_method_54_code 239 = .ok (.istore 11, 2) := by decide +kernel
theorem dc_RM_together_241 : decode prog_14_method_54_code 241 = .ok (.iload 11, 2) := by decide +kernel
theorem dc_RM_together_243 : decode prog_14_method_54_code 243 = .ok (.iload 4, 2) := by decide +kernel
theorem dc_RM_together_245 : decode prog_14_method_54_code 245 = .ok (.if_icmp .ge 37, 3) := by decide +kernel
theorem dc_RM_together_248 : decode prog_14_method_54_code 248 = .ok (.lload 9, 2) := by decide +kernel
theorem dc_RM_together_250 : decode prog_14_method_54_code 250 = .ok (.iload 8, 2) := by decide +kernel
theorem dc_RM_together_252 : decode prog_14_method_54_code 252 = .ok (.iload 11, 2) := by decide +kernel
theorem dc_RM_together_254 : decode prog_14_method_54_code 254 = .ok (.invokestatic 275, 3) := by decide +kernel
theorem dc_RM_together_257 : decode prog_14_method_54_code 257 = .ok (.bipush 39, 2) := by decide +kernel
theorem dc_RM_together_259 : decode prog_14_method_54_code 259 = .ok (.iload 8, 2) := by decide +kernel
theorem dc_RM_together_261 : decode prog_14_method_54_code 261 = .ok (.isub, 1) := by decide +kernel
theorem dc_RM_together_262 : decode prog_14_method_54_code 262 = .ok (.iload 4, 2) := by decide +kernel
theorem dc_RM_together_264 : decode prog_14_method_54_code 264 = .ok (.iconst 1, 1) := by decide +kernel
theorem dc_RM_together_265 : decode prog_14_method_54_code 265 = .ok (.isub, 1) := by decide +kernel
theorem dc_RM_together_266 : decode prog_14_method_54_code 266 = .ok (.iload 11, 2) := by decide +kernel
theorem dc_RM_together_268 : decode prog_14_method_54_code 268 = .ok (.isub, 1) := by decide +kernel
theorem dc_RM_together_269 : decode prog_14_method_54_code 269 = .ok (.invokestatic 275, 3) := by decide +kernel
theorem dc_RM_together_272 : decode prog_14_method_54_code 272 = .ok (.lmul, 1) := by decide +kernel
theorem dc_RM_together_273 : decode prog_14_method_54_code 273 = .ok (.ladd, 1) := by decide +kernel
theorem dc_RM_together_274 : decode prog_14_method_54_code 274 = .ok (.lstore 9, 2) := by decide +kernel
theorem dc_RM_together_276 : decode prog_14_method_54_code 276 = .ok (.iinc 11 1, 3) := by decide +kernel
theorem dc_RM_together_279 : decode prog_14_method_54_code 279 = .ok (.goto (-38), 3) := by decide +kernel
theorem dc_RM_together_282 : decode prog_14_method_54_code 282 = .ok (.ldc2_w 264, 3) := by decide +kernel
theorem dc_RM_together_285 : decode prog_14_method_54_code 285 = .ok (.lload 9, 2) := by decide +kernel
theorem dc_RM_together_287 : decode prog_14_method_54_code 287 = .ok (.lmul, 1) := by decide +kernel
theorem dc_RM_together_288 : decode prog_14_method_54_code 288 = .ok (.bipush 39, 2) := by decide +kernel
theorem dc_RM_together_290 : decode prog_14_method_54_code 290 = .ok (.iload 4, 2) := by decide +kernel
theorem dc_RM_together_292 : decode prog_14_method_54_code 292 = .ok (.iconst 1, 1) := by decide +kernel
theorem dc_RM_together_293 : decode prog_14_method_54_code 293 = .ok (.isub, 1) := by decide +kernel
theorem dc_RM_together_294 : decode prog_14_method_54_code 294 = .ok (.invokestatic 275, 3) := by decide +kernel
theorem dc_RM_together_297 : decode prog_14_method_54_code 297 = .ok (.ldiv, 1) := by decide +kernel
theorem dc_RM_together_298 : decode prog_14_method_54_code 298 = .ok (.l2i, 1) := by decide +kernel
theorem dc_RM_together_299 : decode prog_14_method_54_code 299 = .ok (.ireturn, 1) := by decide +kernel
theorem w_RM_together_0 {G : GC} {d : Nat} {P : PT} {I : MI} {J : MJ} {x1 : Int32} {x2 : Int32} {x3 : Int32} {x4 : Int32} {x5 : Int32} {x6 : Int32} (k1 : ((f_RM_isRow x1) = 0) → Go G (fr G m_RM_together (d + 5) P) 58 [none, none, none, none, none, none, none, none, none, none, none, none] [] I J) (k2 : (¬ ((f_RM_isRow x1) = 0)) → ((f_RM_isRow x2) = 0) → Go G (fr G m_RM_together (d + 5) P) 58 [none, none, none, none, none, none, none, none, none, none, none, none] [] I J) (k3 : (¬ ((f_RM_isRow x1) = 0)) → (¬ ((f_RM_isRow x2) = 0)) → (x1 = x2) → Go G (fr G m_RM_together (d + 5) P) 58 [none, none, none, none, none, none, none, none, none, none, none, none] [] I J) (k4 : (¬ ((f_RM_isRow x1) = 0)) → (¬ ((f_RM_isRow x2) = 0)) → (¬ (x1 = x2)) → ((f_RM_isKind x3) = 0) → Go G (fr G m_RM_together (d + 5) P) 58 [none, none, none, none, none, none, none, none, none, none, none, none] [] I J) (k5 : (¬ ((f_RM_isRow x1) = 0)) → (¬ ((f_RM_isRow x2) = 0)) → (¬ (x1 = x2)) → (¬ ((f_RM_isKind x3) = 0)) → ((f_RM_in x4 2 6) = 0) → Go G (fr G m_RM_together (d + 5) P) 58 [none, none, none, none, none, none, none, none, none, none, none, none] [] I J) (k6 : (¬ ((f_RM_isRow x1) = 0)) → (¬ ((f_RM_isRow x2) = 0)) → (¬ (x1 = x2)) → (¬ ((f_RM_isKind x3) = 0)) → (¬ ((f_RM_in x4 2 6) = 0)) → ((f_RM_in x5 0 9) = 0) → Go G (fr G m_RM_together (d + 5) P) 58 [none, none, none, none, none, none, none, none, none, none, none, none] [] I J) (k7 : (¬ ((f_RM_isRow x1) = 0)) → (¬ ((f_RM_isRow x2) = 0)) → (¬ (x1 = x2)) → (¬ ((f_RM_isKind x3) = 0)) → (¬ ((f_RM_in x4 2 6) = 0)) → (¬ ((f_RM_in x5 0 9) = 0)) → (¬ (f_RM_in x6 0 1) = 0) → Ct G (d + 4) m_RM_finds [.ref 67, .int x2, .int x3, .int x4, .int (I 67 5)] (fun r I' J' => Go G (fr G m_RM_together (d + 5) P) 73 [some (.ref 67), some (.int x1), none, some (.int x3), some (.int x4), some (.int x5), some (.int x6), none, none, none, none, none] (r.toList ++ []) I' J') I J) (k8 : (¬ ((f_RM_isRow x1) = 0)) → (¬ ((f_RM_isRow x2) = 0)) → (¬ (x1 = x2)) → (¬ ((f_RM_isKind x3) = 0)) → (¬ ((f_RM_in x4 2 6) = 0)) → (¬ ((f_RM_in x5 0 9) = 0)) → ((f_RM_in x6 0 1) = 0) → Go G (fr G m_RM_together (d + 5) P) 58 [none, none, none, none, none, none, none, none, none, none, none, none] [] I J) : Go G (fr G m_RM_together (d + 5) P) 0 [some (.ref 67), some (.int x1), some (.int x2), some (.int x3), some (.int x4), some (.int x5), some (.int x6), none, none, none, none, none] [] I J := by
  refine g_iload_n dc_RM_together_0 rfl rfl rfl ?_
  refine g_callS (M := m_RM_isRow) (As := [.int x1]) (rest := []) ok_RM_isRow st_RM_isRow ml_RM_119 rfl rfl (Nat.le_of_ble_eq_true rfl) dc_RM_together_1 rfl rOk_fr (c_RM_isRow ?_)
  show Go G (fr G m_RM_together (d + 5) P) 4 [some (.ref 67), some (.int x1), some (.int x2), some (.int x3), some (.int x4), some (.int x5), some (.int x6), none, none, none, none, none] [.int (f_RM_isRow x1)] I J
  refine g_if_eq (tgt := 58) dc_RM_together_4 rfl (by decide) (fun c1 => ?_) (fun c1 => ?_)
  · refine g_weak [none, none, none, none, none, none, none, none, none, none, none, none] trivial ?_
    exact (k1 c1)
  · refine g_iload_n dc_RM_together_7 rfl rfl rfl ?_
    refine g_callS (M := m_RM_isRow) (As := [.int x2]) (rest := []) ok_RM_isRow st_RM_isRow ml_RM_119 rfl rfl (Nat.le_of_ble_eq_true rfl) dc_RM_together_8 rfl rOk_fr (c_RM_isRow ?_)
    show Go G (fr G m_RM_together (d + 5) P) 11 [some (.ref 67), some (.int x1), some (.int x2), some (.int x3), some (.int x4), some (.int x5), some (.int x6), none, none, none, none, none] [.int (f_RM_isRow x2)] I J
    refine g_if_eq (tgt := 58) dc_RM_together_11 rfl (by decide) (fun c2 => ?_) (fun c2 => ?_)
    · refine g_weak [none, none, none, none, none, none, none, none, none, none, none, none] trivial ?_
      exact (k2 c1 c2)
    · refine g_iload_n dc_RM_together_14 rfl rfl rfl ?_
      refine g_iload_n dc_RM_together_15 rfl rfl rfl ?_
      refine g_ic_eq (tgt := 58) dc_RM_together_16 rfl (by decide) (fun c3 => ?_) (fun c3 => ?_)
      · refine g_weak [none, none, none, none, none, none, none, none, none, none, none, none] trivial ?_
        exact (k3 c1 c2 c3)
      · refine g_iload_n dc_RM_together_19 rfl rfl rfl ?_
        refine g_callS (M := m_RM_isKind) (As := [.int x3]) (rest := []) ok_RM_isKind st_RM_isKind ml_RM_186 rfl rfl (Nat.le_of_ble_eq_true rfl) dc_RM_together_20 rfl rOk_fr (c_RM_isKind ?_)
        show Go G (fr G m_RM_together (d + 5) P) 23 [some (.ref 67), some (.int x1), some (.int x2), some (.int x3), some (.int x4), some (.int x5), some (.int x6), none, none, none, none, none] [.int (f_RM_isKind x3)] I J
        refine g_if_eq (tgt := 58) dc_RM_together_23 rfl (by decide) (fun c4 => ?_) (fun c4 => ?_)
        · refine g_weak [none, none, none, none, none, none, none, none, none, none, none, none] trivial ?_
          exact (k4 c1 c2 c3 c4)
        · refine g_iload dc_RM_together_26 rfl rfl ?_
          refine g_iconst (v := 2) dc_RM_together_28 rfl (by decide) ?_
          refine g_bipush (v := 6) dc_RM_together_29 rfl (by decide) ?_
          refine g_callS (M := m_RM_in) (As := [.int x4, .int 2, .int 6]) (rest := []) ok_RM_in st_RM_in ml_RM_112 rfl rfl (Nat.le_of_ble_eq_true rfl) dc_RM_together_31 rfl rOk_fr (c_RM_in ?_)
          show Go G (fr G m_RM_together (d + 5) P) 34 [some (.ref 67), some (.int x1), some (.int x2), some (.int x3), some (.int x4), some (.int x5), some (.int x6), none, none, none, none, none] [.int (f_RM_in x4 2 6)] I J
          refine g_if_eq (tgt := 58) dc_RM_together_34 rfl (by decide) (fun c5 => ?_) (fun c5 => ?_)
          · refine g_weak [none, none, none, none, none, none, none, none, none, none, none, none] trivial ?_
            exact (k5 c1 c2 c3 c4 c5)
          · refine g_iload dc_RM_together_37 rfl rfl ?_
            refine g_iconst (v := 0) dc_RM_together_39 rfl (by decide) ?_
            refine g_bipush (v := 9) dc_RM_together_40 rfl (by decide) ?_
            refine g_callS (M := m_RM_in) (As := [.int x5, .int 0, .int 9]) (rest := []) ok_RM_in st_RM_in ml_RM_112 rfl rfl (Nat.le_of_ble_eq_true rfl) dc_RM_together_42 rfl rOk_fr (c_RM_in ?_)
            show Go G (fr G m_RM_together (d + 5) P) 45 [some (.ref 67), some (.int x1), some (.int x2), some (.int x3), some (.int x4), some (.int x5), some (.int x6), none, none, none, none, none] [.int (f_RM_in x5 0 9)] I J
            refine g_if_eq (tgt := 58) dc_RM_together_45 rfl (by decide) (fun c6 => ?_) (fun c6 => ?_)
            · refine g_weak [none, none, none, none, none, none, none, none, none, none, none, none] trivial ?_
              exact (k6 c1 c2 c3 c4 c5 c6)
            · refine g_iload dc_RM_together_48 rfl rfl ?_
              refine g_iconst (v := 0) dc_RM_together_50 rfl (by decide) ?_
              refine g_iconst (v := 1) dc_RM_together_51 rfl (by decide) ?_
              refine g_callS (M := m_RM_in) (As := [.int x6, .int 0, .int 1]) (rest := []) ok_RM_in st_RM_in ml_RM_112 rfl rfl (Nat.le_of_ble_eq_true rfl) dc_RM_together_52 rfl rOk_fr (c_RM_in ?_)
              show Go G (fr G m_RM_together (d + 5) P) 55 [some (.ref 67), some (.int x1), some (.int x2), some (.int x3), some (.int x4), some (.int x5), some (.int x6), none, none, none, none, none] [.int (f_RM_in x6 0 1)] I J
              refine g_if_ne (tgt := 61) dc_RM_together_55 rfl (by decide) (fun c7 => ?_) (fun c7 => ?_)
              · refine g_aload_n dc_RM_together_61 rfl rfl rfl ?_
                refine g_iload_n dc_RM_together_62 rfl rfl rfl ?_
                refine g_iload_n dc_RM_together_63 rfl rfl rfl ?_
                refine g_iload dc_RM_together_64 rfl rfl ?_
                refine g_aload_n dc_RM_together_66 rfl rfl rfl ?_
                refine g_get (C := "LevelBreaksModel") (T := T_RM) (N := 45) (k := 5) (v := .int (I 67 5)) sh_67 (by decide) rfl rfl i_RM (by decide) fl_RM_22 (Or.inl rfl) rfl dc_RM_together_67 rfl ?_
                refine g_weak [some (.ref 67), some (.int x1), none, some (.int x3), some (.int x4), some (.int x5), some (.int x6), none, none, none, none, none] ⟨rfl, ⟨rfl, ⟨rfl, ⟨rfl, ⟨rfl, ⟨rfl, trivial⟩⟩⟩⟩⟩⟩ ?_
                exact g_callV (T := T_RM) (N := 45) (As := [.int x2, .int x3, .int x4, .int (I 67 5)]) (rest := []) ok_RM_finds in_RM_finds se_RM_finds ml_RM_220 sh_67 (by decide) rfl rfl rfl (Nat.le_of_ble_eq_true rfl) dc_RM_together_70 rfl rOk_fr (k7 c1 c2 c3 c4 c5 c6 c7)
              · refine g_weak [none, none, none, none, none, none, none, none, none, none, none, none] trivial ?_
                exact (k8 c1 c2 c3 c4 c5 c6 c7)
theorem w_RM_together_58 {G : GC} {d : Nat} {P : PT} {I : MI} {J : MJ}  (q1 : P (some (.int (-2))) I J) : Go G (fr G m_RM_together (d + 5) P) 58 [none, none, none, none, none, none, none, none, none, none, none, none] [] I J := by
  refine g_bipush (v := (-2)) dc_RM_together_58 rfl (by decide) ?_
  exact g_iret rfl dc_RM_together_60 q1
theorem w_RM_together_73 {G : GC} {d : Nat} {P : PT} {I : MI} {J : MJ} {x1 : Int32} {x3 : Int32} {x4 : Int32} {x5 : Int32} {x6 : Int32} {y0 : Int32} (k1 : (¬ y0 = 0) → Go G (fr G m_RM_together (d + 5) P) 82 [some (.ref 67), some (.int x1), none, some (.int x3), some (.int x4), some (.int x5), some (.int x6), some (.int 0), none, none, none, none] [] I J) (q2 : (y0 = 0) → P (some (.int (-3))) I J) : Go G (fr G m_RM_together (d + 5) P) 73 [some (.ref 67), some (.int x1), none, some (.int x3), some (.int x4), some (.int x5), some (.int x6), none, none, none, none, none] [.int y0] I J := by
  refine g_if_ne (tgt := 79) dc_RM_together_73 rfl (by decide) (fun c1 => ?_) (fun c1 => ?_)
  · refine g_iconst (v := 0) dc_RM_together_79 rfl (by decide) ?_
    refine g_istore (L' := [some (.ref 67), some (.int x1), none, some (.int x3), some (.int x4), some (.int x5), some (.int x6), some (.int 0), none, none, none, none]) dc_RM_together_80 rfl (Nat.le_of_ble_eq_true rfl) rfl ?_
    exact (k1 c1)
  · refine g_bipush (v := (-3)) dc_RM_together_76 rfl (by decide) ?_
    exact g_iret rfl dc_RM_together_78 (q2 c1)
theorem w_RM_together_82 {G : GC} {d : Nat} {P : PT} {I : MI} {J : MJ} {x1 : Int32} {x3 : Int32} {x4 : Int32} {x5 : Int32} {x6 : Int32} {x7 : Int32} (k1 : (x4 ≤ x7) → Ct G (d + 4) m_RM_finds [.ref 67, .int x1, .int x3, .int x4, .int (I 67 5)] (fun r I' J' => Go G (fr G m_RM_together (d + 5) P) 126 [some (.ref 67), none, none, none, some (.int x4), some (.int x5), some (.int x6), none, none, none, none, none] (r.toList ++ []) I' J') I J) (b2 : (¬ (x4 ≤ x7)) → vp_in x7 7) (b3 : (¬ (x4 ≤ x7)) → vp_in (I 83 x7.toNatClampNeg) 40) (b4 : (¬ (x4 ≤ x7)) → vp_in x7 6) (k5 : (¬ (x4 ≤ x7)) → Go G (fr G m_RM_together (d + 5) P) 82 [some (.ref 67), some (.int x1), none, some (.int x3), some (.int x4), some (.int x5), some (.int x6), some (.int (x7 + 1)), none, none, none, none] [] (u2 I 89 x7.toNatClampNeg (I 74 (I 83 x7.toNatClampNeg).toNatClampNeg)) J) : Go G (fr G m_RM_together (d + 5) P) 82 [some (.ref 67), some (.int x1), none, some (.int x3), some (.int x4), some (.int x5), some (.int x6), some (.int x7), none, none, none, none] [] I J := by
  refine g_iload dc_RM_together_82 rfl rfl ?_
  refine g_iload dc_RM_together_84 rfl rfl ?_
  refine g_ic_ge (tgt := 114) dc_RM_together_86 rfl (by decide) (fun c1 => ?_) (fun c1 => ?_)
  · refine g_aload_n dc_RM_together_114 rfl rfl rfl ?_
    refine g_iload_n dc_RM_together_115 rfl rfl rfl ?_
    refine g_iload_n dc_RM_together_116 rfl rfl rfl ?_
    refine g_iload dc_RM_together_117 rfl rfl ?_
    refine g_aload_n dc_RM_together_119 rfl rfl rfl ?_
    refine g_get (C := "LevelBreaksModel") (T := T_RM) (N := 45) (k := 5) (v := .int (I 67 5)) sh_67 (by decide) rfl rfl i_RM (by decide) fl_RM_22 (Or.inl rfl) rfl dc_RM_together_120 rfl ?_
    refine g_weak [some (.ref 67), none, none, none, some (.int x4), some (.int x5), some (.int x6), none, none, none, none, none] ⟨rfl, ⟨rfl, ⟨rfl, ⟨rfl, trivial⟩⟩⟩⟩ ?_
    exact g_callV (T := T_RM) (N := 45) (As := [.int x1, .int x3, .int x4, .int (I 67 5)]) (rest := []) ok_RM_finds in_RM_finds se_RM_finds ml_RM_220 sh_67 (by decide) rfl rfl rfl (Nat.le_of_ble_eq_true rfl) dc_RM_together_123 rfl rOk_fr (k1 c1)
  · refine g_aload_n dc_RM_together_89 rfl rfl rfl ?_
    refine g_get (C := "LevelBreaksModel") (T := T_RM) (N := 45) (k := 28) (v := .ref 89) sh_67 (by decide) rfl rfl i_RM (by decide) fl_RM_78 (Or.inl rfl) rfl dc_RM_together_90 rfl ?_
    refine g_iload dc_RM_together_93 rfl rfl ?_
    refine g_aload_n dc_RM_together_95 rfl rfl rfl ?_
    refine g_get (C := "LevelBreaksModel") (T := T_RM) (N := 45) (k := 9) (v := .ref 74) sh_67 (by decide) rfl rfl i_RM (by decide) fl_RM_32 (Or.inl rfl) rfl dc_RM_together_96 rfl ?_
    refine g_aload_n dc_RM_together_99 rfl rfl rfl ?_
    refine g_get (C := "LevelBreaksModel") (T := T_RM) (N := 45) (k := 21) (v := .ref 83) sh_67 (by decide) rfl rfl i_RM (by decide) fl_RM_60 (Or.inl rfl) rfl dc_RM_together_100 rfl ?_
    refine g_iload dc_RM_together_103 rfl rfl ?_
    refine g_ialdv (v := (I 83 x7.toNatClampNeg)) sh_83 (b2 c1) rfl dc_RM_together_105 rfl ?_
    refine g_ialdv (v := (I 74 (I 83 x7.toNatClampNeg).toNatClampNeg)) sh_74 (b3 c1) rfl dc_RM_together_106 rfl ?_
    refine g_iast sh_89 (b4 c1) dc_RM_together_107 rfl ?_
    refine g_iinc (v := (x7 + 1)) (L' := [some (.ref 67), some (.int x1), none, some (.int x3), some (.int x4), some (.int x5), some (.int x6), some (.int (x7 + 1)), none, none, none, none]) dc_RM_together_108 rfl rfl (by rw [show Int32.ofInt 1 = 1 from by decide]) (Nat.le_of_ble_eq_true rfl) rfl ?_
    refine g_goto (tgt := 82) dc_RM_together_111 (by decide) ?_
    exact (k5 c1)
theorem w_RM_together_126 {G : GC} {d : Nat} {P : PT} {I : MI} {J : MJ} {x4 : Int32} {x5 : Int32} {x6 : Int32} {y0 : Int32} (k1 : (¬ y0 = 0) → Go G (fr G m_RM_together (d + 5) P) 138 [some (.ref 67), none, none, none, some (.int x4), some (.int x5), some (.int x6), some (.int 0), some (.int 1), none, none, none] [] I J) (q2 : (y0 = 0) → P (some (.int (-3))) I J) : Go G (fr G m_RM_together (d + 5) P) 126 [some (.ref 67), none, none, none, some (.int x4), some (.int x5), some (.int x6), none, none, none, none, none] [.int y0] I J := by
  refine g_if_ne (tgt := 132) dc_RM_together_126 rfl (by decide) (fun c1 => ?_) (fun c1 => ?_)
  · refine g_iconst (v := 0) dc_RM_together_132 rfl (by decide) ?_
    refine g_istore (L' := [some (.ref 67), none, none, none, some (.int x4), some (.int x5), some (.int x6), some (.int 0), none, none, none, none]) dc_RM_together_133 rfl (Nat.le_of_ble_eq_true rfl) rfl ?_
    refine g_iconst (v := 1) dc_RM_together_135 rfl (by decide) ?_
    refine g_istore (L' := [some (.ref 67), none, none, none, some (.int x4), some (.int x5), some (.int x6), some (.int 0), some (.int 1), none, none, none]) dc_RM_together_136 rfl (Nat.le_of_ble_eq_true rfl) rfl ?_
    exact (k1 c1)
  · refine g_bipush (v := (-3)) dc_RM_together_129 rfl (by decide) ?_
    exact g_iret rfl dc_RM_together_131 (q2 c1)
theorem w_RM_together_138 {G : GC} {d : Nat} {P : PT} {I : MI} {J : MJ} {x4 : Int32} {x5 : Int32} {x6 : Int32} {x7 : Int32} {x8 : Int32} (k1 : (x4 ≤ x8) → (¬ x6 = 0) → Go G (fr G m_RM_together (d + 5) P) 198 [some (.ref 67), none, none, none, some (.int x4), some (.int x5), none, some (.int x7), some (.int 0), some (.int 1), none, none] [] I J) (q2 : (x4 ≤ x8) → (x6 = 0) → P (some (.int x7)) I J) (b3 : (¬ (x4 ≤ x8)) → vp_in x8 7) (b4 : (¬ (x4 ≤ x8)) → vp_in (I 83 x8.toNatClampNeg) 40) (k5 : (¬ (x4 ≤ x8)) → Ct G (d + 4) m_RM_isNearDay [.ref 67, .int (I 74 (I 83 x8.toNatClampNeg).toNatClampNeg), .int x4, .int x5] (fun r I' J' => Go G (fr G m_RM_together (d + 5) P) 167 [some (.ref 67), none, none, none, some (.int x4), some (.int x5), some (.int x6), none, some (.int x8), none, none, none] (r.toList ++ [.int x7]) I' J') I J) : Go G (fr G m_RM_together (d + 5) P) 138 [some (.ref 67), none, none, none, some (.int x4), some (.int x5), some (.int x6), some (.int x7), some (.int x8), none, none, none] [] I J := by
  refine g_iload dc_RM_together_138 rfl rfl ?_
  refine g_iload dc_RM_together_140 rfl rfl ?_
  refine g_ic_ge (tgt := 184) dc_RM_together_142 rfl (by decide) (fun c1 => ?_) (fun c1 => ?_)
  · refine g_iload dc_RM_together_184 rfl rfl ?_
    refine g_if_ne (tgt := 192) dc_RM_together_186 rfl (by decide) (fun c2 => ?_) (fun c2 => ?_)
    · refine g_iconst (v := 0) dc_RM_together_192 rfl (by decide) ?_
      refine g_istore (L' := [some (.ref 67), none, none, none, some (.int x4), some (.int x5), some (.int x6), some (.int x7), some (.int 0), none, none, none]) dc_RM_together_193 rfl (Nat.le_of_ble_eq_true rfl) rfl ?_
      refine g_iconst (v := 1) dc_RM_together_195 rfl (by decide) ?_
      refine g_istore (L' := [some (.ref 67), none, none, none, some (.int x4), some (.int x5), some (.int x6), some (.int x7), some (.int 0), some (.int 1), none, none]) dc_RM_together_196 rfl (Nat.le_of_ble_eq_true rfl) rfl ?_
      refine g_weak [some (.ref 67), none, none, none, some (.int x4), some (.int x5), none, some (.int x7), some (.int 0), some (.int 1), none, none] ⟨rfl, ⟨rfl, ⟨rfl, ⟨rfl, ⟨rfl, ⟨rfl, trivial⟩⟩⟩⟩⟩⟩ ?_
      exact (k1 c1 c2)
    · refine g_iload dc_RM_together_189 rfl rfl ?_
      exact g_iret rfl dc_RM_together_191 (q2 c1 c2)
  · refine g_iload dc_RM_together_145 rfl rfl ?_
    refine g_aload_n dc_RM_together_147 rfl rfl rfl ?_
    refine g_aload_n dc_RM_together_148 rfl rfl rfl ?_
    refine g_get (C := "LevelBreaksModel") (T := T_RM) (N := 45) (k := 9) (v := .ref 74) sh_67 (by decide) rfl rfl i_RM (by decide) fl_RM_32 (Or.inl rfl) rfl dc_RM_together_149 rfl ?_
    refine g_aload_n dc_RM_together_152 rfl rfl rfl ?_
    refine g_get (C := "LevelBreaksModel") (T := T_RM) (N := 45) (k := 21) (v := .ref 83) sh_67 (by decide) rfl rfl i_RM (by decide) fl_RM_60 (Or.inl rfl) rfl dc_RM_together_153 rfl ?_
    refine g_iload dc_RM_together_156 rfl rfl ?_
    refine g_ialdv (v := (I 83 x8.toNatClampNeg)) sh_83 (b3 c1) rfl dc_RM_together_158 rfl ?_
    refine g_ialdv (v := (I 74 (I 83 x8.toNatClampNeg).toNatClampNeg)) sh_74 (b4 c1) rfl dc_RM_together_159 rfl ?_
    refine g_iload dc_RM_together_160 rfl rfl ?_
    refine g_iload dc_RM_together_162 rfl rfl ?_
    refine g_weak [some (.ref 67), none, none, none, some (.int x4), some (.int x5), some (.int x6), none, some (.int x8), none, none, none] ⟨rfl, ⟨rfl, ⟨rfl, ⟨rfl, ⟨rfl, trivial⟩⟩⟩⟩⟩ ?_
    exact g_callV (T := T_RM) (N := 45) (As := [.int (I 74 (I 83 x8.toNatClampNeg).toNatClampNeg), .int x4, .int x5]) (rest := [.int x7]) ok_RM_isNearDay in_RM_isNearDay se_RM_isNearDay ml_RM_272 sh_67 (by decide) rfl rfl rfl (Nat.le_of_ble_eq_true rfl) dc_RM_together_164 rfl rOk_fr (k5 c1)
theorem w_RM_together_167 {G : GC} {d : Nat} {P : PT} {I : MI} {J : MJ} {x4 : Int32} {x5 : Int32} {x6 : Int32} {x8 : Int32} {y0 : Int32} {y1 : Int32} (k1 : (y1 = 0) → Go G (fr G m_RM_together (d + 5) P) 175 [some (.ref 67), none, none, none, some (.int x4), some (.int x5), some (.int x6), none, some (.int x8), none, none, none] [.int 0, .int y0] I J) (k2 : (¬ (y1 = 0)) → Go G (fr G m_RM_together (d + 5) P) 175 [some (.ref 67), none, none, none, some (.int x4), some (.int x5), some (.int x6), none, some (.int x8), none, none, none] [.int 1, .int y0] I J) : Go G (fr G m_RM_together (d + 5) P) 167 [some (.ref 67), none, none, none, some (.int x4), some (.int x5), some (.int x6), none, some (.int x8), none, none, none] [.int y1, .int y0] I J := by
  refine g_if_eq (tgt := 174) dc_RM_together_167 rfl (by decide) (fun c1 => ?_) (fun c1 => ?_)
  · refine g_iconst (v := 0) dc_RM_together_174 rfl (by decide) ?_
    exact (k1 c1)
  · refine g_iconst (v := 1) dc_RM_together_170 rfl (by decide) ?_
    refine g_goto (tgt := 175) dc_RM_together_171 (by decide) ?_
    exact (k2 c1)
theorem w_RM_together_175 {G : GC} {d : Nat} {P : PT} {I : MI} {J : MJ} {x4 : Int32} {x5 : Int32} {x6 : Int32} {x8 : Int32} {y0 : Int32} {y1 : Int32} (k1 : Go G (fr G m_RM_together (d + 5) P) 138 [some (.ref 67), none, none, none, some (.int x4), some (.int x5), some (.int x6), some (.int (y0 + y1)), some (.int (x8 + 1)), none, none, none] [] I J) : Go G (fr G m_RM_together (d + 5) P) 175 [some (.ref 67), none, none, none, some (.int x4), some (.int x5), some (.int x6), none, some (.int x8), none, none, none] [.int y1, .int y0] I J := by
  refine g_iadd dc_RM_together_175 rfl ?_
  refine g_istore (L' := [some (.ref 67), none, none, none, some (.int x4), some (.int x5), some (.int x6), some (.int (y0 + y1)), some (.int x8), none, none, none]) dc_RM_together_176 rfl (Nat.le_of_ble_eq_true rfl) rfl ?_
  refine g_iinc (v := (x8 + 1)) (L' := [some (.ref 67), none, none, none, some (.int x4), some (.int x5), some (.int x6), some (.int (y0 + y1)), some (.int (x8 + 1)), none, none, none]) dc_RM_together_178 rfl rfl (by rw [show Int32.ofInt 1 = 1 from by decide]) (Nat.le_of_ble_eq_true rfl) rfl ?_
  refine g_goto (tgt := 138) dc_RM_together_181 (by decide) ?_
  exact k1
theorem w_RM_together_198 {G : GC} {d : Nat} {P : PT} {I : MI} {J : MJ} {x4 : Int32} {x5 : Int32} {x7 : Int32} {x8 : Int32} {x9 : Int32} (k1 : (40 ≤ x9) → Go G (fr G m_RM_together (d + 5) P) 241 [none, none, none, none, some (.int x4), none, none, none, some (.int x8), some (.long 0), none, some (.int x7)] [] I J) (k2 : (¬ (40 ≤ x9)) → Ct G (d + 4) m_RM_isNearDay [.ref 67, .int x9, .int x4, .int x5] (fun r I' J' => Go G (fr G m_RM_together (d + 5) P) 217 [some (.ref 67), none, none, none, some (.int x4), some (.int x5), none, some (.int x7), none, some (.int x9), none, none] (r.toList ++ [.int x8]) I' J') I J) : Go G (fr G m_RM_together (d + 5) P) 198 [some (.ref 67), none, none, none, some (.int x4), some (.int x5), none, some (.int x7), some (.int x8), some (.int x9), none, none] [] I J := by
  refine g_iload dc_RM_together_198 rfl rfl ?_
  refine g_bipush (v := 40) dc_RM_together_200 rfl (by decide) ?_
  refine g_ic_ge (tgt := 234) dc_RM_together_202 rfl (by decide) (fun c1 => ?_) (fun c1 => ?_)
  · refine g_lconst (v := 0) dc_RM_together_234 rfl (by decide) ?_
    refine g_lstore (L' := [some (.ref 67), none, none, none, some (.int x4), some (.int x5), none, some (.int x7), some (.int x8), some (.long 0), none, none]) dc_RM_together_235 rfl (Nat.le_of_ble_eq_true rfl) rfl ?_
    refine g_iload dc_RM_together_237 rfl rfl ?_
    refine g_istore (L' := [some (.ref 67), none, none, none, some (.int x4), some (.int x5), none, some (.int x7), some (.int x8), some (.long 0), none, some (.int x7)]) dc_RM_together_239 rfl (Nat.le_of_ble_eq_true rfl) rfl ?_
    refine g_weak [none, none, none, none, some (.int x4), none, none, none, some (.int x8), some (.long 0), none, some (.int x7)] ⟨rfl, ⟨rfl, ⟨rfl, ⟨rfl, trivial⟩⟩⟩⟩ ?_
    exact (k1 c1)
  · refine g_iload dc_RM_together_205 rfl rfl ?_
    refine g_aload_n dc_RM_together_207 rfl rfl rfl ?_
    refine g_iload dc_RM_together_208 rfl rfl ?_
    refine g_iload dc_RM_together_210 rfl rfl ?_
    refine g_iload dc_RM_together_212 rfl rfl ?_
    refine g_weak [some (.ref 67), none, none, none, some (.int x4), some (.int x5), none, some (.int x7), none, some (.int x9), none, none] ⟨rfl, ⟨rfl, ⟨rfl, ⟨rfl, ⟨rfl, trivial⟩⟩⟩⟩⟩ ?_
    exact g_callV (T := T_RM) (N := 45) (As := [.int x9, .int x4, .int x5]) (rest := [.int x8]) ok_RM_isNearDay in_RM_isNearDay se_RM_isNearDay ml_RM_272 sh_67 (by decide) rfl rfl rfl (Nat.le_of_ble_eq_true rfl) dc_RM_together_214 rfl rOk_fr (k2 c1)
theorem w_RM_together_217 {G : GC} {d : Nat} {P : PT} {I : MI} {J : MJ} {x4 : Int32} {x5 : Int32} {x7 : Int32} {x9 : Int32} {y0 : Int32} {y1 : Int32} (k1 : (y1 = 0) → Go G (fr G m_RM_together (d + 5) P) 225 [some (.ref 67), none, none, none, some (.int x4), some (.int x5), none, some (.int x7), none, some (.int x9), none, none] [.int 0, .int y0] I J) (k2 : (¬ (y1 = 0)) → Go G (fr G m_RM_together (d + 5) P) 225 [some (.ref 67), none, none, none, some (.int x4), some (.int x5), none, some (.int x7), none, some (.int x9), none, none] [.int 1, .int y0] I J) : Go G (fr G m_RM_together (d + 5) P) 217 [some (.ref 67), none, none, none, some (.int x4), some (.int x5), none, some (.int x7), none, some (.int x9), none, none] [.int y1, .int y0] I J := by
  refine g_if_eq (tgt := 224) dc_RM_together_217 rfl (by decide) (fun c1 => ?_) (fun c1 => ?_)
  · refine g_iconst (v := 0) dc_RM_together_224 rfl (by decide) ?_
    exact (k1 c1)
  · refine g_iconst (v := 1) dc_RM_together_220 rfl (by decide) ?_
    refine g_goto (tgt := 225) dc_RM_together_221 (by decide) ?_
    exact (k2 c1)
theorem w_RM_together_225 {G : GC} {d : Nat} {P : PT} {I : MI} {J : MJ} {x4 : Int32} {x5 : Int32} {x7 : Int32} {x9 : Int32} {y0 : Int32} {y1 : Int32} (k1 : Go G (fr G m_RM_together (d + 5) P) 198 [some (.ref 67), none, none, none, some (.int x4), some (.int x5), none, some (.int x7), some (.int (y0 + y1)), some (.int (x9 + 1)), none, none] [] I J) : Go G (fr G m_RM_together (d + 5) P) 225 [some (.ref 67), none, none, none, some (.int x4), some (.int x5), none, some (.int x7), none, some (.int x9), none, none] [.int y1, .int y0] I J := by
  refine g_iadd dc_RM_together_225 rfl ?_
  refine g_istore (L' := [some (.ref 67), none, none, none, some (.int x4), some (.int x5), none, some (.int x7), some (.int (y0 + y1)), some (.int x9), none, none]) dc_RM_together_226 rfl (Nat.le_of_ble_eq_true rfl) rfl ?_
  refine g_iinc (v := (x9 + 1)) (L' := [some (.ref 67), none, none, none, some (.int x4), some (.int x5), none, some (.int x7), some (.int (y0 + y1)), some (.int (x9 + 1)), none, none]) dc_RM_together_228 rfl rfl (by rw [show Int32.ofInt 1 = 1 from by decide]) (Nat.le_of_ble_eq_true rfl) rfl ?_
  refine g_goto (tgt := 198) dc_RM_together_231 (by decide) ?_
  exact k1
theorem w_RM_together_241 {G : GC} {d : Nat} {P : PT} {I : MI} {J : MJ} {x4 : Int32} {x8 : Int32} {l9 : Int64} {x11 : Int32} (k1 : (x4 ≤ x11) → Ct G (d + 4) m_RM_choose [.int 39, .int (x4 - 1)] (fun r I' J' => Go G (fr G m_RM_together (d + 5) P) 297 [none, none, none, none, none, none, none, none, none, none, none, none] (r.toList ++ [.long (1000000 * l9)]) I' J') I J) (k2 : (¬ (x4 ≤ x11)) → Ct G (d + 4) m_RM_choose [.int x8, .int x11] (fun r I' J' => Go G (fr G m_RM_together (d + 5) P) 257 [none, none, none, none, some (.int x4), none, none, none, some (.int x8), none, none, some (.int x11)] (r.toList ++ [.long l9]) I' J') I J) : Go G (fr G m_RM_together (d + 5) P) 241 [none, none, none, none, some (.int x4), none, none, none, some (.int x8), some (.long l9), none, some (.int x11)] [] I J := by
  refine g_iload dc_RM_together_241 rfl rfl ?_
  refine g_iload dc_RM_together_243 rfl rfl ?_
  refine g_ic_ge (tgt := 282) dc_RM_together_245 rfl (by decide) (fun c1 => ?_) (fun c1 => ?_)
  · refine g_ldc2 (v := 1000000) kl_RM_264 dc_RM_together_282 rfl ?_
    refine g_lload dc_RM_together_285 rfl rfl ?_
    refine g_lmul dc_RM_together_287 rfl ?_
    refine g_bipush (v := 39) dc_RM_together_288 rfl (by decide) ?_
    refine g_iload dc_RM_together_290 rfl rfl ?_
    refine g_iconst (v := 1) dc_RM_together_292 rfl (by decide) ?_
    refine g_isub dc_RM_together_293 rfl ?_
    refine g_weak [none, none, none, none, none, none, none, none, none, none, none, none] trivial ?_
    exact g_callS (As := [.int 39, .int (x4 - 1)]) (rest := [.long (1000000 * l9)]) ok_RM_choose st_RM_choose ml_RM_275 rfl rfl (Nat.le_of_ble_eq_true rfl) dc_RM_together_294 rfl rOk_fr (k1 c1)
  · refine g_lload dc_RM_together_248 rfl rfl ?_
    refine g_iload dc_RM_together_250 rfl rfl ?_
    refine g_iload dc_RM_together_252 rfl rfl ?_
    refine g_weak [none, none, none, none, some (.int x4), none, none, none, some (.int x8), none, none, some (.int x11)] ⟨rfl, ⟨rfl, ⟨rfl, trivial⟩⟩⟩ ?_
    exact g_callS (As := [.int x8, .int x11]) (rest := [.long l9]) ok_RM_choose st_RM_choose ml_RM_275 rfl rfl (Nat.le_of_ble_eq_true rfl) dc_RM_together_254 rfl rOk_fr (k2 c1)
theorem w_RM_together_257 {G : GC} {d : Nat} {P : PT} {I : MI} {J : MJ} {x4 : Int32} {x8 : Int32} {x11 : Int32} {s0 : Int64} {s1 : Int64} (k1 : Ct G (d + 4) m_RM_choose [.int (39 - x8), .int ((x4 - 1) - x11)] (fun r I' J' => Go G (fr G m_RM_together (d + 5) P) 272 [none, none, none, none, some (.int x4), none, none, none, some (.int x8), none, none, some (.int x11)] (r.toList ++ [.long s1, .long s0]) I' J') I J) : Go G (fr G m_RM_together (d + 5) P) 257 [none, none, none, none, some (.int x4), none, none, none, some (.int x8), none, none, some (.int x11)] [.long s1, .long s0] I J := by
  refine g_bipush (v := 39) dc_RM_together_257 rfl (by decide) ?_
  refine g_iload dc_RM_together_259 rfl rfl ?_
  refine g_isub dc_RM_together_261 rfl ?_
  refine g_iload dc_RM_together_262 rfl rfl ?_
  refine g_iconst (v := 1) dc_RM_together_264 rfl (by decide) ?_
  refine g_isub dc_RM_together_265 rfl ?_
  refine g_iload dc_RM_together_266 rfl rfl ?_
  refine g_isub dc_RM_together_268 rfl ?_
  exact g_callS (As := [.int (39 - x8), .int ((x4 - 1) - x11)]) (rest := [.long s1, .long s0]) ok_RM_choose st_RM_choose ml_RM_275 rfl rfl (Nat.le_of_ble_eq_true rfl) dc_RM_together_269 rfl rOk_fr k1
theorem w_RM_together_272 {G : GC} {d : Nat} {P : PT} {I : MI} {J : MJ} {x4 : Int32} {x8 : Int32} {x11 : Int32} {s0 : Int64} {s1 : Int64} {s2 : Int64} (k1 : Go G (fr G m_RM_together (d + 5) P) 241 [none, none, none, none, some (.int x4), none, none, none, some (.int x8), some (.long (s0 + (s1 * s2))), none, some (.int (x11 + 1))] [] I J) : Go G (fr G m_RM_together (d + 5) P) 272 [none, none, none, none, some (.int x4), none, none, none, some (.int x8), none, none, some (.int x11)] [.long s2, .long s1, .long s0] I J := by
  refine g_lmul dc_RM_together_272 rfl ?_
  refine g_ladd dc_RM_together_273 rfl ?_
  refine g_lstore (L' := [none, none, none, none, some (.int x4), none, none, none, some (.int x8), some (.long (s0 + (s1 * s2))), none, some (.int x11)]) dc_RM_together_274 rfl (Nat.le_of_ble_eq_true rfl) rfl ?_
  refine g_iinc (v := (x11 + 1)) (L' := [none, none, none, none, some (.int x4), none, none, none, some (.int x8), some (.long (s0 + (s1 * s2))), none, some (.int (x11 + 1))]) dc_RM_together_276 rfl rfl (by rw [show Int32.ofInt 1 = 1 from by decide]) (Nat.le_of_ble_eq_true rfl) rfl ?_
  refine g_goto (tgt := 241) dc_RM_together_279 (by decide) ?_
  exact k1
theorem w_RM_together_297 {G : GC} {d : Nat} {P : PT} {I : MI} {J : MJ} {s0 : Int64} {s1 : Int64} (z1 : ¬ s1 = 0) (q2 : P (some (.int (Int64.toInt32 (s0 / s1)))) I J) : Go G (fr G m_RM_together (d + 5) P) 297 [none, none, none, none, none, none, none, none, none, none, none, none] [.long s1, .long s0] I J := by
  refine g_ldiv dc_RM_together_297 rfl z1 ?_
  refine g_l2i dc_RM_together_298 rfl ?_
  exact g_iret rfl dc_RM_together_299 q2
theorem dc_RM_total_0 : decode prog_14_method_38_code 0 = .ok (.aload_n 0, 1) := by decide +kernel
theorem dc_RM_total_1 : decode prog_14_method_38_code 1 = .ok (.getfield 38, 3) := by decide +kernel
theorem dc_RM_total_4 : decode prog_14_method_38_code 4 = .ok (.iload_n 1, 1) := by decide +kernel
theorem dc_RM_total_5 : decode prog_14_method_38_code 5 = .ok (.laload, 1) := by decide +kernel
theorem dc_RM_total_6 : decode prog_14_method_38_code 6 = .ok (.aload_n 0, 1) := by decide +kernel
theorem dc_RM_total_7 : decode prog_14_method_38_code 7 = .ok (.getfield 45, 3) := by decide +kernel
theorem dc_RM_total_10 : decode prog_14_method_38_code 10 = .ok (.iload_n 1, 1) := by decide +kernel
theorem dc_RM_total_11 : decode prog_14_method_38_code 11 = .ok (.laload, 1) := by decide +kernel
theorem dc_RM_total_12 : decode prog_14_method_38_code 12 = .ok (.lmul, 1) := by decide +kernel
theorem dc_RM_total_13 : decode prog_14_method_38_code 13 = .ok (.aload_n 0, 1) := by decide +kernel
theorem dc_RM_total_14 : decode prog_14_method_38_code 14 = .ok (.getfield 42, 3) := by decide +kernel
theorem dc_RM_total_17 : decode prog_14_method_38_code 17 = .ok (.iload_n 1, 1) := by decide +kernel
theorem dc_RM_total_18 : decode prog_14_method_38_code 18 = .ok (.laload, 1) := by decide +kernel
theorem dc_RM_total_19 : decode prog_14_method_38_code 19 = .ok (.ladd, 1) := by decide +kernel
theorem dc_RM_total_20 : decode prog_14_method_38_code 20 = .ok (.lload_n 2, 1) := by decide +kernel
theorem dc_RM_total_21 : decode prog_14_method_38_code 21 = .ok (.aload_n 0, 1) := by decide +kernel
theorem dc_RM_total_22 : decode prog_14_method_38_code 22 = .ok (.getfield 45, 3) := by decide +kernel
theorem dc_RM_total_25 : decode prog_14_method_38_code 25 = .ok (.iload_n 1, 1) := by decide +kernel
theorem dc_RM_total_26 : decode prog_14_method_38_code 26 = .ok (.laload, 1) := by decide +kernel
theorem dc_RM_total_27 : decode prog_14_method_38_code 27 = .ok (.ldiv, 1) := by decide +kernel
theorem dc_RM_total_28 : decode prog_14_method_38_code 28 = .ok (.lmul, 1) := by decide +kernel
theorem dc_RM_total_29 : decode prog_14_method_38_code 29 = .ok (.lreturn, 1) := by decide +kernel
theorem w_RM_total_0 {G : GC} {d : Nat} {P : PT} {I : MI} {J : MJ} {x1 : Int32} {l2 : Int64} (b1 : vp_in x1 1600) (z2 : ¬ (J 78 x1.toNatClampNeg) = 0) (q3 : P (some (.long ((((J 76 x1.toNatClampNeg) * (J 78 x1.toNatClampNeg)) + (J 77 x1.toNatClampNeg)) * (l2 / (J 78 x1.toNatClampNeg))))) I J) : Go G (fr G m_RM_total d P) 0 [some (.ref 67), some (.int x1), some (.long l2), none] [] I J := by
  refine g_aload_n dc_RM_total_0 rfl rfl rfl ?_
  refine g_get (C := "LevelBreaksModel") (T := T_RM) (N := 45) (k := 11) (v := .ref 76) sh_67 (by decide) rfl rfl i_RM (by decide) fl_RM_38 (Or.inl rfl) rfl dc_RM_total_1 rfl ?_
  refine g_iload_n dc_RM_total_4 rfl rfl rfl ?_
  refine g_laldv (v := (J 76 x1.toNatClampNeg)) sh_76 b1 rfl dc_RM_total_5 rfl ?_
  refine g_aload_n dc_RM_total_6 rfl rfl rfl ?_
  refine g_get (C := "LevelBreaksModel") (T := T_RM) (N := 45) (k := 13) (v := .ref 78) sh_67 (by decide) rfl rfl i_RM (by decide) fl_RM_45 (Or.inl rfl) rfl dc_RM_total_7 rfl ?_
  refine g_iload_n dc_RM_total_10 rfl rfl rfl ?_
  refine g_laldv (v := (J 78 x1.toNatClampNeg)) sh_78 b1 rfl dc_RM_total_11 rfl ?_
  refine g_lmul dc_RM_total_12 rfl ?_
  refine g_aload_n dc_RM_total_13 rfl rfl rfl ?_
  refine g_get (C := "LevelBreaksModel") (T := T_RM) (N := 45) (k := 12) (v := .ref 77) sh_67 (by decide) rfl rfl i_RM (by decide) fl_RM_42 (Or.inl rfl) rfl dc_RM_total_14 rfl ?_
  refine g_iload_n dc_RM_total_17 rfl rfl rfl ?_
  refine g_laldv (v := (J 77 x1.toNatClampNeg)) sh_77 b1 rfl dc_RM_total_18 rfl ?_
  refine g_ladd dc_RM_total_19 rfl ?_
  refine g_lload_n dc_RM_total_20 rfl rfl rfl ?_
  refine g_aload_n dc_RM_total_21 rfl rfl rfl ?_
  refine g_get (C := "LevelBreaksModel") (T := T_RM) (N := 45) (k := 13) (v := .ref 78) sh_67 (by decide) rfl rfl i_RM (by decide) fl_RM_45 (Or.inl rfl) rfl dc_RM_total_22 rfl ?_
  refine g_iload_n dc_RM_total_25 rfl rfl rfl ?_
  refine g_laldv (v := (J 78 x1.toNatClampNeg)) sh_78 b1 rfl dc_RM_total_26 rfl ?_
  refine g_ldiv dc_RM_total_27 rfl z2 ?_
  refine g_lmul dc_RM_total_28 rfl ?_
  exact g_lret rfl dc_RM_total_29 q3
theorem dc_RM_type_0 : decode prog_14_method_62_code 0 = .ok (.iload_n 1, 1) := by decide +kernel
theorem dc_RM_type_1 : decode prog_14_method_62_code 1 = .ok (.iconst 0, 1) := by decide +kernel
theorem dc_RM_type_2 : decode prog_14_method_62_code 2 = .ok (.sipush 255, 3) := by decide +kernel
theorem dc_RM_type_5 : decode prog_14_method_62_code 5 = .ok (.invokestatic 112, 3) := by decide +kernel
theorem dc_RM_type_8 : decode prog_14_method_62_code 8 = .ok (.ifCond .ne 6, 3) := by decide +kernel
theorem dc_RM_type_11 : decode prog_14_method_62_code 11 = .ok (.bipush (-2), 2) := by decide +kernel
theorem dc_RM_type_13 : decode prog_14_method_62_code 13 = .ok (.ireturn, 1) := by decide +kernel
theorem dc_RM_type_14 : decode prog_14_method_62_code 14 = .ok (.aload_n 0, 1) := by decide +kernel
theorem dc_RM_type_15 : decode prog_14_method_62_code 15 = .ok (.getfield 296, 3) := by decide +kernel
theorem dc_RM_type_18 : decode prog_14_method_62_code 18 = .ok (.bipush 100, 2) := by decide +kernel
theorem dc_RM_type_20 : decode prog_14_method_62_code 20 = .ok (.if_icmp .ne 6, 3) := by decide +kernel
theorem dc_RM_type_23 : decode prog_14_method_62_code 23 = .ok (.bipush (-4), 2) := by decide +kernel
theorem dc_RM_type_25 : decode prog_14_method_62_code 25 = .ok (.ireturn, 1) := by decide +kernel
theorem dc_RM_type_26 : decode prog_14_method_62_code 26 = .ok (.aload_n 0, 1) := by decide +kernel
theorem dc_RM_type_27 : decode prog_14_method_62_code 27 = .ok (.getfield 85, 3) := by decide +kernel
theorem dc_RM_type_30 : decode prog_14_method_62_code 30 = .ok (.aload_n 0, 1) := by decide +kernel
theorem dc_RM_type_31 : decode prog_14_method_62_code 31 = .ok (.getfield 296, 3) := by decide +kernel
theorem dc_RM_type_34 : decode prog_14_method_62_code 34 = .ok (.iload_n 1, 1) := by decide +kernel
theorem dc_RM_type_35 : decode prog_14_method_62_code 35 = .ok (.iastore, 1) := by decide +kernel
theorem dc_RM_type_36 : decode prog_14_method_62_code 36 = .ok (.aload_n 0, 1) := by decide +kernel
theorem dc_RM_type_37 : decode prog_14_method_62_code 37 = .ok (.dup, 1) := by decide +kernel
theorem dc_RM_type_38 : decode prog_14_method_62_code 38 = .ok (.getfield 296, 3) := by decide +kernel
theorem dc_RM_type_41 : decode prog_14_method_62_code 41 = .ok (.iconst 1, 1) := by decide +kernel
theorem dc_RM_type_42 : decode prog_14_method_62_code 42 = .ok (.iadd, 1) := by decide +kernel
theorem dc_RM_type_43 : decode prog_14_method_62_code 43 = .ok (.putfield 296, 3) := by decide +kernel
theorem dc_RM_type_46 : decode prog_14_method_62_code 46 = .ok (.aload_n 0, 1) := by decide +kernel
theorem dc_RM_type_47 : decode prog_14_method_62_code 47 = .ok (.getfield 296, 3) := by decide +kernel
theorem dc_RM_type_50 : decode prog_14_method_62_code 50 = .ok (.ireturn, 1) := by decide +kernel
theorem w_RM_type_0 {G : GC} {d : Nat} {P : PT} {I : MI} {J : MJ} {x1 : Int32} (b1 : (¬ (f_RM_in x1 0 255) = 0) → (¬ (I 67 31) = 100) → vp_in (I 67 31) 100) (q2 : (¬ (f_RM_in x1 0 255) = 0) → (¬ (I 67 31) = 100) → P (some (.int ((I 67 31) + 1))) (u2 (u2 I 91 (I 67 31).toNatClampNeg x1) 67 31 ((I 67 31) + 1)) J) (q3 : (¬ (f_RM_in x1 0 255) = 0) → ((I 67 31) = 100) → P (some (.int (-4))) I J) (q4 : ((f_RM_in x1 0 255) = 0) → P (some (.int (-2))) I J) : Go G (fr G m_RM_type (d + 1) P) 0 [some (.ref 67), some (.int x1)] [] I J := by
  refine g_iload_n dc_RM_type_0 rfl rfl rfl ?_
  refine g_iconst (v := 0) dc_RM_type_1 rfl (by decide) ?_
  refine g_sipush (v := 255) dc_RM_type_2 rfl (by decide) ?_
  refine g_callS (M := m_RM_in) (As := [.int x1, .int 0, .int 255]) (rest := []) ok_RM_in st_RM_in ml_RM_112 rfl rfl (Nat.le_of_ble_eq_true rfl) dc_RM_type_5 rfl rOk_fr (c_RM_in ?_)
  show Go G (fr G m_RM_type (d + 1) P) 8 [some (.ref 67), some (.int x1)] [.int (f_RM_in x1 0 255)] I J
  refine g_if_ne (tgt := 14) dc_RM_type_8 rfl (by decide) (fun c1 => ?_) (fun c1 => ?_)
  · refine g_aload_n dc_RM_type_14 rfl rfl rfl ?_
    refine g_get (C := "LevelBreaksModel") (T := T_RM) (N := 45) (k := 31) (v := .int (I 67 31)) sh_67 (by decide) rfl rfl i_RM (by decide) fl_RM_296 (Or.inl rfl) rfl dc_RM_type_15 rfl ?_
    refine g_bipush (v := 100) dc_RM_type_18 rfl (by decide) ?_
    refine g_ic_ne (tgt := 26) dc_RM_type_20 rfl (by decide) (fun c2 => ?_) (fun c2 => ?_)
    · refine g_aload_n dc_RM_type_26 rfl rfl rfl ?_
      refine g_get (C := "LevelBreaksModel") (T := T_RM) (N := 45) (k := 32) (v := .ref 91) sh_67 (by decide) rfl rfl i_RM (by decide) fl_RM_85 (Or.inl rfl) rfl dc_RM_type_27 rfl ?_
      refine g_aload_n dc_RM_type_30 rfl rfl rfl ?_
      refine g_get (C := "LevelBreaksModel") (T := T_RM) (N := 45) (k := 31) (v := .int (I 67 31)) sh_67 (by decide) rfl rfl i_RM (by decide) fl_RM_296 (Or.inl rfl) rfl dc_RM_type_31 rfl ?_
      refine g_iload_n dc_RM_type_34 rfl rfl rfl ?_
      refine g_iast sh_91 (b1 c1 c2) dc_RM_type_35 rfl ?_
      refine g_aload_n dc_RM_type_36 rfl rfl rfl ?_
      refine g_dup dc_RM_type_37 rfl rfl ?_
      refine g_get (C := "LevelBreaksModel") (T := T_RM) (N := 45) (k := 31) (v := .int (I 67 31)) sh_67 (by decide) rfl rfl i_RM (by decide) fl_RM_296 (Or.inl rfl) rfl dc_RM_type_38 rfl ?_
      refine g_iconst (v := 1) dc_RM_type_41 rfl (by decide) ?_
      refine g_iadd dc_RM_type_42 rfl ?_
      refine g_putI (C := "LevelBreaksModel") (T := T_RM) (N := 45) (k := 31) (ty := t_RM) sh_67 (by decide) rfl rfl i_RM p_RM n_RM (by decide) fl_RM_296 (Or.inl rfl) rfl (by decide) dc_RM_type_43 rfl ?_
      refine g_aload_n dc_RM_type_46 rfl rfl rfl ?_
      refine g_get (C := "LevelBreaksModel") (T := T_RM) (N := 45) (k := 31) (v := .int ((I 67 31) + 1)) sh_67 (by decide) rfl rfl i_RM (by decide) fl_RM_296 (Or.inl rfl) rfl dc_RM_type_47 rfl ?_
      exact g_iret rfl dc_RM_type_50 (q2 c1 c2)
    · refine g_bipush (v := (-4)) dc_RM_type_23 rfl (by decide) ?_
      exact g_iret rfl dc_RM_type_25 (q3 c1 c2)
  · refine g_bipush (v := (-2)) dc_RM_type_11 rfl (by decide) ?_
    exact g_iret rfl dc_RM_type_13 (q4 c1)
theorem dc_RM_value_0 : decode prog_14_method_14_code 0 = .ok (.iload_n 1, 1) := by decide +kernel
theorem dc_RM_value_1 : decode prog_14_method_14_code 1 = .ok (.invokestatic 119, 3) := by decide +kernel
theorem dc_RM_value_4 : decode prog_14_method_14_code 4 = .ok (.ifCond .eq 23, 3) := by decide +kernel
theorem dc_RM_value_7 : decode prog_14_method_14_code 7 = .ok (.iload_n 2, 1) := by decide +kernel
theorem dc_RM_value_8 : decode prog_14_method_14_code 8 = .ok (.invokestatic 123, 3) := by decide +kernel
theorem dc_RM_value_11 : decode prog_14_method_14_code 11 = .ok (.ifCond .eq 16, 3) := by decide +kernel
theorem dc_RM_value_14 : decode prog_14_method_14_code 14 = .ok (.aload_n 0, 1) := by decide +kernel
theorem dc_RM_value_15 : decode prog_14_method_14_code 15 = .ok (.iload_n 1, 1) := by decide +kernel
theorem dc_RM_value_16 : decode prog_14_method_14_code 16 = .ok (.iload_n 2, 1) := by decide +kernel
theorem dc_RM_value_17 : decode prog_14_method_14_code 17 = .ok (.aload_n 0, 1) := by decide +kernel
theorem dc_RM_value_18 : decode prog_14_method_14_code 18 = .ok (.getfield 22, 3) := by decide +kernel
theorem dc_RM_value_21 : decode prog_14_method_14_code 21 = .ok (.invokevirtual 141, 3) := by decide +kernel
theorem dc_RM_value_24 : decode prog_14_method_14_code 24 = .ok (.goto 6, 3) := by decide +kernel
theorem dc_RM_value_27 : decode prog_14_method_14_code 27 = .ok (.sipush (-10000), 3) := by decide +kernel
theorem dc_RM_value_30 : decode prog_14_method_14_code 30 = .ok (.ireturn, 1) := by decide +kernel
theorem w_RM_value_0 {G : GC} {d : Nat} {P : PT} {I : MI} {J : MJ} {x1 : Int32} {x2 : Int32} (k1 : ((f_RM_isRow x1) = 0) → Go G (fr G m_RM_value (d + 2) P) 27 [none, none, none] [] I J) (k2 : (¬ ((f_RM_isRow x1) = 0)) → ((f_RM_isDay x2) = 0) → Go G (fr G m_RM_value (d + 2) P) 27 [none, none, none] [] I J) (k3 : (¬ ((f_RM_isRow x1) = 0)) → (¬ ((f_RM_isDay x2) = 0)) → Ct G (d + 1) m_RM_valueAt [.ref 67, .int x1, .int x2, .int (I 67 5)] (fun r I' J' => Go G (fr G m_RM_value (d + 2) P) 24 [none, none, none] (r.toList ++ []) I' J') I J) : Go G (fr G m_RM_value (d + 2) P) 0 [some (.ref 67), some (.int x1), some (.int x2)] [] I J := by
  refine g_iload_n dc_RM_value_0 rfl rfl rfl ?_
  refine g_callS (M := m_RM_isRow) (As := [.int x1]) (rest := []) ok_RM_isRow st_RM_isRow ml_RM_119 rfl rfl (Nat.le_of_ble_eq_true rfl) dc_RM_value_1 rfl rOk_fr (c_RM_isRow ?_)
  show Go G (fr G m_RM_value (d + 2) P) 4 [some (.ref 67), some (.int x1), some (.int x2)] [.int (f_RM_isRow x1)] I J
  refine g_if_eq (tgt := 27) dc_RM_value_4 rfl (by decide) (fun c1 => ?_) (fun c1 => ?_)
  · refine g_weak [none, none, none] trivial ?_
    exact (k1 c1)
  · refine g_iload_n dc_RM_value_7 rfl rfl rfl ?_
    refine g_callS (M := m_RM_isDay) (As := [.int x2]) (rest := []) ok_RM_isDay st_RM_isDay ml_RM_123 rfl rfl (Nat.le_of_ble_eq_true rfl) dc_RM_value_8 rfl rOk_fr (c_RM_isDay ?_)
    show Go G (fr G m_RM_value (d + 2) P) 11 [some (.ref 67), some (.int x1), some (.int x2)] [.int (f_RM_isDay x2)] I J
    refine g_if_eq (tgt := 27) dc_RM_value_11 rfl (by decide) (fun c2 => ?_) (fun c2 => ?_)
    · refine g_weak [none, none, none] trivial ?_
      exact (k2 c1 c2)
    · refine g_aload_n dc_RM_value_14 rfl rfl rfl ?_
      refine g_iload_n dc_RM_value_15 rfl rfl rfl ?_
      refine g_iload_n dc_RM_value_16 rfl rfl rfl ?_
      refine g_aload_n dc_RM_value_17 rfl rfl rfl ?_
      refine g_get (C := "LevelBreaksModel") (T := T_RM) (N := 45) (k := 5) (v := .int (I 67 5)) sh_67 (by decide) rfl rfl i_RM (by decide) fl_RM_22 (Or.inl rfl) rfl dc_RM_value_18 rfl ?_
      refine g_weak [none, none, none] trivial ?_
      exact g_callV (T := T_RM) (N := 45) (As := [.int x1, .int x2, .int (I 67 5)]) (rest := []) ok_RM_valueAt in_RM_valueAt se_RM_valueAt ml_RM_141 sh_67 (by decide) rfl rfl rfl (Nat.le_of_ble_eq_true rfl) dc_RM_value_21 rfl rOk_fr (k3 c1 c2)
theorem w_RM_value_24 {G : GC} {d : Nat} {P : PT} {I : MI} {J : MJ} {y0 : Int32} (q1 : P (some (.int y0)) I J) : Go G (fr G m_RM_value (d + 2) P) 24 [none, none, none] [.int y0] I J := by
  refine g_goto (tgt := 30) dc_RM_value_24 (by decide) ?_
  exact g_iret rfl dc_RM_value_30 q1
theorem w_RM_value_27 {G : GC} {d : Nat} {P : PT} {I : MI} {J : MJ}  (q1 : P (some (.int (-10000))) I J) : Go G (fr G m_RM_value (d + 2) P) 27 [none, none, none] [] I J := by
  refine g_sipush (v := (-10000)) dc_RM_value_27 rfl (by decide) ?_
  exact g_iret rfl dc_RM_value_30 q1
theorem dc_RM_valueAt_0 : decode prog_14_method_13_code 0 = .ok (.sipush (-9999), 3) := by decide +kernel
theorem dc_RM_valueAt_3 : decode prog_14_method_13_code 3 = .ok (.istore 4, 2) := by decide +kernel
theorem dc_RM_valueAt_5 : decode prog_14_method_13_code 5 = .ok (.iconst 0, 1) := by decide +kernel
theorem dc_RM_valueAt_6 : decode prog_14_method_13_code 6 = .ok (.istore 5, 2) := by decide +kernel
theorem dc_RM_valueAt_8 : decode prog_14_method_13_code 8 = .ok (.iload 5, 2) := by decide +kernel
theorem dc_RM_valueAt_10 : decode prog_14_method_13_code 10 = .ok (.aload_n 0, 1) := by decide +kernel
theorem dc_RM_valueAt_11 : decode prog_14_method_13_code 11 = .ok (.getfield 116, 3) := by decide +kernel
theorem dc_RM_valueAt_14 : decode prog_14_method_13_code 14 = .ok (.if_icmp .ge 56, 3) := by decide +kernel
theorem dc_RM_valueAt_17 : decode prog_14_method_13_code 17 = .ok (.aload_n 0, 1) := by decide +kernel
theorem dc_RM_valueAt_18 : decode prog_14_method_13_code 18 = .ok (.getfield 9, 3) := by decide +kernel
theorem dc_RM_valueAt_21 : decode prog_14_method_13_code 21 = .ok (.iload 5, 2) := by decide +kernel
theorem dc_RM_valueAt_23 : decode prog_14_method_13_code 23 = .ok (.iaload, 1) := by decide +kernel
theorem dc_RM_valueAt_24 : decode prog_14_method_13_code 24 = .ok (.iload_n 1, 1) := by decide +kernel
theorem dc_RM_valueAt_25 : decode prog_14_method_13_code 25 = .ok (.if_icmp .ne 35, 3) := by decide +kernel
theorem dc_RM_valueAt_28 : decode prog_14_method_13_code 28 = .ok (.aload_n 0, 1) := by decide +kernel
theorem dc_RM_valueAt_29 : decode prog_14_method_13_code 29 = .ok (.getfield 13, 3) := by decide +kernel
theorem dc_RM_valueAt_32 : decode prog_14_method_13_code 32 = .ok (.iload 5, 2) := by decide +kernel
theorem dc_RM_valueAt_34 : decode prog_14_method_13_code 34 = .ok (.iaload, 1) := by decide +kernel
theorem dc_RM_valueAt_35 : decode prog_14_method_13_code 35 = .ok (.iload_n 2, 1) := by decide +kernel
theorem dc_RM_valueAt_36 : decode prog_14_method_13_code 36 = .ok (.if_icmp .ne 24, 3) := by decide +kernel
theorem dc_RM_valueAt_39 : decode prog_14_method_13_code 39 = .ok (.aload_n 0, 1) := by decide +kernel
theorem dc_RM_valueAt_40 : decode prog_14_method_13_code 40 = .ok (.getfield 19, 3) := by decide +kernel
theorem dc_RM_valueAt_43 : decode prog_14_method_13_code 43 = .ok (.iload 5, 2) := by decide +kernel
theorem dc_RM_valueAt_45 : decode prog_14_method_13_code 45 = .ok (.iaload, 1) := by decide +kernel
theorem dc_RM_valueAt_46 : decode prog_14_method_13_code 46 = .ok (.iload_n 3, 1) := by decide +kernel
theorem dc_RM_valueAt_47 : decode prog_14_method_13_code 47 = .ok (.if_icmp .gt 13, 3) := by decide +kernel
theorem dc_RM_valueAt_50 : decode prog_14_method_13_code 50 = .ok (.aload_n 0, 1) := by decide +kernel
theorem dc_RM_valueAt_51 : decode prog_14_method_13_code 51 = .ok (.getfield 16, 3) := by decide +kernel
theorem dc_RM_valueAt_54 : decode prog_14_method_13_code 54 = .ok (.iload 5, 2) := by decide +kernel
theorem dc_RM_valueAt_56 : decode prog_14_method_13_code 56 = .ok (.iaload, 1) := by decide +kernel
theorem dc_RM_valueAt_57 : decode prog_14_method_13_code 57 = .ok (.goto 5, 3) := by decide +kernel
theorem dc_RM_valueAt_60 : decode prog_14_method_13_code 60 = .ok (.iload 4, 2) := by decide +kernel
theorem dc_RM_valueAt_62 : decode prog_14_method_13_code 62 = .ok (.istore 4, 2) := by decide +kernel
theorem dc_RM_valueAt_64 : decode prog_14_method_13_code 64 = .ok (.iinc 5 1, 3) := by decide +kernel
theorem dc_RM_valueAt_67 : decode prog_14_method_13_code 67 = .ok (.goto (-59), 3) := by decide +kernel
theorem dc_RM_valueAt_70 : decode prog_14_method_13_code 70 = .ok (.iload 4, 2) := by decide +kernel
theorem dc_RM_valueAt_72 : decode prog_14_method_13_code 72 = .ok (.ireturn, 1) := by decide +kernel
theorem w_RM_valueAt_0 {G : GC} {d : Nat} {P : PT} {I : MI} {J : MJ} {x1 : Int32} {x2 : Int32} {x3 : Int32} (k1 : Go G (fr G m_RM_valueAt d P) 8 [some (.ref 67), some (.int x1), some (.int x2), some (.int x3), some (.int (-9999)), some (.int 0)] [] I J) : Go G (fr G m_RM_valueAt d P) 0 [some (.ref 67), some (.int x1), some (.int x2), some (.int x3), none, none] [] I J := by
  refine g_sipush (v := (-9999)) dc_RM_valueAt_0 rfl (by decide) ?_
  refine g_istore (L' := [some (.ref 67), some (.int x1), some (.int x2), some (.int x3), some (.int (-9999)), none]) dc_RM_valueAt_3 rfl (Nat.le_of_ble_eq_true rfl) rfl ?_
  refine g_iconst (v := 0) dc_RM_valueAt_5 rfl (by decide) ?_
  refine g_istore (L' := [some (.ref 67), some (.int x1), some (.int x2), some (.int x3), some (.int (-9999)), some (.int 0)]) dc_RM_valueAt_6 rfl (Nat.le_of_ble_eq_true rfl) rfl ?_
  exact k1
theorem w_RM_valueAt_8 {G : GC} {d : Nat} {P : PT} {I : MI} {J : MJ} {x1 : Int32} {x2 : Int32} {x3 : Int32} {x4 : Int32} {x5 : Int32} (q1 : ((I 67 0) ≤ x5) → P (some (.int x4)) I J) (b2 : (¬ ((I 67 0) ≤ x5)) → vp_in x5 200) (k3 : (¬ ((I 67 0) ≤ x5)) → (¬ (I 68 x5.toNatClampNeg) = x1) → Go G (fr G m_RM_valueAt d P) 60 [some (.ref 67), some (.int x1), some (.int x2), some (.int x3), some (.int x4), some (.int x5)] [] I J) (k4 : (¬ ((I 67 0) ≤ x5)) → ((I 68 x5.toNatClampNeg) = x1) → (¬ (I 69 x5.toNatClampNeg) = x2) → Go G (fr G m_RM_valueAt d P) 60 [some (.ref 67), some (.int x1), some (.int x2), some (.int x3), some (.int x4), some (.int x5)] [] I J) (k5 : (¬ ((I 67 0) ≤ x5)) → ((I 68 x5.toNatClampNeg) = x1) → ((I 69 x5.toNatClampNeg) = x2) → (x3 < (I 71 x5.toNatClampNeg)) → Go G (fr G m_RM_valueAt d P) 60 [some (.ref 67), some (.int x1), some (.int x2), some (.int x3), some (.int x4), some (.int x5)] [] I J) (k6 : (¬ ((I 67 0) ≤ x5)) → ((I 68 x5.toNatClampNeg) = x1) → ((I 69 x5.toNatClampNeg) = x2) → (¬ (x3 < (I 71 x5.toNatClampNeg))) → Go G (fr G m_RM_valueAt d P) 62 [some (.ref 67), some (.int x1), some (.int x2), some (.int x3), none, some (.int x5)] [.int (I 70 x5.toNatClampNeg)] I J) : Go G (fr G m_RM_valueAt d P) 8 [some (.ref 67), some (.int x1), some (.int x2), some (.int x3), some (.int x4), some (.int x5)] [] I J := by
  refine g_iload dc_RM_valueAt_8 rfl rfl ?_
  refine g_aload_n dc_RM_valueAt_10 rfl rfl rfl ?_
  refine g_get (C := "LevelBreaksModel") (T := T_RM) (N := 45) (k := 0) (v := .int (I 67 0)) sh_67 (by decide) rfl rfl i_RM (by decide) fl_RM_116 (Or.inl rfl) rfl dc_RM_valueAt_11 rfl ?_
  refine g_ic_ge (tgt := 70) dc_RM_valueAt_14 rfl (by decide) (fun c1 => ?_) (fun c1 => ?_)
  · refine g_iload dc_RM_valueAt_70 rfl rfl ?_
    exact g_iret rfl dc_RM_valueAt_72 (q1 c1)
  · refine g_aload_n dc_RM_valueAt_17 rfl rfl rfl ?_
    refine g_get (C := "LevelBreaksModel") (T := T_RM) (N := 45) (k := 1) (v := .ref 68) sh_67 (by decide) rfl rfl i_RM (by decide) fl_RM_9 (Or.inl rfl) rfl dc_RM_valueAt_18 rfl ?_
    refine g_iload dc_RM_valueAt_21 rfl rfl ?_
    refine g_ialdv (v := (I 68 x5.toNatClampNeg)) sh_68 (b2 c1) rfl dc_RM_valueAt_23 rfl ?_
    refine g_iload_n dc_RM_valueAt_24 rfl rfl rfl ?_
    refine g_ic_ne (tgt := 60) dc_RM_valueAt_25 rfl (by decide) (fun c2 => ?_) (fun c2 => ?_)
    · exact (k3 c1 c2)
    · refine g_aload_n dc_RM_valueAt_28 rfl rfl rfl ?_
      refine g_get (C := "LevelBreaksModel") (T := T_RM) (N := 45) (k := 2) (v := .ref 69) sh_67 (by decide) rfl rfl i_RM (by decide) fl_RM_13 (Or.inl rfl) rfl dc_RM_valueAt_29 rfl ?_
      refine g_iload dc_RM_valueAt_32 rfl rfl ?_
      refine g_ialdv (v := (I 69 x5.toNatClampNeg)) sh_69 (b2 c1) rfl dc_RM_valueAt_34 rfl ?_
      refine g_iload_n dc_RM_valueAt_35 rfl rfl rfl ?_
      refine g_ic_ne (tgt := 60) dc_RM_valueAt_36 rfl (by decide) (fun c3 => ?_) (fun c3 => ?_)
      · exact (k4 c1 c2 c3)
      · refine g_aload_n dc_RM_valueAt_39 rfl rfl rfl ?_
        refine g_get (C := "LevelBreaksModel") (T := T_RM) (N := 45) (k := 4) (v := .ref 71) sh_67 (by decide) rfl rfl i_RM (by decide) fl_RM_19 (Or.inl rfl) rfl dc_RM_valueAt_40 rfl ?_
        refine g_iload dc_RM_valueAt_43 rfl rfl ?_
        refine g_ialdv (v := (I 71 x5.toNatClampNeg)) sh_71 (b2 c1) rfl dc_RM_valueAt_45 rfl ?_
        refine g_iload_n dc_RM_valueAt_46 rfl rfl rfl ?_
        refine g_ic_gt (tgt := 60) dc_RM_valueAt_47 rfl (by decide) (fun c4 => ?_) (fun c4 => ?_)
        · exact (k5 c1 c2 c3 c4)
        · refine g_aload_n dc_RM_valueAt_50 rfl rfl rfl ?_
          refine g_get (C := "LevelBreaksModel") (T := T_RM) (N := 45) (k := 3) (v := .ref 70) sh_67 (by decide) rfl rfl i_RM (by decide) fl_RM_16 (Or.inl rfl) rfl dc_RM_valueAt_51 rfl ?_
          refine g_iload dc_RM_valueAt_54 rfl rfl ?_
          refine g_ialdv (v := (I 70 x5.toNatClampNeg)) sh_70 (b2 c1) rfl dc_RM_valueAt_56 rfl ?_
          refine g_goto (tgt := 62) dc_RM_valueAt_57 (by decide) ?_
          refine g_weak [some (.ref 67), some (.int x1), some (.int x2), some (.int x3), none, some (.int x5)] ⟨rfl, ⟨rfl, ⟨rfl, ⟨rfl, ⟨rfl, trivial⟩⟩⟩⟩⟩ ?_
          exact (k6 c1 c2 c3 c4)
theorem w_RM_valueAt_60 {G : GC} {d : Nat} {P : PT} {I : MI} {J : MJ} {x1 : Int32} {x2 : Int32} {x3 : Int32} {x4 : Int32} {x5 : Int32} (k1 : Go G (fr G m_RM_valueAt d P) 62 [some (.ref 67), some (.int x1), some (.int x2), some (.int x3), none, some (.int x5)] [.int x4] I J) : Go G (fr G m_RM_valueAt d P) 60 [some (.ref 67), some (.int x1), some (.int x2), some (.int x3), some (.int x4), some (.int x5)] [] I J := by
  refine g_iload dc_RM_valueAt_60 rfl rfl ?_
  refine g_weak [some (.ref 67), some (.int x1), some (.int x2), some (.int x3), none, some (.int x5)] ⟨rfl, ⟨rfl, ⟨rfl, ⟨rfl, ⟨rfl, trivial⟩⟩⟩⟩⟩ ?_
  exact k1
theorem w_RM_valueAt_62 {G : GC} {d : Nat} {P : PT} {I : MI} {J : MJ} {x1 : Int32} {x2 : Int32} {x3 : Int32} {x5 : Int32} {y0 : Int32} (k1 : Go G (fr G m_RM_valueAt d P) 8 [some (.ref 67), some (.int x1), some (.int x2), some (.int x3), some (.int y0), some (.int (x5 + 1))] [] I J) : Go G (fr G m_RM_valueAt d P) 62 [some (.ref 67), some (.int x1), some (.int x2), some (.int x3), none, some (.int x5)] [.int y0] I J := by
  refine g_istore (L' := [some (.ref 67), some (.int x1), some (.int x2), some (.int x3), some (.int y0), some (.int x5)]) dc_RM_valueAt_62 rfl (Nat.le_of_ble_eq_true rfl) rfl ?_
  refine g_iinc (v := (x5 + 1)) (L' := [some (.ref 67), some (.int x1), some (.int x2), some (.int x3), some (.int y0), some (.int (x5 + 1))]) dc_RM_valueAt_64 rfl rfl (by rw [show Int32.ofInt 1 = 1 from by decide]) (Nat.le_of_ble_eq_true rfl) rfl ?_
  refine g_goto (tgt := 8) dc_RM_valueAt_67 (by decide) ?_
  exact k1
theorem dc_RM_watches_0 : decode prog_14_method_56_code 0 = .ok (.iconst 0, 1) := by decide +kernel
theorem dc_RM_watches_1 : decode prog_14_method_56_code 1 = .ok (.istore 5, 2) := by decide +kernel
theorem dc_RM_watches_3 : decode prog_14_method_56_code 3 = .ok (.aload_n 0, 1) := by decide +kernel
theorem dc_RM_watches_4 : decode prog_14_method_56_code 4 = .ok (.iconst 0, 1) := by decide +kernel
theorem dc_RM_watches_5 : decode prog_14_method_56_code 5 = .ok (.putfield 279, 3) := by decide +kernel
theorem dc_RM_watches_8 : decode prog_14_method_56_code 8 = .ok (.iconst 0, 1) := by decide +kernel
theorem dc_RM_watches_9 : decode prog_14_method_56_code 9 = .ok (.istore 6, 2) := by decide +kernel
theorem dc_RM_watches_11 : decode prog_14_method_56_code 11 = .ok (.iload 6, 2) := by decide +kernel
theorem dc_RM_watches_13 : decode prog_14_method_56_code 13 = .ok (.bipush 40, 2) := by decide +kernel
theorem dc_RM_watches_15 : decode prog_14_method_56_code 15 = .ok (.if_icmp .ge 17, 3) := by decide +kernel
theorem dc_RM_watches_18 : decode prog_14_method_56_code 18 = .ok (.aload_n 0, 1) := by decide +kernel
theorem dc_RM_watches_19 : decode prog_14_method_56_code 19 = .ok (.getfield 81, 3) := by decide +kernel
theorem dc_RM_watches_22 : decode prog_14_method_56_code 22 = .ok (.iload 6, 2) := by decide +kernel
theorem dc_RM_watches_24 : decode prog_14_method_56_code 24 = .ok (.iconst 0, 1) := by decide +kernel
theorem dc_RM_watches_25 : decode prog_14_method_56_code 25 = .ok (.bastore, 1) := by decide +kernel
theorem dc_RM_watches_26 : decode prog_14_method_56_code 26 = .ok (.iinc 6 1, 3) := by decide +kernel
theorem dc_RM_watches_29 : decode prog_14_method_56_code 29 = .ok (.goto (-18), 3) := by decide +kernel
theorem dc_RM_watches_32 : decode prog_14_method_56_code 32 = .ok (.iconst 0, 1) := by decide +kernel
theorem dc_RM_watches_33 : decode prog_14_method_56_code 33 = .ok (.istore 6, 2) := by decide +kernel
theorem dc_RM_watches_35 : decode prog_14_method_56_code 35 = .ok (.iload 6, 2) := by decide +kernel
theorem dc_RM_watches_37 : decode prog_14_method_56_code 37 = .ok (.aload_n 0, 1) := by decide +kernel
theorem dc_RM_watches_38 : decode prog_14_method_56_code 38 = .ok (.getfield 145, 3) := by decide +kernel
theorem dc_RM_watches_41 : decode prog_14_method_56_code 41 = .ok (.if_icmp .ge 91, 3) := by decide +kernel
theorem dc_RM_watches_44 : decode prog_14_method_56_code 44 = .ok (.iload 4, 2) := by decide +kernel
theorem dc_RM_watches_46 : decode prog_14_method_56_code 46 = .ok (.ifCond .ne 15, 3) := by decide +kernel
theorem dc_RM_watches_49 : decode prog_14_method_56_code 49 = .ok (.aload_n 0, 1) := by decide +kernel
theorem dc_RM_watches_50 : decode prog_14_method_56_code 50 = .ok (.getfield 29, 3) := by decide +kernel
theorem dc_RM_watches_53 : decode prog_14_method_56_code 53 = .ok (.iload 6, 2) := by decide +kernel
theorem dc_RM_watches_55 : decode prog_14_method_56_code 55 = .ok (.iaload, 1) := by decide +kernel
theorem dc_RM_watches_56 : decode prog_14_method_56_code 56 = .ok (.iload_n 1, 1) := by decide +kernel
theorem dc_RM_watches_57 : decode prog_14_method_56_code 57 = .ok (.isub, 1) := by decide +kernel
theorem dc_RM_watches_58 : decode prog_14_method_56_code 58 = .ok (.goto 12, 3) := by decide +kernel
theorem dc_RM_watches_61 : decode prog_14_method_56_code 61 = .ok (.iload_n 1, 1) := by decide +kernel
theorem dc_RM_watches_62 : decode prog_14_method_56_code 62 = .ok (.aload_n 0, 1) := by decide +kernel
theorem dc_RM_watches_63 : decode prog_14_method_56_code 63 = .ok (.getfield 29, 3) := by decide +kernel
theorem dc_RM_watches_66 : decode prog_14_method_56_code 66 = .ok (.iload 6, 2) := by decide +kernel
theorem dc_RM_watches_68 : decode prog_14_method_56_code 68 = .ok (.iaload, 1) := by decide +kernel
theorem dc_RM_watches_69 : decode prog_14_method_56_code 69 = .ok (.isub, 1) := by decide +kernel
theorem dc_RM_watches_70 : decode prog_14_method_56_code 70 = .ok (.istore 7, 2) := by decide +kernel
theorem dc_RM_watches_72 : decode prog_14_method_56_code 72 = .ok (.iload 5, 2) := by decide +kernel
theorem dc_RM_watches_74 : decode prog_14_method_56_code 74 = .ok (.iload 7, 2) := by decide +kernel
theorem dc_RM_watches_76 : decode prog_14_method_56_code 76 = .ok (.iload_n 2, 1) := by decide +kernel
theorem dc_RM_watches_77 : decode prog_14_method_56_code 77 = .ok (.isub, 1) := by decide +kernel
theorem dc_RM_watches_78 : decode prog_14_method_56_code 78 = .ok (.iadd, 1) := by decide +kernel
theorem dc_RM_watches_79 : decode prog_14_method_56_code 79 = .ok (.istore 5, 2) := by decide +kernel
theorem dc_RM_watches_81 : decode prog_14_method_56_code 81 = .ok (.iload 5, 2) := by decide +kernel
theorem dc_RM_watches_83 : decode prog_14_method_56_code 83 = .ok (.ifCond .ge 7, 3) := by decide +kernel
theorem dc_RM_watches_86 : decode prog_14_method_56_code 86 = .ok (.iconst 0, 1) := by decide +kernel
theorem dc_RM_watches_87 : decode prog_14_method_56_code 87 = .ok (.goto 5, 3) := by decide +kernel
theorem dc_RM_watches_90 : decode prog_14_method_56_code 90 = .ok (.iload 5, 2) := by decide +kernel
theorem dc_RM_watches_92 : decode prog_14_method_56_code 92 = .ok (.istore 5, 2) := by decide +kernel
theorem dc_RM_watches_94 : decode prog_14_method_56_code 94 = .ok (.iload 5, 2) := by decide +kernel
theorem dc_RM_watches_96 : decode prog_14_method_56_code 96 = .ok (.iload_n 3, 1) := by decide +kernel
theorem dc_RM_watches_97 : decode prog_14_method_56_code 97 = .ok (.if_icmp .lt 29, 3) := by decide +kernel
theorem dc_RM_watches_100 : decode prog_14_method_56_code 100 = .ok (.aload_n 0, 1) := by decide +kernel
theorem dc_RM_watches_101 : decode prog_14_method_56_code 101 = .ok (.getfield 81, 3) := by decide +kernel
theorem dc_RM_watches_104 : decode prog_14_method_56_code 104 = .ok (.aload_n 0, 1) := by decide +kernel
theorem dc_RM_watches_105 : decode prog_14_method_56_code 105 = .ok (.getfield 32, 3) := by decide +kernel
theorem dc_RM_watches_108 : decode prog_14_method_56_code 108 = .ok (.iload 6, 2) := by decide +kernel
theorem dc_RM_watches_110 : decode prog_14_method_56_code 110 = .ok (.iaload, 1) := by decide +kernel
theorem dc_RM_watches_111 : decode prog_14_method_56_code 111 = .ok (.iconst 1, 1) := by decide +kernel
theorem dc_RM_watches_112 : decode prog_14_method_56_code 112 = .ok (.bastore, 1) := by decide +kernel
theorem dc_RM_watches_113 : decode prog_14_method_56_code 113 = .ok (.aload_n 0, 1) := by decide +kernel
theorem dc_RM_watches_114 : decode prog_14_method_56_code 114 = .ok (.dup, 1) := by decide +kernel
theorem dc_RM_watches_115 : decode prog_14_method_56_code 115 = .ok (.getfield 279, 3) := by decide +kernel
theorem dc_RM_watches_118 : decode prog_14_method_56_code 118 = .ok (.iconst 1, 1) := by decide +kernel
theorem dc_RM_watches_119 : decode prog_14_method_56_code 119 = .ok (.iadd, 1) := by decide +kernel
theorem dc_RM_watches_120 : decode prog_14_method_56_code 120 = .ok (.putfield 279, 3) := by decide +kernel
theorem dc_RM_watches_123 : decode prog_14_method_56_code 123 = .ok (.iconst 0, 1) := by decide +kernel
theorem dc_RM_watches_124 : decode prog_14_method_56_code 124 = .ok (.istore 5, 2) := by decide +kernel
theorem dc_RM_watches_126 : decode prog_14_method_56_code 126 = .ok (.iinc 6 1, 3) := by decide +kernel
theorem dc_RM_watches_129 : decode prog_14_method_56_code 129 = .ok (.goto (-94), 3) := by decide +kernel
theorem dc_RM_watches_132 : decode prog_14_method_56_code 132 = .ok (.return_, 1) := by decide +kernel
theorem w_RM_watches_0 {G : GC} {d : Nat} {P : PT} {I : MI} {J : MJ} {x1 : Int32} {x2 : Int32} {x3 : Int32} {x4 : Int32} (k1 : Go G (fr G m_RM_watches d P) 11 [some (.ref 67), some (.int x1), some (.int x2), some (.int x3), some (.int x4), some (.int 0), some (.int 0), none] [] (u2 I 67 29 0) J) : Go G (fr G m_RM_watches d P) 0 [some (.ref 67), some (.int x1), some (.int x2), some (.int x3), some (.int x4), none, none, none] [] I J := by
  refine g_iconst (v := 0) dc_RM_watches_0 rfl (by decide) ?_
  refine g_istore (L' := [some (.ref 67), some (.int x1), some (.int x2), some (.int x3), some (.int x4), some (.int 0), none, none]) dc_RM_watches_1 rfl (Nat.le_of_ble_eq_true rfl) rfl ?_
  refine g_aload_n dc_RM_watches_3 rfl rfl rfl ?_
  refine g_iconst (v := 0) dc_RM_watches_4 rfl (by decide) ?_
  refine g_putI (C := "LevelBreaksModel") (T := T_RM) (N := 45) (k := 29) (ty := t_RM) sh_67 (by decide) rfl rfl i_RM p_RM n_RM (by decide) fl_RM_279 (Or.inl rfl) rfl (by decide) dc_RM_watches_5 rfl ?_
  refine g_iconst (v := 0) dc_RM_watches_8 rfl (by decide) ?_
  refine g_istore (L' := [some (.ref 67), some (.int x1), some (.int x2), some (.int x3), some (.int x4), some (.int 0), some (.int 0), none]) dc_RM_watches_9 rfl (Nat.le_of_ble_eq_true rfl) rfl ?_
  exact k1
theorem w_RM_watches_11 {G : GC} {d : Nat} {P : PT} {I : MI} {J : MJ} {x1 : Int32} {x2 : Int32} {x3 : Int32} {x4 : Int32} {x5 : Int32} {x6 : Int32} (k1 : (40 ≤ x6) → Go G (fr G m_RM_watches d P) 35 [some (.ref 67), some (.int x1), some (.int x2), some (.int x3), some (.int x4), some (.int x5), some (.int 0), none] [] I J) (b2 : (¬ (40 ≤ x6)) → vp_in x6 40) (k3 : (¬ (40 ≤ x6)) → Go G (fr G m_RM_watches d P) 11 [some (.ref 67), some (.int x1), some (.int x2), some (.int x3), some (.int x4), some (.int x5), some (.int (x6 + 1)), none] [] (u2 I 90 x6.toNatClampNeg 0) J) : Go G (fr G m_RM_watches d P) 11 [some (.ref 67), some (.int x1), some (.int x2), some (.int x3), some (.int x4), some (.int x5), some (.int x6), none] [] I J := by
  refine g_iload dc_RM_watches_11 rfl rfl ?_
  refine g_bipush (v := 40) dc_RM_watches_13 rfl (by decide) ?_
  refine g_ic_ge (tgt := 32) dc_RM_watches_15 rfl (by decide) (fun c1 => ?_) (fun c1 => ?_)
  · refine g_iconst (v := 0) dc_RM_watches_32 rfl (by decide) ?_
    refine g_istore (L' := [some (.ref 67), some (.int x1), some (.int x2), some (.int x3), some (.int x4), some (.int x5), some (.int 0), none]) dc_RM_watches_33 rfl (Nat.le_of_ble_eq_true rfl) rfl ?_
    exact (k1 c1)
  · refine g_aload_n dc_RM_watches_18 rfl rfl rfl ?_
    refine g_get (C := "LevelBreaksModel") (T := T_RM) (N := 45) (k := 30) (v := .ref 90) sh_67 (by decide) rfl rfl i_RM (by decide) fl_RM_81 (Or.inl rfl) rfl dc_RM_watches_19 rfl ?_
    refine g_iload dc_RM_watches_22 rfl rfl ?_
    refine g_iconst (v := 0) dc_RM_watches_24 rfl (by decide) ?_
    refine g_zast sh_90 (b2 c1) (by decide) dc_RM_watches_25 rfl ?_
    refine g_iinc (v := (x6 + 1)) (L' := [some (.ref 67), some (.int x1), some (.int x2), some (.int x3), some (.int x4), some (.int x5), some (.int (x6 + 1)), none]) dc_RM_watches_26 rfl rfl (by rw [show Int32.ofInt 1 = 1 from by decide]) (Nat.le_of_ble_eq_true rfl) rfl ?_
    refine g_goto (tgt := 11) dc_RM_watches_29 (by decide) ?_
    exact (k3 c1)
theorem w_RM_watches_35 {G : GC} {d : Nat} {P : PT} {I : MI} {J : MJ} {x1 : Int32} {x2 : Int32} {x3 : Int32} {x4 : Int32} {x5 : Int32} {x6 : Int32} (q1 : ((I 67 7) ≤ x6) → P none I J) (b2 : (¬ ((I 67 7) ≤ x6)) → (¬ x4 = 0) → vp_in x6 40) (k3 : (¬ ((I 67 7) ≤ x6)) → (¬ x4 = 0) → Go G (fr G m_RM_watches d P) 70 [some (.ref 67), some (.int x1), some (.int x2), some (.int x3), some (.int x4), some (.int x5), some (.int x6), none] [.int (x1 - (I 73 x6.toNatClampNeg))] I J) (b4 : (¬ ((I 67 7) ≤ x6)) → (x4 = 0) → vp_in x6 40) (k5 : (¬ ((I 67 7) ≤ x6)) → (x4 = 0) → Go G (fr G m_RM_watches d P) 70 [some (.ref 67), some (.int x1), some (.int x2), some (.int x3), some (.int x4), some (.int x5), some (.int x6), none] [.int ((I 73 x6.toNatClampNeg) - x1)] I J) : Go G (fr G m_RM_watches d P) 35 [some (.ref 67), some (.int x1), some (.int x2), some (.int x3), some (.int x4), some (.int x5), some (.int x6), none] [] I J := by
  refine g_iload dc_RM_watches_35 rfl rfl ?_
  refine g_aload_n dc_RM_watches_37 rfl rfl rfl ?_
  refine g_get (C := "LevelBreaksModel") (T := T_RM) (N := 45) (k := 7) (v := .int (I 67 7)) sh_67 (by decide) rfl rfl i_RM (by decide) fl_RM_145 (Or.inl rfl) rfl dc_RM_watches_38 rfl ?_
  refine g_ic_ge (tgt := 132) dc_RM_watches_41 rfl (by decide) (fun c1 => ?_) (fun c1 => ?_)
  · exact g_vret rfl dc_RM_watches_132 (q1 c1)
  · refine g_iload dc_RM_watches_44 rfl rfl ?_
    refine g_if_ne (tgt := 61) dc_RM_watches_46 rfl (by decide) (fun c2 => ?_) (fun c2 => ?_)
    · refine g_iload_n dc_RM_watches_61 rfl rfl rfl ?_
      refine g_aload_n dc_RM_watches_62 rfl rfl rfl ?_
      refine g_get (C := "LevelBreaksModel") (T := T_RM) (N := 45) (k := 8) (v := .ref 73) sh_67 (by decide) rfl rfl i_RM (by decide) fl_RM_29 (Or.inl rfl) rfl dc_RM_watches_63 rfl ?_
      refine g_iload dc_RM_watches_66 rfl rfl ?_
      refine g_ialdv (v := (I 73 x6.toNatClampNeg)) sh_73 (b2 c1 c2) rfl dc_RM_watches_68 rfl ?_
      refine g_isub dc_RM_watches_69 rfl ?_
      exact (k3 c1 c2)
    · refine g_aload_n dc_RM_watches_49 rfl rfl rfl ?_
      refine g_get (C := "LevelBreaksModel") (T := T_RM) (N := 45) (k := 8) (v := .ref 73) sh_67 (by decide) rfl rfl i_RM (by decide) fl_RM_29 (Or.inl rfl) rfl dc_RM_watches_50 rfl ?_
      refine g_iload dc_RM_watches_53 rfl rfl ?_
      refine g_ialdv (v := (I 73 x6.toNatClampNeg)) sh_73 (b4 c1 c2) rfl dc_RM_watches_55 rfl ?_
      refine g_iload_n dc_RM_watches_56 rfl rfl rfl ?_
      refine g_isub dc_RM_watches_57 rfl ?_
      refine g_goto (tgt := 70) dc_RM_watches_58 (by decide) ?_
      exact (k5 c1 c2)
theorem w_RM_watches_70 {G : GC} {d : Nat} {P : PT} {I : MI} {J : MJ} {x1 : Int32} {x2 : Int32} {x3 : Int32} {x4 : Int32} {x5 : Int32} {x6 : Int32} {y0 : Int32} (k1 : (0 ≤ (x5 + (y0 - x2))) → Go G (fr G m_RM_watches d P) 92 [some (.ref 67), some (.int x1), some (.int x2), some (.int x3), some (.int x4), none, some (.int x6), none] [.int (x5 + (y0 - x2))] I J) (k2 : (¬ (0 ≤ (x5 + (y0 - x2)))) → Go G (fr G m_RM_watches d P) 92 [some (.ref 67), some (.int x1), some (.int x2), some (.int x3), some (.int x4), none, some (.int x6), none] [.int 0] I J) : Go G (fr G m_RM_watches d P) 70 [some (.ref 67), some (.int x1), some (.int x2), some (.int x3), some (.int x4), some (.int x5), some (.int x6), none] [.int y0] I J := by
  refine g_istore (L' := [some (.ref 67), some (.int x1), some (.int x2), some (.int x3), some (.int x4), some (.int x5), some (.int x6), some (.int y0)]) dc_RM_watches_70 rfl (Nat.le_of_ble_eq_true rfl) rfl ?_
  refine g_iload dc_RM_watches_72 rfl rfl ?_
  refine g_iload dc_RM_watches_74 rfl rfl ?_
  refine g_iload_n dc_RM_watches_76 rfl rfl rfl ?_
  refine g_isub dc_RM_watches_77 rfl ?_
  refine g_iadd dc_RM_watches_78 rfl ?_
  refine g_istore (L' := [some (.ref 67), some (.int x1), some (.int x2), some (.int x3), some (.int x4), some (.int (x5 + (y0 - x2))), some (.int x6), some (.int y0)]) dc_RM_watches_79 rfl (Nat.le_of_ble_eq_true rfl) rfl ?_
  refine g_iload dc_RM_watches_81 rfl rfl ?_
  refine g_if_ge (tgt := 90) dc_RM_watches_83 rfl (by decide) (fun c1 => ?_) (fun c1 => ?_)
  · refine g_iload dc_RM_watches_90 rfl rfl ?_
    refine g_weak [some (.ref 67), some (.int x1), some (.int x2), some (.int x3), some (.int x4), none, some (.int x6), none] ⟨rfl, ⟨rfl, ⟨rfl, ⟨rfl, ⟨rfl, ⟨rfl, trivial⟩⟩⟩⟩⟩⟩ ?_
    exact (k1 c1)
  · refine g_iconst (v := 0) dc_RM_watches_86 rfl (by decide) ?_
    refine g_goto (tgt := 92) dc_RM_watches_87 (by decide) ?_
    refine g_weak [some (.ref 67), some (.int x1), some (.int x2), some (.int x3), some (.int x4), none, some (.int x6), none] ⟨rfl, ⟨rfl, ⟨rfl, ⟨rfl, ⟨rfl, ⟨rfl, trivial⟩⟩⟩⟩⟩⟩ ?_
    exact (k2 c1)
theorem w_RM_watches_92 {G : GC} {d : Nat} {P : PT} {I : MI} {J : MJ} {x1 : Int32} {x2 : Int32} {x3 : Int32} {x4 : Int32} {x6 : Int32} {y0 : Int32} (k1 : (y0 < x3) → Go G (fr G m_RM_watches d P) 126 [some (.ref 67), some (.int x1), some (.int x2), some (.int x3), some (.int x4), some (.int y0), some (.int x6), none] [] I J) (b2 : (¬ (y0 < x3)) → vp_in x6 40) (b3 : (¬ (y0 < x3)) → vp_in (I 74 x6.toNatClampNeg) 40) (k4 : (¬ (y0 < x3)) → Go G (fr G m_RM_watches d P) 126 [some (.ref 67), some (.int x1), some (.int x2), some (.int x3), some (.int x4), some (.int 0), some (.int x6), none] [] (u2 (u2 I 90 (I 74 x6.toNatClampNeg).toNatClampNeg 1) 67 29 ((I 67 29) + 1)) J) : Go G (fr G m_RM_watches d P) 92 [some (.ref 67), some (.int x1), some (.int x2), some (.int x3), some (.int x4), none, some (.int x6), none] [.int y0] I J := by
  refine g_istore (L' := [some (.ref 67), some (.int x1), some (.int x2), some (.int x3), some (.int x4), some (.int y0), some (.int x6), none]) dc_RM_watches_92 rfl (Nat.le_of_ble_eq_true rfl) rfl ?_
  refine g_iload dc_RM_watches_94 rfl rfl ?_
  refine g_iload_n dc_RM_watches_96 rfl rfl rfl ?_
  refine g_ic_lt (tgt := 126) dc_RM_watches_97 rfl (by decide) (fun c1 => ?_) (fun c1 => ?_)
  · exact (k1 c1)
  · refine g_aload_n dc_RM_watches_100 rfl rfl rfl ?_
    refine g_get (C := "LevelBreaksModel") (T := T_RM) (N := 45) (k := 30) (v := .ref 90) sh_67 (by decide) rfl rfl i_RM (by decide) fl_RM_81 (Or.inl rfl) rfl dc_RM_watches_101 rfl ?_
    refine g_aload_n dc_RM_watches_104 rfl rfl rfl ?_
    refine g_get (C := "LevelBreaksModel") (T := T_RM) (N := 45) (k := 9) (v := .ref 74) sh_67 (by decide) rfl rfl i_RM (by decide) fl_RM_32 (Or.inl rfl) rfl dc_RM_watches_105 rfl ?_
    refine g_iload dc_RM_watches_108 rfl rfl ?_
    refine g_ialdv (v := (I 74 x6.toNatClampNeg)) sh_74 (b2 c1) rfl dc_RM_watches_110 rfl ?_
    refine g_iconst (v := 1) dc_RM_watches_111 rfl (by decide) ?_
    refine g_zast sh_90 (b3 c1) (by decide) dc_RM_watches_112 rfl ?_
    refine g_aload_n dc_RM_watches_113 rfl rfl rfl ?_
    refine g_dup dc_RM_watches_114 rfl rfl ?_
    refine g_get (C := "LevelBreaksModel") (T := T_RM) (N := 45) (k := 29) (v := .int (I 67 29)) sh_67 (by decide) rfl rfl i_RM (by decide) fl_RM_279 (Or.inl rfl) rfl dc_RM_watches_115 rfl ?_
    refine g_iconst (v := 1) dc_RM_watches_118 rfl (by decide) ?_
    refine g_iadd dc_RM_watches_119 rfl ?_
    refine g_putI (C := "LevelBreaksModel") (T := T_RM) (N := 45) (k := 29) (ty := t_RM) sh_67 (by decide) rfl rfl i_RM p_RM n_RM (by decide) fl_RM_279 (Or.inl rfl) rfl (by decide) dc_RM_watches_120 rfl ?_
    refine g_iconst (v := 0) dc_RM_watches_123 rfl (by decide) ?_
    refine g_istore (L' := [some (.ref 67), some (.int x1), some (.int x2), some (.int x3), some (.int x4), some (.int 0), some (.int x6), none]) dc_RM_watches_124 rfl (Nat.le_of_ble_eq_true rfl) rfl ?_
    exact (k4 c1)
theorem w_RM_watches_126 {G : GC} {d : Nat} {P : PT} {I : MI} {J : MJ} {x1 : Int32} {x2 : Int32} {x3 : Int32} {x4 : Int32} {x5 : Int32} {x6 : Int32} (k1 : Go G (fr G m_RM_watches d P) 35 [some (.ref 67), some (.int x1), some (.int x2), some (.int x3), some (.int x4), some (.int x5), some (.int (x6 + 1)), none] [] I J) : Go G (fr G m_RM_watches d P) 126 [some (.ref 67), some (.int x1), some (.int x2), some (.int x3), some (.int x4), some (.int x5), some (.int x6), none] [] I J := by
  refine g_iinc (v := (x6 + 1)) (L' := [some (.ref 67), some (.int x1), some (.int x2), some (.int x3), some (.int x4), some (.int x5), some (.int (x6 + 1)), none]) dc_RM_watches_126 rfl rfl (by rw [show Int32.ofInt 1 = 1 from by decide]) (Nat.le_of_ble_eq_true rfl) rfl ?_
  refine g_goto (tgt := 35) dc_RM_watches_129 (by decide) ?_
  exact k1
theorem dc_RM_wipe_0 : decode prog_14_method_63_code 0 = .ok (.aload_n 0, 1) := by decide +kernel
theorem dc_RM_wipe_1 : decode prog_14_method_63_code 1 = .ok (.getfield 296, 3) := by decide +kernel
theorem dc_RM_wipe_4 : decode prog_14_method_63_code 4 = .ok (.istore_n 1, 1) := by decide +kernel
theorem dc_RM_wipe_5 : decode prog_14_method_63_code 5 = .ok (.aload_n 0, 1) := by decide +kernel
theorem dc_RM_wipe_6 : decode prog_14_method_63_code 6 = .ok (.iconst 0, 1) := by decide +kernel
theorem dc_RM_wipe_7 : decode prog_14_method_63_code 7 = .ok (.putfield 296, 3) := by decide +kernel
theorem dc_RM_wipe_10 : decode prog_14_method_63_code 10 = .ok (.iload_n 1, 1) := by decide +kernel
theorem dc_RM_wipe_11 : decode prog_14_method_63_code 11 = .ok (.ireturn, 1) := by decide +kernel
theorem w_RM_wipe_0 {G : GC} {d : Nat} {P : PT} {I : MI} {J : MJ}  (q1 : P (some (.int (I 67 31))) (u2 I 67 31 0) J) : Go G (fr G m_RM_wipe d P) 0 [some (.ref 67), none] [] I J := by
  refine g_aload_n dc_RM_wipe_0 rfl rfl rfl ?_
  refine g_get (C := "LevelBreaksModel") (T := T_RM) (N := 45) (k := 31) (v := .int (I 67 31)) sh_67 (by decide) rfl rfl i_RM (by decide) fl_RM_296 (Or.inl rfl) rfl dc_RM_wipe_1 rfl ?_
  refine g_istore_n (L' := [some (.ref 67), some (.int (I 67 31))]) dc_RM_wipe_4 rfl rfl (Nat.le_of_ble_eq_true rfl) rfl ?_
  refine g_aload_n dc_RM_wipe_5 rfl rfl rfl ?_
  refine g_iconst (v := 0) dc_RM_wipe_6 rfl (by decide) ?_
  refine g_putI (C := "LevelBreaksModel") (T := T_RM) (N := 45) (k := 31) (ty := t_RM) sh_67 (by decide) rfl rfl i_RM p_RM n_RM (by decide) fl_RM_296 (Or.inl rfl) rfl (by decide) dc_RM_wipe_7 rfl ?_
  refine g_iload_n dc_RM_wipe_10 rfl rfl rfl ?_
  exact g_iret rfl dc_RM_wipe_11 q1
theorem dc_RM_write_0 : decode prog_14_method_80_code 0 = .ok (.iload_n 1, 1) := by decide +kernel
theorem dc_RM_write_1 : decode prog_14_method_80_code 1 = .ok (.invokestatic 119, 3) := by decide +kernel
theorem dc_RM_write_4 : decode prog_14_method_80_code 4 = .ok (.ifCond .eq 10, 3) := by decide +kernel
theorem dc_RM_write_7 : decode prog_14_method_80_code 7 = .ok (.iload_n 2, 1) := by decide +kernel
theorem dc_RM_write_8 : decode prog_14_method_80_code 8 = .ok (.invokestatic 134, 3) := by decide +kernel
theorem dc_RM_write_11 : decode prog_14_method_80_code 11 = .ok (.ifCond .ne 6, 3) := by decide +kernel
theorem dc_RM_write_14 : decode prog_14_method_80_code 14 = .ok (.bipush (-2), 2) := by decide +kernel
theorem dc_RM_write_16 : decode prog_14_method_80_code 16 = .ok (.ireturn, 1) := by decide +kernel
theorem dc_RM_write_17 : decode prog_14_method_80_code 17 = .ok (.aload_n 0, 1) := by decide +kernel
theorem dc_RM_write_18 : decode prog_14_method_80_code 18 = .ok (.getfield 97, 3) := by decide +kernel
theorem dc_RM_write_21 : decode prog_14_method_80_code 21 = .ok (.iload_n 2, 1) := by decide +kernel
theorem dc_RM_write_22 : decode prog_14_method_80_code 22 = .ok (.baload, 1) := by decide +kernel
theorem dc_RM_write_23 : decode prog_14_method_80_code 23 = .ok (.ifCond .ne 9, 3) := by decide +kernel
theorem dc_RM_write_26 : decode prog_14_method_80_code 26 = .ok (.aload_n 0, 1) := by decide +kernel
theorem dc_RM_write_27 : decode prog_14_method_80_code 27 = .ok (.iconst 1, 1) := by decide +kernel
theorem dc_RM_write_28 : decode prog_14_method_80_code 28 = .ok (.invokevirtual 137, 3) := by decide +kernel
theorem dc_RM_write_31 : decode prog_14_method_80_code 31 = .ok (.ireturn, 1) := by decide +kernel
theorem dc_RM_write_32 : decode prog_14_method_80_code 32 = .ok (.iconst 0, 1) := by decide +kernel
theorem dc_RM_write_33 : decode prog_14_method_80_code 33 = .ok (.istore_n 3, 1) := by decide +kernel
theorem dc_RM_write_34 : decode prog_14_method_80_code 34 = .ok (.iload_n 3, 1) := by decide +kernel
theorem dc_RM_write_35 : decode prog_14_method_80_code 35 = .ok (.bipush 40, 2) := by decide +kernel
theorem dc_RM_write_37 : decode prog_14_method_80_code 37 = .ok (.if_icmp .ge 35, 3) := by decide +kernel
theorem dc_RM_write_40 : decode prog_14_method_80_code 40 = .ok (.iload_n 3, 1) := by decide +kernel
theorem dc_RM_write_41 : decode prog_14_method_80_code 41 = .ok (.aload_n 0, 1) := by decide +kernel
theorem dc_RM_write_42 : decode prog_14_method_80_code 42 = .ok (.getfield 103, 3) := by decide +kernel
theorem dc_RM_write_45 : decode prog_14_method_80_code 45 = .ok (.iload_n 2, 1) := by decide +kernel
theorem dc_RM_write_46 : decode prog_14_method_80_code 46 = .ok (.iaload, 1) := by decide +kernel
theorem dc_RM_write_47 : decode prog_14_method_80_code 47 = .ok (.if_icmp .ge 25, 3) := by decide +kernel
theorem dc_RM_write_50 : decode prog_14_method_80_code 50 = .ok (.aload_n 0, 1) := by decide +kernel
theorem dc_RM_write_51 : decode prog_14_method_80_code 51 = .ok (.iload_n 2, 1) := by decide +kernel
theorem dc_RM_write_52 : decode prog_14_method_80_code 52 = .ok (.iload_n 3, 1) := by decide +kernel
theorem dc_RM_write_53 : decode prog_14_method_80_code 53 = .ok (.aload_n 0, 1) := by decide +kernel
theorem dc_RM_write_54 : decode prog_14_method_80_code 54 = .ok (.iload_n 1, 1) := by decide +kernel
theorem dc_RM_write_55 : decode prog_14_method_80_code 55 = .ok (.iload_n 3, 1) := by decide +kernel
theorem dc_RM_write_56 : decode prog_14_method_80_code 56 = .ok (.aload_n 0, 1) := by decide +kernel
theorem dc_RM_write_57 : decode prog_14_method_80_code 57 = .ok (.getfield 22, 3) := by decide +kernel
theorem dc_RM_write_60 : decode prog_14_method_80_code 60 = .ok (.invokevirtual 141, 3) := by decide +kernel
theorem dc_RM_write_63 : decode prog_14_method_80_code 63 = .ok (.invokevirtual 330, 3) := by decide +kernel
theorem dc_RM_write_66 : decode prog_14_method_80_code 66 = .ok (.iinc 3 1, 3) := by decide +kernel
theorem dc_RM_write_69 : decode prog_14_method_80_code 69 = .ok (.goto (-35), 3) := by decide +kernel
theorem dc_RM_write_72 : decode prog_14_method_80_code 72 = .ok (.iload_n 3, 1) := by decide +kernel
theorem dc_RM_write_73 : decode prog_14_method_80_code 73 = .ok (.ireturn, 1) := by decide +kernel
theorem w_RM_write_0 {G : GC} {d : Nat} {P : PT} {I : MI} {J : MJ} {x1 : Int32} {x2 : Int32} (k1 : ((f_RM_isRow x1) = 0) → Go G (fr G m_RM_write (d + 2) P) 14 [none, none, none, none] [] I J) (b2 : (¬ ((f_RM_isRow x1) = 0)) → (¬ (f_RM_isSheet x2) = 0) → vp_in x2 4) (k3 : (¬ ((f_RM_isRow x1) = 0)) → (¬ (f_RM_isSheet x2) = 0) → (¬ (I 95 x2.toNatClampNeg) = 0) → Go G (fr G m_RM_write (d + 2) P) 34 [some (.ref 67), some (.int x1), some (.int x2), some (.int 0)] [] I J) (k4 : (¬ ((f_RM_isRow x1) = 0)) → (¬ (f_RM_isSheet x2) = 0) → ((I 95 x2.toNatClampNeg) = 0) → Ct G (d + 1) m_RM_meets [.ref 67, .int 1] (fun r I' J' => Go G (fr G m_RM_write (d + 2) P) 31 [none, none, none, none] (r.toList ++ []) I' J') I J) (k5 : (¬ ((f_RM_isRow x1) = 0)) → ((f_RM_isSheet x2) = 0) → Go G (fr G m_RM_write (d + 2) P) 14 [none, none, none, none] [] I J) : Go G (fr G m_RM_write (d + 2) P) 0 [some (.ref 67), some (.int x1), some (.int x2), none] [] I J := by
  refine g_iload_n dc_RM_write_0 rfl rfl rfl ?_
  refine g_callS (M := m_RM_isRow) (As := [.int x1]) (rest := []) ok_RM_isRow st_RM_isRow ml_RM_119 rfl rfl (Nat.le_of_ble_eq_true rfl) dc_RM_write_1 rfl rOk_fr (c_RM_isRow ?_)
  show Go G (fr G m_RM_write (d + 2) P) 4 [some (.ref 67), some (.int x1), some (.int x2), none] [.int (f_RM_isRow x1)] I J
  refine g_if_eq (tgt := 14) dc_RM_write_4 rfl (by decide) (fun c1 => ?_) (fun c1 => ?_)
  · refine g_weak [none, none, none, none] trivial ?_
    exact (k1 c1)
  · refine g_iload_n dc_RM_write_7 rfl rfl rfl ?_
    refine g_callS (M := m_RM_isSheet) (As := [.int x2]) (rest := []) ok_RM_isSheet st_RM_isSheet ml_RM_134 rfl rfl (Nat.le_of_ble_eq_true rfl) dc_RM_write_8 rfl rOk_fr (c_RM_isSheet ?_)
    show Go G (fr G m_RM_write (d + 2) P) 11 [some (.ref 67), some (.int x1), some (.int x2), none] [.int (f_RM_isSheet x2)] I J
    refine g_if_ne (tgt := 17) dc_RM_write_11 rfl (by decide) (fun c2 => ?_) (fun c2 => ?_)
    · refine g_aload_n dc_RM_write_17 rfl rfl rfl ?_
      refine g_get (C := "LevelBreaksModel") (T := T_RM) (N := 45) (k := 39) (v := .ref 95) sh_67 (by decide) rfl rfl i_RM (by decide) fl_RM_97 (Or.inl rfl) rfl dc_RM_write_18 rfl ?_
      refine g_iload_n dc_RM_write_21 rfl rfl rfl ?_
      refine g_zaldv (v := (I 95 x2.toNatClampNeg)) sh_95 (b2 c1 c2) rfl dc_RM_write_22 rfl ?_
      refine g_if_ne (tgt := 32) dc_RM_write_23 rfl (by decide) (fun c3 => ?_) (fun c3 => ?_)
      · refine g_iconst (v := 0) dc_RM_write_32 rfl (by decide) ?_
        refine g_istore_n (L' := [some (.ref 67), some (.int x1), some (.int x2), some (.int 0)]) dc_RM_write_33 rfl rfl (Nat.le_of_ble_eq_true rfl) rfl ?_
        exact (k3 c1 c2 c3)
      · refine g_aload_n dc_RM_write_26 rfl rfl rfl ?_
        refine g_iconst (v := 1) dc_RM_write_27 rfl (by decide) ?_
        refine g_weak [none, none, none, none] trivial ?_
        exact g_callV (T := T_RM) (N := 45) (As := [.int 1]) (rest := []) ok_RM_meets in_RM_meets se_RM_meets ml_RM_137 sh_67 (by decide) rfl rfl rfl (Nat.le_of_ble_eq_true rfl) dc_RM_write_28 rfl rOk_fr (k4 c1 c2 c3)
    · refine g_weak [none, none, none, none] trivial ?_
      exact (k5 c1 c2)
theorem w_RM_write_14 {G : GC} {d : Nat} {P : PT} {I : MI} {J : MJ}  (q1 : P (some (.int (-2))) I J) : Go G (fr G m_RM_write (d + 2) P) 14 [none, none, none, none] [] I J := by
  refine g_bipush (v := (-2)) dc_RM_write_14 rfl (by decide) ?_
  exact g_iret rfl dc_RM_write_16 q1
theorem w_RM_write_31 {G : GC} {d : Nat} {P : PT} {I : MI} {J : MJ} {y0 : Int32} (q1 : P (some (.int y0)) I J) : Go G (fr G m_RM_write (d + 2) P) 31 [none, none, none, none] [.int y0] I J := by
  exact g_iret rfl dc_RM_write_31 q1
theorem w_RM_write_34 {G : GC} {d : Nat} {P : PT} {I : MI} {J : MJ} {x1 : Int32} {x2 : Int32} {x3 : Int32} (k1 : (40 ≤ x3) → Go G (fr G m_RM_write (d + 2) P) 72 [none, none, none, some (.int x3)] [] I J) (b2 : (¬ (40 ≤ x3)) → vp_in x2 4) (k3 : (¬ (40 ≤ x3)) → ((I 97 x2.toNatClampNeg) ≤ x3) → Go G (fr G m_RM_write (d + 2) P) 72 [none, none, none, some (.int x3)] [] I J) (k4 : (¬ (40 ≤ x3)) → (¬ ((I 97 x2.toNatClampNeg) ≤ x3)) → Ct G (d + 1) m_RM_valueAt [.ref 67, .int x1, .int x3, .int (I 67 5)] (fun r I' J' => Go G (fr G m_RM_write (d + 2) P) 63 [some (.ref 67), some (.int x1), some (.int x2), some (.int x3)] (r.toList ++ [.int x3, .int x2, .ref 67]) I' J') I J) : Go G (fr G m_RM_write (d + 2) P) 34 [some (.ref 67), some (.int x1), some (.int x2), some (.int x3)] [] I J := by
  refine g_iload_n dc_RM_write_34 rfl rfl rfl ?_
  refine g_bipush (v := 40) dc_RM_write_35 rfl (by decide) ?_
  refine g_ic_ge (tgt := 72) dc_RM_write_37 rfl (by decide) (fun c1 => ?_) (fun c1 => ?_)
  · refine g_weak [none, none, none, some (.int x3)] ⟨rfl, trivial⟩ ?_
    exact (k1 c1)
  · refine g_iload_n dc_RM_write_40 rfl rfl rfl ?_
    refine g_aload_n dc_RM_write_41 rfl rfl rfl ?_
    refine g_get (C := "LevelBreaksModel") (T := T_RM) (N := 45) (k := 41) (v := .ref 97) sh_67 (by decide) rfl rfl i_RM (by decide) fl_RM_103 (Or.inl rfl) rfl dc_RM_write_42 rfl ?_
    refine g_iload_n dc_RM_write_45 rfl rfl rfl ?_
    refine g_ialdv (v := (I 97 x2.toNatClampNeg)) sh_97 (b2 c1) rfl dc_RM_write_46 rfl ?_
    refine g_ic_ge (tgt := 72) dc_RM_write_47 rfl (by decide) (fun c2 => ?_) (fun c2 => ?_)
    · refine g_weak [none, none, none, some (.int x3)] ⟨rfl, trivial⟩ ?_
      exact (k3 c1 c2)
    · refine g_aload_n dc_RM_write_50 rfl rfl rfl ?_
      refine g_iload_n dc_RM_write_51 rfl rfl rfl ?_
      refine g_iload_n dc_RM_write_52 rfl rfl rfl ?_
      refine g_aload_n dc_RM_write_53 rfl rfl rfl ?_
      refine g_iload_n dc_RM_write_54 rfl rfl rfl ?_
      refine g_iload_n dc_RM_write_55 rfl rfl rfl ?_
      refine g_aload_n dc_RM_write_56 rfl rfl rfl ?_
      refine g_get (C := "LevelBreaksModel") (T := T_RM) (N := 45) (k := 5) (v := .int (I 67 5)) sh_67 (by decide) rfl rfl i_RM (by decide) fl_RM_22 (Or.inl rfl) rfl dc_RM_write_57 rfl ?_
      exact g_callV (T := T_RM) (N := 45) (As := [.int x1, .int x3, .int (I 67 5)]) (rest := [.int x3, .int x2, .ref 67]) ok_RM_valueAt in_RM_valueAt se_RM_valueAt ml_RM_141 sh_67 (by decide) rfl rfl rfl (Nat.le_of_ble_eq_true rfl) dc_RM_write_60 rfl rOk_fr (k4 c1 c2)
theorem w_RM_write_63 {G : GC} {d : Nat} {P : PT} {I : MI} {J : MJ} {x1 : Int32} {x2 : Int32} {x3 : Int32} {y1 : Int32} {y2 : Int32} {y3 : Int32} (k1 : Ct G (d + 1) m_RM_lay [.ref 67, .int y1, .int y2, .int y3] (fun r I' J' => Go G (fr G m_RM_write (d + 2) P) 66 [some (.ref 67), some (.int x1), some (.int x2), some (.int x3)] (r.toList ++ []) I' J') I J) : Go G (fr G m_RM_write (d + 2) P) 63 [some (.ref 67), some (.int x1), some (.int x2), some (.int x3)] [.int y3, .int y2, .int y1, .ref 67] I J := by
  exact g_callV (T := T_RM) (N := 45) (As := [.int y1, .int y2, .int y3]) (rest := []) ok_RM_lay in_RM_lay se_RM_lay ml_RM_330 sh_67 (by decide) rfl rfl rfl (Nat.le_of_ble_eq_true rfl) dc_RM_write_63 rfl rOk_fr k1
theorem w_RM_write_66 {G : GC} {d : Nat} {P : PT} {I : MI} {J : MJ} {x1 : Int32} {x2 : Int32} {x3 : Int32} (k1 : Go G (fr G m_RM_write (d + 2) P) 34 [some (.ref 67), some (.int x1), some (.int x2), some (.int (x3 + 1))] [] I J) : Go G (fr G m_RM_write (d + 2) P) 66 [some (.ref 67), some (.int x1), some (.int x2), some (.int x3)] [] I J := by
  refine g_iinc (v := (x3 + 1)) (L' := [some (.ref 67), some (.int x1), some (.int x2), some (.int (x3 + 1))]) dc_RM_write_66 rfl rfl (by rw [show Int32.ofInt 1 = 1 from by decide]) (Nat.le_of_ble_eq_true rfl) rfl ?_
  refine g_goto (tgt := 34) dc_RM_write_69 (by decide) ?_
  exact k1
theorem w_RM_write_72 {G : GC} {d : Nat} {P : PT} {I : MI} {J : MJ} {x3 : Int32} (q1 : P (some (.int x3)) I J) : Go G (fr G m_RM_write (d + 2) P) 72 [none, none, none, some (.int x3)] [] I J := by
  refine g_iload_n dc_RM_write_72 rfl rfl rfl ?_
  exact g_iret rfl dc_RM_write_73 q1
