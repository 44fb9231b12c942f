theorem dc_LB_alarm_0 : decode prog_1_method_19_code 0 = .ok (.iload_n 1, 1) := by decide +kernel
theorem dc_LB_alarm_1 : decode prog_1_method_19_code 1 = .ok (.iload_n 2, 1) := by decide +kernel
theorem dc_LB_alarm_2 : decode prog_1_method_19_code 2 = .ok (.iload_n 3, 1) := by decide +kernel
theorem dc_LB_alarm_3 : decode prog_1_method_19_code 3 = .ok (.iload 5, 2) := by decide +kernel
theorem dc_LB_alarm_5 : decode prog_1_method_19_code 5 = .ok (.invokestatic 227, 3) := by decide +kernel
theorem dc_LB_alarm_8 : decode prog_1_method_19_code 8 = .ok (.ifCond .eq 25, 3) := by decide +kernel
theorem dc_LB_alarm_11 : decode prog_1_method_19_code 11 = .ok (.iload 4, 2) := by decide +kernel
theorem dc_LB_alarm_13 : decode prog_1_method_19_code 13 = .ok (.invokestatic 231, 3) := by decide +kernel
theorem dc_LB_alarm_16 : decode prog_1_method_19_code 16 = .ok (.ifCond .eq 17, 3) := by decide +kernel
theorem dc_LB_alarm_19 : decode prog_1_method_19_code 19 = .ok (.iload 6, 2) := by decide +kernel
theorem dc_LB_alarm_21 : decode prog_1_method_19_code 21 = .ok (.iconst (-1), 1) := by decide +kernel
theorem dc_LB_alarm_22 : decode prog_1_method_19_code 22 = .ok (.if_icmp .eq 14, 3) := by decide +kernel
theorem dc_LB_alarm_25 : decode prog_1_method_19_code 25 = .ok (.iload 6, 2) := by decide +kernel
theorem dc_LB_alarm_27 : decode prog_1_method_19_code 27 = .ok (.invokestatic 73, 3) := by decide +kernel
theorem dc_LB_alarm_30 : decode prog_1_method_19_code 30 = .ok (.ifCond .ne 6, 3) := by decide +kernel
theorem dc_LB_alarm_33 : decode prog_1_method_19_code 33 = .ok (.bipush (-2), 2) := by decide +kernel
theorem dc_LB_alarm_35 : decode prog_1_method_19_code 35 = .ok (.ireturn, 1) := by decide +kernel
theorem dc_LB_alarm_36 : decode prog_1_method_19_code 36 = .ok (.aload_n 0, 1) := by decide +kernel
theorem dc_LB_alarm_37 : decode prog_1_method_19_code 37 = .ok (.getfield 44, 3) := by decide +kernel
theorem dc_LB_alarm_40 : decode prog_1_method_19_code 40 = .ok (.aload_n 0, 1) := by decide +kernel
theorem dc_LB_alarm_41 : decode prog_1_method_19_code 41 = .ok (.getfield 19, 3) := by decide +kernel
theorem dc_LB_alarm_44 : decode prog_1_method_19_code 44 = .ok (.iload_n 1, 1) := by decide +kernel
theorem dc_LB_alarm_45 : decode prog_1_method_19_code 45 = .ok (.aaload, 1) := by decide +kernel
theorem dc_LB_alarm_46 : decode prog_1_method_19_code 46 = .ok (.iload_n 2, 1) := by decide +kernel
theorem dc_LB_alarm_47 : decode prog_1_method_19_code 47 = .ok (.iload_n 3, 1) := by decide +kernel
theorem dc_LB_alarm_48 : decode prog_1_method_19_code 48 = .ok (.iload 4, 2) := by decide +kernel
theorem dc_LB_alarm_50 : decode prog_1_method_19_code 50 = .ok (.iload 5, 2) := by decide +kernel
theorem dc_LB_alarm_52 : decode prog_1_method_19_code 52 = .ok (.invokevirtual 234, 3) := by decide +kernel
theorem dc_LB_alarm_55 : decode prog_1_method_19_code 55 = .ok (.iload 6, 2) := by decide +kernel
theorem dc_LB_alarm_57 : decode prog_1_method_19_code 57 = .ok (.iconst (-1), 1) := by decide +kernel
theorem dc_LB_alarm_58 : decode prog_1_method_19_code 58 = .ok (.if_icmp .ne 15, 3) := by decide +kernel
theorem dc_LB_alarm_61 : decode prog_1_method_19_code 61 = .ok (.aload_n 0, 1) := by decide +kernel
theorem dc_LB_alarm_62 : decode prog_1_method_19_code 62 = .ok (.getfield 44, 3) := by decide +kernel
theorem dc_LB_alarm_65 : decode prog_1_method_19_code 65 = .ok (.bipush 40, 2) := by decide +kernel
theorem dc_LB_alarm_67 : decode prog_1_method_19_code 67 = .ok (.invokevirtual 238, 3) := by decide +kernel
theorem dc_LB_alarm_70 : decode prog_1_method_19_code 70 = .ok (.goto 13, 3) := by decide +kernel
theorem dc_LB_alarm_73 : decode prog_1_method_19_code 73 = .ok (.aload_n 0, 1) := by decide +kernel
theorem dc_LB_alarm_74 : decode prog_1_method_19_code 74 = .ok (.getfield 44, 3) := by decide +kernel
theorem dc_LB_alarm_77 : decode prog_1_method_19_code 77 = .ok (.getfield 241, 3) := by decide +kernel
theorem dc_LB_alarm_80 : decode prog_1_method_19_code 80 = .ok (.iload 6, 2) := by decide +kernel
theorem dc_LB_alarm_82 : decode prog_1_method_19_code 82 = .ok (.iaload, 1) := by decide +kernel
theorem dc_LB_alarm_83 : decode prog_1_method_19_code 83 = .ok (.ireturn, 1) := by decide +kernel
theorem w_LB_alarm_0 {G : GC} {d : Nat} {P : PT} {I : MI} {J : MJ} {x1 : Int32} {x2 : Int32} {x3 : Int32} {x4 : Int32} {x5 : Int32} {x6 : Int32} (k1 : ((f_LB_isWatch x1 x2 x3 x5) = 0) → Go G (fr G m_LB_alarm (d + 3) P) 33 [none, none, none, none, none, none, none] [] I J) (k2 : (¬ ((f_LB_isWatch x1 x2 x3 x5) = 0)) → ((f_LB_isLimit x4) = 0) → Go G (fr G m_LB_alarm (d + 3) P) 33 [none, none, none, none, none, none, none] [] I J) (k3 : (¬ ((f_LB_isWatch x1 x2 x3 x5) = 0)) → (¬ ((f_LB_isLimit x4) = 0)) → (x6 = (-1)) → Go G (fr G m_LB_alarm (d + 3) P) 36 [some (.ref 0), some (.int x1), some (.int x2), some (.int x3), some (.int x4), some (.int x5), some (.int x6)] [] I J) (k4 : (¬ ((f_LB_isWatch x1 x2 x3 x5) = 0)) → (¬ ((f_LB_isLimit x4) = 0)) → (¬ (x6 = (-1))) → (¬ (f_LB_isDay x6) = 0) → Go G (fr G m_LB_alarm (d + 3) P) 36 [some (.ref 0), some (.int x1), some (.int x2), some (.int x3), some (.int x4), some (.int x5), some (.int x6)] [] I J) (k5 : (¬ ((f_LB_isWatch x1 x2 x3 x5) = 0)) → (¬ ((f_LB_isLimit x4) = 0)) → (¬ (x6 = (-1))) → ((f_LB_isDay x6) = 0) → Go G (fr G m_LB_alarm (d + 3) P) 33 [none, none, none, none, none, none, none] [] I J) : Go G (fr G m_LB_alarm (d + 3) P) 0 [some (.ref 0), some (.int x1), some (.int x2), some (.int x3), some (.int x4), some (.int x5), some (.int x6)] [] I J := by
  refine g_iload_n dc_LB_alarm_0 rfl rfl rfl ?_
  refine g_iload_n dc_LB_alarm_1 rfl rfl rfl ?_
  refine g_iload_n dc_LB_alarm_2 rfl rfl rfl ?_
  refine g_iload dc_LB_alarm_3 rfl rfl ?_
  refine g_callS (M := m_LB_isWatch) (As := [.int x1, .int x2, .int x3, .int x5]) (rest := []) ok_LB_isWatch st_LB_isWatch ml_LB_227 rfl rfl (Nat.le_of_ble_eq_true rfl) dc_LB_alarm_5 rfl rOk_fr (c_LB_isWatch ?_)
  show Go G (fr G m_LB_alarm (d + 3) P) 8 [some (.ref 0), some (.int x1), some (.int x2), some (.int x3), some (.int x4), some (.int x5), some (.int x6)] [.int (f_LB_isWatch x1 x2 x3 x5)] I J
  refine g_if_eq (tgt := 33) dc_LB_alarm_8 rfl (by decide) (fun c1 => ?_) (fun c1 => ?_)
  · refine g_weak [none, none, none, none, none, none, none] trivial ?_
    exact (k1 c1)
  · refine g_iload dc_LB_alarm_11 rfl rfl ?_
    refine g_callS (M := m_LB_isLimit) (As := [.int x4]) (rest := []) ok_LB_isLimit st_LB_isLimit ml_LB_231 rfl rfl (Nat.le_of_ble_eq_true rfl) dc_LB_alarm_13 rfl rOk_fr (c_LB_isLimit ?_)
    show Go G (fr G m_LB_alarm (d + 3) P) 16 [some (.ref 0), some (.int x1), some (.int x2), some (.int x3), some (.int x4), some (.int x5), some (.int x6)] [.int (f_LB_isLimit x4)] I J
    refine g_if_eq (tgt := 33) dc_LB_alarm_16 rfl (by decide) (fun c2 => ?_) (fun c2 => ?_)
    · refine g_weak [none, none, none, none, none, none, none] trivial ?_
      exact (k2 c1 c2)
    · refine g_iload dc_LB_alarm_19 rfl rfl ?_
      refine g_iconst (v := (-1)) dc_LB_alarm_21 rfl (by decide) ?_
      refine g_ic_eq (tgt := 36) dc_LB_alarm_22 rfl (by decide) (fun c3 => ?_) (fun c3 => ?_)
      · exact (k3 c1 c2 c3)
      · refine g_iload dc_LB_alarm_25 rfl rfl ?_
        refine g_callS (M := m_LB_isDay) (As := [.int x6]) (rest := []) ok_LB_isDay st_LB_isDay ml_LB_73 rfl rfl (Nat.le_of_ble_eq_true rfl) dc_LB_alarm_27 rfl rOk_fr (c_LB_isDay ?_)
        show Go G (fr G m_LB_alarm (d + 3) P) 30 [some (.ref 0), some (.int x1), some (.int x2), some (.int x3), some (.int x4), some (.int x5), some (.int x6)] [.int (f_LB_isDay x6)] I J
        refine g_if_ne (tgt := 36) dc_LB_alarm_30 rfl (by decide) (fun c4 => ?_) (fun c4 => ?_)
        · exact (k4 c1 c2 c3 c4)
        · refine g_weak [none, none, none, none, none, none, none] trivial ?_
          exact (k5 c1 c2 c3 c4)
theorem w_LB_alarm_33 {G : GC} {d : Nat} {P : PT} {I : MI} {J : MJ}  (q1 : P (some (.int (-2))) I J) : Go G (fr G m_LB_alarm (d + 3) P) 33 [none, none, none, none, none, none, none] [] I J := by
  refine g_bipush (v := (-2)) dc_LB_alarm_33 rfl (by decide) ?_
  exact g_iret rfl dc_LB_alarm_35 q1
theorem w_LB_alarm_36 {G : GC} {d : Nat} {P : PT} {I : MI} {J : MJ} {x1 : Int32} {x2 : Int32} {x3 : Int32} {x4 : Int32} {x5 : Int32} {x6 : Int32} (b1 : vp_in x1 4) (k2 : Ct G (d + 2) m_AL_watch [.ref 51, .ref (7 + 5 * x1.toNatClampNeg), .int x2, .int x3, .int x4, .int x5] (fun r I' J' => Go G (fr G m_LB_alarm (d + 3) P) 55 [some (.ref 0), none, none, none, none, none, some (.int x6)] (r.toList ++ []) I' J') I J) : Go G (fr G m_LB_alarm (d + 3) P) 36 [some (.ref 0), some (.int x1), some (.int x2), some (.int x3), some (.int x4), some (.int x5), some (.int x6)] [] I J := by
  refine g_aload_n dc_LB_alarm_36 rfl rfl rfl ?_
  refine g_get (C := "LevelBreaks") (T := T_LB) (N := 11) (k := 6) (v := .ref 51) sh_0 (by decide) rfl rfl i_LB (by decide) fl_LB_44 (Or.inl rfl) rfl dc_LB_alarm_37 rfl ?_
  refine g_aload_n dc_LB_alarm_40 rfl rfl rfl ?_
  refine g_get (C := "LevelBreaks") (T := T_LB) (N := 11) (k := 1) (v := .ref 6) sh_0 (by decide) rfl rfl i_LB (by decide) fl_LB_19 (Or.inl rfl) rfl dc_LB_alarm_41 rfl ?_
  refine g_iload_n dc_LB_alarm_44 rfl rfl rfl ?_
  refine g_aald (r := (7 + 5 * x1.toNatClampNeg)) sh_6 (by decide) rfl b1 (now_at (vin_lt b1)) dc_LB_alarm_45 rfl ?_
  refine g_iload_n dc_LB_alarm_46 rfl rfl rfl ?_
  refine g_iload_n dc_LB_alarm_47 rfl rfl rfl ?_
  refine g_iload dc_LB_alarm_48 rfl rfl ?_
  refine g_iload dc_LB_alarm_50 rfl rfl ?_
  refine g_weak [some (.ref 0), none, none, none, none, none, some (.int x6)] ⟨rfl, ⟨rfl, trivial⟩⟩ ?_
  exact g_callV (T := T_AL) (N := 1) (As := [.ref (7 + 5 * x1.toNatClampNeg), .int x2, .int x3, .int x4, .int x5]) (rest := []) ok_AL_watch in_AL_watch se_AL_watch ml_LB_234 sh_51 (by decide) rfl rfl rfl (Nat.le_of_ble_eq_true rfl) dc_LB_alarm_52 rfl rOk_fr k2
theorem w_LB_alarm_55 {G : GC} {d : Nat} {P : PT} {I : MI} {J : MJ} {x6 : Int32} (b1 : (¬ x6 = (-1)) → vp_in x6 40) (q2 : (¬ x6 = (-1)) → P (some (.int (I 52 x6.toNatClampNeg))) I J) (k3 : (x6 = (-1)) → Ct G (d + 2) m_AL_countBefore [.ref 51, .int 40] (fun r I' J' => Go G (fr G m_LB_alarm (d + 3) P) 70 [none, none, none, none, none, none, none] (r.toList ++ []) I' J') I J) : Go G (fr G m_LB_alarm (d + 3) P) 55 [some (.ref 0), none, none, none, none, none, some (.int x6)] [] I J := by
  refine g_iload dc_LB_alarm_55 rfl rfl ?_
  refine g_iconst (v := (-1)) dc_LB_alarm_57 rfl (by decide) ?_
  refine g_ic_ne (tgt := 73) dc_LB_alarm_58 rfl (by decide) (fun c1 => ?_) (fun c1 => ?_)
  · refine g_aload_n dc_LB_alarm_73 rfl rfl rfl ?_
    refine g_get (C := "LevelBreaks") (T := T_LB) (N := 11) (k := 6) (v := .ref 51) sh_0 (by decide) rfl rfl i_LB (by decide) fl_LB_44 (Or.inl rfl) rfl dc_LB_alarm_74 rfl ?_
    refine g_get (C := "LevelBreaks$Alarms") (T := T_AL) (N := 1) (k := 0) (v := .ref 52) sh_51 (by decide) rfl rfl i_AL (by decide) fl_LB_241 (Or.inl rfl) rfl dc_LB_alarm_77 rfl ?_
    refine g_iload dc_LB_alarm_80 rfl rfl ?_
    refine g_ialdv (v := (I 52 x6.toNatClampNeg)) sh_52 (b1 c1) rfl dc_LB_alarm_82 rfl ?_
    exact g_iret rfl dc_LB_alarm_83 (q2 c1)
  · refine g_aload_n dc_LB_alarm_61 rfl rfl rfl ?_
    refine g_get (C := "LevelBreaks") (T := T_LB) (N := 11) (k := 6) (v := .ref 51) sh_0 (by decide) rfl rfl i_LB (by decide) fl_LB_44 (Or.inl rfl) rfl dc_LB_alarm_62 rfl ?_
    refine g_bipush (v := 40) dc_LB_alarm_65 rfl (by decide) ?_
    refine g_weak [none, none, none, none, none, none, none] trivial ?_
    exact g_callV (T := T_AL) (N := 1) (As := [.int 40]) (rest := []) ok_AL_countBefore in_AL_countBefore se_AL_countBefore ml_LB_238 sh_51 (by decide) rfl rfl rfl (Nat.le_of_ble_eq_true rfl) dc_LB_alarm_67 rfl rOk_fr (k3 c1)
theorem w_LB_alarm_70 {G : GC} {d : Nat} {P : PT} {I : MI} {J : MJ} {y0 : Int32} (q1 : P (some (.int y0)) I J) : Go G (fr G m_LB_alarm (d + 3) P) 70 [none, none, none, none, none, none, none] [.int y0] I J := by
  refine g_goto (tgt := 83) dc_LB_alarm_70 (by decide) ?_
  exact g_iret rfl dc_LB_alarm_83 q1
theorem dc_LB_asOf_0 : decode prog_1_method_4_code 0 = .ok (.iload_n 1, 1) := by decide +kernel
theorem dc_LB_asOf_1 : decode prog_1_method_4_code 1 = .ok (.iconst 0, 1) := by decide +kernel
theorem dc_LB_asOf_2 : decode prog_1_method_4_code 2 = .ok (.sipush 999, 3) := by decide +kernel
theorem dc_LB_asOf_5 : decode prog_1_method_4_code 5 = .ok (.invokestatic 108, 3) := by decide +kernel
theorem dc_LB_asOf_8 : decode prog_1_method_4_code 8 = .ok (.ifCond .ne 6, 3) := by decide +kernel
theorem dc_LB_asOf_11 : decode prog_1_method_4_code 11 = .ok (.bipush (-2), 2) := by decide +kernel
theorem dc_LB_asOf_13 : decode prog_1_method_4_code 13 = .ok (.ireturn, 1) := by decide +kernel
theorem dc_LB_asOf_14 : decode prog_1_method_4_code 14 = .ok (.aload_n 0, 1) := by decide +kernel
theorem dc_LB_asOf_15 : decode prog_1_method_4_code 15 = .ok (.getfield 62, 3) := by decide +kernel
theorem dc_LB_asOf_18 : decode prog_1_method_4_code 18 = .ok (.istore_n 2, 1) := by decide +kernel
theorem dc_LB_asOf_19 : decode prog_1_method_4_code 19 = .ok (.aload_n 0, 1) := by decide +kernel
theorem dc_LB_asOf_20 : decode prog_1_method_4_code 20 = .ok (.iload_n 1, 1) := by decide +kernel
theorem dc_LB_asOf_21 : decode prog_1_method_4_code 21 = .ok (.putfield 62, 3) := by decide +kernel
theorem dc_LB_asOf_24 : decode prog_1_method_4_code 24 = .ok (.iconst 0, 1) := by decide +kernel
theorem dc_LB_asOf_25 : decode prog_1_method_4_code 25 = .ok (.istore_n 3, 1) := by decide +kernel
theorem dc_LB_asOf_26 : decode prog_1_method_4_code 26 = .ok (.iload_n 3, 1) := by decide +kernel
theorem dc_LB_asOf_27 : decode prog_1_method_4_code 27 = .ok (.iconst 4, 1) := by decide +kernel
theorem dc_LB_asOf_28 : decode prog_1_method_4_code 28 = .ok (.if_icmp .ge 14, 3) := by decide +kernel
theorem dc_LB_asOf_31 : decode prog_1_method_4_code 31 = .ok (.aload_n 0, 1) := by decide +kernel
theorem dc_LB_asOf_32 : decode prog_1_method_4_code 32 = .ok (.iload_n 3, 1) := by decide +kernel
theorem dc_LB_asOf_33 : decode prog_1_method_4_code 33 = .ok (.invokevirtual 89, 3) := by decide +kernel
theorem dc_LB_asOf_36 : decode prog_1_method_4_code 36 = .ok (.iinc 3 1, 3) := by decide +kernel
theorem dc_LB_asOf_39 : decode prog_1_method_4_code 39 = .ok (.goto (-13), 3) := by decide +kernel
theorem dc_LB_asOf_42 : decode prog_1_method_4_code 42 = .ok (.iload_n 2, 1) := by decide +kernel
theorem dc_LB_asOf_43 : decode prog_1_method_4_code 43 = .ok (.ireturn, 1) := by decide +kernel
theorem w_LB_asOf_0 {G : GC} {d : Nat} {P : PT} {I : MI} {J : MJ} {x1 : Int32} (k1 : (¬ (f_LB_isWithin x1 0 999) = 0) → Go G (fr G m_LB_asOf (d + 4) P) 26 [some (.ref 0), none, some (.int (I 0 9)), some (.int 0)] [] (u2 I 0 9 x1) J) (q2 : ((f_LB_isWithin x1 0 999) = 0) → P (some (.int (-2))) I J) : Go G (fr G m_LB_asOf (d + 4) P) 0 [some (.ref 0), some (.int x1), none, none] [] I J := by
  refine g_iload_n dc_LB_asOf_0 rfl rfl rfl ?_
  refine g_iconst (v := 0) dc_LB_asOf_1 rfl (by decide) ?_
  refine g_sipush (v := 999) dc_LB_asOf_2 rfl (by decide) ?_
  refine g_callS (M := m_LB_isWithin) (As := [.int x1, .int 0, .int 999]) (rest := []) ok_LB_isWithin st_LB_isWithin ml_LB_108 rfl rfl (Nat.le_of_ble_eq_true rfl) dc_LB_asOf_5 rfl rOk_fr (c_LB_isWithin ?_)
  show Go G (fr G m_LB_asOf (d + 4) P) 8 [some (.ref 0), some (.int x1), none, none] [.int (f_LB_isWithin x1 0 999)] I J
  refine g_if_ne (tgt := 14) dc_LB_asOf_8 rfl (by decide) (fun c1 => ?_) (fun c1 => ?_)
  · refine g_aload_n dc_LB_asOf_14 rfl rfl rfl ?_
    refine g_get (C := "LevelBreaks") (T := T_LB) (N := 11) (k := 9) (v := .int (I 0 9)) sh_0 (by decide) rfl rfl i_LB (by decide) fl_LB_62 (Or.inl rfl) rfl dc_LB_asOf_15 rfl ?_
    refine g_istore_n (L' := [some (.ref 0), some (.int x1), some (.int (I 0 9)), none]) dc_LB_asOf_18 rfl rfl (Nat.le_of_ble_eq_true rfl) rfl ?_
    refine g_aload_n dc_LB_asOf_19 rfl rfl rfl ?_
    refine g_iload_n dc_LB_asOf_20 rfl rfl rfl ?_
    refine g_putI (C := "LevelBreaks") (T := T_LB) (N := 11) (k := 9) (ty := t_LB) sh_0 (by decide) rfl rfl i_LB p_LB n_LB (by decide) fl_LB_62 (Or.inl rfl) rfl (by decide) dc_LB_asOf_21 rfl ?_
    refine g_iconst (v := 0) dc_LB_asOf_24 rfl (by decide) ?_
    refine g_istore_n (L' := [some (.ref 0), some (.int x1), some (.int (I 0 9)), some (.int 0)]) dc_LB_asOf_25 rfl rfl (Nat.le_of_ble_eq_true rfl) rfl ?_
    refine g_weak [some (.ref 0), none, some (.int (I 0 9)), some (.int 0)] ⟨rfl, ⟨rfl, ⟨rfl, trivial⟩⟩⟩ ?_
    exact (k1 c1)
  · refine g_bipush (v := (-2)) dc_LB_asOf_11 rfl (by decide) ?_
    exact g_iret rfl dc_LB_asOf_13 (q2 c1)
theorem w_LB_asOf_26 {G : GC} {d : Nat} {P : PT} {I : MI} {J : MJ} {x2 : Int32} {x3 : Int32} (q1 : (4 ≤ x3) → P (some (.int x2)) I J) (k2 : (¬ (4 ≤ x3)) → Ct G (d + 3) m_LB_refresh [.ref 0, .int x3] (fun r I' J' => Go G (fr G m_LB_asOf (d + 4) P) 36 [some (.ref 0), none, some (.int x2), some (.int x3)] (r.toList ++ []) I' J') I J) : Go G (fr G m_LB_asOf (d + 4) P) 26 [some (.ref 0), none, some (.int x2), some (.int x3)] [] I J := by
  refine g_iload_n dc_LB_asOf_26 rfl rfl rfl ?_
  refine g_iconst (v := 4) dc_LB_asOf_27 rfl (by decide) ?_
  refine g_ic_ge (tgt := 42) dc_LB_asOf_28 rfl (by decide) (fun c1 => ?_) (fun c1 => ?_)
  · refine g_iload_n dc_LB_asOf_42 rfl rfl rfl ?_
    exact g_iret rfl dc_LB_asOf_43 (q1 c1)
  · refine g_aload_n dc_LB_asOf_31 rfl rfl rfl ?_
    refine g_iload_n dc_LB_asOf_32 rfl rfl rfl ?_
    exact g_callV (T := T_LB) (N := 11) (As := [.int x3]) (rest := []) ok_LB_refresh in_LB_refresh se_LB_refresh ml_LB_89 sh_0 (by decide) rfl rfl rfl (Nat.le_of_ble_eq_true rfl) dc_LB_asOf_33 rfl rOk_fr (k2 c1)
theorem w_LB_asOf_36 {G : GC} {d : Nat} {P : PT} {I : MI} {J : MJ} {x2 : Int32} {x3 : Int32} (k1 : Go G (fr G m_LB_asOf (d + 4) P) 26 [some (.ref 0), none, some (.int x2), some (.int (x3 + 1))] [] I J) : Go G (fr G m_LB_asOf (d + 4) P) 36 [some (.ref 0), none, some (.int x2), some (.int x3)] [] I J := by
  refine g_iinc (v := (x3 + 1)) (L' := [some (.ref 0), none, some (.int x2), some (.int (x3 + 1))]) dc_LB_asOf_36 rfl rfl (by rw [show Int32.ofInt 1 = 1 from by decide]) (Nat.le_of_ble_eq_true rfl) rfl ?_
  refine g_goto (tgt := 26) dc_LB_asOf_39 (by decide) ?_
  exact k1
theorem dc_LB_best_0 : decode prog_1_method_9_code 0 = .ok (.iload_n 1, 1) := by decide +kernel
theorem dc_LB_best_1 : decode prog_1_method_9_code 1 = .ok (.invokestatic 69, 3) := by decide +kernel
theorem dc_LB_best_4 : decode prog_1_method_9_code 4 = .ok (.ifCond .eq 27, 3) := by decide +kernel
theorem dc_LB_best_7 : decode prog_1_method_9_code 7 = .ok (.iload_n 2, 1) := by decide +kernel
theorem dc_LB_best_8 : decode prog_1_method_9_code 8 = .ok (.invokestatic 116, 3) := by decide +kernel
theorem dc_LB_best_11 : decode prog_1_method_9_code 11 = .ok (.ifCond .eq 20, 3) := by decide +kernel
theorem dc_LB_best_14 : decode prog_1_method_9_code 14 = .ok (.iload_n 3, 1) := by decide +kernel
theorem dc_LB_best_15 : decode prog_1_method_9_code 15 = .ok (.invokestatic 140, 3) := by decide +kernel
theorem dc_LB_best_18 : decode prog_1_method_9_code 18 = .ok (.ifCond .eq 13, 3) := by decide +kernel
theorem dc_LB_best_21 : decode prog_1_method_9_code 21 = .ok (.iload 4, 2) := by decide +kernel
theorem dc_LB_best_23 : decode prog_1_method_9_code 23 = .ok (.iconst 0, 1) := by decide +kernel
theorem dc_LB_best_24 : decode prog_1_method_9_code 24 = .ok (.iconst 1, 1) := by decide +kernel
theorem dc_LB_best_25 : decode prog_1_method_9_code 25 = .ok (.invokestatic 108, 3) := by decide +kernel
theorem dc_LB_best_28 : decode prog_1_method_9_code 28 = .ok (.ifCond .ne 9, 3) := by decide +kernel
theorem dc_LB_best_31 : decode prog_1_method_9_code 31 = .ok (.bipush (-2), 2) := by decide +kernel
theorem dc_LB_best_33 : decode prog_1_method_9_code 33 = .ok (.invokestatic 119, 3) := by decide +kernel
theorem dc_LB_best_36 : decode prog_1_method_9_code 36 = .ok (.lreturn, 1) := by decide +kernel
theorem dc_LB_best_37 : decode prog_1_method_9_code 37 = .ok (.aload_n 0, 1) := by decide +kernel
theorem dc_LB_best_38 : decode prog_1_method_9_code 38 = .ok (.iload_n 1, 1) := by decide +kernel
theorem dc_LB_best_39 : decode prog_1_method_9_code 39 = .ok (.iload_n 2, 1) := by decide +kernel
theorem dc_LB_best_40 : decode prog_1_method_9_code 40 = .ok (.iload_n 3, 1) := by decide +kernel
theorem dc_LB_best_41 : decode prog_1_method_9_code 41 = .ok (.invokevirtual 143, 3) := by decide +kernel
theorem dc_LB_best_44 : decode prog_1_method_9_code 44 = .ok (.ifCond .ne 9, 3) := by decide +kernel
theorem dc_LB_best_47 : decode prog_1_method_9_code 47 = .ok (.bipush (-3), 2) := by decide +kernel
theorem dc_LB_best_49 : decode prog_1_method_9_code 49 = .ok (.invokestatic 119, 3) := by decide +kernel
theorem dc_LB_best_52 : decode prog_1_method_9_code 52 = .ok (.lreturn, 1) := by decide +kernel
theorem dc_LB_best_53 : decode prog_1_method_9_code 53 = .ok (.iload 4, 2) := by decide +kernel
theorem dc_LB_best_55 : decode prog_1_method_9_code 55 = .ok (.ifCond .ne 14, 3) := by decide +kernel
theorem dc_LB_best_58 : decode prog_1_method_9_code 58 = .ok (.aload_n 0, 1) := by decide +kernel
theorem dc_LB_best_59 : decode prog_1_method_9_code 59 = .ok (.getfield 34, 3) := by decide +kernel
theorem dc_LB_best_62 : decode prog_1_method_9_code 62 = .ok (.iload_n 3, 1) := by decide +kernel
theorem dc_LB_best_63 : decode prog_1_method_9_code 63 = .ok (.invokevirtual 146, 3) := by decide +kernel
theorem dc_LB_best_66 : decode prog_1_method_9_code 66 = .ok (.goto 11, 3) := by decide +kernel
theorem dc_LB_best_69 : decode prog_1_method_9_code 69 = .ok (.aload_n 0, 1) := by decide +kernel
theorem dc_LB_best_70 : decode prog_1_method_9_code 70 = .ok (.getfield 34, 3) := by decide +kernel
theorem dc_LB_best_73 : decode prog_1_method_9_code 73 = .ok (.iload_n 3, 1) := by decide +kernel
theorem dc_LB_best_74 : decode prog_1_method_9_code 74 = .ok (.invokevirtual 149, 3) := by decide +kernel
theorem dc_LB_best_77 : decode prog_1_method_9_code 77 = .ok (.lreturn, 1) := by decide +kernel
theorem w_LB_best_0 {G : GC} {d : Nat} {P : PT} {I : MI} {J : MJ} {x1 : Int32} {x2 : Int32} {x3 : Int32} {x4 : Int32} (k1 : ((f_LB_isRow x1) = 0) → Go G (fr G m_LB_best (d + 6) P) 31 [none, none, none, none, none] [] I J) (k2 : (¬ ((f_LB_isRow x1) = 0)) → ((f_LB_isKind x2) = 0) → Go G (fr G m_LB_best (d + 6) P) 31 [none, none, none, none, none] [] I J) (k3 : (¬ ((f_LB_isRow x1) = 0)) → (¬ ((f_LB_isKind x2) = 0)) → ((f_LB_isStretches x3) = 0) → Go G (fr G m_LB_best (d + 6) P) 31 [none, none, none, none, none] [] I J) (k4 : (¬ ((f_LB_isRow x1) = 0)) → (¬ ((f_LB_isKind x2) = 0)) → (¬ ((f_LB_isStretches x3) = 0)) → (¬ (f_LB_isWithin x4 0 1) = 0) → Ct G (d + 5) m_LB_cutRow [.ref 0, .int x1, .int x2, .int x3] (fun r I' J' => Go G (fr G m_LB_best (d + 6) P) 44 [some (.ref 0), none, none, some (.int x3), some (.int x4)] (r.toList ++ []) I' J') I J) (k5 : (¬ ((f_LB_isRow x1) = 0)) → (¬ ((f_LB_isKind x2) = 0)) → (¬ ((f_LB_isStretches x3) = 0)) → ((f_LB_isWithin x4 0 1) = 0) → Go G (fr G m_LB_best (d + 6) P) 31 [none, none, none, none, none] [] I J) : Go G (fr G m_LB_best (d + 6) P) 0 [some (.ref 0), some (.int x1), some (.int x2), some (.int x3), some (.int x4)] [] I J := by
  refine g_iload_n dc_LB_best_0 rfl rfl rfl ?_
  refine g_callS (M := m_LB_isRow) (As := [.int x1]) (rest := []) ok_LB_isRow st_LB_isRow ml_LB_69 rfl rfl (Nat.le_of_ble_eq_true rfl) dc_LB_best_1 rfl rOk_fr (c_LB_isRow ?_)
  show Go G (fr G m_LB_best (d + 6) P) 4 [some (.ref 0), some (.int x1), some (.int x2), some (.int x3), some (.int x4)] [.int (f_LB_isRow x1)] I J
  refine g_if_eq (tgt := 31) dc_LB_best_4 rfl (by decide) (fun c1 => ?_) (fun c1 => ?_)
  · refine g_weak [none, none, none, none, none] trivial ?_
    exact (k1 c1)
  · refine g_iload_n dc_LB_best_7 rfl rfl rfl ?_
    refine g_callS (M := m_LB_isKind) (As := [.int x2]) (rest := []) ok_LB_isKind st_LB_isKind ml_LB_116 rfl rfl (Nat.le_of_ble_eq_true rfl) dc_LB_best_8 rfl rOk_fr (c_LB_isKind ?_)
    show Go G (fr G m_LB_best (d + 6) P) 11 [some (.ref 0), some (.int x1), some (.int x2), some (.int x3), some (.int x4)] [.int (f_LB_isKind x2)] I J
    refine g_if_eq (tgt := 31) dc_LB_best_11 rfl (by decide) (fun c2 => ?_) (fun c2 => ?_)
    · refine g_weak [none, none, none, none, none] trivial ?_
      exact (k2 c1 c2)
    · refine g_iload_n dc_LB_best_14 rfl rfl rfl ?_
      refine g_callS (M := m_LB_isStretches) (As := [.int x3]) (rest := []) ok_LB_isStretches st_LB_isStretches ml_LB_140 rfl rfl (Nat.le_of_ble_eq_true rfl) dc_LB_best_15 rfl rOk_fr (c_LB_isStretches ?_)
      show Go G (fr G m_LB_best (d + 6) P) 18 [some (.ref 0), some (.int x1), some (.int x2), some (.int x3), some (.int x4)] [.int (f_LB_isStretches x3)] I J
      refine g_if_eq (tgt := 31) dc_LB_best_18 rfl (by decide) (fun c3 => ?_) (fun c3 => ?_)
      · refine g_weak [none, none, none, none, none] trivial ?_
        exact (k3 c1 c2 c3)
      · refine g_iload dc_LB_best_21 rfl rfl ?_
        refine g_iconst (v := 0) dc_LB_best_23 rfl (by decide) ?_
        refine g_iconst (v := 1) dc_LB_best_24 rfl (by decide) ?_
        refine g_callS (M := m_LB_isWithin) (As := [.int x4, .int 0, .int 1]) (rest := []) ok_LB_isWithin st_LB_isWithin ml_LB_108 rfl rfl (Nat.le_of_ble_eq_true rfl) dc_LB_best_25 rfl rOk_fr (c_LB_isWithin ?_)
        show Go G (fr G m_LB_best (d + 6) P) 28 [some (.ref 0), some (.int x1), some (.int x2), some (.int x3), some (.int x4)] [.int (f_LB_isWithin x4 0 1)] I J
        refine g_if_ne (tgt := 37) dc_LB_best_28 rfl (by decide) (fun c4 => ?_) (fun c4 => ?_)
        · refine g_aload_n dc_LB_best_37 rfl rfl rfl ?_
          refine g_iload_n dc_LB_best_38 rfl rfl rfl ?_
          refine g_iload_n dc_LB_best_39 rfl rfl rfl ?_
          refine g_iload_n dc_LB_best_40 rfl rfl rfl ?_
          refine g_weak [some (.ref 0), none, none, some (.int x3), some (.int x4)] ⟨rfl, ⟨rfl, ⟨rfl, trivial⟩⟩⟩ ?_
          exact g_callV (T := T_LB) (N := 11) (As := [.int x1, .int x2, .int x3]) (rest := []) ok_LB_cutRow in_LB_cutRow se_LB_cutRow ml_LB_143 sh_0 (by decide) rfl rfl rfl (Nat.le_of_ble_eq_true rfl) dc_LB_best_41 rfl rOk_fr (k4 c1 c2 c3 c4)
        · refine g_weak [none, none, none, none, none] trivial ?_
          exact (k5 c1 c2 c3 c4)
theorem w_LB_best_31 {G : GC} {d : Nat} {P : PT} {I : MI} {J : MJ}  (q1 : P (some (.long (f_LB_asLong (-2)))) I J) : Go G (fr G m_LB_best (d + 6) P) 31 [none, none, none, none, none] [] I J := by
  refine g_bipush (v := (-2)) dc_LB_best_31 rfl (by decide) ?_
  refine g_callS (M := m_LB_asLong) (As := [.int (-2)]) (rest := []) ok_LB_asLong st_LB_asLong ml_LB_119 rfl rfl (Nat.le_of_ble_eq_true rfl) dc_LB_best_33 rfl rOk_fr (c_LB_asLong ?_)
  show Go G (fr G m_LB_best (d + 6) P) 36 [none, none, none, none, none] [.long (f_LB_asLong (-2))] I J
  exact g_lret rfl dc_LB_best_36 q1
theorem w_LB_best_44 {G : GC} {d : Nat} {P : PT} {I : MI} {J : MJ} {x3 : Int32} {x4 : Int32} {y0 : Int32} (k1 : (¬ y0 = 0) → (¬ x4 = 0) → Ct G (d + 5) m_CU_bestBelow [.ref 33, .int x3] (fun r I' J' => Go G (fr G m_LB_best (d + 6) P) 77 [none, none, none, none, none] (r.toList ++ []) I' J') I J) (k2 : (¬ y0 = 0) → (x4 = 0) → Ct G (d + 5) m_CU_bestAbove [.ref 33, .int x3] (fun r I' J' => Go G (fr G m_LB_best (d + 6) P) 66 [none, none, none, none, none] (r.toList ++ []) I' J') I J) (q3 : (y0 = 0) → P (some (.long (f_LB_asLong (-3)))) I J) : Go G (fr G m_LB_best (d + 6) P) 44 [some (.ref 0), none, none, some (.int x3), some (.int x4)] [.int y0] I J := by
  refine g_if_ne (tgt := 53) dc_LB_best_44 rfl (by decide) (fun c1 => ?_) (fun c1 => ?_)
  · refine g_iload dc_LB_best_53 rfl rfl ?_
    refine g_if_ne (tgt := 69) dc_LB_best_55 rfl (by decide) (fun c2 => ?_) (fun c2 => ?_)
    · refine g_aload_n dc_LB_best_69 rfl rfl rfl ?_
      refine g_get (C := "LevelBreaks") (T := T_LB) (N := 11) (k := 4) (v := .ref 33) sh_0 (by decide) rfl rfl i_LB (by decide) fl_LB_34 (Or.inl rfl) rfl dc_LB_best_70 rfl ?_
      refine g_iload_n dc_LB_best_73 rfl rfl rfl ?_
      refine g_weak [none, none, none, none, none] trivial ?_
      exact g_callV (T := T_CU) (N := 13) (As := [.int x3]) (rest := []) ok_CU_bestBelow in_CU_bestBelow se_CU_bestBelow ml_LB_149 sh_33 (by decide) rfl rfl rfl (Nat.le_of_ble_eq_true rfl) dc_LB_best_74 rfl rOk_fr (k1 c1 c2)
    · refine g_aload_n dc_LB_best_58 rfl rfl rfl ?_
      refine g_get (C := "LevelBreaks") (T := T_LB) (N := 11) (k := 4) (v := .ref 33) sh_0 (by decide) rfl rfl i_LB (by decide) fl_LB_34 (Or.inl rfl) rfl dc_LB_best_59 rfl ?_
      refine g_iload_n dc_LB_best_62 rfl rfl rfl ?_
      refine g_weak [none, none, none, none, none] trivial ?_
      exact g_callV (T := T_CU) (N := 13) (As := [.int x3]) (rest := []) ok_CU_bestAbove in_CU_bestAbove se_CU_bestAbove ml_LB_146 sh_33 (by decide) rfl rfl rfl (Nat.le_of_ble_eq_true rfl) dc_LB_best_63 rfl rOk_fr (k2 c1 c2)
  · refine g_bipush (v := (-3)) dc_LB_best_47 rfl (by decide) ?_
    refine g_callS (M := m_LB_asLong) (As := [.int (-3)]) (rest := []) ok_LB_asLong st_LB_asLong ml_LB_119 rfl rfl (Nat.le_of_ble_eq_true rfl) dc_LB_best_49 rfl rOk_fr (c_LB_asLong ?_)
    show Go G (fr G m_LB_best (d + 6) P) 52 [some (.ref 0), none, none, some (.int x3), some (.int x4)] [.long (f_LB_asLong (-3))] I J
    exact g_lret rfl dc_LB_best_52 (q3 c1)
theorem w_LB_best_66 {G : GC} {d : Nat} {P : PT} {I : MI} {J : MJ} {s0 : Int64} (k1 : Go G (fr G m_LB_best (d + 6) P) 77 [none, none, none, none, none] [.long s0] I J) : Go G (fr G m_LB_best (d + 6) P) 66 [none, none, none, none, none] [.long s0] I J := by
  refine g_goto (tgt := 77) dc_LB_best_66 (by decide) ?_
  exact k1
theorem w_LB_best_77 {G : GC} {d : Nat} {P : PT} {I : MI} {J : MJ} {s0 : Int64} (q1 : P (some (.long s0)) I J) : Go G (fr G m_LB_best (d + 6) P) 77 [none, none, none, none, none] [.long s0] I J := by
  exact g_lret rfl dc_LB_best_77 q1
theorem dc_LB_common_0 : decode prog_1_method_13_code 0 = .ok (.iload_n 1, 1) := by decide +kernel
theorem dc_LB_common_1 : decode prog_1_method_13_code 1 = .ok (.invokestatic 164, 3) := by decide +kernel
theorem dc_LB_common_4 : decode prog_1_method_13_code 4 = .ok (.ifCond .eq 17, 3) := by decide +kernel
theorem dc_LB_common_7 : decode prog_1_method_13_code 7 = .ok (.iload_n 2, 1) := by decide +kernel
theorem dc_LB_common_8 : decode prog_1_method_13_code 8 = .ok (.invokestatic 167, 3) := by decide +kernel
theorem dc_LB_common_11 : decode prog_1_method_13_code 11 = .ok (.ifCond .eq 10, 3) := by decide +kernel
theorem dc_LB_common_14 : decode prog_1_method_13_code 14 = .ok (.iload_n 3, 1) := by decide +kernel
theorem dc_LB_common_15 : decode prog_1_method_13_code 15 = .ok (.invokestatic 140, 3) := by decide +kernel
theorem dc_LB_common_18 : decode prog_1_method_13_code 18 = .ok (.ifCond .ne 6, 3) := by decide +kernel
theorem dc_LB_common_21 : decode prog_1_method_13_code 21 = .ok (.bipush (-2), 2) := by decide +kernel
theorem dc_LB_common_23 : decode prog_1_method_13_code 23 = .ok (.ireturn, 1) := by decide +kernel
theorem dc_LB_common_24 : decode prog_1_method_13_code 24 = .ok (.aload_n 0, 1) := by decide +kernel
theorem dc_LB_common_25 : decode prog_1_method_13_code 25 = .ok (.getfield 34, 3) := by decide +kernel
theorem dc_LB_common_28 : decode prog_1_method_13_code 28 = .ok (.aload_n 0, 1) := by decide +kernel
theorem dc_LB_common_29 : decode prog_1_method_13_code 29 = .ok (.getfield 19, 3) := by decide +kernel
theorem dc_LB_common_32 : decode prog_1_method_13_code 32 = .ok (.aload_n 0, 1) := by decide +kernel
theorem dc_LB_common_33 : decode prog_1_method_13_code 33 = .ok (.getfield 27, 3) := by decide +kernel
theorem dc_LB_common_36 : decode prog_1_method_13_code 36 = .ok (.iload_n 1, 1) := by decide +kernel
theorem dc_LB_common_37 : decode prog_1_method_13_code 37 = .ok (.iload_n 2, 1) := by decide +kernel
theorem dc_LB_common_38 : decode prog_1_method_13_code 38 = .ok (.iload_n 3, 1) := by decide +kernel
theorem dc_LB_common_39 : decode prog_1_method_13_code 39 = .ok (.invokevirtual 170, 3) := by decide +kernel
theorem dc_LB_common_42 : decode prog_1_method_13_code 42 = .ok (.ifCond .ne 6, 3) := by decide +kernel
theorem dc_LB_common_45 : decode prog_1_method_13_code 45 = .ok (.bipush (-3), 2) := by decide +kernel
theorem dc_LB_common_47 : decode prog_1_method_13_code 47 = .ok (.ireturn, 1) := by decide +kernel
theorem dc_LB_common_48 : decode prog_1_method_13_code 48 = .ok (.aload_n 0, 1) := by decide +kernel
theorem dc_LB_common_49 : decode prog_1_method_13_code 49 = .ok (.getfield 34, 3) := by decide +kernel
theorem dc_LB_common_52 : decode prog_1_method_13_code 52 = .ok (.iload_n 3, 1) := by decide +kernel
theorem dc_LB_common_53 : decode prog_1_method_13_code 53 = .ok (.invokevirtual 146, 3) := by decide +kernel
theorem dc_LB_common_56 : decode prog_1_method_13_code 56 = .ok (.l2i, 1) := by decide +kernel
theorem dc_LB_common_57 : decode prog_1_method_13_code 57 = .ok (.ireturn, 1) := by decide +kernel
theorem w_LB_common_0 {G : GC} {d : Nat} {P : PT} {I : MI} {J : MJ} {x1 : Int32} {x2 : Int32} {x3 : Int32} (k1 : ((f_LB_isRowSet x1) = 0) → Go G (fr G m_LB_common (d + 5) P) 21 [none, none, none, none] [] I J) (k2 : (¬ ((f_LB_isRowSet x1) = 0)) → ((f_LB_isCommonKind x2) = 0) → Go G (fr G m_LB_common (d + 5) P) 21 [none, none, none, none] [] I J) (k3 : (¬ ((f_LB_isRowSet x1) = 0)) → (¬ ((f_LB_isCommonKind x2) = 0)) → (¬ (f_LB_isStretches x3) = 0) → Ct G (d + 4) m_CU_cutTogether [.ref 33, .ref 6, .ref 32, .int x1, .int x2, .int x3] (fun r I' J' => Go G (fr G m_LB_common (d + 5) P) 42 [some (.ref 0), none, none, some (.int x3)] (r.toList ++ []) I' J') I J) (k4 : (¬ ((f_LB_isRowSet x1) = 0)) → (¬ ((f_LB_isCommonKind x2) = 0)) → ((f_LB_isStretches x3) = 0) → Go G (fr G m_LB_common (d + 5) P) 21 [none, none, none, none] [] I J) : Go G (fr G m_LB_common (d + 5) P) 0 [some (.ref 0), some (.int x1), some (.int x2), some (.int x3)] [] I J := by
  refine g_iload_n dc_LB_common_0 rfl rfl rfl ?_
  refine g_callS (M := m_LB_isRowSet) (As := [.int x1]) (rest := []) ok_LB_isRowSet st_LB_isRowSet ml_LB_164 rfl rfl (Nat.le_of_ble_eq_true rfl) dc_LB_common_1 rfl rOk_fr (c_LB_isRowSet ?_)
  show Go G (fr G m_LB_common (d + 5) P) 4 [some (.ref 0), some (.int x1), some (.int x2), some (.int x3)] [.int (f_LB_isRowSet x1)] I J
  refine g_if_eq (tgt := 21) dc_LB_common_4 rfl (by decide) (fun c1 => ?_) (fun c1 => ?_)
  · refine g_weak [none, none, none, none] trivial ?_
    exact (k1 c1)
  · refine g_iload_n dc_LB_common_7 rfl rfl rfl ?_
    refine g_callS (M := m_LB_isCommonKind) (As := [.int x2]) (rest := []) ok_LB_isCommonKind st_LB_isCommonKind ml_LB_167 rfl rfl (Nat.le_of_ble_eq_true rfl) dc_LB_common_8 rfl rOk_fr (c_LB_isCommonKind ?_)
    show Go G (fr G m_LB_common (d + 5) P) 11 [some (.ref 0), some (.int x1), some (.int x2), some (.int x3)] [.int (f_LB_isCommonKind x2)] I J
    refine g_if_eq (tgt := 21) dc_LB_common_11 rfl (by decide) (fun c2 => ?_) (fun c2 => ?_)
    · refine g_weak [none, none, none, none] trivial ?_
      exact (k2 c1 c2)
    · refine g_iload_n dc_LB_common_14 rfl rfl rfl ?_
      refine g_callS (M := m_LB_isStretches) (As := [.int x3]) (rest := []) ok_LB_isStretches st_LB_isStretches ml_LB_140 rfl rfl (Nat.le_of_ble_eq_true rfl) dc_LB_common_15 rfl rOk_fr (c_LB_isStretches ?_)
      show Go G (fr G m_LB_common (d + 5) P) 18 [some (.ref 0), some (.int x1), some (.int x2), some (.int x3)] [.int (f_LB_isStretches x3)] I J
      refine g_if_ne (tgt := 24) dc_LB_common_18 rfl (by decide) (fun c3 => ?_) (fun c3 => ?_)
      · refine g_aload_n dc_LB_common_24 rfl rfl rfl ?_
        refine g_get (C := "LevelBreaks") (T := T_LB) (N := 11) (k := 4) (v := .ref 33) sh_0 (by decide) rfl rfl i_LB (by decide) fl_LB_34 (Or.inl rfl) rfl dc_LB_common_25 rfl ?_
        refine g_aload_n dc_LB_common_28 rfl rfl rfl ?_
        refine g_get (C := "LevelBreaks") (T := T_LB) (N := 11) (k := 1) (v := .ref 6) sh_0 (by decide) rfl rfl i_LB (by decide) fl_LB_19 (Or.inl rfl) rfl dc_LB_common_29 rfl ?_
        refine g_aload_n dc_LB_common_32 rfl rfl rfl ?_
        refine g_get (C := "LevelBreaks") (T := T_LB) (N := 11) (k := 3) (v := .ref 32) sh_0 (by decide) rfl rfl i_LB (by decide) fl_LB_27 (Or.inl rfl) rfl dc_LB_common_33 rfl ?_
        refine g_iload_n dc_LB_common_36 rfl rfl rfl ?_
        refine g_iload_n dc_LB_common_37 rfl rfl rfl ?_
        refine g_iload_n dc_LB_common_38 rfl rfl rfl ?_
        refine g_weak [some (.ref 0), none, none, some (.int x3)] ⟨rfl, ⟨rfl, trivial⟩⟩ ?_
        exact g_callV (T := T_CU) (N := 13) (As := [.ref 6, .ref 32, .int x1, .int x2, .int x3]) (rest := []) ok_CU_cutTogether in_CU_cutTogether se_CU_cutTogether ml_LB_170 sh_33 (by decide) rfl rfl rfl (Nat.le_of_ble_eq_true rfl) dc_LB_common_39 rfl rOk_fr (k3 c1 c2 c3)
      · refine g_weak [none, none, none, none] trivial ?_
        exact (k4 c1 c2 c3)
theorem w_LB_common_21 {G : GC} {d : Nat} {P : PT} {I : MI} {J : MJ}  (q1 : P (some (.int (-2))) I J) : Go G (fr G m_LB_common (d + 5) P) 21 [none, none, none, none] [] I J := by
  refine g_bipush (v := (-2)) dc_LB_common_21 rfl (by decide) ?_
  exact g_iret rfl dc_LB_common_23 q1
theorem w_LB_common_42 {G : GC} {d : Nat} {P : PT} {I : MI} {J : MJ} {x3 : Int32} {y0 : Int32} (k1 : (¬ y0 = 0) → Ct G (d + 4) m_CU_bestAbove [.ref 33, .int x3] (fun r I' J' => Go G (fr G m_LB_common (d + 5) P) 56 [none, none, none, none] (r.toList ++ []) I' J') I J) (q2 : (y0 = 0) → P (some (.int (-3))) I J) : Go G (fr G m_LB_common (d + 5) P) 42 [some (.ref 0), none, none, some (.int x3)] [.int y0] I J := by
  refine g_if_ne (tgt := 48) dc_LB_common_42 rfl (by decide) (fun c1 => ?_) (fun c1 => ?_)
  · refine g_aload_n dc_LB_common_48 rfl rfl rfl ?_
    refine g_get (C := "LevelBreaks") (T := T_LB) (N := 11) (k := 4) (v := .ref 33) sh_0 (by decide) rfl rfl i_LB (by decide) fl_LB_34 (Or.inl rfl) rfl dc_LB_common_49 rfl ?_
    refine g_iload_n dc_LB_common_52 rfl rfl rfl ?_
    refine g_weak [none, none, none, none] trivial ?_
    exact g_callV (T := T_CU) (N := 13) (As := [.int x3]) (rest := []) ok_CU_bestAbove in_CU_bestAbove se_CU_bestAbove ml_LB_146 sh_33 (by decide) rfl rfl rfl (Nat.le_of_ble_eq_true rfl) dc_LB_common_53 rfl rOk_fr (k1 c1)
  · refine g_bipush (v := (-3)) dc_LB_common_45 rfl (by decide) ?_
    exact g_iret rfl dc_LB_common_47 (q2 c1)
theorem w_LB_common_56 {G : GC} {d : Nat} {P : PT} {I : MI} {J : MJ} {s0 : Int64} (q1 : P (some (.int (Int64.toInt32 s0))) I J) : Go G (fr G m_LB_common (d + 5) P) 56 [none, none, none, none] [.long s0] I J := by
  refine g_l2i dc_LB_common_56 rfl ?_
  exact g_iret rfl dc_LB_common_57 q1
theorem dc_LB_copy_0 : decode prog_1_method_30_code 0 = .ok (.iload_n 1, 1) := by decide +kernel
theorem dc_LB_copy_1 : decode prog_1_method_30_code 1 = .ok (.invokestatic 93, 3) := by decide +kernel
theorem dc_LB_copy_4 : decode prog_1_method_30_code 4 = .ok (.ifCond .eq 10, 3) := by decide +kernel
theorem dc_LB_copy_7 : decode prog_1_method_30_code 7 = .ok (.iload_n 3, 1) := by decide +kernel
theorem dc_LB_copy_8 : decode prog_1_method_30_code 8 = .ok (.invokestatic 93, 3) := by decide +kernel
theorem dc_LB_copy_11 : decode prog_1_method_30_code 11 = .ok (.ifCond .ne 6, 3) := by decide +kernel
theorem dc_LB_copy_14 : decode prog_1_method_30_code 14 = .ok (.bipush (-2), 2) := by decide +kernel
theorem dc_LB_copy_16 : decode prog_1_method_30_code 16 = .ok (.ireturn, 1) := by decide +kernel
theorem dc_LB_copy_17 : decode prog_1_method_30_code 17 = .ok (.aload_n 0, 1) := by decide +kernel
theorem dc_LB_copy_18 : decode prog_1_method_30_code 18 = .ok (.getfield 58, 3) := by decide +kernel
theorem dc_LB_copy_21 : decode prog_1_method_30_code 21 = .ok (.iload_n 1, 1) := by decide +kernel
theorem dc_LB_copy_22 : decode prog_1_method_30_code 22 = .ok (.aaload, 1) := by decide +kernel
theorem dc_LB_copy_23 : decode prog_1_method_30_code 23 = .ok (.astore 6, 2) := by decide +kernel
theorem dc_LB_copy_25 : decode prog_1_method_30_code 25 = .ok (.aload_n 0, 1) := by decide +kernel
theorem dc_LB_copy_26 : decode prog_1_method_30_code 26 = .ok (.getfield 58, 3) := by decide +kernel
theorem dc_LB_copy_29 : decode prog_1_method_30_code 29 = .ok (.iload_n 3, 1) := by decide +kernel
theorem dc_LB_copy_30 : decode prog_1_method_30_code 30 = .ok (.aaload, 1) := by decide +kernel
theorem dc_LB_copy_31 : decode prog_1_method_30_code 31 = .ok (.astore 7, 2) := by decide +kernel
theorem dc_LB_copy_33 : decode prog_1_method_30_code 33 = .ok (.aload 6, 2) := by decide +kernel
theorem dc_LB_copy_35 : decode prog_1_method_30_code 35 = .ok (.invokevirtual 96, 3) := by decide +kernel
theorem dc_LB_copy_38 : decode prog_1_method_30_code 38 = .ok (.ifCond .ne 11, 3) := by decide +kernel
theorem dc_LB_copy_41 : decode prog_1_method_30_code 41 = .ok (.aload 7, 2) := by decide +kernel
theorem dc_LB_copy_43 : decode prog_1_method_30_code 43 = .ok (.invokevirtual 96, 3) := by decide +kernel
theorem dc_LB_copy_46 : decode prog_1_method_30_code 46 = .ok (.ifCond .eq 9, 3) := by decide +kernel
theorem dc_LB_copy_49 : decode prog_1_method_30_code 49 = .ok (.aload_n 0, 1) := by decide +kernel
theorem dc_LB_copy_50 : decode prog_1_method_30_code 50 = .ok (.iconst 1, 1) := by decide +kernel
theorem dc_LB_copy_51 : decode prog_1_method_30_code 51 = .ok (.invokevirtual 100, 3) := by decide +kernel
theorem dc_LB_copy_54 : decode prog_1_method_30_code 54 = .ok (.ireturn, 1) := by decide +kernel
theorem dc_LB_copy_55 : decode prog_1_method_30_code 55 = .ok (.aload 6, 2) := by decide +kernel
theorem dc_LB_copy_57 : decode prog_1_method_30_code 57 = .ok (.getfield 279, 3) := by decide +kernel
theorem dc_LB_copy_60 : decode prog_1_method_30_code 60 = .ok (.aload 7, 2) := by decide +kernel
theorem dc_LB_copy_62 : decode prog_1_method_30_code 62 = .ok (.getfield 279, 3) := by decide +kernel
theorem dc_LB_copy_65 : decode prog_1_method_30_code 65 = .ok (.if_icmp .eq 9, 3) := by decide +kernel
theorem dc_LB_copy_68 : decode prog_1_method_30_code 68 = .ok (.aload_n 0, 1) := by decide +kernel
theorem dc_LB_copy_69 : decode prog_1_method_30_code 69 = .ok (.iconst 4, 1) := by decide +kernel
theorem dc_LB_copy_70 : decode prog_1_method_30_code 70 = .ok (.invokevirtual 100, 3) := by decide +kernel
theorem dc_LB_copy_73 : decode prog_1_method_30_code 73 = .ok (.ireturn, 1) := by decide +kernel
theorem dc_LB_copy_74 : decode prog_1_method_30_code 74 = .ok (.aload 6, 2) := by decide +kernel
theorem dc_LB_copy_76 : decode prog_1_method_30_code 76 = .ok (.iload_n 2, 1) := by decide +kernel
theorem dc_LB_copy_77 : decode prog_1_method_30_code 77 = .ok (.iload 5, 2) := by decide +kernel
theorem dc_LB_copy_79 : decode prog_1_method_30_code 79 = .ok (.invokevirtual 282, 3) := by decide +kernel
theorem dc_LB_copy_82 : decode prog_1_method_30_code 82 = .ok (.ifCond .eq 15, 3) := by decide +kernel
theorem dc_LB_copy_85 : decode prog_1_method_30_code 85 = .ok (.aload 7, 2) := by decide +kernel
theorem dc_LB_copy_87 : decode prog_1_method_30_code 87 = .ok (.iload 4, 2) := by decide +kernel
theorem dc_LB_copy_89 : decode prog_1_method_30_code 89 = .ok (.iload 5, 2) := by decide +kernel
theorem dc_LB_copy_91 : decode prog_1_method_30_code 91 = .ok (.invokevirtual 282, 3) := by decide +kernel
theorem dc_LB_copy_94 : decode prog_1_method_30_code 94 = .ok (.ifCond .ne 9, 3) := by decide +kernel
theorem dc_LB_copy_97 : decode prog_1_method_30_code 97 = .ok (.aload_n 0, 1) := by decide +kernel
theorem dc_LB_copy_98 : decode prog_1_method_30_code 98 = .ok (.iconst 2, 1) := by decide +kernel
theorem dc_LB_copy_99 : decode prog_1_method_30_code 99 = .ok (.invokevirtual 100, 3) := by decide +kernel
theorem dc_LB_copy_102 : decode prog_1_method_30_code 102 = .ok (.ireturn, 1) := by decide +kernel
theorem dc_LB_copy_103 : decode prog_1_method_30_code 103 = .ok (.aload 6, 2) := by decide +kernel
theorem dc_LB_copy_105 : decode prog_1_method_30_code 105 = .ok (.getfield 105, 3) := by decide +kernel
theorem dc_LB_copy_108 : decode prog_1_method_30_code 108 = .ok (.iload_n 2, 1) := by decide +kernel
theorem dc_LB_copy_109 : decode prog_1_method_30_code 109 = .ok (.aload 7, 2) := by decide +kernel
theorem dc_LB_copy_111 : decode prog_1_method_30_code 111 = .ok (.getfield 105, 3) := by decide +kernel
theorem dc_LB_copy_114 : decode prog_1_method_30_code 114 = .ok (.iload 4, 2) := by decide +kernel
theorem dc_LB_copy_116 : decode prog_1_method_30_code 116 = .ok (.iload 5, 2) := by decide +kernel
theorem dc_LB_copy_118 : decode prog_1_method_30_code 118 = .ok (.invokestatic 286, 3) := by decide +kernel
theorem dc_LB_copy_121 : decode prog_1_method_30_code 121 = .ok (.iconst 1, 1) := by decide +kernel
theorem dc_LB_copy_122 : decode prog_1_method_30_code 122 = .ok (.ireturn, 1) := by decide +kernel
theorem w_LB_copy_0 {G : GC} {d : Nat} {P : PT} {I : MI} {J : MJ} {x1 : Int32} {x2 : Int32} {x3 : Int32} {x4 : Int32} {x5 : Int32} (k1 : ((f_LB_isSheet x1) = 0) → Go G (fr G m_LB_copy (d + 2) P) 14 [none, none, none, none, none, none, none, none] [] I J) (b2 : (¬ ((f_LB_isSheet x1) = 0)) → (¬ (f_LB_isSheet x3) = 0) → vp_in x1 4) (b3 : (¬ ((f_LB_isSheet x1) = 0)) → (¬ (f_LB_isSheet x3) = 0) → vp_in x3 4) (k4 : (¬ ((f_LB_isSheet x1) = 0)) → (¬ (f_LB_isSheet x3) = 0) → Ct G (d + 1) m_SH_isLost [.ref (59 + 2 * x1.toNatClampNeg)] (fun r I' J' => Go G (fr G m_LB_copy (d + 2) P) 38 [some (.ref 0), none, some (.int x2), none, some (.int x4), some (.int x5), some (.ref (59 + 2 * x1.toNatClampNeg)), some (.ref (59 + 2 * x3.toNatClampNeg))] (r.toList ++ []) I' J') I J) (k5 : (¬ ((f_LB_isSheet x1) = 0)) → ((f_LB_isSheet x3) = 0) → Go G (fr G m_LB_copy (d + 2) P) 14 [none, none, none, none, none, none, none, none] [] I J) : Go G (fr G m_LB_copy (d + 2) P) 0 [some (.ref 0), some (.int x1), some (.int x2), some (.int x3), some (.int x4), some (.int x5), none, none] [] I J := by
  refine g_iload_n dc_LB_copy_0 rfl rfl rfl ?_
  refine g_callS (M := m_LB_isSheet) (As := [.int x1]) (rest := []) ok_LB_isSheet st_LB_isSheet ml_LB_93 rfl rfl (Nat.le_of_ble_eq_true rfl) dc_LB_copy_1 rfl rOk_fr (c_LB_isSheet ?_)
  show Go G (fr G m_LB_copy (d + 2) P) 4 [some (.ref 0), some (.int x1), some (.int x2), some (.int x3), some (.int x4), some (.int x5), none, none] [.int (f_LB_isSheet x1)] I J
  refine g_if_eq (tgt := 14) dc_LB_copy_4 rfl (by decide) (fun c1 => ?_) (fun c1 => ?_)
  · refine g_weak [none, none, none, none, none, none, none, none] trivial ?_
    exact (k1 c1)
  · refine g_iload_n dc_LB_copy_7 rfl rfl rfl ?_
    refine g_callS (M := m_LB_isSheet) (As := [.int x3]) (rest := []) ok_LB_isSheet st_LB_isSheet ml_LB_93 rfl rfl (Nat.le_of_ble_eq_true rfl) dc_LB_copy_8 rfl rOk_fr (c_LB_isSheet ?_)
    show Go G (fr G m_LB_copy (d + 2) P) 11 [some (.ref 0), some (.int x1), some (.int x2), some (.int x3), some (.int x4), some (.int x5), none, none] [.int (f_LB_isSheet x3)] I J
    refine g_if_ne (tgt := 17) dc_LB_copy_11 rfl (by decide) (fun c2 => ?_) (fun c2 => ?_)
    · refine g_aload_n dc_LB_copy_17 rfl rfl rfl ?_
      refine g_get (C := "LevelBreaks") (T := T_LB) (N := 11) (k := 8) (v := .ref 58) sh_0 (by decide) rfl rfl i_LB (by decide) fl_LB_58 (Or.inl rfl) rfl dc_LB_copy_18 rfl ?_
      refine g_iload_n dc_LB_copy_21 rfl rfl rfl ?_
      refine g_aald (r := (59 + 2 * x1.toNatClampNeg)) sh_58 (by decide) rfl (b2 c1 c2) (she_at (vin_lt (b2 c1 c2))) dc_LB_copy_22 rfl ?_
      refine g_astore (L' := [some (.ref 0), some (.int x1), some (.int x2), some (.int x3), some (.int x4), some (.int x5), some (.ref (59 + 2 * x1.toNatClampNeg)), none]) dc_LB_copy_23 rfl (Nat.le_of_ble_eq_true rfl) rfl ?_
      refine g_aload_n dc_LB_copy_25 rfl rfl rfl ?_
      refine g_get (C := "LevelBreaks") (T := T_LB) (N := 11) (k := 8) (v := .ref 58) sh_0 (by decide) rfl rfl i_LB (by decide) fl_LB_58 (Or.inl rfl) rfl dc_LB_copy_26 rfl ?_
      refine g_iload_n dc_LB_copy_29 rfl rfl rfl ?_
      refine g_aald (r := (59 + 2 * x3.toNatClampNeg)) sh_58 (by decide) rfl (b3 c1 c2) (she_at (vin_lt (b3 c1 c2))) dc_LB_copy_30 rfl ?_
      refine g_astore (L' := [some (.ref 0), some (.int x1), some (.int x2), some (.int x3), some (.int x4), some (.int x5), some (.ref (59 + 2 * x1.toNatClampNeg)), some (.ref (59 + 2 * x3.toNatClampNeg))]) dc_LB_copy_31 rfl (Nat.le_of_ble_eq_true rfl) rfl ?_
      refine g_aload dc_LB_copy_33 rfl rfl ?_
      refine g_weak [some (.ref 0), none, some (.int x2), none, some (.int x4), some (.int x5), some (.ref (59 + 2 * x1.toNatClampNeg)), some (.ref (59 + 2 * x3.toNatClampNeg))] ⟨rfl, ⟨rfl, ⟨rfl, ⟨rfl, ⟨rfl, ⟨rfl, trivial⟩⟩⟩⟩⟩⟩ ?_
      exact g_callV (T := T_SH) (N := 3) (As := []) (rest := []) ok_SH_isLost in_SH_isLost se_SH_isLost ml_LB_96 (sht_in (b2 c1 c2)).1 (by decide) rfl rfl rfl (Nat.le_of_ble_eq_true rfl) dc_LB_copy_35 rfl rOk_fr (k4 c1 c2)
    · refine g_weak [none, none, none, none, none, none, none, none] trivial ?_
      exact (k5 c1 c2)
theorem w_LB_copy_14 {G : GC} {d : Nat} {P : PT} {I : MI} {J : MJ}  (q1 : P (some (.int (-2))) I J) : Go G (fr G m_LB_copy (d + 2) P) 14 [none, none, none, none, none, none, none, none] [] I J := by
  refine g_bipush (v := (-2)) dc_LB_copy_14 rfl (by decide) ?_
  exact g_iret rfl dc_LB_copy_16 q1
theorem w_LB_copy_38 {G : GC} {d : Nat} {P : PT} {I : MI} {J : MJ} {x2 : Int32} {x4 : Int32} {x5 : Int32} {o6 : Nat} (h6 : ShtAt o6) {o7 : Nat} (h7 : ShtAt o7) {y0 : Int32} (k1 : (¬ y0 = 0) → Go G (fr G m_LB_copy (d + 2) P) 49 [some (.ref 0), none, none, none, none, none, none, none] [] I J) (k2 : (y0 = 0) → Ct G (d + 1) m_SH_isLost [.ref o7] (fun r I' J' => Go G (fr G m_LB_copy (d + 2) P) 46 [some (.ref 0), none, some (.int x2), none, some (.int x4), some (.int x5), some (.ref o6), some (.ref o7)] (r.toList ++ []) I' J') I J) : Go G (fr G m_LB_copy (d + 2) P) 38 [some (.ref 0), none, some (.int x2), none, some (.int x4), some (.int x5), some (.ref o6), some (.ref o7)] [.int y0] I J := by
  refine g_if_ne (tgt := 49) dc_LB_copy_38 rfl (by decide) (fun c1 => ?_) (fun c1 => ?_)
  · refine g_weak [some (.ref 0), none, none, none, none, none, none, none] ⟨rfl, trivial⟩ ?_
    exact (k1 c1)
  · refine g_aload dc_LB_copy_41 rfl rfl ?_
    exact g_callV (T := T_SH) (N := 3) (As := []) (rest := []) ok_SH_isLost in_SH_isLost se_SH_isLost ml_LB_96 h7.1 (by decide) rfl rfl rfl (Nat.le_of_ble_eq_true rfl) dc_LB_copy_43 rfl rOk_fr (k2 c1)
theorem w_LB_copy_46 {G : GC} {d : Nat} {P : PT} {I : MI} {J : MJ} {x2 : Int32} {x4 : Int32} {x5 : Int32} {o6 : Nat} (h6 : ShtAt o6) {o7 : Nat} (h7 : ShtAt o7) {y0 : Int32} (k1 : (y0 = 0) → ((I o6 1) = (I o7 1)) → Ct G (d + 1) m_SH_has [.ref o6, .int x2, .int x5] (fun r I' J' => Go G (fr G m_LB_copy (d + 2) P) 82 [some (.ref 0), none, some (.int x2), none, some (.int x4), some (.int x5), some (.ref o6), some (.ref o7)] (r.toList ++ []) I' J') I J) (k2 : (y0 = 0) → (¬ ((I o6 1) = (I o7 1))) → Ct G (d + 1) m_LB_found [.ref 0, .int 4] (fun r I' J' => Go G (fr G m_LB_copy (d + 2) P) 73 [none, none, none, none, none, none, none, none] (r.toList ++ []) I' J') I J) (k3 : (¬ (y0 = 0)) → Go G (fr G m_LB_copy (d + 2) P) 49 [some (.ref 0), none, none, none, none, none, none, none] [] I J) : Go G (fr G m_LB_copy (d + 2) P) 46 [some (.ref 0), none, some (.int x2), none, some (.int x4), some (.int x5), some (.ref o6), some (.ref o7)] [.int y0] I J := by
  refine g_if_eq (tgt := 55) dc_LB_copy_46 rfl (by decide) (fun c1 => ?_) (fun c1 => ?_)
  · refine g_aload dc_LB_copy_55 rfl rfl ?_
    refine g_get (C := "LevelBreaks$Sheet") (T := T_SH) (N := 3) (k := 1) (v := .int (I o6 1)) h6.1 (by decide) rfl rfl i_SH (by decide) fl_LB_279 (Or.inl rfl) rfl dc_LB_copy_57 rfl ?_
    refine g_aload dc_LB_copy_60 rfl rfl ?_
    refine g_get (C := "LevelBreaks$Sheet") (T := T_SH) (N := 3) (k := 1) (v := .int (I o7 1)) h7.1 (by decide) rfl rfl i_SH (by decide) fl_LB_279 (Or.inl rfl) rfl dc_LB_copy_62 rfl ?_
    refine g_ic_eq (tgt := 74) dc_LB_copy_65 rfl (by decide) (fun c2 => ?_) (fun c2 => ?_)
    · refine g_aload dc_LB_copy_74 rfl rfl ?_
      refine g_iload_n dc_LB_copy_76 rfl rfl rfl ?_
      refine g_iload dc_LB_copy_77 rfl rfl ?_
      exact g_callV (T := T_SH) (N := 3) (As := [.int x2, .int x5]) (rest := []) ok_SH_has in_SH_has se_SH_has ml_LB_282 h6.1 (by decide) rfl rfl rfl (Nat.le_of_ble_eq_true rfl) dc_LB_copy_79 rfl rOk_fr (k1 c1 c2)
    · refine g_aload_n dc_LB_copy_68 rfl rfl rfl ?_
      refine g_iconst (v := 4) dc_LB_copy_69 rfl (by decide) ?_
      refine g_weak [none, none, none, none, none, none, none, none] trivial ?_
      exact g_callV (T := T_LB) (N := 11) (As := [.int 4]) (rest := []) ok_LB_found in_LB_found se_LB_found ml_LB_100 sh_0 (by decide) rfl rfl rfl (Nat.le_of_ble_eq_true rfl) dc_LB_copy_70 rfl rOk_fr (k2 c1 c2)
  · refine g_weak [some (.ref 0), none, none, none, none, none, none, none] ⟨rfl, trivial⟩ ?_
    exact (k3 c1)
theorem w_LB_copy_49 {G : GC} {d : Nat} {P : PT} {I : MI} {J : MJ}  (k1 : Ct G (d + 1) m_LB_found [.ref 0, .int 1] (fun r I' J' => Go G (fr G m_LB_copy (d + 2) P) 54 [none, none, none, none, none, none, none, none] (r.toList ++ []) I' J') I J) : Go G (fr G m_LB_copy (d + 2) P) 49 [some (.ref 0), none, none, none, none, none, none, none] [] I J := by
  refine g_aload_n dc_LB_copy_49 rfl rfl rfl ?_
  refine g_iconst (v := 1) dc_LB_copy_50 rfl (by decide) ?_
  refine g_weak [none, none, none, none, none, none, none, none] trivial ?_
  exact g_callV (T := T_LB) (N := 11) (As := [.int 1]) (rest := []) ok_LB_found in_LB_found se_LB_found ml_LB_100 sh_0 (by decide) rfl rfl rfl (Nat.le_of_ble_eq_true rfl) dc_LB_copy_51 rfl rOk_fr k1
theorem w_LB_copy_54 {G : GC} {d : Nat} {P : PT} {I : MI} {J : MJ} {y0 : Int32} (q1 : P (some (.int y0)) I J) : Go G (fr G m_LB_copy (d + 2) P) 54 [none, none, none, none, none, none, none, none] [.int y0] I J := by
  exact g_iret rfl dc_LB_copy_54 q1
theorem w_LB_copy_73 {G : GC} {d : Nat} {P : PT} {I : MI} {J : MJ} {y0 : Int32} (q1 : P (some (.int y0)) I J) : Go G (fr G m_LB_copy (d + 2) P) 73 [none, none, none, none, none, none, none, none] [.int y0] I J := by
  exact g_iret rfl dc_LB_copy_73 q1
theorem w_LB_copy_82 {G : GC} {d : Nat} {P : PT} {I : MI} {J : MJ} {x2 : Int32} {x4 : Int32} {x5 : Int32} {o6 : Nat} (h6 : ShtAt o6) {o7 : Nat} (h7 : ShtAt o7) {y0 : Int32} (k1 : (y0 = 0) → Go G (fr G m_LB_copy (d + 2) P) 97 [some (.ref 0), none, none, none, none, none, none, none] [] I J) (k2 : (¬ (y0 = 0)) → Ct G (d + 1) m_SH_has [.ref o7, .int x4, .int x5] (fun r I' J' => Go G (fr G m_LB_copy (d + 2) P) 94 [some (.ref 0), none, some (.int x2), none, some (.int x4), some (.int x5), some (.ref o6), some (.ref o7)] (r.toList ++ []) I' J') I J) : Go G (fr G m_LB_copy (d + 2) P) 82 [some (.ref 0), none, some (.int x2), none, some (.int x4), some (.int x5), some (.ref o6), some (.ref o7)] [.int y0] I J := by
  refine g_if_eq (tgt := 97) dc_LB_copy_82 rfl (by decide) (fun c1 => ?_) (fun c1 => ?_)
  · refine g_weak [some (.ref 0), none, none, none, none, none, none, none] ⟨rfl, trivial⟩ ?_
    exact (k1 c1)
  · refine g_aload dc_LB_copy_85 rfl rfl ?_
    refine g_iload dc_LB_copy_87 rfl rfl ?_
    refine g_iload dc_LB_copy_89 rfl rfl ?_
    exact g_callV (T := T_SH) (N := 3) (As := [.int x4, .int x5]) (rest := []) ok_SH_has in_SH_has se_SH_has ml_LB_282 h7.1 (by decide) rfl rfl rfl (Nat.le_of_ble_eq_true rfl) dc_LB_copy_91 rfl rOk_fr (k2 c1)
theorem w_LB_copy_94 {G : GC} {d : Nat} {P : PT} {I : MI} {J : MJ} {x2 : Int32} {x4 : Int32} {x5 : Int32} {o6 : Nat} (h6 : ShtAt o6) {o7 : Nat} (h7 : ShtAt o7) {y0 : Int32} (b1 : (¬ y0 = 0) → ¬ x2 < 0 ∧ ¬ x4 < 0 ∧ ¬ x5 < 0 ∧ Int32.toNatClampNeg x2 + Int32.toNatClampNeg x5 ≤ 60 ∧ Int32.toNatClampNeg x4 + Int32.toNatClampNeg x5 ≤ 60) (q2 : (¬ y0 = 0) → P (some (.int 1)) (cp2 I (o6 + 1) (o7 + 1) (Int32.toNatClampNeg x2) (Int32.toNatClampNeg x4) (Int32.toNatClampNeg x5)) J) (k3 : (y0 = 0) → Go G (fr G m_LB_copy (d + 2) P) 97 [some (.ref 0), none, none, none, none, none, none, none] [] I J) : Go G (fr G m_LB_copy (d + 2) P) 94 [some (.ref 0), none, some (.int x2), none, some (.int x4), some (.int x5), some (.ref o6), some (.ref o7)] [.int y0] I J := by
  refine g_if_ne (tgt := 103) dc_LB_copy_94 rfl (by decide) (fun c1 => ?_) (fun c1 => ?_)
  · refine g_aload dc_LB_copy_103 rfl rfl ?_
    refine g_get (C := "LevelBreaks$Sheet") (T := T_SH) (N := 3) (k := 0) (v := .ref (o6 + 1)) h6.1 (by decide) rfl rfl i_SH (by decide) fl_LB_105 (Or.inl rfl) rfl dc_LB_copy_105 rfl ?_
    refine g_iload_n dc_LB_copy_108 rfl rfl rfl ?_
    refine g_aload dc_LB_copy_109 rfl rfl ?_
    refine g_get (C := "LevelBreaks$Sheet") (T := T_SH) (N := 3) (k := 0) (v := .ref (o7 + 1)) h7.1 (by decide) rfl rfl i_SH (by decide) fl_LB_105 (Or.inl rfl) rfl dc_LB_copy_111 rfl ?_
    refine g_iload dc_LB_copy_114 rfl rfl ?_
    refine g_iload dc_LB_copy_116 rfl rfl ?_
    refine g_copy (rest := []) ml_LB_286 h6.2 h7.2 (b1 c1) (Nat.le_of_ble_eq_true rfl) (Nat.le_add_left 1 _) (by show 60 ≤ 60 * _; omega) dc_LB_copy_118 rfl ?_
    refine g_iconst (v := 1) dc_LB_copy_121 rfl (by decide) ?_
    exact g_iret rfl dc_LB_copy_122 (q2 c1)
  · refine g_weak [some (.ref 0), none, none, none, none, none, none, none] ⟨rfl, trivial⟩ ?_
    exact (k3 c1)
theorem w_LB_copy_97 {G : GC} {d : Nat} {P : PT} {I : MI} {J : MJ}  (k1 : Ct G (d + 1) m_LB_found [.ref 0, .int 2] (fun r I' J' => Go G (fr G m_LB_copy (d + 2) P) 102 [none, none, none, none, none, none, none, none] (r.toList ++ []) I' J') I J) : Go G (fr G m_LB_copy (d + 2) P) 97 [some (.ref 0), none, none, none, none, none, none, none] [] I J := by
  refine g_aload_n dc_LB_copy_97 rfl rfl rfl ?_
  refine g_iconst (v := 2) dc_LB_copy_98 rfl (by decide) ?_
  refine g_weak [none, none, none, none, none, none, none, none] trivial ?_
  exact g_callV (T := T_LB) (N := 11) (As := [.int 2]) (rest := []) ok_LB_found in_LB_found se_LB_found ml_LB_100 sh_0 (by decide) rfl rfl rfl (Nat.le_of_ble_eq_true rfl) dc_LB_copy_99 rfl rOk_fr k1
theorem w_LB_copy_102 {G : GC} {d : Nat} {P : PT} {I : MI} {J : MJ} {y0 : Int32} (q1 : P (some (.int y0)) I J) : Go G (fr G m_LB_copy (d + 2) P) 102 [none, none, none, none, none, none, none, none] [.int y0] I J := by
  exact g_iret rfl dc_LB_copy_102 q1
theorem dc_LB_cost_0 : decode prog_1_method_8_code 0 = .ok (.iload_n 1, 1) := by decide +kernel
theorem dc_LB_cost_1 : decode prog_1_method_8_code 1 = .ok (.invokestatic 69, 3) := by decide +kernel
theorem dc_LB_cost_4 : decode prog_1_method_8_code 4 = .ok (.ifCond .eq 20, 3) := by decide +kernel
theorem dc_LB_cost_7 : decode prog_1_method_8_code 7 = .ok (.iload_n 2, 1) := by decide +kernel
theorem dc_LB_cost_8 : decode prog_1_method_8_code 8 = .ok (.invokestatic 116, 3) := by decide +kernel
theorem dc_LB_cost_11 : decode prog_1_method_8_code 11 = .ok (.ifCond .eq 13, 3) := by decide +kernel
theorem dc_LB_cost_14 : decode prog_1_method_8_code 14 = .ok (.iload 5, 2) := by decide +kernel
theorem dc_LB_cost_16 : decode prog_1_method_8_code 16 = .ok (.iconst 0, 1) := by decide +kernel
theorem dc_LB_cost_17 : decode prog_1_method_8_code 17 = .ok (.iconst 1, 1) := by decide +kernel
theorem dc_LB_cost_18 : decode prog_1_method_8_code 18 = .ok (.invokestatic 108, 3) := by decide +kernel
theorem dc_LB_cost_21 : decode prog_1_method_8_code 21 = .ok (.ifCond .ne 9, 3) := by decide +kernel
theorem dc_LB_cost_24 : decode prog_1_method_8_code 24 = .ok (.bipush (-2), 2) := by decide +kernel
theorem dc_LB_cost_26 : decode prog_1_method_8_code 26 = .ok (.invokestatic 119, 3) := by decide +kernel
theorem dc_LB_cost_29 : decode prog_1_method_8_code 29 = .ok (.lreturn, 1) := by decide +kernel
theorem dc_LB_cost_30 : decode prog_1_method_8_code 30 = .ok (.aload_n 0, 1) := by decide +kernel
theorem dc_LB_cost_31 : decode prog_1_method_8_code 31 = .ok (.getfield 19, 3) := by decide +kernel
theorem dc_LB_cost_34 : decode prog_1_method_8_code 34 = .ok (.iload_n 1, 1) := by decide +kernel
theorem dc_LB_cost_35 : decode prog_1_method_8_code 35 = .ok (.aaload, 1) := by decide +kernel
theorem dc_LB_cost_36 : decode prog_1_method_8_code 36 = .ok (.astore 6, 2) := by decide +kernel
theorem dc_LB_cost_38 : decode prog_1_method_8_code 38 = .ok (.iload_n 3, 1) := by decide +kernel
theorem dc_LB_cost_39 : decode prog_1_method_8_code 39 = .ok (.ifCond .lt 19, 3) := by decide +kernel
theorem dc_LB_cost_42 : decode prog_1_method_8_code 42 = .ok (.iload 4, 2) := by decide +kernel
theorem dc_LB_cost_44 : decode prog_1_method_8_code 44 = .ok (.iload_n 3, 1) := by decide +kernel
theorem dc_LB_cost_45 : decode prog_1_method_8_code 45 = .ok (.if_icmp .lt 13, 3) := by decide +kernel
theorem dc_LB_cost_48 : decode prog_1_method_8_code 48 = .ok (.iload 4, 2) := by decide +kernel
theorem dc_LB_cost_50 : decode prog_1_method_8_code 50 = .ok (.aload 6, 2) := by decide +kernel
theorem dc_LB_cost_52 : decode prog_1_method_8_code 52 = .ok (.getfield 115, 3) := by decide +kernel
theorem dc_LB_cost_55 : decode prog_1_method_8_code 55 = .ok (.if_icmp .lt 9, 3) := by decide +kernel
theorem dc_LB_cost_58 : decode prog_1_method_8_code 58 = .ok (.bipush (-2), 2) := by decide +kernel
theorem dc_LB_cost_60 : decode prog_1_method_8_code 60 = .ok (.invokestatic 119, 3) := by decide +kernel
theorem dc_LB_cost_63 : decode prog_1_method_8_code 63 = .ok (.lreturn, 1) := by decide +kernel
theorem dc_LB_cost_64 : decode prog_1_method_8_code 64 = .ok (.aload_n 0, 1) := by decide +kernel
theorem dc_LB_cost_65 : decode prog_1_method_8_code 65 = .ok (.getfield 34, 3) := by decide +kernel
theorem dc_LB_cost_68 : decode prog_1_method_8_code 68 = .ok (.aload 6, 2) := by decide +kernel
theorem dc_LB_cost_70 : decode prog_1_method_8_code 70 = .ok (.iload_n 2, 1) := by decide +kernel
theorem dc_LB_cost_71 : decode prog_1_method_8_code 71 = .ok (.iload_n 3, 1) := by decide +kernel
theorem dc_LB_cost_72 : decode prog_1_method_8_code 72 = .ok (.iload 4, 2) := by decide +kernel
theorem dc_LB_cost_74 : decode prog_1_method_8_code 74 = .ok (.invokevirtual 123, 3) := by decide +kernel
theorem dc_LB_cost_77 : decode prog_1_method_8_code 77 = .ok (.astore 7, 2) := by decide +kernel
theorem dc_LB_cost_79 : decode prog_1_method_8_code 79 = .ok (.aload 7, 2) := by decide +kernel
theorem dc_LB_cost_81 : decode prog_1_method_8_code 81 = .ok (.aload 6, 2) := by decide +kernel
theorem dc_LB_cost_83 : decode prog_1_method_8_code 83 = .ok (.iconst (-1), 1) := by decide +kernel
theorem dc_LB_cost_84 : decode prog_1_method_8_code 84 = .ok (.iconst (-1), 1) := by decide +kernel
theorem dc_LB_cost_85 : decode prog_1_method_8_code 85 = .ok (.invokevirtual 127, 3) := by decide +kernel
theorem dc_LB_cost_88 : decode prog_1_method_8_code 88 = .ok (.lstore 8, 2) := by decide +kernel
theorem dc_LB_cost_90 : decode prog_1_method_8_code 90 = .ok (.aload 7, 2) := by decide +kernel
theorem dc_LB_cost_92 : decode prog_1_method_8_code 92 = .ok (.iconst 0, 1) := by decide +kernel
theorem dc_LB_cost_93 : decode prog_1_method_8_code 93 = .ok (.invokevirtual 133, 3) := by decide +kernel
theorem dc_LB_cost_96 : decode prog_1_method_8_code 96 = .ok (.i2l, 1) := by decide +kernel
theorem dc_LB_cost_97 : decode prog_1_method_8_code 97 = .ok (.lstore 10, 2) := by decide +kernel
theorem dc_LB_cost_99 : decode prog_1_method_8_code 99 = .ok (.lload 8, 2) := by decide +kernel
theorem dc_LB_cost_101 : decode prog_1_method_8_code 101 = .ok (.lload 10, 2) := by decide +kernel
theorem dc_LB_cost_103 : decode prog_1_method_8_code 103 = .ok (.invokestatic 136, 3) := by decide +kernel
theorem dc_LB_cost_106 : decode prog_1_method_8_code 106 = .ok (.lstore 12, 2) := by decide +kernel
theorem dc_LB_cost_108 : decode prog_1_method_8_code 108 = .ok (.lload 12, 2) := by decide +kernel
theorem dc_LB_cost_110 : decode prog_1_method_8_code 110 = .ok (.lconst 1, 1) := by decide +kernel
theorem dc_LB_cost_111 : decode prog_1_method_8_code 111 = .ok (.lcmp, 1) := by decide +kernel
theorem dc_LB_cost_112 : decode prog_1_method_8_code 112 = .ok (.ifCond .ge 9, 3) := by decide +kernel
theorem dc_LB_cost_115 : decode prog_1_method_8_code 115 = .ok (.bipush (-2), 2) := by decide +kernel
theorem dc_LB_cost_117 : decode prog_1_method_8_code 117 = .ok (.invokestatic 119, 3) := by decide +kernel
theorem dc_LB_cost_120 : decode prog_1_method_8_code 120 = .ok (.lreturn, 1) := by decide +kernel
theorem dc_LB_cost_121 : decode prog_1_method_8_code 121 = .ok (.iload 5, 2) := by decide +kernel
theorem dc_LB_cost_123 : decode prog_1_method_8_code 123 = .ok (.ifCond .ne 11, 3) := by decide +kernel
theorem dc_LB_cost_126 : decode prog_1_method_8_code 126 = .ok (.lload 8, 2) := by decide +kernel
theorem dc_LB_cost_128 : decode prog_1_method_8_code 128 = .ok (.lload 12, 2) := by decide +kernel
theorem dc_LB_cost_130 : decode prog_1_method_8_code 130 = .ok (.ldiv, 1) := by decide +kernel
theorem dc_LB_cost_131 : decode prog_1_method_8_code 131 = .ok (.goto 8, 3) := by decide +kernel
theorem dc_LB_cost_134 : decode prog_1_method_8_code 134 = .ok (.lload 10, 2) := by decide +kernel
theorem dc_LB_cost_136 : decode prog_1_method_8_code 136 = .ok (.lload 12, 2) := by decide +kernel
theorem dc_LB_cost_138 : decode prog_1_method_8_code 138 = .ok (.ldiv, 1) := by decide +kernel
theorem dc_LB_cost_139 : decode prog_1_method_8_code 139 = .ok (.lreturn, 1) := by decide +kernel
theorem w_LB_cost_0 {G : GC} {d : Nat} {P : PT} {I : MI} {J : MJ} {x1 : Int32} {x2 : Int32} {x3 : Int32} {x4 : Int32} {x5 : Int32} (k1 : ((f_LB_isRow x1) = 0) → Go G (fr G m_LB_cost (d + 4) P) 24 [none, none, none, none, none, none, none, none, none, none, none, none, none, none] [] I J) (k2 : (¬ ((f_LB_isRow x1) = 0)) → ((f_LB_isKind x2) = 0) → Go G (fr G m_LB_cost (d + 4) P) 24 [none, none, none, none, none, none, none, none, none, none, none, none, none, none] [] I J) (b3 : (¬ ((f_LB_isRow x1) = 0)) → (¬ ((f_LB_isKind x2) = 0)) → (¬ (f_LB_isWithin x5 0 1) = 0) → vp_in x1 4) (k4 : (¬ ((f_LB_isRow x1) = 0)) → (¬ ((f_LB_isKind x2) = 0)) → (¬ (f_LB_isWithin x5 0 1) = 0) → (x3 < 0) → Go G (fr G m_LB_cost (d + 4) P) 58 [none, none, none, none, none, none, none, none, none, none, none, none, none, none] [] I J) (k5 : (¬ ((f_LB_isRow x1) = 0)) → (¬ ((f_LB_isKind x2) = 0)) → (¬ (f_LB_isWithin x5 0 1) = 0) → (¬ (x3 < 0)) → (x4 < x3) → Go G (fr G m_LB_cost (d + 4) P) 58 [none, none, none, none, none, none, none, none, none, none, none, none, none, none] [] I J) (k6 : (¬ ((f_LB_isRow x1) = 0)) → (¬ ((f_LB_isKind x2) = 0)) → (¬ (f_LB_isWithin x5 0 1) = 0) → (¬ (x3 < 0)) → (¬ (x4 < x3)) → (x4 < (I (7 + 5 * x1.toNatClampNeg) 4)) → Ct G (d + 3) m_CU_measureOver [.ref 33, .ref (7 + 5 * x1.toNatClampNeg), .int x2, .int x3, .int x4] (fun r I' J' => Go G (fr G m_LB_cost (d + 4) P) 77 [none, none, none, none, none, some (.int x5), some (.ref (7 + 5 * x1.toNatClampNeg)), none, none, none, none, none, none, none] (r.toList ++ []) I' J') I J) (k7 : (¬ ((f_LB_isRow x1) = 0)) → (¬ ((f_LB_isKind x2) = 0)) → (¬ (f_LB_isWithin x5 0 1) = 0) → (¬ (x3 < 0)) → (¬ (x4 < x3)) → (¬ (x4 < (I (7 + 5 * x1.toNatClampNeg) 4))) → Go G (fr G m_LB_cost (d + 4) P) 58 [none, none, none, none, none, none, none, none, none, none, none, none, none, none] [] I J) (k8 : (¬ ((f_LB_isRow x1) = 0)) → (¬ ((f_LB_isKind x2) = 0)) → ((f_LB_isWithin x5 0 1) = 0) → Go G (fr G m_LB_cost (d + 4) P) 24 [none, none, none, none, none, none, none, none, none, none, none, none, none, none] [] I J) : Go G (fr G m_LB_cost (d + 4) P) 0 [some (.ref 0), some (.int x1), some (.int x2), some (.int x3), some (.int x4), some (.int x5), none, none, none, none, none, none, none, none] [] I J := by
  refine g_iload_n dc_LB_cost_0 rfl rfl rfl ?_
  refine g_callS (M := m_LB_isRow) (As := [.int x1]) (rest := []) ok_LB_isRow st_LB_isRow ml_LB_69 rfl rfl (Nat.le_of_ble_eq_true rfl) dc_LB_cost_1 rfl rOk_fr (c_LB_isRow ?_)
  show Go G (fr G m_LB_cost (d + 4) P) 4 [some (.ref 0), some (.int x1), some (.int x2), some (.int x3), some (.int x4), some (.int x5), none, none, none, none, none, none, none, none] [.int (f_LB_isRow x1)] I J
  refine g_if_eq (tgt := 24) dc_LB_cost_4 rfl (by decide) (fun c1 => ?_) (fun c1 => ?_)
  · refine g_weak [none, none, none, none, none, none, none, none, none, none, none, none, none, none] trivial ?_
    exact (k1 c1)
  · refine g_iload_n dc_LB_cost_7 rfl rfl rfl ?_
    refine g_callS (M := m_LB_isKind) (As := [.int x2]) (rest := []) ok_LB_isKind st_LB_isKind ml_LB_116 rfl rfl (Nat.le_of_ble_eq_true rfl) dc_LB_cost_8 rfl rOk_fr (c_LB_isKind ?_)
    show Go G (fr G m_LB_cost (d + 4) P) 11 [some (.ref 0), some (.int x1), some (.int x2), some (.int x3), some (.int x4), some (.int x5), none, none, none, none, none, none, none, none] [.int (f_LB_isKind x2)] I J
    refine g_if_eq (tgt := 24) dc_LB_cost_11 rfl (by decide) (fun c2 => ?_) (fun c2 => ?_)
    · refine g_weak [none, none, none, none, none, none, none, none, none, none, none, none, none, none] trivial ?_
      exact (k2 c1 c2)
    · refine g_iload dc_LB_cost_14 rfl rfl ?_
      refine g_iconst (v := 0) dc_LB_cost_16 rfl (by decide) ?_
      refine g_iconst (v := 1) dc_LB_cost_17 rfl (by decide) ?_
      refine g_callS (M := m_LB_isWithin) (As := [.int x5, .int 0, .int 1]) (rest := []) ok_LB_isWithin st_LB_isWithin ml_LB_108 rfl rfl (Nat.le_of_ble_eq_true rfl) dc_LB_cost_18 rfl rOk_fr (c_LB_isWithin ?_)
      show Go G (fr G m_LB_cost (d + 4) P) 21 [some (.ref 0), some (.int x1), some (.int x2), some (.int x3), some (.int x4), some (.int x5), none, none, none, none, none, none, none, none] [.int (f_LB_isWithin x5 0 1)] I J
      refine g_if_ne (tgt := 30) dc_LB_cost_21 rfl (by decide) (fun c3 => ?_) (fun c3 => ?_)
      · refine g_aload_n dc_LB_cost_30 rfl rfl rfl ?_
        refine g_get (C := "LevelBreaks") (T := T_LB) (N := 11) (k := 1) (v := .ref 6) sh_0 (by decide) rfl rfl i_LB (by decide) fl_LB_19 (Or.inl rfl) rfl dc_LB_cost_31 rfl ?_
        refine g_iload_n dc_LB_cost_34 rfl rfl rfl ?_
        refine g_aald (r := (7 + 5 * x1.toNatClampNeg)) sh_6 (by decide) rfl (b3 c1 c2 c3) (now_at (vin_lt (b3 c1 c2 c3))) dc_LB_cost_35 rfl ?_
        refine g_astore (L' := [some (.ref 0), some (.int x1), some (.int x2), some (.int x3), some (.int x4), some (.int x5), some (.ref (7 + 5 * x1.toNatClampNeg)), none, none, none, none, none, none, none]) dc_LB_cost_36 rfl (Nat.le_of_ble_eq_true rfl) rfl ?_
        refine g_iload_n dc_LB_cost_38 rfl rfl rfl ?_
        refine g_if_lt (tgt := 58) dc_LB_cost_39 rfl (by decide) (fun c4 => ?_) (fun c4 => ?_)
        · refine g_weak [none, none, none, none, none, none, none, none, none, none, none, none, none, none] trivial ?_
          exact (k4 c1 c2 c3 c4)
        · refine g_iload dc_LB_cost_42 rfl rfl ?_
          refine g_iload_n dc_LB_cost_44 rfl rfl rfl ?_
          refine g_ic_lt (tgt := 58) dc_LB_cost_45 rfl (by decide) (fun c5 => ?_) (fun c5 => ?_)
          · refine g_weak [none, none, none, none, none, none, none, none, none, none, none, none, none, none] trivial ?_
            exact (k5 c1 c2 c3 c4 c5)
          · refine g_iload dc_LB_cost_48 rfl rfl ?_
            refine g_aload dc_LB_cost_50 rfl rfl ?_
            refine g_get (C := "LevelBreaks$Points") (T := T_PO) (N := 5) (k := 4) (v := .int (I (7 + 5 * x1.toNatClampNeg) 4)) (pts_in (b3 c1 c2 c3)).1 (by decide) rfl rfl i_PO (by decide) fl_LB_115 (Or.inl rfl) rfl dc_LB_cost_52 rfl ?_
            refine g_ic_lt (tgt := 64) dc_LB_cost_55 rfl (by decide) (fun c6 => ?_) (fun c6 => ?_)
            · refine g_aload_n dc_LB_cost_64 rfl rfl rfl ?_
              refine g_get (C := "LevelBreaks") (T := T_LB) (N := 11) (k := 4) (v := .ref 33) sh_0 (by decide) rfl rfl i_LB (by decide) fl_LB_34 (Or.inl rfl) rfl dc_LB_cost_65 rfl ?_
              refine g_aload dc_LB_cost_68 rfl rfl ?_
              refine g_iload_n dc_LB_cost_70 rfl rfl rfl ?_
              refine g_iload_n dc_LB_cost_71 rfl rfl rfl ?_
              refine g_iload dc_LB_cost_72 rfl rfl ?_
              refine g_weak [none, none, none, none, none, some (.int x5), some (.ref (7 + 5 * x1.toNatClampNeg)), none, none, none, none, none, none, none] ⟨rfl, ⟨rfl, trivial⟩⟩ ?_
              exact g_callV (T := T_CU) (N := 13) (As := [.ref (7 + 5 * x1.toNatClampNeg), .int x2, .int x3, .int x4]) (rest := []) ok_CU_measureOver in_CU_measureOver se_CU_measureOver ml_LB_123 sh_33 (by decide) rfl rfl rfl (Nat.le_of_ble_eq_true rfl) dc_LB_cost_74 rfl rOk_fr (k6 c1 c2 c3 c4 c5 c6)
            · refine g_weak [none, none, none, none, none, none, none, none, none, none, none, none, none, none] trivial ?_
              exact (k7 c1 c2 c3 c4 c5 c6)
      · refine g_weak [none, none, none, none, none, none, none, none, none, none, none, none, none, none] trivial ?_
        exact (k8 c1 c2 c3)
theorem w_LB_cost_24 {G : GC} {d : Nat} {P : PT} {I : MI} {J : MJ}  (q1 : P (some (.long (f_LB_asLong (-2)))) I J) : Go G (fr G m_LB_cost (d + 4) P) 24 [none, none, none, none, none, none, none, none, none, none, none, none, none, none] [] I J := by
  refine g_bipush (v := (-2)) dc_LB_cost_24 rfl (by decide) ?_
  refine g_callS (M := m_LB_asLong) (As := [.int (-2)]) (rest := []) ok_LB_asLong st_LB_asLong ml_LB_119 rfl rfl (Nat.le_of_ble_eq_true rfl) dc_LB_cost_26 rfl rOk_fr (c_LB_asLong ?_)
  show Go G (fr G m_LB_cost (d + 4) P) 29 [none, none, none, none, none, none, none, none, none, none, none, none, none, none] [.long (f_LB_asLong (-2))] I J
  exact g_lret rfl dc_LB_cost_29 q1
theorem w_LB_cost_58 {G : GC} {d : Nat} {P : PT} {I : MI} {J : MJ}  (q1 : P (some (.long (f_LB_asLong (-2)))) I J) : Go G (fr G m_LB_cost (d + 4) P) 58 [none, none, none, none, none, none, none, none, none, none, none, none, none, none] [] I J := by
  refine g_bipush (v := (-2)) dc_LB_cost_58 rfl (by decide) ?_
  refine g_callS (M := m_LB_asLong) (As := [.int (-2)]) (rest := []) ok_LB_asLong st_LB_asLong ml_LB_119 rfl rfl (Nat.le_of_ble_eq_true rfl) dc_LB_cost_60 rfl rOk_fr (c_LB_asLong ?_)
  show Go G (fr G m_LB_cost (d + 4) P) 63 [none, none, none, none, none, none, none, none, none, none, none, none, none, none] [.long (f_LB_asLong (-2))] I J
  exact g_lret rfl dc_LB_cost_63 q1
theorem w_LB_cost_77 {G : GC} {d : Nat} {P : PT} {I : MI} {J : MJ} {x5 : Int32} {o6 : Nat} (h6 : PtsAt o6) {r0 : Nat} (g0 : MesAt r0) (k1 : Ct G (d + 3) (mesM r0 m_SU_above m_MI_above m_ON_above) [.ref r0, .ref o6, .int (-1), .int (-1)] (fun r I' J' => Go G (fr G m_LB_cost (d + 4) P) 88 [none, none, none, none, none, some (.int x5), none, some (.ref r0), none, none, none, none, none, none] (r.toList ++ []) I' J') I J) : Go G (fr G m_LB_cost (d + 4) P) 77 [none, none, none, none, none, some (.int x5), some (.ref o6), none, none, none, none, none, none, none] [.ref r0] I J := by
  refine g_astore (L' := [none, none, none, none, none, some (.int x5), some (.ref o6), some (.ref r0), none, none, none, none, none, none]) dc_LB_cost_77 rfl (Nat.le_of_ble_eq_true rfl) rfl ?_
  refine g_aload dc_LB_cost_79 rfl rfl ?_
  refine g_aload dc_LB_cost_81 rfl rfl ?_
  refine g_iconst (v := (-1)) dc_LB_cost_83 rfl (by decide) ?_
  refine g_iconst (v := (-1)) dc_LB_cost_84 rfl (by decide) ?_
  refine g_weak [none, none, none, none, none, some (.int x5), none, some (.ref r0), none, none, none, none, none, none] ⟨rfl, ⟨rfl, trivial⟩⟩ ?_
  exact g_callM_above (As := [.ref o6, .int (-1), .int (-1)]) (rest := []) g0 ml_LB_127 rfl rfl (Nat.le_of_ble_eq_true rfl) dc_LB_cost_85 rfl rOk_fr k1
theorem w_LB_cost_88 {G : GC} {d : Nat} {P : PT} {I : MI} {J : MJ} {x5 : Int32} {o7 : Nat} (h7 : MesAt o7) {s0 : Int64} (k1 : Ct G (d + 3) (mesM o7 m_SU_below m_MI_below m_ON_below) [.ref o7, .int 0] (fun r I' J' => Go G (fr G m_LB_cost (d + 4) P) 96 [none, none, none, none, none, some (.int x5), none, none, some (.long s0), none, none, none, none, none] (r.toList ++ []) I' J') I J) : Go G (fr G m_LB_cost (d + 4) P) 88 [none, none, none, none, none, some (.int x5), none, some (.ref o7), none, none, none, none, none, none] [.long s0] I J := by
  refine g_lstore (L' := [none, none, none, none, none, some (.int x5), none, some (.ref o7), some (.long s0), none, none, none, none, none]) dc_LB_cost_88 rfl (Nat.le_of_ble_eq_true rfl) rfl ?_
  refine g_aload dc_LB_cost_90 rfl rfl ?_
  refine g_iconst (v := 0) dc_LB_cost_92 rfl (by decide) ?_
  refine g_weak [none, none, none, none, none, some (.int x5), none, none, some (.long s0), none, none, none, none, none] ⟨rfl, ⟨rfl, trivial⟩⟩ ?_
  exact g_callM_below (As := [.int 0]) (rest := []) h7 ml_LB_133 rfl rfl (Nat.le_of_ble_eq_true rfl) dc_LB_cost_93 rfl rOk_fr k1
theorem w_LB_cost_96 {G : GC} {d : Nat} {P : PT} {I : MI} {J : MJ} {x5 : Int32} {l8 : Int64} {y0 : Int32} (k1 : Ct G (d + 3) m_CU_commonDivisor [.long l8, .long (Int32.toInt64 y0)] (fun r I' J' => Go G (fr G m_LB_cost (d + 4) P) 106 [none, none, none, none, none, some (.int x5), none, none, some (.long l8), none, some (.long (Int32.toInt64 y0)), none, none, none] (r.toList ++ []) I' J') I J) : Go G (fr G m_LB_cost (d + 4) P) 96 [none, none, none, none, none, some (.int x5), none, none, some (.long l8), none, none, none, none, none] [.int y0] I J := by
  refine g_i2l dc_LB_cost_96 rfl ?_
  refine g_lstore (L' := [none, none, none, none, none, some (.int x5), none, none, some (.long l8), none, some (.long (Int32.toInt64 y0)), none, none, none]) dc_LB_cost_97 rfl (Nat.le_of_ble_eq_true rfl) rfl ?_
  refine g_lload dc_LB_cost_99 rfl rfl ?_
  refine g_lload dc_LB_cost_101 rfl rfl ?_
  exact g_callS (As := [.long l8, .long (Int32.toInt64 y0)]) (rest := []) ok_CU_commonDivisor st_CU_commonDivisor ml_LB_136 rfl rfl (Nat.le_of_ble_eq_true rfl) dc_LB_cost_103 rfl rOk_fr k1
theorem w_LB_cost_106 {G : GC} {d : Nat} {P : PT} {I : MI} {J : MJ} {x5 : Int32} {l8 : Int64} {l10 : Int64} {s0 : Int64} (z1 : (1 ≤ s0) → (¬ x5 = 0) → ¬ s0 = 0) (q2 : (1 ≤ s0) → (¬ x5 = 0) → P (some (.long (l10 / s0))) I J) (z3 : (1 ≤ s0) → (x5 = 0) → ¬ s0 = 0) (q4 : (1 ≤ s0) → (x5 = 0) → P (some (.long (l8 / s0))) I J) (q5 : (¬ (1 ≤ s0)) → P (some (.long (f_LB_asLong (-2)))) I J) : Go G (fr G m_LB_cost (d + 4) P) 106 [none, none, none, none, none, some (.int x5), none, none, some (.long l8), none, some (.long l10), none, none, none] [.long s0] I J := by
  refine g_lstore (L' := [none, none, none, none, none, some (.int x5), none, none, some (.long l8), none, some (.long l10), none, some (.long s0), none]) dc_LB_cost_106 rfl (Nat.le_of_ble_eq_true rfl) rfl ?_
  refine g_lload dc_LB_cost_108 rfl rfl ?_
  refine g_lconst (v := 1) dc_LB_cost_110 rfl (by decide) ?_
  refine g_lc_ge (tgt := 121) dc_LB_cost_111 rfl dc_LB_cost_112 rfl (by decide) (fun c1 => ?_) (fun c1 => ?_)
  · refine g_iload dc_LB_cost_121 rfl rfl ?_
    refine g_if_ne (tgt := 134) dc_LB_cost_123 rfl (by decide) (fun c2 => ?_) (fun c2 => ?_)
    · refine g_lload dc_LB_cost_134 rfl rfl ?_
      refine g_lload dc_LB_cost_136 rfl rfl ?_
      refine g_ldiv dc_LB_cost_138 rfl (z1 c1 c2) ?_
      exact g_lret rfl dc_LB_cost_139 (q2 c1 c2)
    · refine g_lload dc_LB_cost_126 rfl rfl ?_
      refine g_lload dc_LB_cost_128 rfl rfl ?_
      refine g_ldiv dc_LB_cost_130 rfl (z3 c1 c2) ?_
      refine g_goto (tgt := 139) dc_LB_cost_131 (by decide) ?_
      exact g_lret rfl dc_LB_cost_139 (q4 c1 c2)
  · refine g_bipush (v := (-2)) dc_LB_cost_115 rfl (by decide) ?_
    refine g_callS (M := m_LB_asLong) (As := [.int (-2)]) (rest := []) ok_LB_asLong st_LB_asLong ml_LB_119 rfl rfl (Nat.le_of_ble_eq_true rfl) dc_LB_cost_117 rfl rOk_fr (c_LB_asLong ?_)
    show Go G (fr G m_LB_cost (d + 4) P) 120 [none, none, none, none, none, some (.int x5), none, none, some (.long l8), none, some (.long l10), none, some (.long s0), none] [.long (f_LB_asLong (-2))] I J
    exact g_lret rfl dc_LB_cost_120 (q5 c1)
theorem dc_LB_count_0 : decode prog_1_method_32_code 0 = .ok (.iload_n 1, 1) := by decide +kernel
theorem dc_LB_count_1 : decode prog_1_method_32_code 1 = .ok (.tableswitch 95 0 8 #[51, 51, 51, 51, 61, 69, 74, 82, 90], 51) := by decide +kernel
theorem dc_LB_count_52 : decode prog_1_method_32_code 52 = .ok (.aload_n 0, 1) := by decide +kernel
theorem dc_LB_count_53 : decode prog_1_method_32_code 53 = .ok (.getfield 19, 3) := by decide +kernel
theorem dc_LB_count_56 : decode prog_1_method_32_code 56 = .ok (.iload_n 1, 1) := by decide +kernel
theorem dc_LB_count_57 : decode prog_1_method_32_code 57 = .ok (.aaload, 1) := by decide +kernel
theorem dc_LB_count_58 : decode prog_1_method_32_code 58 = .ok (.getfield 115, 3) := by decide +kernel
theorem dc_LB_count_61 : decode prog_1_method_32_code 61 = .ok (.ireturn, 1) := by decide +kernel
theorem dc_LB_count_62 : decode prog_1_method_32_code 62 = .ok (.aload_n 0, 1) := by decide +kernel
theorem dc_LB_count_63 : decode prog_1_method_32_code 63 = .ok (.getfield 10, 3) := by decide +kernel
theorem dc_LB_count_66 : decode prog_1_method_32_code 66 = .ok (.getfield 82, 3) := by decide +kernel
theorem dc_LB_count_69 : decode prog_1_method_32_code 69 = .ok (.ireturn, 1) := by decide +kernel
theorem dc_LB_count_70 : decode prog_1_method_32_code 70 = .ok (.aload_n 0, 1) := by decide +kernel
theorem dc_LB_count_71 : decode prog_1_method_32_code 71 = .ok (.getfield 62, 3) := by decide +kernel
theorem dc_LB_count_74 : decode prog_1_method_32_code 74 = .ok (.ireturn, 1) := by decide +kernel
theorem dc_LB_count_75 : decode prog_1_method_32_code 75 = .ok (.aload_n 0, 1) := by decide +kernel
theorem dc_LB_count_76 : decode prog_1_method_32_code 76 = .ok (.getfield 10, 3) := by decide +kernel
theorem dc_LB_count_79 : decode prog_1_method_32_code 79 = .ok (.invokevirtual 297, 3) := by decide +kernel
theorem dc_LB_count_82 : decode prog_1_method_32_code 82 = .ok (.ireturn, 1) := by decide +kernel
theorem dc_LB_count_83 : decode prog_1_method_32_code 83 = .ok (.aload_n 0, 1) := by decide +kernel
theorem dc_LB_count_84 : decode prog_1_method_32_code 84 = .ok (.getfield 51, 3) := by decide +kernel
theorem dc_LB_count_87 : decode prog_1_method_32_code 87 = .ok (.getfield 250, 3) := by decide +kernel
theorem dc_LB_count_90 : decode prog_1_method_32_code 90 = .ok (.ireturn, 1) := by decide +kernel
theorem dc_LB_count_91 : decode prog_1_method_32_code 91 = .ok (.aload_n 0, 1) := by decide +kernel
theorem dc_LB_count_92 : decode prog_1_method_32_code 92 = .ok (.getfield 66, 3) := by decide +kernel
theorem dc_LB_count_95 : decode prog_1_method_32_code 95 = .ok (.ireturn, 1) := by decide +kernel
theorem dc_LB_count_96 : decode prog_1_method_32_code 96 = .ok (.bipush (-2), 2) := by decide +kernel
theorem dc_LB_count_98 : decode prog_1_method_32_code 98 = .ok (.ireturn, 1) := by decide +kernel
theorem w_LB_count_0 {G : GC} {d : Nat} {P : PT} {I : MI} {J : MJ} {x1 : Int32} (b1 : (x1 = 0) → vp_in x1 4) (q2 : (x1 = 0) → P (some (.int (I (7 + 5 * x1.toNatClampNeg) 4))) I J) (b3 : (x1 = 1) → vp_in x1 4) (q4 : (x1 = 1) → P (some (.int (I (7 + 5 * x1.toNatClampNeg) 4))) I J) (b5 : (x1 = 2) → vp_in x1 4) (q6 : (x1 = 2) → P (some (.int (I (7 + 5 * x1.toNatClampNeg) 4))) I J) (b7 : (x1 = 3) → vp_in x1 4) (q8 : (x1 = 3) → P (some (.int (I (7 + 5 * x1.toNatClampNeg) 4))) I J) (q9 : (x1 = 4) → P (some (.int (I 1 4))) I J) (q10 : (x1 = 5) → P (some (.int (I 0 9))) I J) (k11 : (x1 = 6) → Ct G d m_LE_lastTime [.ref 1] (fun r I' J' => Go G (fr G m_LB_count (d + 1) P) 82 [none, none] (r.toList ++ []) I' J') I J) (q12 : (x1 = 7) → P (some (.int (I 53 1))) I J) (q13 : (x1 = 8) → P (some (.int (I 0 10))) I J) (q14 : (¬ x1 = 0) → (¬ x1 = 1) → (¬ x1 = 2) → (¬ x1 = 3) → (¬ x1 = 4) → (¬ x1 = 5) → (¬ x1 = 6) → (¬ x1 = 7) → (¬ x1 = 8) → P (some (.int (-2))) I J) : Go G (fr G m_LB_count (d + 1) P) 0 [some (.ref 0), some (.int x1)] [] I J := by
  refine g_iload_n dc_LB_count_0 rfl rfl rfl ?_
  by_cases c1 : x1 = 0
  · refine g_tabIn (tgt := 52) dc_LB_count_1 (by rw [c1]; decide) (by rw [c1]; decide) (by rw [c1]; rfl) (by decide) ?_
    refine g_aload_n dc_LB_count_52 rfl rfl rfl ?_
    refine g_get (C := "LevelBreaks") (T := T_LB) (N := 11) (k := 1) (v := .ref 6) sh_0 (by decide) rfl rfl i_LB (by decide) fl_LB_19 (Or.inl rfl) rfl dc_LB_count_53 rfl ?_
    refine g_iload_n dc_LB_count_56 rfl rfl rfl ?_
    refine g_aald (r := (7 + 5 * x1.toNatClampNeg)) sh_6 (by decide) rfl (b1 c1) (now_at (vin_lt (b1 c1))) dc_LB_count_57 rfl ?_
    refine g_get (C := "LevelBreaks$Points") (T := T_PO) (N := 5) (k := 4) (v := .int (I (7 + 5 * x1.toNatClampNeg) 4)) (pts_in (b1 c1)).1 (by decide) rfl rfl i_PO (by decide) fl_LB_115 (Or.inl rfl) rfl dc_LB_count_58 rfl ?_
    exact g_iret rfl dc_LB_count_61 (q2 c1)
  by_cases c2 : x1 = 1
  · refine g_tabIn (tgt := 52) dc_LB_count_1 (by rw [c2]; decide) (by rw [c2]; decide) (by rw [c2]; rfl) (by decide) ?_
    refine g_aload_n dc_LB_count_52 rfl rfl rfl ?_
    refine g_get (C := "LevelBreaks") (T := T_LB) (N := 11) (k := 1) (v := .ref 6) sh_0 (by decide) rfl rfl i_LB (by decide) fl_LB_19 (Or.inl rfl) rfl dc_LB_count_53 rfl ?_
    refine g_iload_n dc_LB_count_56 rfl rfl rfl ?_
    refine g_aald (r := (7 + 5 * x1.toNatClampNeg)) sh_6 (by decide) rfl (b3 c2) (now_at (vin_lt (b3 c2))) dc_LB_count_57 rfl ?_
    refine g_get (C := "LevelBreaks$Points") (T := T_PO) (N := 5) (k := 4) (v := .int (I (7 + 5 * x1.toNatClampNeg) 4)) (pts_in (b3 c2)).1 (by decide) rfl rfl i_PO (by decide) fl_LB_115 (Or.inl rfl) rfl dc_LB_count_58 rfl ?_
    exact g_iret rfl dc_LB_count_61 (q4 c2)
  by_cases c3 : x1 = 2
  · refine g_tabIn (tgt := 52) dc_LB_count_1 (by rw [c3]; decide) (by rw [c3]; decide) (by rw [c3]; rfl) (by decide) ?_
    refine g_aload_n dc_LB_count_52 rfl rfl rfl ?_
    refine g_get (C := "LevelBreaks") (T := T_LB) (N := 11) (k := 1) (v := .ref 6) sh_0 (by decide) rfl rfl i_LB (by decide) fl_LB_19 (Or.inl rfl) rfl dc_LB_count_53 rfl ?_
    refine g_iload_n dc_LB_count_56 rfl rfl rfl ?_
    refine g_aald (r := (7 + 5 * x1.toNatClampNeg)) sh_6 (by decide) rfl (b5 c3) (now_at (vin_lt (b5 c3))) dc_LB_count_57 rfl ?_
    refine g_get (C := "LevelBreaks$Points") (T := T_PO) (N := 5) (k := 4) (v := .int (I (7 + 5 * x1.toNatClampNeg) 4)) (pts_in (b5 c3)).1 (by decide) rfl rfl i_PO (by decide) fl_LB_115 (Or.inl rfl) rfl dc_LB_count_58 rfl ?_
    exact g_iret rfl dc_LB_count_61 (q6 c3)
  by_cases c4 : x1 = 3
  · refine g_tabIn (tgt := 52) dc_LB_count_1 (by rw [c4]; decide) (by rw [c4]; decide) (by rw [c4]; rfl) (by decide) ?_
    refine g_aload_n dc_LB_count_52 rfl rfl rfl ?_
    refine g_get (C := "LevelBreaks") (T := T_LB) (N := 11) (k := 1) (v := .ref 6) sh_0 (by decide) rfl rfl i_LB (by decide) fl_LB_19 (Or.inl rfl) rfl dc_LB_count_53 rfl ?_
    refine g_iload_n dc_LB_count_56 rfl rfl rfl ?_
    refine g_aald (r := (7 + 5 * x1.toNatClampNeg)) sh_6 (by decide) rfl (b7 c4) (now_at (vin_lt (b7 c4))) dc_LB_count_57 rfl ?_
    refine g_get (C := "LevelBreaks$Points") (T := T_PO) (N := 5) (k := 4) (v := .int (I (7 + 5 * x1.toNatClampNeg) 4)) (pts_in (b7 c4)).1 (by decide) rfl rfl i_PO (by decide) fl_LB_115 (Or.inl rfl) rfl dc_LB_count_58 rfl ?_
    exact g_iret rfl dc_LB_count_61 (q8 c4)
  by_cases c5 : x1 = 4
  · refine g_tabIn (tgt := 62) dc_LB_count_1 (by rw [c5]; decide) (by rw [c5]; decide) (by rw [c5]; rfl) (by decide) ?_
    refine g_aload_n dc_LB_count_62 rfl rfl rfl ?_
    refine g_get (C := "LevelBreaks") (T := T_LB) (N := 11) (k := 0) (v := .ref 1) sh_0 (by decide) rfl rfl i_LB (by decide) fl_LB_10 (Or.inl rfl) rfl dc_LB_count_63 rfl ?_
    refine g_get (C := "LevelBreaks$Ledger") (T := T_LE) (N := 5) (k := 4) (v := .int (I 1 4)) sh_1 (by decide) rfl rfl i_LE (by decide) fl_LB_82 (Or.inl rfl) rfl dc_LB_count_66 rfl ?_
    exact g_iret rfl dc_LB_count_69 (q9 c5)
  by_cases c6 : x1 = 5
  · refine g_tabIn (tgt := 70) dc_LB_count_1 (by rw [c6]; decide) (by rw [c6]; decide) (by rw [c6]; rfl) (by decide) ?_
    refine g_aload_n dc_LB_count_70 rfl rfl rfl ?_
    refine g_get (C := "LevelBreaks") (T := T_LB) (N := 11) (k := 9) (v := .int (I 0 9)) sh_0 (by decide) rfl rfl i_LB (by decide) fl_LB_62 (Or.inl rfl) rfl dc_LB_count_71 rfl ?_
    exact g_iret rfl dc_LB_count_74 (q10 c6)
  by_cases c7 : x1 = 6
  · refine g_tabIn (tgt := 75) dc_LB_count_1 (by rw [c7]; decide) (by rw [c7]; decide) (by rw [c7]; rfl) (by decide) ?_
    refine g_aload_n dc_LB_count_75 rfl rfl rfl ?_
    refine g_get (C := "LevelBreaks") (T := T_LB) (N := 11) (k := 0) (v := .ref 1) sh_0 (by decide) rfl rfl i_LB (by decide) fl_LB_10 (Or.inl rfl) rfl dc_LB_count_76 rfl ?_
    refine g_weak [none, none] trivial ?_
    exact g_callV (T := T_LE) (N := 5) (As := []) (rest := []) ok_LE_lastTime in_LE_lastTime se_LE_lastTime ml_LB_297 sh_1 (by decide) rfl rfl rfl (Nat.le_of_ble_eq_true rfl) dc_LB_count_79 rfl rOk_fr (k11 c7)
  by_cases c8 : x1 = 7
  · refine g_tabIn (tgt := 83) dc_LB_count_1 (by rw [c8]; decide) (by rw [c8]; decide) (by rw [c8]; rfl) (by decide) ?_
    refine g_aload_n dc_LB_count_83 rfl rfl rfl ?_
    refine g_get (C := "LevelBreaks") (T := T_LB) (N := 11) (k := 7) (v := .ref 53) sh_0 (by decide) rfl rfl i_LB (by decide) fl_LB_51 (Or.inl rfl) rfl dc_LB_count_84 rfl ?_
    refine g_get (C := "LevelBreaks$Beforehand") (T := T_BF) (N := 8) (k := 1) (v := .int (I 53 1)) sh_53 (by decide) rfl rfl i_BF (by decide) fl_LB_250 (Or.inl rfl) rfl dc_LB_count_87 rfl ?_
    exact g_iret rfl dc_LB_count_90 (q12 c8)
  by_cases c9 : x1 = 8
  · refine g_tabIn (tgt := 91) dc_LB_count_1 (by rw [c9]; decide) (by rw [c9]; decide) (by rw [c9]; rfl) (by decide) ?_
    refine g_aload_n dc_LB_count_91 rfl rfl rfl ?_
    refine g_get (C := "LevelBreaks") (T := T_LB) (N := 11) (k := 10) (v := .int (I 0 10)) sh_0 (by decide) rfl rfl i_LB (by decide) fl_LB_66 (Or.inl rfl) rfl dc_LB_count_92 rfl ?_
    exact g_iret rfl dc_LB_count_95 (q13 c9)
  refine g_tabOut (tgt := 96) dc_LB_count_1 (by
      have t0 : Int32.toInt x1 ≠ 0 := fun h => c1 (Int32.toInt_inj.mp (h.trans (by decide)))
      have t1 : Int32.toInt x1 ≠ 1 := fun h => c2 (Int32.toInt_inj.mp (h.trans (by decide)))
      have t2 : Int32.toInt x1 ≠ 2 := fun h => c3 (Int32.toInt_inj.mp (h.trans (by decide)))
      have t3 : Int32.toInt x1 ≠ 3 := fun h => c4 (Int32.toInt_inj.mp (h.trans (by decide)))
      have t4 : Int32.toInt x1 ≠ 4 := fun h => c5 (Int32.toInt_inj.mp (h.trans (by decide)))
      have t5 : Int32.toInt x1 ≠ 5 := fun h => c6 (Int32.toInt_inj.mp (h.trans (by decide)))
      have t6 : Int32.toInt x1 ≠ 6 := fun h => c7 (Int32.toInt_inj.mp (h.trans (by decide)))
      have t7 : Int32.toInt x1 ≠ 7 := fun h => c8 (Int32.toInt_inj.mp (h.trans (by decide)))
      have t8 : Int32.toInt x1 ≠ 8 := fun h => c9 (Int32.toInt_inj.mp (h.trans (by decide)))
      omega) (by decide) ?_
  refine g_bipush (v := (-2)) dc_LB_count_96 rfl (by decide) ?_
  exact g_iret rfl dc_LB_count_98 (q14 c1 c2 c3 c4 c5 c6 c7 c8 c9)
theorem w_LB_count_82 {G : GC} {d : Nat} {P : PT} {I : MI} {J : MJ} {y0 : Int32} (q1 : P (some (.int y0)) I J) : Go G (fr G m_LB_count (d + 1) P) 82 [none, none] [.int y0] I J := by
  exact g_iret rfl dc_LB_count_82 q1
theorem dc_LB_cut_0 : decode prog_1_method_10_code 0 = .ok (.iload_n 1, 1) := by decide +kernel
theorem dc_LB_cut_1 : decode prog_1_method_10_code 1 = .ok (.invokestatic 69, 3) := by decide +kernel
theorem dc_LB_cut_4 : decode prog_1_method_10_code 4 = .ok (.ifCond .eq 28, 3) := by decide +kernel
theorem dc_LB_cut_7 : decode prog_1_method_10_code 7 = .ok (.iload_n 2, 1) := by decide +kernel
theorem dc_LB_cut_8 : decode prog_1_method_10_code 8 = .ok (.invokestatic 116, 3) := by decide +kernel
theorem dc_LB_cut_11 : decode prog_1_method_10_code 11 = .ok (.ifCond .eq 21, 3) := by decide +kernel
theorem dc_LB_cut_14 : decode prog_1_method_10_code 14 = .ok (.iload_n 3, 1) := by decide +kernel
theorem dc_LB_cut_15 : decode prog_1_method_10_code 15 = .ok (.invokestatic 140, 3) := by decide +kernel
theorem dc_LB_cut_18 : decode prog_1_method_10_code 18 = .ok (.ifCond .eq 14, 3) := by decide +kernel
theorem dc_LB_cut_21 : decode prog_1_method_10_code 21 = .ok (.iload 4, 2) := by decide +kernel
theorem dc_LB_cut_23 : decode prog_1_method_10_code 23 = .ok (.ifCond .lt 9, 3) := by decide +kernel
theorem dc_LB_cut_26 : decode prog_1_method_10_code 26 = .ok (.iload 4, 2) := by decide +kernel
theorem dc_LB_cut_28 : decode prog_1_method_10_code 28 = .ok (.iload_n 3, 1) := by decide +kernel
theorem dc_LB_cut_29 : decode prog_1_method_10_code 29 = .ok (.if_icmp .lt 6, 3) := by decide +kernel
theorem dc_LB_cut_32 : decode prog_1_method_10_code 32 = .ok (.bipush (-2), 2) := by decide +kernel
theorem dc_LB_cut_34 : decode prog_1_method_10_code 34 = .ok (.ireturn, 1) := by decide +kernel
theorem dc_LB_cut_35 : decode prog_1_method_10_code 35 = .ok (.aload_n 0, 1) := by decide +kernel
theorem dc_LB_cut_36 : decode prog_1_method_10_code 36 = .ok (.iload_n 1, 1) := by decide +kernel
theorem dc_LB_cut_37 : decode prog_1_method_10_code 37 = .ok (.iload_n 2, 1) := by decide +kernel
theorem dc_LB_cut_38 : decode prog_1_method_10_code 38 = .ok (.iload_n 3, 1) := by decide +kernel
theorem dc_LB_cut_39 : decode prog_1_method_10_code 39 = .ok (.invokevirtual 143, 3) := by decide +kernel
theorem dc_LB_cut_42 : decode prog_1_method_10_code 42 = .ok (.ifCond .ne 6, 3) := by decide +kernel
theorem dc_LB_cut_45 : decode prog_1_method_10_code 45 = .ok (.bipush (-3), 2) := by decide +kernel
theorem dc_LB_cut_47 : decode prog_1_method_10_code 47 = .ok (.ireturn, 1) := by decide +kernel
theorem dc_LB_cut_48 : decode prog_1_method_10_code 48 = .ok (.aload_n 0, 1) := by decide +kernel
theorem dc_LB_cut_49 : decode prog_1_method_10_code 49 = .ok (.getfield 34, 3) := by decide +kernel
theorem dc_LB_cut_52 : decode prog_1_method_10_code 52 = .ok (.aload_n 0, 1) := by decide +kernel
theorem dc_LB_cut_53 : decode prog_1_method_10_code 53 = .ok (.getfield 19, 3) := by decide +kernel
theorem dc_LB_cut_56 : decode prog_1_method_10_code 56 = .ok (.iload_n 1, 1) := by decide +kernel
theorem dc_LB_cut_57 : decode prog_1_method_10_code 57 = .ok (.aaload, 1) := by decide +kernel
theorem dc_LB_cut_58 : decode prog_1_method_10_code 58 = .ok (.iload 4, 2) := by decide +kernel
theorem dc_LB_cut_60 : decode prog_1_method_10_code 60 = .ok (.invokevirtual 152, 3) := by decide +kernel
theorem dc_LB_cut_63 : decode prog_1_method_10_code 63 = .ok (.ireturn, 1) := by decide +kernel
theorem w_LB_cut_0 {G : GC} {d : Nat} {P : PT} {I : MI} {J : MJ} {x1 : Int32} {x2 : Int32} {x3 : Int32} {x4 : Int32} (k1 : ((f_LB_isRow x1) = 0) → Go G (fr G m_LB_cut (d + 6) P) 32 [none, none, none, none, none] [] I J) (k2 : (¬ ((f_LB_isRow x1) = 0)) → ((f_LB_isKind x2) = 0) → Go G (fr G m_LB_cut (d + 6) P) 32 [none, none, none, none, none] [] I J) (k3 : (¬ ((f_LB_isRow x1) = 0)) → (¬ ((f_LB_isKind x2) = 0)) → ((f_LB_isStretches x3) = 0) → Go G (fr G m_LB_cut (d + 6) P) 32 [none, none, none, none, none] [] I J) (k4 : (¬ ((f_LB_isRow x1) = 0)) → (¬ ((f_LB_isKind x2) = 0)) → (¬ ((f_LB_isStretches x3) = 0)) → (x4 < 0) → Go G (fr G m_LB_cut (d + 6) P) 32 [none, none, none, none, none] [] I J) (k5 : (¬ ((f_LB_isRow x1) = 0)) → (¬ ((f_LB_isKind x2) = 0)) → (¬ ((f_LB_isStretches x3) = 0)) → (¬ (x4 < 0)) → (x4 < x3) → Ct G (d + 5) m_LB_cutRow [.ref 0, .int x1, .int x2, .int x3] (fun r I' J' => Go G (fr G m_LB_cut (d + 6) P) 42 [some (.ref 0), some (.int x1), none, none, some (.int x4)] (r.toList ++ []) I' J') I J) (k6 : (¬ ((f_LB_isRow x1) = 0)) → (¬ ((f_LB_isKind x2) = 0)) → (¬ ((f_LB_isStretches x3) = 0)) → (¬ (x4 < 0)) → (¬ (x4 < x3)) → Go G (fr G m_LB_cut (d + 6) P) 32 [none, none, none, none, none] [] I J) : Go G (fr G m_LB_cut (d + 6) P) 0 [some (.ref 0), some (.int x1), some (.int x2), some (.int x3), some (.int x4)] [] I J := by
  refine g_iload_n dc_LB_cut_0 rfl rfl rfl ?_
  refine g_callS (M := m_LB_isRow) (As := [.int x1]) (rest := []) ok_LB_isRow st_LB_isRow ml_LB_69 rfl rfl (Nat.le_of_ble_eq_true rfl) dc_LB_cut_1 rfl rOk_fr (c_LB_isRow ?_)
  show Go G (fr G m_LB_cut (d + 6) P) 4 [some (.ref 0), some (.int x1), some (.int x2), some (.int x3), some (.int x4)] [.int (f_LB_isRow x1)] I J
  refine g_if_eq (tgt := 32) dc_LB_cut_4 rfl (by decide) (fun c1 => ?_) (fun c1 => ?_)
  · refine g_weak [none, none, none, none, none] trivial ?_
    exact (k1 c1)
  · refine g_iload_n dc_LB_cut_7 rfl rfl rfl ?_
    refine g_callS (M := m_LB_isKind) (As := [.int x2]) (rest := []) ok_LB_isKind st_LB_isKind ml_LB_116 rfl rfl (Nat.le_of_ble_eq_true rfl) dc_LB_cut_8 rfl rOk_fr (c_LB_isKind ?_)
    show Go G (fr G m_LB_cut (d + 6) P) 11 [some (.ref 0), some (.int x1), some (.int x2), some (.int x3), some (.int x4)] [.int (f_LB_isKind x2)] I J
    refine g_if_eq (tgt := 32) dc_LB_cut_11 rfl (by decide) (fun c2 => ?_) (fun c2 => ?_)
    · refine g_weak [none, none, none, none, none] trivial ?_
      exact (k2 c1 c2)
    · refine g_iload_n dc_LB_cut_14 rfl rfl rfl ?_
      refine g_callS (M := m_LB_isStretches) (As := [.int x3]) (rest := []) ok_LB_isStretches st_LB_isStretches ml_LB_140 rfl rfl (Nat.le_of_ble_eq_true rfl) dc_LB_cut_15 rfl rOk_fr (c_LB_isStretches ?_)
      show Go G (fr G m_LB_cut (d + 6) P) 18 [some (.ref 0), some (.int x1), some (.int x2), some (.int x3), some (.int x4)] [.int (f_LB_isStretches x3)] I J
      refine g_if_eq (tgt := 32) dc_LB_cut_18 rfl (by decide) (fun c3 => ?_) (fun c3 => ?_)
      · refine g_weak [none, none, none, none, none] trivial ?_
        exact (k3 c1 c2 c3)
      · refine g_iload dc_LB_cut_21 rfl rfl ?_
        refine g_if_lt (tgt := 32) dc_LB_cut_23 rfl (by decide) (fun c4 => ?_) (fun c4 => ?_)
        · refine g_weak [none, none, none, none, none] trivial ?_
          exact (k4 c1 c2 c3 c4)
        · refine g_iload dc_LB_cut_26 rfl rfl ?_
          refine g_iload_n dc_LB_cut_28 rfl rfl rfl ?_
          refine g_ic_lt (tgt := 35) dc_LB_cut_29 rfl (by decide) (fun c5 => ?_) (fun c5 => ?_)
          · refine g_aload_n dc_LB_cut_35 rfl rfl rfl ?_
            refine g_iload_n dc_LB_cut_36 rfl rfl rfl ?_
            refine g_iload_n dc_LB_cut_37 rfl rfl rfl ?_
            refine g_iload_n dc_LB_cut_38 rfl rfl rfl ?_
            refine g_weak [some (.ref 0), some (.int x1), none, none, some (.int x4)] ⟨rfl, ⟨rfl, ⟨rfl, trivial⟩⟩⟩ ?_
            exact g_callV (T := T_LB) (N := 11) (As := [.int x1, .int x2, .int x3]) (rest := []) ok_LB_cutRow in_LB_cutRow se_LB_cutRow ml_LB_143 sh_0 (by decide) rfl rfl rfl (Nat.le_of_ble_eq_true rfl) dc_LB_cut_39 rfl rOk_fr (k5 c1 c2 c3 c4 c5)
          · refine g_weak [none, none, none, none, none] trivial ?_
            exact (k6 c1 c2 c3 c4 c5)
theorem w_LB_cut_32 {G : GC} {d : Nat} {P : PT} {I : MI} {J : MJ}  (q1 : P (some (.int (-2))) I J) : Go G (fr G m_LB_cut (d + 6) P) 32 [none, none, none, none, none] [] I J := by
  refine g_bipush (v := (-2)) dc_LB_cut_32 rfl (by decide) ?_
  exact g_iret rfl dc_LB_cut_34 q1
theorem w_LB_cut_42 {G : GC} {d : Nat} {P : PT} {I : MI} {J : MJ} {x1 : Int32} {x4 : Int32} {y0 : Int32} (b1 : (¬ y0 = 0) → vp_in x1 4) (k2 : (¬ y0 = 0) → Ct G (d + 5) m_CU_startDay [.ref 33, .ref (7 + 5 * x1.toNatClampNeg), .int x4] (fun r I' J' => Go G (fr G m_LB_cut (d + 6) P) 63 [none, none, none, none, none] (r.toList ++ []) I' J') I J) (q3 : (y0 = 0) → P (some (.int (-3))) I J) : Go G (fr G m_LB_cut (d + 6) P) 42 [some (.ref 0), some (.int x1), none, none, some (.int x4)] [.int y0] I J := by
  refine g_if_ne (tgt := 48) dc_LB_cut_42 rfl (by decide) (fun c1 => ?_) (fun c1 => ?_)
  · refine g_aload_n dc_LB_cut_48 rfl rfl rfl ?_
    refine g_get (C := "LevelBreaks") (T := T_LB) (N := 11) (k := 4) (v := .ref 33) sh_0 (by decide) rfl rfl i_LB (by decide) fl_LB_34 (Or.inl rfl) rfl dc_LB_cut_49 rfl ?_
    refine g_aload_n dc_LB_cut_52 rfl rfl rfl ?_
    refine g_get (C := "LevelBreaks") (T := T_LB) (N := 11) (k := 1) (v := .ref 6) sh_0 (by decide) rfl rfl i_LB (by decide) fl_LB_19 (Or.inl rfl) rfl dc_LB_cut_53 rfl ?_
    refine g_iload_n dc_LB_cut_56 rfl rfl rfl ?_
    refine g_aald (r := (7 + 5 * x1.toNatClampNeg)) sh_6 (by decide) rfl (b1 c1) (now_at (vin_lt (b1 c1))) dc_LB_cut_57 rfl ?_
    refine g_iload dc_LB_cut_58 rfl rfl ?_
    refine g_weak [none, none, none, none, none] trivial ?_
    exact g_callV (T := T_CU) (N := 13) (As := [.ref (7 + 5 * x1.toNatClampNeg), .int x4]) (rest := []) ok_CU_startDay in_CU_startDay se_CU_startDay ml_LB_152 sh_33 (by decide) rfl rfl rfl (Nat.le_of_ble_eq_true rfl) dc_LB_cut_60 rfl rOk_fr (k2 c1)
  · refine g_bipush (v := (-3)) dc_LB_cut_45 rfl (by decide) ?_
    exact g_iret rfl dc_LB_cut_47 (q3 c1)
theorem w_LB_cut_63 {G : GC} {d : Nat} {P : PT} {I : MI} {J : MJ} {y0 : Int32} (q1 : P (some (.int y0)) I J) : Go G (fr G m_LB_cut (d + 6) P) 63 [none, none, none, none, none] [.int y0] I J := by
  exact g_iret rfl dc_LB_cut_63 q1
theorem dc_LB_cutRow_0 : decode prog_1_method_50_code 0 = .ok (.aload_n 0, 1) := by decide +kernel
theorem dc_LB_cutRow_1 : decode prog_1_method_50_code 1 = .ok (.getfield 34, 3) := by decide +kernel
theorem dc_LB_cutRow_4 : decode prog_1_method_50_code 4 = .ok (.aload_n 0, 1) := by decide +kernel
theorem dc_LB_cutRow_5 : decode prog_1_method_50_code 5 = .ok (.getfield 19, 3) := by decide +kernel
theorem dc_LB_cutRow_8 : decode prog_1_method_50_code 8 = .ok (.iload_n 1, 1) := by decide +kernel
theorem dc_LB_cutRow_9 : decode prog_1_method_50_code 9 = .ok (.aaload, 1) := by decide +kernel
theorem dc_LB_cutRow_10 : decode prog_1_method_50_code 10 = .ok (.iload_n 2, 1) := by decide +kernel
theorem dc_LB_cutRow_11 : decode prog_1_method_50_code 11 = .ok (.iload_n 3, 1) := by decide +kernel
theorem dc_LB_cutRow_12 : decode prog_1_method_50_code 12 = .ok (.aload_n 0, 1) := by decide +kernel
theorem dc_LB_cutRow_13 : decode prog_1_method_50_code 13 = .ok (.getfield 27, 3) := by decide +kernel
theorem dc_LB_cutRow_16 : decode prog_1_method_50_code 16 = .ok (.iload_n 1, 1) := by decide +kernel
theorem dc_LB_cutRow_17 : decode prog_1_method_50_code 17 = .ok (.iaload, 1) := by decide +kernel
theorem dc_LB_cutRow_18 : decode prog_1_method_50_code 18 = .ok (.iconst 0, 1) := by decide +kernel
theorem dc_LB_cutRow_19 : decode prog_1_method_50_code 19 = .ok (.invokevirtual 195, 3) := by decide +kernel
theorem dc_LB_cutRow_22 : decode prog_1_method_50_code 22 = .ok (.ireturn, 1) := by decide +kernel
theorem w_LB_cutRow_0 {G : GC} {d : Nat} {P : PT} {I : MI} {J : MJ} {x1 : Int32} {x2 : Int32} {x3 : Int32} (b1 : vp_in x1 4) (k2 : Ct G (d + 4) m_CU_cutPoints [.ref 33, .ref (7 + 5 * x1.toNatClampNeg), .int x2, .int x3, .int (I 32 x1.toNatClampNeg), .int 0] (fun r I' J' => Go G (fr G m_LB_cutRow (d + 5) P) 22 [none, none, none, none] (r.toList ++ []) I' J') I J) : Go G (fr G m_LB_cutRow (d + 5) P) 0 [some (.ref 0), some (.int x1), some (.int x2), some (.int x3)] [] I J := by
  refine g_aload_n dc_LB_cutRow_0 rfl rfl rfl ?_
  refine g_get (C := "LevelBreaks") (T := T_LB) (N := 11) (k := 4) (v := .ref 33) sh_0 (by decide) rfl rfl i_LB (by decide) fl_LB_34 (Or.inl rfl) rfl dc_LB_cutRow_1 rfl ?_
  refine g_aload_n dc_LB_cutRow_4 rfl rfl rfl ?_
  refine g_get (C := "LevelBreaks") (T := T_LB) (N := 11) (k := 1) (v := .ref 6) sh_0 (by decide) rfl rfl i_LB (by decide) fl_LB_19 (Or.inl rfl) rfl dc_LB_cutRow_5 rfl ?_
  refine g_iload_n dc_LB_cutRow_8 rfl rfl rfl ?_
  refine g_aald (r := (7 + 5 * x1.toNatClampNeg)) sh_6 (by decide) rfl b1 (now_at (vin_lt b1)) dc_LB_cutRow_9 rfl ?_
  refine g_iload_n dc_LB_cutRow_10 rfl rfl rfl ?_
  refine g_iload_n dc_LB_cutRow_11 rfl rfl rfl ?_
  refine g_aload_n dc_LB_cutRow_12 rfl rfl rfl ?_
  refine g_get (C := "LevelBreaks") (T := T_LB) (N := 11) (k := 3) (v := .ref 32) sh_0 (by decide) rfl rfl i_LB (by decide) fl_LB_27 (Or.inl rfl) rfl dc_LB_cutRow_13 rfl ?_
  refine g_iload_n dc_LB_cutRow_16 rfl rfl rfl ?_
  refine g_ialdv (v := (I 32 x1.toNatClampNeg)) sh_32 b1 rfl dc_LB_cutRow_17 rfl ?_
  refine g_iconst (v := 0) dc_LB_cutRow_18 rfl (by decide) ?_
  refine g_weak [none, none, none, none] trivial ?_
  exact g_callV (T := T_CU) (N := 13) (As := [.ref (7 + 5 * x1.toNatClampNeg), .int x2, .int x3, .int (I 32 x1.toNatClampNeg), .int 0]) (rest := []) ok_CU_cutPoints in_CU_cutPoints se_CU_cutPoints ml_LB_195 sh_33 (by decide) rfl rfl rfl (Nat.le_of_ble_eq_true rfl) dc_LB_cutRow_19 rfl rOk_fr k2
theorem w_LB_cutRow_22 {G : GC} {d : Nat} {P : PT} {I : MI} {J : MJ} {y0 : Int32} (q1 : P (some (.int y0)) I J) (z2 : y0 = 0 ∨ y0 = 1) : Go G (fr G m_LB_cutRow (d + 5) P) 22 [none, none, none, none] [.int y0] I J := by
  exact g_zret rfl z2 dc_LB_cutRow_22 q1
theorem dc_LB_daysNear_0 : decode prog_1_method_53_code 0 = .ok (.iconst 0, 1) := by decide +kernel
theorem dc_LB_daysNear_1 : decode prog_1_method_53_code 1 = .ok (.istore 4, 2) := by decide +kernel
theorem dc_LB_daysNear_3 : decode prog_1_method_53_code 3 = .ok (.iconst 1, 1) := by decide +kernel
theorem dc_LB_daysNear_4 : decode prog_1_method_53_code 4 = .ok (.istore 5, 2) := by decide +kernel
theorem dc_LB_daysNear_6 : decode prog_1_method_53_code 6 = .ok (.iload 5, 2) := by decide +kernel
theorem dc_LB_daysNear_8 : decode prog_1_method_53_code 8 = .ok (.bipush 40, 2) := by decide +kernel
theorem dc_LB_daysNear_10 : decode prog_1_method_53_code 10 = .ok (.if_icmp .ge 27, 3) := by decide +kernel
theorem dc_LB_daysNear_13 : decode prog_1_method_53_code 13 = .ok (.aload_n 0, 1) := by decide +kernel
theorem dc_LB_daysNear_14 : decode prog_1_method_53_code 14 = .ok (.getfield 34, 3) := by decide +kernel
theorem dc_LB_daysNear_17 : decode prog_1_method_53_code 17 = .ok (.aload_n 1, 1) := by decide +kernel
theorem dc_LB_daysNear_18 : decode prog_1_method_53_code 18 = .ok (.iload_n 2, 1) := by decide +kernel
theorem dc_LB_daysNear_19 : decode prog_1_method_53_code 19 = .ok (.iload 5, 2) := by decide +kernel
theorem dc_LB_daysNear_21 : decode prog_1_method_53_code 21 = .ok (.iload_n 3, 1) := by decide +kernel
theorem dc_LB_daysNear_22 : decode prog_1_method_53_code 22 = .ok (.invokevirtual 215, 3) := by decide +kernel
theorem dc_LB_daysNear_25 : decode prog_1_method_53_code 25 = .ok (.ifCond .eq 6, 3) := by decide +kernel
theorem dc_LB_daysNear_28 : decode prog_1_method_53_code 28 = .ok (.iinc 4 1, 3) := by decide +kernel
theorem dc_LB_daysNear_31 : decode prog_1_method_53_code 31 = .ok (.iinc 5 1, 3) := by decide +kernel
theorem dc_LB_daysNear_34 : decode prog_1_method_53_code 34 = .ok (.goto (-28), 3) := by decide +kernel
theorem dc_LB_daysNear_37 : decode prog_1_method_53_code 37 = .ok (.iload 4, 2) := by decide +kernel
theorem dc_LB_daysNear_39 : decode prog_1_method_53_code 39 = .ok (.ireturn, 1) := by decide +kernel
theorem w_LB_daysNear_0 {G : GC} {d : Nat} {P : PT} {I : MI} {J : MJ} {o1 : Nat} (h1 : PtsAt o1) {x2 : Int32} {x3 : Int32} (k1 : Go G (fr G m_LB_daysNear (d + 2) P) 6 [some (.ref 0), some (.ref o1), some (.int x2), some (.int x3), some (.int 0), some (.int 1)] [] I J) : Go G (fr G m_LB_daysNear (d + 2) P) 0 [some (.ref 0), some (.ref o1), some (.int x2), some (.int x3), none, none] [] I J := by
  refine g_iconst (v := 0) dc_LB_daysNear_0 rfl (by decide) ?_
  refine g_istore (L' := [some (.ref 0), some (.ref o1), some (.int x2), some (.int x3), some (.int 0), none]) dc_LB_daysNear_1 rfl (Nat.le_of_ble_eq_true rfl) rfl ?_
  refine g_iconst (v := 1) dc_LB_daysNear_3 rfl (by decide) ?_
  refine g_istore (L' := [some (.ref 0), some (.ref o1), some (.int x2), some (.int x3), some (.int 0), some (.int 1)]) dc_LB_daysNear_4 rfl (Nat.le_of_ble_eq_true rfl) rfl ?_
  exact k1
theorem w_LB_daysNear_6 {G : GC} {d : Nat} {P : PT} {I : MI} {J : MJ} {o1 : Nat} (h1 : PtsAt o1) {x2 : Int32} {x3 : Int32} {x4 : Int32} {x5 : Int32} (q1 : (40 ≤ x5) → P (some (.int x4)) I J) (k2 : (¬ (40 ≤ x5)) → Ct G (d + 1) m_CU_startsNear [.ref 33, .ref o1, .int x2, .int x5, .int x3] (fun r I' J' => Go G (fr G m_LB_daysNear (d + 2) P) 25 [some (.ref 0), some (.ref o1), some (.int x2), some (.int x3), some (.int x4), some (.int x5)] (r.toList ++ []) I' J') I J) : Go G (fr G m_LB_daysNear (d + 2) P) 6 [some (.ref 0), some (.ref o1), some (.int x2), some (.int x3), some (.int x4), some (.int x5)] [] I J := by
  refine g_iload dc_LB_daysNear_6 rfl rfl ?_
  refine g_bipush (v := 40) dc_LB_daysNear_8 rfl (by decide) ?_
  refine g_ic_ge (tgt := 37) dc_LB_daysNear_10 rfl (by decide) (fun c1 => ?_) (fun c1 => ?_)
  · refine g_iload dc_LB_daysNear_37 rfl rfl ?_
    exact g_iret rfl dc_LB_daysNear_39 (q1 c1)
  · refine g_aload_n dc_LB_daysNear_13 rfl rfl rfl ?_
    refine g_get (C := "LevelBreaks") (T := T_LB) (N := 11) (k := 4) (v := .ref 33) sh_0 (by decide) rfl rfl i_LB (by decide) fl_LB_34 (Or.inl rfl) rfl dc_LB_daysNear_14 rfl ?_
    refine g_aload_n dc_LB_daysNear_17 rfl rfl rfl ?_
    refine g_iload_n dc_LB_daysNear_18 rfl rfl rfl ?_
    refine g_iload dc_LB_daysNear_19 rfl rfl ?_
    refine g_iload_n dc_LB_daysNear_21 rfl rfl rfl ?_
    exact g_callV (T := T_CU) (N := 13) (As := [.ref o1, .int x2, .int x5, .int x3]) (rest := []) ok_CU_startsNear in_CU_startsNear se_CU_startsNear ml_LB_215 sh_33 (by decide) rfl rfl rfl (Nat.le_of_ble_eq_true rfl) dc_LB_daysNear_22 rfl rOk_fr (k2 c1)
theorem w_LB_daysNear_25 {G : GC} {d : Nat} {P : PT} {I : MI} {J : MJ} {o1 : Nat} (h1 : PtsAt o1) {x2 : Int32} {x3 : Int32} {x4 : Int32} {x5 : Int32} {y0 : Int32} (k1 : (y0 = 0) → Go G (fr G m_LB_daysNear (d + 2) P) 31 [some (.ref 0), some (.ref o1), some (.int x2), some (.int x3), some (.int x4), some (.int x5)] [] I J) (k2 : (¬ (y0 = 0)) → Go G (fr G m_LB_daysNear (d + 2) P) 31 [some (.ref 0), some (.ref o1), some (.int x2), some (.int x3), some (.int (x4 + 1)), some (.int x5)] [] I J) : Go G (fr G m_LB_daysNear (d + 2) P) 25 [some (.ref 0), some (.ref o1), some (.int x2), some (.int x3), some (.int x4), some (.int x5)] [.int y0] I J := by
  refine g_if_eq (tgt := 31) dc_LB_daysNear_25 rfl (by decide) (fun c1 => ?_) (fun c1 => ?_)
  · exact (k1 c1)
  · refine g_iinc (v := (x4 + 1)) (L' := [some (.ref 0), some (.ref o1), some (.int x2), some (.int x3), some (.int (x4 + 1)), some (.int x5)]) dc_LB_daysNear_28 rfl rfl (by rw [show Int32.ofInt 1 = 1 from by decide]) (Nat.le_of_ble_eq_true rfl) rfl ?_
    exact (k2 c1)
theorem w_LB_daysNear_31 {G : GC} {d : Nat} {P : PT} {I : MI} {J : MJ} {o1 : Nat} (h1 : PtsAt o1) {x2 : Int32} {x3 : Int32} {x4 : Int32} {x5 : Int32} (k1 : Go G (fr G m_LB_daysNear (d + 2) P) 6 [some (.ref 0), some (.ref o1), some (.int x2), some (.int x3), some (.int x4), some (.int (x5 + 1))] [] I J) : Go G (fr G m_LB_daysNear (d + 2) P) 31 [some (.ref 0), some (.ref o1), some (.int x2), some (.int x3), some (.int x4), some (.int x5)] [] I J := by
  refine g_iinc (v := (x5 + 1)) (L' := [some (.ref 0), some (.ref o1), some (.int x2), some (.int x3), some (.int x4), some (.int (x5 + 1))]) dc_LB_daysNear_31 rfl rfl (by rw [show Int32.ofInt 1 = 1 from by decide]) (Nat.le_of_ble_eq_true rfl) rfl ?_
  refine g_goto (tgt := 6) dc_LB_daysNear_34 (by decide) ?_
  exact k1
theorem dc_LB_digest_0 : decode prog_1_method_33_code 0 = .ok (.ldc2_w 300, 3) := by decide +kernel
theorem dc_LB_digest_3 : decode prog_1_method_33_code 3 = .ok (.lstore_n 1, 1) := by decide +kernel
theorem dc_LB_digest_4 : decode prog_1_method_33_code 4 = .ok (.iconst 0, 1) := by decide +kernel
theorem dc_LB_digest_5 : decode prog_1_method_33_code 5 = .ok (.istore_n 3, 1) := by decide +kernel
theorem dc_LB_digest_6 : decode prog_1_method_33_code 6 = .ok (.iload_n 3, 1) := by decide +kernel
theorem dc_LB_digest_7 : decode prog_1_method_33_code 7 = .ok (.bipush 7, 2) := by decide +kernel
theorem dc_LB_digest_9 : decode prog_1_method_33_code 9 = .ok (.if_icmp .gt 22, 3) := by decide +kernel
theorem dc_LB_digest_12 : decode prog_1_method_33_code 12 = .ok (.ldc2_w 302, 3) := by decide +kernel
theorem dc_LB_digest_15 : decode prog_1_method_33_code 15 = .ok (.lload_n 1, 1) := by decide +kernel
theorem dc_LB_digest_16 : decode prog_1_method_33_code 16 = .ok (.lmul, 1) := by decide +kernel
theorem dc_LB_digest_17 : decode prog_1_method_33_code 17 = .ok (.aload_n 0, 1) := by decide +kernel
theorem dc_LB_digest_18 : decode prog_1_method_33_code 18 = .ok (.iload_n 3, 1) := by decide +kernel
theorem dc_LB_digest_19 : decode prog_1_method_33_code 19 = .ok (.invokevirtual 304, 3) := by decide +kernel
theorem dc_LB_digest_22 : decode prog_1_method_33_code 22 = .ok (.i2l, 1) := by decide +kernel
theorem dc_LB_digest_23 : decode prog_1_method_33_code 23 = .ok (.ladd, 1) := by decide +kernel
theorem dc_LB_digest_24 : decode prog_1_method_33_code 24 = .ok (.lstore_n 1, 1) := by decide +kernel
theorem dc_LB_digest_25 : decode prog_1_method_33_code 25 = .ok (.iinc 3 1, 3) := by decide +kernel
theorem dc_LB_digest_28 : decode prog_1_method_33_code 28 = .ok (.goto (-22), 3) := by decide +kernel
theorem dc_LB_digest_31 : decode prog_1_method_33_code 31 = .ok (.iconst 0, 1) := by decide +kernel
theorem dc_LB_digest_32 : decode prog_1_method_33_code 32 = .ok (.istore_n 3, 1) := by decide +kernel
theorem dc_LB_digest_33 : decode prog_1_method_33_code 33 = .ok (.iload_n 3, 1) := by decide +kernel
theorem dc_LB_digest_34 : decode prog_1_method_33_code 34 = .ok (.iconst 4, 1) := by decide +kernel
theorem dc_LB_digest_35 : decode prog_1_method_33_code 35 = .ok (.if_icmp .ge 45, 3) := by decide +kernel
theorem dc_LB_digest_38 : decode prog_1_method_33_code 38 = .ok (.iconst 0, 1) := by decide +kernel
theorem dc_LB_digest_39 : decode prog_1_method_33_code 39 = .ok (.istore 4, 2) := by decide +kernel
theorem dc_LB_digest_41 : decode prog_1_method_33_code 41 = .ok (.iload 4, 2) := by decide +kernel
theorem dc_LB_digest_43 : decode prog_1_method_33_code 43 = .ok (.bipush 40, 2) := by decide +kernel
theorem dc_LB_digest_45 : decode prog_1_method_33_code 45 = .ok (.if_icmp .ge 29, 3) := by decide +kernel
theorem dc_LB_digest_48 : decode prog_1_method_33_code 48 = .ok (.ldc2_w 302, 3) := by decide +kernel
theorem dc_LB_digest_51 : decode prog_1_method_33_code 51 = .ok (.lload_n 1, 1) := by decide +kernel
theorem dc_LB_digest_52 : decode prog_1_method_33_code 52 = .ok (.lmul, 1) := by decide +kernel
theorem dc_LB_digest_53 : decode prog_1_method_33_code 53 = .ok (.aload_n 0, 1) := by decide +kernel
theorem dc_LB_digest_54 : decode prog_1_method_33_code 54 = .ok (.getfield 19, 3) := by decide +kernel
theorem dc_LB_digest_57 : decode prog_1_method_33_code 57 = .ok (.iload_n 3, 1) := by decide +kernel
theorem dc_LB_digest_58 : decode prog_1_method_33_code 58 = .ok (.aaload, 1) := by decide +kernel
theorem dc_LB_digest_59 : decode prog_1_method_33_code 59 = .ok (.getfield 112, 3) := by decide +kernel
theorem dc_LB_digest_62 : decode prog_1_method_33_code 62 = .ok (.iload 4, 2) := by decide +kernel
theorem dc_LB_digest_64 : decode prog_1_method_33_code 64 = .ok (.iaload, 1) := by decide +kernel
theorem dc_LB_digest_65 : decode prog_1_method_33_code 65 = .ok (.i2l, 1) := by decide +kernel
theorem dc_LB_digest_66 : decode prog_1_method_33_code 66 = .ok (.ladd, 1) := by decide +kernel
theorem dc_LB_digest_67 : decode prog_1_method_33_code 67 = .ok (.lstore_n 1, 1) := by decide +kernel
theorem dc_LB_digest_68 : decode prog_1_method_33_code 68 = .ok (.iinc 4 1, 3) := by decide +kernel
theorem dc_LB_digest_71 : decode prog_1_method_33_code 71 = .ok (.goto (-30), 3) := by decide +kernel
theorem dc_LB_digest_74 : decode prog_1_method_33_code 74 = .ok (.iinc 3 1, 3) := by decide +kernel
theorem dc_LB_digest_77 : decode prog_1_method_33_code 77 = .ok (.goto (-44), 3) := by decide +kernel
theorem dc_LB_digest_80 : decode prog_1_method_33_code 80 = .ok (.iconst 0, 1) := by decide +kernel
theorem dc_LB_digest_81 : decode prog_1_method_33_code 81 = .ok (.istore_n 3, 1) := by decide +kernel
theorem dc_LB_digest_82 : decode prog_1_method_33_code 82 = .ok (.iload_n 3, 1) := by decide +kernel
theorem dc_LB_digest_83 : decode prog_1_method_33_code 83 = .ok (.iconst 4, 1) := by decide +kernel
theorem dc_LB_digest_84 : decode prog_1_method_33_code 84 = .ok (.if_icmp .ge 86, 3) := by decide +kernel
theorem dc_LB_digest_87 : decode prog_1_method_33_code 87 = .ok (.iconst 0, 1) := by decide +kernel
theorem dc_LB_digest_88 : decode prog_1_method_33_code 88 = .ok (.istore 4, 2) := by decide +kernel
theorem dc_LB_digest_90 : decode prog_1_method_33_code 90 = .ok (.iload 4, 2) := by decide +kernel
theorem dc_LB_digest_92 : decode prog_1_method_33_code 92 = .ok (.iconst 4, 1) := by decide +kernel
theorem dc_LB_digest_93 : decode prog_1_method_33_code 93 = .ok (.if_icmp .ge 71, 3) := by decide +kernel
theorem dc_LB_digest_96 : decode prog_1_method_33_code 96 = .ok (.aload_n 0, 1) := by decide +kernel
theorem dc_LB_digest_97 : decode prog_1_method_33_code 97 = .ok (.iload_n 3, 1) := by decide +kernel
theorem dc_LB_digest_98 : decode prog_1_method_33_code 98 = .ok (.iload 4, 2) := by decide +kernel
theorem dc_LB_digest_100 : decode prog_1_method_33_code 100 = .ok (.iconst 2, 1) := by decide +kernel
theorem dc_LB_digest_101 : decode prog_1_method_33_code 101 = .ok (.invokevirtual 143, 3) := by decide +kernel
theorem dc_LB_digest_104 : decode prog_1_method_33_code 104 = .ok (.istore 5, 2) := by decide +kernel
theorem dc_LB_digest_106 : decode prog_1_method_33_code 106 = .ok (.ldc2_w 302, 3) := by decide +kernel
theorem dc_LB_digest_109 : decode prog_1_method_33_code 109 = .ok (.lload_n 1, 1) := by decide +kernel
theorem dc_LB_digest_110 : decode prog_1_method_33_code 110 = .ok (.lmul, 1) := by decide +kernel
theorem dc_LB_digest_111 : decode prog_1_method_33_code 111 = .ok (.iload 5, 2) := by decide +kernel
theorem dc_LB_digest_113 : decode prog_1_method_33_code 113 = .ok (.ifCond .eq 14, 3) := by decide +kernel
theorem dc_LB_digest_116 : decode prog_1_method_33_code 116 = .ok (.aload_n 0, 1) := by decide +kernel
theorem dc_LB_digest_117 : decode prog_1_method_33_code 117 = .ok (.getfield 34, 3) := by decide +kernel
theorem dc_LB_digest_120 : decode prog_1_method_33_code 120 = .ok (.iconst 2, 1) := by decide +kernel
theorem dc_LB_digest_121 : decode prog_1_method_33_code 121 = .ok (.invokevirtual 146, 3) := by decide +kernel
theorem dc_LB_digest_124 : decode prog_1_method_33_code 124 = .ok (.goto 6, 3) := by decide +kernel
theorem dc_LB_digest_127 : decode prog_1_method_33_code 127 = .ok (.ldc2_w 307, 3) := by decide +kernel
theorem dc_LB_digest_130 : decode prog_1_method_33_code 130 = .ok (.ladd, 1) := by decide +kernel
theorem dc_LB_digest_131 : decode prog_1_method_33_code 131 = .ok (.lstore_n 1, 1) := by decide +kernel
theorem dc_LB_digest_132 : decode prog_1_method_33_code 132 = .ok (.ldc2_w 302, 3) := by decide +kernel
theorem dc_LB_digest_135 : decode prog_1_method_33_code 135 = .ok (.lload_n 1, 1) := by decide +kernel
theorem dc_LB_digest_136 : decode prog_1_method_33_code 136 = .ok (.lmul, 1) := by decide +kernel
theorem dc_LB_digest_137 : decode prog_1_method_33_code 137 = .ok (.iload 5, 2) := by decide +kernel
theorem dc_LB_digest_139 : decode prog_1_method_33_code 139 = .ok (.ifCond .eq 14, 3) := by decide +kernel
theorem dc_LB_digest_142 : decode prog_1_method_33_code 142 = .ok (.aload_n 0, 1) := by decide +kernel
theorem dc_LB_digest_143 : decode prog_1_method_33_code 143 = .ok (.getfield 34, 3) := by decide +kernel
theorem dc_LB_digest_146 : decode prog_1_method_33_code 146 = .ok (.iconst 2, 1) := by decide +kernel
theorem dc_LB_digest_147 : decode prog_1_method_33_code 147 = .ok (.invokevirtual 149, 3) := by decide +kernel
theorem dc_LB_digest_150 : decode prog_1_method_33_code 150 = .ok (.goto 6, 3) := by decide +kernel
theorem dc_LB_digest_153 : decode prog_1_method_33_code 153 = .ok (.ldc2_w 307, 3) := by decide +kernel
theorem dc_LB_digest_156 : decode prog_1_method_33_code 156 = .ok (.ladd, 1) := by decide +kernel
theorem dc_LB_digest_157 : decode prog_1_method_33_code 157 = .ok (.lstore_n 1, 1) := by decide +kernel
theorem dc_LB_digest_158 : decode prog_1_method_33_code 158 = .ok (.iinc 4 1, 3) := by decide +kernel
theorem dc_LB_digest_161 : decode prog_1_method_33_code 161 = .ok (.goto (-71), 3) := by decide +kernel
theorem dc_LB_digest_164 : decode prog_1_method_33_code 164 = .ok (.iinc 3 1, 3) := by decide +kernel
theorem dc_LB_digest_167 : decode prog_1_method_33_code 167 = .ok (.goto (-85), 3) := by decide +kernel
theorem dc_LB_digest_170 : decode prog_1_method_33_code 170 = .ok (.ldc2_w 302, 3) := by decide +kernel
theorem dc_LB_digest_173 : decode prog_1_method_33_code 173 = .ok (.lload_n 1, 1) := by decide +kernel
theorem dc_LB_digest_174 : decode prog_1_method_33_code 174 = .ok (.lmul, 1) := by decide +kernel
theorem dc_LB_digest_175 : decode prog_1_method_33_code 175 = .ok (.aload_n 0, 1) := by decide +kernel
theorem dc_LB_digest_176 : decode prog_1_method_33_code 176 = .ok (.getfield 51, 3) := by decide +kernel
theorem dc_LB_digest_179 : decode prog_1_method_33_code 179 = .ok (.invokevirtual 254, 3) := by decide +kernel
theorem dc_LB_digest_182 : decode prog_1_method_33_code 182 = .ok (.i2l, 1) := by decide +kernel
theorem dc_LB_digest_183 : decode prog_1_method_33_code 183 = .ok (.ladd, 1) := by decide +kernel
theorem dc_LB_digest_184 : decode prog_1_method_33_code 184 = .ok (.lreturn, 1) := by decide +kernel
theorem w_LB_digest_0 {G : GC} {d : Nat} {P : PT} {I : MI} {J : MJ}  (k1 : Go G (fr G m_LB_digest (d + 6) P) 6 [some (.ref 0), some (.long 17), none, some (.int 0), none, none] [] I J) : Go G (fr G m_LB_digest (d + 6) P) 0 [some (.ref 0), none, none, none, none, none] [] I J := by
  refine g_ldc2 (v := 17) kl_LB_300 dc_LB_digest_0 rfl ?_
  refine g_lstore_n (L' := [some (.ref 0), some (.long 17), none, none, none, none]) dc_LB_digest_3 rfl rfl (Nat.le_of_ble_eq_true rfl) rfl ?_
  refine g_iconst (v := 0) dc_LB_digest_4 rfl (by decide) ?_
  refine g_istore_n (L' := [some (.ref 0), some (.long 17), none, some (.int 0), none, none]) dc_LB_digest_5 rfl rfl (Nat.le_of_ble_eq_true rfl) rfl ?_
  exact k1
theorem w_LB_digest_6 {G : GC} {d : Nat} {P : PT} {I : MI} {J : MJ} {l1 : Int64} {x3 : Int32} (k1 : (7 < x3) → Go G (fr G m_LB_digest (d + 6) P) 33 [some (.ref 0), some (.long l1), none, some (.int 0), none, none] [] I J) (k2 : (¬ (7 < x3)) → Ct G (d + 5) m_LB_count [.ref 0, .int x3] (fun r I' J' => Go G (fr G m_LB_digest (d + 6) P) 22 [some (.ref 0), none, none, some (.int x3), none, none] (r.toList ++ [.long (31 * l1)]) I' J') I J) : Go G (fr G m_LB_digest (d + 6) P) 6 [some (.ref 0), some (.long l1), none, some (.int x3), none, none] [] I J := by
  refine g_iload_n dc_LB_digest_6 rfl rfl rfl ?_
  refine g_bipush (v := 7) dc_LB_digest_7 rfl (by decide) ?_
  refine g_ic_gt (tgt := 31) dc_LB_digest_9 rfl (by decide) (fun c1 => ?_) (fun c1 => ?_)
  · refine g_iconst (v := 0) dc_LB_digest_31 rfl (by decide) ?_
    refine g_istore_n (L' := [some (.ref 0), some (.long l1), none, some (.int 0), none, none]) dc_LB_digest_32 rfl rfl (Nat.le_of_ble_eq_true rfl) rfl ?_
    exact (k1 c1)
  · refine g_ldc2 (v := 31) kl_LB_302 dc_LB_digest_12 rfl ?_
    refine g_lload_n dc_LB_digest_15 rfl rfl rfl ?_
    refine g_lmul dc_LB_digest_16 rfl ?_
    refine g_aload_n dc_LB_digest_17 rfl rfl rfl ?_
    refine g_iload_n dc_LB_digest_18 rfl rfl rfl ?_
    refine g_weak [some (.ref 0), none, none, some (.int x3), none, none] ⟨rfl, ⟨rfl, trivial⟩⟩ ?_
    exact g_callV (T := T_LB) (N := 11) (As := [.int x3]) (rest := [.long (31 * l1)]) ok_LB_count in_LB_count se_LB_count ml_LB_304 sh_0 (by decide) rfl rfl rfl (Nat.le_of_ble_eq_true rfl) dc_LB_digest_19 rfl rOk_fr (k2 c1)
theorem w_LB_digest_22 {G : GC} {d : Nat} {P : PT} {I : MI} {J : MJ} {x3 : Int32} {s0 : Int64} {y1 : Int32} (k1 : Go G (fr G m_LB_digest (d + 6) P) 6 [some (.ref 0), some (.long (s0 + (Int32.toInt64 y1))), none, some (.int (x3 + 1)), none, none] [] I J) : Go G (fr G m_LB_digest (d + 6) P) 22 [some (.ref 0), none, none, some (.int x3), none, none] [.int y1, .long s0] I J := by
  refine g_i2l dc_LB_digest_22 rfl ?_
  refine g_ladd dc_LB_digest_23 rfl ?_
  refine g_lstore_n (L' := [some (.ref 0), some (.long (s0 + (Int32.toInt64 y1))), none, some (.int x3), none, none]) dc_LB_digest_24 rfl rfl (Nat.le_of_ble_eq_true rfl) rfl ?_
  refine g_iinc (v := (x3 + 1)) (L' := [some (.ref 0), some (.long (s0 + (Int32.toInt64 y1))), none, some (.int (x3 + 1)), none, none]) dc_LB_digest_25 rfl rfl (by rw [show Int32.ofInt 1 = 1 from by decide]) (Nat.le_of_ble_eq_true rfl) rfl ?_
  refine g_goto (tgt := 6) dc_LB_digest_28 (by decide) ?_
  exact k1
theorem w_LB_digest_33 {G : GC} {d : Nat} {P : PT} {I : MI} {J : MJ} {l1 : Int64} {x3 : Int32} (k1 : (4 ≤ x3) → Go G (fr G m_LB_digest (d + 6) P) 82 [some (.ref 0), some (.long l1), none, some (.int 0), none, none] [] I J) (k2 : (¬ (4 ≤ x3)) → Go G (fr G m_LB_digest (d + 6) P) 41 [some (.ref 0), some (.long l1), none, some (.int x3), some (.int 0), none] [] I J) : Go G (fr G m_LB_digest (d + 6) P) 33 [some (.ref 0), some (.long l1), none, some (.int x3), none, none] [] I J := by
  refine g_iload_n dc_LB_digest_33 rfl rfl rfl ?_
  refine g_iconst (v := 4) dc_LB_digest_34 rfl (by decide) ?_
  refine g_ic_ge (tgt := 80) dc_LB_digest_35 rfl (by decide) (fun c1 => ?_) (fun c1 => ?_)
  · refine g_iconst (v := 0) dc_LB_digest_80 rfl (by decide) ?_
    refine g_istore_n (L' := [some (.ref 0), some (.long l1), none, some (.int 0), none, none]) dc_LB_digest_81 rfl rfl (Nat.le_of_ble_eq_true rfl) rfl ?_
    exact (k1 c1)
  · refine g_iconst (v := 0) dc_LB_digest_38 rfl (by decide) ?_
    refine g_istore (L' := [some (.ref 0), some (.long l1), none, some (.int x3), some (.int 0), none]) dc_LB_digest_39 rfl (Nat.le_of_ble_eq_true rfl) rfl ?_
    exact (k2 c1)
theorem w_LB_digest_41 {G : GC} {d : Nat} {P : PT} {I : MI} {J : MJ} {l1 : Int64} {x3 : Int32} {x4 : Int32} (k1 : (40 ≤ x4) → Go G (fr G m_LB_digest (d + 6) P) 33 [some (.ref 0), some (.long l1), none, some (.int (x3 + 1)), none, none] [] I J) (b2 : (¬ (40 ≤ x4)) → vp_in x3 4) (b3 : (¬ (40 ≤ x4)) → vp_in x4 40) (k4 : (¬ (40 ≤ x4)) → Go G (fr G m_LB_digest (d + 6) P) 41 [some (.ref 0), some (.long ((31 * l1) + (Int32.toInt64 (I ((7 + 5 * x3.toNatClampNeg) + 1) x4.toNatClampNeg)))), none, some (.int x3), some (.int (x4 + 1)), none] [] I J) : Go G (fr G m_LB_digest (d + 6) P) 41 [some (.ref 0), some (.long l1), none, some (.int x3), some (.int x4), none] [] I J := by
  refine g_iload dc_LB_digest_41 rfl rfl ?_
  refine g_bipush (v := 40) dc_LB_digest_43 rfl (by decide) ?_
  refine g_ic_ge (tgt := 74) dc_LB_digest_45 rfl (by decide) (fun c1 => ?_) (fun c1 => ?_)
  · refine g_iinc (v := (x3 + 1)) (L' := [some (.ref 0), some (.long l1), none, some (.int (x3 + 1)), some (.int x4), none]) dc_LB_digest_74 rfl rfl (by rw [show Int32.ofInt 1 = 1 from by decide]) (Nat.le_of_ble_eq_true rfl) rfl ?_
    refine g_goto (tgt := 33) dc_LB_digest_77 (by decide) ?_
    refine g_weak [some (.ref 0), some (.long l1), none, some (.int (x3 + 1)), none, none] ⟨rfl, ⟨rfl, ⟨rfl, trivial⟩⟩⟩ ?_
    exact (k1 c1)
  · refine g_ldc2 (v := 31) kl_LB_302 dc_LB_digest_48 rfl ?_
    refine g_lload_n dc_LB_digest_51 rfl rfl rfl ?_
    refine g_lmul dc_LB_digest_52 rfl ?_
    refine g_aload_n dc_LB_digest_53 rfl rfl rfl ?_
    refine g_get (C := "LevelBreaks") (T := T_LB) (N := 11) (k := 1) (v := .ref 6) sh_0 (by decide) rfl rfl i_LB (by decide) fl_LB_19 (Or.inl rfl) rfl dc_LB_digest_54 rfl ?_
    refine g_iload_n dc_LB_digest_57 rfl rfl rfl ?_
    refine g_aald (r := (7 + 5 * x3.toNatClampNeg)) sh_6 (by decide) rfl (b2 c1) (now_at (vin_lt (b2 c1))) dc_LB_digest_58 rfl ?_
    refine g_get (C := "LevelBreaks$Points") (T := T_PO) (N := 5) (k := 0) (v := .ref ((7 + 5 * x3.toNatClampNeg) + 1)) (pts_in (b2 c1)).1 (by decide) rfl rfl i_PO (by decide) fl_LB_112 (Or.inl rfl) rfl dc_LB_digest_59 rfl ?_
    refine g_iload dc_LB_digest_62 rfl rfl ?_
    refine g_ialdv (v := (I ((7 + 5 * x3.toNatClampNeg) + 1) x4.toNatClampNeg)) (pts_in (b2 c1)).2.1 (b3 c1) rfl dc_LB_digest_64 rfl ?_
    refine g_i2l dc_LB_digest_65 rfl ?_
    refine g_ladd dc_LB_digest_66 rfl ?_
    refine g_lstore_n (L' := [some (.ref 0), some (.long ((31 * l1) + (Int32.toInt64 (I ((7 + 5 * x3.toNatClampNeg) + 1) x4.toNatClampNeg)))), none, some (.int x3), some (.int x4), none]) dc_LB_digest_67 rfl rfl (Nat.le_of_ble_eq_true rfl) rfl ?_
    refine g_iinc (v := (x4 + 1)) (L' := [some (.ref 0), some (.long ((31 * l1) + (Int32.toInt64 (I ((7 + 5 * x3.toNatClampNeg) + 1) x4.toNatClampNeg)))), none, some (.int x3), some (.int (x4 + 1)), none]) dc_LB_digest_68 rfl rfl (by rw [show Int32.ofInt 1 = 1 from by decide]) (Nat.le_of_ble_eq_true rfl) rfl ?_
    refine g_goto (tgt := 41) dc_LB_digest_71 (by decide) ?_
    exact (k4 c1)
theorem w_LB_digest_82 {G : GC} {d : Nat} {P : PT} {I : MI} {J : MJ} {l1 : Int64} {x3 : Int32} (k1 : (4 ≤ x3) → Ct G (d + 5) m_BF_readText [.ref 53] (fun r I' J' => Go G (fr G m_LB_digest (d + 6) P) 182 [none, none, none, none, none, none] (r.toList ++ [.long (31 * l1)]) I' J') I J) (k2 : (¬ (4 ≤ x3)) → Go G (fr G m_LB_digest (d + 6) P) 90 [some (.ref 0), some (.long l1), none, some (.int x3), some (.int 0), none] [] I J) : Go G (fr G m_LB_digest (d + 6) P) 82 [some (.ref 0), some (.long l1), none, some (.int x3), none, none] [] I J := by
  refine g_iload_n dc_LB_digest_82 rfl rfl rfl ?_
  refine g_iconst (v := 4) dc_LB_digest_83 rfl (by decide) ?_
  refine g_ic_ge (tgt := 170) dc_LB_digest_84 rfl (by decide) (fun c1 => ?_) (fun c1 => ?_)
  · refine g_ldc2 (v := 31) kl_LB_302 dc_LB_digest_170 rfl ?_
    refine g_lload_n dc_LB_digest_173 rfl rfl rfl ?_
    refine g_lmul dc_LB_digest_174 rfl ?_
    refine g_aload_n dc_LB_digest_175 rfl rfl rfl ?_
    refine g_get (C := "LevelBreaks") (T := T_LB) (N := 11) (k := 7) (v := .ref 53) sh_0 (by decide) rfl rfl i_LB (by decide) fl_LB_51 (Or.inl rfl) rfl dc_LB_digest_176 rfl ?_
    refine g_weak [none, none, none, none, none, none] trivial ?_
    exact g_callV (T := T_BF) (N := 8) (As := []) (rest := [.long (31 * l1)]) ok_BF_readText in_BF_readText se_BF_readText ml_LB_254 sh_53 (by decide) rfl rfl rfl (Nat.le_of_ble_eq_true rfl) dc_LB_digest_179 rfl rOk_fr (k1 c1)
  · refine g_iconst (v := 0) dc_LB_digest_87 rfl (by decide) ?_
    refine g_istore (L' := [some (.ref 0), some (.long l1), none, some (.int x3), some (.int 0), none]) dc_LB_digest_88 rfl (Nat.le_of_ble_eq_true rfl) rfl ?_
    exact (k2 c1)
theorem w_LB_digest_90 {G : GC} {d : Nat} {P : PT} {I : MI} {J : MJ} {l1 : Int64} {x3 : Int32} {x4 : Int32} (k1 : (4 ≤ x4) → Go G (fr G m_LB_digest (d + 6) P) 82 [some (.ref 0), some (.long l1), none, some (.int (x3 + 1)), none, none] [] I J) (k2 : (¬ (4 ≤ x4)) → Ct G (d + 5) m_LB_cutRow [.ref 0, .int x3, .int x4, .int 2] (fun r I' J' => Go G (fr G m_LB_digest (d + 6) P) 104 [some (.ref 0), some (.long l1), none, some (.int x3), some (.int x4), none] (r.toList ++ []) I' J') I J) : Go G (fr G m_LB_digest (d + 6) P) 90 [some (.ref 0), some (.long l1), none, some (.int x3), some (.int x4), none] [] I J := by
  refine g_iload dc_LB_digest_90 rfl rfl ?_
  refine g_iconst (v := 4) dc_LB_digest_92 rfl (by decide) ?_
  refine g_ic_ge (tgt := 164) dc_LB_digest_93 rfl (by decide) (fun c1 => ?_) (fun c1 => ?_)
  · refine g_iinc (v := (x3 + 1)) (L' := [some (.ref 0), some (.long l1), none, some (.int (x3 + 1)), some (.int x4), none]) dc_LB_digest_164 rfl rfl (by rw [show Int32.ofInt 1 = 1 from by decide]) (Nat.le_of_ble_eq_true rfl) rfl ?_
    refine g_goto (tgt := 82) dc_LB_digest_167 (by decide) ?_
    refine g_weak [some (.ref 0), some (.long l1), none, some (.int (x3 + 1)), none, none] ⟨rfl, ⟨rfl, ⟨rfl, trivial⟩⟩⟩ ?_
    exact (k1 c1)
  · refine g_aload_n dc_LB_digest_96 rfl rfl rfl ?_
    refine g_iload_n dc_LB_digest_97 rfl rfl rfl ?_
    refine g_iload dc_LB_digest_98 rfl rfl ?_
    refine g_iconst (v := 2) dc_LB_digest_100 rfl (by decide) ?_
    exact g_callV (T := T_LB) (N := 11) (As := [.int x3, .int x4, .int 2]) (rest := []) ok_LB_cutRow in_LB_cutRow se_LB_cutRow ml_LB_143 sh_0 (by decide) rfl rfl rfl (Nat.le_of_ble_eq_true rfl) dc_LB_digest_101 rfl rOk_fr (k2 c1)
theorem w_LB_digest_104 {G : GC} {d : Nat} {P : PT} {I : MI} {J : MJ} {l1 : Int64} {x3 : Int32} {x4 : Int32} {y0 : Int32} (k1 : (y0 = 0) → Go G (fr G m_LB_digest (d + 6) P) 130 [some (.ref 0), none, none, some (.int x3), some (.int x4), some (.int y0)] [.long (-3), .long (31 * l1)] I J) (k2 : (¬ (y0 = 0)) → Ct G (d + 5) m_CU_bestAbove [.ref 33, .int 2] (fun r I' J' => Go G (fr G m_LB_digest (d + 6) P) 124 [some (.ref 0), none, none, some (.int x3), some (.int x4), some (.int y0)] (r.toList ++ [.long (31 * l1)]) I' J') I J) : Go G (fr G m_LB_digest (d + 6) P) 104 [some (.ref 0), some (.long l1), none, some (.int x3), some (.int x4), none] [.int y0] I J := by
  refine g_istore (L' := [some (.ref 0), some (.long l1), none, some (.int x3), some (.int x4), some (.int y0)]) dc_LB_digest_104 rfl (Nat.le_of_ble_eq_true rfl) rfl ?_
  refine g_ldc2 (v := 31) kl_LB_302 dc_LB_digest_106 rfl ?_
  refine g_lload_n dc_LB_digest_109 rfl rfl rfl ?_
  refine g_lmul dc_LB_digest_110 rfl ?_
  refine g_iload dc_LB_digest_111 rfl rfl ?_
  refine g_if_eq (tgt := 127) dc_LB_digest_113 rfl (by decide) (fun c1 => ?_) (fun c1 => ?_)
  · refine g_ldc2 (v := (-3)) kl_LB_307 dc_LB_digest_127 rfl ?_
    refine g_weak [some (.ref 0), none, none, some (.int x3), some (.int x4), some (.int y0)] ⟨rfl, ⟨rfl, ⟨rfl, ⟨rfl, trivial⟩⟩⟩⟩ ?_
    exact (k1 c1)
  · refine g_aload_n dc_LB_digest_116 rfl rfl rfl ?_
    refine g_get (C := "LevelBreaks") (T := T_LB) (N := 11) (k := 4) (v := .ref 33) sh_0 (by decide) rfl rfl i_LB (by decide) fl_LB_34 (Or.inl rfl) rfl dc_LB_digest_117 rfl ?_
    refine g_iconst (v := 2) dc_LB_digest_120 rfl (by decide) ?_
    refine g_weak [some (.ref 0), none, none, some (.int x3), some (.int x4), some (.int y0)] ⟨rfl, ⟨rfl, ⟨rfl, ⟨rfl, trivial⟩⟩⟩⟩ ?_
    exact g_callV (T := T_CU) (N := 13) (As := [.int 2]) (rest := [.long (31 * l1)]) ok_CU_bestAbove in_CU_bestAbove se_CU_bestAbove ml_LB_146 sh_33 (by decide) rfl rfl rfl (Nat.le_of_ble_eq_true rfl) dc_LB_digest_121 rfl rOk_fr (k2 c1)
theorem w_LB_digest_124 {G : GC} {d : Nat} {P : PT} {I : MI} {J : MJ} {x3 : Int32} {x4 : Int32} {x5 : Int32} {s0 : Int64} {s1 : Int64} (k1 : Go G (fr G m_LB_digest (d + 6) P) 130 [some (.ref 0), none, none, some (.int x3), some (.int x4), some (.int x5)] [.long s1, .long s0] I J) : Go G (fr G m_LB_digest (d + 6) P) 124 [some (.ref 0), none, none, some (.int x3), some (.int x4), some (.int x5)] [.long s1, .long s0] I J := by
  refine g_goto (tgt := 130) dc_LB_digest_124 (by decide) ?_
  exact k1
theorem w_LB_digest_130 {G : GC} {d : Nat} {P : PT} {I : MI} {J : MJ} {x3 : Int32} {x4 : Int32} {x5 : Int32} {s0 : Int64} {s1 : Int64} (k1 : (x5 = 0) → Go G (fr G m_LB_digest (d + 6) P) 156 [some (.ref 0), none, none, some (.int x3), some (.int x4), none] [.long (-3), .long (31 * (s0 + s1))] I J) (k2 : (¬ (x5 = 0)) → Ct G (d + 5) m_CU_bestBelow [.ref 33, .int 2] (fun r I' J' => Go G (fr G m_LB_digest (d + 6) P) 150 [some (.ref 0), none, none, some (.int x3), some (.int x4), none] (r.toList ++ [.long (31 * (s0 + s1))]) I' J') I J) : Go G (fr G m_LB_digest (d + 6) P) 130 [some (.ref 0), none, none, some (.int x3), some (.int x4), some (.int x5)] [.long s1, .long s0] I J := by
  refine g_ladd dc_LB_digest_130 rfl ?_
  refine g_lstore_n (L' := [some (.ref 0), some (.long (s0 + s1)), none, some (.int x3), some (.int x4), some (.int x5)]) dc_LB_digest_131 rfl rfl (Nat.le_of_ble_eq_true rfl) rfl ?_
  refine g_ldc2 (v := 31) kl_LB_302 dc_LB_digest_132 rfl ?_
  refine g_lload_n dc_LB_digest_135 rfl rfl rfl ?_
  refine g_lmul dc_LB_digest_136 rfl ?_
  refine g_iload dc_LB_digest_137 rfl rfl ?_
  refine g_if_eq (tgt := 153) dc_LB_digest_139 rfl (by decide) (fun c1 => ?_) (fun c1 => ?_)
  · refine g_ldc2 (v := (-3)) kl_LB_307 dc_LB_digest_153 rfl ?_
    refine g_weak [some (.ref 0), none, none, some (.int x3), some (.int x4), none] ⟨rfl, ⟨rfl, ⟨rfl, trivial⟩⟩⟩ ?_
    exact (k1 c1)
  · refine g_aload_n dc_LB_digest_142 rfl rfl rfl ?_
    refine g_get (C := "LevelBreaks") (T := T_LB) (N := 11) (k := 4) (v := .ref 33) sh_0 (by decide) rfl rfl i_LB (by decide) fl_LB_34 (Or.inl rfl) rfl dc_LB_digest_143 rfl ?_
    refine g_iconst (v := 2) dc_LB_digest_146 rfl (by decide) ?_
    refine g_weak [some (.ref 0), none, none, some (.int x3), some (.int x4), none] ⟨rfl, ⟨rfl, ⟨rfl, trivial⟩⟩⟩ ?_
    exact g_callV (T := T_CU) (N := 13) (As := [.int 2]) (rest := [.long (31 * (s0 + s1))]) ok_CU_bestBelow in_CU_bestBelow se_CU_bestBelow ml_LB_149 sh_33 (by decide) rfl rfl rfl (Nat.le_of_ble_eq_true rfl) dc_LB_digest_147 rfl rOk_fr (k2 c1)
theorem w_LB_digest_150 {G : GC} {d : Nat} {P : PT} {I : MI} {J : MJ} {x3 : Int32} {x4 : Int32} {s0 : Int64} {s1 : Int64} (k1 : Go G (fr G m_LB_digest (d + 6) P) 156 [some (.ref 0), none, none, some (.int x3), some (.int x4), none] [.long s1, .long s0] I J) : Go G (fr G m_LB_digest (d + 6) P) 150 [some (.ref 0), none, none, some (.int x3), some (.int x4), none] [.long s1, .long s0] I J := by
  refine g_goto (tgt := 156) dc_LB_digest_150 (by decide) ?_
  exact k1
theorem w_LB_digest_156 {G : GC} {d : Nat} {P : PT} {I : MI} {J : MJ} {x3 : Int32} {x4 : Int32} {s0 : Int64} {s1 : Int64} (k1 : Go G (fr G m_LB_digest (d + 6) P) 90 [some (.ref 0), some (.long (s0 + s1)), none, some (.int x3), some (.int (x4 + 1)), none] [] I J) : Go G (fr G m_LB_digest (d + 6) P) 156 [some (.ref 0), none, none, some (.int x3), some (.int x4), none] [.long s1, .long s0] I J := by
  refine g_ladd dc_LB_digest_156 rfl ?_
  refine g_lstore_n (L' := [some (.ref 0), some (.long (s0 + s1)), none, some (.int x3), some (.int x4), none]) dc_LB_digest_157 rfl rfl (Nat.le_of_ble_eq_true rfl) rfl ?_
  refine g_iinc (v := (x4 + 1)) (L' := [some (.ref 0), some (.long (s0 + s1)), none, some (.int x3), some (.int (x4 + 1)), none]) dc_LB_digest_158 rfl rfl (by rw [show Int32.ofInt 1 = 1 from by decide]) (Nat.le_of_ble_eq_true rfl) rfl ?_
  refine g_goto (tgt := 90) dc_LB_digest_161 (by decide) ?_
  exact k1
theorem w_LB_digest_182 {G : GC} {d : Nat} {P : PT} {I : MI} {J : MJ} {s0 : Int64} {y1 : Int32} (q1 : P (some (.long (s0 + (Int32.toInt64 y1)))) I J) : Go G (fr G m_LB_digest (d + 6) P) 182 [none, none, none, none, none, none] [.int y1, .long s0] I J := by
  refine g_i2l dc_LB_digest_182 rfl ?_
  refine g_ladd dc_LB_digest_183 rfl ?_
  exact g_lret rfl dc_LB_digest_184 q1
theorem dc_LB_doubt_0 : decode prog_1_method_16_code 0 = .ok (.iload_n 1, 1) := by decide +kernel
theorem dc_LB_doubt_1 : decode prog_1_method_16_code 1 = .ok (.invokestatic 69, 3) := by decide +kernel
theorem dc_LB_doubt_4 : decode prog_1_method_16_code 4 = .ok (.ifCond .eq 20, 3) := by decide +kernel
theorem dc_LB_doubt_7 : decode prog_1_method_16_code 7 = .ok (.iload_n 2, 1) := by decide +kernel
theorem dc_LB_doubt_8 : decode prog_1_method_16_code 8 = .ok (.invokestatic 140, 3) := by decide +kernel
theorem dc_LB_doubt_11 : decode prog_1_method_16_code 11 = .ok (.ifCond .eq 13, 3) := by decide +kernel
theorem dc_LB_doubt_14 : decode prog_1_method_16_code 14 = .ok (.iload_n 3, 1) := by decide +kernel
theorem dc_LB_doubt_15 : decode prog_1_method_16_code 15 = .ok (.iconst 1, 1) := by decide +kernel
theorem dc_LB_doubt_16 : decode prog_1_method_16_code 16 = .ok (.if_icmp .lt 8, 3) := by decide +kernel
theorem dc_LB_doubt_19 : decode prog_1_method_16_code 19 = .ok (.iload_n 3, 1) := by decide +kernel
theorem dc_LB_doubt_20 : decode prog_1_method_16_code 20 = .ok (.iload_n 2, 1) := by decide +kernel
theorem dc_LB_doubt_21 : decode prog_1_method_16_code 21 = .ok (.if_icmp .lt 6, 3) := by decide +kernel
theorem dc_LB_doubt_24 : decode prog_1_method_16_code 24 = .ok (.bipush (-2), 2) := by decide +kernel
theorem dc_LB_doubt_26 : decode prog_1_method_16_code 26 = .ok (.ireturn, 1) := by decide +kernel
theorem dc_LB_doubt_27 : decode prog_1_method_16_code 27 = .ok (.aload_n 0, 1) := by decide +kernel
theorem dc_LB_doubt_28 : decode prog_1_method_16_code 28 = .ok (.iload_n 1, 1) := by decide +kernel
theorem dc_LB_doubt_29 : decode prog_1_method_16_code 29 = .ok (.iconst 0, 1) := by decide +kernel
theorem dc_LB_doubt_30 : decode prog_1_method_16_code 30 = .ok (.iload_n 2, 1) := by decide +kernel
theorem dc_LB_doubt_31 : decode prog_1_method_16_code 31 = .ok (.invokevirtual 143, 3) := by decide +kernel
theorem dc_LB_doubt_34 : decode prog_1_method_16_code 34 = .ok (.ifCond .ne 6, 3) := by decide +kernel
theorem dc_LB_doubt_37 : decode prog_1_method_16_code 37 = .ok (.bipush (-3), 2) := by decide +kernel
theorem dc_LB_doubt_39 : decode prog_1_method_16_code 39 = .ok (.ireturn, 1) := by decide +kernel
theorem dc_LB_doubt_40 : decode prog_1_method_16_code 40 = .ok (.aload_n 0, 1) := by decide +kernel
theorem dc_LB_doubt_41 : decode prog_1_method_16_code 41 = .ok (.getfield 19, 3) := by decide +kernel
theorem dc_LB_doubt_44 : decode prog_1_method_16_code 44 = .ok (.iload_n 1, 1) := by decide +kernel
theorem dc_LB_doubt_45 : decode prog_1_method_16_code 45 = .ok (.aaload, 1) := by decide +kernel
theorem dc_LB_doubt_46 : decode prog_1_method_16_code 46 = .ok (.astore 4, 2) := by decide +kernel
theorem dc_LB_doubt_48 : decode prog_1_method_16_code 48 = .ok (.aload_n 0, 1) := by decide +kernel
theorem dc_LB_doubt_49 : decode prog_1_method_16_code 49 = .ok (.getfield 34, 3) := by decide +kernel
theorem dc_LB_doubt_52 : decode prog_1_method_16_code 52 = .ok (.getfield 174, 3) := by decide +kernel
theorem dc_LB_doubt_55 : decode prog_1_method_16_code 55 = .ok (.iload_n 3, 1) := by decide +kernel
theorem dc_LB_doubt_56 : decode prog_1_method_16_code 56 = .ok (.iconst 1, 1) := by decide +kernel
theorem dc_LB_doubt_57 : decode prog_1_method_16_code 57 = .ok (.isub, 1) := by decide +kernel
theorem dc_LB_doubt_58 : decode prog_1_method_16_code 58 = .ok (.iaload, 1) := by decide +kernel
theorem dc_LB_doubt_59 : decode prog_1_method_16_code 59 = .ok (.istore 5, 2) := by decide +kernel
theorem dc_LB_doubt_61 : decode prog_1_method_16_code 61 = .ok (.aload_n 0, 1) := by decide +kernel
theorem dc_LB_doubt_62 : decode prog_1_method_16_code 62 = .ok (.getfield 34, 3) := by decide +kernel
theorem dc_LB_doubt_65 : decode prog_1_method_16_code 65 = .ok (.getfield 174, 3) := by decide +kernel
theorem dc_LB_doubt_68 : decode prog_1_method_16_code 68 = .ok (.iload_n 3, 1) := by decide +kernel
theorem dc_LB_doubt_69 : decode prog_1_method_16_code 69 = .ok (.iaload, 1) := by decide +kernel
theorem dc_LB_doubt_70 : decode prog_1_method_16_code 70 = .ok (.istore 6, 2) := by decide +kernel
theorem dc_LB_doubt_72 : decode prog_1_method_16_code 72 = .ok (.iload_n 3, 1) := by decide +kernel
theorem dc_LB_doubt_73 : decode prog_1_method_16_code 73 = .ok (.iconst 1, 1) := by decide +kernel
theorem dc_LB_doubt_74 : decode prog_1_method_16_code 74 = .ok (.iadd, 1) := by decide +kernel
theorem dc_LB_doubt_75 : decode prog_1_method_16_code 75 = .ok (.iload_n 2, 1) := by decide +kernel
theorem dc_LB_doubt_76 : decode prog_1_method_16_code 76 = .ok (.if_icmp .ge 17, 3) := by decide +kernel
theorem dc_LB_doubt_79 : decode prog_1_method_16_code 79 = .ok (.aload_n 0, 1) := by decide +kernel
theorem dc_LB_doubt_80 : decode prog_1_method_16_code 80 = .ok (.getfield 34, 3) := by decide +kernel
theorem dc_LB_doubt_83 : decode prog_1_method_16_code 83 = .ok (.getfield 174, 3) := by decide +kernel
theorem dc_LB_doubt_86 : decode prog_1_method_16_code 86 = .ok (.iload_n 3, 1) := by decide +kernel
theorem dc_LB_doubt_87 : decode prog_1_method_16_code 87 = .ok (.iconst 1, 1) := by decide +kernel
theorem dc_LB_doubt_88 : decode prog_1_method_16_code 88 = .ok (.iadd, 1) := by decide +kernel
theorem dc_LB_doubt_89 : decode prog_1_method_16_code 89 = .ok (.iaload, 1) := by decide +kernel
theorem dc_LB_doubt_90 : decode prog_1_method_16_code 90 = .ok (.goto 8, 3) := by decide +kernel
theorem dc_LB_doubt_93 : decode prog_1_method_16_code 93 = .ok (.aload 4, 2) := by decide +kernel
theorem dc_LB_doubt_95 : decode prog_1_method_16_code 95 = .ok (.getfield 115, 3) := by decide +kernel
theorem dc_LB_doubt_98 : decode prog_1_method_16_code 98 = .ok (.istore 7, 2) := by decide +kernel
theorem dc_LB_doubt_100 : decode prog_1_method_16_code 100 = .ok (.iload 7, 2) := by decide +kernel
theorem dc_LB_doubt_102 : decode prog_1_method_16_code 102 = .ok (.iload 5, 2) := by decide +kernel
theorem dc_LB_doubt_104 : decode prog_1_method_16_code 104 = .ok (.isub, 1) := by decide +kernel
theorem dc_LB_doubt_105 : decode prog_1_method_16_code 105 = .ok (.bipush 16, 2) := by decide +kernel
theorem dc_LB_doubt_107 : decode prog_1_method_16_code 107 = .ok (.if_icmp .le 6, 3) := by decide +kernel
theorem dc_LB_doubt_110 : decode prog_1_method_16_code 110 = .ok (.bipush (-4), 2) := by decide +kernel
theorem dc_LB_doubt_112 : decode prog_1_method_16_code 112 = .ok (.ireturn, 1) := by decide +kernel
theorem dc_LB_doubt_113 : decode prog_1_method_16_code 113 = .ok (.aload 4, 2) := by decide +kernel
theorem dc_LB_doubt_115 : decode prog_1_method_16_code 115 = .ok (.iload 5, 2) := by decide +kernel
theorem dc_LB_doubt_117 : decode prog_1_method_16_code 117 = .ok (.iload 6, 2) := by decide +kernel
theorem dc_LB_doubt_119 : decode prog_1_method_16_code 119 = .ok (.iload 7, 2) := by decide +kernel
theorem dc_LB_doubt_121 : decode prog_1_method_16_code 121 = .ok (.invokestatic 203, 3) := by decide +kernel
theorem dc_LB_doubt_124 : decode prog_1_method_16_code 124 = .ok (.ireturn, 1) := by decide +kernel
theorem w_LB_doubt_0 {G : GC} {d : Nat} {P : PT} {I : MI} {J : MJ} {x1 : Int32} {x2 : Int32} {x3 : Int32} (k1 : ((f_LB_isRow x1) = 0) → Go G (fr G m_LB_doubt (d + 22) P) 24 [none, none, none, none, none, none, none, none] [] I J) (k2 : (¬ ((f_LB_isRow x1) = 0)) → ((f_LB_isStretches x2) = 0) → Go G (fr G m_LB_doubt (d + 22) P) 24 [none, none, none, none, none, none, none, none] [] I J) (k3 : (¬ ((f_LB_isRow x1) = 0)) → (¬ ((f_LB_isStretches x2) = 0)) → (x3 < 1) → Go G (fr G m_LB_doubt (d + 22) P) 24 [none, none, none, none, none, none, none, none] [] I J) (k4 : (¬ ((f_LB_isRow x1) = 0)) → (¬ ((f_LB_isStretches x2) = 0)) → (¬ (x3 < 1)) → (x3 < x2) → Ct G (d + 21) m_LB_cutRow [.ref 0, .int x1, .int 0, .int x2] (fun r I' J' => Go G (fr G m_LB_doubt (d + 22) P) 34 [some (.ref 0), some (.int x1), some (.int x2), some (.int x3), none, none, none, none] (r.toList ++ []) I' J') I J) (k5 : (¬ ((f_LB_isRow x1) = 0)) → (¬ ((f_LB_isStretches x2) = 0)) → (¬ (x3 < 1)) → (¬ (x3 < x2)) → Go G (fr G m_LB_doubt (d + 22) P) 24 [none, none, none, none, none, none, none, none] [] I J) : Go G (fr G m_LB_doubt (d + 22) P) 0 [some (.ref 0), some (.int x1), some (.int x2), some (.int x3), none, none, none, none] [] I J := by
  refine g_iload_n dc_LB_doubt_0 rfl rfl rfl ?_
  refine g_callS (M := m_LB_isRow) (As := [.int x1]) (rest := []) ok_LB_isRow st_LB_isRow ml_LB_69 rfl rfl (Nat.le_of_ble_eq_true rfl) dc_LB_doubt_1 rfl rOk_fr (c_LB_isRow ?_)
  show Go G (fr G m_LB_doubt (d + 22) P) 4 [some (.ref 0), some (.int x1), some (.int x2), some (.int x3), none, none, none, none] [.int (f_LB_isRow x1)] I J
  refine g_if_eq (tgt := 24) dc_LB_doubt_4 rfl (by decide) (fun c1 => ?_) (fun c1 => ?_)
  · refine g_weak [none, none, none, none, none, none, none, none] trivial ?_
    exact (k1 c1)
  · refine g_iload_n dc_LB_doubt_7 rfl rfl rfl ?_
    refine g_callS (M := m_LB_isStretches) (As := [.int x2]) (rest := []) ok_LB_isStretches st_LB_isStretches ml_LB_140 rfl rfl (Nat.le_of_ble_eq_true rfl) dc_LB_doubt_8 rfl rOk_fr (c_LB_isStretches ?_)
    show Go G (fr G m_LB_doubt (d + 22) P) 11 [some (.ref 0), some (.int x1), some (.int x2), some (.int x3), none, none, none, none] [.int (f_LB_isStretches x2)] I J
    refine g_if_eq (tgt := 24) dc_LB_doubt_11 rfl (by decide) (fun c2 => ?_) (fun c2 => ?_)
    · refine g_weak [none, none, none, none, none, none, none, none] trivial ?_
      exact (k2 c1 c2)
    · refine g_iload_n dc_LB_doubt_14 rfl rfl rfl ?_
      refine g_iconst (v := 1) dc_LB_doubt_15 rfl (by decide) ?_
      refine g_ic_lt (tgt := 24) dc_LB_doubt_16 rfl (by decide) (fun c3 => ?_) (fun c3 => ?_)
      · refine g_weak [none, none, none, none, none, none, none, none] trivial ?_
        exact (k3 c1 c2 c3)
      · refine g_iload_n dc_LB_doubt_19 rfl rfl rfl ?_
        refine g_iload_n dc_LB_doubt_20 rfl rfl rfl ?_
        refine g_ic_lt (tgt := 27) dc_LB_doubt_21 rfl (by decide) (fun c4 => ?_) (fun c4 => ?_)
        · refine g_aload_n dc_LB_doubt_27 rfl rfl rfl ?_
          refine g_iload_n dc_LB_doubt_28 rfl rfl rfl ?_
          refine g_iconst (v := 0) dc_LB_doubt_29 rfl (by decide) ?_
          refine g_iload_n dc_LB_doubt_30 rfl rfl rfl ?_
          exact g_callV (T := T_LB) (N := 11) (As := [.int x1, .int 0, .int x2]) (rest := []) ok_LB_cutRow in_LB_cutRow se_LB_cutRow ml_LB_143 sh_0 (by decide) rfl rfl rfl (Nat.le_of_ble_eq_true rfl) dc_LB_doubt_31 rfl rOk_fr (k4 c1 c2 c3 c4)
        · refine g_weak [none, none, none, none, none, none, none, none] trivial ?_
          exact (k5 c1 c2 c3 c4)
theorem w_LB_doubt_24 {G : GC} {d : Nat} {P : PT} {I : MI} {J : MJ}  (q1 : P (some (.int (-2))) I J) : Go G (fr G m_LB_doubt (d + 22) P) 24 [none, none, none, none, none, none, none, none] [] I J := by
  refine g_bipush (v := (-2)) dc_LB_doubt_24 rfl (by decide) ?_
  exact g_iret rfl dc_LB_doubt_26 q1
theorem w_LB_doubt_34 {G : GC} {d : Nat} {P : PT} {I : MI} {J : MJ} {x1 : Int32} {x2 : Int32} {x3 : Int32} {y0 : Int32} (b1 : (¬ y0 = 0) → vp_in x1 4) (b2 : (¬ y0 = 0) → vp_in (x3 - 1) 6) (b3 : (¬ y0 = 0) → vp_in x3 6) (k4 : (¬ y0 = 0) → (x2 ≤ (x3 + 1)) → Go G (fr G m_LB_doubt (d + 22) P) 98 [none, none, none, none, some (.ref (7 + 5 * x1.toNatClampNeg)), some (.int (I 49 (x3 - 1).toNatClampNeg)), some (.int (I 49 x3.toNatClampNeg)), none] [.int (I (7 + 5 * x1.toNatClampNeg) 4)] I J) (b5 : (¬ y0 = 0) → (¬ (x2 ≤ (x3 + 1))) → vp_in (x3 + 1) 6) (k6 : (¬ y0 = 0) → (¬ (x2 ≤ (x3 + 1))) → Go G (fr G m_LB_doubt (d + 22) P) 98 [none, none, none, none, some (.ref (7 + 5 * x1.toNatClampNeg)), some (.int (I 49 (x3 - 1).toNatClampNeg)), some (.int (I 49 x3.toNatClampNeg)), none] [.int (I 49 (x3 + 1).toNatClampNeg)] I J) (q7 : (y0 = 0) → P (some (.int (-3))) I J) : Go G (fr G m_LB_doubt (d + 22) P) 34 [some (.ref 0), some (.int x1), some (.int x2), some (.int x3), none, none, none, none] [.int y0] I J := by
  refine g_if_ne (tgt := 40) dc_LB_doubt_34 rfl (by decide) (fun c1 => ?_) (fun c1 => ?_)
  · refine g_aload_n dc_LB_doubt_40 rfl rfl rfl ?_
    refine g_get (C := "LevelBreaks") (T := T_LB) (N := 11) (k := 1) (v := .ref 6) sh_0 (by decide) rfl rfl i_LB (by decide) fl_LB_19 (Or.inl rfl) rfl dc_LB_doubt_41 rfl ?_
    refine g_iload_n dc_LB_doubt_44 rfl rfl rfl ?_
    refine g_aald (r := (7 + 5 * x1.toNatClampNeg)) sh_6 (by decide) rfl (b1 c1) (now_at (vin_lt (b1 c1))) dc_LB_doubt_45 rfl ?_
    refine g_astore (L' := [some (.ref 0), some (.int x1), some (.int x2), some (.int x3), some (.ref (7 + 5 * x1.toNatClampNeg)), none, none, none]) dc_LB_doubt_46 rfl (Nat.le_of_ble_eq_true rfl) rfl ?_
    refine g_aload_n dc_LB_doubt_48 rfl rfl rfl ?_
    refine g_get (C := "LevelBreaks") (T := T_LB) (N := 11) (k := 4) (v := .ref 33) sh_0 (by decide) rfl rfl i_LB (by decide) fl_LB_34 (Or.inl rfl) rfl dc_LB_doubt_49 rfl ?_
    refine g_get (C := "LevelBreaks$Cuts") (T := T_CU) (N := 13) (k := 12) (v := .ref 49) sh_33 (by decide) rfl rfl i_CU (by decide) fl_LB_174 (Or.inl rfl) rfl dc_LB_doubt_52 rfl ?_
    refine g_iload_n dc_LB_doubt_55 rfl rfl rfl ?_
    refine g_iconst (v := 1) dc_LB_doubt_56 rfl (by decide) ?_
    refine g_isub dc_LB_doubt_57 rfl ?_
    refine g_ialdv (v := (I 49 (x3 - 1).toNatClampNeg)) sh_49 (b2 c1) rfl dc_LB_doubt_58 rfl ?_
    refine g_istore (L' := [some (.ref 0), some (.int x1), some (.int x2), some (.int x3), some (.ref (7 + 5 * x1.toNatClampNeg)), some (.int (I 49 (x3 - 1).toNatClampNeg)), none, none]) dc_LB_doubt_59 rfl (Nat.le_of_ble_eq_true rfl) rfl ?_
    refine g_aload_n dc_LB_doubt_61 rfl rfl rfl ?_
    refine g_get (C := "LevelBreaks") (T := T_LB) (N := 11) (k := 4) (v := .ref 33) sh_0 (by decide) rfl rfl i_LB (by decide) fl_LB_34 (Or.inl rfl) rfl dc_LB_doubt_62 rfl ?_
    refine g_get (C := "LevelBreaks$Cuts") (T := T_CU) (N := 13) (k := 12) (v := .ref 49) sh_33 (by decide) rfl rfl i_CU (by decide) fl_LB_174 (Or.inl rfl) rfl dc_LB_doubt_65 rfl ?_
    refine g_iload_n dc_LB_doubt_68 rfl rfl rfl ?_
    refine g_ialdv (v := (I 49 x3.toNatClampNeg)) sh_49 (b3 c1) rfl dc_LB_doubt_69 rfl ?_
    refine g_istore (L' := [some (.ref 0), some (.int x1), some (.int x2), some (.int x3), some (.ref (7 + 5 * x1.toNatClampNeg)), some (.int (I 49 (x3 - 1).toNatClampNeg)), some (.int (I 49 x3.toNatClampNeg)), none]) dc_LB_doubt_70 rfl (Nat.le_of_ble_eq_true rfl) rfl ?_
    refine g_iload_n dc_LB_doubt_72 rfl rfl rfl ?_
    refine g_iconst (v := 1) dc_LB_doubt_73 rfl (by decide) ?_
    refine g_iadd dc_LB_doubt_74 rfl ?_
    refine g_iload_n dc_LB_doubt_75 rfl rfl rfl ?_
    refine g_ic_ge (tgt := 93) dc_LB_doubt_76 rfl (by decide) (fun c2 => ?_) (fun c2 => ?_)
    · refine g_aload dc_LB_doubt_93 rfl rfl ?_
      refine g_get (C := "LevelBreaks$Points") (T := T_PO) (N := 5) (k := 4) (v := .int (I (7 + 5 * x1.toNatClampNeg) 4)) (pts_in (b1 c1)).1 (by decide) rfl rfl i_PO (by decide) fl_LB_115 (Or.inl rfl) rfl dc_LB_doubt_95 rfl ?_
      refine g_weak [none, none, none, none, some (.ref (7 + 5 * x1.toNatClampNeg)), some (.int (I 49 (x3 - 1).toNatClampNeg)), some (.int (I 49 x3.toNatClampNeg)), none] ⟨rfl, ⟨rfl, ⟨rfl, trivial⟩⟩⟩ ?_
      exact (k4 c1 c2)
    · refine g_aload_n dc_LB_doubt_79 rfl rfl rfl ?_
      refine g_get (C := "LevelBreaks") (T := T_LB) (N := 11) (k := 4) (v := .ref 33) sh_0 (by decide) rfl rfl i_LB (by decide) fl_LB_34 (Or.inl rfl) rfl dc_LB_doubt_80 rfl ?_
      refine g_get (C := "LevelBreaks$Cuts") (T := T_CU) (N := 13) (k := 12) (v := .ref 49) sh_33 (by decide) rfl rfl i_CU (by decide) fl_LB_174 (Or.inl rfl) rfl dc_LB_doubt_83 rfl ?_
      refine g_iload_n dc_LB_doubt_86 rfl rfl rfl ?_
      refine g_iconst (v := 1) dc_LB_doubt_87 rfl (by decide) ?_
      refine g_iadd dc_LB_doubt_88 rfl ?_
      refine g_ialdv (v := (I 49 (x3 + 1).toNatClampNeg)) sh_49 (b5 c1 c2) rfl dc_LB_doubt_89 rfl ?_
      refine g_goto (tgt := 98) dc_LB_doubt_90 (by decide) ?_
      refine g_weak [none, none, none, none, some (.ref (7 + 5 * x1.toNatClampNeg)), some (.int (I 49 (x3 - 1).toNatClampNeg)), some (.int (I 49 x3.toNatClampNeg)), none] ⟨rfl, ⟨rfl, ⟨rfl, trivial⟩⟩⟩ ?_
      exact (k6 c1 c2)
  · refine g_bipush (v := (-3)) dc_LB_doubt_37 rfl (by decide) ?_
    exact g_iret rfl dc_LB_doubt_39 (q7 c1)
theorem w_LB_doubt_98 {G : GC} {d : Nat} {P : PT} {I : MI} {J : MJ} {o4 : Nat} (h4 : PtsAt o4) {x5 : Int32} {x6 : Int32} {y0 : Int32} (k1 : ((y0 - x5) ≤ 16) → Ct G (d + 21) m_CH_ofSplit [.ref o4, .int x5, .int x6, .int y0] (fun r I' J' => Go G (fr G m_LB_doubt (d + 22) P) 124 [none, none, none, none, none, none, none, none] (r.toList ++ []) I' J') I J) (q2 : (¬ ((y0 - x5) ≤ 16)) → P (some (.int (-4))) I J) : Go G (fr G m_LB_doubt (d + 22) P) 98 [none, none, none, none, some (.ref o4), some (.int x5), some (.int x6), none] [.int y0] I J := by
  refine g_istore (L' := [none, none, none, none, some (.ref o4), some (.int x5), some (.int x6), some (.int y0)]) dc_LB_doubt_98 rfl (Nat.le_of_ble_eq_true rfl) rfl ?_
  refine g_iload dc_LB_doubt_100 rfl rfl ?_
  refine g_iload dc_LB_doubt_102 rfl rfl ?_
  refine g_isub dc_LB_doubt_104 rfl ?_
  refine g_bipush (v := 16) dc_LB_doubt_105 rfl (by decide) ?_
  refine g_ic_le (tgt := 113) dc_LB_doubt_107 rfl (by decide) (fun c1 => ?_) (fun c1 => ?_)
  · refine g_aload dc_LB_doubt_113 rfl rfl ?_
    refine g_iload dc_LB_doubt_115 rfl rfl ?_
    refine g_iload dc_LB_doubt_117 rfl rfl ?_
    refine g_iload dc_LB_doubt_119 rfl rfl ?_
    refine g_weak [none, none, none, none, none, none, none, none] trivial ?_
    exact g_callS (As := [.ref o4, .int x5, .int x6, .int y0]) (rest := []) ok_CH_ofSplit st_CH_ofSplit ml_LB_203 rfl rfl (Nat.le_of_ble_eq_true rfl) dc_LB_doubt_121 rfl rOk_fr (k1 c1)
  · refine g_bipush (v := (-4)) dc_LB_doubt_110 rfl (by decide) ?_
    exact g_iret rfl dc_LB_doubt_112 (q2 c1)
theorem w_LB_doubt_124 {G : GC} {d : Nat} {P : PT} {I : MI} {J : MJ} {y0 : Int32} (q1 : P (some (.int y0)) I J) : Go G (fr G m_LB_doubt (d + 22) P) 124 [none, none, none, none, none, none, none, none] [.int y0] I J := by
  exact g_iret rfl dc_LB_doubt_124 q1
theorem dc_LB_fault_0 : decode prog_1_method_24_code 0 = .ok (.aload_n 0, 1) := by decide +kernel
theorem dc_LB_fault_1 : decode prog_1_method_24_code 1 = .ok (.getfield 51, 3) := by decide +kernel
theorem dc_LB_fault_4 : decode prog_1_method_24_code 4 = .ok (.invokevirtual 254, 3) := by decide +kernel
theorem dc_LB_fault_7 : decode prog_1_method_24_code 7 = .ok (.ireturn, 1) := by decide +kernel
theorem w_LB_fault_0 {G : GC} {d : Nat} {P : PT} {I : MI} {J : MJ}  (k1 : Ct G (d + 5) m_BF_readText [.ref 53] (fun r I' J' => Go G (fr G m_LB_fault (d + 6) P) 7 [none] (r.toList ++ []) I' J') I J) : Go G (fr G m_LB_fault (d + 6) P) 0 [some (.ref 0)] [] I J := by
  refine g_aload_n dc_LB_fault_0 rfl rfl rfl ?_
  refine g_get (C := "LevelBreaks") (T := T_LB) (N := 11) (k := 7) (v := .ref 53) sh_0 (by decide) rfl rfl i_LB (by decide) fl_LB_51 (Or.inl rfl) rfl dc_LB_fault_1 rfl ?_
  refine g_weak [none] trivial ?_
  exact g_callV (T := T_BF) (N := 8) (As := []) (rest := []) ok_BF_readText in_BF_readText se_BF_readText ml_LB_254 sh_53 (by decide) rfl rfl rfl (Nat.le_of_ble_eq_true rfl) dc_LB_fault_4 rfl rOk_fr k1
theorem w_LB_fault_7 {G : GC} {d : Nat} {P : PT} {I : MI} {J : MJ} {y0 : Int32} (q1 : P (some (.int y0)) I J) : Go G (fr G m_LB_fault (d + 6) P) 7 [none] [.int y0] I J := by
  exact g_iret rfl dc_LB_fault_7 q1
theorem dc_LB_found_0 : decode prog_1_method_48_code 0 = .ok (.aload_n 0, 1) := by decide +kernel
theorem dc_LB_found_1 : decode prog_1_method_48_code 1 = .ok (.iload_n 1, 1) := by decide +kernel
theorem dc_LB_found_2 : decode prog_1_method_48_code 2 = .ok (.putfield 66, 3) := by decide +kernel
theorem dc_LB_found_5 : decode prog_1_method_48_code 5 = .ok (.bipush (-10), 2) := by decide +kernel
theorem dc_LB_found_7 : decode prog_1_method_48_code 7 = .ok (.iload_n 1, 1) := by decide +kernel
theorem dc_LB_found_8 : decode prog_1_method_48_code 8 = .ok (.isub, 1) := by decide +kernel
theorem dc_LB_found_9 : decode prog_1_method_48_code 9 = .ok (.ireturn, 1) := by decide +kernel
theorem w_LB_found_0 {G : GC} {d : Nat} {P : PT} {I : MI} {J : MJ} {x1 : Int32} (q1 : P (some (.int ((-10) - x1))) (u2 I 0 10 x1) J) : Go G (fr G m_LB_found d P) 0 [some (.ref 0), some (.int x1)] [] I J := by
  refine g_aload_n dc_LB_found_0 rfl rfl rfl ?_
  refine g_iload_n dc_LB_found_1 rfl rfl rfl ?_
  refine g_putI (C := "LevelBreaks") (T := T_LB) (N := 11) (k := 10) (ty := t_LB) sh_0 (by decide) rfl rfl i_LB p_LB n_LB (by decide) fl_LB_66 (Or.inl rfl) rfl (by decide) dc_LB_found_2 rfl ?_
  refine g_bipush (v := (-10)) dc_LB_found_5 rfl (by decide) ?_
  refine g_iload_n dc_LB_found_7 rfl rfl rfl ?_
  refine g_isub dc_LB_found_8 rfl ?_
  exact g_iret rfl dc_LB_found_9 q1
theorem dc_LB_get_0 : decode prog_1_method_29_code 0 = .ok (.iload_n 1, 1) := by decide +kernel
theorem dc_LB_get_1 : decode prog_1_method_29_code 1 = .ok (.invokestatic 93, 3) := by decide +kernel
theorem dc_LB_get_4 : decode prog_1_method_29_code 4 = .ok (.ifCond .eq 10, 3) := by decide +kernel
theorem dc_LB_get_7 : decode prog_1_method_29_code 7 = .ok (.iload_n 2, 1) := by decide +kernel
theorem dc_LB_get_8 : decode prog_1_method_29_code 8 = .ok (.invokestatic 265, 3) := by decide +kernel
theorem dc_LB_get_11 : decode prog_1_method_29_code 11 = .ok (.ifCond .ne 7, 3) := by decide +kernel
theorem dc_LB_get_14 : decode prog_1_method_29_code 14 = .ok (.ldc_w 278, 3) := by decide +kernel
theorem dc_LB_get_17 : decode prog_1_method_29_code 17 = .ok (.ireturn, 1) := by decide +kernel
theorem dc_LB_get_18 : decode prog_1_method_29_code 18 = .ok (.aload_n 0, 1) := by decide +kernel
theorem dc_LB_get_19 : decode prog_1_method_29_code 19 = .ok (.getfield 58, 3) := by decide +kernel
theorem dc_LB_get_22 : decode prog_1_method_29_code 22 = .ok (.iload_n 1, 1) := by decide +kernel
theorem dc_LB_get_23 : decode prog_1_method_29_code 23 = .ok (.aaload, 1) := by decide +kernel
theorem dc_LB_get_24 : decode prog_1_method_29_code 24 = .ok (.iload_n 2, 1) := by decide +kernel
theorem dc_LB_get_25 : decode prog_1_method_29_code 25 = .ok (.iload_n 3, 1) := by decide +kernel
theorem dc_LB_get_26 : decode prog_1_method_29_code 26 = .ok (.invokevirtual 272, 3) := by decide +kernel
theorem dc_LB_get_29 : decode prog_1_method_29_code 29 = .ok (.istore 4, 2) := by decide +kernel
theorem dc_LB_get_31 : decode prog_1_method_29_code 31 = .ok (.iload 4, 2) := by decide +kernel
theorem dc_LB_get_33 : decode prog_1_method_29_code 33 = .ok (.ifCond .eq 14, 3) := by decide +kernel
theorem dc_LB_get_36 : decode prog_1_method_29_code 36 = .ok (.aload_n 0, 1) := by decide +kernel
theorem dc_LB_get_37 : decode prog_1_method_29_code 37 = .ok (.iload 4, 2) := by decide +kernel
theorem dc_LB_get_39 : decode prog_1_method_29_code 39 = .ok (.invokevirtual 100, 3) := by decide +kernel
theorem dc_LB_get_42 : decode prog_1_method_29_code 42 = .ok (.pop, 1) := by decide +kernel
theorem dc_LB_get_43 : decode prog_1_method_29_code 43 = .ok (.ldc_w 278, 3) := by decide +kernel
theorem dc_LB_get_46 : decode prog_1_method_29_code 46 = .ok (.ireturn, 1) := by decide +kernel
theorem dc_LB_get_47 : decode prog_1_method_29_code 47 = .ok (.aload_n 0, 1) := by decide +kernel
theorem dc_LB_get_48 : decode prog_1_method_29_code 48 = .ok (.getfield 58, 3) := by decide +kernel
theorem dc_LB_get_51 : decode prog_1_method_29_code 51 = .ok (.iload_n 1, 1) := by decide +kernel
theorem dc_LB_get_52 : decode prog_1_method_29_code 52 = .ok (.aaload, 1) := by decide +kernel
theorem dc_LB_get_53 : decode prog_1_method_29_code 53 = .ok (.getfield 105, 3) := by decide +kernel
theorem dc_LB_get_56 : decode prog_1_method_29_code 56 = .ok (.iload_n 3, 1) := by decide +kernel
theorem dc_LB_get_57 : decode prog_1_method_29_code 57 = .ok (.iaload, 1) := by decide +kernel
theorem dc_LB_get_58 : decode prog_1_method_29_code 58 = .ok (.ireturn, 1) := by decide +kernel
theorem w_LB_get_0 {G : GC} {d : Nat} {P : PT} {I : MI} {J : MJ} {x1 : Int32} {x2 : Int32} {x3 : Int32} (k1 : ((f_LB_isSheet x1) = 0) → Go G (fr G m_LB_get (d + 2) P) 14 [none, none, none, none, none] [] I J) (b2 : (¬ ((f_LB_isSheet x1) = 0)) → (¬ (f_LB_isType x2) = 0) → vp_in x1 4) (k3 : (¬ ((f_LB_isSheet x1) = 0)) → (¬ (f_LB_isType x2) = 0) → Ct G (d + 1) m_SH_findingAt [.ref (59 + 2 * x1.toNatClampNeg), .int x2, .int x3] (fun r I' J' => Go G (fr G m_LB_get (d + 2) P) 29 [some (.ref 0), some (.int x1), none, some (.int x3), none] (r.toList ++ []) I' J') I J) (k4 : (¬ ((f_LB_isSheet x1) = 0)) → ((f_LB_isType x2) = 0) → Go G (fr G m_LB_get (d + 2) P) 14 [none, none, none, none, none] [] I J) : Go G (fr G m_LB_get (d + 2) P) 0 [some (.ref 0), some (.int x1), some (.int x2), some (.int x3), none] [] I J := by
  refine g_iload_n dc_LB_get_0 rfl rfl rfl ?_
  refine g_callS (M := m_LB_isSheet) (As := [.int x1]) (rest := []) ok_LB_isSheet st_LB_isSheet ml_LB_93 rfl rfl (Nat.le_of_ble_eq_true rfl) dc_LB_get_1 rfl rOk_fr (c_LB_isSheet ?_)
  show Go G (fr G m_LB_get (d + 2) P) 4 [some (.ref 0), some (.int x1), some (.int x2), some (.int x3), none] [.int (f_LB_isSheet x1)] I J
  refine g_if_eq (tgt := 14) dc_LB_get_4 rfl (by decide) (fun c1 => ?_) (fun c1 => ?_)
  · refine g_weak [none, none, none, none, none] trivial ?_
    exact (k1 c1)
  · refine g_iload_n dc_LB_get_7 rfl rfl rfl ?_
    refine g_callS (M := m_LB_isType) (As := [.int x2]) (rest := []) ok_LB_isType st_LB_isType ml_LB_265 rfl rfl (Nat.le_of_ble_eq_true rfl) dc_LB_get_8 rfl rOk_fr (c_LB_isType ?_)
    show Go G (fr G m_LB_get (d + 2) P) 11 [some (.ref 0), some (.int x1), some (.int x2), some (.int x3), none] [.int (f_LB_isType x2)] I J
    refine g_if_ne (tgt := 18) dc_LB_get_11 rfl (by decide) (fun c2 => ?_) (fun c2 => ?_)
    · refine g_aload_n dc_LB_get_18 rfl rfl rfl ?_
      refine g_get (C := "LevelBreaks") (T := T_LB) (N := 11) (k := 8) (v := .ref 58) sh_0 (by decide) rfl rfl i_LB (by decide) fl_LB_58 (Or.inl rfl) rfl dc_LB_get_19 rfl ?_
      refine g_iload_n dc_LB_get_22 rfl rfl rfl ?_
      refine g_aald (r := (59 + 2 * x1.toNatClampNeg)) sh_58 (by decide) rfl (b2 c1 c2) (she_at (vin_lt (b2 c1 c2))) dc_LB_get_23 rfl ?_
      refine g_iload_n dc_LB_get_24 rfl rfl rfl ?_
      refine g_iload_n dc_LB_get_25 rfl rfl rfl ?_
      refine g_weak [some (.ref 0), some (.int x1), none, some (.int x3), none] ⟨rfl, ⟨rfl, ⟨rfl, trivial⟩⟩⟩ ?_
      exact g_callV (T := T_SH) (N := 3) (As := [.int x2, .int x3]) (rest := []) ok_SH_findingAt in_SH_findingAt se_SH_findingAt ml_LB_272 (sht_in (b2 c1 c2)).1 (by decide) rfl rfl rfl (Nat.le_of_ble_eq_true rfl) dc_LB_get_26 rfl rOk_fr (k3 c1 c2)
    · refine g_weak [none, none, none, none, none] trivial ?_
      exact (k4 c1 c2)
theorem w_LB_get_14 {G : GC} {d : Nat} {P : PT} {I : MI} {J : MJ}  (q1 : P (some (.int (-2147483648))) I J) : Go G (fr G m_LB_get (d + 2) P) 14 [none, none, none, none, none] [] I J := by
  refine g_ldcw (v := (-2147483648)) kl_LB_278 dc_LB_get_14 rfl ?_
  exact g_iret rfl dc_LB_get_17 q1
theorem w_LB_get_29 {G : GC} {d : Nat} {P : PT} {I : MI} {J : MJ} {x1 : Int32} {x3 : Int32} {y0 : Int32} (b1 : (y0 = 0) → vp_in x1 4) (b2 : (y0 = 0) → vp_in x3 60) (q3 : (y0 = 0) → P (some (.int (I ((59 + 2 * x1.toNatClampNeg) + 1) x3.toNatClampNeg))) I J) (k4 : (¬ (y0 = 0)) → Ct G (d + 1) m_LB_found [.ref 0, .int y0] (fun r I' J' => Go G (fr G m_LB_get (d + 2) P) 42 [none, none, none, none, none] (r.toList ++ []) I' J') I J) : Go G (fr G m_LB_get (d + 2) P) 29 [some (.ref 0), some (.int x1), none, some (.int x3), none] [.int y0] I J := by
  refine g_istore (L' := [some (.ref 0), some (.int x1), none, some (.int x3), some (.int y0)]) dc_LB_get_29 rfl (Nat.le_of_ble_eq_true rfl) rfl ?_
  refine g_iload dc_LB_get_31 rfl rfl ?_
  refine g_if_eq (tgt := 47) dc_LB_get_33 rfl (by decide) (fun c1 => ?_) (fun c1 => ?_)
  · refine g_aload_n dc_LB_get_47 rfl rfl rfl ?_
    refine g_get (C := "LevelBreaks") (T := T_LB) (N := 11) (k := 8) (v := .ref 58) sh_0 (by decide) rfl rfl i_LB (by decide) fl_LB_58 (Or.inl rfl) rfl dc_LB_get_48 rfl ?_
    refine g_iload_n dc_LB_get_51 rfl rfl rfl ?_
    refine g_aald (r := (59 + 2 * x1.toNatClampNeg)) sh_58 (by decide) rfl (b1 c1) (she_at (vin_lt (b1 c1))) dc_LB_get_52 rfl ?_
    refine g_get (C := "LevelBreaks$Sheet") (T := T_SH) (N := 3) (k := 0) (v := .ref ((59 + 2 * x1.toNatClampNeg) + 1)) (sht_in (b1 c1)).1 (by decide) rfl rfl i_SH (by decide) fl_LB_105 (Or.inl rfl) rfl dc_LB_get_53 rfl ?_
    refine g_iload_n dc_LB_get_56 rfl rfl rfl ?_
    refine g_ialdv (v := (I ((59 + 2 * x1.toNatClampNeg) + 1) x3.toNatClampNeg)) (sht_in (b1 c1)).2 (b2 c1) rfl dc_LB_get_57 rfl ?_
    exact g_iret rfl dc_LB_get_58 (q3 c1)
  · refine g_aload_n dc_LB_get_36 rfl rfl rfl ?_
    refine g_iload dc_LB_get_37 rfl rfl ?_
    refine g_weak [none, none, none, none, none] trivial ?_
    exact g_callV (T := T_LB) (N := 11) (As := [.int y0]) (rest := []) ok_LB_found in_LB_found se_LB_found ml_LB_100 sh_0 (by decide) rfl rfl rfl (Nat.le_of_ble_eq_true rfl) dc_LB_get_39 rfl rOk_fr (k4 c1)
theorem w_LB_get_42 {G : GC} {d : Nat} {P : PT} {I : MI} {J : MJ} {y0 : Int32} (q1 : P (some (.int (-2147483648))) I J) : Go G (fr G m_LB_get (d + 2) P) 42 [none, none, none, none, none] [.int y0] I J := by
  refine g_pop dc_LB_get_42 rfl rfl ?_
  refine g_ldcw (v := (-2147483648)) kl_LB_278 dc_LB_get_43 rfl ?_
  exact g_iret rfl dc_LB_get_46 q1
theorem dc_LB_isNextTime_0 : decode prog_1_method_46_code 0 = .ok (.iload_n 1, 1) := by decide +kernel
theorem dc_LB_isNextTime_1 : decode prog_1_method_46_code 1 = .ok (.aload_n 0, 1) := by decide +kernel
theorem dc_LB_isNextTime_2 : decode prog_1_method_46_code 2 = .ok (.getfield 10, 3) := by decide +kernel
theorem dc_LB_isNextTime_5 : decode prog_1_method_46_code 5 = .ok (.invokevirtual 297, 3) := by decide +kernel
theorem dc_LB_isNextTime_8 : decode prog_1_method_46_code 8 = .ok (.sipush 999, 3) := by decide +kernel
theorem dc_LB_isNextTime_11 : decode prog_1_method_46_code 11 = .ok (.invokestatic 108, 3) := by decide +kernel
theorem dc_LB_isNextTime_14 : decode prog_1_method_46_code 14 = .ok (.ireturn, 1) := by decide +kernel
theorem w_LB_isNextTime_0 {G : GC} {d : Nat} {P : PT} {I : MI} {J : MJ} {x1 : Int32} (k1 : Ct G d m_LE_lastTime [.ref 1] (fun r I' J' => Go G (fr G m_LB_isNextTime (d + 1) P) 8 [none, none] (r.toList ++ [.int x1]) I' J') I J) : Go G (fr G m_LB_isNextTime (d + 1) P) 0 [some (.ref 0), some (.int x1)] [] I J := by
  refine g_iload_n dc_LB_isNextTime_0 rfl rfl rfl ?_
  refine g_aload_n dc_LB_isNextTime_1 rfl rfl rfl ?_
  refine g_get (C := "LevelBreaks") (T := T_LB) (N := 11) (k := 0) (v := .ref 1) sh_0 (by decide) rfl rfl i_LB (by decide) fl_LB_10 (Or.inl rfl) rfl dc_LB_isNextTime_2 rfl ?_
  refine g_weak [none, none] trivial ?_
  exact g_callV (T := T_LE) (N := 5) (As := []) (rest := [.int x1]) ok_LE_lastTime in_LE_lastTime se_LE_lastTime ml_LB_297 sh_1 (by decide) rfl rfl rfl (Nat.le_of_ble_eq_true rfl) dc_LB_isNextTime_5 rfl rOk_fr k1
theorem w_LB_isNextTime_8 {G : GC} {d : Nat} {P : PT} {I : MI} {J : MJ} {y0 : Int32} {y1 : Int32} (q1 : P (some (.int (f_LB_isWithin y0 y1 999))) I J) : Go G (fr G m_LB_isNextTime (d + 1) P) 8 [none, none] [.int y1, .int y0] I J := by
  refine g_sipush (v := 999) dc_LB_isNextTime_8 rfl (by decide) ?_
  refine g_callS (M := m_LB_isWithin) (As := [.int y0, .int y1, .int 999]) (rest := []) ok_LB_isWithin st_LB_isWithin ml_LB_108 rfl rfl (Nat.le_of_ble_eq_true rfl) dc_LB_isNextTime_11 rfl rOk_fr (c_LB_isWithin ?_)
  show Go G (fr G m_LB_isNextTime (d + 1) P) 14 [none, none] [.int (f_LB_isWithin y0 y1 999)] I J
  exact g_zret rfl (z_LB_isWithin _ _ _) dc_LB_isNextTime_14 q1
theorem dc_LB_keepStartDays_0 : decode prog_1_method_51_code 0 = .ok (.iconst 0, 1) := by decide +kernel
theorem dc_LB_keepStartDays_1 : decode prog_1_method_51_code 1 = .ok (.istore_n 3, 1) := by decide +kernel
theorem dc_LB_keepStartDays_2 : decode prog_1_method_51_code 2 = .ok (.iload_n 3, 1) := by decide +kernel
theorem dc_LB_keepStartDays_3 : decode prog_1_method_51_code 3 = .ok (.iload_n 2, 1) := by decide +kernel
theorem dc_LB_keepStartDays_4 : decode prog_1_method_51_code 4 = .ok (.if_icmp .ge 24, 3) := by decide +kernel
theorem dc_LB_keepStartDays_7 : decode prog_1_method_51_code 7 = .ok (.aload_n 0, 1) := by decide +kernel
theorem dc_LB_keepStartDays_8 : decode prog_1_method_51_code 8 = .ok (.getfield 38, 3) := by decide +kernel
theorem dc_LB_keepStartDays_11 : decode prog_1_method_51_code 11 = .ok (.iload_n 3, 1) := by decide +kernel
theorem dc_LB_keepStartDays_12 : decode prog_1_method_51_code 12 = .ok (.aload_n 0, 1) := by decide +kernel
theorem dc_LB_keepStartDays_13 : decode prog_1_method_51_code 13 = .ok (.getfield 34, 3) := by decide +kernel
theorem dc_LB_keepStartDays_16 : decode prog_1_method_51_code 16 = .ok (.aload_n 1, 1) := by decide +kernel
theorem dc_LB_keepStartDays_17 : decode prog_1_method_51_code 17 = .ok (.iload_n 3, 1) := by decide +kernel
theorem dc_LB_keepStartDays_18 : decode prog_1_method_51_code 18 = .ok (.invokevirtual 152, 3) := by decide +kernel
theorem dc_LB_keepStartDays_21 : decode prog_1_method_51_code 21 = .ok (.iastore, 1) := by decide +kernel
theorem dc_LB_keepStartDays_22 : decode prog_1_method_51_code 22 = .ok (.iinc 3 1, 3) := by decide +kernel
theorem dc_LB_keepStartDays_25 : decode prog_1_method_51_code 25 = .ok (.goto (-23), 3) := by decide +kernel
theorem dc_LB_keepStartDays_28 : decode prog_1_method_51_code 28 = .ok (.return_, 1) := by decide +kernel
theorem w_LB_keepStartDays_0 {G : GC} {d : Nat} {P : PT} {I : MI} {J : MJ} {o1 : Nat} (h1 : PtsAt o1) {x2 : Int32} (k1 : Go G (fr G m_LB_keepStartDays (d + 1) P) 2 [some (.ref 0), some (.ref o1), some (.int x2), some (.int 0)] [] I J) : Go G (fr G m_LB_keepStartDays (d + 1) P) 0 [some (.ref 0), some (.ref o1), some (.int x2), none] [] I J := by
  refine g_iconst (v := 0) dc_LB_keepStartDays_0 rfl (by decide) ?_
  refine g_istore_n (L' := [some (.ref 0), some (.ref o1), some (.int x2), some (.int 0)]) dc_LB_keepStartDays_1 rfl rfl (Nat.le_of_ble_eq_true rfl) rfl ?_
  exact k1
theorem w_LB_keepStartDays_2 {G : GC} {d : Nat} {P : PT} {I : MI} {J : MJ} {o1 : Nat} (h1 : PtsAt o1) {x2 : Int32} {x3 : Int32} (q1 : (x2 ≤ x3) → P none I J) (k2 : (¬ (x2 ≤ x3)) → Ct G d m_CU_startDay [.ref 33, .ref o1, .int x3] (fun r I' J' => Go G (fr G m_LB_keepStartDays (d + 1) P) 21 [some (.ref 0), some (.ref o1), some (.int x2), some (.int x3)] (r.toList ++ [.int x3, .ref 50]) I' J') I J) : Go G (fr G m_LB_keepStartDays (d + 1) P) 2 [some (.ref 0), some (.ref o1), some (.int x2), some (.int x3)] [] I J := by
  refine g_iload_n dc_LB_keepStartDays_2 rfl rfl rfl ?_
  refine g_iload_n dc_LB_keepStartDays_3 rfl rfl rfl ?_
  refine g_ic_ge (tgt := 28) dc_LB_keepStartDays_4 rfl (by decide) (fun c1 => ?_) (fun c1 => ?_)
  · exact g_vret rfl dc_LB_keepStartDays_28 (q1 c1)
  · refine g_aload_n dc_LB_keepStartDays_7 rfl rfl rfl ?_
    refine g_get (C := "LevelBreaks") (T := T_LB) (N := 11) (k := 5) (v := .ref 50) sh_0 (by decide) rfl rfl i_LB (by decide) fl_LB_38 (Or.inl rfl) rfl dc_LB_keepStartDays_8 rfl ?_
    refine g_iload_n dc_LB_keepStartDays_11 rfl rfl rfl ?_
    refine g_aload_n dc_LB_keepStartDays_12 rfl rfl rfl ?_
    refine g_get (C := "LevelBreaks") (T := T_LB) (N := 11) (k := 4) (v := .ref 33) sh_0 (by decide) rfl rfl i_LB (by decide) fl_LB_34 (Or.inl rfl) rfl dc_LB_keepStartDays_13 rfl ?_
    refine g_aload_n dc_LB_keepStartDays_16 rfl rfl rfl ?_
    refine g_iload_n dc_LB_keepStartDays_17 rfl rfl rfl ?_
    exact g_callV (T := T_CU) (N := 13) (As := [.ref o1, .int x3]) (rest := [.int x3, .ref 50]) ok_CU_startDay in_CU_startDay se_CU_startDay ml_LB_152 sh_33 (by decide) rfl rfl rfl (Nat.le_of_ble_eq_true rfl) dc_LB_keepStartDays_18 rfl rOk_fr (k2 c1)
theorem w_LB_keepStartDays_21 {G : GC} {d : Nat} {P : PT} {I : MI} {J : MJ} {o1 : Nat} (h1 : PtsAt o1) {x2 : Int32} {x3 : Int32} {y1 : Int32} {y2 : Int32} (b1 : vp_in y1 6) (k2 : Go G (fr G m_LB_keepStartDays (d + 1) P) 2 [some (.ref 0), some (.ref o1), some (.int x2), some (.int (x3 + 1))] [] (u2 I 50 y1.toNatClampNeg y2) J) : Go G (fr G m_LB_keepStartDays (d + 1) P) 21 [some (.ref 0), some (.ref o1), some (.int x2), some (.int x3)] [.int y2, .int y1, .ref 50] I J := by
  refine g_iast sh_50 b1 dc_LB_keepStartDays_21 rfl ?_
  refine g_iinc (v := (x3 + 1)) (L' := [some (.ref 0), some (.ref o1), some (.int x2), some (.int (x3 + 1))]) dc_LB_keepStartDays_22 rfl rfl (by rw [show Int32.ofInt 1 = 1 from by decide]) (Nat.le_of_ble_eq_true rfl) rfl ?_
  refine g_goto (tgt := 2) dc_LB_keepStartDays_25 (by decide) ?_
  exact k2
theorem dc_LB_least_0 : decode prog_1_method_5_code 0 = .ok (.iload_n 1, 1) := by decide +kernel
theorem dc_LB_least_1 : decode prog_1_method_5_code 1 = .ok (.invokestatic 69, 3) := by decide +kernel
theorem dc_LB_least_4 : decode prog_1_method_5_code 4 = .ok (.ifCond .eq 13, 3) := by decide +kernel
theorem dc_LB_least_7 : decode prog_1_method_5_code 7 = .ok (.iload_n 2, 1) := by decide +kernel
theorem dc_LB_least_8 : decode prog_1_method_5_code 8 = .ok (.iconst 1, 1) := by decide +kernel
theorem dc_LB_least_9 : decode prog_1_method_5_code 9 = .ok (.bipush 10, 2) := by decide +kernel
theorem dc_LB_least_11 : decode prog_1_method_5_code 11 = .ok (.invokestatic 108, 3) := by decide +kernel
theorem dc_LB_least_14 : decode prog_1_method_5_code 14 = .ok (.ifCond .ne 6, 3) := by decide +kernel
theorem dc_LB_least_17 : decode prog_1_method_5_code 17 = .ok (.bipush (-2), 2) := by decide +kernel
theorem dc_LB_least_19 : decode prog_1_method_5_code 19 = .ok (.ireturn, 1) := by decide +kernel
theorem dc_LB_least_20 : decode prog_1_method_5_code 20 = .ok (.aload_n 0, 1) := by decide +kernel
theorem dc_LB_least_21 : decode prog_1_method_5_code 21 = .ok (.getfield 27, 3) := by decide +kernel
theorem dc_LB_least_24 : decode prog_1_method_5_code 24 = .ok (.iload_n 1, 1) := by decide +kernel
theorem dc_LB_least_25 : decode prog_1_method_5_code 25 = .ok (.iaload, 1) := by decide +kernel
theorem dc_LB_least_26 : decode prog_1_method_5_code 26 = .ok (.istore_n 3, 1) := by decide +kernel
theorem dc_LB_least_27 : decode prog_1_method_5_code 27 = .ok (.aload_n 0, 1) := by decide +kernel
theorem dc_LB_least_28 : decode prog_1_method_5_code 28 = .ok (.getfield 27, 3) := by decide +kernel
theorem dc_LB_least_31 : decode prog_1_method_5_code 31 = .ok (.iload_n 1, 1) := by decide +kernel
theorem dc_LB_least_32 : decode prog_1_method_5_code 32 = .ok (.iload_n 2, 1) := by decide +kernel
theorem dc_LB_least_33 : decode prog_1_method_5_code 33 = .ok (.iastore, 1) := by decide +kernel
theorem dc_LB_least_34 : decode prog_1_method_5_code 34 = .ok (.iload_n 3, 1) := by decide +kernel
theorem dc_LB_least_35 : decode prog_1_method_5_code 35 = .ok (.ireturn, 1) := by decide +kernel
theorem w_LB_least_0 {G : GC} {d : Nat} {P : PT} {I : MI} {J : MJ} {x1 : Int32} {x2 : Int32} (k1 : ((f_LB_isRow x1) = 0) → Go G (fr G m_LB_least (d + 2) P) 17 [none, none, none, none] [] I J) (b2 : (¬ ((f_LB_isRow x1) = 0)) → (¬ (f_LB_isWithin x2 1 10) = 0) → vp_in x1 4) (q3 : (¬ ((f_LB_isRow x1) = 0)) → (¬ (f_LB_isWithin x2 1 10) = 0) → P (some (.int (I 32 x1.toNatClampNeg))) (u2 I 32 x1.toNatClampNeg x2) J) (k4 : (¬ ((f_LB_isRow x1) = 0)) → ((f_LB_isWithin x2 1 10) = 0) → Go G (fr G m_LB_least (d + 2) P) 17 [none, none, none, none] [] I J) : Go G (fr G m_LB_least (d + 2) P) 0 [some (.ref 0), some (.int x1), some (.int x2), none] [] I J := by
  refine g_iload_n dc_LB_least_0 rfl rfl rfl ?_
  refine g_callS (M := m_LB_isRow) (As := [.int x1]) (rest := []) ok_LB_isRow st_LB_isRow ml_LB_69 rfl rfl (Nat.le_of_ble_eq_true rfl) dc_LB_least_1 rfl rOk_fr (c_LB_isRow ?_)
  show Go G (fr G m_LB_least (d + 2) P) 4 [some (.ref 0), some (.int x1), some (.int x2), none] [.int (f_LB_isRow x1)] I J
  refine g_if_eq (tgt := 17) dc_LB_least_4 rfl (by decide) (fun c1 => ?_) (fun c1 => ?_)
  · refine g_weak [none, none, none, none] trivial ?_
    exact (k1 c1)
  · refine g_iload_n dc_LB_least_7 rfl rfl rfl ?_
    refine g_iconst (v := 1) dc_LB_least_8 rfl (by decide) ?_
    refine g_bipush (v := 10) dc_LB_least_9 rfl (by decide) ?_
    refine g_callS (M := m_LB_isWithin) (As := [.int x2, .int 1, .int 10]) (rest := []) ok_LB_isWithin st_LB_isWithin ml_LB_108 rfl rfl (Nat.le_of_ble_eq_true rfl) dc_LB_least_11 rfl rOk_fr (c_LB_isWithin ?_)
    show Go G (fr G m_LB_least (d + 2) P) 14 [some (.ref 0), some (.int x1), some (.int x2), none] [.int (f_LB_isWithin x2 1 10)] I J
    refine g_if_ne (tgt := 20) dc_LB_least_14 rfl (by decide) (fun c2 => ?_) (fun c2 => ?_)
    · refine g_aload_n dc_LB_least_20 rfl rfl rfl ?_
      refine g_get (C := "LevelBreaks") (T := T_LB) (N := 11) (k := 3) (v := .ref 32) sh_0 (by decide) rfl rfl i_LB (by decide) fl_LB_27 (Or.inl rfl) rfl dc_LB_least_21 rfl ?_
      refine g_iload_n dc_LB_least_24 rfl rfl rfl ?_
      refine g_ialdv (v := (I 32 x1.toNatClampNeg)) sh_32 (b2 c1 c2) rfl dc_LB_least_25 rfl ?_
      refine g_istore_n (L' := [some (.ref 0), some (.int x1), some (.int x2), some (.int (I 32 x1.toNatClampNeg))]) dc_LB_least_26 rfl rfl (Nat.le_of_ble_eq_true rfl) rfl ?_
      refine g_aload_n dc_LB_least_27 rfl rfl rfl ?_
      refine g_get (C := "LevelBreaks") (T := T_LB) (N := 11) (k := 3) (v := .ref 32) sh_0 (by decide) rfl rfl i_LB (by decide) fl_LB_27 (Or.inl rfl) rfl dc_LB_least_28 rfl ?_
      refine g_iload_n dc_LB_least_31 rfl rfl rfl ?_
      refine g_iload_n dc_LB_least_32 rfl rfl rfl ?_
      refine g_iast sh_32 (b2 c1 c2) dc_LB_least_33 rfl ?_
      refine g_iload_n dc_LB_least_34 rfl rfl rfl ?_
      exact g_iret rfl dc_LB_least_35 (q3 c1 c2)
    · refine g_weak [none, none, none, none] trivial ?_
      exact (k4 c1 c2)
theorem w_LB_least_17 {G : GC} {d : Nat} {P : PT} {I : MI} {J : MJ}  (q1 : P (some (.int (-2))) I J) : Go G (fr G m_LB_least (d + 2) P) 17 [none, none, none, none] [] I J := by
  refine g_bipush (v := (-2)) dc_LB_least_17 rfl (by decide) ?_
  exact g_iret rfl dc_LB_least_19 q1
theorem dc_LB_limit_0 : decode prog_1_method_21_code 0 = .ok (.iload_n 1, 1) := by decide +kernel
theorem dc_LB_limit_1 : decode prog_1_method_21_code 1 = .ok (.iload_n 2, 1) := by decide +kernel
theorem dc_LB_limit_2 : decode prog_1_method_21_code 2 = .ok (.iload_n 3, 1) := by decide +kernel
theorem dc_LB_limit_3 : decode prog_1_method_21_code 3 = .ok (.iload 4, 2) := by decide +kernel
theorem dc_LB_limit_5 : decode prog_1_method_21_code 5 = .ok (.invokestatic 227, 3) := by decide +kernel
theorem dc_LB_limit_8 : decode prog_1_method_21_code 8 = .ok (.ifCond .eq 11, 3) := by decide +kernel
theorem dc_LB_limit_11 : decode prog_1_method_21_code 11 = .ok (.iload 5, 2) := by decide +kernel
theorem dc_LB_limit_13 : decode prog_1_method_21_code 13 = .ok (.invokestatic 73, 3) := by decide +kernel
theorem dc_LB_limit_16 : decode prog_1_method_21_code 16 = .ok (.ifCond .ne 6, 3) := by decide +kernel
theorem dc_LB_limit_19 : decode prog_1_method_21_code 19 = .ok (.bipush (-2), 2) := by decide +kernel
theorem dc_LB_limit_21 : decode prog_1_method_21_code 21 = .ok (.ireturn, 1) := by decide +kernel
theorem dc_LB_limit_22 : decode prog_1_method_21_code 22 = .ok (.aload_n 0, 1) := by decide +kernel
theorem dc_LB_limit_23 : decode prog_1_method_21_code 23 = .ok (.getfield 19, 3) := by decide +kernel
theorem dc_LB_limit_26 : decode prog_1_method_21_code 26 = .ok (.iload_n 1, 1) := by decide +kernel
theorem dc_LB_limit_27 : decode prog_1_method_21_code 27 = .ok (.aaload, 1) := by decide +kernel
theorem dc_LB_limit_28 : decode prog_1_method_21_code 28 = .ok (.iload_n 2, 1) := by decide +kernel
theorem dc_LB_limit_29 : decode prog_1_method_21_code 29 = .ok (.iload_n 3, 1) := by decide +kernel
theorem dc_LB_limit_30 : decode prog_1_method_21_code 30 = .ok (.iload 4, 2) := by decide +kernel
theorem dc_LB_limit_32 : decode prog_1_method_21_code 32 = .ok (.iload 5, 2) := by decide +kernel
theorem dc_LB_limit_34 : decode prog_1_method_21_code 34 = .ok (.invokestatic 247, 3) := by decide +kernel
theorem dc_LB_limit_37 : decode prog_1_method_21_code 37 = .ok (.ireturn, 1) := by decide +kernel
theorem w_LB_limit_0 {G : GC} {d : Nat} {P : PT} {I : MI} {J : MJ} {x1 : Int32} {x2 : Int32} {x3 : Int32} {x4 : Int32} {x5 : Int32} (k1 : ((f_LB_isWatch x1 x2 x3 x4) = 0) → Go G (fr G m_LB_limit (d + 3) P) 19 [none, none, none, none, none, none] [] I J) (b2 : (¬ ((f_LB_isWatch x1 x2 x3 x4) = 0)) → (¬ (f_LB_isDay x5) = 0) → vp_in x1 4) (k3 : (¬ ((f_LB_isWatch x1 x2 x3 x4) = 0)) → (¬ (f_LB_isDay x5) = 0) → Ct G (d + 2) m_AL_bestLimit [.ref (7 + 5 * x1.toNatClampNeg), .int x2, .int x3, .int x4, .int x5] (fun r I' J' => Go G (fr G m_LB_limit (d + 3) P) 37 [none, none, none, none, none, none] (r.toList ++ []) I' J') I J) (k4 : (¬ ((f_LB_isWatch x1 x2 x3 x4) = 0)) → ((f_LB_isDay x5) = 0) → Go G (fr G m_LB_limit (d + 3) P) 19 [none, none, none, none, none, none] [] I J) : Go G (fr G m_LB_limit (d + 3) P) 0 [some (.ref 0), some (.int x1), some (.int x2), some (.int x3), some (.int x4), some (.int x5)] [] I J := by
  refine g_iload_n dc_LB_limit_0 rfl rfl rfl ?_
  refine g_iload_n dc_LB_limit_1 rfl rfl rfl ?_
  refine g_iload_n dc_LB_limit_2 rfl rfl rfl ?_
  refine g_iload dc_LB_limit_3 rfl rfl ?_
  refine g_callS (M := m_LB_isWatch) (As := [.int x1, .int x2, .int x3, .int x4]) (rest := []) ok_LB_isWatch st_LB_isWatch ml_LB_227 rfl rfl (Nat.le_of_ble_eq_true rfl) dc_LB_limit_5 rfl rOk_fr (c_LB_isWatch ?_)
  show Go G (fr G m_LB_limit (d + 3) P) 8 [some (.ref 0), some (.int x1), some (.int x2), some (.int x3), some (.int x4), some (.int x5)] [.int (f_LB_isWatch x1 x2 x3 x4)] I J
  refine g_if_eq (tgt := 19) dc_LB_limit_8 rfl (by decide) (fun c1 => ?_) (fun c1 => ?_)
  · refine g_weak [none, none, none, none, none, none] trivial ?_
    exact (k1 c1)
  · refine g_iload dc_LB_limit_11 rfl rfl ?_
    refine g_callS (M := m_LB_isDay) (As := [.int x5]) (rest := []) ok_LB_isDay st_LB_isDay ml_LB_73 rfl rfl (Nat.le_of_ble_eq_true rfl) dc_LB_limit_13 rfl rOk_fr (c_LB_isDay ?_)
    show Go G (fr G m_LB_limit (d + 3) P) 16 [some (.ref 0), some (.int x1), some (.int x2), some (.int x3), some (.int x4), some (.int x5)] [.int (f_LB_isDay x5)] I J
    refine g_if_ne (tgt := 22) dc_LB_limit_16 rfl (by decide) (fun c2 => ?_) (fun c2 => ?_)
    · refine g_aload_n dc_LB_limit_22 rfl rfl rfl ?_
      refine g_get (C := "LevelBreaks") (T := T_LB) (N := 11) (k := 1) (v := .ref 6) sh_0 (by decide) rfl rfl i_LB (by decide) fl_LB_19 (Or.inl rfl) rfl dc_LB_limit_23 rfl ?_
      refine g_iload_n dc_LB_limit_26 rfl rfl rfl ?_
      refine g_aald (r := (7 + 5 * x1.toNatClampNeg)) sh_6 (by decide) rfl (b2 c1 c2) (now_at (vin_lt (b2 c1 c2))) dc_LB_limit_27 rfl ?_
      refine g_iload_n dc_LB_limit_28 rfl rfl rfl ?_
      refine g_iload_n dc_LB_limit_29 rfl rfl rfl ?_
      refine g_iload dc_LB_limit_30 rfl rfl ?_
      refine g_iload dc_LB_limit_32 rfl rfl ?_
      refine g_weak [none, none, none, none, none, none] trivial ?_
      exact g_callS (As := [.ref (7 + 5 * x1.toNatClampNeg), .int x2, .int x3, .int x4, .int x5]) (rest := []) ok_AL_bestLimit st_AL_bestLimit ml_LB_247 rfl rfl (Nat.le_of_ble_eq_true rfl) dc_LB_limit_34 rfl rOk_fr (k3 c1 c2)
    · refine g_weak [none, none, none, none, none, none] trivial ?_
      exact (k4 c1 c2)
theorem w_LB_limit_19 {G : GC} {d : Nat} {P : PT} {I : MI} {J : MJ}  (q1 : P (some (.int (-2))) I J) : Go G (fr G m_LB_limit (d + 3) P) 19 [none, none, none, none, none, none] [] I J := by
  refine g_bipush (v := (-2)) dc_LB_limit_19 rfl (by decide) ?_
  exact g_iret rfl dc_LB_limit_21 q1
theorem w_LB_limit_37 {G : GC} {d : Nat} {P : PT} {I : MI} {J : MJ} {y0 : Int32} (q1 : P (some (.int y0)) I J) : Go G (fr G m_LB_limit (d + 3) P) 37 [none, none, none, none, none, none] [.int y0] I J := by
  exact g_iret rfl dc_LB_limit_37 q1
theorem dc_LB_lose_0 : decode prog_1_method_27_code 0 = .ok (.iload_n 1, 1) := by decide +kernel
theorem dc_LB_lose_1 : decode prog_1_method_27_code 1 = .ok (.invokestatic 93, 3) := by decide +kernel
theorem dc_LB_lose_4 : decode prog_1_method_27_code 4 = .ok (.ifCond .ne 6, 3) := by decide +kernel
theorem dc_LB_lose_7 : decode prog_1_method_27_code 7 = .ok (.bipush (-2), 2) := by decide +kernel
theorem dc_LB_lose_9 : decode prog_1_method_27_code 9 = .ok (.ireturn, 1) := by decide +kernel
theorem dc_LB_lose_10 : decode prog_1_method_27_code 10 = .ok (.aload_n 0, 1) := by decide +kernel
theorem dc_LB_lose_11 : decode prog_1_method_27_code 11 = .ok (.getfield 58, 3) := by decide +kernel
theorem dc_LB_lose_14 : decode prog_1_method_27_code 14 = .ok (.iload_n 1, 1) := by decide +kernel
theorem dc_LB_lose_15 : decode prog_1_method_27_code 15 = .ok (.aaload, 1) := by decide +kernel
theorem dc_LB_lose_16 : decode prog_1_method_27_code 16 = .ok (.invokevirtual 96, 3) := by decide +kernel
theorem dc_LB_lose_19 : decode prog_1_method_27_code 19 = .ok (.ifCond .eq 9, 3) := by decide +kernel
theorem dc_LB_lose_22 : decode prog_1_method_27_code 22 = .ok (.aload_n 0, 1) := by decide +kernel
theorem dc_LB_lose_23 : decode prog_1_method_27_code 23 = .ok (.iconst 1, 1) := by decide +kernel
theorem dc_LB_lose_24 : decode prog_1_method_27_code 24 = .ok (.invokevirtual 100, 3) := by decide +kernel
theorem dc_LB_lose_27 : decode prog_1_method_27_code 27 = .ok (.ireturn, 1) := by decide +kernel
theorem dc_LB_lose_28 : decode prog_1_method_27_code 28 = .ok (.aload_n 0, 1) := by decide +kernel
theorem dc_LB_lose_29 : decode prog_1_method_27_code 29 = .ok (.getfield 58, 3) := by decide +kernel
theorem dc_LB_lose_32 : decode prog_1_method_27_code 32 = .ok (.iload_n 1, 1) := by decide +kernel
theorem dc_LB_lose_33 : decode prog_1_method_27_code 33 = .ok (.aaload, 1) := by decide +kernel
theorem dc_LB_lose_34 : decode prog_1_method_27_code 34 = .ok (.getfield 104, 3) := by decide +kernel
theorem dc_LB_lose_37 : decode prog_1_method_27_code 37 = .ok (.istore_n 2, 1) := by decide +kernel
theorem dc_LB_lose_38 : decode prog_1_method_27_code 38 = .ok (.aload_n 0, 1) := by decide +kernel
theorem dc_LB_lose_39 : decode prog_1_method_27_code 39 = .ok (.getfield 58, 3) := by decide +kernel
theorem dc_LB_lose_42 : decode prog_1_method_27_code 42 = .ok (.iload_n 1, 1) := by decide +kernel
theorem dc_LB_lose_43 : decode prog_1_method_27_code 43 = .ok (.aaload, 1) := by decide +kernel
theorem dc_LB_lose_44 : decode prog_1_method_27_code 44 = .ok (.iconst (-1), 1) := by decide +kernel
theorem dc_LB_lose_45 : decode prog_1_method_27_code 45 = .ok (.putfield 104, 3) := by decide +kernel
theorem dc_LB_lose_48 : decode prog_1_method_27_code 48 = .ok (.iload_n 2, 1) := by decide +kernel
theorem dc_LB_lose_49 : decode prog_1_method_27_code 49 = .ok (.ireturn, 1) := by decide +kernel
theorem w_LB_lose_0 {G : GC} {d : Nat} {P : PT} {I : MI} {J : MJ} {x1 : Int32} (b1 : (¬ (f_LB_isSheet x1) = 0) → vp_in x1 4) (k2 : (¬ (f_LB_isSheet x1) = 0) → Ct G (d + 1) m_SH_isLost [.ref (59 + 2 * x1.toNatClampNeg)] (fun r I' J' => Go G (fr G m_LB_lose (d + 2) P) 19 [some (.ref 0), some (.int x1), none] (r.toList ++ []) I' J') I J) (q3 : ((f_LB_isSheet x1) = 0) → P (some (.int (-2))) I J) : Go G (fr G m_LB_lose (d + 2) P) 0 [some (.ref 0), some (.int x1), none] [] I J := by
  refine g_iload_n dc_LB_lose_0 rfl rfl rfl ?_
  refine g_callS (M := m_LB_isSheet) (As := [.int x1]) (rest := []) ok_LB_isSheet st_LB_isSheet ml_LB_93 rfl rfl (Nat.le_of_ble_eq_true rfl) dc_LB_lose_1 rfl rOk_fr (c_LB_isSheet ?_)
  show Go G (fr G m_LB_lose (d + 2) P) 4 [some (.ref 0), some (.int x1), none] [.int (f_LB_isSheet x1)] I J
  refine g_if_ne (tgt := 10) dc_LB_lose_4 rfl (by decide) (fun c1 => ?_) (fun c1 => ?_)
  · refine g_aload_n dc_LB_lose_10 rfl rfl rfl ?_
    refine g_get (C := "LevelBreaks") (T := T_LB) (N := 11) (k := 8) (v := .ref 58) sh_0 (by decide) rfl rfl i_LB (by decide) fl_LB_58 (Or.inl rfl) rfl dc_LB_lose_11 rfl ?_
    refine g_iload_n dc_LB_lose_14 rfl rfl rfl ?_
    refine g_aald (r := (59 + 2 * x1.toNatClampNeg)) sh_58 (by decide) rfl (b1 c1) (she_at (vin_lt (b1 c1))) dc_LB_lose_15 rfl ?_
    exact g_callV (T := T_SH) (N := 3) (As := []) (rest := []) ok_SH_isLost in_SH_isLost se_SH_isLost ml_LB_96 (sht_in (b1 c1)).1 (by decide) rfl rfl rfl (Nat.le_of_ble_eq_true rfl) dc_LB_lose_16 rfl rOk_fr (k2 c1)
  · refine g_bipush (v := (-2)) dc_LB_lose_7 rfl (by decide) ?_
    exact g_iret rfl dc_LB_lose_9 (q3 c1)
theorem w_LB_lose_19 {G : GC} {d : Nat} {P : PT} {I : MI} {J : MJ} {x1 : Int32} {y0 : Int32} (b1 : (y0 = 0) → vp_in x1 4) (q2 : (y0 = 0) → P (some (.int (I (59 + 2 * x1.toNatClampNeg) 2))) (u2 I (59 + 2 * x1.toNatClampNeg) 2 (-1)) J) (k3 : (¬ (y0 = 0)) → Ct G (d + 1) m_LB_found [.ref 0, .int 1] (fun r I' J' => Go G (fr G m_LB_lose (d + 2) P) 27 [none, none, none] (r.toList ++ []) I' J') I J) : Go G (fr G m_LB_lose (d + 2) P) 19 [some (.ref 0), some (.int x1), none] [.int y0] I J := by
  refine g_if_eq (tgt := 28) dc_LB_lose_19 rfl (by decide) (fun c1 => ?_) (fun c1 => ?_)
  · refine g_aload_n dc_LB_lose_28 rfl rfl rfl ?_
    refine g_get (C := "LevelBreaks") (T := T_LB) (N := 11) (k := 8) (v := .ref 58) sh_0 (by decide) rfl rfl i_LB (by decide) fl_LB_58 (Or.inl rfl) rfl dc_LB_lose_29 rfl ?_
    refine g_iload_n dc_LB_lose_32 rfl rfl rfl ?_
    refine g_aald (r := (59 + 2 * x1.toNatClampNeg)) sh_58 (by decide) rfl (b1 c1) (she_at (vin_lt (b1 c1))) dc_LB_lose_33 rfl ?_
    refine g_get (C := "LevelBreaks$Sheet") (T := T_SH) (N := 3) (k := 2) (v := .int (I (59 + 2 * x1.toNatClampNeg) 2)) (sht_in (b1 c1)).1 (by decide) rfl rfl i_SH (by decide) fl_LB_104 (Or.inl rfl) rfl dc_LB_lose_34 rfl ?_
    refine g_istore_n (L' := [some (.ref 0), some (.int x1), some (.int (I (59 + 2 * x1.toNatClampNeg) 2))]) dc_LB_lose_37 rfl rfl (Nat.le_of_ble_eq_true rfl) rfl ?_
    refine g_aload_n dc_LB_lose_38 rfl rfl rfl ?_
    refine g_get (C := "LevelBreaks") (T := T_LB) (N := 11) (k := 8) (v := .ref 58) sh_0 (by decide) rfl rfl i_LB (by decide) fl_LB_58 (Or.inl rfl) rfl dc_LB_lose_39 rfl ?_
    refine g_iload_n dc_LB_lose_42 rfl rfl rfl ?_
    refine g_aald (r := (59 + 2 * x1.toNatClampNeg)) sh_58 (by decide) rfl (b1 c1) (she_at (vin_lt (b1 c1))) dc_LB_lose_43 rfl ?_
    refine g_iconst (v := (-1)) dc_LB_lose_44 rfl (by decide) ?_
    refine g_putI (C := "LevelBreaks$Sheet") (T := T_SH) (N := 3) (k := 2) (ty := t_SH) (sht_in (b1 c1)).1 (by decide) rfl rfl i_SH p_SH n_SH (by decide) fl_LB_104 (Or.inl rfl) rfl (by decide) dc_LB_lose_45 rfl ?_
    refine g_iload_n dc_LB_lose_48 rfl rfl rfl ?_
    exact g_iret rfl dc_LB_lose_49 (q2 c1)
  · refine g_aload_n dc_LB_lose_22 rfl rfl rfl ?_
    refine g_iconst (v := 1) dc_LB_lose_23 rfl (by decide) ?_
    refine g_weak [none, none, none] trivial ?_
    exact g_callV (T := T_LB) (N := 11) (As := [.int 1]) (rest := []) ok_LB_found in_LB_found se_LB_found ml_LB_100 sh_0 (by decide) rfl rfl rfl (Nat.le_of_ble_eq_true rfl) dc_LB_lose_24 rfl rOk_fr (k3 c1)
theorem w_LB_lose_27 {G : GC} {d : Nat} {P : PT} {I : MI} {J : MJ} {y0 : Int32} (q1 : P (some (.int y0)) I J) : Go G (fr G m_LB_lose (d + 2) P) 27 [none, none, none] [.int y0] I J := by
  exact g_iret rfl dc_LB_lose_27 q1
theorem dc_LB_many_0 : decode prog_1_method_7_code 0 = .ok (.iload_n 1, 1) := by decide +kernel
theorem dc_LB_many_1 : decode prog_1_method_7_code 1 = .ok (.invokestatic 69, 3) := by decide +kernel
theorem dc_LB_many_4 : decode prog_1_method_7_code 4 = .ok (.ifCond .eq 15, 3) := by decide +kernel
theorem dc_LB_many_7 : decode prog_1_method_7_code 7 = .ok (.aload_n 0, 1) := by decide +kernel
theorem dc_LB_many_8 : decode prog_1_method_7_code 8 = .ok (.getfield 19, 3) := by decide +kernel
theorem dc_LB_many_11 : decode prog_1_method_7_code 11 = .ok (.iload_n 1, 1) := by decide +kernel
theorem dc_LB_many_12 : decode prog_1_method_7_code 12 = .ok (.aaload, 1) := by decide +kernel
theorem dc_LB_many_13 : decode prog_1_method_7_code 13 = .ok (.getfield 115, 3) := by decide +kernel
theorem dc_LB_many_16 : decode prog_1_method_7_code 16 = .ok (.goto 5, 3) := by decide +kernel
theorem dc_LB_many_19 : decode prog_1_method_7_code 19 = .ok (.bipush (-2), 2) := by decide +kernel
theorem dc_LB_many_21 : decode prog_1_method_7_code 21 = .ok (.ireturn, 1) := by decide +kernel
theorem w_LB_many_0 {G : GC} {d : Nat} {P : PT} {I : MI} {J : MJ} {x1 : Int32} (q1 : ((f_LB_isRow x1) = 0) → P (some (.int (-2))) I J) (b2 : (¬ ((f_LB_isRow x1) = 0)) → vp_in x1 4) (q3 : (¬ ((f_LB_isRow x1) = 0)) → P (some (.int (I (7 + 5 * x1.toNatClampNeg) 4))) I J) : Go G (fr G m_LB_many (d + 2) P) 0 [some (.ref 0), some (.int x1)] [] I J := by
  refine g_iload_n dc_LB_many_0 rfl rfl rfl ?_
  refine g_callS (M := m_LB_isRow) (As := [.int x1]) (rest := []) ok_LB_isRow st_LB_isRow ml_LB_69 rfl rfl (Nat.le_of_ble_eq_true rfl) dc_LB_many_1 rfl rOk_fr (c_LB_isRow ?_)
  show Go G (fr G m_LB_many (d + 2) P) 4 [some (.ref 0), some (.int x1)] [.int (f_LB_isRow x1)] I J
  refine g_if_eq (tgt := 19) dc_LB_many_4 rfl (by decide) (fun c1 => ?_) (fun c1 => ?_)
  · refine g_bipush (v := (-2)) dc_LB_many_19 rfl (by decide) ?_
    exact g_iret rfl dc_LB_many_21 (q1 c1)
  · refine g_aload_n dc_LB_many_7 rfl rfl rfl ?_
    refine g_get (C := "LevelBreaks") (T := T_LB) (N := 11) (k := 1) (v := .ref 6) sh_0 (by decide) rfl rfl i_LB (by decide) fl_LB_19 (Or.inl rfl) rfl dc_LB_many_8 rfl ?_
    refine g_iload_n dc_LB_many_11 rfl rfl rfl ?_
    refine g_aald (r := (7 + 5 * x1.toNatClampNeg)) sh_6 (by decide) rfl (b2 c1) (now_at (vin_lt (b2 c1))) dc_LB_many_12 rfl ?_
    refine g_get (C := "LevelBreaks$Points") (T := T_PO) (N := 5) (k := 4) (v := .int (I (7 + 5 * x1.toNatClampNeg) 4)) (pts_in (b2 c1)).1 (by decide) rfl rfl i_PO (by decide) fl_LB_115 (Or.inl rfl) rfl dc_LB_many_13 rfl ?_
    refine g_goto (tgt := 21) dc_LB_many_16 (by decide) ?_
    exact g_iret rfl dc_LB_many_21 (q3 c1)
theorem dc_LB_missed_0 : decode prog_1_method_25_code 0 = .ok (.iload_n 1, 1) := by decide +kernel
theorem dc_LB_missed_1 : decode prog_1_method_25_code 1 = .ok (.invokestatic 69, 3) := by decide +kernel
theorem dc_LB_missed_4 : decode prog_1_method_25_code 4 = .ok (.ifCond .eq 12, 3) := by decide +kernel
theorem dc_LB_missed_7 : decode prog_1_method_25_code 7 = .ok (.iload_n 2, 1) := by decide +kernel
theorem dc_LB_missed_8 : decode prog_1_method_25_code 8 = .ok (.iconst 0, 1) := by decide +kernel
theorem dc_LB_missed_9 : decode prog_1_method_25_code 9 = .ok (.iconst 1, 1) := by decide +kernel
theorem dc_LB_missed_10 : decode prog_1_method_25_code 10 = .ok (.invokestatic 108, 3) := by decide +kernel
theorem dc_LB_missed_13 : decode prog_1_method_25_code 13 = .ok (.ifCond .ne 6, 3) := by decide +kernel
theorem dc_LB_missed_16 : decode prog_1_method_25_code 16 = .ok (.bipush (-2), 2) := by decide +kernel
theorem dc_LB_missed_18 : decode prog_1_method_25_code 18 = .ok (.ireturn, 1) := by decide +kernel
theorem dc_LB_missed_19 : decode prog_1_method_25_code 19 = .ok (.aload_n 0, 1) := by decide +kernel
theorem dc_LB_missed_20 : decode prog_1_method_25_code 20 = .ok (.getfield 51, 3) := by decide +kernel
theorem dc_LB_missed_23 : decode prog_1_method_25_code 23 = .ok (.invokevirtual 254, 3) := by decide +kernel
theorem dc_LB_missed_26 : decode prog_1_method_25_code 26 = .ok (.iconst (-1), 1) := by decide +kernel
theorem dc_LB_missed_27 : decode prog_1_method_25_code 27 = .ok (.if_icmp .eq 6, 3) := by decide +kernel
theorem dc_LB_missed_30 : decode prog_1_method_25_code 30 = .ok (.bipush (-3), 2) := by decide +kernel
theorem dc_LB_missed_32 : decode prog_1_method_25_code 32 = .ok (.ireturn, 1) := by decide +kernel
theorem dc_LB_missed_33 : decode prog_1_method_25_code 33 = .ok (.iload_n 2, 1) := by decide +kernel
theorem dc_LB_missed_34 : decode prog_1_method_25_code 34 = .ok (.ifCond .ne 19, 3) := by decide +kernel
theorem dc_LB_missed_37 : decode prog_1_method_25_code 37 = .ok (.aload_n 0, 1) := by decide +kernel
theorem dc_LB_missed_38 : decode prog_1_method_25_code 38 = .ok (.getfield 51, 3) := by decide +kernel
theorem dc_LB_missed_41 : decode prog_1_method_25_code 41 = .ok (.aload_n 0, 1) := by decide +kernel
theorem dc_LB_missed_42 : decode prog_1_method_25_code 42 = .ok (.getfield 19, 3) := by decide +kernel
theorem dc_LB_missed_45 : decode prog_1_method_25_code 45 = .ok (.iload_n 1, 1) := by decide +kernel
theorem dc_LB_missed_46 : decode prog_1_method_25_code 46 = .ok (.aaload, 1) := by decide +kernel
theorem dc_LB_missed_47 : decode prog_1_method_25_code 47 = .ok (.invokevirtual 258, 3) := by decide +kernel
theorem dc_LB_missed_50 : decode prog_1_method_25_code 50 = .ok (.goto 16, 3) := by decide +kernel
theorem dc_LB_missed_53 : decode prog_1_method_25_code 53 = .ok (.aload_n 0, 1) := by decide +kernel
theorem dc_LB_missed_54 : decode prog_1_method_25_code 54 = .ok (.getfield 51, 3) := by decide +kernel
theorem dc_LB_missed_57 : decode prog_1_method_25_code 57 = .ok (.aload_n 0, 1) := by decide +kernel
theorem dc_LB_missed_58 : decode prog_1_method_25_code 58 = .ok (.getfield 19, 3) := by decide +kernel
theorem dc_LB_missed_61 : decode prog_1_method_25_code 61 = .ok (.iload_n 1, 1) := by decide +kernel
theorem dc_LB_missed_62 : decode prog_1_method_25_code 62 = .ok (.aaload, 1) := by decide +kernel
theorem dc_LB_missed_63 : decode prog_1_method_25_code 63 = .ok (.invokevirtual 262, 3) := by decide +kernel
theorem dc_LB_missed_66 : decode prog_1_method_25_code 66 = .ok (.ireturn, 1) := by decide +kernel
theorem w_LB_missed_0 {G : GC} {d : Nat} {P : PT} {I : MI} {J : MJ} {x1 : Int32} {x2 : Int32} (k1 : ((f_LB_isRow x1) = 0) → Go G (fr G m_LB_missed (d + 6) P) 16 [none, none, none] [] I J) (k2 : (¬ ((f_LB_isRow x1) = 0)) → (¬ (f_LB_isWithin x2 0 1) = 0) → Ct G (d + 5) m_BF_readText [.ref 53] (fun r I' J' => Go G (fr G m_LB_missed (d + 6) P) 26 [some (.ref 0), some (.int x1), some (.int x2)] (r.toList ++ []) I' J') I J) (k3 : (¬ ((f_LB_isRow x1) = 0)) → ((f_LB_isWithin x2 0 1) = 0) → Go G (fr G m_LB_missed (d + 6) P) 16 [none, none, none] [] I J) : Go G (fr G m_LB_missed (d + 6) P) 0 [some (.ref 0), some (.int x1), some (.int x2)] [] I J := by
  refine g_iload_n dc_LB_missed_0 rfl rfl rfl ?_
  refine g_callS (M := m_LB_isRow) (As := [.int x1]) (rest := []) ok_LB_isRow st_LB_isRow ml_LB_69 rfl rfl (Nat.le_of_ble_eq_true rfl) dc_LB_missed_1 rfl rOk_fr (c_LB_isRow ?_)
  show Go G (fr G m_LB_missed (d + 6) P) 4 [some (.ref 0), some (.int x1), some (.int x2)] [.int (f_LB_isRow x1)] I J
  refine g_if_eq (tgt := 16) dc_LB_missed_4 rfl (by decide) (fun c1 => ?_) (fun c1 => ?_)
  · refine g_weak [none, none, none] trivial ?_
    exact (k1 c1)
  · refine g_iload_n dc_LB_missed_7 rfl rfl rfl ?_
    refine g_iconst (v := 0) dc_LB_missed_8 rfl (by decide) ?_
    refine g_iconst (v := 1) dc_LB_missed_9 rfl (by decide) ?_
    refine g_callS (M := m_LB_isWithin) (As := [.int x2, .int 0, .int 1]) (rest := []) ok_LB_isWithin st_LB_isWithin ml_LB_108 rfl rfl (Nat.le_of_ble_eq_true rfl) dc_LB_missed_10 rfl rOk_fr (c_LB_isWithin ?_)
    show Go G (fr G m_LB_missed (d + 6) P) 13 [some (.ref 0), some (.int x1), some (.int x2)] [.int (f_LB_isWithin x2 0 1)] I J
    refine g_if_ne (tgt := 19) dc_LB_missed_13 rfl (by decide) (fun c2 => ?_) (fun c2 => ?_)
    · refine g_aload_n dc_LB_missed_19 rfl rfl rfl ?_
      refine g_get (C := "LevelBreaks") (T := T_LB) (N := 11) (k := 7) (v := .ref 53) sh_0 (by decide) rfl rfl i_LB (by decide) fl_LB_51 (Or.inl rfl) rfl dc_LB_missed_20 rfl ?_
      exact g_callV (T := T_BF) (N := 8) (As := []) (rest := []) ok_BF_readText in_BF_readText se_BF_readText ml_LB_254 sh_53 (by decide) rfl rfl rfl (Nat.le_of_ble_eq_true rfl) dc_LB_missed_23 rfl rOk_fr (k2 c1 c2)
    · refine g_weak [none, none, none] trivial ?_
      exact (k3 c1 c2)
theorem w_LB_missed_16 {G : GC} {d : Nat} {P : PT} {I : MI} {J : MJ}  (q1 : P (some (.int (-2))) I J) : Go G (fr G m_LB_missed (d + 6) P) 16 [none, none, none] [] I J := by
  refine g_bipush (v := (-2)) dc_LB_missed_16 rfl (by decide) ?_
  exact g_iret rfl dc_LB_missed_18 q1
theorem w_LB_missed_26 {G : GC} {d : Nat} {P : PT} {I : MI} {J : MJ} {x1 : Int32} {x2 : Int32} {y0 : Int32} (b1 : (y0 = (-1)) → (¬ x2 = 0) → vp_in x1 4) (k2 : (y0 = (-1)) → (¬ x2 = 0) → Ct G (d + 5) m_BF_worstDay [.ref 53, .ref (7 + 5 * x1.toNatClampNeg)] (fun r I' J' => Go G (fr G m_LB_missed (d + 6) P) 66 [none, none, none] (r.toList ++ []) I' J') I J) (b3 : (y0 = (-1)) → (x2 = 0) → vp_in x1 4) (k4 : (y0 = (-1)) → (x2 = 0) → Ct G (d + 5) m_BF_offTogether [.ref 53, .ref (7 + 5 * x1.toNatClampNeg)] (fun r I' J' => Go G (fr G m_LB_missed (d + 6) P) 50 [none, none, none] (r.toList ++ []) I' J') I J) (q5 : (¬ (y0 = (-1))) → P (some (.int (-3))) I J) : Go G (fr G m_LB_missed (d + 6) P) 26 [some (.ref 0), some (.int x1), some (.int x2)] [.int y0] I J := by
  refine g_iconst (v := (-1)) dc_LB_missed_26 rfl (by decide) ?_
  refine g_ic_eq (tgt := 33) dc_LB_missed_27 rfl (by decide) (fun c1 => ?_) (fun c1 => ?_)
  · refine g_iload_n dc_LB_missed_33 rfl rfl rfl ?_
    refine g_if_ne (tgt := 53) dc_LB_missed_34 rfl (by decide) (fun c2 => ?_) (fun c2 => ?_)
    · refine g_aload_n dc_LB_missed_53 rfl rfl rfl ?_
      refine g_get (C := "LevelBreaks") (T := T_LB) (N := 11) (k := 7) (v := .ref 53) sh_0 (by decide) rfl rfl i_LB (by decide) fl_LB_51 (Or.inl rfl) rfl dc_LB_missed_54 rfl ?_
      refine g_aload_n dc_LB_missed_57 rfl rfl rfl ?_
      refine g_get (C := "LevelBreaks") (T := T_LB) (N := 11) (k := 1) (v := .ref 6) sh_0 (by decide) rfl rfl i_LB (by decide) fl_LB_19 (Or.inl rfl) rfl dc_LB_missed_58 rfl ?_
      refine g_iload_n dc_LB_missed_61 rfl rfl rfl ?_
      refine g_aald (r := (7 + 5 * x1.toNatClampNeg)) sh_6 (by decide) rfl (b1 c1 c2) (now_at (vin_lt (b1 c1 c2))) dc_LB_missed_62 rfl ?_
      refine g_weak [none, none, none] trivial ?_
      exact g_callV (T := T_BF) (N := 8) (As := [.ref (7 + 5 * x1.toNatClampNeg)]) (rest := []) ok_BF_worstDay in_BF_worstDay se_BF_worstDay ml_LB_262 sh_53 (by decide) rfl rfl rfl (Nat.le_of_ble_eq_true rfl) dc_LB_missed_63 rfl rOk_fr (k2 c1 c2)
    · refine g_aload_n dc_LB_missed_37 rfl rfl rfl ?_
      refine g_get (C := "LevelBreaks") (T := T_LB) (N := 11) (k := 7) (v := .ref 53) sh_0 (by decide) rfl rfl i_LB (by decide) fl_LB_51 (Or.inl rfl) rfl dc_LB_missed_38 rfl ?_
      refine g_aload_n dc_LB_missed_41 rfl rfl rfl ?_
      refine g_get (C := "LevelBreaks") (T := T_LB) (N := 11) (k := 1) (v := .ref 6) sh_0 (by decide) rfl rfl i_LB (by decide) fl_LB_19 (Or.inl rfl) rfl dc_LB_missed_42 rfl ?_
      refine g_iload_n dc_LB_missed_45 rfl rfl rfl ?_
      refine g_aald (r := (7 + 5 * x1.toNatClampNeg)) sh_6 (by decide) rfl (b3 c1 c2) (now_at (vin_lt (b3 c1 c2))) dc_LB_missed_46 rfl ?_
      refine g_weak [none, none, none] trivial ?_
      exact g_callV (T := T_BF) (N := 8) (As := [.ref (7 + 5 * x1.toNatClampNeg)]) (rest := []) ok_BF_offTogether in_BF_offTogether se_BF_offTogether ml_LB_258 sh_53 (by decide) rfl rfl rfl (Nat.le_of_ble_eq_true rfl) dc_LB_missed_47 rfl rOk_fr (k4 c1 c2)
  · refine g_bipush (v := (-3)) dc_LB_missed_30 rfl (by decide) ?_
    exact g_iret rfl dc_LB_missed_32 (q5 c1)
theorem w_LB_missed_50 {G : GC} {d : Nat} {P : PT} {I : MI} {J : MJ} {y0 : Int32} (k1 : Go G (fr G m_LB_missed (d + 6) P) 66 [none, none, none] [.int y0] I J) : Go G (fr G m_LB_missed (d + 6) P) 50 [none, none, none] [.int y0] I J := by
  refine g_goto (tgt := 66) dc_LB_missed_50 (by decide) ?_
  exact k1
theorem w_LB_missed_66 {G : GC} {d : Nat} {P : PT} {I : MI} {J : MJ} {y0 : Int32} (q1 : P (some (.int y0)) I J) : Go G (fr G m_LB_missed (d + 6) P) 66 [none, none, none] [.int y0] I J := by
  exact g_iret rfl dc_LB_missed_66 q1
theorem dc_LB_near_0 : decode prog_1_method_12_code 0 = .ok (.iload_n 1, 1) := by decide +kernel
theorem dc_LB_near_1 : decode prog_1_method_12_code 1 = .ok (.invokestatic 69, 3) := by decide +kernel
theorem dc_LB_near_4 : decode prog_1_method_12_code 4 = .ok (.ifCond .eq 31, 3) := by decide +kernel
theorem dc_LB_near_7 : decode prog_1_method_12_code 7 = .ok (.iload_n 2, 1) := by decide +kernel
theorem dc_LB_near_8 : decode prog_1_method_12_code 8 = .ok (.invokestatic 116, 3) := by decide +kernel
theorem dc_LB_near_11 : decode prog_1_method_12_code 11 = .ok (.ifCond .eq 24, 3) := by decide +kernel
theorem dc_LB_near_14 : decode prog_1_method_12_code 14 = .ok (.iload_n 3, 1) := by decide +kernel
theorem dc_LB_near_15 : decode prog_1_method_12_code 15 = .ok (.iconst 2, 1) := by decide +kernel
theorem dc_LB_near_16 : decode prog_1_method_12_code 16 = .ok (.iconst 3, 1) := by decide +kernel
theorem dc_LB_near_17 : decode prog_1_method_12_code 17 = .ok (.invokestatic 108, 3) := by decide +kernel
theorem dc_LB_near_20 : decode prog_1_method_12_code 20 = .ok (.ifCond .eq 15, 3) := by decide +kernel
theorem dc_LB_near_23 : decode prog_1_method_12_code 23 = .ok (.iload 4, 2) := by decide +kernel
theorem dc_LB_near_25 : decode prog_1_method_12_code 25 = .ok (.iconst 0, 1) := by decide +kernel
theorem dc_LB_near_26 : decode prog_1_method_12_code 26 = .ok (.sipush 1000, 3) := by decide +kernel
theorem dc_LB_near_29 : decode prog_1_method_12_code 29 = .ok (.invokestatic 108, 3) := by decide +kernel
theorem dc_LB_near_32 : decode prog_1_method_12_code 32 = .ok (.ifCond .ne 6, 3) := by decide +kernel
theorem dc_LB_near_35 : decode prog_1_method_12_code 35 = .ok (.bipush (-2), 2) := by decide +kernel
theorem dc_LB_near_37 : decode prog_1_method_12_code 37 = .ok (.ireturn, 1) := by decide +kernel
theorem dc_LB_near_38 : decode prog_1_method_12_code 38 = .ok (.aload_n 0, 1) := by decide +kernel
theorem dc_LB_near_39 : decode prog_1_method_12_code 39 = .ok (.iload_n 1, 1) := by decide +kernel
theorem dc_LB_near_40 : decode prog_1_method_12_code 40 = .ok (.iload_n 2, 1) := by decide +kernel
theorem dc_LB_near_41 : decode prog_1_method_12_code 41 = .ok (.iload_n 3, 1) := by decide +kernel
theorem dc_LB_near_42 : decode prog_1_method_12_code 42 = .ok (.invokevirtual 143, 3) := by decide +kernel
theorem dc_LB_near_45 : decode prog_1_method_12_code 45 = .ok (.ifCond .ne 6, 3) := by decide +kernel
theorem dc_LB_near_48 : decode prog_1_method_12_code 48 = .ok (.bipush (-3), 2) := by decide +kernel
theorem dc_LB_near_50 : decode prog_1_method_12_code 50 = .ok (.ireturn, 1) := by decide +kernel
theorem dc_LB_near_51 : decode prog_1_method_12_code 51 = .ok (.aload_n 0, 1) := by decide +kernel
theorem dc_LB_near_52 : decode prog_1_method_12_code 52 = .ok (.getfield 34, 3) := by decide +kernel
theorem dc_LB_near_55 : decode prog_1_method_12_code 55 = .ok (.aload_n 0, 1) := by decide +kernel
theorem dc_LB_near_56 : decode prog_1_method_12_code 56 = .ok (.getfield 19, 3) := by decide +kernel
theorem dc_LB_near_59 : decode prog_1_method_12_code 59 = .ok (.iload_n 1, 1) := by decide +kernel
theorem dc_LB_near_60 : decode prog_1_method_12_code 60 = .ok (.aaload, 1) := by decide +kernel
theorem dc_LB_near_61 : decode prog_1_method_12_code 61 = .ok (.iload_n 2, 1) := by decide +kernel
theorem dc_LB_near_62 : decode prog_1_method_12_code 62 = .ok (.iload_n 3, 1) := by decide +kernel
theorem dc_LB_near_63 : decode prog_1_method_12_code 63 = .ok (.aload_n 0, 1) := by decide +kernel
theorem dc_LB_near_64 : decode prog_1_method_12_code 64 = .ok (.getfield 27, 3) := by decide +kernel
theorem dc_LB_near_67 : decode prog_1_method_12_code 67 = .ok (.iload_n 1, 1) := by decide +kernel
theorem dc_LB_near_68 : decode prog_1_method_12_code 68 = .ok (.iaload, 1) := by decide +kernel
theorem dc_LB_near_69 : decode prog_1_method_12_code 69 = .ok (.iload 4, 2) := by decide +kernel
theorem dc_LB_near_71 : decode prog_1_method_12_code 71 = .ok (.invokevirtual 160, 3) := by decide +kernel
theorem dc_LB_near_74 : decode prog_1_method_12_code 74 = .ok (.ireturn, 1) := by decide +kernel
theorem w_LB_near_0 {G : GC} {d : Nat} {P : PT} {I : MI} {J : MJ} {x1 : Int32} {x2 : Int32} {x3 : Int32} {x4 : Int32} (k1 : ((f_LB_isRow x1) = 0) → Go G (fr G m_LB_near (d + 6) P) 35 [none, none, none, none, none] [] I J) (k2 : (¬ ((f_LB_isRow x1) = 0)) → ((f_LB_isKind x2) = 0) → Go G (fr G m_LB_near (d + 6) P) 35 [none, none, none, none, none] [] I J) (k3 : (¬ ((f_LB_isRow x1) = 0)) → (¬ ((f_LB_isKind x2) = 0)) → ((f_LB_isWithin x3 2 3) = 0) → Go G (fr G m_LB_near (d + 6) P) 35 [none, none, none, none, none] [] I J) (k4 : (¬ ((f_LB_isRow x1) = 0)) → (¬ ((f_LB_isKind x2) = 0)) → (¬ ((f_LB_isWithin x3 2 3) = 0)) → (¬ (f_LB_isWithin x4 0 1000) = 0) → Ct G (d + 5) m_LB_cutRow [.ref 0, .int x1, .int x2, .int x3] (fun r I' J' => Go G (fr G m_LB_near (d + 6) P) 45 [some (.ref 0), some (.int x1), some (.int x2), some (.int x3), some (.int x4)] (r.toList ++ []) I' J') I J) (k5 : (¬ ((f_LB_isRow x1) = 0)) → (¬ ((f_LB_isKind x2) = 0)) → (¬ ((f_LB_isWithin x3 2 3) = 0)) → ((f_LB_isWithin x4 0 1000) = 0) → Go G (fr G m_LB_near (d + 6) P) 35 [none, none, none, none, none] [] I J) : Go G (fr G m_LB_near (d + 6) P) 0 [some (.ref 0), some (.int x1), some (.int x2), some (.int x3), some (.int x4)] [] I J := by
  refine g_iload_n dc_LB_near_0 rfl rfl rfl ?_
  refine g_callS (M := m_LB_isRow) (As := [.int x1]) (rest := []) ok_LB_isRow st_LB_isRow ml_LB_69 rfl rfl (Nat.le_of_ble_eq_true rfl) dc_LB_near_1 rfl rOk_fr (c_LB_isRow ?_)
  show Go G (fr G m_LB_near (d + 6) P) 4 [some (.ref 0), some (.int x1), some (.int x2), some (.int x3), some (.int x4)] [.int (f_LB_isRow x1)] I J
  refine g_if_eq (tgt := 35) dc_LB_near_4 rfl (by decide) (fun c1 => ?_) (fun c1 => ?_)
  · refine g_weak [none, none, none, none, none] trivial ?_
    exact (k1 c1)
  · refine g_iload_n dc_LB_near_7 rfl rfl rfl ?_
    refine g_callS (M := m_LB_isKind) (As := [.int x2]) (rest := []) ok_LB_isKind st_LB_isKind ml_LB_116 rfl rfl (Nat.le_of_ble_eq_true rfl) dc_LB_near_8 rfl rOk_fr (c_LB_isKind ?_)
    show Go G (fr G m_LB_near (d + 6) P) 11 [some (.ref 0), some (.int x1), some (.int x2), some (.int x3), some (.int x4)] [.int (f_LB_isKind x2)] I J
    refine g_if_eq (tgt := 35) dc_LB_near_11 rfl (by decide) (fun c2 => ?_) (fun c2 => ?_)
    · refine g_weak [none, none, none, none, none] trivial ?_
      exact (k2 c1 c2)
    · refine g_iload_n dc_LB_near_14 rfl rfl rfl ?_
      refine g_iconst (v := 2) dc_LB_near_15 rfl (by decide) ?_
      refine g_iconst (v := 3) dc_LB_near_16 rfl (by decide) ?_
      refine g_callS (M := m_LB_isWithin) (As := [.int x3, .int 2, .int 3]) (rest := []) ok_LB_isWithin st_LB_isWithin ml_LB_108 rfl rfl (Nat.le_of_ble_eq_true rfl) dc_LB_near_17 rfl rOk_fr (c_LB_isWithin ?_)
      show Go G (fr G m_LB_near (d + 6) P) 20 [some (.ref 0), some (.int x1), some (.int x2), some (.int x3), some (.int x4)] [.int (f_LB_isWithin x3 2 3)] I J
      refine g_if_eq (tgt := 35) dc_LB_near_20 rfl (by decide) (fun c3 => ?_) (fun c3 => ?_)
      · refine g_weak [none, none, none, none, none] trivial ?_
        exact (k3 c1 c2 c3)
      · refine g_iload dc_LB_near_23 rfl rfl ?_
        refine g_iconst (v := 0) dc_LB_near_25 rfl (by decide) ?_
        refine g_sipush (v := 1000) dc_LB_near_26 rfl (by decide) ?_
        refine g_callS (M := m_LB_isWithin) (As := [.int x4, .int 0, .int 1000]) (rest := []) ok_LB_isWithin st_LB_isWithin ml_LB_108 rfl rfl (Nat.le_of_ble_eq_true rfl) dc_LB_near_29 rfl rOk_fr (c_LB_isWithin ?_)
        show Go G (fr G m_LB_near (d + 6) P) 32 [some (.ref 0), some (.int x1), some (.int x2), some (.int x3), some (.int x4)] [.int (f_LB_isWithin x4 0 1000)] I J
        refine g_if_ne (tgt := 38) dc_LB_near_32 rfl (by decide) (fun c4 => ?_) (fun c4 => ?_)
        · refine g_aload_n dc_LB_near_38 rfl rfl rfl ?_
          refine g_iload_n dc_LB_near_39 rfl rfl rfl ?_
          refine g_iload_n dc_LB_near_40 rfl rfl rfl ?_
          refine g_iload_n dc_LB_near_41 rfl rfl rfl ?_
          exact g_callV (T := T_LB) (N := 11) (As := [.int x1, .int x2, .int x3]) (rest := []) ok_LB_cutRow in_LB_cutRow se_LB_cutRow ml_LB_143 sh_0 (by decide) rfl rfl rfl (Nat.le_of_ble_eq_true rfl) dc_LB_near_42 rfl rOk_fr (k4 c1 c2 c3 c4)
        · refine g_weak [none, none, none, none, none] trivial ?_
          exact (k5 c1 c2 c3 c4)
theorem w_LB_near_35 {G : GC} {d : Nat} {P : PT} {I : MI} {J : MJ}  (q1 : P (some (.int (-2))) I J) : Go G (fr G m_LB_near (d + 6) P) 35 [none, none, none, none, none] [] I J := by
  refine g_bipush (v := (-2)) dc_LB_near_35 rfl (by decide) ?_
  exact g_iret rfl dc_LB_near_37 q1
theorem w_LB_near_45 {G : GC} {d : Nat} {P : PT} {I : MI} {J : MJ} {x1 : Int32} {x2 : Int32} {x3 : Int32} {x4 : Int32} {y0 : Int32} (b1 : (¬ y0 = 0) → vp_in x1 4) (k2 : (¬ y0 = 0) → Ct G (d + 5) m_CU_countWithin [.ref 33, .ref (7 + 5 * x1.toNatClampNeg), .int x2, .int x3, .int (I 32 x1.toNatClampNeg), .int x4] (fun r I' J' => Go G (fr G m_LB_near (d + 6) P) 74 [none, none, none, none, none] (r.toList ++ []) I' J') I J) (q3 : (y0 = 0) → P (some (.int (-3))) I J) : Go G (fr G m_LB_near (d + 6) P) 45 [some (.ref 0), some (.int x1), some (.int x2), some (.int x3), some (.int x4)] [.int y0] I J := by
  refine g_if_ne (tgt := 51) dc_LB_near_45 rfl (by decide) (fun c1 => ?_) (fun c1 => ?_)
  · refine g_aload_n dc_LB_near_51 rfl rfl rfl ?_
    refine g_get (C := "LevelBreaks") (T := T_LB) (N := 11) (k := 4) (v := .ref 33) sh_0 (by decide) rfl rfl i_LB (by decide) fl_LB_34 (Or.inl rfl) rfl dc_LB_near_52 rfl ?_
    refine g_aload_n dc_LB_near_55 rfl rfl rfl ?_
    refine g_get (C := "LevelBreaks") (T := T_LB) (N := 11) (k := 1) (v := .ref 6) sh_0 (by decide) rfl rfl i_LB (by decide) fl_LB_19 (Or.inl rfl) rfl dc_LB_near_56 rfl ?_
    refine g_iload_n dc_LB_near_59 rfl rfl rfl ?_
    refine g_aald (r := (7 + 5 * x1.toNatClampNeg)) sh_6 (by decide) rfl (b1 c1) (now_at (vin_lt (b1 c1))) dc_LB_near_60 rfl ?_
    refine g_iload_n dc_LB_near_61 rfl rfl rfl ?_
    refine g_iload_n dc_LB_near_62 rfl rfl rfl ?_
    refine g_aload_n dc_LB_near_63 rfl rfl rfl ?_
    refine g_get (C := "LevelBreaks") (T := T_LB) (N := 11) (k := 3) (v := .ref 32) sh_0 (by decide) rfl rfl i_LB (by decide) fl_LB_27 (Or.inl rfl) rfl dc_LB_near_64 rfl ?_
    refine g_iload_n dc_LB_near_67 rfl rfl rfl ?_
    refine g_ialdv (v := (I 32 x1.toNatClampNeg)) sh_32 (b1 c1) rfl dc_LB_near_68 rfl ?_
    refine g_iload dc_LB_near_69 rfl rfl ?_
    refine g_weak [none, none, none, none, none] trivial ?_
    exact g_callV (T := T_CU) (N := 13) (As := [.ref (7 + 5 * x1.toNatClampNeg), .int x2, .int x3, .int (I 32 x1.toNatClampNeg), .int x4]) (rest := []) ok_CU_countWithin in_CU_countWithin se_CU_countWithin ml_LB_160 sh_33 (by decide) rfl rfl rfl (Nat.le_of_ble_eq_true rfl) dc_LB_near_71 rfl rOk_fr (k2 c1)
  · refine g_bipush (v := (-3)) dc_LB_near_48 rfl (by decide) ?_
    exact g_iret rfl dc_LB_near_50 (q3 c1)
theorem w_LB_near_74 {G : GC} {d : Nat} {P : PT} {I : MI} {J : MJ} {y0 : Int32} (q1 : P (some (.int y0)) I J) : Go G (fr G m_LB_near (d + 6) P) 74 [none, none, none, none, none] [.int y0] I J := by
  exact g_iret rfl dc_LB_near_74 q1
theorem dc_LB_priced_0 : decode prog_1_method_11_code 0 = .ok (.iload_n 1, 1) := by decide +kernel
theorem dc_LB_priced_1 : decode prog_1_method_11_code 1 = .ok (.invokestatic 69, 3) := by decide +kernel
theorem dc_LB_priced_4 : decode prog_1_method_11_code 4 = .ok (.ifCond .eq 20, 3) := by decide +kernel
theorem dc_LB_priced_7 : decode prog_1_method_11_code 7 = .ok (.iload_n 2, 1) := by decide +kernel
theorem dc_LB_priced_8 : decode prog_1_method_11_code 8 = .ok (.invokestatic 116, 3) := by decide +kernel
theorem dc_LB_priced_11 : decode prog_1_method_11_code 11 = .ok (.ifCond .eq 13, 3) := by decide +kernel
theorem dc_LB_priced_14 : decode prog_1_method_11_code 14 = .ok (.iload_n 3, 1) := by decide +kernel
theorem dc_LB_priced_15 : decode prog_1_method_11_code 15 = .ok (.iconst 0, 1) := by decide +kernel
theorem dc_LB_priced_16 : decode prog_1_method_11_code 16 = .ok (.ldc 156, 2) := by decide +kernel
theorem dc_LB_priced_18 : decode prog_1_method_11_code 18 = .ok (.invokestatic 108, 3) := by decide +kernel
theorem dc_LB_priced_21 : decode prog_1_method_11_code 21 = .ok (.ifCond .ne 6, 3) := by decide +kernel
theorem dc_LB_priced_24 : decode prog_1_method_11_code 24 = .ok (.bipush (-2), 2) := by decide +kernel
theorem dc_LB_priced_26 : decode prog_1_method_11_code 26 = .ok (.ireturn, 1) := by decide +kernel
theorem dc_LB_priced_27 : decode prog_1_method_11_code 27 = .ok (.aload_n 0, 1) := by decide +kernel
theorem dc_LB_priced_28 : decode prog_1_method_11_code 28 = .ok (.iload_n 1, 1) := by decide +kernel
theorem dc_LB_priced_29 : decode prog_1_method_11_code 29 = .ok (.iload_n 2, 1) := by decide +kernel
theorem dc_LB_priced_30 : decode prog_1_method_11_code 30 = .ok (.bipush 6, 2) := by decide +kernel
theorem dc_LB_priced_32 : decode prog_1_method_11_code 32 = .ok (.invokevirtual 143, 3) := by decide +kernel
theorem dc_LB_priced_35 : decode prog_1_method_11_code 35 = .ok (.pop, 1) := by decide +kernel
theorem dc_LB_priced_36 : decode prog_1_method_11_code 36 = .ok (.aload_n 0, 1) := by decide +kernel
theorem dc_LB_priced_37 : decode prog_1_method_11_code 37 = .ok (.getfield 34, 3) := by decide +kernel
theorem dc_LB_priced_40 : decode prog_1_method_11_code 40 = .ok (.iload_n 3, 1) := by decide +kernel
theorem dc_LB_priced_41 : decode prog_1_method_11_code 41 = .ok (.invokevirtual 157, 3) := by decide +kernel
theorem dc_LB_priced_44 : decode prog_1_method_11_code 44 = .ok (.ireturn, 1) := by decide +kernel
theorem w_LB_priced_0 {G : GC} {d : Nat} {P : PT} {I : MI} {J : MJ} {x1 : Int32} {x2 : Int32} {x3 : Int32} (k1 : ((f_LB_isRow x1) = 0) → Go G (fr G m_LB_priced (d + 6) P) 24 [none, none, none, none] [] I J) (k2 : (¬ ((f_LB_isRow x1) = 0)) → ((f_LB_isKind x2) = 0) → Go G (fr G m_LB_priced (d + 6) P) 24 [none, none, none, none] [] I J) (k3 : (¬ ((f_LB_isRow x1) = 0)) → (¬ ((f_LB_isKind x2) = 0)) → (¬ (f_LB_isWithin x3 0 1000000) = 0) → Ct G (d + 5) m_LB_cutRow [.ref 0, .int x1, .int x2, .int 6] (fun r I' J' => Go G (fr G m_LB_priced (d + 6) P) 35 [some (.ref 0), none, none, some (.int x3)] (r.toList ++ []) I' J') I J) (k4 : (¬ ((f_LB_isRow x1) = 0)) → (¬ ((f_LB_isKind x2) = 0)) → ((f_LB_isWithin x3 0 1000000) = 0) → Go G (fr G m_LB_priced (d + 6) P) 24 [none, none, none, none] [] I J) : Go G (fr G m_LB_priced (d + 6) P) 0 [some (.ref 0), some (.int x1), some (.int x2), some (.int x3)] [] I J := by
  refine g_iload_n dc_LB_priced_0 rfl rfl rfl ?_
  refine g_callS (M := m_LB_isRow) (As := [.int x1]) (rest := []) ok_LB_isRow st_LB_isRow ml_LB_69 rfl rfl (Nat.le_of_ble_eq_true rfl) dc_LB_priced_1 rfl rOk_fr (c_LB_isRow ?_)
  show Go G (fr G m_LB_priced (d + 6) P) 4 [some (.ref 0), some (.int x1), some (.int x2), some (.int x3)] [.int (f_LB_isRow x1)] I J
  refine g_if_eq (tgt := 24) dc_LB_priced_4 rfl (by decide) (fun c1 => ?_) (fun c1 => ?_)
  · refine g_weak [none, none, none, none] trivial ?_
    exact (k1 c1)
  · refine g_iload_n dc_LB_priced_7 rfl rfl rfl ?_
    refine g_callS (M := m_LB_isKind) (As := [.int x2]) (rest := []) ok_LB_isKind st_LB_isKind ml_LB_116 rfl rfl (Nat.le_of_ble_eq_true rfl) dc_LB_priced_8 rfl rOk_fr (c_LB_isKind ?_)
    show Go G (fr G m_LB_priced (d + 6) P) 11 [some (.ref 0), some (.int x1), some (.int x2), some (.int x3)] [.int (f_LB_isKind x2)] I J
    refine g_if_eq (tgt := 24) dc_LB_priced_11 rfl (by decide) (fun c2 => ?_) (fun c2 => ?_)
    · refine g_weak [none, none, none, none] trivial ?_
      exact (k2 c1 c2)
    · refine g_iload_n dc_LB_priced_14 rfl rfl rfl ?_
      refine g_iconst (v := 0) dc_LB_priced_15 rfl (by decide) ?_
      refine g_ldc (v := 1000000) kl_LB_156 dc_LB_priced_16 rfl ?_
      refine g_callS (M := m_LB_isWithin) (As := [.int x3, .int 0, .int 1000000]) (rest := []) ok_LB_isWithin st_LB_isWithin ml_LB_108 rfl rfl (Nat.le_of_ble_eq_true rfl) dc_LB_priced_18 rfl rOk_fr (c_LB_isWithin ?_)
      show Go G (fr G m_LB_priced (d + 6) P) 21 [some (.ref 0), some (.int x1), some (.int x2), some (.int x3)] [.int (f_LB_isWithin x3 0 1000000)] I J
      refine g_if_ne (tgt := 27) dc_LB_priced_21 rfl (by decide) (fun c3 => ?_) (fun c3 => ?_)
      · refine g_aload_n dc_LB_priced_27 rfl rfl rfl ?_
        refine g_iload_n dc_LB_priced_28 rfl rfl rfl ?_
        refine g_iload_n dc_LB_priced_29 rfl rfl rfl ?_
        refine g_bipush (v := 6) dc_LB_priced_30 rfl (by decide) ?_
        refine g_weak [some (.ref 0), none, none, some (.int x3)] ⟨rfl, ⟨rfl, trivial⟩⟩ ?_
        exact g_callV (T := T_LB) (N := 11) (As := [.int x1, .int x2, .int 6]) (rest := []) ok_LB_cutRow in_LB_cutRow se_LB_cutRow ml_LB_143 sh_0 (by decide) rfl rfl rfl (Nat.le_of_ble_eq_true rfl) dc_LB_priced_32 rfl rOk_fr (k3 c1 c2 c3)
      · refine g_weak [none, none, none, none] trivial ?_
        exact (k4 c1 c2 c3)
theorem w_LB_priced_24 {G : GC} {d : Nat} {P : PT} {I : MI} {J : MJ}  (q1 : P (some (.int (-2))) I J) : Go G (fr G m_LB_priced (d + 6) P) 24 [none, none, none, none] [] I J := by
  refine g_bipush (v := (-2)) dc_LB_priced_24 rfl (by decide) ?_
  exact g_iret rfl dc_LB_priced_26 q1
theorem w_LB_priced_35 {G : GC} {d : Nat} {P : PT} {I : MI} {J : MJ} {x3 : Int32} {y0 : Int32} (k1 : Ct G (d + 5) m_CU_stretchesWorth [.ref 33, .int x3] (fun r I' J' => Go G (fr G m_LB_priced (d + 6) P) 44 [none, none, none, none] (r.toList ++ []) I' J') I J) : Go G (fr G m_LB_priced (d + 6) P) 35 [some (.ref 0), none, none, some (.int x3)] [.int y0] I J := by
  refine g_pop dc_LB_priced_35 rfl rfl ?_
  refine g_aload_n dc_LB_priced_36 rfl rfl rfl ?_
  refine g_get (C := "LevelBreaks") (T := T_LB) (N := 11) (k := 4) (v := .ref 33) sh_0 (by decide) rfl rfl i_LB (by decide) fl_LB_34 (Or.inl rfl) rfl dc_LB_priced_37 rfl ?_
  refine g_iload_n dc_LB_priced_40 rfl rfl rfl ?_
  refine g_weak [none, none, none, none] trivial ?_
  exact g_callV (T := T_CU) (N := 13) (As := [.int x3]) (rest := []) ok_CU_stretchesWorth in_CU_stretchesWorth se_CU_stretchesWorth ml_LB_157 sh_33 (by decide) rfl rfl rfl (Nat.le_of_ble_eq_true rfl) dc_LB_priced_41 rfl rOk_fr k1
theorem w_LB_priced_44 {G : GC} {d : Nat} {P : PT} {I : MI} {J : MJ} {y0 : Int32} (q1 : P (some (.int y0)) I J) : Go G (fr G m_LB_priced (d + 6) P) 44 [none, none, none, none] [.int y0] I J := by
  exact g_iret rfl dc_LB_priced_44 q1
theorem dc_LB_put_0 : decode prog_1_method_28_code 0 = .ok (.iload_n 1, 1) := by decide +kernel
theorem dc_LB_put_1 : decode prog_1_method_28_code 1 = .ok (.invokestatic 93, 3) := by decide +kernel
theorem dc_LB_put_4 : decode prog_1_method_28_code 4 = .ok (.ifCond .eq 10, 3) := by decide +kernel
theorem dc_LB_put_7 : decode prog_1_method_28_code 7 = .ok (.iload_n 2, 1) := by decide +kernel
theorem dc_LB_put_8 : decode prog_1_method_28_code 8 = .ok (.invokestatic 265, 3) := by decide +kernel
theorem dc_LB_put_11 : decode prog_1_method_28_code 11 = .ok (.ifCond .ne 6, 3) := by decide +kernel
theorem dc_LB_put_14 : decode prog_1_method_28_code 14 = .ok (.bipush (-2), 2) := by decide +kernel
theorem dc_LB_put_16 : decode prog_1_method_28_code 16 = .ok (.ireturn, 1) := by decide +kernel
theorem dc_LB_put_17 : decode prog_1_method_28_code 17 = .ok (.aload_n 0, 1) := by decide +kernel
theorem dc_LB_put_18 : decode prog_1_method_28_code 18 = .ok (.getfield 58, 3) := by decide +kernel
theorem dc_LB_put_21 : decode prog_1_method_28_code 21 = .ok (.iload_n 1, 1) := by decide +kernel
theorem dc_LB_put_22 : decode prog_1_method_28_code 22 = .ok (.aaload, 1) := by decide +kernel
theorem dc_LB_put_23 : decode prog_1_method_28_code 23 = .ok (.iload_n 2, 1) := by decide +kernel
theorem dc_LB_put_24 : decode prog_1_method_28_code 24 = .ok (.iload_n 3, 1) := by decide +kernel
theorem dc_LB_put_25 : decode prog_1_method_28_code 25 = .ok (.invokevirtual 272, 3) := by decide +kernel
theorem dc_LB_put_28 : decode prog_1_method_28_code 28 = .ok (.istore 5, 2) := by decide +kernel
theorem dc_LB_put_30 : decode prog_1_method_28_code 30 = .ok (.iload 5, 2) := by decide +kernel
theorem dc_LB_put_32 : decode prog_1_method_28_code 32 = .ok (.ifCond .eq 10, 3) := by decide +kernel
theorem dc_LB_put_35 : decode prog_1_method_28_code 35 = .ok (.aload_n 0, 1) := by decide +kernel
theorem dc_LB_put_36 : decode prog_1_method_28_code 36 = .ok (.iload 5, 2) := by decide +kernel
theorem dc_LB_put_38 : decode prog_1_method_28_code 38 = .ok (.invokevirtual 100, 3) := by decide +kernel
theorem dc_LB_put_41 : decode prog_1_method_28_code 41 = .ok (.ireturn, 1) := by decide +kernel
theorem dc_LB_put_42 : decode prog_1_method_28_code 42 = .ok (.aload_n 0, 1) := by decide +kernel
theorem dc_LB_put_43 : decode prog_1_method_28_code 43 = .ok (.getfield 58, 3) := by decide +kernel
theorem dc_LB_put_46 : decode prog_1_method_28_code 46 = .ok (.iload_n 1, 1) := by decide +kernel
theorem dc_LB_put_47 : decode prog_1_method_28_code 47 = .ok (.aaload, 1) := by decide +kernel
theorem dc_LB_put_48 : decode prog_1_method_28_code 48 = .ok (.iload_n 3, 1) := by decide +kernel
theorem dc_LB_put_49 : decode prog_1_method_28_code 49 = .ok (.iload 4, 2) := by decide +kernel
theorem dc_LB_put_51 : decode prog_1_method_28_code 51 = .ok (.invokevirtual 275, 3) := by decide +kernel
theorem dc_LB_put_54 : decode prog_1_method_28_code 54 = .ok (.iconst 1, 1) := by decide +kernel
theorem dc_LB_put_55 : decode prog_1_method_28_code 55 = .ok (.ireturn, 1) := by decide +kernel
theorem w_LB_put_0 {G : GC} {d : Nat} {P : PT} {I : MI} {J : MJ} {x1 : Int32} {x2 : Int32} {x3 : Int32} {x4 : Int32} (k1 : ((f_LB_isSheet x1) = 0) → Go G (fr G m_LB_put (d + 2) P) 14 [none, none, none, none, none, none] [] I J) (b2 : (¬ ((f_LB_isSheet x1) = 0)) → (¬ (f_LB_isType x2) = 0) → vp_in x1 4) (k3 : (¬ ((f_LB_isSheet x1) = 0)) → (¬ (f_LB_isType x2) = 0) → Ct G (d + 1) m_SH_findingAt [.ref (59 + 2 * x1.toNatClampNeg), .int x2, .int x3] (fun r I' J' => Go G (fr G m_LB_put (d + 2) P) 28 [some (.ref 0), some (.int x1), none, some (.int x3), some (.int x4), none] (r.toList ++ []) I' J') I J) (k4 : (¬ ((f_LB_isSheet x1) = 0)) → ((f_LB_isType x2) = 0) → Go G (fr G m_LB_put (d + 2) P) 14 [none, none, none, none, none, none] [] I J) : Go G (fr G m_LB_put (d + 2) P) 0 [some (.ref 0), some (.int x1), some (.int x2), some (.int x3), some (.int x4), none] [] I J := by
  refine g_iload_n dc_LB_put_0 rfl rfl rfl ?_
  refine g_callS (M := m_LB_isSheet) (As := [.int x1]) (rest := []) ok_LB_isSheet st_LB_isSheet ml_LB_93 rfl rfl (Nat.le_of_ble_eq_true rfl) dc_LB_put_1 rfl rOk_fr (c_LB_isSheet ?_)
  show Go G (fr G m_LB_put (d + 2) P) 4 [some (.ref 0), some (.int x1), some (.int x2), some (.int x3), some (.int x4), none] [.int (f_LB_isSheet x1)] I J
  refine g_if_eq (tgt := 14) dc_LB_put_4 rfl (by decide) (fun c1 => ?_) (fun c1 => ?_)
  · refine g_weak [none, none, none, none, none, none] trivial ?_
    exact (k1 c1)
  · refine g_iload_n dc_LB_put_7 rfl rfl rfl ?_
    refine g_callS (M := m_LB_isType) (As := [.int x2]) (rest := []) ok_LB_isType st_LB_isType ml_LB_265 rfl rfl (Nat.le_of_ble_eq_true rfl) dc_LB_put_8 rfl rOk_fr (c_LB_isType ?_)
    show Go G (fr G m_LB_put (d + 2) P) 11 [some (.ref 0), some (.int x1), some (.int x2), some (.int x3), some (.int x4), none] [.int (f_LB_isType x2)] I J
    refine g_if_ne (tgt := 17) dc_LB_put_11 rfl (by decide) (fun c2 => ?_) (fun c2 => ?_)
    · refine g_aload_n dc_LB_put_17 rfl rfl rfl ?_
      refine g_get (C := "LevelBreaks") (T := T_LB) (N := 11) (k := 8) (v := .ref 58) sh_0 (by decide) rfl rfl i_LB (by decide) fl_LB_58 (Or.inl rfl) rfl dc_LB_put_18 rfl ?_
      refine g_iload_n dc_LB_put_21 rfl rfl rfl ?_
      refine g_aald (r := (59 + 2 * x1.toNatClampNeg)) sh_58 (by decide) rfl (b2 c1 c2) (she_at (vin_lt (b2 c1 c2))) dc_LB_put_22 rfl ?_
      refine g_iload_n dc_LB_put_23 rfl rfl rfl ?_
      refine g_iload_n dc_LB_put_24 rfl rfl rfl ?_
      refine g_weak [some (.ref 0), some (.int x1), none, some (.int x3), some (.int x4), none] ⟨rfl, ⟨rfl, ⟨rfl, ⟨rfl, trivial⟩⟩⟩⟩ ?_
      exact g_callV (T := T_SH) (N := 3) (As := [.int x2, .int x3]) (rest := []) ok_SH_findingAt in_SH_findingAt se_SH_findingAt ml_LB_272 (sht_in (b2 c1 c2)).1 (by decide) rfl rfl rfl (Nat.le_of_ble_eq_true rfl) dc_LB_put_25 rfl rOk_fr (k3 c1 c2)
    · refine g_weak [none, none, none, none, none, none] trivial ?_
      exact (k4 c1 c2)
theorem w_LB_put_14 {G : GC} {d : Nat} {P : PT} {I : MI} {J : MJ}  (q1 : P (some (.int (-2))) I J) : Go G (fr G m_LB_put (d + 2) P) 14 [none, none, none, none, none, none] [] I J := by
  refine g_bipush (v := (-2)) dc_LB_put_14 rfl (by decide) ?_
  exact g_iret rfl dc_LB_put_16 q1
theorem w_LB_put_28 {G : GC} {d : Nat} {P : PT} {I : MI} {J : MJ} {x1 : Int32} {x3 : Int32} {x4 : Int32} {y0 : Int32} (b1 : (y0 = 0) → vp_in x1 4) (k2 : (y0 = 0) → Ct G (d + 1) m_SH_store [.ref (59 + 2 * x1.toNatClampNeg), .int x3, .int x4] (fun r I' J' => Go G (fr G m_LB_put (d + 2) P) 54 [none, none, none, none, none, none] (r.toList ++ []) I' J') I J) (k3 : (¬ (y0 = 0)) → Ct G (d + 1) m_LB_found [.ref 0, .int y0] (fun r I' J' => Go G (fr G m_LB_put (d + 2) P) 41 [none, none, none, none, none, none] (r.toList ++ []) I' J') I J) : Go G (fr G m_LB_put (d + 2) P) 28 [some (.ref 0), some (.int x1), none, some (.int x3), some (.int x4), none] [.int y0] I J := by
  refine g_istore (L' := [some (.ref 0), some (.int x1), none, some (.int x3), some (.int x4), some (.int y0)]) dc_LB_put_28 rfl (Nat.le_of_ble_eq_true rfl) rfl ?_
  refine g_iload dc_LB_put_30 rfl rfl ?_
  refine g_if_eq (tgt := 42) dc_LB_put_32 rfl (by decide) (fun c1 => ?_) (fun c1 => ?_)
  · refine g_aload_n dc_LB_put_42 rfl rfl rfl ?_
    refine g_get (C := "LevelBreaks") (T := T_LB) (N := 11) (k := 8) (v := .ref 58) sh_0 (by decide) rfl rfl i_LB (by decide) fl_LB_58 (Or.inl rfl) rfl dc_LB_put_43 rfl ?_
    refine g_iload_n dc_LB_put_46 rfl rfl rfl ?_
    refine g_aald (r := (59 + 2 * x1.toNatClampNeg)) sh_58 (by decide) rfl (b1 c1) (she_at (vin_lt (b1 c1))) dc_LB_put_47 rfl ?_
    refine g_iload_n dc_LB_put_48 rfl rfl rfl ?_
    refine g_iload dc_LB_put_49 rfl rfl ?_
    refine g_weak [none, none, none, none, none, none] trivial ?_
    exact g_callV (T := T_SH) (N := 3) (As := [.int x3, .int x4]) (rest := []) ok_SH_store in_SH_store se_SH_store ml_LB_275 (sht_in (b1 c1)).1 (by decide) rfl rfl rfl (Nat.le_of_ble_eq_true rfl) dc_LB_put_51 rfl rOk_fr (k2 c1)
  · refine g_aload_n dc_LB_put_35 rfl rfl rfl ?_
    refine g_iload dc_LB_put_36 rfl rfl ?_
    refine g_weak [none, none, none, none, none, none] trivial ?_
    exact g_callV (T := T_LB) (N := 11) (As := [.int y0]) (rest := []) ok_LB_found in_LB_found se_LB_found ml_LB_100 sh_0 (by decide) rfl rfl rfl (Nat.le_of_ble_eq_true rfl) dc_LB_put_38 rfl rOk_fr (k3 c1)
theorem w_LB_put_41 {G : GC} {d : Nat} {P : PT} {I : MI} {J : MJ} {y0 : Int32} (q1 : P (some (.int y0)) I J) : Go G (fr G m_LB_put (d + 2) P) 41 [none, none, none, none, none, none] [.int y0] I J := by
  exact g_iret rfl dc_LB_put_41 q1
theorem w_LB_put_54 {G : GC} {d : Nat} {P : PT} {I : MI} {J : MJ}  (q1 : P (some (.int 1)) I J) : Go G (fr G m_LB_put (d + 2) P) 54 [none, none, none, none, none, none] [] I J := by
  refine g_iconst (v := 1) dc_LB_put_54 rfl (by decide) ?_
  exact g_iret rfl dc_LB_put_55 q1
theorem dc_LB_read_0 : decode prog_1_method_3_code 0 = .ok (.iload_n 1, 1) := by decide +kernel
theorem dc_LB_read_1 : decode prog_1_method_3_code 1 = .ok (.invokestatic 93, 3) := by decide +kernel
theorem dc_LB_read_4 : decode prog_1_method_3_code 4 = .ok (.ifCond .eq 26, 3) := by decide +kernel
theorem dc_LB_read_7 : decode prog_1_method_3_code 7 = .ok (.iload_n 2, 1) := by decide +kernel
theorem dc_LB_read_8 : decode prog_1_method_3_code 8 = .ok (.invokestatic 69, 3) := by decide +kernel
theorem dc_LB_read_11 : decode prog_1_method_3_code 11 = .ok (.ifCond .eq 19, 3) := by decide +kernel
theorem dc_LB_read_14 : decode prog_1_method_3_code 14 = .ok (.iload_n 3, 1) := by decide +kernel
theorem dc_LB_read_15 : decode prog_1_method_3_code 15 = .ok (.invokestatic 73, 3) := by decide +kernel
theorem dc_LB_read_18 : decode prog_1_method_3_code 18 = .ok (.ifCond .eq 12, 3) := by decide +kernel
theorem dc_LB_read_21 : decode prog_1_method_3_code 21 = .ok (.aload_n 0, 1) := by decide +kernel
theorem dc_LB_read_22 : decode prog_1_method_3_code 22 = .ok (.iload 4, 2) := by decide +kernel
theorem dc_LB_read_24 : decode prog_1_method_3_code 24 = .ok (.invokevirtual 79, 3) := by decide +kernel
theorem dc_LB_read_27 : decode prog_1_method_3_code 27 = .ok (.ifCond .ne 6, 3) := by decide +kernel
theorem dc_LB_read_30 : decode prog_1_method_3_code 30 = .ok (.bipush (-2), 2) := by decide +kernel
theorem dc_LB_read_32 : decode prog_1_method_3_code 32 = .ok (.ireturn, 1) := by decide +kernel
theorem dc_LB_read_33 : decode prog_1_method_3_code 33 = .ok (.aload_n 0, 1) := by decide +kernel
theorem dc_LB_read_34 : decode prog_1_method_3_code 34 = .ok (.getfield 58, 3) := by decide +kernel
theorem dc_LB_read_37 : decode prog_1_method_3_code 37 = .ok (.iload_n 1, 1) := by decide +kernel
theorem dc_LB_read_38 : decode prog_1_method_3_code 38 = .ok (.aaload, 1) := by decide +kernel
theorem dc_LB_read_39 : decode prog_1_method_3_code 39 = .ok (.astore 5, 2) := by decide +kernel
theorem dc_LB_read_41 : decode prog_1_method_3_code 41 = .ok (.aload 5, 2) := by decide +kernel
theorem dc_LB_read_43 : decode prog_1_method_3_code 43 = .ok (.invokevirtual 96, 3) := by decide +kernel
theorem dc_LB_read_46 : decode prog_1_method_3_code 46 = .ok (.ifCond .eq 9, 3) := by decide +kernel
theorem dc_LB_read_49 : decode prog_1_method_3_code 49 = .ok (.aload_n 0, 1) := by decide +kernel
theorem dc_LB_read_50 : decode prog_1_method_3_code 50 = .ok (.iconst 1, 1) := by decide +kernel
theorem dc_LB_read_51 : decode prog_1_method_3_code 51 = .ok (.invokevirtual 100, 3) := by decide +kernel
theorem dc_LB_read_54 : decode prog_1_method_3_code 54 = .ok (.ireturn, 1) := by decide +kernel
theorem dc_LB_read_55 : decode prog_1_method_3_code 55 = .ok (.iconst 0, 1) := by decide +kernel
theorem dc_LB_read_56 : decode prog_1_method_3_code 56 = .ok (.istore 6, 2) := by decide +kernel
theorem dc_LB_read_58 : decode prog_1_method_3_code 58 = .ok (.iload 6, 2) := by decide +kernel
theorem dc_LB_read_60 : decode prog_1_method_3_code 60 = .ok (.aload 5, 2) := by decide +kernel
theorem dc_LB_read_62 : decode prog_1_method_3_code 62 = .ok (.getfield 104, 3) := by decide +kernel
theorem dc_LB_read_65 : decode prog_1_method_3_code 65 = .ok (.if_icmp .ge 67, 3) := by decide +kernel
theorem dc_LB_read_68 : decode prog_1_method_3_code 68 = .ok (.iload_n 3, 1) := by decide +kernel
theorem dc_LB_read_69 : decode prog_1_method_3_code 69 = .ok (.iload 6, 2) := by decide +kernel
theorem dc_LB_read_71 : decode prog_1_method_3_code 71 = .ok (.iadd, 1) := by decide +kernel
theorem dc_LB_read_72 : decode prog_1_method_3_code 72 = .ok (.bipush 40, 2) := by decide +kernel
theorem dc_LB_read_74 : decode prog_1_method_3_code 74 = .ok (.if_icmp .ge 58, 3) := by decide +kernel
theorem dc_LB_read_77 : decode prog_1_method_3_code 77 = .ok (.aload 5, 2) := by decide +kernel
theorem dc_LB_read_79 : decode prog_1_method_3_code 79 = .ok (.getfield 105, 3) := by decide +kernel
theorem dc_LB_read_82 : decode prog_1_method_3_code 82 = .ok (.iload 6, 2) := by decide +kernel
theorem dc_LB_read_84 : decode prog_1_method_3_code 84 = .ok (.iaload, 1) := by decide +kernel
theorem dc_LB_read_85 : decode prog_1_method_3_code 85 = .ok (.invokestatic 76, 3) := by decide +kernel
theorem dc_LB_read_88 : decode prog_1_method_3_code 88 = .ok (.ifCond .eq 44, 3) := by decide +kernel
theorem dc_LB_read_91 : decode prog_1_method_3_code 91 = .ok (.aload_n 0, 1) := by decide +kernel
theorem dc_LB_read_92 : decode prog_1_method_3_code 92 = .ok (.getfield 10, 3) := by decide +kernel
theorem dc_LB_read_95 : decode prog_1_method_3_code 95 = .ok (.getfield 82, 3) := by decide +kernel
theorem dc_LB_read_98 : decode prog_1_method_3_code 98 = .ok (.sipush 200, 3) := by decide +kernel
theorem dc_LB_read_101 : decode prog_1_method_3_code 101 = .ok (.if_icmp .ge 31, 3) := by decide +kernel
theorem dc_LB_read_104 : decode prog_1_method_3_code 104 = .ok (.aload_n 0, 1) := by decide +kernel
theorem dc_LB_read_105 : decode prog_1_method_3_code 105 = .ok (.getfield 10, 3) := by decide +kernel
theorem dc_LB_read_108 : decode prog_1_method_3_code 108 = .ok (.iload_n 2, 1) := by decide +kernel
theorem dc_LB_read_109 : decode prog_1_method_3_code 109 = .ok (.iload_n 3, 1) := by decide +kernel
theorem dc_LB_read_110 : decode prog_1_method_3_code 110 = .ok (.iload 6, 2) := by decide +kernel
theorem dc_LB_read_112 : decode prog_1_method_3_code 112 = .ok (.iadd, 1) := by decide +kernel
theorem dc_LB_read_113 : decode prog_1_method_3_code 113 = .ok (.aload 5, 2) := by decide +kernel
theorem dc_LB_read_115 : decode prog_1_method_3_code 115 = .ok (.getfield 105, 3) := by decide +kernel
theorem dc_LB_read_118 : decode prog_1_method_3_code 118 = .ok (.iload 6, 2) := by decide +kernel
theorem dc_LB_read_120 : decode prog_1_method_3_code 120 = .ok (.iaload, 1) := by decide +kernel
theorem dc_LB_read_121 : decode prog_1_method_3_code 121 = .ok (.iload 4, 2) := by decide +kernel
theorem dc_LB_read_123 : decode prog_1_method_3_code 123 = .ok (.invokevirtual 85, 3) := by decide +kernel
theorem dc_LB_read_126 : decode prog_1_method_3_code 126 = .ok (.iinc 6 1, 3) := by decide +kernel
theorem dc_LB_read_129 : decode prog_1_method_3_code 129 = .ok (.goto (-71), 3) := by decide +kernel
theorem dc_LB_read_132 : decode prog_1_method_3_code 132 = .ok (.aload_n 0, 1) := by decide +kernel
theorem dc_LB_read_133 : decode prog_1_method_3_code 133 = .ok (.iload_n 2, 1) := by decide +kernel
theorem dc_LB_read_134 : decode prog_1_method_3_code 134 = .ok (.invokevirtual 89, 3) := by decide +kernel
theorem dc_LB_read_137 : decode prog_1_method_3_code 137 = .ok (.iload 6, 2) := by decide +kernel
theorem dc_LB_read_139 : decode prog_1_method_3_code 139 = .ok (.ireturn, 1) := by decide +kernel
theorem w_LB_read_0 {G : GC} {d : Nat} {P : PT} {I : MI} {J : MJ} {x1 : Int32} {x2 : Int32} {x3 : Int32} {x4 : Int32} (k1 : ((f_LB_isSheet x1) = 0) → Go G (fr G m_LB_read (d + 4) P) 30 [none, none, none, none, none, none, none] [] I J) (k2 : (¬ ((f_LB_isSheet x1) = 0)) → ((f_LB_isRow x2) = 0) → Go G (fr G m_LB_read (d + 4) P) 30 [none, none, none, none, none, none, none] [] I J) (k3 : (¬ ((f_LB_isSheet x1) = 0)) → (¬ ((f_LB_isRow x2) = 0)) → ((f_LB_isDay x3) = 0) → Go G (fr G m_LB_read (d + 4) P) 30 [none, none, none, none, none, none, none] [] I J) (k4 : (¬ ((f_LB_isSheet x1) = 0)) → (¬ ((f_LB_isRow x2) = 0)) → (¬ ((f_LB_isDay x3) = 0)) → Ct G (d + 3) m_LB_isNextTime [.ref 0, .int x4] (fun r I' J' => Go G (fr G m_LB_read (d + 4) P) 27 [some (.ref 0), some (.int x1), some (.int x2), some (.int x3), some (.int x4), none, none] (r.toList ++ []) I' J') I J) : Go G (fr G m_LB_read (d + 4) P) 0 [some (.ref 0), some (.int x1), some (.int x2), some (.int x3), some (.int x4), none, none] [] I J := by
  refine g_iload_n dc_LB_read_0 rfl rfl rfl ?_
  refine g_callS (M := m_LB_isSheet) (As := [.int x1]) (rest := []) ok_LB_isSheet st_LB_isSheet ml_LB_93 rfl rfl (Nat.le_of_ble_eq_true rfl) dc_LB_read_1 rfl rOk_fr (c_LB_isSheet ?_)
  show Go G (fr G m_LB_read (d + 4) P) 4 [some (.ref 0), some (.int x1), some (.int x2), some (.int x3), some (.int x4), none, none] [.int (f_LB_isSheet x1)] I J
  refine g_if_eq (tgt := 30) dc_LB_read_4 rfl (by decide) (fun c1 => ?_) (fun c1 => ?_)
  · refine g_weak [none, none, none, none, none, none, none] trivial ?_
    exact (k1 c1)
  · refine g_iload_n dc_LB_read_7 rfl rfl rfl ?_
    refine g_callS (M := m_LB_isRow) (As := [.int x2]) (rest := []) ok_LB_isRow st_LB_isRow ml_LB_69 rfl rfl (Nat.le_of_ble_eq_true rfl) dc_LB_read_8 rfl rOk_fr (c_LB_isRow ?_)
    show Go G (fr G m_LB_read (d + 4) P) 11 [some (.ref 0), some (.int x1), some (.int x2), some (.int x3), some (.int x4), none, none] [.int (f_LB_isRow x2)] I J
    refine g_if_eq (tgt := 30) dc_LB_read_11 rfl (by decide) (fun c2 => ?_) (fun c2 => ?_)
    · refine g_weak [none, none, none, none, none, none, none] trivial ?_
      exact (k2 c1 c2)
    · refine g_iload_n dc_LB_read_14 rfl rfl rfl ?_
      refine g_callS (M := m_LB_isDay) (As := [.int x3]) (rest := []) ok_LB_isDay st_LB_isDay ml_LB_73 rfl rfl (Nat.le_of_ble_eq_true rfl) dc_LB_read_15 rfl rOk_fr (c_LB_isDay ?_)
      show Go G (fr G m_LB_read (d + 4) P) 18 [some (.ref 0), some (.int x1), some (.int x2), some (.int x3), some (.int x4), none, none] [.int (f_LB_isDay x3)] I J
      refine g_if_eq (tgt := 30) dc_LB_read_18 rfl (by decide) (fun c3 => ?_) (fun c3 => ?_)
      · refine g_weak [none, none, none, none, none, none, none] trivial ?_
        exact (k3 c1 c2 c3)
      · refine g_aload_n dc_LB_read_21 rfl rfl rfl ?_
        refine g_iload dc_LB_read_22 rfl rfl ?_
        exact g_callV (T := T_LB) (N := 11) (As := [.int x4]) (rest := []) ok_LB_isNextTime in_LB_isNextTime se_LB_isNextTime ml_LB_79 sh_0 (by decide) rfl rfl rfl (Nat.le_of_ble_eq_true rfl) dc_LB_read_24 rfl rOk_fr (k4 c1 c2 c3)
theorem w_LB_read_27 {G : GC} {d : Nat} {P : PT} {I : MI} {J : MJ} {x1 : Int32} {x2 : Int32} {x3 : Int32} {x4 : Int32} {y0 : Int32} (b1 : (¬ y0 = 0) → vp_in x1 4) (k2 : (¬ y0 = 0) → Ct G (d + 3) m_SH_isLost [.ref (59 + 2 * x1.toNatClampNeg)] (fun r I' J' => Go G (fr G m_LB_read (d + 4) P) 46 [some (.ref 0), none, some (.int x2), some (.int x3), some (.int x4), some (.ref (59 + 2 * x1.toNatClampNeg)), none] (r.toList ++ []) I' J') I J) (k3 : (y0 = 0) → Go G (fr G m_LB_read (d + 4) P) 30 [none, none, none, none, none, none, none] [] I J) : Go G (fr G m_LB_read (d + 4) P) 27 [some (.ref 0), some (.int x1), some (.int x2), some (.int x3), some (.int x4), none, none] [.int y0] I J := by
  refine g_if_ne (tgt := 33) dc_LB_read_27 rfl (by decide) (fun c1 => ?_) (fun c1 => ?_)
  · refine g_aload_n dc_LB_read_33 rfl rfl rfl ?_
    refine g_get (C := "LevelBreaks") (T := T_LB) (N := 11) (k := 8) (v := .ref 58) sh_0 (by decide) rfl rfl i_LB (by decide) fl_LB_58 (Or.inl rfl) rfl dc_LB_read_34 rfl ?_
    refine g_iload_n dc_LB_read_37 rfl rfl rfl ?_
    refine g_aald (r := (59 + 2 * x1.toNatClampNeg)) sh_58 (by decide) rfl (b1 c1) (she_at (vin_lt (b1 c1))) dc_LB_read_38 rfl ?_
    refine g_astore (L' := [some (.ref 0), some (.int x1), some (.int x2), some (.int x3), some (.int x4), some (.ref (59 + 2 * x1.toNatClampNeg)), none]) dc_LB_read_39 rfl (Nat.le_of_ble_eq_true rfl) rfl ?_
    refine g_aload dc_LB_read_41 rfl rfl ?_
    refine g_weak [some (.ref 0), none, some (.int x2), some (.int x3), some (.int x4), some (.ref (59 + 2 * x1.toNatClampNeg)), none] ⟨rfl, ⟨rfl, ⟨rfl, ⟨rfl, ⟨rfl, trivial⟩⟩⟩⟩⟩ ?_
    exact g_callV (T := T_SH) (N := 3) (As := []) (rest := []) ok_SH_isLost in_SH_isLost se_SH_isLost ml_LB_96 (sht_in (b1 c1)).1 (by decide) rfl rfl rfl (Nat.le_of_ble_eq_true rfl) dc_LB_read_43 rfl rOk_fr (k2 c1)
  · refine g_weak [none, none, none, none, none, none, none] trivial ?_
    exact (k3 c1)
theorem w_LB_read_30 {G : GC} {d : Nat} {P : PT} {I : MI} {J : MJ}  (q1 : P (some (.int (-2))) I J) : Go G (fr G m_LB_read (d + 4) P) 30 [none, none, none, none, none, none, none] [] I J := by
  refine g_bipush (v := (-2)) dc_LB_read_30 rfl (by decide) ?_
  exact g_iret rfl dc_LB_read_32 q1
theorem w_LB_read_46 {G : GC} {d : Nat} {P : PT} {I : MI} {J : MJ} {x2 : Int32} {x3 : Int32} {x4 : Int32} {o5 : Nat} (h5 : ShtAt o5) {y0 : Int32} (k1 : (y0 = 0) → Go G (fr G m_LB_read (d + 4) P) 58 [some (.ref 0), none, some (.int x2), some (.int x3), some (.int x4), some (.ref o5), some (.int 0)] [] I J) (k2 : (¬ (y0 = 0)) → Ct G (d + 3) m_LB_found [.ref 0, .int 1] (fun r I' J' => Go G (fr G m_LB_read (d + 4) P) 54 [none, none, none, none, none, none, none] (r.toList ++ []) I' J') I J) : Go G (fr G m_LB_read (d + 4) P) 46 [some (.ref 0), none, some (.int x2), some (.int x3), some (.int x4), some (.ref o5), none] [.int y0] I J := by
  refine g_if_eq (tgt := 55) dc_LB_read_46 rfl (by decide) (fun c1 => ?_) (fun c1 => ?_)
  · refine g_iconst (v := 0) dc_LB_read_55 rfl (by decide) ?_
    refine g_istore (L' := [some (.ref 0), none, some (.int x2), some (.int x3), some (.int x4), some (.ref o5), some (.int 0)]) dc_LB_read_56 rfl (Nat.le_of_ble_eq_true rfl) rfl ?_
    exact (k1 c1)
  · refine g_aload_n dc_LB_read_49 rfl rfl rfl ?_
    refine g_iconst (v := 1) dc_LB_read_50 rfl (by decide) ?_
    refine g_weak [none, none, none, none, none, none, none] trivial ?_
    exact g_callV (T := T_LB) (N := 11) (As := [.int 1]) (rest := []) ok_LB_found in_LB_found se_LB_found ml_LB_100 sh_0 (by decide) rfl rfl rfl (Nat.le_of_ble_eq_true rfl) dc_LB_read_51 rfl rOk_fr (k2 c1)
theorem w_LB_read_54 {G : GC} {d : Nat} {P : PT} {I : MI} {J : MJ} {y0 : Int32} (q1 : P (some (.int y0)) I J) : Go G (fr G m_LB_read (d + 4) P) 54 [none, none, none, none, none, none, none] [.int y0] I J := by
  exact g_iret rfl dc_LB_read_54 q1
theorem w_LB_read_58 {G : GC} {d : Nat} {P : PT} {I : MI} {J : MJ} {x2 : Int32} {x3 : Int32} {x4 : Int32} {o5 : Nat} (h5 : ShtAt o5) {x6 : Int32} (k1 : ((I o5 2) ≤ x6) → Go G (fr G m_LB_read (d + 4) P) 132 [some (.ref 0), none, some (.int x2), none, none, none, some (.int x6)] [] I J) (k2 : (¬ ((I o5 2) ≤ x6)) → (40 ≤ (x3 + x6)) → Go G (fr G m_LB_read (d + 4) P) 132 [some (.ref 0), none, some (.int x2), none, none, none, some (.int x6)] [] I J) (b3 : (¬ ((I o5 2) ≤ x6)) → (¬ (40 ≤ (x3 + x6))) → vp_in x6 60) (k4 : (¬ ((I o5 2) ≤ x6)) → (¬ (40 ≤ (x3 + x6))) → ((f_LB_isValue (I (o5 + 1) x6.toNatClampNeg)) = 0) → Go G (fr G m_LB_read (d + 4) P) 132 [some (.ref 0), none, some (.int x2), none, none, none, some (.int x6)] [] I J) (k5 : (¬ ((I o5 2) ≤ x6)) → (¬ (40 ≤ (x3 + x6))) → (¬ ((f_LB_isValue (I (o5 + 1) x6.toNatClampNeg)) = 0)) → (200 ≤ (I 1 4)) → Go G (fr G m_LB_read (d + 4) P) 132 [some (.ref 0), none, some (.int x2), none, none, none, some (.int x6)] [] I J) (k6 : (¬ ((I o5 2) ≤ x6)) → (¬ (40 ≤ (x3 + x6))) → (¬ ((f_LB_isValue (I (o5 + 1) x6.toNatClampNeg)) = 0)) → (¬ (200 ≤ (I 1 4))) → Ct G (d + 3) m_LE_add [.ref 1, .int x2, .int (x3 + x6), .int (I (o5 + 1) x6.toNatClampNeg), .int x4] (fun r I' J' => Go G (fr G m_LB_read (d + 4) P) 126 [some (.ref 0), none, some (.int x2), some (.int x3), some (.int x4), some (.ref o5), some (.int x6)] (r.toList ++ []) I' J') I J) : Go G (fr G m_LB_read (d + 4) P) 58 [some (.ref 0), none, some (.int x2), some (.int x3), some (.int x4), some (.ref o5), some (.int x6)] [] I J := by
  refine g_iload dc_LB_read_58 rfl rfl ?_
  refine g_aload dc_LB_read_60 rfl rfl ?_
  refine g_get (C := "LevelBreaks$Sheet") (T := T_SH) (N := 3) (k := 2) (v := .int (I o5 2)) h5.1 (by decide) rfl rfl i_SH (by decide) fl_LB_104 (Or.inl rfl) rfl dc_LB_read_62 rfl ?_
  refine g_ic_ge (tgt := 132) dc_LB_read_65 rfl (by decide) (fun c1 => ?_) (fun c1 => ?_)
  · refine g_weak [some (.ref 0), none, some (.int x2), none, none, none, some (.int x6)] ⟨rfl, ⟨rfl, ⟨rfl, trivial⟩⟩⟩ ?_
    exact (k1 c1)
  · refine g_iload_n dc_LB_read_68 rfl rfl rfl ?_
    refine g_iload dc_LB_read_69 rfl rfl ?_
    refine g_iadd dc_LB_read_71 rfl ?_
    refine g_bipush (v := 40) dc_LB_read_72 rfl (by decide) ?_
    refine g_ic_ge (tgt := 132) dc_LB_read_74 rfl (by decide) (fun c2 => ?_) (fun c2 => ?_)
    · refine g_weak [some (.ref 0), none, some (.int x2), none, none, none, some (.int x6)] ⟨rfl, ⟨rfl, ⟨rfl, trivial⟩⟩⟩ ?_
      exact (k2 c1 c2)
    · refine g_aload dc_LB_read_77 rfl rfl ?_
      refine g_get (C := "LevelBreaks$Sheet") (T := T_SH) (N := 3) (k := 0) (v := .ref (o5 + 1)) h5.1 (by decide) rfl rfl i_SH (by decide) fl_LB_105 (Or.inl rfl) rfl dc_LB_read_79 rfl ?_
      refine g_iload dc_LB_read_82 rfl rfl ?_
      refine g_ialdv (v := (I (o5 + 1) x6.toNatClampNeg)) h5.2 (b3 c1 c2) rfl dc_LB_read_84 rfl ?_
      refine g_callS (M := m_LB_isValue) (As := [.int (I (o5 + 1) x6.toNatClampNeg)]) (rest := []) ok_LB_isValue st_LB_isValue ml_LB_76 rfl rfl (Nat.le_of_ble_eq_true rfl) dc_LB_read_85 rfl rOk_fr (c_LB_isValue ?_)
      show Go G (fr G m_LB_read (d + 4) P) 88 [some (.ref 0), none, some (.int x2), some (.int x3), some (.int x4), some (.ref o5), some (.int x6)] [.int (f_LB_isValue (I (o5 + 1) x6.toNatClampNeg))] I J
      refine g_if_eq (tgt := 132) dc_LB_read_88 rfl (by decide) (fun c3 => ?_) (fun c3 => ?_)
      · refine g_weak [some (.ref 0), none, some (.int x2), none, none, none, some (.int x6)] ⟨rfl, ⟨rfl, ⟨rfl, trivial⟩⟩⟩ ?_
        exact (k4 c1 c2 c3)
      · refine g_aload_n dc_LB_read_91 rfl rfl rfl ?_
        refine g_get (C := "LevelBreaks") (T := T_LB) (N := 11) (k := 0) (v := .ref 1) sh_0 (by decide) rfl rfl i_LB (by decide) fl_LB_10 (Or.inl rfl) rfl dc_LB_read_92 rfl ?_
        refine g_get (C := "LevelBreaks$Ledger") (T := T_LE) (N := 5) (k := 4) (v := .int (I 1 4)) sh_1 (by decide) rfl rfl i_LE (by decide) fl_LB_82 (Or.inl rfl) rfl dc_LB_read_95 rfl ?_
        refine g_sipush (v := 200) dc_LB_read_98 rfl (by decide) ?_
        refine g_ic_ge (tgt := 132) dc_LB_read_101 rfl (by decide) (fun c4 => ?_) (fun c4 => ?_)
        · refine g_weak [some (.ref 0), none, some (.int x2), none, none, none, some (.int x6)] ⟨rfl, ⟨rfl, ⟨rfl, trivial⟩⟩⟩ ?_
          exact (k5 c1 c2 c3 c4)
        · refine g_aload_n dc_LB_read_104 rfl rfl rfl ?_
          refine g_get (C := "LevelBreaks") (T := T_LB) (N := 11) (k := 0) (v := .ref 1) sh_0 (by decide) rfl rfl i_LB (by decide) fl_LB_10 (Or.inl rfl) rfl dc_LB_read_105 rfl ?_
          refine g_iload_n dc_LB_read_108 rfl rfl rfl ?_
          refine g_iload_n dc_LB_read_109 rfl rfl rfl ?_
          refine g_iload dc_LB_read_110 rfl rfl ?_
          refine g_iadd dc_LB_read_112 rfl ?_
          refine g_aload dc_LB_read_113 rfl rfl ?_
          refine g_get (C := "LevelBreaks$Sheet") (T := T_SH) (N := 3) (k := 0) (v := .ref (o5 + 1)) h5.1 (by decide) rfl rfl i_SH (by decide) fl_LB_105 (Or.inl rfl) rfl dc_LB_read_115 rfl ?_
          refine g_iload dc_LB_read_118 rfl rfl ?_
          refine g_ialdv (v := (I (o5 + 1) x6.toNatClampNeg)) h5.2 (b3 c1 c2) rfl dc_LB_read_120 rfl ?_
          refine g_iload dc_LB_read_121 rfl rfl ?_
          exact g_callV (T := T_LE) (N := 5) (As := [.int x2, .int (x3 + x6), .int (I (o5 + 1) x6.toNatClampNeg), .int x4]) (rest := []) ok_LE_add in_LE_add se_LE_add ml_LB_85 sh_1 (by decide) rfl rfl rfl (Nat.le_of_ble_eq_true rfl) dc_LB_read_123 rfl rOk_fr (k6 c1 c2 c3 c4)
theorem w_LB_read_126 {G : GC} {d : Nat} {P : PT} {I : MI} {J : MJ} {x2 : Int32} {x3 : Int32} {x4 : Int32} {o5 : Nat} (h5 : ShtAt o5) {x6 : Int32} (k1 : Go G (fr G m_LB_read (d + 4) P) 58 [some (.ref 0), none, some (.int x2), some (.int x3), some (.int x4), some (.ref o5), some (.int (x6 + 1))] [] I J) : Go G (fr G m_LB_read (d + 4) P) 126 [some (.ref 0), none, some (.int x2), some (.int x3), some (.int x4), some (.ref o5), some (.int x6)] [] I J := by
  refine g_iinc (v := (x6 + 1)) (L' := [some (.ref 0), none, some (.int x2), some (.int x3), some (.int x4), some (.ref o5), some (.int (x6 + 1))]) dc_LB_read_126 rfl rfl (by rw [show Int32.ofInt 1 = 1 from by decide]) (Nat.le_of_ble_eq_true rfl) rfl ?_
  refine g_goto (tgt := 58) dc_LB_read_129 (by decide) ?_
  exact k1
theorem w_LB_read_132 {G : GC} {d : Nat} {P : PT} {I : MI} {J : MJ} {x2 : Int32} {x6 : Int32} (k1 : Ct G (d + 3) m_LB_refresh [.ref 0, .int x2] (fun r I' J' => Go G (fr G m_LB_read (d + 4) P) 137 [none, none, none, none, none, none, some (.int x6)] (r.toList ++ []) I' J') I J) : Go G (fr G m_LB_read (d + 4) P) 132 [some (.ref 0), none, some (.int x2), none, none, none, some (.int x6)] [] I J := by
  refine g_aload_n dc_LB_read_132 rfl rfl rfl ?_
  refine g_iload_n dc_LB_read_133 rfl rfl rfl ?_
  refine g_weak [none, none, none, none, none, none, some (.int x6)] ⟨rfl, trivial⟩ ?_
  exact g_callV (T := T_LB) (N := 11) (As := [.int x2]) (rest := []) ok_LB_refresh in_LB_refresh se_LB_refresh ml_LB_89 sh_0 (by decide) rfl rfl rfl (Nat.le_of_ble_eq_true rfl) dc_LB_read_134 rfl rOk_fr k1
theorem w_LB_read_137 {G : GC} {d : Nat} {P : PT} {I : MI} {J : MJ} {x6 : Int32} (q1 : P (some (.int x6)) I J) : Go G (fr G m_LB_read (d + 4) P) 137 [none, none, none, none, none, none, some (.int x6)] [] I J := by
  refine g_iload dc_LB_read_137 rfl rfl ?_
  exact g_iret rfl dc_LB_read_139 q1
theorem dc_LB_refresh_0 : decode prog_1_method_49_code 0 = .ok (.aload_n 0, 1) := by decide +kernel
theorem dc_LB_refresh_1 : decode prog_1_method_49_code 1 = .ok (.getfield 10, 3) := by decide +kernel
theorem dc_LB_refresh_4 : decode prog_1_method_49_code 4 = .ok (.aload_n 0, 1) := by decide +kernel
theorem dc_LB_refresh_5 : decode prog_1_method_49_code 5 = .ok (.getfield 19, 3) := by decide +kernel
theorem dc_LB_refresh_8 : decode prog_1_method_49_code 8 = .ok (.iload_n 1, 1) := by decide +kernel
theorem dc_LB_refresh_9 : decode prog_1_method_49_code 9 = .ok (.aaload, 1) := by decide +kernel
theorem dc_LB_refresh_10 : decode prog_1_method_49_code 10 = .ok (.iload_n 1, 1) := by decide +kernel
theorem dc_LB_refresh_11 : decode prog_1_method_49_code 11 = .ok (.aload_n 0, 1) := by decide +kernel
theorem dc_LB_refresh_12 : decode prog_1_method_49_code 12 = .ok (.getfield 10, 3) := by decide +kernel
theorem dc_LB_refresh_15 : decode prog_1_method_49_code 15 = .ok (.aload_n 0, 1) := by decide +kernel
theorem dc_LB_refresh_16 : decode prog_1_method_49_code 16 = .ok (.getfield 62, 3) := by decide +kernel
theorem dc_LB_refresh_19 : decode prog_1_method_49_code 19 = .ok (.invokevirtual 181, 3) := by decide +kernel
theorem dc_LB_refresh_22 : decode prog_1_method_49_code 22 = .ok (.invokevirtual 191, 3) := by decide +kernel
theorem dc_LB_refresh_25 : decode prog_1_method_49_code 25 = .ok (.return_, 1) := by decide +kernel
theorem w_LB_refresh_0 {G : GC} {d : Nat} {P : PT} {I : MI} {J : MJ} {x1 : Int32} (b1 : vp_in x1 4) (k2 : Ct G (d + 2) m_LE_toldUpTo [.ref 1, .int (I 0 9)] (fun r I' J' => Go G (fr G m_LB_refresh (d + 3) P) 22 [none, none] (r.toList ++ [.int x1, .ref (7 + 5 * x1.toNatClampNeg), .ref 1]) I' J') I J) : Go G (fr G m_LB_refresh (d + 3) P) 0 [some (.ref 0), some (.int x1)] [] I J := by
  refine g_aload_n dc_LB_refresh_0 rfl rfl rfl ?_
  refine g_get (C := "LevelBreaks") (T := T_LB) (N := 11) (k := 0) (v := .ref 1) sh_0 (by decide) rfl rfl i_LB (by decide) fl_LB_10 (Or.inl rfl) rfl dc_LB_refresh_1 rfl ?_
  refine g_aload_n dc_LB_refresh_4 rfl rfl rfl ?_
  refine g_get (C := "LevelBreaks") (T := T_LB) (N := 11) (k := 1) (v := .ref 6) sh_0 (by decide) rfl rfl i_LB (by decide) fl_LB_19 (Or.inl rfl) rfl dc_LB_refresh_5 rfl ?_
  refine g_iload_n dc_LB_refresh_8 rfl rfl rfl ?_
  refine g_aald (r := (7 + 5 * x1.toNatClampNeg)) sh_6 (by decide) rfl b1 (now_at (vin_lt b1)) dc_LB_refresh_9 rfl ?_
  refine g_iload_n dc_LB_refresh_10 rfl rfl rfl ?_
  refine g_aload_n dc_LB_refresh_11 rfl rfl rfl ?_
  refine g_get (C := "LevelBreaks") (T := T_LB) (N := 11) (k := 0) (v := .ref 1) sh_0 (by decide) rfl rfl i_LB (by decide) fl_LB_10 (Or.inl rfl) rfl dc_LB_refresh_12 rfl ?_
  refine g_aload_n dc_LB_refresh_15 rfl rfl rfl ?_
  refine g_get (C := "LevelBreaks") (T := T_LB) (N := 11) (k := 9) (v := .int (I 0 9)) sh_0 (by decide) rfl rfl i_LB (by decide) fl_LB_62 (Or.inl rfl) rfl dc_LB_refresh_16 rfl ?_
  refine g_weak [none, none] trivial ?_
  exact g_callV (T := T_LE) (N := 5) (As := [.int (I 0 9)]) (rest := [.int x1, .ref (7 + 5 * x1.toNatClampNeg), .ref 1]) ok_LE_toldUpTo in_LE_toldUpTo se_LE_toldUpTo ml_LB_181 sh_1 (by decide) rfl rfl rfl (Nat.le_of_ble_eq_true rfl) dc_LB_refresh_19 rfl rOk_fr k2
theorem w_LB_refresh_22 {G : GC} {d : Nat} {P : PT} {I : MI} {J : MJ} {r1 : Nat} (g1 : PtsAt r1) {y2 : Int32} {y3 : Int32} (k1 : Ct G (d + 2) m_LE_load [.ref 1, .ref r1, .int y2, .int y3] (fun r I' J' => Go G (fr G m_LB_refresh (d + 3) P) 25 [none, none] (r.toList ++ []) I' J') I J) : Go G (fr G m_LB_refresh (d + 3) P) 22 [none, none] [.int y3, .int y2, .ref r1, .ref 1] I J := by
  exact g_callV (T := T_LE) (N := 5) (As := [.ref r1, .int y2, .int y3]) (rest := []) ok_LE_load in_LE_load se_LE_load ml_LB_191 sh_1 (by decide) rfl rfl rfl (Nat.le_of_ble_eq_true rfl) dc_LB_refresh_22 rfl rOk_fr k1
theorem w_LB_refresh_25 {G : GC} {d : Nat} {P : PT} {I : MI} {J : MJ}  (q1 : P none I J) : Go G (fr G m_LB_refresh (d + 3) P) 25 [none, none] [] I J := by
  exact g_vret rfl dc_LB_refresh_25 q1
theorem dc_LB_shared_0 : decode prog_1_method_14_code 0 = .ok (.iload_n 1, 1) := by decide +kernel
theorem dc_LB_shared_1 : decode prog_1_method_14_code 1 = .ok (.invokestatic 164, 3) := by decide +kernel
theorem dc_LB_shared_4 : decode prog_1_method_14_code 4 = .ok (.ifCond .eq 28, 3) := by decide +kernel
theorem dc_LB_shared_7 : decode prog_1_method_14_code 7 = .ok (.iload_n 2, 1) := by decide +kernel
theorem dc_LB_shared_8 : decode prog_1_method_14_code 8 = .ok (.invokestatic 167, 3) := by decide +kernel
theorem dc_LB_shared_11 : decode prog_1_method_14_code 11 = .ok (.ifCond .eq 21, 3) := by decide +kernel
theorem dc_LB_shared_14 : decode prog_1_method_14_code 14 = .ok (.iload_n 3, 1) := by decide +kernel
theorem dc_LB_shared_15 : decode prog_1_method_14_code 15 = .ok (.invokestatic 140, 3) := by decide +kernel
theorem dc_LB_shared_18 : decode prog_1_method_14_code 18 = .ok (.ifCond .eq 14, 3) := by decide +kernel
theorem dc_LB_shared_21 : decode prog_1_method_14_code 21 = .ok (.iload 4, 2) := by decide +kernel
theorem dc_LB_shared_23 : decode prog_1_method_14_code 23 = .ok (.ifCond .lt 9, 3) := by decide +kernel
theorem dc_LB_shared_26 : decode prog_1_method_14_code 26 = .ok (.iload 4, 2) := by decide +kernel
theorem dc_LB_shared_28 : decode prog_1_method_14_code 28 = .ok (.iload_n 3, 1) := by decide +kernel
theorem dc_LB_shared_29 : decode prog_1_method_14_code 29 = .ok (.if_icmp .lt 6, 3) := by decide +kernel
theorem dc_LB_shared_32 : decode prog_1_method_14_code 32 = .ok (.bipush (-2), 2) := by decide +kernel
theorem dc_LB_shared_34 : decode prog_1_method_14_code 34 = .ok (.ireturn, 1) := by decide +kernel
theorem dc_LB_shared_35 : decode prog_1_method_14_code 35 = .ok (.aload_n 0, 1) := by decide +kernel
theorem dc_LB_shared_36 : decode prog_1_method_14_code 36 = .ok (.getfield 34, 3) := by decide +kernel
theorem dc_LB_shared_39 : decode prog_1_method_14_code 39 = .ok (.aload_n 0, 1) := by decide +kernel
theorem dc_LB_shared_40 : decode prog_1_method_14_code 40 = .ok (.getfield 19, 3) := by decide +kernel
theorem dc_LB_shared_43 : decode prog_1_method_14_code 43 = .ok (.aload_n 0, 1) := by decide +kernel
theorem dc_LB_shared_44 : decode prog_1_method_14_code 44 = .ok (.getfield 27, 3) := by decide +kernel
theorem dc_LB_shared_47 : decode prog_1_method_14_code 47 = .ok (.iload_n 1, 1) := by decide +kernel
theorem dc_LB_shared_48 : decode prog_1_method_14_code 48 = .ok (.iload_n 2, 1) := by decide +kernel
theorem dc_LB_shared_49 : decode prog_1_method_14_code 49 = .ok (.iload_n 3, 1) := by decide +kernel
theorem dc_LB_shared_50 : decode prog_1_method_14_code 50 = .ok (.invokevirtual 170, 3) := by decide +kernel
theorem dc_LB_shared_53 : decode prog_1_method_14_code 53 = .ok (.ifCond .ne 6, 3) := by decide +kernel
theorem dc_LB_shared_56 : decode prog_1_method_14_code 56 = .ok (.bipush (-3), 2) := by decide +kernel
theorem dc_LB_shared_58 : decode prog_1_method_14_code 58 = .ok (.ireturn, 1) := by decide +kernel
theorem dc_LB_shared_59 : decode prog_1_method_14_code 59 = .ok (.aload_n 0, 1) := by decide +kernel
theorem dc_LB_shared_60 : decode prog_1_method_14_code 60 = .ok (.getfield 34, 3) := by decide +kernel
theorem dc_LB_shared_63 : decode prog_1_method_14_code 63 = .ok (.getfield 174, 3) := by decide +kernel
theorem dc_LB_shared_66 : decode prog_1_method_14_code 66 = .ok (.iload 4, 2) := by decide +kernel
theorem dc_LB_shared_68 : decode prog_1_method_14_code 68 = .ok (.iaload, 1) := by decide +kernel
theorem dc_LB_shared_69 : decode prog_1_method_14_code 69 = .ok (.ireturn, 1) := by decide +kernel
theorem w_LB_shared_0 {G : GC} {d : Nat} {P : PT} {I : MI} {J : MJ} {x1 : Int32} {x2 : Int32} {x3 : Int32} {x4 : Int32} (k1 : ((f_LB_isRowSet x1) = 0) → Go G (fr G m_LB_shared (d + 5) P) 32 [none, none, none, none, none] [] I J) (k2 : (¬ ((f_LB_isRowSet x1) = 0)) → ((f_LB_isCommonKind x2) = 0) → Go G (fr G m_LB_shared (d + 5) P) 32 [none, none, none, none, none] [] I J) (k3 : (¬ ((f_LB_isRowSet x1) = 0)) → (¬ ((f_LB_isCommonKind x2) = 0)) → ((f_LB_isStretches x3) = 0) → Go G (fr G m_LB_shared (d + 5) P) 32 [none, none, none, none, none] [] I J) (k4 : (¬ ((f_LB_isRowSet x1) = 0)) → (¬ ((f_LB_isCommonKind x2) = 0)) → (¬ ((f_LB_isStretches x3) = 0)) → (x4 < 0) → Go G (fr G m_LB_shared (d + 5) P) 32 [none, none, none, none, none] [] I J) (k5 : (¬ ((f_LB_isRowSet x1) = 0)) → (¬ ((f_LB_isCommonKind x2) = 0)) → (¬ ((f_LB_isStretches x3) = 0)) → (¬ (x4 < 0)) → (x4 < x3) → Ct G (d + 4) m_CU_cutTogether [.ref 33, .ref 6, .ref 32, .int x1, .int x2, .int x3] (fun r I' J' => Go G (fr G m_LB_shared (d + 5) P) 53 [some (.ref 0), none, none, none, some (.int x4)] (r.toList ++ []) I' J') I J) (k6 : (¬ ((f_LB_isRowSet x1) = 0)) → (¬ ((f_LB_isCommonKind x2) = 0)) → (¬ ((f_LB_isStretches x3) = 0)) → (¬ (x4 < 0)) → (¬ (x4 < x3)) → Go G (fr G m_LB_shared (d + 5) P) 32 [none, none, none, none, none] [] I J) : Go G (fr G m_LB_shared (d + 5) P) 0 [some (.ref 0), some (.int x1), some (.int x2), some (.int x3), some (.int x4)] [] I J := by
  refine g_iload_n dc_LB_shared_0 rfl rfl rfl ?_
  refine g_callS (M := m_LB_isRowSet) (As := [.int x1]) (rest := []) ok_LB_isRowSet st_LB_isRowSet ml_LB_164 rfl rfl (Nat.le_of_ble_eq_true rfl) dc_LB_shared_1 rfl rOk_fr (c_LB_isRowSet ?_)
  show Go G (fr G m_LB_shared (d + 5) P) 4 [some (.ref 0), some (.int x1), some (.int x2), some (.int x3), some (.int x4)] [.int (f_LB_isRowSet x1)] I J
  refine g_if_eq (tgt := 32) dc_LB_shared_4 rfl (by decide) (fun c1 => ?_) (fun c1 => ?_)
  · refine g_weak [none, none, none, none, none] trivial ?_
    exact (k1 c1)
  · refine g_iload_n dc_LB_shared_7 rfl rfl rfl ?_
    refine g_callS (M := m_LB_isCommonKind) (As := [.int x2]) (rest := []) ok_LB_isCommonKind st_LB_isCommonKind ml_LB_167 rfl rfl (Nat.le_of_ble_eq_true rfl) dc_LB_shared_8 rfl rOk_fr (c_LB_isCommonKind ?_)
    show Go G (fr G m_LB_shared (d + 5) P) 11 [some (.ref 0), some (.int x1), some (.int x2), some (.int x3), some (.int x4)] [.int (f_LB_isCommonKind x2)] I J
    refine g_if_eq (tgt := 32) dc_LB_shared_11 rfl (by decide) (fun c2 => ?_) (fun c2 => ?_)
    · refine g_weak [none, none, none, none, none] trivial ?_
      exact (k2 c1 c2)
    · refine g_iload_n dc_LB_shared_14 rfl rfl rfl ?_
      refine g_callS (M := m_LB_isStretches) (As := [.int x3]) (rest := []) ok_LB_isStretches st_LB_isStretches ml_LB_140 rfl rfl (Nat.le_of_ble_eq_true rfl) dc_LB_shared_15 rfl rOk_fr (c_LB_isStretches ?_)
      show Go G (fr G m_LB_shared (d + 5) P) 18 [some (.ref 0), some (.int x1), some (.int x2), some (.int x3), some (.int x4)] [.int (f_LB_isStretches x3)] I J
      refine g_if_eq (tgt := 32) dc_LB_shared_18 rfl (by decide) (fun c3 => ?_) (fun c3 => ?_)
      · refine g_weak [none, none, none, none, none] trivial ?_
        exact (k3 c1 c2 c3)
      · refine g_iload dc_LB_shared_21 rfl rfl ?_
        refine g_if_lt (tgt := 32) dc_LB_shared_23 rfl (by decide) (fun c4 => ?_) (fun c4 => ?_)
        · refine g_weak [none, none, none, none, none] trivial ?_
          exact (k4 c1 c2 c3 c4)
        · refine g_iload dc_LB_shared_26 rfl rfl ?_
          refine g_iload_n dc_LB_shared_28 rfl rfl rfl ?_
          refine g_ic_lt (tgt := 35) dc_LB_shared_29 rfl (by decide) (fun c5 => ?_) (fun c5 => ?_)
          · refine g_aload_n dc_LB_shared_35 rfl rfl rfl ?_
            refine g_get (C := "LevelBreaks") (T := T_LB) (N := 11) (k := 4) (v := .ref 33) sh_0 (by decide) rfl rfl i_LB (by decide) fl_LB_34 (Or.inl rfl) rfl dc_LB_shared_36 rfl ?_
            refine g_aload_n dc_LB_shared_39 rfl rfl rfl ?_
            refine g_get (C := "LevelBreaks") (T := T_LB) (N := 11) (k := 1) (v := .ref 6) sh_0 (by decide) rfl rfl i_LB (by decide) fl_LB_19 (Or.inl rfl) rfl dc_LB_shared_40 rfl ?_
            refine g_aload_n dc_LB_shared_43 rfl rfl rfl ?_
            refine g_get (C := "LevelBreaks") (T := T_LB) (N := 11) (k := 3) (v := .ref 32) sh_0 (by decide) rfl rfl i_LB (by decide) fl_LB_27 (Or.inl rfl) rfl dc_LB_shared_44 rfl ?_
            refine g_iload_n dc_LB_shared_47 rfl rfl rfl ?_
            refine g_iload_n dc_LB_shared_48 rfl rfl rfl ?_
            refine g_iload_n dc_LB_shared_49 rfl rfl rfl ?_
            refine g_weak [some (.ref 0), none, none, none, some (.int x4)] ⟨rfl, ⟨rfl, trivial⟩⟩ ?_
            exact g_callV (T := T_CU) (N := 13) (As := [.ref 6, .ref 32, .int x1, .int x2, .int x3]) (rest := []) ok_CU_cutTogether in_CU_cutTogether se_CU_cutTogether ml_LB_170 sh_33 (by decide) rfl rfl rfl (Nat.le_of_ble_eq_true rfl) dc_LB_shared_50 rfl rOk_fr (k5 c1 c2 c3 c4 c5)
          · refine g_weak [none, none, none, none, none] trivial ?_
            exact (k6 c1 c2 c3 c4 c5)
theorem w_LB_shared_32 {G : GC} {d : Nat} {P : PT} {I : MI} {J : MJ}  (q1 : P (some (.int (-2))) I J) : Go G (fr G m_LB_shared (d + 5) P) 32 [none, none, none, none, none] [] I J := by
  refine g_bipush (v := (-2)) dc_LB_shared_32 rfl (by decide) ?_
  exact g_iret rfl dc_LB_shared_34 q1
theorem w_LB_shared_53 {G : GC} {d : Nat} {P : PT} {I : MI} {J : MJ} {x4 : Int32} {y0 : Int32} (b1 : (¬ y0 = 0) → vp_in x4 6) (q2 : (¬ y0 = 0) → P (some (.int (I 49 x4.toNatClampNeg))) I J) (q3 : (y0 = 0) → P (some (.int (-3))) I J) : Go G (fr G m_LB_shared (d + 5) P) 53 [some (.ref 0), none, none, none, some (.int x4)] [.int y0] I J := by
  refine g_if_ne (tgt := 59) dc_LB_shared_53 rfl (by decide) (fun c1 => ?_) (fun c1 => ?_)
  · refine g_aload_n dc_LB_shared_59 rfl rfl rfl ?_
    refine g_get (C := "LevelBreaks") (T := T_LB) (N := 11) (k := 4) (v := .ref 33) sh_0 (by decide) rfl rfl i_LB (by decide) fl_LB_34 (Or.inl rfl) rfl dc_LB_shared_60 rfl ?_
    refine g_get (C := "LevelBreaks$Cuts") (T := T_CU) (N := 13) (k := 12) (v := .ref 49) sh_33 (by decide) rfl rfl i_CU (by decide) fl_LB_174 (Or.inl rfl) rfl dc_LB_shared_63 rfl ?_
    refine g_iload dc_LB_shared_66 rfl rfl ?_
    refine g_ialdv (v := (I 49 x4.toNatClampNeg)) sh_49 (b1 c1) rfl dc_LB_shared_68 rfl ?_
    exact g_iret rfl dc_LB_shared_69 (q2 c1)
  · refine g_bipush (v := (-3)) dc_LB_shared_56 rfl (by decide) ?_
    exact g_iret rfl dc_LB_shared_58 (q3 c1)
theorem dc_LB_sheet_0 : decode prog_1_method_26_code 0 = .ok (.iload_n 1, 1) := by decide +kernel
theorem dc_LB_sheet_1 : decode prog_1_method_26_code 1 = .ok (.invokestatic 93, 3) := by decide +kernel
theorem dc_LB_sheet_4 : decode prog_1_method_26_code 4 = .ok (.ifCond .eq 16, 3) := by decide +kernel
theorem dc_LB_sheet_7 : decode prog_1_method_26_code 7 = .ok (.iload_n 2, 1) := by decide +kernel
theorem dc_LB_sheet_8 : decode prog_1_method_26_code 8 = .ok (.invokestatic 265, 3) := by decide +kernel
theorem dc_LB_sheet_11 : decode prog_1_method_26_code 11 = .ok (.ifCond .eq 9, 3) := by decide +kernel
theorem dc_LB_sheet_14 : decode prog_1_method_26_code 14 = .ok (.iload_n 3, 1) := by decide +kernel
theorem dc_LB_sheet_15 : decode prog_1_method_26_code 15 = .ok (.bipush 60, 2) := by decide +kernel
theorem dc_LB_sheet_17 : decode prog_1_method_26_code 17 = .ok (.if_icmp .le 6, 3) := by decide +kernel
theorem dc_LB_sheet_20 : decode prog_1_method_26_code 20 = .ok (.bipush (-2), 2) := by decide +kernel
theorem dc_LB_sheet_22 : decode prog_1_method_26_code 22 = .ok (.ireturn, 1) := by decide +kernel
theorem dc_LB_sheet_23 : decode prog_1_method_26_code 23 = .ok (.iload_n 3, 1) := by decide +kernel
theorem dc_LB_sheet_24 : decode prog_1_method_26_code 24 = .ok (.ifCond .ge 9, 3) := by decide +kernel
theorem dc_LB_sheet_27 : decode prog_1_method_26_code 27 = .ok (.aload_n 0, 1) := by decide +kernel
theorem dc_LB_sheet_28 : decode prog_1_method_26_code 28 = .ok (.iconst 5, 1) := by decide +kernel
theorem dc_LB_sheet_29 : decode prog_1_method_26_code 29 = .ok (.invokevirtual 100, 3) := by decide +kernel
theorem dc_LB_sheet_32 : decode prog_1_method_26_code 32 = .ok (.ireturn, 1) := by decide +kernel
theorem dc_LB_sheet_33 : decode prog_1_method_26_code 33 = .ok (.aload_n 0, 1) := by decide +kernel
theorem dc_LB_sheet_34 : decode prog_1_method_26_code 34 = .ok (.getfield 58, 3) := by decide +kernel
theorem dc_LB_sheet_37 : decode prog_1_method_26_code 37 = .ok (.iload_n 1, 1) := by decide +kernel
theorem dc_LB_sheet_38 : decode prog_1_method_26_code 38 = .ok (.aaload, 1) := by decide +kernel
theorem dc_LB_sheet_39 : decode prog_1_method_26_code 39 = .ok (.iload_n 2, 1) := by decide +kernel
theorem dc_LB_sheet_40 : decode prog_1_method_26_code 40 = .ok (.iload_n 3, 1) := by decide +kernel
theorem dc_LB_sheet_41 : decode prog_1_method_26_code 41 = .ok (.invokevirtual 268, 3) := by decide +kernel
theorem dc_LB_sheet_44 : decode prog_1_method_26_code 44 = .ok (.iload_n 3, 1) := by decide +kernel
theorem dc_LB_sheet_45 : decode prog_1_method_26_code 45 = .ok (.ireturn, 1) := by decide +kernel
theorem w_LB_sheet_0 {G : GC} {d : Nat} {P : PT} {I : MI} {J : MJ} {x1 : Int32} {x2 : Int32} {x3 : Int32} (k1 : ((f_LB_isSheet x1) = 0) → Go G (fr G m_LB_sheet (d + 2) P) 20 [none, none, none, none] [] I J) (k2 : (¬ ((f_LB_isSheet x1) = 0)) → ((f_LB_isType x2) = 0) → Go G (fr G m_LB_sheet (d + 2) P) 20 [none, none, none, none] [] I J) (b3 : (¬ ((f_LB_isSheet x1) = 0)) → (¬ ((f_LB_isType x2) = 0)) → (x3 ≤ 60) → (0 ≤ x3) → vp_in x1 4) (k4 : (¬ ((f_LB_isSheet x1) = 0)) → (¬ ((f_LB_isType x2) = 0)) → (x3 ≤ 60) → (0 ≤ x3) → Ct G (d + 1) m_SH_renew [.ref (59 + 2 * x1.toNatClampNeg), .int x2, .int x3] (fun r I' J' => Go G (fr G m_LB_sheet (d + 2) P) 44 [none, none, none, some (.int x3)] (r.toList ++ []) I' J') I J) (k5 : (¬ ((f_LB_isSheet x1) = 0)) → (¬ ((f_LB_isType x2) = 0)) → (x3 ≤ 60) → (¬ (0 ≤ x3)) → Ct G (d + 1) m_LB_found [.ref 0, .int 5] (fun r I' J' => Go G (fr G m_LB_sheet (d + 2) P) 32 [none, none, none, none] (r.toList ++ []) I' J') I J) (k6 : (¬ ((f_LB_isSheet x1) = 0)) → (¬ ((f_LB_isType x2) = 0)) → (¬ (x3 ≤ 60)) → Go G (fr G m_LB_sheet (d + 2) P) 20 [none, none, none, none] [] I J) : Go G (fr G m_LB_sheet (d + 2) P) 0 [some (.ref 0), some (.int x1), some (.int x2), some (.int x3)] [] I J := by
  refine g_iload_n dc_LB_sheet_0 rfl rfl rfl ?_
  refine g_callS (M := m_LB_isSheet) (As := [.int x1]) (rest := []) ok_LB_isSheet st_LB_isSheet ml_LB_93 rfl rfl (Nat.le_of_ble_eq_true rfl) dc_LB_sheet_1 rfl rOk_fr (c_LB_isSheet ?_)
  show Go G (fr G m_LB_sheet (d + 2) P) 4 [some (.ref 0), some (.int x1), some (.int x2), some (.int x3)] [.int (f_LB_isSheet x1)] I J
  refine g_if_eq (tgt := 20) dc_LB_sheet_4 rfl (by decide) (fun c1 => ?_) (fun c1 => ?_)
  · refine g_weak [none, none, none, none] trivial ?_
    exact (k1 c1)
  · refine g_iload_n dc_LB_sheet_7 rfl rfl rfl ?_
    refine g_callS (M := m_LB_isType) (As := [.int x2]) (rest := []) ok_LB_isType st_LB_isType ml_LB_265 rfl rfl (Nat.le_of_ble_eq_true rfl) dc_LB_sheet_8 rfl rOk_fr (c_LB_isType ?_)
    show Go G (fr G m_LB_sheet (d + 2) P) 11 [some (.ref 0), some (.int x1), some (.int x2), some (.int x3)] [.int (f_LB_isType x2)] I J
    refine g_if_eq (tgt := 20) dc_LB_sheet_11 rfl (by decide) (fun c2 => ?_) (fun c2 => ?_)
    · refine g_weak [none, none, none, none] trivial ?_
      exact (k2 c1 c2)
    · refine g_iload_n dc_LB_sheet_14 rfl rfl rfl ?_
      refine g_bipush (v := 60) dc_LB_sheet_15 rfl (by decide) ?_
      refine g_ic_le (tgt := 23) dc_LB_sheet_17 rfl (by decide) (fun c3 => ?_) (fun c3 => ?_)
      · refine g_iload_n dc_LB_sheet_23 rfl rfl rfl ?_
        refine g_if_ge (tgt := 33) dc_LB_sheet_24 rfl (by decide) (fun c4 => ?_) (fun c4 => ?_)
        · refine g_aload_n dc_LB_sheet_33 rfl rfl rfl ?_
          refine g_get (C := "LevelBreaks") (T := T_LB) (N := 11) (k := 8) (v := .ref 58) sh_0 (by decide) rfl rfl i_LB (by decide) fl_LB_58 (Or.inl rfl) rfl dc_LB_sheet_34 rfl ?_
          refine g_iload_n dc_LB_sheet_37 rfl rfl rfl ?_
          refine g_aald (r := (59 + 2 * x1.toNatClampNeg)) sh_58 (by decide) rfl (b3 c1 c2 c3 c4) (she_at (vin_lt (b3 c1 c2 c3 c4))) dc_LB_sheet_38 rfl ?_
          refine g_iload_n dc_LB_sheet_39 rfl rfl rfl ?_
          refine g_iload_n dc_LB_sheet_40 rfl rfl rfl ?_
          refine g_weak [none, none, none, some (.int x3)] ⟨rfl, trivial⟩ ?_
          exact g_callV (T := T_SH) (N := 3) (As := [.int x2, .int x3]) (rest := []) ok_SH_renew in_SH_renew se_SH_renew ml_LB_268 (sht_in (b3 c1 c2 c3 c4)).1 (by decide) rfl rfl rfl (Nat.le_of_ble_eq_true rfl) dc_LB_sheet_41 rfl rOk_fr (k4 c1 c2 c3 c4)
        · refine g_aload_n dc_LB_sheet_27 rfl rfl rfl ?_
          refine g_iconst (v := 5) dc_LB_sheet_28 rfl (by decide) ?_
          refine g_weak [none, none, none, none] trivial ?_
          exact g_callV (T := T_LB) (N := 11) (As := [.int 5]) (rest := []) ok_LB_found in_LB_found se_LB_found ml_LB_100 sh_0 (by decide) rfl rfl rfl (Nat.le_of_ble_eq_true rfl) dc_LB_sheet_29 rfl rOk_fr (k5 c1 c2 c3 c4)
      · refine g_weak [none, none, none, none] trivial ?_
        exact (k6 c1 c2 c3)
theorem w_LB_sheet_20 {G : GC} {d : Nat} {P : PT} {I : MI} {J : MJ}  (q1 : P (some (.int (-2))) I J) : Go G (fr G m_LB_sheet (d + 2) P) 20 [none, none, none, none] [] I J := by
  refine g_bipush (v := (-2)) dc_LB_sheet_20 rfl (by decide) ?_
  exact g_iret rfl dc_LB_sheet_22 q1
theorem w_LB_sheet_32 {G : GC} {d : Nat} {P : PT} {I : MI} {J : MJ} {y0 : Int32} (q1 : P (some (.int y0)) I J) : Go G (fr G m_LB_sheet (d + 2) P) 32 [none, none, none, none] [.int y0] I J := by
  exact g_iret rfl dc_LB_sheet_32 q1
theorem w_LB_sheet_44 {G : GC} {d : Nat} {P : PT} {I : MI} {J : MJ} {x3 : Int32} (q1 : P (some (.int x3)) I J) : Go G (fr G m_LB_sheet (d + 2) P) 44 [none, none, none, some (.int x3)] [] I J := by
  refine g_iload_n dc_LB_sheet_44 rfl rfl rfl ?_
  exact g_iret rfl dc_LB_sheet_45 q1
theorem dc_LB_simpler_0 : decode prog_1_method_17_code 0 = .ok (.iload_n 1, 1) := by decide +kernel
theorem dc_LB_simpler_1 : decode prog_1_method_17_code 1 = .ok (.invokestatic 69, 3) := by decide +kernel
theorem dc_LB_simpler_4 : decode prog_1_method_17_code 4 = .ok (.ifCond .eq 39, 3) := by decide +kernel
theorem dc_LB_simpler_7 : decode prog_1_method_17_code 7 = .ok (.iload_n 2, 1) := by decide +kernel
theorem dc_LB_simpler_8 : decode prog_1_method_17_code 8 = .ok (.invokestatic 116, 3) := by decide +kernel
theorem dc_LB_simpler_11 : decode prog_1_method_17_code 11 = .ok (.ifCond .eq 32, 3) := by decide +kernel
theorem dc_LB_simpler_14 : decode prog_1_method_17_code 14 = .ok (.iload_n 3, 1) := by decide +kernel
theorem dc_LB_simpler_15 : decode prog_1_method_17_code 15 = .ok (.invokestatic 140, 3) := by decide +kernel
theorem dc_LB_simpler_18 : decode prog_1_method_17_code 18 = .ok (.ifCond .eq 25, 3) := by decide +kernel
theorem dc_LB_simpler_21 : decode prog_1_method_17_code 21 = .ok (.iload 4, 2) := by decide +kernel
theorem dc_LB_simpler_23 : decode prog_1_method_17_code 23 = .ok (.iconst 1, 1) := by decide +kernel
theorem dc_LB_simpler_24 : decode prog_1_method_17_code 24 = .ok (.iconst 2, 1) := by decide +kernel
theorem dc_LB_simpler_25 : decode prog_1_method_17_code 25 = .ok (.invokestatic 108, 3) := by decide +kernel
theorem dc_LB_simpler_28 : decode prog_1_method_17_code 28 = .ok (.ifCond .eq 15, 3) := by decide +kernel
theorem dc_LB_simpler_31 : decode prog_1_method_17_code 31 = .ok (.iload 5, 2) := by decide +kernel
theorem dc_LB_simpler_33 : decode prog_1_method_17_code 33 = .ok (.ifCond .lt 10, 3) := by decide +kernel
theorem dc_LB_simpler_36 : decode prog_1_method_17_code 36 = .ok (.iload 5, 2) := by decide +kernel
theorem dc_LB_simpler_38 : decode prog_1_method_17_code 38 = .ok (.iload 4, 2) := by decide +kernel
theorem dc_LB_simpler_40 : decode prog_1_method_17_code 40 = .ok (.if_icmp .lt 6, 3) := by decide +kernel
theorem dc_LB_simpler_43 : decode prog_1_method_17_code 43 = .ok (.bipush (-2), 2) := by decide +kernel
theorem dc_LB_simpler_45 : decode prog_1_method_17_code 45 = .ok (.ireturn, 1) := by decide +kernel
theorem dc_LB_simpler_46 : decode prog_1_method_17_code 46 = .ok (.aload_n 0, 1) := by decide +kernel
theorem dc_LB_simpler_47 : decode prog_1_method_17_code 47 = .ok (.getfield 34, 3) := by decide +kernel
theorem dc_LB_simpler_50 : decode prog_1_method_17_code 50 = .ok (.aload_n 0, 1) := by decide +kernel
theorem dc_LB_simpler_51 : decode prog_1_method_17_code 51 = .ok (.getfield 19, 3) := by decide +kernel
theorem dc_LB_simpler_54 : decode prog_1_method_17_code 54 = .ok (.iload_n 1, 1) := by decide +kernel
theorem dc_LB_simpler_55 : decode prog_1_method_17_code 55 = .ok (.aaload, 1) := by decide +kernel
theorem dc_LB_simpler_56 : decode prog_1_method_17_code 56 = .ok (.iload_n 2, 1) := by decide +kernel
theorem dc_LB_simpler_57 : decode prog_1_method_17_code 57 = .ok (.iload_n 3, 1) := by decide +kernel
theorem dc_LB_simpler_58 : decode prog_1_method_17_code 58 = .ok (.aload_n 0, 1) := by decide +kernel
theorem dc_LB_simpler_59 : decode prog_1_method_17_code 59 = .ok (.getfield 27, 3) := by decide +kernel
theorem dc_LB_simpler_62 : decode prog_1_method_17_code 62 = .ok (.iload_n 1, 1) := by decide +kernel
theorem dc_LB_simpler_63 : decode prog_1_method_17_code 63 = .ok (.iaload, 1) := by decide +kernel
theorem dc_LB_simpler_64 : decode prog_1_method_17_code 64 = .ok (.iload 4, 2) := by decide +kernel
theorem dc_LB_simpler_66 : decode prog_1_method_17_code 66 = .ok (.invokevirtual 195, 3) := by decide +kernel
theorem dc_LB_simpler_69 : decode prog_1_method_17_code 69 = .ok (.ifCond .ne 6, 3) := by decide +kernel
theorem dc_LB_simpler_72 : decode prog_1_method_17_code 72 = .ok (.bipush (-3), 2) := by decide +kernel
theorem dc_LB_simpler_74 : decode prog_1_method_17_code 74 = .ok (.ireturn, 1) := by decide +kernel
theorem dc_LB_simpler_75 : decode prog_1_method_17_code 75 = .ok (.aload_n 0, 1) := by decide +kernel
theorem dc_LB_simpler_76 : decode prog_1_method_17_code 76 = .ok (.getfield 19, 3) := by decide +kernel
theorem dc_LB_simpler_79 : decode prog_1_method_17_code 79 = .ok (.iload_n 1, 1) := by decide +kernel
theorem dc_LB_simpler_80 : decode prog_1_method_17_code 80 = .ok (.aaload, 1) := by decide +kernel
theorem dc_LB_simpler_81 : decode prog_1_method_17_code 81 = .ok (.getfield 209, 3) := by decide +kernel
theorem dc_LB_simpler_84 : decode prog_1_method_17_code 84 = .ok (.aload_n 0, 1) := by decide +kernel
theorem dc_LB_simpler_85 : decode prog_1_method_17_code 85 = .ok (.getfield 34, 3) := by decide +kernel
theorem dc_LB_simpler_88 : decode prog_1_method_17_code 88 = .ok (.iload_n 3, 1) := by decide +kernel
theorem dc_LB_simpler_89 : decode prog_1_method_17_code 89 = .ok (.iload 5, 2) := by decide +kernel
theorem dc_LB_simpler_91 : decode prog_1_method_17_code 91 = .ok (.invokevirtual 212, 3) := by decide +kernel
theorem dc_LB_simpler_94 : decode prog_1_method_17_code 94 = .ok (.iaload, 1) := by decide +kernel
theorem dc_LB_simpler_95 : decode prog_1_method_17_code 95 = .ok (.ireturn, 1) := by decide +kernel
theorem w_LB_simpler_0 {G : GC} {d : Nat} {P : PT} {I : MI} {J : MJ} {x1 : Int32} {x2 : Int32} {x3 : Int32} {x4 : Int32} {x5 : Int32} (k1 : ((f_LB_isRow x1) = 0) → Go G (fr G m_LB_simpler (d + 5) P) 43 [none, none, none, none, none, none] [] I J) (k2 : (¬ ((f_LB_isRow x1) = 0)) → ((f_LB_isKind x2) = 0) → Go G (fr G m_LB_simpler (d + 5) P) 43 [none, none, none, none, none, none] [] I J) (k3 : (¬ ((f_LB_isRow x1) = 0)) → (¬ ((f_LB_isKind x2) = 0)) → ((f_LB_isStretches x3) = 0) → Go G (fr G m_LB_simpler (d + 5) P) 43 [none, none, none, none, none, none] [] I J) (k4 : (¬ ((f_LB_isRow x1) = 0)) → (¬ ((f_LB_isKind x2) = 0)) → (¬ ((f_LB_isStretches x3) = 0)) → ((f_LB_isWithin x4 1 2) = 0) → Go G (fr G m_LB_simpler (d + 5) P) 43 [none, none, none, none, none, none] [] I J) (k5 : (¬ ((f_LB_isRow x1) = 0)) → (¬ ((f_LB_isKind x2) = 0)) → (¬ ((f_LB_isStretches x3) = 0)) → (¬ ((f_LB_isWithin x4 1 2) = 0)) → (x5 < 0) → Go G (fr G m_LB_simpler (d + 5) P) 43 [none, none, none, none, none, none] [] I J) (b6 : (¬ ((f_LB_isRow x1) = 0)) → (¬ ((f_LB_isKind x2) = 0)) → (¬ ((f_LB_isStretches x3) = 0)) → (¬ ((f_LB_isWithin x4 1 2) = 0)) → (¬ (x5 < 0)) → (x5 < x4) → vp_in x1 4) (k7 : (¬ ((f_LB_isRow x1) = 0)) → (¬ ((f_LB_isKind x2) = 0)) → (¬ ((f_LB_isStretches x3) = 0)) → (¬ ((f_LB_isWithin x4 1 2) = 0)) → (¬ (x5 < 0)) → (x5 < x4) → Ct G (d + 4) m_CU_cutPoints [.ref 33, .ref (7 + 5 * x1.toNatClampNeg), .int x2, .int x3, .int (I 32 x1.toNatClampNeg), .int x4] (fun r I' J' => Go G (fr G m_LB_simpler (d + 5) P) 69 [some (.ref 0), some (.int x1), none, some (.int x3), none, some (.int x5)] (r.toList ++ []) I' J') I J) (k8 : (¬ ((f_LB_isRow x1) = 0)) → (¬ ((f_LB_isKind x2) = 0)) → (¬ ((f_LB_isStretches x3) = 0)) → (¬ ((f_LB_isWithin x4 1 2) = 0)) → (¬ (x5 < 0)) → (¬ (x5 < x4)) → Go G (fr G m_LB_simpler (d + 5) P) 43 [none, none, none, none, none, none] [] I J) : Go G (fr G m_LB_simpler (d + 5) P) 0 [some (.ref 0), some (.int x1), some (.int x2), some (.int x3), some (.int x4), some (.int x5)] [] I J := by
  refine g_iload_n dc_LB_simpler_0 rfl rfl rfl ?_
  refine g_callS (M := m_LB_isRow) (As := [.int x1]) (rest := []) ok_LB_isRow st_LB_isRow ml_LB_69 rfl rfl (Nat.le_of_ble_eq_true rfl) dc_LB_simpler_1 rfl rOk_fr (c_LB_isRow ?_)
  show Go G (fr G m_LB_simpler (d + 5) P) 4 [some (.ref 0), some (.int x1), some (.int x2), some (.int x3), some (.int x4), some (.int x5)] [.int (f_LB_isRow x1)] I J
  refine g_if_eq (tgt := 43) dc_LB_simpler_4 rfl (by decide) (fun c1 => ?_) (fun c1 => ?_)
  · refine g_weak [none, none, none, none, none, none] trivial ?_
    exact (k1 c1)
  · refine g_iload_n dc_LB_simpler_7 rfl rfl rfl ?_
    refine g_callS (M := m_LB_isKind) (As := [.int x2]) (rest := []) ok_LB_isKind st_LB_isKind ml_LB_116 rfl rfl (Nat.le_of_ble_eq_true rfl) dc_LB_simpler_8 rfl rOk_fr (c_LB_isKind ?_)
    show Go G (fr G m_LB_simpler (d + 5) P) 11 [some (.ref 0), some (.int x1), some (.int x2), some (.int x3), some (.int x4), some (.int x5)] [.int (f_LB_isKind x2)] I J
    refine g_if_eq (tgt := 43) dc_LB_simpler_11 rfl (by decide) (fun c2 => ?_) (fun c2 => ?_)
    · refine g_weak [none, none, none, none, none, none] trivial ?_
      exact (k2 c1 c2)
    · refine g_iload_n dc_LB_simpler_14 rfl rfl rfl ?_
      refine g_callS (M := m_LB_isStretches) (As := [.int x3]) (rest := []) ok_LB_isStretches st_LB_isStretches ml_LB_140 rfl rfl (Nat.le_of_ble_eq_true rfl) dc_LB_simpler_15 rfl rOk_fr (c_LB_isStretches ?_)
      show Go G (fr G m_LB_simpler (d + 5) P) 18 [some (.ref 0), some (.int x1), some (.int x2), some (.int x3), some (.int x4), some (.int x5)] [.int (f_LB_isStretches x3)] I J
      refine g_if_eq (tgt := 43) dc_LB_simpler_18 rfl (by decide) (fun c3 => ?_) (fun c3 => ?_)
      · refine g_weak [none, none, none, none, none, none] trivial ?_
        exact (k3 c1 c2 c3)
      · refine g_iload dc_LB_simpler_21 rfl rfl ?_
        refine g_iconst (v := 1) dc_LB_simpler_23 rfl (by decide) ?_
        refine g_iconst (v := 2) dc_LB_simpler_24 rfl (by decide) ?_
        refine g_callS (M := m_LB_isWithin) (As := [.int x4, .int 1, .int 2]) (rest := []) ok_LB_isWithin st_LB_isWithin ml_LB_108 rfl rfl (Nat.le_of_ble_eq_true rfl) dc_LB_simpler_25 rfl rOk_fr (c_LB_isWithin ?_)
        show Go G (fr G m_LB_simpler (d + 5) P) 28 [some (.ref 0), some (.int x1), some (.int x2), some (.int x3), some (.int x4), some (.int x5)] [.int (f_LB_isWithin x4 1 2)] I J
        refine g_if_eq (tgt := 43) dc_LB_simpler_28 rfl (by decide) (fun c4 => ?_) (fun c4 => ?_)
        · refine g_weak [none, none, none, none, none, none] trivial ?_
          exact (k4 c1 c2 c3 c4)
        · refine g_iload dc_LB_simpler_31 rfl rfl ?_
          refine g_if_lt (tgt := 43) dc_LB_simpler_33 rfl (by decide) (fun c5 => ?_) (fun c5 => ?_)
          · refine g_weak [none, none, none, none, none, none] trivial ?_
            exact (k5 c1 c2 c3 c4 c5)
          · refine g_iload dc_LB_simpler_36 rfl rfl ?_
            refine g_iload dc_LB_simpler_38 rfl rfl ?_
            refine g_ic_lt (tgt := 46) dc_LB_simpler_40 rfl (by decide) (fun c6 => ?_) (fun c6 => ?_)
            · refine g_aload_n dc_LB_simpler_46 rfl rfl rfl ?_
              refine g_get (C := "LevelBreaks") (T := T_LB) (N := 11) (k := 4) (v := .ref 33) sh_0 (by decide) rfl rfl i_LB (by decide) fl_LB_34 (Or.inl rfl) rfl dc_LB_simpler_47 rfl ?_
              refine g_aload_n dc_LB_simpler_50 rfl rfl rfl ?_
              refine g_get (C := "LevelBreaks") (T := T_LB) (N := 11) (k := 1) (v := .ref 6) sh_0 (by decide) rfl rfl i_LB (by decide) fl_LB_19 (Or.inl rfl) rfl dc_LB_simpler_51 rfl ?_
              refine g_iload_n dc_LB_simpler_54 rfl rfl rfl ?_
              refine g_aald (r := (7 + 5 * x1.toNatClampNeg)) sh_6 (by decide) rfl (b6 c1 c2 c3 c4 c5 c6) (now_at (vin_lt (b6 c1 c2 c3 c4 c5 c6))) dc_LB_simpler_55 rfl ?_
              refine g_iload_n dc_LB_simpler_56 rfl rfl rfl ?_
              refine g_iload_n dc_LB_simpler_57 rfl rfl rfl ?_
              refine g_aload_n dc_LB_simpler_58 rfl rfl rfl ?_
              refine g_get (C := "LevelBreaks") (T := T_LB) (N := 11) (k := 3) (v := .ref 32) sh_0 (by decide) rfl rfl i_LB (by decide) fl_LB_27 (Or.inl rfl) rfl dc_LB_simpler_59 rfl ?_
              refine g_iload_n dc_LB_simpler_62 rfl rfl rfl ?_
              refine g_ialdv (v := (I 32 x1.toNatClampNeg)) sh_32 (b6 c1 c2 c3 c4 c5 c6) rfl dc_LB_simpler_63 rfl ?_
              refine g_iload dc_LB_simpler_64 rfl rfl ?_
              refine g_weak [some (.ref 0), some (.int x1), none, some (.int x3), none, some (.int x5)] ⟨rfl, ⟨rfl, ⟨rfl, ⟨rfl, trivial⟩⟩⟩⟩ ?_
              exact g_callV (T := T_CU) (N := 13) (As := [.ref (7 + 5 * x1.toNatClampNeg), .int x2, .int x3, .int (I 32 x1.toNatClampNeg), .int x4]) (rest := []) ok_CU_cutPoints in_CU_cutPoints se_CU_cutPoints ml_LB_195 sh_33 (by decide) rfl rfl rfl (Nat.le_of_ble_eq_true rfl) dc_LB_simpler_66 rfl rOk_fr (k7 c1 c2 c3 c4 c5 c6)
            · refine g_weak [none, none, none, none, none, none] trivial ?_
              exact (k8 c1 c2 c3 c4 c5 c6)
theorem w_LB_simpler_43 {G : GC} {d : Nat} {P : PT} {I : MI} {J : MJ}  (q1 : P (some (.int (-2))) I J) : Go G (fr G m_LB_simpler (d + 5) P) 43 [none, none, none, none, none, none] [] I J := by
  refine g_bipush (v := (-2)) dc_LB_simpler_43 rfl (by decide) ?_
  exact g_iret rfl dc_LB_simpler_45 q1
theorem w_LB_simpler_69 {G : GC} {d : Nat} {P : PT} {I : MI} {J : MJ} {x1 : Int32} {x3 : Int32} {x5 : Int32} {y0 : Int32} (b1 : (¬ y0 = 0) → vp_in x1 4) (k2 : (¬ y0 = 0) → Ct G (d + 4) m_CU_dropped [.ref 33, .int x3, .int x5] (fun r I' J' => Go G (fr G m_LB_simpler (d + 5) P) 94 [none, none, none, none, none, none] (r.toList ++ [.ref ((7 + 5 * x1.toNatClampNeg) + 2)]) I' J') I J) (q3 : (y0 = 0) → P (some (.int (-3))) I J) : Go G (fr G m_LB_simpler (d + 5) P) 69 [some (.ref 0), some (.int x1), none, some (.int x3), none, some (.int x5)] [.int y0] I J := by
  refine g_if_ne (tgt := 75) dc_LB_simpler_69 rfl (by decide) (fun c1 => ?_) (fun c1 => ?_)
  · refine g_aload_n dc_LB_simpler_75 rfl rfl rfl ?_
    refine g_get (C := "LevelBreaks") (T := T_LB) (N := 11) (k := 1) (v := .ref 6) sh_0 (by decide) rfl rfl i_LB (by decide) fl_LB_19 (Or.inl rfl) rfl dc_LB_simpler_76 rfl ?_
    refine g_iload_n dc_LB_simpler_79 rfl rfl rfl ?_
    refine g_aald (r := (7 + 5 * x1.toNatClampNeg)) sh_6 (by decide) rfl (b1 c1) (now_at (vin_lt (b1 c1))) dc_LB_simpler_80 rfl ?_
    refine g_get (C := "LevelBreaks$Points") (T := T_PO) (N := 5) (k := 1) (v := .ref ((7 + 5 * x1.toNatClampNeg) + 2)) (pts_in (b1 c1)).1 (by decide) rfl rfl i_PO (by decide) fl_LB_209 (Or.inl rfl) rfl dc_LB_simpler_81 rfl ?_
    refine g_aload_n dc_LB_simpler_84 rfl rfl rfl ?_
    refine g_get (C := "LevelBreaks") (T := T_LB) (N := 11) (k := 4) (v := .ref 33) sh_0 (by decide) rfl rfl i_LB (by decide) fl_LB_34 (Or.inl rfl) rfl dc_LB_simpler_85 rfl ?_
    refine g_iload_n dc_LB_simpler_88 rfl rfl rfl ?_
    refine g_iload dc_LB_simpler_89 rfl rfl ?_
    refine g_weak [none, none, none, none, none, none] trivial ?_
    exact g_callV (T := T_CU) (N := 13) (As := [.int x3, .int x5]) (rest := [.ref ((7 + 5 * x1.toNatClampNeg) + 2)]) ok_CU_dropped in_CU_dropped se_CU_dropped ml_LB_212 sh_33 (by decide) rfl rfl rfl (Nat.le_of_ble_eq_true rfl) dc_LB_simpler_91 rfl rOk_fr (k2 c1)
  · refine g_bipush (v := (-3)) dc_LB_simpler_72 rfl (by decide) ?_
    exact g_iret rfl dc_LB_simpler_74 (q3 c1)
theorem w_LB_simpler_94 {G : GC} {d : Nat} {P : PT} {I : MI} {J : MJ} {r0 : Nat} (g0 : SHP[r0]? = some (20, 40, [])) {y1 : Int32} (b1 : vp_in y1 40) (q2 : P (some (.int (I r0 y1.toNatClampNeg))) I J) : Go G (fr G m_LB_simpler (d + 5) P) 94 [none, none, none, none, none, none] [.int y1, .ref r0] I J := by
  refine g_ialdv (v := (I r0 y1.toNatClampNeg)) g0 b1 rfl dc_LB_simpler_94 rfl ?_
  exact g_iret rfl dc_LB_simpler_95 q2
theorem dc_LB_since_0 : decode prog_1_method_15_code 0 = .ok (.iload_n 1, 1) := by decide +kernel
theorem dc_LB_since_1 : decode prog_1_method_15_code 1 = .ok (.invokestatic 69, 3) := by decide +kernel
theorem dc_LB_since_4 : decode prog_1_method_15_code 4 = .ok (.ifCond .eq 17, 3) := by decide +kernel
theorem dc_LB_since_7 : decode prog_1_method_15_code 7 = .ok (.iload_n 2, 1) := by decide +kernel
theorem dc_LB_since_8 : decode prog_1_method_15_code 8 = .ok (.invokestatic 116, 3) := by decide +kernel
theorem dc_LB_since_11 : decode prog_1_method_15_code 11 = .ok (.ifCond .eq 10, 3) := by decide +kernel
theorem dc_LB_since_14 : decode prog_1_method_15_code 14 = .ok (.iload_n 3, 1) := by decide +kernel
theorem dc_LB_since_15 : decode prog_1_method_15_code 15 = .ok (.invokestatic 140, 3) := by decide +kernel
theorem dc_LB_since_18 : decode prog_1_method_15_code 18 = .ok (.ifCond .ne 6, 3) := by decide +kernel
theorem dc_LB_since_21 : decode prog_1_method_15_code 21 = .ok (.bipush (-2), 2) := by decide +kernel
theorem dc_LB_since_23 : decode prog_1_method_15_code 23 = .ok (.ireturn, 1) := by decide +kernel
theorem dc_LB_since_24 : decode prog_1_method_15_code 24 = .ok (.aload_n 0, 1) := by decide +kernel
theorem dc_LB_since_25 : decode prog_1_method_15_code 25 = .ok (.iload_n 1, 1) := by decide +kernel
theorem dc_LB_since_26 : decode prog_1_method_15_code 26 = .ok (.iload_n 2, 1) := by decide +kernel
theorem dc_LB_since_27 : decode prog_1_method_15_code 27 = .ok (.iload_n 3, 1) := by decide +kernel
theorem dc_LB_since_28 : decode prog_1_method_15_code 28 = .ok (.invokevirtual 143, 3) := by decide +kernel
theorem dc_LB_since_31 : decode prog_1_method_15_code 31 = .ok (.ifCond .ne 6, 3) := by decide +kernel
theorem dc_LB_since_34 : decode prog_1_method_15_code 34 = .ok (.bipush (-3), 2) := by decide +kernel
theorem dc_LB_since_36 : decode prog_1_method_15_code 36 = .ok (.ireturn, 1) := by decide +kernel
theorem dc_LB_since_37 : decode prog_1_method_15_code 37 = .ok (.aload_n 0, 1) := by decide +kernel
theorem dc_LB_since_38 : decode prog_1_method_15_code 38 = .ok (.aload_n 0, 1) := by decide +kernel
theorem dc_LB_since_39 : decode prog_1_method_15_code 39 = .ok (.getfield 19, 3) := by decide +kernel
theorem dc_LB_since_42 : decode prog_1_method_15_code 42 = .ok (.iload_n 1, 1) := by decide +kernel
theorem dc_LB_since_43 : decode prog_1_method_15_code 43 = .ok (.aaload, 1) := by decide +kernel
theorem dc_LB_since_44 : decode prog_1_method_15_code 44 = .ok (.iload_n 3, 1) := by decide +kernel
theorem dc_LB_since_45 : decode prog_1_method_15_code 45 = .ok (.invokevirtual 177, 3) := by decide +kernel
theorem dc_LB_since_48 : decode prog_1_method_15_code 48 = .ok (.aload_n 0, 1) := by decide +kernel
theorem dc_LB_since_49 : decode prog_1_method_15_code 49 = .ok (.getfield 10, 3) := by decide +kernel
theorem dc_LB_since_52 : decode prog_1_method_15_code 52 = .ok (.aload_n 0, 1) := by decide +kernel
theorem dc_LB_since_53 : decode prog_1_method_15_code 53 = .ok (.getfield 62, 3) := by decide +kernel
theorem dc_LB_since_56 : decode prog_1_method_15_code 56 = .ok (.invokevirtual 181, 3) := by decide +kernel
theorem dc_LB_since_59 : decode prog_1_method_15_code 59 = .ok (.istore 4, 2) := by decide +kernel
theorem dc_LB_since_61 : decode prog_1_method_15_code 61 = .ok (.aload_n 0, 1) := by decide +kernel
theorem dc_LB_since_62 : decode prog_1_method_15_code 62 = .ok (.getfield 62, 3) := by decide +kernel
theorem dc_LB_since_65 : decode prog_1_method_15_code 65 = .ok (.istore 5, 2) := by decide +kernel
theorem dc_LB_since_67 : decode prog_1_method_15_code 67 = .ok (.iconst 0, 1) := by decide +kernel
theorem dc_LB_since_68 : decode prog_1_method_15_code 68 = .ok (.istore 6, 2) := by decide +kernel
theorem dc_LB_since_70 : decode prog_1_method_15_code 70 = .ok (.iload 6, 2) := by decide +kernel
theorem dc_LB_since_72 : decode prog_1_method_15_code 72 = .ok (.sipush 200, 3) := by decide +kernel
theorem dc_LB_since_75 : decode prog_1_method_15_code 75 = .ok (.if_icmp .ge 107, 3) := by decide +kernel
theorem dc_LB_since_78 : decode prog_1_method_15_code 78 = .ok (.aload_n 0, 1) := by decide +kernel
theorem dc_LB_since_79 : decode prog_1_method_15_code 79 = .ok (.getfield 10, 3) := by decide +kernel
theorem dc_LB_since_82 : decode prog_1_method_15_code 82 = .ok (.iload_n 1, 1) := by decide +kernel
theorem dc_LB_since_83 : decode prog_1_method_15_code 83 = .ok (.iload 4, 2) := by decide +kernel
theorem dc_LB_since_85 : decode prog_1_method_15_code 85 = .ok (.invokevirtual 184, 3) := by decide +kernel
theorem dc_LB_since_88 : decode prog_1_method_15_code 88 = .ok (.istore 7, 2) := by decide +kernel
theorem dc_LB_since_90 : decode prog_1_method_15_code 90 = .ok (.iload 7, 2) := by decide +kernel
theorem dc_LB_since_92 : decode prog_1_method_15_code 92 = .ok (.iconst (-1), 1) := by decide +kernel
theorem dc_LB_since_93 : decode prog_1_method_15_code 93 = .ok (.if_icmp .ne 6, 3) := by decide +kernel
theorem dc_LB_since_96 : decode prog_1_method_15_code 96 = .ok (.iload 5, 2) := by decide +kernel
theorem dc_LB_since_98 : decode prog_1_method_15_code 98 = .ok (.ireturn, 1) := by decide +kernel
theorem dc_LB_since_99 : decode prog_1_method_15_code 99 = .ok (.aload_n 0, 1) := by decide +kernel
theorem dc_LB_since_100 : decode prog_1_method_15_code 100 = .ok (.getfield 10, 3) := by decide +kernel
theorem dc_LB_since_103 : decode prog_1_method_15_code 103 = .ok (.getfield 188, 3) := by decide +kernel
theorem dc_LB_since_106 : decode prog_1_method_15_code 106 = .ok (.iload 7, 2) := by decide +kernel
theorem dc_LB_since_108 : decode prog_1_method_15_code 108 = .ok (.iaload, 1) := by decide +kernel
theorem dc_LB_since_109 : decode prog_1_method_15_code 109 = .ok (.istore 5, 2) := by decide +kernel
theorem dc_LB_since_111 : decode prog_1_method_15_code 111 = .ok (.aload_n 0, 1) := by decide +kernel
theorem dc_LB_since_112 : decode prog_1_method_15_code 112 = .ok (.getfield 10, 3) := by decide +kernel
theorem dc_LB_since_115 : decode prog_1_method_15_code 115 = .ok (.iload 5, 2) := by decide +kernel
theorem dc_LB_since_117 : decode prog_1_method_15_code 117 = .ok (.iconst 1, 1) := by decide +kernel
theorem dc_LB_since_118 : decode prog_1_method_15_code 118 = .ok (.isub, 1) := by decide +kernel
theorem dc_LB_since_119 : decode prog_1_method_15_code 119 = .ok (.invokevirtual 181, 3) := by decide +kernel
theorem dc_LB_since_122 : decode prog_1_method_15_code 122 = .ok (.istore 4, 2) := by decide +kernel
theorem dc_LB_since_124 : decode prog_1_method_15_code 124 = .ok (.aload_n 0, 1) := by decide +kernel
theorem dc_LB_since_125 : decode prog_1_method_15_code 125 = .ok (.getfield 10, 3) := by decide +kernel
theorem dc_LB_since_128 : decode prog_1_method_15_code 128 = .ok (.aload_n 0, 1) := by decide +kernel
theorem dc_LB_since_129 : decode prog_1_method_15_code 129 = .ok (.getfield 23, 3) := by decide +kernel
theorem dc_LB_since_132 : decode prog_1_method_15_code 132 = .ok (.iload_n 1, 1) := by decide +kernel
theorem dc_LB_since_133 : decode prog_1_method_15_code 133 = .ok (.iload 4, 2) := by decide +kernel
theorem dc_LB_since_135 : decode prog_1_method_15_code 135 = .ok (.invokevirtual 191, 3) := by decide +kernel
theorem dc_LB_since_138 : decode prog_1_method_15_code 138 = .ok (.aload_n 0, 1) := by decide +kernel
theorem dc_LB_since_139 : decode prog_1_method_15_code 139 = .ok (.getfield 34, 3) := by decide +kernel
theorem dc_LB_since_142 : decode prog_1_method_15_code 142 = .ok (.aload_n 0, 1) := by decide +kernel
theorem dc_LB_since_143 : decode prog_1_method_15_code 143 = .ok (.getfield 23, 3) := by decide +kernel
theorem dc_LB_since_146 : decode prog_1_method_15_code 146 = .ok (.iload_n 2, 1) := by decide +kernel
theorem dc_LB_since_147 : decode prog_1_method_15_code 147 = .ok (.iload_n 3, 1) := by decide +kernel
theorem dc_LB_since_148 : decode prog_1_method_15_code 148 = .ok (.aload_n 0, 1) := by decide +kernel
theorem dc_LB_since_149 : decode prog_1_method_15_code 149 = .ok (.getfield 27, 3) := by decide +kernel
theorem dc_LB_since_152 : decode prog_1_method_15_code 152 = .ok (.iload_n 1, 1) := by decide +kernel
theorem dc_LB_since_153 : decode prog_1_method_15_code 153 = .ok (.iaload, 1) := by decide +kernel
theorem dc_LB_since_154 : decode prog_1_method_15_code 154 = .ok (.iconst 0, 1) := by decide +kernel
theorem dc_LB_since_155 : decode prog_1_method_15_code 155 = .ok (.invokevirtual 195, 3) := by decide +kernel
theorem dc_LB_since_158 : decode prog_1_method_15_code 158 = .ok (.ifCond .eq 15, 3) := by decide +kernel
theorem dc_LB_since_161 : decode prog_1_method_15_code 161 = .ok (.aload_n 0, 1) := by decide +kernel
theorem dc_LB_since_162 : decode prog_1_method_15_code 162 = .ok (.aload_n 0, 1) := by decide +kernel
theorem dc_LB_since_163 : decode prog_1_method_15_code 163 = .ok (.getfield 23, 3) := by decide +kernel
theorem dc_LB_since_166 : decode prog_1_method_15_code 166 = .ok (.iload_n 3, 1) := by decide +kernel
theorem dc_LB_since_167 : decode prog_1_method_15_code 167 = .ok (.invokevirtual 199, 3) := by decide +kernel
theorem dc_LB_since_170 : decode prog_1_method_15_code 170 = .ok (.ifCond .ne 6, 3) := by decide +kernel
theorem dc_LB_since_173 : decode prog_1_method_15_code 173 = .ok (.iload 5, 2) := by decide +kernel
theorem dc_LB_since_175 : decode prog_1_method_15_code 175 = .ok (.ireturn, 1) := by decide +kernel
theorem dc_LB_since_176 : decode prog_1_method_15_code 176 = .ok (.iinc 6 1, 3) := by decide +kernel
theorem dc_LB_since_179 : decode prog_1_method_15_code 179 = .ok (.goto (-109), 3) := by decide +kernel
theorem dc_LB_since_182 : decode prog_1_method_15_code 182 = .ok (.iload 5, 2) := by decide +kernel
theorem dc_LB_since_184 : decode prog_1_method_15_code 184 = .ok (.ireturn, 1) := by decide +kernel
theorem w_LB_since_0 {G : GC} {d : Nat} {P : PT} {I : MI} {J : MJ} {x1 : Int32} {x2 : Int32} {x3 : Int32} (k1 : ((f_LB_isRow x1) = 0) → Go G (fr G m_LB_since (d + 6) P) 21 [none, none, none, none, none, none, none, none] [] I J) (k2 : (¬ ((f_LB_isRow x1) = 0)) → ((f_LB_isKind x2) = 0) → Go G (fr G m_LB_since (d + 6) P) 21 [none, none, none, none, none, none, none, none] [] I J) (k3 : (¬ ((f_LB_isRow x1) = 0)) → (¬ ((f_LB_isKind x2) = 0)) → (¬ (f_LB_isStretches x3) = 0) → Ct G (d + 5) m_LB_cutRow [.ref 0, .int x1, .int x2, .int x3] (fun r I' J' => Go G (fr G m_LB_since (d + 6) P) 31 [some (.ref 0), some (.int x1), some (.int x2), some (.int x3), none, none, none, none] (r.toList ++ []) I' J') I J) (k4 : (¬ ((f_LB_isRow x1) = 0)) → (¬ ((f_LB_isKind x2) = 0)) → ((f_LB_isStretches x3) = 0) → Go G (fr G m_LB_since (d + 6) P) 21 [none, none, none, none, none, none, none, none] [] I J) : Go G (fr G m_LB_since (d + 6) P) 0 [some (.ref 0), some (.int x1), some (.int x2), some (.int x3), none, none, none, none] [] I J := by
  refine g_iload_n dc_LB_since_0 rfl rfl rfl ?_
  refine g_callS (M := m_LB_isRow) (As := [.int x1]) (rest := []) ok_LB_isRow st_LB_isRow ml_LB_69 rfl rfl (Nat.le_of_ble_eq_true rfl) dc_LB_since_1 rfl rOk_fr (c_LB_isRow ?_)
  show Go G (fr G m_LB_since (d + 6) P) 4 [some (.ref 0), some (.int x1), some (.int x2), some (.int x3), none, none, none, none] [.int (f_LB_isRow x1)] I J
  refine g_if_eq (tgt := 21) dc_LB_since_4 rfl (by decide) (fun c1 => ?_) (fun c1 => ?_)
  · refine g_weak [none, none, none, none, none, none, none, none] trivial ?_
    exact (k1 c1)
  · refine g_iload_n dc_LB_since_7 rfl rfl rfl ?_
    refine g_callS (M := m_LB_isKind) (As := [.int x2]) (rest := []) ok_LB_isKind st_LB_isKind ml_LB_116 rfl rfl (Nat.le_of_ble_eq_true rfl) dc_LB_since_8 rfl rOk_fr (c_LB_isKind ?_)
    show Go G (fr G m_LB_since (d + 6) P) 11 [some (.ref 0), some (.int x1), some (.int x2), some (.int x3), none, none, none, none] [.int (f_LB_isKind x2)] I J
    refine g_if_eq (tgt := 21) dc_LB_since_11 rfl (by decide) (fun c2 => ?_) (fun c2 => ?_)
    · refine g_weak [none, none, none, none, none, none, none, none] trivial ?_
      exact (k2 c1 c2)
    · refine g_iload_n dc_LB_since_14 rfl rfl rfl ?_
      refine g_callS (M := m_LB_isStretches) (As := [.int x3]) (rest := []) ok_LB_isStretches st_LB_isStretches ml_LB_140 rfl rfl (Nat.le_of_ble_eq_true rfl) dc_LB_since_15 rfl rOk_fr (c_LB_isStretches ?_)
      show Go G (fr G m_LB_since (d + 6) P) 18 [some (.ref 0), some (.int x1), some (.int x2), some (.int x3), none, none, none, none] [.int (f_LB_isStretches x3)] I J
      refine g_if_ne (tgt := 24) dc_LB_since_18 rfl (by decide) (fun c3 => ?_) (fun c3 => ?_)
      · refine g_aload_n dc_LB_since_24 rfl rfl rfl ?_
        refine g_iload_n dc_LB_since_25 rfl rfl rfl ?_
        refine g_iload_n dc_LB_since_26 rfl rfl rfl ?_
        refine g_iload_n dc_LB_since_27 rfl rfl rfl ?_
        exact g_callV (T := T_LB) (N := 11) (As := [.int x1, .int x2, .int x3]) (rest := []) ok_LB_cutRow in_LB_cutRow se_LB_cutRow ml_LB_143 sh_0 (by decide) rfl rfl rfl (Nat.le_of_ble_eq_true rfl) dc_LB_since_28 rfl rOk_fr (k3 c1 c2 c3)
      · refine g_weak [none, none, none, none, none, none, none, none] trivial ?_
        exact (k4 c1 c2 c3)
theorem w_LB_since_21 {G : GC} {d : Nat} {P : PT} {I : MI} {J : MJ}  (q1 : P (some (.int (-2))) I J) : Go G (fr G m_LB_since (d + 6) P) 21 [none, none, none, none, none, none, none, none] [] I J := by
  refine g_bipush (v := (-2)) dc_LB_since_21 rfl (by decide) ?_
  exact g_iret rfl dc_LB_since_23 q1
theorem w_LB_since_31 {G : GC} {d : Nat} {P : PT} {I : MI} {J : MJ} {x1 : Int32} {x2 : Int32} {x3 : Int32} {y0 : Int32} (b1 : (¬ y0 = 0) → vp_in x1 4) (k2 : (¬ y0 = 0) → Ct G (d + 5) m_LB_keepStartDays [.ref 0, .ref (7 + 5 * x1.toNatClampNeg), .int x3] (fun r I' J' => Go G (fr G m_LB_since (d + 6) P) 48 [some (.ref 0), some (.int x1), some (.int x2), some (.int x3), none, none, none, none] (r.toList ++ []) I' J') I J) (q3 : (y0 = 0) → P (some (.int (-3))) I J) : Go G (fr G m_LB_since (d + 6) P) 31 [some (.ref 0), some (.int x1), some (.int x2), some (.int x3), none, none, none, none] [.int y0] I J := by
  refine g_if_ne (tgt := 37) dc_LB_since_31 rfl (by decide) (fun c1 => ?_) (fun c1 => ?_)
  · refine g_aload_n dc_LB_since_37 rfl rfl rfl ?_
    refine g_aload_n dc_LB_since_38 rfl rfl rfl ?_
    refine g_get (C := "LevelBreaks") (T := T_LB) (N := 11) (k := 1) (v := .ref 6) sh_0 (by decide) rfl rfl i_LB (by decide) fl_LB_19 (Or.inl rfl) rfl dc_LB_since_39 rfl ?_
    refine g_iload_n dc_LB_since_42 rfl rfl rfl ?_
    refine g_aald (r := (7 + 5 * x1.toNatClampNeg)) sh_6 (by decide) rfl (b1 c1) (now_at (vin_lt (b1 c1))) dc_LB_since_43 rfl ?_
    refine g_iload_n dc_LB_since_44 rfl rfl rfl ?_
    exact g_callV (T := T_LB) (N := 11) (As := [.ref (7 + 5 * x1.toNatClampNeg), .int x3]) (rest := []) ok_LB_keepStartDays in_LB_keepStartDays se_LB_keepStartDays ml_LB_177 sh_0 (by decide) rfl rfl rfl (Nat.le_of_ble_eq_true rfl) dc_LB_since_45 rfl rOk_fr (k2 c1)
  · refine g_bipush (v := (-3)) dc_LB_since_34 rfl (by decide) ?_
    exact g_iret rfl dc_LB_since_36 (q3 c1)
theorem w_LB_since_48 {G : GC} {d : Nat} {P : PT} {I : MI} {J : MJ} {x1 : Int32} {x2 : Int32} {x3 : Int32} (k1 : Ct G (d + 5) m_LE_toldUpTo [.ref 1, .int (I 0 9)] (fun r I' J' => Go G (fr G m_LB_since (d + 6) P) 59 [some (.ref 0), some (.int x1), some (.int x2), some (.int x3), none, none, none, none] (r.toList ++ []) I' J') I J) : Go G (fr G m_LB_since (d + 6) P) 48 [some (.ref 0), some (.int x1), some (.int x2), some (.int x3), none, none, none, none] [] I J := by
  refine g_aload_n dc_LB_since_48 rfl rfl rfl ?_
  refine g_get (C := "LevelBreaks") (T := T_LB) (N := 11) (k := 0) (v := .ref 1) sh_0 (by decide) rfl rfl i_LB (by decide) fl_LB_10 (Or.inl rfl) rfl dc_LB_since_49 rfl ?_
  refine g_aload_n dc_LB_since_52 rfl rfl rfl ?_
  refine g_get (C := "LevelBreaks") (T := T_LB) (N := 11) (k := 9) (v := .int (I 0 9)) sh_0 (by decide) rfl rfl i_LB (by decide) fl_LB_62 (Or.inl rfl) rfl dc_LB_since_53 rfl ?_
  exact g_callV (T := T_LE) (N := 5) (As := [.int (I 0 9)]) (rest := []) ok_LE_toldUpTo in_LE_toldUpTo se_LE_toldUpTo ml_LB_181 sh_1 (by decide) rfl rfl rfl (Nat.le_of_ble_eq_true rfl) dc_LB_since_56 rfl rOk_fr k1
theorem w_LB_since_59 {G : GC} {d : Nat} {P : PT} {I : MI} {J : MJ} {x1 : Int32} {x2 : Int32} {x3 : Int32} {y0 : Int32} (k1 : Go G (fr G m_LB_since (d + 6) P) 70 [some (.ref 0), some (.int x1), some (.int x2), some (.int x3), some (.int y0), some (.int (I 0 9)), some (.int 0), none] [] I J) : Go G (fr G m_LB_since (d + 6) P) 59 [some (.ref 0), some (.int x1), some (.int x2), some (.int x3), none, none, none, none] [.int y0] I J := by
  refine g_istore (L' := [some (.ref 0), some (.int x1), some (.int x2), some (.int x3), some (.int y0), none, none, none]) dc_LB_since_59 rfl (Nat.le_of_ble_eq_true rfl) rfl ?_
  refine g_aload_n dc_LB_since_61 rfl rfl rfl ?_
  refine g_get (C := "LevelBreaks") (T := T_LB) (N := 11) (k := 9) (v := .int (I 0 9)) sh_0 (by decide) rfl rfl i_LB (by decide) fl_LB_62 (Or.inl rfl) rfl dc_LB_since_62 rfl ?_
  refine g_istore (L' := [some (.ref 0), some (.int x1), some (.int x2), some (.int x3), some (.int y0), some (.int (I 0 9)), none, none]) dc_LB_since_65 rfl (Nat.le_of_ble_eq_true rfl) rfl ?_
  refine g_iconst (v := 0) dc_LB_since_67 rfl (by decide) ?_
  refine g_istore (L' := [some (.ref 0), some (.int x1), some (.int x2), some (.int x3), some (.int y0), some (.int (I 0 9)), some (.int 0), none]) dc_LB_since_68 rfl (Nat.le_of_ble_eq_true rfl) rfl ?_
  exact k1
theorem w_LB_since_70 {G : GC} {d : Nat} {P : PT} {I : MI} {J : MJ} {x1 : Int32} {x2 : Int32} {x3 : Int32} {x4 : Int32} {x5 : Int32} {x6 : Int32} (q1 : (200 ≤ x6) → P (some (.int x5)) I J) (k2 : (¬ (200 ≤ x6)) → Ct G (d + 5) m_LE_lastOf [.ref 1, .int x1, .int x4] (fun r I' J' => Go G (fr G m_LB_since (d + 6) P) 88 [some (.ref 0), some (.int x1), some (.int x2), some (.int x3), none, some (.int x5), some (.int x6), none] (r.toList ++ []) I' J') I J) : Go G (fr G m_LB_since (d + 6) P) 70 [some (.ref 0), some (.int x1), some (.int x2), some (.int x3), some (.int x4), some (.int x5), some (.int x6), none] [] I J := by
  refine g_iload dc_LB_since_70 rfl rfl ?_
  refine g_sipush (v := 200) dc_LB_since_72 rfl (by decide) ?_
  refine g_ic_ge (tgt := 182) dc_LB_since_75 rfl (by decide) (fun c1 => ?_) (fun c1 => ?_)
  · refine g_iload dc_LB_since_182 rfl rfl ?_
    exact g_iret rfl dc_LB_since_184 (q1 c1)
  · refine g_aload_n dc_LB_since_78 rfl rfl rfl ?_
    refine g_get (C := "LevelBreaks") (T := T_LB) (N := 11) (k := 0) (v := .ref 1) sh_0 (by decide) rfl rfl i_LB (by decide) fl_LB_10 (Or.inl rfl) rfl dc_LB_since_79 rfl ?_
    refine g_iload_n dc_LB_since_82 rfl rfl rfl ?_
    refine g_iload dc_LB_since_83 rfl rfl ?_
    refine g_weak [some (.ref 0), some (.int x1), some (.int x2), some (.int x3), none, some (.int x5), some (.int x6), none] ⟨rfl, ⟨rfl, ⟨rfl, ⟨rfl, ⟨rfl, ⟨rfl, trivial⟩⟩⟩⟩⟩⟩ ?_
    exact g_callV (T := T_LE) (N := 5) (As := [.int x1, .int x4]) (rest := []) ok_LE_lastOf in_LE_lastOf se_LE_lastOf ml_LB_184 sh_1 (by decide) rfl rfl rfl (Nat.le_of_ble_eq_true rfl) dc_LB_since_85 rfl rOk_fr (k2 c1)
theorem w_LB_since_88 {G : GC} {d : Nat} {P : PT} {I : MI} {J : MJ} {x1 : Int32} {x2 : Int32} {x3 : Int32} {x5 : Int32} {x6 : Int32} {y0 : Int32} (b1 : (¬ y0 = (-1)) → vp_in y0 200) (k2 : (¬ y0 = (-1)) → Ct G (d + 5) m_LE_toldUpTo [.ref 1, .int ((I 5 y0.toNatClampNeg) - 1)] (fun r I' J' => Go G (fr G m_LB_since (d + 6) P) 122 [some (.ref 0), some (.int x1), some (.int x2), some (.int x3), none, some (.int (I 5 y0.toNatClampNeg)), some (.int x6), none] (r.toList ++ []) I' J') I J) (q3 : (y0 = (-1)) → P (some (.int x5)) I J) : Go G (fr G m_LB_since (d + 6) P) 88 [some (.ref 0), some (.int x1), some (.int x2), some (.int x3), none, some (.int x5), some (.int x6), none] [.int y0] I J := by
  refine g_istore (L' := [some (.ref 0), some (.int x1), some (.int x2), some (.int x3), none, some (.int x5), some (.int x6), some (.int y0)]) dc_LB_since_88 rfl (Nat.le_of_ble_eq_true rfl) rfl ?_
  refine g_iload dc_LB_since_90 rfl rfl ?_
  refine g_iconst (v := (-1)) dc_LB_since_92 rfl (by decide) ?_
  refine g_ic_ne (tgt := 99) dc_LB_since_93 rfl (by decide) (fun c1 => ?_) (fun c1 => ?_)
  · refine g_aload_n dc_LB_since_99 rfl rfl rfl ?_
    refine g_get (C := "LevelBreaks") (T := T_LB) (N := 11) (k := 0) (v := .ref 1) sh_0 (by decide) rfl rfl i_LB (by decide) fl_LB_10 (Or.inl rfl) rfl dc_LB_since_100 rfl ?_
    refine g_get (C := "LevelBreaks$Ledger") (T := T_LE) (N := 5) (k := 3) (v := .ref 5) sh_1 (by decide) rfl rfl i_LE (by decide) fl_LB_188 (Or.inl rfl) rfl dc_LB_since_103 rfl ?_
    refine g_iload dc_LB_since_106 rfl rfl ?_
    refine g_ialdv (v := (I 5 y0.toNatClampNeg)) sh_5 (b1 c1) rfl dc_LB_since_108 rfl ?_
    refine g_istore (L' := [some (.ref 0), some (.int x1), some (.int x2), some (.int x3), none, some (.int (I 5 y0.toNatClampNeg)), some (.int x6), some (.int y0)]) dc_LB_since_109 rfl (Nat.le_of_ble_eq_true rfl) rfl ?_
    refine g_aload_n dc_LB_since_111 rfl rfl rfl ?_
    refine g_get (C := "LevelBreaks") (T := T_LB) (N := 11) (k := 0) (v := .ref 1) sh_0 (by decide) rfl rfl i_LB (by decide) fl_LB_10 (Or.inl rfl) rfl dc_LB_since_112 rfl ?_
    refine g_iload dc_LB_since_115 rfl rfl ?_
    refine g_iconst (v := 1) dc_LB_since_117 rfl (by decide) ?_
    refine g_isub dc_LB_since_118 rfl ?_
    refine g_weak [some (.ref 0), some (.int x1), some (.int x2), some (.int x3), none, some (.int (I 5 y0.toNatClampNeg)), some (.int x6), none] ⟨rfl, ⟨rfl, ⟨rfl, ⟨rfl, ⟨rfl, ⟨rfl, trivial⟩⟩⟩⟩⟩⟩ ?_
    exact g_callV (T := T_LE) (N := 5) (As := [.int ((I 5 y0.toNatClampNeg) - 1)]) (rest := []) ok_LE_toldUpTo in_LE_toldUpTo se_LE_toldUpTo ml_LB_181 sh_1 (by decide) rfl rfl rfl (Nat.le_of_ble_eq_true rfl) dc_LB_since_119 rfl rOk_fr (k2 c1)
  · refine g_iload dc_LB_since_96 rfl rfl ?_
    exact g_iret rfl dc_LB_since_98 (q3 c1)
theorem w_LB_since_122 {G : GC} {d : Nat} {P : PT} {I : MI} {J : MJ} {x1 : Int32} {x2 : Int32} {x3 : Int32} {x5 : Int32} {x6 : Int32} {y0 : Int32} (k1 : Ct G (d + 5) m_LE_load [.ref 1, .ref 27, .int x1, .int y0] (fun r I' J' => Go G (fr G m_LB_since (d + 6) P) 138 [some (.ref 0), some (.int x1), some (.int x2), some (.int x3), some (.int y0), some (.int x5), some (.int x6), none] (r.toList ++ []) I' J') I J) : Go G (fr G m_LB_since (d + 6) P) 122 [some (.ref 0), some (.int x1), some (.int x2), some (.int x3), none, some (.int x5), some (.int x6), none] [.int y0] I J := by
  refine g_istore (L' := [some (.ref 0), some (.int x1), some (.int x2), some (.int x3), some (.int y0), some (.int x5), some (.int x6), none]) dc_LB_since_122 rfl (Nat.le_of_ble_eq_true rfl) rfl ?_
  refine g_aload_n dc_LB_since_124 rfl rfl rfl ?_
  refine g_get (C := "LevelBreaks") (T := T_LB) (N := 11) (k := 0) (v := .ref 1) sh_0 (by decide) rfl rfl i_LB (by decide) fl_LB_10 (Or.inl rfl) rfl dc_LB_since_125 rfl ?_
  refine g_aload_n dc_LB_since_128 rfl rfl rfl ?_
  refine g_get (C := "LevelBreaks") (T := T_LB) (N := 11) (k := 2) (v := .ref 27) sh_0 (by decide) rfl rfl i_LB (by decide) fl_LB_23 (Or.inl rfl) rfl dc_LB_since_129 rfl ?_
  refine g_iload_n dc_LB_since_132 rfl rfl rfl ?_
  refine g_iload dc_LB_since_133 rfl rfl ?_
  exact g_callV (T := T_LE) (N := 5) (As := [.ref 27, .int x1, .int y0]) (rest := []) ok_LE_load in_LE_load se_LE_load ml_LB_191 sh_1 (by decide) rfl rfl rfl (Nat.le_of_ble_eq_true rfl) dc_LB_since_135 rfl rOk_fr k1
theorem w_LB_since_138 {G : GC} {d : Nat} {P : PT} {I : MI} {J : MJ} {x1 : Int32} {x2 : Int32} {x3 : Int32} {x4 : Int32} {x5 : Int32} {x6 : Int32} (b1 : vp_in x1 4) (k2 : Ct G (d + 5) m_CU_cutPoints [.ref 33, .ref 27, .int x2, .int x3, .int (I 32 x1.toNatClampNeg), .int 0] (fun r I' J' => Go G (fr G m_LB_since (d + 6) P) 158 [some (.ref 0), some (.int x1), some (.int x2), some (.int x3), some (.int x4), some (.int x5), some (.int x6), none] (r.toList ++ []) I' J') I J) : Go G (fr G m_LB_since (d + 6) P) 138 [some (.ref 0), some (.int x1), some (.int x2), some (.int x3), some (.int x4), some (.int x5), some (.int x6), none] [] I J := by
  refine g_aload_n dc_LB_since_138 rfl rfl rfl ?_
  refine g_get (C := "LevelBreaks") (T := T_LB) (N := 11) (k := 4) (v := .ref 33) sh_0 (by decide) rfl rfl i_LB (by decide) fl_LB_34 (Or.inl rfl) rfl dc_LB_since_139 rfl ?_
  refine g_aload_n dc_LB_since_142 rfl rfl rfl ?_
  refine g_get (C := "LevelBreaks") (T := T_LB) (N := 11) (k := 2) (v := .ref 27) sh_0 (by decide) rfl rfl i_LB (by decide) fl_LB_23 (Or.inl rfl) rfl dc_LB_since_143 rfl ?_
  refine g_iload_n dc_LB_since_146 rfl rfl rfl ?_
  refine g_iload_n dc_LB_since_147 rfl rfl rfl ?_
  refine g_aload_n dc_LB_since_148 rfl rfl rfl ?_
  refine g_get (C := "LevelBreaks") (T := T_LB) (N := 11) (k := 3) (v := .ref 32) sh_0 (by decide) rfl rfl i_LB (by decide) fl_LB_27 (Or.inl rfl) rfl dc_LB_since_149 rfl ?_
  refine g_iload_n dc_LB_since_152 rfl rfl rfl ?_
  refine g_ialdv (v := (I 32 x1.toNatClampNeg)) sh_32 b1 rfl dc_LB_since_153 rfl ?_
  refine g_iconst (v := 0) dc_LB_since_154 rfl (by decide) ?_
  exact g_callV (T := T_CU) (N := 13) (As := [.ref 27, .int x2, .int x3, .int (I 32 x1.toNatClampNeg), .int 0]) (rest := []) ok_CU_cutPoints in_CU_cutPoints se_CU_cutPoints ml_LB_195 sh_33 (by decide) rfl rfl rfl (Nat.le_of_ble_eq_true rfl) dc_LB_since_155 rfl rOk_fr k2
theorem w_LB_since_158 {G : GC} {d : Nat} {P : PT} {I : MI} {J : MJ} {x1 : Int32} {x2 : Int32} {x3 : Int32} {x4 : Int32} {x5 : Int32} {x6 : Int32} {y0 : Int32} (k1 : (y0 = 0) → Go G (fr G m_LB_since (d + 6) P) 173 [none, none, none, none, none, some (.int x5), none, none] [] I J) (k2 : (¬ (y0 = 0)) → Ct G (d + 5) m_LB_startsAsKept [.ref 0, .ref 27, .int x3] (fun r I' J' => Go G (fr G m_LB_since (d + 6) P) 170 [some (.ref 0), some (.int x1), some (.int x2), some (.int x3), some (.int x4), some (.int x5), some (.int x6), none] (r.toList ++ []) I' J') I J) : Go G (fr G m_LB_since (d + 6) P) 158 [some (.ref 0), some (.int x1), some (.int x2), some (.int x3), some (.int x4), some (.int x5), some (.int x6), none] [.int y0] I J := by
  refine g_if_eq (tgt := 173) dc_LB_since_158 rfl (by decide) (fun c1 => ?_) (fun c1 => ?_)
  · refine g_weak [none, none, none, none, none, some (.int x5), none, none] ⟨rfl, trivial⟩ ?_
    exact (k1 c1)
  · refine g_aload_n dc_LB_since_161 rfl rfl rfl ?_
    refine g_aload_n dc_LB_since_162 rfl rfl rfl ?_
    refine g_get (C := "LevelBreaks") (T := T_LB) (N := 11) (k := 2) (v := .ref 27) sh_0 (by decide) rfl rfl i_LB (by decide) fl_LB_23 (Or.inl rfl) rfl dc_LB_since_163 rfl ?_
    refine g_iload_n dc_LB_since_166 rfl rfl rfl ?_
    exact g_callV (T := T_LB) (N := 11) (As := [.ref 27, .int x3]) (rest := []) ok_LB_startsAsKept in_LB_startsAsKept se_LB_startsAsKept ml_LB_199 sh_0 (by decide) rfl rfl rfl (Nat.le_of_ble_eq_true rfl) dc_LB_since_167 rfl rOk_fr (k2 c1)
theorem w_LB_since_170 {G : GC} {d : Nat} {P : PT} {I : MI} {J : MJ} {x1 : Int32} {x2 : Int32} {x3 : Int32} {x4 : Int32} {x5 : Int32} {x6 : Int32} {y0 : Int32} (k1 : (¬ y0 = 0) → Go G (fr G m_LB_since (d + 6) P) 70 [some (.ref 0), some (.int x1), some (.int x2), some (.int x3), some (.int x4), some (.int x5), some (.int (x6 + 1)), none] [] I J) (k2 : (y0 = 0) → Go G (fr G m_LB_since (d + 6) P) 173 [none, none, none, none, none, some (.int x5), none, none] [] I J) : Go G (fr G m_LB_since (d + 6) P) 170 [some (.ref 0), some (.int x1), some (.int x2), some (.int x3), some (.int x4), some (.int x5), some (.int x6), none] [.int y0] I J := by
  refine g_if_ne (tgt := 176) dc_LB_since_170 rfl (by decide) (fun c1 => ?_) (fun c1 => ?_)
  · refine g_iinc (v := (x6 + 1)) (L' := [some (.ref 0), some (.int x1), some (.int x2), some (.int x3), some (.int x4), some (.int x5), some (.int (x6 + 1)), none]) dc_LB_since_176 rfl rfl (by rw [show Int32.ofInt 1 = 1 from by decide]) (Nat.le_of_ble_eq_true rfl) rfl ?_
    refine g_goto (tgt := 70) dc_LB_since_179 (by decide) ?_
    exact (k1 c1)
  · refine g_weak [none, none, none, none, none, some (.int x5), none, none] ⟨rfl, trivial⟩ ?_
    exact (k2 c1)
theorem w_LB_since_173 {G : GC} {d : Nat} {P : PT} {I : MI} {J : MJ} {x5 : Int32} (q1 : P (some (.int x5)) I J) : Go G (fr G m_LB_since (d + 6) P) 173 [none, none, none, none, none, some (.int x5), none, none] [] I J := by
  refine g_iload dc_LB_since_173 rfl rfl ?_
  exact g_iret rfl dc_LB_since_175 q1
theorem dc_LB_soon_0 : decode prog_1_method_20_code 0 = .ok (.iload_n 1, 1) := by decide +kernel
theorem dc_LB_soon_1 : decode prog_1_method_20_code 1 = .ok (.iload_n 2, 1) := by decide +kernel
theorem dc_LB_soon_2 : decode prog_1_method_20_code 2 = .ok (.iload_n 3, 1) := by decide +kernel
theorem dc_LB_soon_3 : decode prog_1_method_20_code 3 = .ok (.iload 5, 2) := by decide +kernel
theorem dc_LB_soon_5 : decode prog_1_method_20_code 5 = .ok (.invokestatic 227, 3) := by decide +kernel
theorem dc_LB_soon_8 : decode prog_1_method_20_code 8 = .ok (.ifCond .eq 29, 3) := by decide +kernel
theorem dc_LB_soon_11 : decode prog_1_method_20_code 11 = .ok (.iload 4, 2) := by decide +kernel
theorem dc_LB_soon_13 : decode prog_1_method_20_code 13 = .ok (.invokestatic 231, 3) := by decide +kernel
theorem dc_LB_soon_16 : decode prog_1_method_20_code 16 = .ok (.ifCond .eq 21, 3) := by decide +kernel
theorem dc_LB_soon_19 : decode prog_1_method_20_code 19 = .ok (.iload 6, 2) := by decide +kernel
theorem dc_LB_soon_21 : decode prog_1_method_20_code 21 = .ok (.invokestatic 73, 3) := by decide +kernel
theorem dc_LB_soon_24 : decode prog_1_method_20_code 24 = .ok (.ifCond .eq 13, 3) := by decide +kernel
theorem dc_LB_soon_27 : decode prog_1_method_20_code 27 = .ok (.iload 7, 2) := by decide +kernel
theorem dc_LB_soon_29 : decode prog_1_method_20_code 29 = .ok (.iconst 0, 1) := by decide +kernel
theorem dc_LB_soon_30 : decode prog_1_method_20_code 30 = .ok (.iconst 1, 1) := by decide +kernel
theorem dc_LB_soon_31 : decode prog_1_method_20_code 31 = .ok (.invokestatic 108, 3) := by decide +kernel
theorem dc_LB_soon_34 : decode prog_1_method_20_code 34 = .ok (.ifCond .ne 6, 3) := by decide +kernel
theorem dc_LB_soon_37 : decode prog_1_method_20_code 37 = .ok (.bipush (-2), 2) := by decide +kernel
theorem dc_LB_soon_39 : decode prog_1_method_20_code 39 = .ok (.ireturn, 1) := by decide +kernel
theorem dc_LB_soon_40 : decode prog_1_method_20_code 40 = .ok (.aload_n 0, 1) := by decide +kernel
theorem dc_LB_soon_41 : decode prog_1_method_20_code 41 = .ok (.getfield 44, 3) := by decide +kernel
theorem dc_LB_soon_44 : decode prog_1_method_20_code 44 = .ok (.aload_n 0, 1) := by decide +kernel
theorem dc_LB_soon_45 : decode prog_1_method_20_code 45 = .ok (.getfield 19, 3) := by decide +kernel
theorem dc_LB_soon_48 : decode prog_1_method_20_code 48 = .ok (.iload_n 1, 1) := by decide +kernel
theorem dc_LB_soon_49 : decode prog_1_method_20_code 49 = .ok (.aaload, 1) := by decide +kernel
theorem dc_LB_soon_50 : decode prog_1_method_20_code 50 = .ok (.iload_n 2, 1) := by decide +kernel
theorem dc_LB_soon_51 : decode prog_1_method_20_code 51 = .ok (.iload_n 3, 1) := by decide +kernel
theorem dc_LB_soon_52 : decode prog_1_method_20_code 52 = .ok (.iload 4, 2) := by decide +kernel
theorem dc_LB_soon_54 : decode prog_1_method_20_code 54 = .ok (.iload 5, 2) := by decide +kernel
theorem dc_LB_soon_56 : decode prog_1_method_20_code 56 = .ok (.invokevirtual 234, 3) := by decide +kernel
theorem dc_LB_soon_59 : decode prog_1_method_20_code 59 = .ok (.iload 7, 2) := by decide +kernel
theorem dc_LB_soon_61 : decode prog_1_method_20_code 61 = .ok (.ifCond .ne 15, 3) := by decide +kernel
theorem dc_LB_soon_64 : decode prog_1_method_20_code 64 = .ok (.aload_n 0, 1) := by decide +kernel
theorem dc_LB_soon_65 : decode prog_1_method_20_code 65 = .ok (.getfield 44, 3) := by decide +kernel
theorem dc_LB_soon_68 : decode prog_1_method_20_code 68 = .ok (.iload 6, 2) := by decide +kernel
theorem dc_LB_soon_70 : decode prog_1_method_20_code 70 = .ok (.invokevirtual 244, 3) := by decide +kernel
theorem dc_LB_soon_73 : decode prog_1_method_20_code 73 = .ok (.goto 12, 3) := by decide +kernel
theorem dc_LB_soon_76 : decode prog_1_method_20_code 76 = .ok (.aload_n 0, 1) := by decide +kernel
theorem dc_LB_soon_77 : decode prog_1_method_20_code 77 = .ok (.getfield 44, 3) := by decide +kernel
theorem dc_LB_soon_80 : decode prog_1_method_20_code 80 = .ok (.iload 6, 2) := by decide +kernel
theorem dc_LB_soon_82 : decode prog_1_method_20_code 82 = .ok (.invokevirtual 238, 3) := by decide +kernel
theorem dc_LB_soon_85 : decode prog_1_method_20_code 85 = .ok (.ireturn, 1) := by decide +kernel
theorem w_LB_soon_0 {G : GC} {d : Nat} {P : PT} {I : MI} {J : MJ} {x1 : Int32} {x2 : Int32} {x3 : Int32} {x4 : Int32} {x5 : Int32} {x6 : Int32} {x7 : Int32} (k1 : ((f_LB_isWatch x1 x2 x3 x5) = 0) → Go G (fr G m_LB_soon (d + 3) P) 37 [none, none, none, none, none, none, none, none] [] I J) (k2 : (¬ ((f_LB_isWatch x1 x2 x3 x5) = 0)) → ((f_LB_isLimit x4) = 0) → Go G (fr G m_LB_soon (d + 3) P) 37 [none, none, none, none, none, none, none, none] [] I J) (k3 : (¬ ((f_LB_isWatch x1 x2 x3 x5) = 0)) → (¬ ((f_LB_isLimit x4) = 0)) → ((f_LB_isDay x6) = 0) → Go G (fr G m_LB_soon (d + 3) P) 37 [none, none, none, none, none, none, none, none] [] I J) (b4 : (¬ ((f_LB_isWatch x1 x2 x3 x5) = 0)) → (¬ ((f_LB_isLimit x4) = 0)) → (¬ ((f_LB_isDay x6) = 0)) → (¬ (f_LB_isWithin x7 0 1) = 0) → vp_in x1 4) (k5 : (¬ ((f_LB_isWatch x1 x2 x3 x5) = 0)) → (¬ ((f_LB_isLimit x4) = 0)) → (¬ ((f_LB_isDay x6) = 0)) → (¬ (f_LB_isWithin x7 0 1) = 0) → Ct G (d + 2) m_AL_watch [.ref 51, .ref (7 + 5 * x1.toNatClampNeg), .int x2, .int x3, .int x4, .int x5] (fun r I' J' => Go G (fr G m_LB_soon (d + 3) P) 59 [some (.ref 0), none, none, none, none, none, some (.int x6), some (.int x7)] (r.toList ++ []) I' J') I J) (k6 : (¬ ((f_LB_isWatch x1 x2 x3 x5) = 0)) → (¬ ((f_LB_isLimit x4) = 0)) → (¬ ((f_LB_isDay x6) = 0)) → ((f_LB_isWithin x7 0 1) = 0) → Go G (fr G m_LB_soon (d + 3) P) 37 [none, none, none, none, none, none, none, none] [] I J) : Go G (fr G m_LB_soon (d + 3) P) 0 [some (.ref 0), some (.int x1), some (.int x2), some (.int x3), some (.int x4), some (.int x5), some (.int x6), some (.int x7)] [] I J := by
  refine g_iload_n dc_LB_soon_0 rfl rfl rfl ?_
  refine g_iload_n dc_LB_soon_1 rfl rfl rfl ?_
  refine g_iload_n dc_LB_soon_2 rfl rfl rfl ?_
  refine g_iload dc_LB_soon_3 rfl rfl ?_
  refine g_callS (M := m_LB_isWatch) (As := [.int x1, .int x2, .int x3, .int x5]) (rest := []) ok_LB_isWatch st_LB_isWatch ml_LB_227 rfl rfl (Nat.le_of_ble_eq_true rfl) dc_LB_soon_5 rfl rOk_fr (c_LB_isWatch ?_)
  show Go G (fr G m_LB_soon (d + 3) P) 8 [some (.ref 0), some (.int x1), some (.int x2), some (.int x3), some (.int x4), some (.int x5), some (.int x6), some (.int x7)] [.int (f_LB_isWatch x1 x2 x3 x5)] I J
  refine g_if_eq (tgt := 37) dc_LB_soon_8 rfl (by decide) (fun c1 => ?_) (fun c1 => ?_)
  · refine g_weak [none, none, none, none, none, none, none, none] trivial ?_
    exact (k1 c1)
  · refine g_iload dc_LB_soon_11 rfl rfl ?_
    refine g_callS (M := m_LB_isLimit) (As := [.int x4]) (rest := []) ok_LB_isLimit st_LB_isLimit ml_LB_231 rfl rfl (Nat.le_of_ble_eq_true rfl) dc_LB_soon_13 rfl rOk_fr (c_LB_isLimit ?_)
    show Go G (fr G m_LB_soon (d + 3) P) 16 [some (.ref 0), some (.int x1), some (.int x2), some (.int x3), some (.int x4), some (.int x5), some (.int x6), some (.int x7)] [.int (f_LB_isLimit x4)] I J
    refine g_if_eq (tgt := 37) dc_LB_soon_16 rfl (by decide) (fun c2 => ?_) (fun c2 => ?_)
    · refine g_weak [none, none, none, none, none, none, none, none] trivial ?_
      exact (k2 c1 c2)
    · refine g_iload dc_LB_soon_19 rfl rfl ?_
      refine g_callS (M := m_LB_isDay) (As := [.int x6]) (rest := []) ok_LB_isDay st_LB_isDay ml_LB_73 rfl rfl (Nat.le_of_ble_eq_true rfl) dc_LB_soon_21 rfl rOk_fr (c_LB_isDay ?_)
      show Go G (fr G m_LB_soon (d + 3) P) 24 [some (.ref 0), some (.int x1), some (.int x2), some (.int x3), some (.int x4), some (.int x5), some (.int x6), some (.int x7)] [.int (f_LB_isDay x6)] I J
      refine g_if_eq (tgt := 37) dc_LB_soon_24 rfl (by decide) (fun c3 => ?_) (fun c3 => ?_)
      · refine g_weak [none, none, none, none, none, none, none, none] trivial ?_
        exact (k3 c1 c2 c3)
      · refine g_iload dc_LB_soon_27 rfl rfl ?_
        refine g_iconst (v := 0) dc_LB_soon_29 rfl (by decide) ?_
        refine g_iconst (v := 1) dc_LB_soon_30 rfl (by decide) ?_
        refine g_callS (M := m_LB_isWithin) (As := [.int x7, .int 0, .int 1]) (rest := []) ok_LB_isWithin st_LB_isWithin ml_LB_108 rfl rfl (Nat.le_of_ble_eq_true rfl) dc_LB_soon_31 rfl rOk_fr (c_LB_isWithin ?_)
        show Go G (fr G m_LB_soon (d + 3) P) 34 [some (.ref 0), some (.int x1), some (.int x2), some (.int x3), some (.int x4), some (.int x5), some (.int x6), some (.int x7)] [.int (f_LB_isWithin x7 0 1)] I J
        refine g_if_ne (tgt := 40) dc_LB_soon_34 rfl (by decide) (fun c4 => ?_) (fun c4 => ?_)
        · refine g_aload_n dc_LB_soon_40 rfl rfl rfl ?_
          refine g_get (C := "LevelBreaks") (T := T_LB) (N := 11) (k := 6) (v := .ref 51) sh_0 (by decide) rfl rfl i_LB (by decide) fl_LB_44 (Or.inl rfl) rfl dc_LB_soon_41 rfl ?_
          refine g_aload_n dc_LB_soon_44 rfl rfl rfl ?_
          refine g_get (C := "LevelBreaks") (T := T_LB) (N := 11) (k := 1) (v := .ref 6) sh_0 (by decide) rfl rfl i_LB (by decide) fl_LB_19 (Or.inl rfl) rfl dc_LB_soon_45 rfl ?_
          refine g_iload_n dc_LB_soon_48 rfl rfl rfl ?_
          refine g_aald (r := (7 + 5 * x1.toNatClampNeg)) sh_6 (by decide) rfl (b4 c1 c2 c3 c4) (now_at (vin_lt (b4 c1 c2 c3 c4))) dc_LB_soon_49 rfl ?_
          refine g_iload_n dc_LB_soon_50 rfl rfl rfl ?_
          refine g_iload_n dc_LB_soon_51 rfl rfl rfl ?_
          refine g_iload dc_LB_soon_52 rfl rfl ?_
          refine g_iload dc_LB_soon_54 rfl rfl ?_
          refine g_weak [some (.ref 0), none, none, none, none, none, some (.int x6), some (.int x7)] ⟨rfl, ⟨rfl, ⟨rfl, trivial⟩⟩⟩ ?_
          exact g_callV (T := T_AL) (N := 1) (As := [.ref (7 + 5 * x1.toNatClampNeg), .int x2, .int x3, .int x4, .int x5]) (rest := []) ok_AL_watch in_AL_watch se_AL_watch ml_LB_234 sh_51 (by decide) rfl rfl rfl (Nat.le_of_ble_eq_true rfl) dc_LB_soon_56 rfl rOk_fr (k5 c1 c2 c3 c4)
        · refine g_weak [none, none, none, none, none, none, none, none] trivial ?_
          exact (k6 c1 c2 c3 c4)
theorem w_LB_soon_37 {G : GC} {d : Nat} {P : PT} {I : MI} {J : MJ}  (q1 : P (some (.int (-2))) I J) : Go G (fr G m_LB_soon (d + 3) P) 37 [none, none, none, none, none, none, none, none] [] I J := by
  refine g_bipush (v := (-2)) dc_LB_soon_37 rfl (by decide) ?_
  exact g_iret rfl dc_LB_soon_39 q1
theorem w_LB_soon_59 {G : GC} {d : Nat} {P : PT} {I : MI} {J : MJ} {x6 : Int32} {x7 : Int32} (k1 : (¬ x7 = 0) → Ct G (d + 2) m_AL_countBefore [.ref 51, .int x6] (fun r I' J' => Go G (fr G m_LB_soon (d + 3) P) 85 [none, none, none, none, none, none, none, none] (r.toList ++ []) I' J') I J) (k2 : (x7 = 0) → Ct G (d + 2) m_AL_daysTillFirst [.ref 51, .int x6] (fun r I' J' => Go G (fr G m_LB_soon (d + 3) P) 73 [none, none, none, none, none, none, none, none] (r.toList ++ []) I' J') I J) : Go G (fr G m_LB_soon (d + 3) P) 59 [some (.ref 0), none, none, none, none, none, some (.int x6), some (.int x7)] [] I J := by
  refine g_iload dc_LB_soon_59 rfl rfl ?_
  refine g_if_ne (tgt := 76) dc_LB_soon_61 rfl (by decide) (fun c1 => ?_) (fun c1 => ?_)
  · refine g_aload_n dc_LB_soon_76 rfl rfl rfl ?_
    refine g_get (C := "LevelBreaks") (T := T_LB) (N := 11) (k := 6) (v := .ref 51) sh_0 (by decide) rfl rfl i_LB (by decide) fl_LB_44 (Or.inl rfl) rfl dc_LB_soon_77 rfl ?_
    refine g_iload dc_LB_soon_80 rfl rfl ?_
    refine g_weak [none, none, none, none, none, none, none, none] trivial ?_
    exact g_callV (T := T_AL) (N := 1) (As := [.int x6]) (rest := []) ok_AL_countBefore in_AL_countBefore se_AL_countBefore ml_LB_238 sh_51 (by decide) rfl rfl rfl (Nat.le_of_ble_eq_true rfl) dc_LB_soon_82 rfl rOk_fr (k1 c1)
  · refine g_aload_n dc_LB_soon_64 rfl rfl rfl ?_
    refine g_get (C := "LevelBreaks") (T := T_LB) (N := 11) (k := 6) (v := .ref 51) sh_0 (by decide) rfl rfl i_LB (by decide) fl_LB_44 (Or.inl rfl) rfl dc_LB_soon_65 rfl ?_
    refine g_iload dc_LB_soon_68 rfl rfl ?_
    refine g_weak [none, none, none, none, none, none, none, none] trivial ?_
    exact g_callV (T := T_AL) (N := 1) (As := [.int x6]) (rest := []) ok_AL_daysTillFirst in_AL_daysTillFirst se_AL_daysTillFirst ml_LB_244 sh_51 (by decide) rfl rfl rfl (Nat.le_of_ble_eq_true rfl) dc_LB_soon_70 rfl rOk_fr (k2 c1)
theorem w_LB_soon_73 {G : GC} {d : Nat} {P : PT} {I : MI} {J : MJ} {y0 : Int32} (k1 : Go G (fr G m_LB_soon (d + 3) P) 85 [none, none, none, none, none, none, none, none] [.int y0] I J) : Go G (fr G m_LB_soon (d + 3) P) 73 [none, none, none, none, none, none, none, none] [.int y0] I J := by
  refine g_goto (tgt := 85) dc_LB_soon_73 (by decide) ?_
  exact k1
theorem w_LB_soon_85 {G : GC} {d : Nat} {P : PT} {I : MI} {J : MJ} {y0 : Int32} (q1 : P (some (.int y0)) I J) : Go G (fr G m_LB_soon (d + 3) P) 85 [none, none, none, none, none, none, none, none] [.int y0] I J := by
  exact g_iret rfl dc_LB_soon_85 q1
theorem dc_LB_startsAsKept_0 : decode prog_1_method_52_code 0 = .ok (.iconst 0, 1) := by decide +kernel
theorem dc_LB_startsAsKept_1 : decode prog_1_method_52_code 1 = .ok (.istore_n 3, 1) := by decide +kernel
theorem dc_LB_startsAsKept_2 : decode prog_1_method_52_code 2 = .ok (.iload_n 3, 1) := by decide +kernel
theorem dc_LB_startsAsKept_3 : decode prog_1_method_52_code 3 = .ok (.iload_n 2, 1) := by decide +kernel
theorem dc_LB_startsAsKept_4 : decode prog_1_method_52_code 4 = .ok (.if_icmp .ge 29, 3) := by decide +kernel
theorem dc_LB_startsAsKept_7 : decode prog_1_method_52_code 7 = .ok (.aload_n 0, 1) := by decide +kernel
theorem dc_LB_startsAsKept_8 : decode prog_1_method_52_code 8 = .ok (.getfield 38, 3) := by decide +kernel
theorem dc_LB_startsAsKept_11 : decode prog_1_method_52_code 11 = .ok (.iload_n 3, 1) := by decide +kernel
theorem dc_LB_startsAsKept_12 : decode prog_1_method_52_code 12 = .ok (.iaload, 1) := by decide +kernel
theorem dc_LB_startsAsKept_13 : decode prog_1_method_52_code 13 = .ok (.aload_n 0, 1) := by decide +kernel
theorem dc_LB_startsAsKept_14 : decode prog_1_method_52_code 14 = .ok (.getfield 34, 3) := by decide +kernel
theorem dc_LB_startsAsKept_17 : decode prog_1_method_52_code 17 = .ok (.aload_n 1, 1) := by decide +kernel
theorem dc_LB_startsAsKept_18 : decode prog_1_method_52_code 18 = .ok (.iload_n 3, 1) := by decide +kernel
theorem dc_LB_startsAsKept_19 : decode prog_1_method_52_code 19 = .ok (.invokevirtual 152, 3) := by decide +kernel
theorem dc_LB_startsAsKept_22 : decode prog_1_method_52_code 22 = .ok (.if_icmp .eq 5, 3) := by decide +kernel
theorem dc_LB_startsAsKept_25 : decode prog_1_method_52_code 25 = .ok (.iconst 0, 1) := by decide +kernel
theorem dc_LB_startsAsKept_26 : decode prog_1_method_52_code 26 = .ok (.ireturn, 1) := by decide +kernel
theorem dc_LB_startsAsKept_27 : decode prog_1_method_52_code 27 = .ok (.iinc 3 1, 3) := by decide +kernel
theorem dc_LB_startsAsKept_30 : decode prog_1_method_52_code 30 = .ok (.goto (-28), 3) := by decide +kernel
theorem dc_LB_startsAsKept_33 : decode prog_1_method_52_code 33 = .ok (.iconst 1, 1) := by decide +kernel
theorem dc_LB_startsAsKept_34 : decode prog_1_method_52_code 34 = .ok (.ireturn, 1) := by decide +kernel
theorem w_LB_startsAsKept_0 {G : GC} {d : Nat} {P : PT} {I : MI} {J : MJ} {o1 : Nat} (h1 : PtsAt o1) {x2 : Int32} (k1 : Go G (fr G m_LB_startsAsKept (d + 1) P) 2 [some (.ref 0), some (.ref o1), some (.int x2), some (.int 0)] [] I J) : Go G (fr G m_LB_startsAsKept (d + 1) P) 0 [some (.ref 0), some (.ref o1), some (.int x2), none] [] I J := by
  refine g_iconst (v := 0) dc_LB_startsAsKept_0 rfl (by decide) ?_
  refine g_istore_n (L' := [some (.ref 0), some (.ref o1), some (.int x2), some (.int 0)]) dc_LB_startsAsKept_1 rfl rfl (Nat.le_of_ble_eq_true rfl) rfl ?_
  exact k1
theorem w_LB_startsAsKept_2 {G : GC} {d : Nat} {P : PT} {I : MI} {J : MJ} {o1 : Nat} (h1 : PtsAt o1) {x2 : Int32} {x3 : Int32} (q1 : (x2 ≤ x3) → P (some (.int 1)) I J) (b2 : (¬ (x2 ≤ x3)) → vp_in x3 6) (k3 : (¬ (x2 ≤ x3)) → Ct G d m_CU_startDay [.ref 33, .ref o1, .int x3] (fun r I' J' => Go G (fr G m_LB_startsAsKept (d + 1) P) 22 [some (.ref 0), some (.ref o1), some (.int x2), some (.int x3)] (r.toList ++ [.int (I 50 x3.toNatClampNeg)]) I' J') I J) : Go G (fr G m_LB_startsAsKept (d + 1) P) 2 [some (.ref 0), some (.ref o1), some (.int x2), some (.int x3)] [] I J := by
  refine g_iload_n dc_LB_startsAsKept_2 rfl rfl rfl ?_
  refine g_iload_n dc_LB_startsAsKept_3 rfl rfl rfl ?_
  refine g_ic_ge (tgt := 33) dc_LB_startsAsKept_4 rfl (by decide) (fun c1 => ?_) (fun c1 => ?_)
  · refine g_iconst (v := 1) dc_LB_startsAsKept_33 rfl (by decide) ?_
    exact g_zret rfl (by decide) dc_LB_startsAsKept_34 (q1 c1)
  · refine g_aload_n dc_LB_startsAsKept_7 rfl rfl rfl ?_
    refine g_get (C := "LevelBreaks") (T := T_LB) (N := 11) (k := 5) (v := .ref 50) sh_0 (by decide) rfl rfl i_LB (by decide) fl_LB_38 (Or.inl rfl) rfl dc_LB_startsAsKept_8 rfl ?_
    refine g_iload_n dc_LB_startsAsKept_11 rfl rfl rfl ?_
    refine g_ialdv (v := (I 50 x3.toNatClampNeg)) sh_50 (b2 c1) rfl dc_LB_startsAsKept_12 rfl ?_
    refine g_aload_n dc_LB_startsAsKept_13 rfl rfl rfl ?_
    refine g_get (C := "LevelBreaks") (T := T_LB) (N := 11) (k := 4) (v := .ref 33) sh_0 (by decide) rfl rfl i_LB (by decide) fl_LB_34 (Or.inl rfl) rfl dc_LB_startsAsKept_14 rfl ?_
    refine g_aload_n dc_LB_startsAsKept_17 rfl rfl rfl ?_
    refine g_iload_n dc_LB_startsAsKept_18 rfl rfl rfl ?_
    exact g_callV (T := T_CU) (N := 13) (As := [.ref o1, .int x3]) (rest := [.int (I 50 x3.toNatClampNeg)]) ok_CU_startDay in_CU_startDay se_CU_startDay ml_LB_152 sh_33 (by decide) rfl rfl rfl (Nat.le_of_ble_eq_true rfl) dc_LB_startsAsKept_19 rfl rOk_fr (k3 c1)
theorem w_LB_startsAsKept_22 {G : GC} {d : Nat} {P : PT} {I : MI} {J : MJ} {o1 : Nat} (h1 : PtsAt o1) {x2 : Int32} {x3 : Int32} {y0 : Int32} {y1 : Int32} (k1 : (y0 = y1) → Go G (fr G m_LB_startsAsKept (d + 1) P) 2 [some (.ref 0), some (.ref o1), some (.int x2), some (.int (x3 + 1))] [] I J) (q2 : (¬ (y0 = y1)) → P (some (.int 0)) I J) : Go G (fr G m_LB_startsAsKept (d + 1) P) 22 [some (.ref 0), some (.ref o1), some (.int x2), some (.int x3)] [.int y1, .int y0] I J := by
  refine g_ic_eq (tgt := 27) dc_LB_startsAsKept_22 rfl (by decide) (fun c1 => ?_) (fun c1 => ?_)
  · refine g_iinc (v := (x3 + 1)) (L' := [some (.ref 0), some (.ref o1), some (.int x2), some (.int (x3 + 1))]) dc_LB_startsAsKept_27 rfl rfl (by rw [show Int32.ofInt 1 = 1 from by decide]) (Nat.le_of_ble_eq_true rfl) rfl ?_
    refine g_goto (tgt := 2) dc_LB_startsAsKept_30 (by decide) ?_
    exact (k1 c1)
  · refine g_iconst (v := 0) dc_LB_startsAsKept_25 rfl (by decide) ?_
    exact g_zret rfl (by decide) dc_LB_startsAsKept_26 (q2 c1)
theorem dc_LB_tell_0 : decode prog_1_method_2_code 0 = .ok (.iload_n 1, 1) := by decide +kernel
theorem dc_LB_tell_1 : decode prog_1_method_2_code 1 = .ok (.invokestatic 69, 3) := by decide +kernel
theorem dc_LB_tell_4 : decode prog_1_method_2_code 4 = .ok (.ifCond .eq 26, 3) := by decide +kernel
theorem dc_LB_tell_7 : decode prog_1_method_2_code 7 = .ok (.iload_n 2, 1) := by decide +kernel
theorem dc_LB_tell_8 : decode prog_1_method_2_code 8 = .ok (.invokestatic 73, 3) := by decide +kernel
theorem dc_LB_tell_11 : decode prog_1_method_2_code 11 = .ok (.ifCond .eq 19, 3) := by decide +kernel
theorem dc_LB_tell_14 : decode prog_1_method_2_code 14 = .ok (.iload_n 3, 1) := by decide +kernel
theorem dc_LB_tell_15 : decode prog_1_method_2_code 15 = .ok (.invokestatic 76, 3) := by decide +kernel
theorem dc_LB_tell_18 : decode prog_1_method_2_code 18 = .ok (.ifCond .eq 12, 3) := by decide +kernel
theorem dc_LB_tell_21 : decode prog_1_method_2_code 21 = .ok (.aload_n 0, 1) := by decide +kernel
theorem dc_LB_tell_22 : decode prog_1_method_2_code 22 = .ok (.iload 4, 2) := by decide +kernel
theorem dc_LB_tell_24 : decode prog_1_method_2_code 24 = .ok (.invokevirtual 79, 3) := by decide +kernel
theorem dc_LB_tell_27 : decode prog_1_method_2_code 27 = .ok (.ifCond .ne 6, 3) := by decide +kernel
theorem dc_LB_tell_30 : decode prog_1_method_2_code 30 = .ok (.bipush (-2), 2) := by decide +kernel
theorem dc_LB_tell_32 : decode prog_1_method_2_code 32 = .ok (.ireturn, 1) := by decide +kernel
theorem dc_LB_tell_33 : decode prog_1_method_2_code 33 = .ok (.aload_n 0, 1) := by decide +kernel
theorem dc_LB_tell_34 : decode prog_1_method_2_code 34 = .ok (.getfield 10, 3) := by decide +kernel
theorem dc_LB_tell_37 : decode prog_1_method_2_code 37 = .ok (.getfield 82, 3) := by decide +kernel
theorem dc_LB_tell_40 : decode prog_1_method_2_code 40 = .ok (.sipush 200, 3) := by decide +kernel
theorem dc_LB_tell_43 : decode prog_1_method_2_code 43 = .ok (.if_icmp .lt 6, 3) := by decide +kernel
theorem dc_LB_tell_46 : decode prog_1_method_2_code 46 = .ok (.bipush (-4), 2) := by decide +kernel
theorem dc_LB_tell_48 : decode prog_1_method_2_code 48 = .ok (.ireturn, 1) := by decide +kernel
theorem dc_LB_tell_49 : decode prog_1_method_2_code 49 = .ok (.aload_n 0, 1) := by decide +kernel
theorem dc_LB_tell_50 : decode prog_1_method_2_code 50 = .ok (.getfield 10, 3) := by decide +kernel
theorem dc_LB_tell_53 : decode prog_1_method_2_code 53 = .ok (.iload_n 1, 1) := by decide +kernel
theorem dc_LB_tell_54 : decode prog_1_method_2_code 54 = .ok (.iload_n 2, 1) := by decide +kernel
theorem dc_LB_tell_55 : decode prog_1_method_2_code 55 = .ok (.iload_n 3, 1) := by decide +kernel
theorem dc_LB_tell_56 : decode prog_1_method_2_code 56 = .ok (.iload 4, 2) := by decide +kernel
theorem dc_LB_tell_58 : decode prog_1_method_2_code 58 = .ok (.invokevirtual 85, 3) := by decide +kernel
theorem dc_LB_tell_61 : decode prog_1_method_2_code 61 = .ok (.aload_n 0, 1) := by decide +kernel
theorem dc_LB_tell_62 : decode prog_1_method_2_code 62 = .ok (.iload_n 1, 1) := by decide +kernel
theorem dc_LB_tell_63 : decode prog_1_method_2_code 63 = .ok (.invokevirtual 89, 3) := by decide +kernel
theorem dc_LB_tell_66 : decode prog_1_method_2_code 66 = .ok (.aload_n 0, 1) := by decide +kernel
theorem dc_LB_tell_67 : decode prog_1_method_2_code 67 = .ok (.getfield 10, 3) := by decide +kernel
theorem dc_LB_tell_70 : decode prog_1_method_2_code 70 = .ok (.getfield 82, 3) := by decide +kernel
theorem dc_LB_tell_73 : decode prog_1_method_2_code 73 = .ok (.ireturn, 1) := by decide +kernel
theorem w_LB_tell_0 {G : GC} {d : Nat} {P : PT} {I : MI} {J : MJ} {x1 : Int32} {x2 : Int32} {x3 : Int32} {x4 : Int32} (k1 : ((f_LB_isRow x1) = 0) → Go G (fr G m_LB_tell (d + 4) P) 30 [none, none, none, none, none] [] I J) (k2 : (¬ ((f_LB_isRow x1) = 0)) → ((f_LB_isDay x2) = 0) → Go G (fr G m_LB_tell (d + 4) P) 30 [none, none, none, none, none] [] I J) (k3 : (¬ ((f_LB_isRow x1) = 0)) → (¬ ((f_LB_isDay x2) = 0)) → ((f_LB_isValue x3) = 0) → Go G (fr G m_LB_tell (d + 4) P) 30 [none, none, none, none, none] [] I J) (k4 : (¬ ((f_LB_isRow x1) = 0)) → (¬ ((f_LB_isDay x2) = 0)) → (¬ ((f_LB_isValue x3) = 0)) → Ct G (d + 3) m_LB_isNextTime [.ref 0, .int x4] (fun r I' J' => Go G (fr G m_LB_tell (d + 4) P) 27 [some (.ref 0), some (.int x1), some (.int x2), some (.int x3), some (.int x4)] (r.toList ++ []) I' J') I J) : Go G (fr G m_LB_tell (d + 4) P) 0 [some (.ref 0), some (.int x1), some (.int x2), some (.int x3), some (.int x4)] [] I J := by
  refine g_iload_n dc_LB_tell_0 rfl rfl rfl ?_
  refine g_callS (M := m_LB_isRow) (As := [.int x1]) (rest := []) ok_LB_isRow st_LB_isRow ml_LB_69 rfl rfl (Nat.le_of_ble_eq_true rfl) dc_LB_tell_1 rfl rOk_fr (c_LB_isRow ?_)
  show Go G (fr G m_LB_tell (d + 4) P) 4 [some (.ref 0), some (.int x1), some (.int x2), some (.int x3), some (.int x4)] [.int (f_LB_isRow x1)] I J
  refine g_if_eq (tgt := 30) dc_LB_tell_4 rfl (by decide) (fun c1 => ?_) (fun c1 => ?_)
  · refine g_weak [none, none, none, none, none] trivial ?_
    exact (k1 c1)
  · refine g_iload_n dc_LB_tell_7 rfl rfl rfl ?_
    refine g_callS (M := m_LB_isDay) (As := [.int x2]) (rest := []) ok_LB_isDay st_LB_isDay ml_LB_73 rfl rfl (Nat.le_of_ble_eq_true rfl) dc_LB_tell_8 rfl rOk_fr (c_LB_isDay ?_)
    show Go G (fr G m_LB_tell (d + 4) P) 11 [some (.ref 0), some (.int x1), some (.int x2), some (.int x3), some (.int x4)] [.int (f_LB_isDay x2)] I J
    refine g_if_eq (tgt := 30) dc_LB_tell_11 rfl (by decide) (fun c2 => ?_) (fun c2 => ?_)
    · refine g_weak [none, none, none, none, none] trivial ?_
      exact (k2 c1 c2)
    · refine g_iload_n dc_LB_tell_14 rfl rfl rfl ?_
      refine g_callS (M := m_LB_isValue) (As := [.int x3]) (rest := []) ok_LB_isValue st_LB_isValue ml_LB_76 rfl rfl (Nat.le_of_ble_eq_true rfl) dc_LB_tell_15 rfl rOk_fr (c_LB_isValue ?_)
      show Go G (fr G m_LB_tell (d + 4) P) 18 [some (.ref 0), some (.int x1), some (.int x2), some (.int x3), some (.int x4)] [.int (f_LB_isValue x3)] I J
      refine g_if_eq (tgt := 30) dc_LB_tell_18 rfl (by decide) (fun c3 => ?_) (fun c3 => ?_)
      · refine g_weak [none, none, none, none, none] trivial ?_
        exact (k3 c1 c2 c3)
      · refine g_aload_n dc_LB_tell_21 rfl rfl rfl ?_
        refine g_iload dc_LB_tell_22 rfl rfl ?_
        exact g_callV (T := T_LB) (N := 11) (As := [.int x4]) (rest := []) ok_LB_isNextTime in_LB_isNextTime se_LB_isNextTime ml_LB_79 sh_0 (by decide) rfl rfl rfl (Nat.le_of_ble_eq_true rfl) dc_LB_tell_24 rfl rOk_fr (k4 c1 c2 c3)
theorem w_LB_tell_27 {G : GC} {d : Nat} {P : PT} {I : MI} {J : MJ} {x1 : Int32} {x2 : Int32} {x3 : Int32} {x4 : Int32} {y0 : Int32} (k1 : (¬ y0 = 0) → ((I 1 4) < 200) → Ct G (d + 3) m_LE_add [.ref 1, .int x1, .int x2, .int x3, .int x4] (fun r I' J' => Go G (fr G m_LB_tell (d + 4) P) 61 [some (.ref 0), some (.int x1), none, none, none] (r.toList ++ []) I' J') I J) (q2 : (¬ y0 = 0) → (¬ ((I 1 4) < 200)) → P (some (.int (-4))) I J) (k3 : (y0 = 0) → Go G (fr G m_LB_tell (d + 4) P) 30 [none, none, none, none, none] [] I J) : Go G (fr G m_LB_tell (d + 4) P) 27 [some (.ref 0), some (.int x1), some (.int x2), some (.int x3), some (.int x4)] [.int y0] I J := by
  refine g_if_ne (tgt := 33) dc_LB_tell_27 rfl (by decide) (fun c1 => ?_) (fun c1 => ?_)
  · refine g_aload_n dc_LB_tell_33 rfl rfl rfl ?_
    refine g_get (C := "LevelBreaks") (T := T_LB) (N := 11) (k := 0) (v := .ref 1) sh_0 (by decide) rfl rfl i_LB (by decide) fl_LB_10 (Or.inl rfl) rfl dc_LB_tell_34 rfl ?_
    refine g_get (C := "LevelBreaks$Ledger") (T := T_LE) (N := 5) (k := 4) (v := .int (I 1 4)) sh_1 (by decide) rfl rfl i_LE (by decide) fl_LB_82 (Or.inl rfl) rfl dc_LB_tell_37 rfl ?_
    refine g_sipush (v := 200) dc_LB_tell_40 rfl (by decide) ?_
    refine g_ic_lt (tgt := 49) dc_LB_tell_43 rfl (by decide) (fun c2 => ?_) (fun c2 => ?_)
    · refine g_aload_n dc_LB_tell_49 rfl rfl rfl ?_
      refine g_get (C := "LevelBreaks") (T := T_LB) (N := 11) (k := 0) (v := .ref 1) sh_0 (by decide) rfl rfl i_LB (by decide) fl_LB_10 (Or.inl rfl) rfl dc_LB_tell_50 rfl ?_
      refine g_iload_n dc_LB_tell_53 rfl rfl rfl ?_
      refine g_iload_n dc_LB_tell_54 rfl rfl rfl ?_
      refine g_iload_n dc_LB_tell_55 rfl rfl rfl ?_
      refine g_iload dc_LB_tell_56 rfl rfl ?_
      refine g_weak [some (.ref 0), some (.int x1), none, none, none] ⟨rfl, ⟨rfl, trivial⟩⟩ ?_
      exact g_callV (T := T_LE) (N := 5) (As := [.int x1, .int x2, .int x3, .int x4]) (rest := []) ok_LE_add in_LE_add se_LE_add ml_LB_85 sh_1 (by decide) rfl rfl rfl (Nat.le_of_ble_eq_true rfl) dc_LB_tell_58 rfl rOk_fr (k1 c1 c2)
    · refine g_bipush (v := (-4)) dc_LB_tell_46 rfl (by decide) ?_
      exact g_iret rfl dc_LB_tell_48 (q2 c1 c2)
  · refine g_weak [none, none, none, none, none] trivial ?_
    exact (k3 c1)
theorem w_LB_tell_30 {G : GC} {d : Nat} {P : PT} {I : MI} {J : MJ}  (q1 : P (some (.int (-2))) I J) : Go G (fr G m_LB_tell (d + 4) P) 30 [none, none, none, none, none] [] I J := by
  refine g_bipush (v := (-2)) dc_LB_tell_30 rfl (by decide) ?_
  exact g_iret rfl dc_LB_tell_32 q1
theorem w_LB_tell_61 {G : GC} {d : Nat} {P : PT} {I : MI} {J : MJ} {x1 : Int32} (k1 : Ct G (d + 3) m_LB_refresh [.ref 0, .int x1] (fun r I' J' => Go G (fr G m_LB_tell (d + 4) P) 66 [some (.ref 0), none, none, none, none] (r.toList ++ []) I' J') I J) : Go G (fr G m_LB_tell (d + 4) P) 61 [some (.ref 0), some (.int x1), none, none, none] [] I J := by
  refine g_aload_n dc_LB_tell_61 rfl rfl rfl ?_
  refine g_iload_n dc_LB_tell_62 rfl rfl rfl ?_
  refine g_weak [some (.ref 0), none, none, none, none] ⟨rfl, trivial⟩ ?_
  exact g_callV (T := T_LB) (N := 11) (As := [.int x1]) (rest := []) ok_LB_refresh in_LB_refresh se_LB_refresh ml_LB_89 sh_0 (by decide) rfl rfl rfl (Nat.le_of_ble_eq_true rfl) dc_LB_tell_63 rfl rOk_fr k1
theorem w_LB_tell_66 {G : GC} {d : Nat} {P : PT} {I : MI} {J : MJ}  (q1 : P (some (.int (I 1 4))) I J) : Go G (fr G m_LB_tell (d + 4) P) 66 [some (.ref 0), none, none, none, none] [] I J := by
  refine g_aload_n dc_LB_tell_66 rfl rfl rfl ?_
  refine g_get (C := "LevelBreaks") (T := T_LB) (N := 11) (k := 0) (v := .ref 1) sh_0 (by decide) rfl rfl i_LB (by decide) fl_LB_10 (Or.inl rfl) rfl dc_LB_tell_67 rfl ?_
  refine g_get (C := "LevelBreaks$Ledger") (T := T_LE) (N := 5) (k := 4) (v := .int (I 1 4)) sh_1 (by decide) rfl rfl i_LE (by decide) fl_LB_82 (Or.inl rfl) rfl dc_LB_tell_70 rfl ?_
  exact g_iret rfl dc_LB_tell_73 q1
theorem dc_LB_together_0 : decode prog_1_method_18_code 0 = .ok (.iload_n 1, 1) := by decide +kernel
theorem dc_LB_together_1 : decode prog_1_method_18_code 1 = .ok (.invokestatic 69, 3) := by decide +kernel
theorem dc_LB_together_4 : decode prog_1_method_18_code 4 = .ok (.ifCond .eq 22, 3) := by decide +kernel
theorem dc_LB_together_7 : decode prog_1_method_18_code 7 = .ok (.iload_n 2, 1) := by decide +kernel
theorem dc_LB_together_8 : decode prog_1_method_18_code 8 = .ok (.invokestatic 69, 3) := by decide +kernel
theorem dc_LB_together_11 : decode prog_1_method_18_code 11 = .ok (.ifCond .eq 15, 3) := by decide +kernel
theorem dc_LB_together_14 : decode prog_1_method_18_code 14 = .ok (.iload_n 1, 1) := by decide +kernel
theorem dc_LB_together_15 : decode prog_1_method_18_code 15 = .ok (.iload_n 2, 1) := by decide +kernel
theorem dc_LB_together_16 : decode prog_1_method_18_code 16 = .ok (.if_icmp .eq 10, 3) := by decide +kernel
theorem dc_LB_together_19 : decode prog_1_method_18_code 19 = .ok (.iload_n 3, 1) := by decide +kernel
theorem dc_LB_together_20 : decode prog_1_method_18_code 20 = .ok (.invokestatic 116, 3) := by decide +kernel
theorem dc_LB_together_23 : decode prog_1_method_18_code 23 = .ok (.ifCond .ne 6, 3) := by decide +kernel
theorem dc_LB_together_26 : decode prog_1_method_18_code 26 = .ok (.bipush (-2), 2) := by decide +kernel
theorem dc_LB_together_28 : decode prog_1_method_18_code 28 = .ok (.ireturn, 1) := by decide +kernel
theorem dc_LB_together_29 : decode prog_1_method_18_code 29 = .ok (.iload 4, 2) := by decide +kernel
theorem dc_LB_together_31 : decode prog_1_method_18_code 31 = .ok (.iconst 2, 1) := by decide +kernel
theorem dc_LB_together_32 : decode prog_1_method_18_code 32 = .ok (.bipush 6, 2) := by decide +kernel
theorem dc_LB_together_34 : decode prog_1_method_18_code 34 = .ok (.invokestatic 108, 3) := by decide +kernel
theorem dc_LB_together_37 : decode prog_1_method_18_code 37 = .ok (.ifCond .eq 24, 3) := by decide +kernel
theorem dc_LB_together_40 : decode prog_1_method_18_code 40 = .ok (.iload 5, 2) := by decide +kernel
theorem dc_LB_together_42 : decode prog_1_method_18_code 42 = .ok (.iconst 0, 1) := by decide +kernel
theorem dc_LB_together_43 : decode prog_1_method_18_code 43 = .ok (.bipush 9, 2) := by decide +kernel
theorem dc_LB_together_45 : decode prog_1_method_18_code 45 = .ok (.invokestatic 108, 3) := by decide +kernel
theorem dc_LB_together_48 : decode prog_1_method_18_code 48 = .ok (.ifCond .eq 13, 3) := by decide +kernel
theorem dc_LB_together_51 : decode prog_1_method_18_code 51 = .ok (.iload 6, 2) := by decide +kernel
theorem dc_LB_together_53 : decode prog_1_method_18_code 53 = .ok (.iconst 0, 1) := by decide +kernel
theorem dc_LB_together_54 : decode prog_1_method_18_code 54 = .ok (.iconst 1, 1) := by decide +kernel
theorem dc_LB_together_55 : decode prog_1_method_18_code 55 = .ok (.invokestatic 108, 3) := by decide +kernel
theorem dc_LB_together_58 : decode prog_1_method_18_code 58 = .ok (.ifCond .ne 6, 3) := by decide +kernel
theorem dc_LB_together_61 : decode prog_1_method_18_code 61 = .ok (.bipush (-2), 2) := by decide +kernel
theorem dc_LB_together_63 : decode prog_1_method_18_code 63 = .ok (.ireturn, 1) := by decide +kernel
theorem dc_LB_together_64 : decode prog_1_method_18_code 64 = .ok (.aload_n 0, 1) := by decide +kernel
theorem dc_LB_together_65 : decode prog_1_method_18_code 65 = .ok (.iload_n 1, 1) := by decide +kernel
theorem dc_LB_together_66 : decode prog_1_method_18_code 66 = .ok (.iload_n 3, 1) := by decide +kernel
theorem dc_LB_together_67 : decode prog_1_method_18_code 67 = .ok (.iload 4, 2) := by decide +kernel
theorem dc_LB_together_69 : decode prog_1_method_18_code 69 = .ok (.invokevirtual 143, 3) := by decide +kernel
theorem dc_LB_together_72 : decode prog_1_method_18_code 72 = .ok (.ifCond .ne 6, 3) := by decide +kernel
theorem dc_LB_together_75 : decode prog_1_method_18_code 75 = .ok (.bipush (-3), 2) := by decide +kernel
theorem dc_LB_together_77 : decode prog_1_method_18_code 77 = .ok (.ireturn, 1) := by decide +kernel
theorem dc_LB_together_78 : decode prog_1_method_18_code 78 = .ok (.aload_n 0, 1) := by decide +kernel
theorem dc_LB_together_79 : decode prog_1_method_18_code 79 = .ok (.aload_n 0, 1) := by decide +kernel
theorem dc_LB_together_80 : decode prog_1_method_18_code 80 = .ok (.getfield 19, 3) := by decide +kernel
theorem dc_LB_together_83 : decode prog_1_method_18_code 83 = .ok (.iload_n 1, 1) := by decide +kernel
theorem dc_LB_together_84 : decode prog_1_method_18_code 84 = .ok (.aaload, 1) := by decide +kernel
theorem dc_LB_together_85 : decode prog_1_method_18_code 85 = .ok (.iload 4, 2) := by decide +kernel
theorem dc_LB_together_87 : decode prog_1_method_18_code 87 = .ok (.invokevirtual 177, 3) := by decide +kernel
theorem dc_LB_together_90 : decode prog_1_method_18_code 90 = .ok (.aload_n 0, 1) := by decide +kernel
theorem dc_LB_together_91 : decode prog_1_method_18_code 91 = .ok (.iload_n 2, 1) := by decide +kernel
theorem dc_LB_together_92 : decode prog_1_method_18_code 92 = .ok (.iload_n 3, 1) := by decide +kernel
theorem dc_LB_together_93 : decode prog_1_method_18_code 93 = .ok (.iload 4, 2) := by decide +kernel
theorem dc_LB_together_95 : decode prog_1_method_18_code 95 = .ok (.invokevirtual 143, 3) := by decide +kernel
theorem dc_LB_together_98 : decode prog_1_method_18_code 98 = .ok (.ifCond .ne 6, 3) := by decide +kernel
theorem dc_LB_together_101 : decode prog_1_method_18_code 101 = .ok (.bipush (-3), 2) := by decide +kernel
theorem dc_LB_together_103 : decode prog_1_method_18_code 103 = .ok (.ireturn, 1) := by decide +kernel
theorem dc_LB_together_104 : decode prog_1_method_18_code 104 = .ok (.iconst 0, 1) := by decide +kernel
theorem dc_LB_together_105 : decode prog_1_method_18_code 105 = .ok (.istore 7, 2) := by decide +kernel
theorem dc_LB_together_107 : decode prog_1_method_18_code 107 = .ok (.iconst 1, 1) := by decide +kernel
theorem dc_LB_together_108 : decode prog_1_method_18_code 108 = .ok (.istore 8, 2) := by decide +kernel
theorem dc_LB_together_110 : decode prog_1_method_18_code 110 = .ok (.iload 8, 2) := by decide +kernel
theorem dc_LB_together_112 : decode prog_1_method_18_code 112 = .ok (.iload 4, 2) := by decide +kernel
theorem dc_LB_together_114 : decode prog_1_method_18_code 114 = .ok (.if_icmp .ge 39, 3) := by decide +kernel
theorem dc_LB_together_117 : decode prog_1_method_18_code 117 = .ok (.aload_n 0, 1) := by decide +kernel
theorem dc_LB_together_118 : decode prog_1_method_18_code 118 = .ok (.getfield 34, 3) := by decide +kernel
theorem dc_LB_together_121 : decode prog_1_method_18_code 121 = .ok (.aload_n 0, 1) := by decide +kernel
theorem dc_LB_together_122 : decode prog_1_method_18_code 122 = .ok (.getfield 19, 3) := by decide +kernel
theorem dc_LB_together_125 : decode prog_1_method_18_code 125 = .ok (.iload_n 2, 1) := by decide +kernel
theorem dc_LB_together_126 : decode prog_1_method_18_code 126 = .ok (.aaload, 1) := by decide +kernel
theorem dc_LB_together_127 : decode prog_1_method_18_code 127 = .ok (.iload 4, 2) := by decide +kernel
theorem dc_LB_together_129 : decode prog_1_method_18_code 129 = .ok (.aload_n 0, 1) := by decide +kernel
theorem dc_LB_together_130 : decode prog_1_method_18_code 130 = .ok (.getfield 38, 3) := by decide +kernel
theorem dc_LB_together_133 : decode prog_1_method_18_code 133 = .ok (.iload 8, 2) := by decide +kernel
theorem dc_LB_together_135 : decode prog_1_method_18_code 135 = .ok (.iaload, 1) := by decide +kernel
theorem dc_LB_together_136 : decode prog_1_method_18_code 136 = .ok (.iload 5, 2) := by decide +kernel
theorem dc_LB_together_138 : decode prog_1_method_18_code 138 = .ok (.invokevirtual 215, 3) := by decide +kernel
theorem dc_LB_together_141 : decode prog_1_method_18_code 141 = .ok (.ifCond .eq 6, 3) := by decide +kernel
theorem dc_LB_together_144 : decode prog_1_method_18_code 144 = .ok (.iinc 7 1, 3) := by decide +kernel
theorem dc_LB_together_147 : decode prog_1_method_18_code 147 = .ok (.iinc 8 1, 3) := by decide +kernel
theorem dc_LB_together_150 : decode prog_1_method_18_code 150 = .ok (.goto (-40), 3) := by decide +kernel
theorem dc_LB_together_153 : decode prog_1_method_18_code 153 = .ok (.iload 6, 2) := by decide +kernel
theorem dc_LB_together_155 : decode prog_1_method_18_code 155 = .ok (.ifCond .ne 8, 3) := by decide +kernel
theorem dc_LB_together_158 : decode prog_1_method_18_code 158 = .ok (.iload 7, 2) := by decide +kernel
theorem dc_LB_together_160 : decode prog_1_method_18_code 160 = .ok (.goto 26, 3) := by decide +kernel
theorem dc_LB_together_163 : decode prog_1_method_18_code 163 = .ok (.aload_n 0, 1) := by decide +kernel
theorem dc_LB_together_164 : decode prog_1_method_18_code 164 = .ok (.aload_n 0, 1) := by decide +kernel
theorem dc_LB_together_165 : decode prog_1_method_18_code 165 = .ok (.getfield 19, 3) := by decide +kernel
theorem dc_LB_together_168 : decode prog_1_method_18_code 168 = .ok (.iload_n 2, 1) := by decide +kernel
theorem dc_LB_together_169 : decode prog_1_method_18_code 169 = .ok (.aaload, 1) := by decide +kernel
theorem dc_LB_together_170 : decode prog_1_method_18_code 170 = .ok (.iload 4, 2) := by decide +kernel
theorem dc_LB_together_172 : decode prog_1_method_18_code 172 = .ok (.iload 5, 2) := by decide +kernel
theorem dc_LB_together_174 : decode prog_1_method_18_code 174 = .ok (.invokevirtual 219, 3) := by decide +kernel
theorem dc_LB_together_177 : decode prog_1_method_18_code 177 = .ok (.iload 4, 2) := by decide +kernel
theorem dc_LB_together_179 : decode prog_1_method_18_code 179 = .ok (.iconst 1, 1) := by decide +kernel
theorem dc_LB_together_180 : decode prog_1_method_18_code 180 = .ok (.isub, 1) := by decide +kernel
theorem dc_LB_together_181 : decode prog_1_method_18_code 181 = .ok (.iload 7, 2) := by decide +kernel
theorem dc_LB_together_183 : decode prog_1_method_18_code 183 = .ok (.invokestatic 223, 3) := by decide +kernel
theorem dc_LB_together_186 : decode prog_1_method_18_code 186 = .ok (.ireturn, 1) := by decide +kernel
theorem w_LB_together_0 {G : GC} {d : Nat} {P : PT} {I : MI} {J : MJ} {x1 : Int32} {x2 : Int32} {x3 : Int32} {x4 : Int32} {x5 : Int32} {x6 : Int32} (k1 : ((f_LB_isRow x1) = 0) → Go G (fr G m_LB_together (d + 6) P) 26 [none, none, none, none, none, none, none, none, none] [] I J) (k2 : (¬ ((f_LB_isRow x1) = 0)) → ((f_LB_isRow x2) = 0) → Go G (fr G m_LB_together (d + 6) P) 26 [none, none, none, none, none, none, none, none, none] [] I J) (k3 : (¬ ((f_LB_isRow x1) = 0)) → (¬ ((f_LB_isRow x2) = 0)) → (x1 = x2) → Go G (fr G m_LB_together (d + 6) P) 26 [none, none, none, none, none, none, none, none, none] [] I J) (k4 : (¬ ((f_LB_isRow x1) = 0)) → (¬ ((f_LB_isRow x2) = 0)) → (¬ (x1 = x2)) → (¬ (f_LB_isKind x3) = 0) → ((f_LB_isWithin x4 2 6) = 0) → Go G (fr G m_LB_together (d + 6) P) 61 [none, none, none, none, none, none, none, none, none] [] I J) (k5 : (¬ ((f_LB_isRow x1) = 0)) → (¬ ((f_LB_isRow x2) = 0)) → (¬ (x1 = x2)) → (¬ (f_LB_isKind x3) = 0) → (¬ ((f_LB_isWithin x4 2 6) = 0)) → ((f_LB_isWithin x5 0 9) = 0) → Go G (fr G m_LB_together (d + 6) P) 61 [none, none, none, none, none, none, none, none, none] [] I J) (k6 : (¬ ((f_LB_isRow x1) = 0)) → (¬ ((f_LB_isRow x2) = 0)) → (¬ (x1 = x2)) → (¬ (f_LB_isKind x3) = 0) → (¬ ((f_LB_isWithin x4 2 6) = 0)) → (¬ ((f_LB_isWithin x5 0 9) = 0)) → (¬ (f_LB_isWithin x6 0 1) = 0) → Ct G (d + 5) m_LB_cutRow [.ref 0, .int x1, .int x3, .int x4] (fun r I' J' => Go G (fr G m_LB_together (d + 6) P) 72 [some (.ref 0), some (.int x1), some (.int x2), some (.int x3), some (.int x4), some (.int x5), some (.int x6), none, none] (r.toList ++ []) I' J') I J) (k7 : (¬ ((f_LB_isRow x1) = 0)) → (¬ ((f_LB_isRow x2) = 0)) → (¬ (x1 = x2)) → (¬ (f_LB_isKind x3) = 0) → (¬ ((f_LB_isWithin x4 2 6) = 0)) → (¬ ((f_LB_isWithin x5 0 9) = 0)) → ((f_LB_isWithin x6 0 1) = 0) → Go G (fr G m_LB_together (d + 6) P) 61 [none, none, none, none, none, none, none, none, none] [] I J) (k8 : (¬ ((f_LB_isRow x1) = 0)) → (¬ ((f_LB_isRow x2) = 0)) → (¬ (x1 = x2)) → ((f_LB_isKind x3) = 0) → Go G (fr G m_LB_together (d + 6) P) 26 [none, none, none, none, none, none, none, none, none] [] I J) : Go G (fr G m_LB_together (d + 6) P) 0 [some (.ref 0), some (.int x1), some (.int x2), some (.int x3), some (.int x4), some (.int x5), some (.int x6), none, none] [] I J := by
  refine g_iload_n dc_LB_together_0 rfl rfl rfl ?_
  refine g_callS (M := m_LB_isRow) (As := [.int x1]) (rest := []) ok_LB_isRow st_LB_isRow ml_LB_69 rfl rfl (Nat.le_of_ble_eq_true rfl) dc_LB_together_1 rfl rOk_fr (c_LB_isRow ?_)
  show Go G (fr G m_LB_together (d + 6) P) 4 [some (.ref 0), some (.int x1), some (.int x2), some (.int x3), some (.int x4), some (.int x5), some (.int x6), none, none] [.int (f_LB_isRow x1)] I J
  refine g_if_eq (tgt := 26) dc_LB_together_4 rfl (by decide) (fun c1 => ?_) (fun c1 => ?_)
  · refine g_weak [none, none, none, none, none, none, none, none, none] trivial ?_
    exact (k1 c1)
  · refine g_iload_n dc_LB_together_7 rfl rfl rfl ?_
    refine g_callS (M := m_LB_isRow) (As := [.int x2]) (rest := []) ok_LB_isRow st_LB_isRow ml_LB_69 rfl rfl (Nat.le_of_ble_eq_true rfl) dc_LB_together_8 rfl rOk_fr (c_LB_isRow ?_)
    show Go G (fr G m_LB_together (d + 6) P) 11 [some (.ref 0), some (.int x1), some (.int x2), some (.int x3), some (.int x4), some (.int x5), some (.int x6), none, none] [.int (f_LB_isRow x2)] I J
    refine g_if_eq (tgt := 26) dc_LB_together_11 rfl (by decide) (fun c2 => ?_) (fun c2 => ?_)
    · refine g_weak [none, none, none, none, none, none, none, none, none] trivial ?_
      exact (k2 c1 c2)
    · refine g_iload_n dc_LB_together_14 rfl rfl rfl ?_
      refine g_iload_n dc_LB_together_15 rfl rfl rfl ?_
      refine g_ic_eq (tgt := 26) dc_LB_together_16 rfl (by decide) (fun c3 => ?_) (fun c3 => ?_)
      · refine g_weak [none, none, none, none, none, none, none, none, none] trivial ?_
        exact (k3 c1 c2 c3)
      · refine g_iload_n dc_LB_together_19 rfl rfl rfl ?_
        refine g_callS (M := m_LB_isKind) (As := [.int x3]) (rest := []) ok_LB_isKind st_LB_isKind ml_LB_116 rfl rfl (Nat.le_of_ble_eq_true rfl) dc_LB_together_20 rfl rOk_fr (c_LB_isKind ?_)
        show Go G (fr G m_LB_together (d + 6) P) 23 [some (.ref 0), some (.int x1), some (.int x2), some (.int x3), some (.int x4), some (.int x5), some (.int x6), none, none] [.int (f_LB_isKind x3)] I J
        refine g_if_ne (tgt := 29) dc_LB_together_23 rfl (by decide) (fun c4 => ?_) (fun c4 => ?_)
        · refine g_iload dc_LB_together_29 rfl rfl ?_
          refine g_iconst (v := 2) dc_LB_together_31 rfl (by decide) ?_
          refine g_bipush (v := 6) dc_LB_together_32 rfl (by decide) ?_
          refine g_callS (M := m_LB_isWithin) (As := [.int x4, .int 2, .int 6]) (rest := []) ok_LB_isWithin st_LB_isWithin ml_LB_108 rfl rfl (Nat.le_of_ble_eq_true rfl) dc_LB_together_34 rfl rOk_fr (c_LB_isWithin ?_)
          show Go G (fr G m_LB_together (d + 6) P) 37 [some (.ref 0), some (.int x1), some (.int x2), some (.int x3), some (.int x4), some (.int x5), some (.int x6), none, none] [.int (f_LB_isWithin x4 2 6)] I J
          refine g_if_eq (tgt := 61) dc_LB_together_37 rfl (by decide) (fun c5 => ?_) (fun c5 => ?_)
          · refine g_weak [none, none, none, none, none, none, none, none, none] trivial ?_
            exact (k4 c1 c2 c3 c4 c5)
          · refine g_iload dc_LB_together_40 rfl rfl ?_
            refine g_iconst (v := 0) dc_LB_together_42 rfl (by decide) ?_
            refine g_bipush (v := 9) dc_LB_together_43 rfl (by decide) ?_
            refine g_callS (M := m_LB_isWithin) (As := [.int x5, .int 0, .int 9]) (rest := []) ok_LB_isWithin st_LB_isWithin ml_LB_108 rfl rfl (Nat.le_of_ble_eq_true rfl) dc_LB_together_45 rfl rOk_fr (c_LB_isWithin ?_)
            show Go G (fr G m_LB_together (d + 6) P) 48 [some (.ref 0), some (.int x1), some (.int x2), some (.int x3), some (.int x4), some (.int x5), some (.int x6), none, none] [.int (f_LB_isWithin x5 0 9)] I J
            refine g_if_eq (tgt := 61) dc_LB_together_48 rfl (by decide) (fun c6 => ?_) (fun c6 => ?_)
            · refine g_weak [none, none, none, none, none, none, none, none, none] trivial ?_
              exact (k5 c1 c2 c3 c4 c5 c6)
            · refine g_iload dc_LB_together_51 rfl rfl ?_
              refine g_iconst (v := 0) dc_LB_together_53 rfl (by decide) ?_
              refine g_iconst (v := 1) dc_LB_together_54 rfl (by decide) ?_
              refine g_callS (M := m_LB_isWithin) (As := [.int x6, .int 0, .int 1]) (rest := []) ok_LB_isWithin st_LB_isWithin ml_LB_108 rfl rfl (Nat.le_of_ble_eq_true rfl) dc_LB_together_55 rfl rOk_fr (c_LB_isWithin ?_)
              show Go G (fr G m_LB_together (d + 6) P) 58 [some (.ref 0), some (.int x1), some (.int x2), some (.int x3), some (.int x4), some (.int x5), some (.int x6), none, none] [.int (f_LB_isWithin x6 0 1)] I J
              refine g_if_ne (tgt := 64) dc_LB_together_58 rfl (by decide) (fun c7 => ?_) (fun c7 => ?_)
              · refine g_aload_n dc_LB_together_64 rfl rfl rfl ?_
                refine g_iload_n dc_LB_together_65 rfl rfl rfl ?_
                refine g_iload_n dc_LB_together_66 rfl rfl rfl ?_
                refine g_iload dc_LB_together_67 rfl rfl ?_
                exact g_callV (T := T_LB) (N := 11) (As := [.int x1, .int x3, .int x4]) (rest := []) ok_LB_cutRow in_LB_cutRow se_LB_cutRow ml_LB_143 sh_0 (by decide) rfl rfl rfl (Nat.le_of_ble_eq_true rfl) dc_LB_together_69 rfl rOk_fr (k6 c1 c2 c3 c4 c5 c6 c7)
              · refine g_weak [none, none, none, none, none, none, none, none, none] trivial ?_
                exact (k7 c1 c2 c3 c4 c5 c6 c7)
        · refine g_weak [none, none, none, none, none, none, none, none, none] trivial ?_
          exact (k8 c1 c2 c3 c4)
theorem w_LB_together_26 {G : GC} {d : Nat} {P : PT} {I : MI} {J : MJ}  (q1 : P (some (.int (-2))) I J) : Go G (fr G m_LB_together (d + 6) P) 26 [none, none, none, none, none, none, none, none, none] [] I J := by
  refine g_bipush (v := (-2)) dc_LB_together_26 rfl (by decide) ?_
  exact g_iret rfl dc_LB_together_28 q1
theorem w_LB_together_61 {G : GC} {d : Nat} {P : PT} {I : MI} {J : MJ}  (q1 : P (some (.int (-2))) I J) : Go G (fr G m_LB_together (d + 6) P) 61 [none, none, none, none, none, none, none, none, none] [] I J := by
  refine g_bipush (v := (-2)) dc_LB_together_61 rfl (by decide) ?_
  exact g_iret rfl dc_LB_together_63 q1
theorem w_LB_together_72 {G : GC} {d : Nat} {P : PT} {I : MI} {J : MJ} {x1 : Int32} {x2 : Int32} {x3 : Int32} {x4 : Int32} {x5 : Int32} {x6 : Int32} {y0 : Int32} (b1 : (¬ y0 = 0) → vp_in x1 4) (k2 : (¬ y0 = 0) → Ct G (d + 5) m_LB_keepStartDays [.ref 0, .ref (7 + 5 * x1.toNatClampNeg), .int x4] (fun r I' J' => Go G (fr G m_LB_together (d + 6) P) 90 [some (.ref 0), none, some (.int x2), some (.int x3), some (.int x4), some (.int x5), some (.int x6), none, none] (r.toList ++ []) I' J') I J) (q3 : (y0 = 0) → P (some (.int (-3))) I J) : Go G (fr G m_LB_together (d + 6) P) 72 [some (.ref 0), some (.int x1), some (.int x2), some (.int x3), some (.int x4), some (.int x5), some (.int x6), none, none] [.int y0] I J := by
  refine g_if_ne (tgt := 78) dc_LB_together_72 rfl (by decide) (fun c1 => ?_) (fun c1 => ?_)
  · refine g_aload_n dc_LB_together_78 rfl rfl rfl ?_
    refine g_aload_n dc_LB_together_79 rfl rfl rfl ?_
    refine g_get (C := "LevelBreaks") (T := T_LB) (N := 11) (k := 1) (v := .ref 6) sh_0 (by decide) rfl rfl i_LB (by decide) fl_LB_19 (Or.inl rfl) rfl dc_LB_together_80 rfl ?_
    refine g_iload_n dc_LB_together_83 rfl rfl rfl ?_
    refine g_aald (r := (7 + 5 * x1.toNatClampNeg)) sh_6 (by decide) rfl (b1 c1) (now_at (vin_lt (b1 c1))) dc_LB_together_84 rfl ?_
    refine g_iload dc_LB_together_85 rfl rfl ?_
    refine g_weak [some (.ref 0), none, some (.int x2), some (.int x3), some (.int x4), some (.int x5), some (.int x6), none, none] ⟨rfl, ⟨rfl, ⟨rfl, ⟨rfl, ⟨rfl, ⟨rfl, trivial⟩⟩⟩⟩⟩⟩ ?_
    exact g_callV (T := T_LB) (N := 11) (As := [.ref (7 + 5 * x1.toNatClampNeg), .int x4]) (rest := []) ok_LB_keepStartDays in_LB_keepStartDays se_LB_keepStartDays ml_LB_177 sh_0 (by decide) rfl rfl rfl (Nat.le_of_ble_eq_true rfl) dc_LB_together_87 rfl rOk_fr (k2 c1)
  · refine g_bipush (v := (-3)) dc_LB_together_75 rfl (by decide) ?_
    exact g_iret rfl dc_LB_together_77 (q3 c1)
theorem w_LB_together_90 {G : GC} {d : Nat} {P : PT} {I : MI} {J : MJ} {x2 : Int32} {x3 : Int32} {x4 : Int32} {x5 : Int32} {x6 : Int32} (k1 : Ct G (d + 5) m_LB_cutRow [.ref 0, .int x2, .int x3, .int x4] (fun r I' J' => Go G (fr G m_LB_together (d + 6) P) 98 [some (.ref 0), none, some (.int x2), none, some (.int x4), some (.int x5), some (.int x6), none, none] (r.toList ++ []) I' J') I J) : Go G (fr G m_LB_together (d + 6) P) 90 [some (.ref 0), none, some (.int x2), some (.int x3), some (.int x4), some (.int x5), some (.int x6), none, none] [] I J := by
  refine g_aload_n dc_LB_together_90 rfl rfl rfl ?_
  refine g_iload_n dc_LB_together_91 rfl rfl rfl ?_
  refine g_iload_n dc_LB_together_92 rfl rfl rfl ?_
  refine g_iload dc_LB_together_93 rfl rfl ?_
  refine g_weak [some (.ref 0), none, some (.int x2), none, some (.int x4), some (.int x5), some (.int x6), none, none] ⟨rfl, ⟨rfl, ⟨rfl, ⟨rfl, ⟨rfl, trivial⟩⟩⟩⟩⟩ ?_
  exact g_callV (T := T_LB) (N := 11) (As := [.int x2, .int x3, .int x4]) (rest := []) ok_LB_cutRow in_LB_cutRow se_LB_cutRow ml_LB_143 sh_0 (by decide) rfl rfl rfl (Nat.le_of_ble_eq_true rfl) dc_LB_together_95 rfl rOk_fr k1
theorem w_LB_together_98 {G : GC} {d : Nat} {P : PT} {I : MI} {J : MJ} {x2 : Int32} {x4 : Int32} {x5 : Int32} {x6 : Int32} {y0 : Int32} (k1 : (¬ y0 = 0) → Go G (fr G m_LB_together (d + 6) P) 110 [some (.ref 0), none, some (.int x2), none, some (.int x4), some (.int x5), some (.int x6), some (.int 0), some (.int 1)] [] I J) (q2 : (y0 = 0) → P (some (.int (-3))) I J) : Go G (fr G m_LB_together (d + 6) P) 98 [some (.ref 0), none, some (.int x2), none, some (.int x4), some (.int x5), some (.int x6), none, none] [.int y0] I J := by
  refine g_if_ne (tgt := 104) dc_LB_together_98 rfl (by decide) (fun c1 => ?_) (fun c1 => ?_)
  · refine g_iconst (v := 0) dc_LB_together_104 rfl (by decide) ?_
    refine g_istore (L' := [some (.ref 0), none, some (.int x2), none, some (.int x4), some (.int x5), some (.int x6), some (.int 0), none]) dc_LB_together_105 rfl (Nat.le_of_ble_eq_true rfl) rfl ?_
    refine g_iconst (v := 1) dc_LB_together_107 rfl (by decide) ?_
    refine g_istore (L' := [some (.ref 0), none, some (.int x2), none, some (.int x4), some (.int x5), some (.int x6), some (.int 0), some (.int 1)]) dc_LB_together_108 rfl (Nat.le_of_ble_eq_true rfl) rfl ?_
    exact (k1 c1)
  · refine g_bipush (v := (-3)) dc_LB_together_101 rfl (by decide) ?_
    exact g_iret rfl dc_LB_together_103 (q2 c1)
theorem w_LB_together_110 {G : GC} {d : Nat} {P : PT} {I : MI} {J : MJ} {x2 : Int32} {x4 : Int32} {x5 : Int32} {x6 : Int32} {x7 : Int32} {x8 : Int32} (b1 : (x4 ≤ x8) → (¬ x6 = 0) → vp_in x2 4) (k2 : (x4 ≤ x8) → (¬ x6 = 0) → Ct G (d + 5) m_LB_daysNear [.ref 0, .ref (7 + 5 * x2.toNatClampNeg), .int x4, .int x5] (fun r I' J' => Go G (fr G m_LB_together (d + 6) P) 177 [none, none, none, none, some (.int x4), none, none, some (.int x7), none] (r.toList ++ []) I' J') I J) (k3 : (x4 ≤ x8) → (x6 = 0) → Go G (fr G m_LB_together (d + 6) P) 186 [none, none, none, none, none, none, none, none, none] [.int x7] I J) (b4 : (¬ (x4 ≤ x8)) → vp_in x2 4) (b5 : (¬ (x4 ≤ x8)) → vp_in x8 6) (k6 : (¬ (x4 ≤ x8)) → Ct G (d + 5) m_CU_startsNear [.ref 33, .ref (7 + 5 * x2.toNatClampNeg), .int x4, .int (I 50 x8.toNatClampNeg), .int x5] (fun r I' J' => Go G (fr G m_LB_together (d + 6) P) 141 [some (.ref 0), none, some (.int x2), none, some (.int x4), some (.int x5), some (.int x6), some (.int x7), some (.int x8)] (r.toList ++ []) I' J') I J) : Go G (fr G m_LB_together (d + 6) P) 110 [some (.ref 0), none, some (.int x2), none, some (.int x4), some (.int x5), some (.int x6), some (.int x7), some (.int x8)] [] I J := by
  refine g_iload dc_LB_together_110 rfl rfl ?_
  refine g_iload dc_LB_together_112 rfl rfl ?_
  refine g_ic_ge (tgt := 153) dc_LB_together_114 rfl (by decide) (fun c1 => ?_) (fun c1 => ?_)
  · refine g_iload dc_LB_together_153 rfl rfl ?_
    refine g_if_ne (tgt := 163) dc_LB_together_155 rfl (by decide) (fun c2 => ?_) (fun c2 => ?_)
    · refine g_aload_n dc_LB_together_163 rfl rfl rfl ?_
      refine g_aload_n dc_LB_together_164 rfl rfl rfl ?_
      refine g_get (C := "LevelBreaks") (T := T_LB) (N := 11) (k := 1) (v := .ref 6) sh_0 (by decide) rfl rfl i_LB (by decide) fl_LB_19 (Or.inl rfl) rfl dc_LB_together_165 rfl ?_
      refine g_iload_n dc_LB_together_168 rfl rfl rfl ?_
      refine g_aald (r := (7 + 5 * x2.toNatClampNeg)) sh_6 (by decide) rfl (b1 c1 c2) (now_at (vin_lt (b1 c1 c2))) dc_LB_together_169 rfl ?_
      refine g_iload dc_LB_together_170 rfl rfl ?_
      refine g_iload dc_LB_together_172 rfl rfl ?_
      refine g_weak [none, none, none, none, some (.int x4), none, none, some (.int x7), none] ⟨rfl, ⟨rfl, trivial⟩⟩ ?_
      exact g_callV (T := T_LB) (N := 11) (As := [.ref (7 + 5 * x2.toNatClampNeg), .int x4, .int x5]) (rest := []) ok_LB_daysNear in_LB_daysNear se_LB_daysNear ml_LB_219 sh_0 (by decide) rfl rfl rfl (Nat.le_of_ble_eq_true rfl) dc_LB_together_174 rfl rOk_fr (k2 c1 c2)
    · refine g_iload dc_LB_together_158 rfl rfl ?_
      refine g_goto (tgt := 186) dc_LB_together_160 (by decide) ?_
      refine g_weak [none, none, none, none, none, none, none, none, none] trivial ?_
      exact (k3 c1 c2)
  · refine g_aload_n dc_LB_together_117 rfl rfl rfl ?_
    refine g_get (C := "LevelBreaks") (T := T_LB) (N := 11) (k := 4) (v := .ref 33) sh_0 (by decide) rfl rfl i_LB (by decide) fl_LB_34 (Or.inl rfl) rfl dc_LB_together_118 rfl ?_
    refine g_aload_n dc_LB_together_121 rfl rfl rfl ?_
    refine g_get (C := "LevelBreaks") (T := T_LB) (N := 11) (k := 1) (v := .ref 6) sh_0 (by decide) rfl rfl i_LB (by decide) fl_LB_19 (Or.inl rfl) rfl dc_LB_together_122 rfl ?_
    refine g_iload_n dc_LB_together_125 rfl rfl rfl ?_
    refine g_aald (r := (7 + 5 * x2.toNatClampNeg)) sh_6 (by decide) rfl (b4 c1) (now_at (vin_lt (b4 c1))) dc_LB_together_126 rfl ?_
    refine g_iload dc_LB_together_127 rfl rfl ?_
    refine g_aload_n dc_LB_together_129 rfl rfl rfl ?_
    refine g_get (C := "LevelBreaks") (T := T_LB) (N := 11) (k := 5) (v := .ref 50) sh_0 (by decide) rfl rfl i_LB (by decide) fl_LB_38 (Or.inl rfl) rfl dc_LB_together_130 rfl ?_
    refine g_iload dc_LB_together_133 rfl rfl ?_
    refine g_ialdv (v := (I 50 x8.toNatClampNeg)) sh_50 (b5 c1) rfl dc_LB_together_135 rfl ?_
    refine g_iload dc_LB_together_136 rfl rfl ?_
    exact g_callV (T := T_CU) (N := 13) (As := [.ref (7 + 5 * x2.toNatClampNeg), .int x4, .int (I 50 x8.toNatClampNeg), .int x5]) (rest := []) ok_CU_startsNear in_CU_startsNear se_CU_startsNear ml_LB_215 sh_33 (by decide) rfl rfl rfl (Nat.le_of_ble_eq_true rfl) dc_LB_together_138 rfl rOk_fr (k6 c1)
theorem w_LB_together_141 {G : GC} {d : Nat} {P : PT} {I : MI} {J : MJ} {x2 : Int32} {x4 : Int32} {x5 : Int32} {x6 : Int32} {x7 : Int32} {x8 : Int32} {y0 : Int32} (k1 : (y0 = 0) → Go G (fr G m_LB_together (d + 6) P) 147 [some (.ref 0), none, some (.int x2), none, some (.int x4), some (.int x5), some (.int x6), some (.int x7), some (.int x8)] [] I J) (k2 : (¬ (y0 = 0)) → Go G (fr G m_LB_together (d + 6) P) 147 [some (.ref 0), none, some (.int x2), none, some (.int x4), some (.int x5), some (.int x6), some (.int (x7 + 1)), some (.int x8)] [] I J) : Go G (fr G m_LB_together (d + 6) P) 141 [some (.ref 0), none, some (.int x2), none, some (.int x4), some (.int x5), some (.int x6), some (.int x7), some (.int x8)] [.int y0] I J := by
  refine g_if_eq (tgt := 147) dc_LB_together_141 rfl (by decide) (fun c1 => ?_) (fun c1 => ?_)
  · exact (k1 c1)
  · refine g_iinc (v := (x7 + 1)) (L' := [some (.ref 0), none, some (.int x2), none, some (.int x4), some (.int x5), some (.int x6), some (.int (x7 + 1)), some (.int x8)]) dc_LB_together_144 rfl rfl (by rw [show Int32.ofInt 1 = 1 from by decide]) (Nat.le_of_ble_eq_true rfl) rfl ?_
    exact (k2 c1)
theorem w_LB_together_147 {G : GC} {d : Nat} {P : PT} {I : MI} {J : MJ} {x2 : Int32} {x4 : Int32} {x5 : Int32} {x6 : Int32} {x7 : Int32} {x8 : Int32} (k1 : Go G (fr G m_LB_together (d + 6) P) 110 [some (.ref 0), none, some (.int x2), none, some (.int x4), some (.int x5), some (.int x6), some (.int x7), some (.int (x8 + 1))] [] I J) : Go G (fr G m_LB_together (d + 6) P) 147 [some (.ref 0), none, some (.int x2), none, some (.int x4), some (.int x5), some (.int x6), some (.int x7), some (.int x8)] [] I J := by
  refine g_iinc (v := (x8 + 1)) (L' := [some (.ref 0), none, some (.int x2), none, some (.int x4), some (.int x5), some (.int x6), some (.int x7), some (.int (x8 + 1))]) dc_LB_together_147 rfl rfl (by rw [show Int32.ofInt 1 = 1 from by decide]) (Nat.le_of_ble_eq_true rfl) rfl ?_
  refine g_goto (tgt := 110) dc_LB_together_150 (by decide) ?_
  exact k1
theorem w_LB_together_177 {G : GC} {d : Nat} {P : PT} {I : MI} {J : MJ} {x4 : Int32} {x7 : Int32} {y0 : Int32} (k1 : Ct G (d + 5) m_CH_ofHits [.int y0, .int (x4 - 1), .int x7] (fun r I' J' => Go G (fr G m_LB_together (d + 6) P) 186 [none, none, none, none, none, none, none, none, none] (r.toList ++ []) I' J') I J) : Go G (fr G m_LB_together (d + 6) P) 177 [none, none, none, none, some (.int x4), none, none, some (.int x7), none] [.int y0] I J := by
  refine g_iload dc_LB_together_177 rfl rfl ?_
  refine g_iconst (v := 1) dc_LB_together_179 rfl (by decide) ?_
  refine g_isub dc_LB_together_180 rfl ?_
  refine g_iload dc_LB_together_181 rfl rfl ?_
  refine g_weak [none, none, none, none, none, none, none, none, none] trivial ?_
  exact g_callS (As := [.int y0, .int (x4 - 1), .int x7]) (rest := []) ok_CH_ofHits st_CH_ofHits ml_LB_223 rfl rfl (Nat.le_of_ble_eq_true rfl) dc_LB_together_183 rfl rOk_fr k1
theorem w_LB_together_186 {G : GC} {d : Nat} {P : PT} {I : MI} {J : MJ} {y0 : Int32} (q1 : P (some (.int y0)) I J) : Go G (fr G m_LB_together (d + 6) P) 186 [none, none, none, none, none, none, none, none, none] [.int y0] I J := by
  exact g_iret rfl dc_LB_together_186 q1
theorem dc_LB_type_0 : decode prog_1_method_22_code 0 = .ok (.iload_n 1, 1) := by decide +kernel
theorem dc_LB_type_1 : decode prog_1_method_22_code 1 = .ok (.iconst 0, 1) := by decide +kernel
theorem dc_LB_type_2 : decode prog_1_method_22_code 2 = .ok (.sipush 255, 3) := by decide +kernel
theorem dc_LB_type_5 : decode prog_1_method_22_code 5 = .ok (.invokestatic 108, 3) := by decide +kernel
theorem dc_LB_type_8 : decode prog_1_method_22_code 8 = .ok (.ifCond .ne 6, 3) := by decide +kernel
theorem dc_LB_type_11 : decode prog_1_method_22_code 11 = .ok (.bipush (-2), 2) := by decide +kernel
theorem dc_LB_type_13 : decode prog_1_method_22_code 13 = .ok (.ireturn, 1) := by decide +kernel
theorem dc_LB_type_14 : decode prog_1_method_22_code 14 = .ok (.aload_n 0, 1) := by decide +kernel
theorem dc_LB_type_15 : decode prog_1_method_22_code 15 = .ok (.getfield 51, 3) := by decide +kernel
theorem dc_LB_type_18 : decode prog_1_method_22_code 18 = .ok (.getfield 250, 3) := by decide +kernel
theorem dc_LB_type_21 : decode prog_1_method_22_code 21 = .ok (.bipush 100, 2) := by decide +kernel
theorem dc_LB_type_23 : decode prog_1_method_22_code 23 = .ok (.if_icmp .lt 6, 3) := by decide +kernel
theorem dc_LB_type_26 : decode prog_1_method_22_code 26 = .ok (.bipush (-4), 2) := by decide +kernel
theorem dc_LB_type_28 : decode prog_1_method_22_code 28 = .ok (.ireturn, 1) := by decide +kernel
theorem dc_LB_type_29 : decode prog_1_method_22_code 29 = .ok (.aload_n 0, 1) := by decide +kernel
theorem dc_LB_type_30 : decode prog_1_method_22_code 30 = .ok (.getfield 51, 3) := by decide +kernel
theorem dc_LB_type_33 : decode prog_1_method_22_code 33 = .ok (.getfield 251, 3) := by decide +kernel
theorem dc_LB_type_36 : decode prog_1_method_22_code 36 = .ok (.aload_n 0, 1) := by decide +kernel
theorem dc_LB_type_37 : decode prog_1_method_22_code 37 = .ok (.getfield 51, 3) := by decide +kernel
theorem dc_LB_type_40 : decode prog_1_method_22_code 40 = .ok (.getfield 250, 3) := by decide +kernel
theorem dc_LB_type_43 : decode prog_1_method_22_code 43 = .ok (.iload_n 1, 1) := by decide +kernel
theorem dc_LB_type_44 : decode prog_1_method_22_code 44 = .ok (.iastore, 1) := by decide +kernel
theorem dc_LB_type_45 : decode prog_1_method_22_code 45 = .ok (.aload_n 0, 1) := by decide +kernel
theorem dc_LB_type_46 : decode prog_1_method_22_code 46 = .ok (.getfield 51, 3) := by decide +kernel
theorem dc_LB_type_49 : decode prog_1_method_22_code 49 = .ok (.dup, 1) := by decide +kernel
theorem dc_LB_type_50 : decode prog_1_method_22_code 50 = .ok (.getfield 250, 3) := by decide +kernel
theorem dc_LB_type_53 : decode prog_1_method_22_code 53 = .ok (.iconst 1, 1) := by decide +kernel
theorem dc_LB_type_54 : decode prog_1_method_22_code 54 = .ok (.iadd, 1) := by decide +kernel
theorem dc_LB_type_55 : decode prog_1_method_22_code 55 = .ok (.putfield 250, 3) := by decide +kernel
theorem dc_LB_type_58 : decode prog_1_method_22_code 58 = .ok (.aload_n 0, 1) := by decide +kernel
theorem dc_LB_type_59 : decode prog_1_method_22_code 59 = .ok (.getfield 51, 3) := by decide +kernel
theorem dc_LB_type_62 : decode prog_1_method_22_code 62 = .ok (.getfield 250, 3) := by decide +kernel
theorem dc_LB_type_65 : decode prog_1_method_22_code 65 = .ok (.ireturn, 1) := by decide +kernel
theorem w_LB_type_0 {G : GC} {d : Nat} {P : PT} {I : MI} {J : MJ} {x1 : Int32} (b1 : (¬ (f_LB_isWithin x1 0 255) = 0) → ((I 53 1) < 100) → vp_in (I 53 1) 100) (q2 : (¬ (f_LB_isWithin x1 0 255) = 0) → ((I 53 1) < 100) → P (some (.int ((I 53 1) + 1))) (u2 (u2 I 54 (I 53 1).toNatClampNeg x1) 53 1 ((I 53 1) + 1)) J) (q3 : (¬ (f_LB_isWithin x1 0 255) = 0) → (¬ ((I 53 1) < 100)) → P (some (.int (-4))) I J) (q4 : ((f_LB_isWithin x1 0 255) = 0) → P (some (.int (-2))) I J) : Go G (fr G m_LB_type (d + 1) P) 0 [some (.ref 0), some (.int x1)] [] I J := by
  refine g_iload_n dc_LB_type_0 rfl rfl rfl ?_
  refine g_iconst (v := 0) dc_LB_type_1 rfl (by decide) ?_
  refine g_sipush (v := 255) dc_LB_type_2 rfl (by decide) ?_
  refine g_callS (M := m_LB_isWithin) (As := [.int x1, .int 0, .int 255]) (rest := []) ok_LB_isWithin st_LB_isWithin ml_LB_108 rfl rfl (Nat.le_of_ble_eq_true rfl) dc_LB_type_5 rfl rOk_fr (c_LB_isWithin ?_)
  show Go G (fr G m_LB_type (d + 1) P) 8 [some (.ref 0), some (.int x1)] [.int (f_LB_isWithin x1 0 255)] I J
  refine g_if_ne (tgt := 14) dc_LB_type_8 rfl (by decide) (fun c1 => ?_) (fun c1 => ?_)
  · refine g_aload_n dc_LB_type_14 rfl rfl rfl ?_
    refine g_get (C := "LevelBreaks") (T := T_LB) (N := 11) (k := 7) (v := .ref 53) sh_0 (by decide) rfl rfl i_LB (by decide) fl_LB_51 (Or.inl rfl) rfl dc_LB_type_15 rfl ?_
    refine g_get (C := "LevelBreaks$Beforehand") (T := T_BF) (N := 8) (k := 1) (v := .int (I 53 1)) sh_53 (by decide) rfl rfl i_BF (by decide) fl_LB_250 (Or.inl rfl) rfl dc_LB_type_18 rfl ?_
    refine g_bipush (v := 100) dc_LB_type_21 rfl (by decide) ?_
    refine g_ic_lt (tgt := 29) dc_LB_type_23 rfl (by decide) (fun c2 => ?_) (fun c2 => ?_)
    · refine g_aload_n dc_LB_type_29 rfl rfl rfl ?_
      refine g_get (C := "LevelBreaks") (T := T_LB) (N := 11) (k := 7) (v := .ref 53) sh_0 (by decide) rfl rfl i_LB (by decide) fl_LB_51 (Or.inl rfl) rfl dc_LB_type_30 rfl ?_
      refine g_get (C := "LevelBreaks$Beforehand") (T := T_BF) (N := 8) (k := 0) (v := .ref 54) sh_53 (by decide) rfl rfl i_BF (by decide) fl_LB_251 (Or.inl rfl) rfl dc_LB_type_33 rfl ?_
      refine g_aload_n dc_LB_type_36 rfl rfl rfl ?_
      refine g_get (C := "LevelBreaks") (T := T_LB) (N := 11) (k := 7) (v := .ref 53) sh_0 (by decide) rfl rfl i_LB (by decide) fl_LB_51 (Or.inl rfl) rfl dc_LB_type_37 rfl ?_
      refine g_get (C := "LevelBreaks$Beforehand") (T := T_BF) (N := 8) (k := 1) (v := .int (I 53 1)) sh_53 (by decide) rfl rfl i_BF (by decide) fl_LB_250 (Or.inl rfl) rfl dc_LB_type_40 rfl ?_
      refine g_iload_n dc_LB_type_43 rfl rfl rfl ?_
      refine g_iast sh_54 (b1 c1 c2) dc_LB_type_44 rfl ?_
      refine g_aload_n dc_LB_type_45 rfl rfl rfl ?_
      refine g_get (C := "LevelBreaks") (T := T_LB) (N := 11) (k := 7) (v := .ref 53) sh_0 (by decide) rfl rfl i_LB (by decide) fl_LB_51 (Or.inl rfl) rfl dc_LB_type_46 rfl ?_
      refine g_dup dc_LB_type_49 rfl rfl ?_
      refine g_get (C := "LevelBreaks$Beforehand") (T := T_BF) (N := 8) (k := 1) (v := .int (I 53 1)) sh_53 (by decide) rfl rfl i_BF (by decide) fl_LB_250 (Or.inl rfl) rfl dc_LB_type_50 rfl ?_
      refine g_iconst (v := 1) dc_LB_type_53 rfl (by decide) ?_
      refine g_iadd dc_LB_type_54 rfl ?_
      refine g_putI (C := "LevelBreaks$Beforehand") (T := T_BF) (N := 8) (k := 1) (ty := t_BF) sh_53 (by decide) rfl rfl i_BF p_BF n_BF (by decide) fl_LB_250 (Or.inl rfl) rfl (by decide) dc_LB_type_55 rfl ?_
      refine g_aload_n dc_LB_type_58 rfl rfl rfl ?_
      refine g_get (C := "LevelBreaks") (T := T_LB) (N := 11) (k := 7) (v := .ref 53) sh_0 (by decide) rfl rfl i_LB (by decide) fl_LB_51 (Or.inl rfl) rfl dc_LB_type_59 rfl ?_
      refine g_get (C := "LevelBreaks$Beforehand") (T := T_BF) (N := 8) (k := 1) (v := .int ((I 53 1) + 1)) sh_53 (by decide) rfl rfl i_BF (by decide) fl_LB_250 (Or.inl rfl) rfl dc_LB_type_62 rfl ?_
      exact g_iret rfl dc_LB_type_65 (q2 c1 c2)
    · refine g_bipush (v := (-4)) dc_LB_type_26 rfl (by decide) ?_
      exact g_iret rfl dc_LB_type_28 (q3 c1 c2)
  · refine g_bipush (v := (-2)) dc_LB_type_11 rfl (by decide) ?_
    exact g_iret rfl dc_LB_type_13 (q4 c1)
theorem dc_LB_value_0 : decode prog_1_method_6_code 0 = .ok (.iload_n 1, 1) := by decide +kernel
theorem dc_LB_value_1 : decode prog_1_method_6_code 1 = .ok (.invokestatic 69, 3) := by decide +kernel
theorem dc_LB_value_4 : decode prog_1_method_6_code 4 = .ok (.ifCond .eq 24, 3) := by decide +kernel
theorem dc_LB_value_7 : decode prog_1_method_6_code 7 = .ok (.iload_n 2, 1) := by decide +kernel
theorem dc_LB_value_8 : decode prog_1_method_6_code 8 = .ok (.invokestatic 73, 3) := by decide +kernel
theorem dc_LB_value_11 : decode prog_1_method_6_code 11 = .ok (.ifCond .eq 17, 3) := by decide +kernel
theorem dc_LB_value_14 : decode prog_1_method_6_code 14 = .ok (.aload_n 0, 1) := by decide +kernel
theorem dc_LB_value_15 : decode prog_1_method_6_code 15 = .ok (.getfield 19, 3) := by decide +kernel
theorem dc_LB_value_18 : decode prog_1_method_6_code 18 = .ok (.iload_n 1, 1) := by decide +kernel
theorem dc_LB_value_19 : decode prog_1_method_6_code 19 = .ok (.aaload, 1) := by decide +kernel
theorem dc_LB_value_20 : decode prog_1_method_6_code 20 = .ok (.getfield 112, 3) := by decide +kernel
theorem dc_LB_value_23 : decode prog_1_method_6_code 23 = .ok (.iload_n 2, 1) := by decide +kernel
theorem dc_LB_value_24 : decode prog_1_method_6_code 24 = .ok (.iaload, 1) := by decide +kernel
theorem dc_LB_value_25 : decode prog_1_method_6_code 25 = .ok (.goto 6, 3) := by decide +kernel
theorem dc_LB_value_28 : decode prog_1_method_6_code 28 = .ok (.sipush (-10000), 3) := by decide +kernel
theorem dc_LB_value_31 : decode prog_1_method_6_code 31 = .ok (.ireturn, 1) := by decide +kernel
theorem w_LB_value_0 {G : GC} {d : Nat} {P : PT} {I : MI} {J : MJ} {x1 : Int32} {x2 : Int32} (k1 : ((f_LB_isRow x1) = 0) → Go G (fr G m_LB_value (d + 2) P) 28 [none, none, none] [] I J) (k2 : (¬ ((f_LB_isRow x1) = 0)) → ((f_LB_isDay x2) = 0) → Go G (fr G m_LB_value (d + 2) P) 28 [none, none, none] [] I J) (b3 : (¬ ((f_LB_isRow x1) = 0)) → (¬ ((f_LB_isDay x2) = 0)) → vp_in x1 4) (b4 : (¬ ((f_LB_isRow x1) = 0)) → (¬ ((f_LB_isDay x2) = 0)) → vp_in x2 40) (q5 : (¬ ((f_LB_isRow x1) = 0)) → (¬ ((f_LB_isDay x2) = 0)) → P (some (.int (I ((7 + 5 * x1.toNatClampNeg) + 1) x2.toNatClampNeg))) I J) : Go G (fr G m_LB_value (d + 2) P) 0 [some (.ref 0), some (.int x1), some (.int x2)] [] I J := by
  refine g_iload_n dc_LB_value_0 rfl rfl rfl ?_
  refine g_callS (M := m_LB_isRow) (As := [.int x1]) (rest := []) ok_LB_isRow st_LB_isRow ml_LB_69 rfl rfl (Nat.le_of_ble_eq_true rfl) dc_LB_value_1 rfl rOk_fr (c_LB_isRow ?_)
  show Go G (fr G m_LB_value (d + 2) P) 4 [some (.ref 0), some (.int x1), some (.int x2)] [.int (f_LB_isRow x1)] I J
  refine g_if_eq (tgt := 28) dc_LB_value_4 rfl (by decide) (fun c1 => ?_) (fun c1 => ?_)
  · refine g_weak [none, none, none] trivial ?_
    exact (k1 c1)
  · refine g_iload_n dc_LB_value_7 rfl rfl rfl ?_
    refine g_callS (M := m_LB_isDay) (As := [.int x2]) (rest := []) ok_LB_isDay st_LB_isDay ml_LB_73 rfl rfl (Nat.le_of_ble_eq_true rfl) dc_LB_value_8 rfl rOk_fr (c_LB_isDay ?_)
    show Go G (fr G m_LB_value (d + 2) P) 11 [some (.ref 0), some (.int x1), some (.int x2)] [.int (f_LB_isDay x2)] I J
    refine g_if_eq (tgt := 28) dc_LB_value_11 rfl (by decide) (fun c2 => ?_) (fun c2 => ?_)
    · refine g_weak [none, none, none] trivial ?_
      exact (k2 c1 c2)
    · refine g_aload_n dc_LB_value_14 rfl rfl rfl ?_
      refine g_get (C := "LevelBreaks") (T := T_LB) (N := 11) (k := 1) (v := .ref 6) sh_0 (by decide) rfl rfl i_LB (by decide) fl_LB_19 (Or.inl rfl) rfl dc_LB_value_15 rfl ?_
      refine g_iload_n dc_LB_value_18 rfl rfl rfl ?_
      refine g_aald (r := (7 + 5 * x1.toNatClampNeg)) sh_6 (by decide) rfl (b3 c1 c2) (now_at (vin_lt (b3 c1 c2))) dc_LB_value_19 rfl ?_
      refine g_get (C := "LevelBreaks$Points") (T := T_PO) (N := 5) (k := 0) (v := .ref ((7 + 5 * x1.toNatClampNeg) + 1)) (pts_in (b3 c1 c2)).1 (by decide) rfl rfl i_PO (by decide) fl_LB_112 (Or.inl rfl) rfl dc_LB_value_20 rfl ?_
      refine g_iload_n dc_LB_value_23 rfl rfl rfl ?_
      refine g_ialdv (v := (I ((7 + 5 * x1.toNatClampNeg) + 1) x2.toNatClampNeg)) (pts_in (b3 c1 c2)).2.1 (b4 c1 c2) rfl dc_LB_value_24 rfl ?_
      refine g_goto (tgt := 31) dc_LB_value_25 (by decide) ?_
      exact g_iret rfl dc_LB_value_31 (q5 c1 c2)
theorem w_LB_value_28 {G : GC} {d : Nat} {P : PT} {I : MI} {J : MJ}  (q1 : P (some (.int (-10000))) I J) : Go G (fr G m_LB_value (d + 2) P) 28 [none, none, none] [] I J := by
  refine g_sipush (v := (-10000)) dc_LB_value_28 rfl (by decide) ?_
  exact g_iret rfl dc_LB_value_31 q1
theorem dc_LB_wipe_0 : decode prog_1_method_23_code 0 = .ok (.aload_n 0, 1) := by decide +kernel
theorem dc_LB_wipe_1 : decode prog_1_method_23_code 1 = .ok (.getfield 51, 3) := by decide +kernel
theorem dc_LB_wipe_4 : decode prog_1_method_23_code 4 = .ok (.getfield 250, 3) := by decide +kernel
theorem dc_LB_wipe_7 : decode prog_1_method_23_code 7 = .ok (.istore_n 1, 1) := by decide +kernel
theorem dc_LB_wipe_8 : decode prog_1_method_23_code 8 = .ok (.aload_n 0, 1) := by decide +kernel
theorem dc_LB_wipe_9 : decode prog_1_method_23_code 9 = .ok (.getfield 51, 3) := by decide +kernel
theorem dc_LB_wipe_12 : decode prog_1_method_23_code 12 = .ok (.iconst 0, 1) := by decide +kernel
theorem dc_LB_wipe_13 : decode prog_1_method_23_code 13 = .ok (.putfield 250, 3) := by decide +kernel
theorem dc_LB_wipe_16 : decode prog_1_method_23_code 16 = .ok (.iload_n 1, 1) := by decide +kernel
theorem dc_LB_wipe_17 : decode prog_1_method_23_code 17 = .ok (.ireturn, 1) := by decide +kernel
theorem w_LB_wipe_0 {G : GC} {d : Nat} {P : PT} {I : MI} {J : MJ}  (q1 : P (some (.int (I 53 1))) (u2 I 53 1 0) J) : Go G (fr G m_LB_wipe d P) 0 [some (.ref 0), none] [] I J := by
  refine g_aload_n dc_LB_wipe_0 rfl rfl rfl ?_
  refine g_get (C := "LevelBreaks") (T := T_LB) (N := 11) (k := 7) (v := .ref 53) sh_0 (by decide) rfl rfl i_LB (by decide) fl_LB_51 (Or.inl rfl) rfl dc_LB_wipe_1 rfl ?_
  refine g_get (C := "LevelBreaks$Beforehand") (T := T_BF) (N := 8) (k := 1) (v := .int (I 53 1)) sh_53 (by decide) rfl rfl i_BF (by decide) fl_LB_250 (Or.inl rfl) rfl dc_LB_wipe_4 rfl ?_
  refine g_istore_n (L' := [some (.ref 0), some (.int (I 53 1))]) dc_LB_wipe_7 rfl rfl (Nat.le_of_ble_eq_true rfl) rfl ?_
  refine g_aload_n dc_LB_wipe_8 rfl rfl rfl ?_
  refine g_get (C := "LevelBreaks") (T := T_LB) (N := 11) (k := 7) (v := .ref 53) sh_0 (by decide) rfl rfl i_LB (by decide) fl_LB_51 (Or.inl rfl) rfl dc_LB_wipe_9 rfl ?_
  refine g_iconst (v := 0) dc_LB_wipe_12 rfl (by decide) ?_
  refine g_putI (C := "LevelBreaks$Beforehand") (T := T_BF) (N := 8) (k := 1) (ty := t_BF) sh_53 (by decide) rfl rfl i_BF p_BF n_BF (by decide) fl_LB_250 (Or.inl rfl) rfl (by decide) dc_LB_wipe_13 rfl ?_
  refine g_iload_n dc_LB_wipe_16 rfl rfl rfl ?_
  exact g_iret rfl dc_LB_wipe_17 q1
theorem dc_LB_write_0 : decode prog_1_method_31_code 0 = .ok (.iload_n 1, 1) := by decide +kernel
theorem dc_LB_write_1 : decode prog_1_method_31_code 1 = .ok (.invokestatic 69, 3) := by decide +kernel
theorem dc_LB_write_4 : decode prog_1_method_31_code 4 = .ok (.ifCond .eq 10, 3) := by decide +kernel
theorem dc_LB_write_7 : decode prog_1_method_31_code 7 = .ok (.iload_n 2, 1) := by decide +kernel
theorem dc_LB_write_8 : decode prog_1_method_31_code 8 = .ok (.invokestatic 93, 3) := by decide +kernel
theorem dc_LB_write_11 : decode prog_1_method_31_code 11 = .ok (.ifCond .ne 6, 3) := by decide +kernel
theorem dc_LB_write_14 : decode prog_1_method_31_code 14 = .ok (.bipush (-2), 2) := by decide +kernel
theorem dc_LB_write_16 : decode prog_1_method_31_code 16 = .ok (.ireturn, 1) := by decide +kernel
theorem dc_LB_write_17 : decode prog_1_method_31_code 17 = .ok (.aload_n 0, 1) := by decide +kernel
theorem dc_LB_write_18 : decode prog_1_method_31_code 18 = .ok (.getfield 58, 3) := by decide +kernel
theorem dc_LB_write_21 : decode prog_1_method_31_code 21 = .ok (.iload_n 2, 1) := by decide +kernel
theorem dc_LB_write_22 : decode prog_1_method_31_code 22 = .ok (.aaload, 1) := by decide +kernel
theorem dc_LB_write_23 : decode prog_1_method_31_code 23 = .ok (.astore_n 3, 1) := by decide +kernel
theorem dc_LB_write_24 : decode prog_1_method_31_code 24 = .ok (.aload_n 3, 1) := by decide +kernel
theorem dc_LB_write_25 : decode prog_1_method_31_code 25 = .ok (.invokevirtual 96, 3) := by decide +kernel
theorem dc_LB_write_28 : decode prog_1_method_31_code 28 = .ok (.ifCond .eq 9, 3) := by decide +kernel
theorem dc_LB_write_31 : decode prog_1_method_31_code 31 = .ok (.aload_n 0, 1) := by decide +kernel
theorem dc_LB_write_32 : decode prog_1_method_31_code 32 = .ok (.iconst 1, 1) := by decide +kernel
theorem dc_LB_write_33 : decode prog_1_method_31_code 33 = .ok (.invokevirtual 100, 3) := by decide +kernel
theorem dc_LB_write_36 : decode prog_1_method_31_code 36 = .ok (.ireturn, 1) := by decide +kernel
theorem dc_LB_write_37 : decode prog_1_method_31_code 37 = .ok (.aload_n 3, 1) := by decide +kernel
theorem dc_LB_write_38 : decode prog_1_method_31_code 38 = .ok (.getfield 104, 3) := by decide +kernel
theorem dc_LB_write_41 : decode prog_1_method_31_code 41 = .ok (.bipush 40, 2) := by decide +kernel
theorem dc_LB_write_43 : decode prog_1_method_31_code 43 = .ok (.invokestatic 292, 3) := by decide +kernel
theorem dc_LB_write_46 : decode prog_1_method_31_code 46 = .ok (.istore 4, 2) := by decide +kernel
theorem dc_LB_write_48 : decode prog_1_method_31_code 48 = .ok (.iconst 0, 1) := by decide +kernel
theorem dc_LB_write_49 : decode prog_1_method_31_code 49 = .ok (.istore 5, 2) := by decide +kernel
theorem dc_LB_write_51 : decode prog_1_method_31_code 51 = .ok (.iload 5, 2) := by decide +kernel
theorem dc_LB_write_53 : decode prog_1_method_31_code 53 = .ok (.iload 4, 2) := by decide +kernel
theorem dc_LB_write_55 : decode prog_1_method_31_code 55 = .ok (.if_icmp .ge 27, 3) := by decide +kernel
theorem dc_LB_write_58 : decode prog_1_method_31_code 58 = .ok (.aload_n 3, 1) := by decide +kernel
theorem dc_LB_write_59 : decode prog_1_method_31_code 59 = .ok (.iload 5, 2) := by decide +kernel
theorem dc_LB_write_61 : decode prog_1_method_31_code 61 = .ok (.aload_n 0, 1) := by decide +kernel
theorem dc_LB_write_62 : decode prog_1_method_31_code 62 = .ok (.getfield 19, 3) := by decide +kernel
theorem dc_LB_write_65 : decode prog_1_method_31_code 65 = .ok (.iload_n 1, 1) := by decide +kernel
theorem dc_LB_write_66 : decode prog_1_method_31_code 66 = .ok (.aaload, 1) := by decide +kernel
theorem dc_LB_write_67 : decode prog_1_method_31_code 67 = .ok (.getfield 112, 3) := by decide +kernel
theorem dc_LB_write_70 : decode prog_1_method_31_code 70 = .ok (.iload 5, 2) := by decide +kernel
theorem dc_LB_write_72 : decode prog_1_method_31_code 72 = .ok (.iaload, 1) := by decide +kernel
theorem dc_LB_write_73 : decode prog_1_method_31_code 73 = .ok (.invokevirtual 275, 3) := by decide +kernel
theorem dc_LB_write_76 : decode prog_1_method_31_code 76 = .ok (.iinc 5 1, 3) := by decide +kernel
theorem dc_LB_write_79 : decode prog_1_method_31_code 79 = .ok (.goto (-28), 3) := by decide +kernel
theorem dc_LB_write_82 : decode prog_1_method_31_code 82 = .ok (.iload 4, 2) := by decide +kernel
theorem dc_LB_write_84 : decode prog_1_method_31_code 84 = .ok (.ireturn, 1) := by decide +kernel
theorem w_LB_write_0 {G : GC} {d : Nat} {P : PT} {I : MI} {J : MJ} {x1 : Int32} {x2 : Int32} (k1 : ((f_LB_isRow x1) = 0) → Go G (fr G m_LB_write (d + 2) P) 14 [none, none, none, none, none, none] [] I J) (b2 : (¬ ((f_LB_isRow x1) = 0)) → (¬ (f_LB_isSheet x2) = 0) → vp_in x2 4) (k3 : (¬ ((f_LB_isRow x1) = 0)) → (¬ (f_LB_isSheet x2) = 0) → Ct G (d + 1) m_SH_isLost [.ref (59 + 2 * x2.toNatClampNeg)] (fun r I' J' => Go G (fr G m_LB_write (d + 2) P) 28 [some (.ref 0), some (.int x1), none, some (.ref (59 + 2 * x2.toNatClampNeg)), none, none] (r.toList ++ []) I' J') I J) (k4 : (¬ ((f_LB_isRow x1) = 0)) → ((f_LB_isSheet x2) = 0) → Go G (fr G m_LB_write (d + 2) P) 14 [none, none, none, none, none, none] [] I J) : Go G (fr G m_LB_write (d + 2) P) 0 [some (.ref 0), some (.int x1), some (.int x2), none, none, none] [] I J := by
  refine g_iload_n dc_LB_write_0 rfl rfl rfl ?_
  refine g_callS (M := m_LB_isRow) (As := [.int x1]) (rest := []) ok_LB_isRow st_LB_isRow ml_LB_69 rfl rfl (Nat.le_of_ble_eq_true rfl) dc_LB_write_1 rfl rOk_fr (c_LB_isRow ?_)
  show Go G (fr G m_LB_write (d + 2) P) 4 [some (.ref 0), some (.int x1), some (.int x2), none, none, none] [.int (f_LB_isRow x1)] I J
  refine g_if_eq (tgt := 14) dc_LB_write_4 rfl (by decide) (fun c1 => ?_) (fun c1 => ?_)
  · refine g_weak [none, none, none, none, none, none] trivial ?_
    exact (k1 c1)
  · refine g_iload_n dc_LB_write_7 rfl rfl rfl ?_
    refine g_callS (M := m_LB_isSheet) (As := [.int x2]) (rest := []) ok_LB_isSheet st_LB_isSheet ml_LB_93 rfl rfl (Nat.le_of_ble_eq_true rfl) dc_LB_write_8 rfl rOk_fr (c_LB_isSheet ?_)
    show Go G (fr G m_LB_write (d + 2) P) 11 [some (.ref 0), some (.int x1), some (.int x2), none, none, none] [.int (f_LB_isSheet x2)] I J
    refine g_if_ne (tgt := 17) dc_LB_write_11 rfl (by decide) (fun c2 => ?_) (fun c2 => ?_)
    · refine g_aload_n dc_LB_write_17 rfl rfl rfl ?_
      refine g_get (C := "LevelBreaks") (T := T_LB) (N := 11) (k := 8) (v := .ref 58) sh_0 (by decide) rfl rfl i_LB (by decide) fl_LB_58 (Or.inl rfl) rfl dc_LB_write_18 rfl ?_
      refine g_iload_n dc_LB_write_21 rfl rfl rfl ?_
      refine g_aald (r := (59 + 2 * x2.toNatClampNeg)) sh_58 (by decide) rfl (b2 c1 c2) (she_at (vin_lt (b2 c1 c2))) dc_LB_write_22 rfl ?_
      refine g_astore_n (L' := [some (.ref 0), some (.int x1), some (.int x2), some (.ref (59 + 2 * x2.toNatClampNeg)), none, none]) dc_LB_write_23 rfl rfl (Nat.le_of_ble_eq_true rfl) rfl ?_
      refine g_aload_n dc_LB_write_24 rfl rfl rfl ?_
      refine g_weak [some (.ref 0), some (.int x1), none, some (.ref (59 + 2 * x2.toNatClampNeg)), none, none] ⟨rfl, ⟨rfl, ⟨rfl, trivial⟩⟩⟩ ?_
      exact g_callV (T := T_SH) (N := 3) (As := []) (rest := []) ok_SH_isLost in_SH_isLost se_SH_isLost ml_LB_96 (sht_in (b2 c1 c2)).1 (by decide) rfl rfl rfl (Nat.le_of_ble_eq_true rfl) dc_LB_write_25 rfl rOk_fr (k3 c1 c2)
    · refine g_weak [none, none, none, none, none, none] trivial ?_
      exact (k4 c1 c2)
theorem w_LB_write_14 {G : GC} {d : Nat} {P : PT} {I : MI} {J : MJ}  (q1 : P (some (.int (-2))) I J) : Go G (fr G m_LB_write (d + 2) P) 14 [none, none, none, none, none, none] [] I J := by
  refine g_bipush (v := (-2)) dc_LB_write_14 rfl (by decide) ?_
  exact g_iret rfl dc_LB_write_16 q1
theorem w_LB_write_28 {G : GC} {d : Nat} {P : PT} {I : MI} {J : MJ} {x1 : Int32} {o3 : Nat} (h3 : ShtAt o3) {y0 : Int32} (k1 : (y0 = 0) → Go G (fr G m_LB_write (d + 2) P) 51 [some (.ref 0), some (.int x1), none, some (.ref o3), some (.int (f_JM_min_II (I o3 2) 40)), some (.int 0)] [] I J) (k2 : (¬ (y0 = 0)) → Ct G (d + 1) m_LB_found [.ref 0, .int 1] (fun r I' J' => Go G (fr G m_LB_write (d + 2) P) 36 [none, none, none, none, none, none] (r.toList ++ []) I' J') I J) : Go G (fr G m_LB_write (d + 2) P) 28 [some (.ref 0), some (.int x1), none, some (.ref o3), none, none] [.int y0] I J := by
  refine g_if_eq (tgt := 37) dc_LB_write_28 rfl (by decide) (fun c1 => ?_) (fun c1 => ?_)
  · refine g_aload_n dc_LB_write_37 rfl rfl rfl ?_
    refine g_get (C := "LevelBreaks$Sheet") (T := T_SH) (N := 3) (k := 2) (v := .int (I o3 2)) h3.1 (by decide) rfl rfl i_SH (by decide) fl_LB_104 (Or.inl rfl) rfl dc_LB_write_38 rfl ?_
    refine g_bipush (v := 40) dc_LB_write_41 rfl (by decide) ?_
    refine g_callS (M := m_JM_min_II) (As := [.int (I o3 2), .int 40]) (rest := []) ok_JM_min_II st_JM_min_II ml_LB_292 rfl rfl (Nat.le_of_ble_eq_true rfl) dc_LB_write_43 rfl rOk_fr (c_JM_min_II ?_)
    show Go G (fr G m_LB_write (d + 2) P) 46 [some (.ref 0), some (.int x1), none, some (.ref o3), none, none] [.int (f_JM_min_II (I o3 2) 40)] I J
    refine g_istore (L' := [some (.ref 0), some (.int x1), none, some (.ref o3), some (.int (f_JM_min_II (I o3 2) 40)), none]) dc_LB_write_46 rfl (Nat.le_of_ble_eq_true rfl) rfl ?_
    refine g_iconst (v := 0) dc_LB_write_48 rfl (by decide) ?_
    refine g_istore (L' := [some (.ref 0), some (.int x1), none, some (.ref o3), some (.int (f_JM_min_II (I o3 2) 40)), some (.int 0)]) dc_LB_write_49 rfl (Nat.le_of_ble_eq_true rfl) rfl ?_
    exact (k1 c1)
  · refine g_aload_n dc_LB_write_31 rfl rfl rfl ?_
    refine g_iconst (v := 1) dc_LB_write_32 rfl (by decide) ?_
    refine g_weak [none, none, none, none, none, none] trivial ?_
    exact g_callV (T := T_LB) (N := 11) (As := [.int 1]) (rest := []) ok_LB_found in_LB_found se_LB_found ml_LB_100 sh_0 (by decide) rfl rfl rfl (Nat.le_of_ble_eq_true rfl) dc_LB_write_33 rfl rOk_fr (k2 c1)
theorem w_LB_write_36 {G : GC} {d : Nat} {P : PT} {I : MI} {J : MJ} {y0 : Int32} (q1 : P (some (.int y0)) I J) : Go G (fr G m_LB_write (d + 2) P) 36 [none, none, none, none, none, none] [.int y0] I J := by
  exact g_iret rfl dc_LB_write_36 q1
theorem w_LB_write_51 {G : GC} {d : Nat} {P : PT} {I : MI} {J : MJ} {x1 : Int32} {o3 : Nat} (h3 : ShtAt o3) {x4 : Int32} {x5 : Int32} (q1 : (x4 ≤ x5) → P (some (.int x4)) I J) (b2 : (¬ (x4 ≤ x5)) → vp_in x1 4) (b3 : (¬ (x4 ≤ x5)) → vp_in x5 40) (k4 : (¬ (x4 ≤ x5)) → Ct G (d + 1) m_SH_store [.ref o3, .int x5, .int (I ((7 + 5 * x1.toNatClampNeg) + 1) x5.toNatClampNeg)] (fun r I' J' => Go G (fr G m_LB_write (d + 2) P) 76 [some (.ref 0), some (.int x1), none, some (.ref o3), some (.int x4), some (.int x5)] (r.toList ++ []) I' J') I J) : Go G (fr G m_LB_write (d + 2) P) 51 [some (.ref 0), some (.int x1), none, some (.ref o3), some (.int x4), some (.int x5)] [] I J := by
  refine g_iload dc_LB_write_51 rfl rfl ?_
  refine g_iload dc_LB_write_53 rfl rfl ?_
  refine g_ic_ge (tgt := 82) dc_LB_write_55 rfl (by decide) (fun c1 => ?_) (fun c1 => ?_)
  · refine g_iload dc_LB_write_82 rfl rfl ?_
    exact g_iret rfl dc_LB_write_84 (q1 c1)
  · refine g_aload_n dc_LB_write_58 rfl rfl rfl ?_
    refine g_iload dc_LB_write_59 rfl rfl ?_
    refine g_aload_n dc_LB_write_61 rfl rfl rfl ?_
    refine g_get (C := "LevelBreaks") (T := T_LB) (N := 11) (k := 1) (v := .ref 6) sh_0 (by decide) rfl rfl i_LB (by decide) fl_LB_19 (Or.inl rfl) rfl dc_LB_write_62 rfl ?_
    refine g_iload_n dc_LB_write_65 rfl rfl rfl ?_
    refine g_aald (r := (7 + 5 * x1.toNatClampNeg)) sh_6 (by decide) rfl (b2 c1) (now_at (vin_lt (b2 c1))) dc_LB_write_66 rfl ?_
    refine g_get (C := "LevelBreaks$Points") (T := T_PO) (N := 5) (k := 0) (v := .ref ((7 + 5 * x1.toNatClampNeg) + 1)) (pts_in (b2 c1)).1 (by decide) rfl rfl i_PO (by decide) fl_LB_112 (Or.inl rfl) rfl dc_LB_write_67 rfl ?_
    refine g_iload dc_LB_write_70 rfl rfl ?_
    refine g_ialdv (v := (I ((7 + 5 * x1.toNatClampNeg) + 1) x5.toNatClampNeg)) (pts_in (b2 c1)).2.1 (b3 c1) rfl dc_LB_write_72 rfl ?_
    exact g_callV (T := T_SH) (N := 3) (As := [.int x5, .int (I ((7 + 5 * x1.toNatClampNeg) + 1) x5.toNatClampNeg)]) (rest := []) ok_SH_store in_SH_store se_SH_store ml_LB_275 h3.1 (by decide) rfl rfl rfl (Nat.le_of_ble_eq_true rfl) dc_LB_write_73 rfl rOk_fr (k4 c1)
theorem w_LB_write_76 {G : GC} {d : Nat} {P : PT} {I : MI} {J : MJ} {x1 : Int32} {o3 : Nat} (h3 : ShtAt o3) {x4 : Int32} {x5 : Int32} (k1 : Go G (fr G m_LB_write (d + 2) P) 51 [some (.ref 0), some (.int x1), none, some (.ref o3), some (.int x4), some (.int (x5 + 1))] [] I J) : Go G (fr G m_LB_write (d + 2) P) 76 [some (.ref 0), some (.int x1), none, some (.ref o3), some (.int x4), some (.int x5)] [] I J := by
  refine g_iinc (v := (x5 + 1)) (L' := [some (.ref 0), some (.int x1), none, some (.ref o3), some (.int x4), some (.int (x5 + 1))]) dc_LB_write_76 rfl rfl (by rw [show Int32.ofInt 1 = 1 from by decide]) (Nat.le_of_ble_eq_true rfl) rfl ?_
  refine g_goto (tgt := 51) dc_LB_write_79 (by decide) ?_
  exact k1
