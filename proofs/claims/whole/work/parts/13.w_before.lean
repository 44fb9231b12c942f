theorem dc_BF_byteHere_0 : decode prog_3_method_3_code 0 = .ok (.aload_n 0, 1) := by decide +kernel
theorem dc_BF_byteHere_1 : decode prog_3_method_3_code 1 = .ok (.getfield 28, 3) := by decide +kernel
theorem dc_BF_byteHere_4 : decode prog_3_method_3_code 4 = .ok (.aload_n 0, 1) := by decide +kernel
theorem dc_BF_byteHere_5 : decode prog_3_method_3_code 5 = .ok (.getfield 15, 3) := by decide +kernel
theorem dc_BF_byteHere_8 : decode prog_3_method_3_code 8 = .ok (.if_icmp .ge 15, 3) := by decide +kernel
theorem dc_BF_byteHere_11 : decode prog_3_method_3_code 11 = .ok (.aload_n 0, 1) := by decide +kernel
theorem dc_BF_byteHere_12 : decode prog_3_method_3_code 12 = .ok (.getfield 9, 3) := by decide +kernel
theorem dc_BF_byteHere_15 : decode prog_3_method_3_code 15 = .ok (.aload_n 0, 1) := by decide +kernel
theorem dc_BF_byteHere_16 : decode prog_3_method_3_code 16 = .ok (.getfield 28, 3) := by decide +kernel
theorem dc_BF_byteHere_19 : decode prog_3_method_3_code 19 = .ok (.iaload, 1) := by decide +kernel
theorem dc_BF_byteHere_20 : decode prog_3_method_3_code 20 = .ok (.goto 4, 3) := by decide +kernel
theorem dc_BF_byteHere_23 : decode prog_3_method_3_code 23 = .ok (.iconst (-1), 1) := by decide +kernel
theorem dc_BF_byteHere_24 : decode prog_3_method_3_code 24 = .ok (.ireturn, 1) := by decide +kernel
theorem w_BF_byteHere_0 {G : GC} {d : Nat} {P : PT} {I : MI} {J : MJ}  (q1 : ((I 53 1) ≤ (I 53 6)) → P (some (.int (-1))) I J) (b2 : (¬ ((I 53 1) ≤ (I 53 6))) → vp_in (I 53 6) 100) (q3 : (¬ ((I 53 1) ≤ (I 53 6))) → P (some (.int (I 54 (I 53 6).toNatClampNeg))) I J) : Go G (fr G m_BF_byteHere d P) 0 [some (.ref 53)] [] I J := by
  refine g_aload_n dc_BF_byteHere_0 rfl rfl rfl ?_
  refine g_get (C := "LevelBreaks$Beforehand") (T := T_BF) (N := 8) (k := 6) (v := .int (I 53 6)) sh_53 (by decide) rfl rfl i_BF (by decide) fl_BF_28 (Or.inl rfl) rfl dc_BF_byteHere_1 rfl ?_
  refine g_aload_n dc_BF_byteHere_4 rfl rfl rfl ?_
  refine g_get (C := "LevelBreaks$Beforehand") (T := T_BF) (N := 8) (k := 1) (v := .int (I 53 1)) sh_53 (by decide) rfl rfl i_BF (by decide) fl_BF_15 (Or.inl rfl) rfl dc_BF_byteHere_5 rfl ?_
  refine g_ic_ge (tgt := 23) dc_BF_byteHere_8 rfl (by decide) (fun c1 => ?_) (fun c1 => ?_)
  · refine g_iconst (v := (-1)) dc_BF_byteHere_23 rfl (by decide) ?_
    exact g_iret rfl dc_BF_byteHere_24 (q1 c1)
  · refine g_aload_n dc_BF_byteHere_11 rfl rfl rfl ?_
    refine g_get (C := "LevelBreaks$Beforehand") (T := T_BF) (N := 8) (k := 0) (v := .ref 54) sh_53 (by decide) rfl rfl i_BF (by decide) fl_BF_9 (Or.inl rfl) rfl dc_BF_byteHere_12 rfl ?_
    refine g_aload_n dc_BF_byteHere_15 rfl rfl rfl ?_
    refine g_get (C := "LevelBreaks$Beforehand") (T := T_BF) (N := 8) (k := 6) (v := .int (I 53 6)) sh_53 (by decide) rfl rfl i_BF (by decide) fl_BF_28 (Or.inl rfl) rfl dc_BF_byteHere_16 rfl ?_
    refine g_ialdv (v := (I 54 (I 53 6).toNatClampNeg)) sh_54 (b2 c1) rfl dc_BF_byteHere_19 rfl ?_
    refine g_goto (tgt := 24) dc_BF_byteHere_20 (by decide) ?_
    exact g_iret rfl dc_BF_byteHere_24 (q3 c1)
theorem dc_BF_offAt_0 : decode prog_3_method_11_code 0 = .ok (.aload_n 0, 1) := by decide +kernel
theorem dc_BF_offAt_1 : decode prog_3_method_11_code 1 = .ok (.getfield 31, 3) := by decide +kernel
theorem dc_BF_offAt_4 : decode prog_3_method_11_code 4 = .ok (.iconst 1, 1) := by decide +kernel
theorem dc_BF_offAt_5 : decode prog_3_method_11_code 5 = .ok (.isub, 1) := by decide +kernel
theorem dc_BF_offAt_6 : decode prog_3_method_11_code 6 = .ok (.istore_n 3, 1) := by decide +kernel
theorem dc_BF_offAt_7 : decode prog_3_method_11_code 7 = .ok (.iload_n 3, 1) := by decide +kernel
theorem dc_BF_offAt_8 : decode prog_3_method_11_code 8 = .ok (.ifCond .lt 24, 3) := by decide +kernel
theorem dc_BF_offAt_11 : decode prog_3_method_11_code 11 = .ok (.aload_n 0, 1) := by decide +kernel
theorem dc_BF_offAt_12 : decode prog_3_method_11_code 12 = .ok (.getfield 19, 3) := by decide +kernel
theorem dc_BF_offAt_15 : decode prog_3_method_11_code 15 = .ok (.iload_n 3, 1) := by decide +kernel
theorem dc_BF_offAt_16 : decode prog_3_method_11_code 16 = .ok (.iaload, 1) := by decide +kernel
theorem dc_BF_offAt_17 : decode prog_3_method_11_code 17 = .ok (.aload_n 1, 1) := by decide +kernel
theorem dc_BF_offAt_18 : decode prog_3_method_11_code 18 = .ok (.getfield 68, 3) := by decide +kernel
theorem dc_BF_offAt_21 : decode prog_3_method_11_code 21 = .ok (.iload_n 2, 1) := by decide +kernel
theorem dc_BF_offAt_22 : decode prog_3_method_11_code 22 = .ok (.iaload, 1) := by decide +kernel
theorem dc_BF_offAt_23 : decode prog_3_method_11_code 23 = .ok (.if_icmp .le 9, 3) := by decide +kernel
theorem dc_BF_offAt_26 : decode prog_3_method_11_code 26 = .ok (.iinc 3 (-1), 3) := by decide +kernel
theorem dc_BF_offAt_29 : decode prog_3_method_11_code 29 = .ok (.goto (-22), 3) := by decide +kernel
theorem dc_BF_offAt_32 : decode prog_3_method_11_code 32 = .ok (.iload_n 3, 1) := by decide +kernel
theorem dc_BF_offAt_33 : decode prog_3_method_11_code 33 = .ok (.ifCond .ge 5, 3) := by decide +kernel
theorem dc_BF_offAt_36 : decode prog_3_method_11_code 36 = .ok (.iconst 0, 1) := by decide +kernel
theorem dc_BF_offAt_37 : decode prog_3_method_11_code 37 = .ok (.ireturn, 1) := by decide +kernel
theorem dc_BF_offAt_38 : decode prog_3_method_11_code 38 = .ok (.iconst 0, 1) := by decide +kernel
theorem dc_BF_offAt_39 : decode prog_3_method_11_code 39 = .ok (.aload_n 1, 1) := by decide +kernel
theorem dc_BF_offAt_40 : decode prog_3_method_11_code 40 = .ok (.getfield 71, 3) := by decide +kernel
theorem dc_BF_offAt_43 : decode prog_3_method_11_code 43 = .ok (.iload_n 2, 1) := by decide +kernel
theorem dc_BF_offAt_44 : decode prog_3_method_11_code 44 = .ok (.iaload, 1) := by decide +kernel
theorem dc_BF_offAt_45 : decode prog_3_method_11_code 45 = .ok (.aload_n 0, 1) := by decide +kernel
theorem dc_BF_offAt_46 : decode prog_3_method_11_code 46 = .ok (.getfield 22, 3) := by decide +kernel
theorem dc_BF_offAt_49 : decode prog_3_method_11_code 49 = .ok (.iload_n 3, 1) := by decide +kernel
theorem dc_BF_offAt_50 : decode prog_3_method_11_code 50 = .ok (.iaload, 1) := by decide +kernel
theorem dc_BF_offAt_51 : decode prog_3_method_11_code 51 = .ok (.isub, 1) := by decide +kernel
theorem dc_BF_offAt_52 : decode prog_3_method_11_code 52 = .ok (.invokestatic 74, 3) := by decide +kernel
theorem dc_BF_offAt_55 : decode prog_3_method_11_code 55 = .ok (.aload_n 0, 1) := by decide +kernel
theorem dc_BF_offAt_56 : decode prog_3_method_11_code 56 = .ok (.getfield 25, 3) := by decide +kernel
theorem dc_BF_offAt_59 : decode prog_3_method_11_code 59 = .ok (.iload_n 3, 1) := by decide +kernel
theorem dc_BF_offAt_60 : decode prog_3_method_11_code 60 = .ok (.iaload, 1) := by decide +kernel
theorem dc_BF_offAt_61 : decode prog_3_method_11_code 61 = .ok (.isub, 1) := by decide +kernel
theorem dc_BF_offAt_62 : decode prog_3_method_11_code 62 = .ok (.invokestatic 79, 3) := by decide +kernel
theorem dc_BF_offAt_65 : decode prog_3_method_11_code 65 = .ok (.ireturn, 1) := by decide +kernel
theorem w_BF_offAt_0 {G : GC} {d : Nat} {P : PT} {I : MI} {J : MJ} {o1 : Nat} (h1 : PtsAt o1) {x2 : Int32} (k1 : Go G (fr G m_BF_offAt (d + 1) P) 7 [some (.ref 53), some (.ref o1), some (.int x2), some (.int ((I 53 5) - 1))] [] I J) : Go G (fr G m_BF_offAt (d + 1) P) 0 [some (.ref 53), some (.ref o1), some (.int x2), none] [] I J := by
  refine g_aload_n dc_BF_offAt_0 rfl rfl rfl ?_
  refine g_get (C := "LevelBreaks$Beforehand") (T := T_BF) (N := 8) (k := 5) (v := .int (I 53 5)) sh_53 (by decide) rfl rfl i_BF (by decide) fl_BF_31 (Or.inl rfl) rfl dc_BF_offAt_1 rfl ?_
  refine g_iconst (v := 1) dc_BF_offAt_4 rfl (by decide) ?_
  refine g_isub dc_BF_offAt_5 rfl ?_
  refine g_istore_n (L' := [some (.ref 53), some (.ref o1), some (.int x2), some (.int ((I 53 5) - 1))]) dc_BF_offAt_6 rfl rfl (Nat.le_of_ble_eq_true rfl) rfl ?_
  exact k1
theorem w_BF_offAt_7 {G : GC} {d : Nat} {P : PT} {I : MI} {J : MJ} {o1 : Nat} (h1 : PtsAt o1) {x2 : Int32} {x3 : Int32} (k1 : (x3 < 0) → Go G (fr G m_BF_offAt (d + 1) P) 32 [some (.ref 53), some (.ref o1), some (.int x2), some (.int x3)] [] I J) (b2 : (¬ (x3 < 0)) → vp_in x3 40) (b3 : (¬ (x3 < 0)) → vp_in x2 40) (k4 : (¬ (x3 < 0)) → ((I 55 x3.toNatClampNeg) ≤ (I (o1 + 2) x2.toNatClampNeg)) → Go G (fr G m_BF_offAt (d + 1) P) 32 [some (.ref 53), some (.ref o1), some (.int x2), some (.int x3)] [] I J) (k5 : (¬ (x3 < 0)) → (¬ ((I 55 x3.toNatClampNeg) ≤ (I (o1 + 2) x2.toNatClampNeg))) → Go G (fr G m_BF_offAt (d + 1) P) 7 [some (.ref 53), some (.ref o1), some (.int x2), some (.int (x3 + (-1)))] [] I J) : Go G (fr G m_BF_offAt (d + 1) P) 7 [some (.ref 53), some (.ref o1), some (.int x2), some (.int x3)] [] I J := by
  refine g_iload_n dc_BF_offAt_7 rfl rfl rfl ?_
  refine g_if_lt (tgt := 32) dc_BF_offAt_8 rfl (by decide) (fun c1 => ?_) (fun c1 => ?_)
  · exact (k1 c1)
  · refine g_aload_n dc_BF_offAt_11 rfl rfl rfl ?_
    refine g_get (C := "LevelBreaks$Beforehand") (T := T_BF) (N := 8) (k := 2) (v := .ref 55) sh_53 (by decide) rfl rfl i_BF (by decide) fl_BF_19 (Or.inl rfl) rfl dc_BF_offAt_12 rfl ?_
    refine g_iload_n dc_BF_offAt_15 rfl rfl rfl ?_
    refine g_ialdv (v := (I 55 x3.toNatClampNeg)) sh_55 (b2 c1) rfl dc_BF_offAt_16 rfl ?_
    refine g_aload_n dc_BF_offAt_17 rfl rfl rfl ?_
    refine g_get (C := "LevelBreaks$Points") (T := T_PO) (N := 5) (k := 1) (v := .ref (o1 + 2)) h1.1 (by decide) rfl rfl i_PO (by decide) fl_BF_68 (Or.inl rfl) rfl dc_BF_offAt_18 rfl ?_
    refine g_iload_n dc_BF_offAt_21 rfl rfl rfl ?_
    refine g_ialdv (v := (I (o1 + 2) x2.toNatClampNeg)) h1.2.2.1 (b3 c1) rfl dc_BF_offAt_22 rfl ?_
    refine g_ic_le (tgt := 32) dc_BF_offAt_23 rfl (by decide) (fun c2 => ?_) (fun c2 => ?_)
    · exact (k4 c1 c2)
    · refine g_iinc (v := (x3 + (-1))) (L' := [some (.ref 53), some (.ref o1), some (.int x2), some (.int (x3 + (-1)))]) dc_BF_offAt_26 rfl rfl (by rw [show Int32.ofInt (-1) = (-1) from by decide]) (Nat.le_of_ble_eq_true rfl) rfl ?_
      refine g_goto (tgt := 7) dc_BF_offAt_29 (by decide) ?_
      exact (k5 c1 c2)
theorem w_BF_offAt_32 {G : GC} {d : Nat} {P : PT} {I : MI} {J : MJ} {o1 : Nat} (h1 : PtsAt o1) {x2 : Int32} {x3 : Int32} (b1 : (0 ≤ x3) → vp_in x2 40) (b2 : (0 ≤ x3) → vp_in x3 40) (q3 : (0 ≤ x3) → P (some (.int (f_JM_max_II 0 ((f_JM_abs_I ((I (o1 + 3) x2.toNatClampNeg) - (I 56 x3.toNatClampNeg))) - (I 57 x3.toNatClampNeg))))) I J) (q4 : (¬ (0 ≤ x3)) → P (some (.int 0)) I J) : Go G (fr G m_BF_offAt (d + 1) P) 32 [some (.ref 53), some (.ref o1), some (.int x2), some (.int x3)] [] I J := by
  refine g_iload_n dc_BF_offAt_32 rfl rfl rfl ?_
  refine g_if_ge (tgt := 38) dc_BF_offAt_33 rfl (by decide) (fun c1 => ?_) (fun c1 => ?_)
  · refine g_iconst (v := 0) dc_BF_offAt_38 rfl (by decide) ?_
    refine g_aload_n dc_BF_offAt_39 rfl rfl rfl ?_
    refine g_get (C := "LevelBreaks$Points") (T := T_PO) (N := 5) (k := 2) (v := .ref (o1 + 3)) h1.1 (by decide) rfl rfl i_PO (by decide) fl_BF_71 (Or.inl rfl) rfl dc_BF_offAt_40 rfl ?_
    refine g_iload_n dc_BF_offAt_43 rfl rfl rfl ?_
    refine g_ialdv (v := (I (o1 + 3) x2.toNatClampNeg)) h1.2.2.2.1 (b1 c1) rfl dc_BF_offAt_44 rfl ?_
    refine g_aload_n dc_BF_offAt_45 rfl rfl rfl ?_
    refine g_get (C := "LevelBreaks$Beforehand") (T := T_BF) (N := 8) (k := 3) (v := .ref 56) sh_53 (by decide) rfl rfl i_BF (by decide) fl_BF_22 (Or.inl rfl) rfl dc_BF_offAt_46 rfl ?_
    refine g_iload_n dc_BF_offAt_49 rfl rfl rfl ?_
    refine g_ialdv (v := (I 56 x3.toNatClampNeg)) sh_56 (b2 c1) rfl dc_BF_offAt_50 rfl ?_
    refine g_isub dc_BF_offAt_51 rfl ?_
    refine g_callS (M := m_JM_abs_I) (As := [.int ((I (o1 + 3) x2.toNatClampNeg) - (I 56 x3.toNatClampNeg))]) (rest := [.int 0]) ok_JM_abs_I st_JM_abs_I ml_BF_74 rfl rfl (Nat.le_of_ble_eq_true rfl) dc_BF_offAt_52 rfl rOk_fr (c_JM_abs_I ?_)
    show Go G (fr G m_BF_offAt (d + 1) P) 55 [some (.ref 53), some (.ref o1), some (.int x2), some (.int x3)] [.int (f_JM_abs_I ((I (o1 + 3) x2.toNatClampNeg) - (I 56 x3.toNatClampNeg))), .int 0] I J
    refine g_aload_n dc_BF_offAt_55 rfl rfl rfl ?_
    refine g_get (C := "LevelBreaks$Beforehand") (T := T_BF) (N := 8) (k := 4) (v := .ref 57) sh_53 (by decide) rfl rfl i_BF (by decide) fl_BF_25 (Or.inl rfl) rfl dc_BF_offAt_56 rfl ?_
    refine g_iload_n dc_BF_offAt_59 rfl rfl rfl ?_
    refine g_ialdv (v := (I 57 x3.toNatClampNeg)) sh_57 (b2 c1) rfl dc_BF_offAt_60 rfl ?_
    refine g_isub dc_BF_offAt_61 rfl ?_
    refine g_callS (M := m_JM_max_II) (As := [.int 0, .int ((f_JM_abs_I ((I (o1 + 3) x2.toNatClampNeg) - (I 56 x3.toNatClampNeg))) - (I 57 x3.toNatClampNeg))]) (rest := []) ok_JM_max_II st_JM_max_II ml_BF_79 rfl rfl (Nat.le_of_ble_eq_true rfl) dc_BF_offAt_62 rfl rOk_fr (c_JM_max_II ?_)
    show Go G (fr G m_BF_offAt (d + 1) P) 65 [some (.ref 53), some (.ref o1), some (.int x2), some (.int x3)] [.int (f_JM_max_II 0 ((f_JM_abs_I ((I (o1 + 3) x2.toNatClampNeg) - (I 56 x3.toNatClampNeg))) - (I 57 x3.toNatClampNeg)))] I J
    exact g_iret rfl dc_BF_offAt_65 (q3 c1)
  · refine g_iconst (v := 0) dc_BF_offAt_36 rfl (by decide) ?_
    exact g_iret rfl dc_BF_offAt_37 (q4 c1)
theorem dc_BF_offTogether_0 : decode prog_3_method_9_code 0 = .ok (.iconst 0, 1) := by decide +kernel
theorem dc_BF_offTogether_1 : decode prog_3_method_9_code 1 = .ok (.istore_n 2, 1) := by decide +kernel
theorem dc_BF_offTogether_2 : decode prog_3_method_9_code 2 = .ok (.iconst 0, 1) := by decide +kernel
theorem dc_BF_offTogether_3 : decode prog_3_method_9_code 3 = .ok (.istore_n 3, 1) := by decide +kernel
theorem dc_BF_offTogether_4 : decode prog_3_method_9_code 4 = .ok (.iload_n 3, 1) := by decide +kernel
theorem dc_BF_offTogether_5 : decode prog_3_method_9_code 5 = .ok (.aload_n 1, 1) := by decide +kernel
theorem dc_BF_offTogether_6 : decode prog_3_method_9_code 6 = .ok (.getfield 61, 3) := by decide +kernel
theorem dc_BF_offTogether_9 : decode prog_3_method_9_code 9 = .ok (.if_icmp .ge 18, 3) := by decide +kernel
theorem dc_BF_offTogether_12 : decode prog_3_method_9_code 12 = .ok (.iload_n 2, 1) := by decide +kernel
theorem dc_BF_offTogether_13 : decode prog_3_method_9_code 13 = .ok (.aload_n 0, 1) := by decide +kernel
theorem dc_BF_offTogether_14 : decode prog_3_method_9_code 14 = .ok (.aload_n 1, 1) := by decide +kernel
theorem dc_BF_offTogether_15 : decode prog_3_method_9_code 15 = .ok (.iload_n 3, 1) := by decide +kernel
theorem dc_BF_offTogether_16 : decode prog_3_method_9_code 16 = .ok (.invokevirtual 64, 3) := by decide +kernel
theorem dc_BF_offTogether_19 : decode prog_3_method_9_code 19 = .ok (.iadd, 1) := by decide +kernel
theorem dc_BF_offTogether_20 : decode prog_3_method_9_code 20 = .ok (.istore_n 2, 1) := by decide +kernel
theorem dc_BF_offTogether_21 : decode prog_3_method_9_code 21 = .ok (.iinc 3 1, 3) := by decide +kernel
theorem dc_BF_offTogether_24 : decode prog_3_method_9_code 24 = .ok (.goto (-20), 3) := by decide +kernel
theorem dc_BF_offTogether_27 : decode prog_3_method_9_code 27 = .ok (.iload_n 2, 1) := by decide +kernel
theorem dc_BF_offTogether_28 : decode prog_3_method_9_code 28 = .ok (.ireturn, 1) := by decide +kernel
theorem w_BF_offTogether_0 {G : GC} {d : Nat} {P : PT} {I : MI} {J : MJ} {o1 : Nat} (h1 : PtsAt o1) (k1 : Go G (fr G m_BF_offTogether (d + 2) P) 4 [some (.ref 53), some (.ref o1), some (.int 0), some (.int 0)] [] I J) : Go G (fr G m_BF_offTogether (d + 2) P) 0 [some (.ref 53), some (.ref o1), none, none] [] I J := by
  refine g_iconst (v := 0) dc_BF_offTogether_0 rfl (by decide) ?_
  refine g_istore_n (L' := [some (.ref 53), some (.ref o1), some (.int 0), none]) dc_BF_offTogether_1 rfl rfl (Nat.le_of_ble_eq_true rfl) rfl ?_
  refine g_iconst (v := 0) dc_BF_offTogether_2 rfl (by decide) ?_
  refine g_istore_n (L' := [some (.ref 53), some (.ref o1), some (.int 0), some (.int 0)]) dc_BF_offTogether_3 rfl rfl (Nat.le_of_ble_eq_true rfl) rfl ?_
  exact k1
theorem w_BF_offTogether_4 {G : GC} {d : Nat} {P : PT} {I : MI} {J : MJ} {o1 : Nat} (h1 : PtsAt o1) {x2 : Int32} {x3 : Int32} (q1 : ((I o1 4) ≤ x3) → P (some (.int x2)) I J) (k2 : (¬ ((I o1 4) ≤ x3)) → Ct G (d + 1) m_BF_offAt [.ref 53, .ref o1, .int x3] (fun r I' J' => Go G (fr G m_BF_offTogether (d + 2) P) 19 [some (.ref 53), some (.ref o1), none, some (.int x3)] (r.toList ++ [.int x2]) I' J') I J) : Go G (fr G m_BF_offTogether (d + 2) P) 4 [some (.ref 53), some (.ref o1), some (.int x2), some (.int x3)] [] I J := by
  refine g_iload_n dc_BF_offTogether_4 rfl rfl rfl ?_
  refine g_aload_n dc_BF_offTogether_5 rfl rfl rfl ?_
  refine g_get (C := "LevelBreaks$Points") (T := T_PO) (N := 5) (k := 4) (v := .int (I o1 4)) h1.1 (by decide) rfl rfl i_PO (by decide) fl_BF_61 (Or.inl rfl) rfl dc_BF_offTogether_6 rfl ?_
  refine g_ic_ge (tgt := 27) dc_BF_offTogether_9 rfl (by decide) (fun c1 => ?_) (fun c1 => ?_)
  · refine g_iload_n dc_BF_offTogether_27 rfl rfl rfl ?_
    exact g_iret rfl dc_BF_offTogether_28 (q1 c1)
  · refine g_iload_n dc_BF_offTogether_12 rfl rfl rfl ?_
    refine g_aload_n dc_BF_offTogether_13 rfl rfl rfl ?_
    refine g_aload_n dc_BF_offTogether_14 rfl rfl rfl ?_
    refine g_iload_n dc_BF_offTogether_15 rfl rfl rfl ?_
    refine g_weak [some (.ref 53), some (.ref o1), none, some (.int x3)] ⟨rfl, ⟨rfl, ⟨rfl, trivial⟩⟩⟩ ?_
    exact g_callV (T := T_BF) (N := 8) (As := [.ref o1, .int x3]) (rest := [.int x2]) ok_BF_offAt in_BF_offAt se_BF_offAt ml_BF_64 sh_53 (by decide) rfl rfl rfl (Nat.le_of_ble_eq_true rfl) dc_BF_offTogether_16 rfl rOk_fr (k2 c1)
theorem w_BF_offTogether_19 {G : GC} {d : Nat} {P : PT} {I : MI} {J : MJ} {o1 : Nat} (h1 : PtsAt o1) {x3 : Int32} {y0 : Int32} {y1 : Int32} (k1 : Go G (fr G m_BF_offTogether (d + 2) P) 4 [some (.ref 53), some (.ref o1), some (.int (y0 + y1)), some (.int (x3 + 1))] [] I J) : Go G (fr G m_BF_offTogether (d + 2) P) 19 [some (.ref 53), some (.ref o1), none, some (.int x3)] [.int y1, .int y0] I J := by
  refine g_iadd dc_BF_offTogether_19 rfl ?_
  refine g_istore_n (L' := [some (.ref 53), some (.ref o1), some (.int (y0 + y1)), some (.int x3)]) dc_BF_offTogether_20 rfl rfl (Nat.le_of_ble_eq_true rfl) rfl ?_
  refine g_iinc (v := (x3 + 1)) (L' := [some (.ref 53), some (.ref o1), some (.int (y0 + y1)), some (.int (x3 + 1))]) dc_BF_offTogether_21 rfl rfl (by rw [show Int32.ofInt 1 = 1 from by decide]) (Nat.le_of_ble_eq_true rfl) rfl ?_
  refine g_goto (tgt := 4) dc_BF_offTogether_24 (by decide) ?_
  exact k1
theorem dc_BF_readDay_0 : decode prog_3_method_5_code 0 = .ok (.aload_n 0, 1) := by decide +kernel
theorem dc_BF_readDay_1 : decode prog_3_method_5_code 1 = .ok (.getfield 28, 3) := by decide +kernel
theorem dc_BF_readDay_4 : decode prog_3_method_5_code 4 = .ok (.istore_n 1, 1) := by decide +kernel
theorem dc_BF_readDay_5 : decode prog_3_method_5_code 5 = .ok (.aload_n 0, 1) := by decide +kernel
theorem dc_BF_readDay_6 : decode prog_3_method_5_code 6 = .ok (.iconst 2, 1) := by decide +kernel
theorem dc_BF_readDay_7 : decode prog_3_method_5_code 7 = .ok (.invokevirtual 54, 3) := by decide +kernel
theorem dc_BF_readDay_10 : decode prog_3_method_5_code 10 = .ok (.istore_n 2, 1) := by decide +kernel
theorem dc_BF_readDay_11 : decode prog_3_method_5_code 11 = .ok (.aload_n 0, 1) := by decide +kernel
theorem dc_BF_readDay_12 : decode prog_3_method_5_code 12 = .ok (.getfield 31, 3) := by decide +kernel
theorem dc_BF_readDay_15 : decode prog_3_method_5_code 15 = .ok (.ifCond .ne 7, 3) := by decide +kernel
theorem dc_BF_readDay_18 : decode prog_3_method_5_code 18 = .ok (.iconst 0, 1) := by decide +kernel
theorem dc_BF_readDay_19 : decode prog_3_method_5_code 19 = .ok (.goto 16, 3) := by decide +kernel
theorem dc_BF_readDay_22 : decode prog_3_method_5_code 22 = .ok (.aload_n 0, 1) := by decide +kernel
theorem dc_BF_readDay_23 : decode prog_3_method_5_code 23 = .ok (.getfield 19, 3) := by decide +kernel
theorem dc_BF_readDay_26 : decode prog_3_method_5_code 26 = .ok (.aload_n 0, 1) := by decide +kernel
theorem dc_BF_readDay_27 : decode prog_3_method_5_code 27 = .ok (.getfield 31, 3) := by decide +kernel
theorem dc_BF_readDay_30 : decode prog_3_method_5_code 30 = .ok (.iconst 1, 1) := by decide +kernel
theorem dc_BF_readDay_31 : decode prog_3_method_5_code 31 = .ok (.isub, 1) := by decide +kernel
theorem dc_BF_readDay_32 : decode prog_3_method_5_code 32 = .ok (.iaload, 1) := by decide +kernel
theorem dc_BF_readDay_33 : decode prog_3_method_5_code 33 = .ok (.iconst 1, 1) := by decide +kernel
theorem dc_BF_readDay_34 : decode prog_3_method_5_code 34 = .ok (.iadd, 1) := by decide +kernel
theorem dc_BF_readDay_35 : decode prog_3_method_5_code 35 = .ok (.istore_n 3, 1) := by decide +kernel
theorem dc_BF_readDay_36 : decode prog_3_method_5_code 36 = .ok (.aload_n 0, 1) := by decide +kernel
theorem dc_BF_readDay_37 : decode prog_3_method_5_code 37 = .ok (.getfield 34, 3) := by decide +kernel
theorem dc_BF_readDay_40 : decode prog_3_method_5_code 40 = .ok (.iconst (-1), 1) := by decide +kernel
theorem dc_BF_readDay_41 : decode prog_3_method_5_code 41 = .ok (.if_icmp .ne 18, 3) := by decide +kernel
theorem dc_BF_readDay_44 : decode prog_3_method_5_code 44 = .ok (.iload_n 2, 1) := by decide +kernel
theorem dc_BF_readDay_45 : decode prog_3_method_5_code 45 = .ok (.iload_n 3, 1) := by decide +kernel
theorem dc_BF_readDay_46 : decode prog_3_method_5_code 46 = .ok (.bipush 39, 2) := by decide +kernel
theorem dc_BF_readDay_48 : decode prog_3_method_5_code 48 = .ok (.invokestatic 57, 3) := by decide +kernel
theorem dc_BF_readDay_51 : decode prog_3_method_5_code 51 = .ok (.ifCond .ne 8, 3) := by decide +kernel
theorem dc_BF_readDay_54 : decode prog_3_method_5_code 54 = .ok (.aload_n 0, 1) := by decide +kernel
theorem dc_BF_readDay_55 : decode prog_3_method_5_code 55 = .ok (.iload_n 1, 1) := by decide +kernel
theorem dc_BF_readDay_56 : decode prog_3_method_5_code 56 = .ok (.putfield 34, 3) := by decide +kernel
theorem dc_BF_readDay_59 : decode prog_3_method_5_code 59 = .ok (.iload_n 2, 1) := by decide +kernel
theorem dc_BF_readDay_60 : decode prog_3_method_5_code 60 = .ok (.ireturn, 1) := by decide +kernel
theorem w_BF_readDay_0 {G : GC} {d : Nat} {P : PT} {I : MI} {J : MJ}  (k1 : Ct G (d + 1) m_BF_readFigures [.ref 53, .int 2] (fun r I' J' => Go G (fr G m_BF_readDay (d + 2) P) 10 [some (.ref 53), some (.int (I 53 6)), none, none] (r.toList ++ []) I' J') I J) : Go G (fr G m_BF_readDay (d + 2) P) 0 [some (.ref 53), none, none, none] [] I J := by
  refine g_aload_n dc_BF_readDay_0 rfl rfl rfl ?_
  refine g_get (C := "LevelBreaks$Beforehand") (T := T_BF) (N := 8) (k := 6) (v := .int (I 53 6)) sh_53 (by decide) rfl rfl i_BF (by decide) fl_BF_28 (Or.inl rfl) rfl dc_BF_readDay_1 rfl ?_
  refine g_istore_n (L' := [some (.ref 53), some (.int (I 53 6)), none, none]) dc_BF_readDay_4 rfl rfl (Nat.le_of_ble_eq_true rfl) rfl ?_
  refine g_aload_n dc_BF_readDay_5 rfl rfl rfl ?_
  refine g_iconst (v := 2) dc_BF_readDay_6 rfl (by decide) ?_
  exact g_callV (T := T_BF) (N := 8) (As := [.int 2]) (rest := []) ok_BF_readFigures in_BF_readFigures se_BF_readFigures ml_BF_54 sh_53 (by decide) rfl rfl rfl (Nat.le_of_ble_eq_true rfl) dc_BF_readDay_7 rfl rOk_fr k1
theorem w_BF_readDay_10 {G : GC} {d : Nat} {P : PT} {I : MI} {J : MJ} {x1 : Int32} {y0 : Int32} (b1 : (¬ (I 53 5) = 0) → vp_in ((I 53 5) - 1) 40) (k2 : (¬ (I 53 5) = 0) → Go G (fr G m_BF_readDay (d + 2) P) 35 [some (.ref 53), some (.int x1), some (.int y0), none] [.int ((I 55 ((I 53 5) - 1).toNatClampNeg) + 1)] I J) (k3 : ((I 53 5) = 0) → Go G (fr G m_BF_readDay (d + 2) P) 35 [some (.ref 53), some (.int x1), some (.int y0), none] [.int 0] I J) : Go G (fr G m_BF_readDay (d + 2) P) 10 [some (.ref 53), some (.int x1), none, none] [.int y0] I J := by
  refine g_istore_n (L' := [some (.ref 53), some (.int x1), some (.int y0), none]) dc_BF_readDay_10 rfl rfl (Nat.le_of_ble_eq_true rfl) rfl ?_
  refine g_aload_n dc_BF_readDay_11 rfl rfl rfl ?_
  refine g_get (C := "LevelBreaks$Beforehand") (T := T_BF) (N := 8) (k := 5) (v := .int (I 53 5)) sh_53 (by decide) rfl rfl i_BF (by decide) fl_BF_31 (Or.inl rfl) rfl dc_BF_readDay_12 rfl ?_
  refine g_if_ne (tgt := 22) dc_BF_readDay_15 rfl (by decide) (fun c1 => ?_) (fun c1 => ?_)
  · refine g_aload_n dc_BF_readDay_22 rfl rfl rfl ?_
    refine g_get (C := "LevelBreaks$Beforehand") (T := T_BF) (N := 8) (k := 2) (v := .ref 55) sh_53 (by decide) rfl rfl i_BF (by decide) fl_BF_19 (Or.inl rfl) rfl dc_BF_readDay_23 rfl ?_
    refine g_aload_n dc_BF_readDay_26 rfl rfl rfl ?_
    refine g_get (C := "LevelBreaks$Beforehand") (T := T_BF) (N := 8) (k := 5) (v := .int (I 53 5)) sh_53 (by decide) rfl rfl i_BF (by decide) fl_BF_31 (Or.inl rfl) rfl dc_BF_readDay_27 rfl ?_
    refine g_iconst (v := 1) dc_BF_readDay_30 rfl (by decide) ?_
    refine g_isub dc_BF_readDay_31 rfl ?_
    refine g_ialdv (v := (I 55 ((I 53 5) - 1).toNatClampNeg)) sh_55 (b1 c1) rfl dc_BF_readDay_32 rfl ?_
    refine g_iconst (v := 1) dc_BF_readDay_33 rfl (by decide) ?_
    refine g_iadd dc_BF_readDay_34 rfl ?_
    exact (k2 c1)
  · refine g_iconst (v := 0) dc_BF_readDay_18 rfl (by decide) ?_
    refine g_goto (tgt := 35) dc_BF_readDay_19 (by decide) ?_
    exact (k3 c1)
theorem w_BF_readDay_35 {G : GC} {d : Nat} {P : PT} {I : MI} {J : MJ} {x1 : Int32} {x2 : Int32} {y0 : Int32} (k1 : (¬ (I 53 7) = (-1)) → Go G (fr G m_BF_readDay (d + 2) P) 59 [none, none, some (.int x2), none] [] I J) (k2 : ((I 53 7) = (-1)) → (¬ (f_LB_isWithin x2 y0 39) = 0) → Go G (fr G m_BF_readDay (d + 2) P) 59 [none, none, some (.int x2), none] [] I J) (k3 : ((I 53 7) = (-1)) → ((f_LB_isWithin x2 y0 39) = 0) → Go G (fr G m_BF_readDay (d + 2) P) 59 [none, none, some (.int x2), none] [] (u2 I 53 7 x1) J) : Go G (fr G m_BF_readDay (d + 2) P) 35 [some (.ref 53), some (.int x1), some (.int x2), none] [.int y0] I J := by
  refine g_istore_n (L' := [some (.ref 53), some (.int x1), some (.int x2), some (.int y0)]) dc_BF_readDay_35 rfl rfl (Nat.le_of_ble_eq_true rfl) rfl ?_
  refine g_aload_n dc_BF_readDay_36 rfl rfl rfl ?_
  refine g_get (C := "LevelBreaks$Beforehand") (T := T_BF) (N := 8) (k := 7) (v := .int (I 53 7)) sh_53 (by decide) rfl rfl i_BF (by decide) fl_BF_34 (Or.inl rfl) rfl dc_BF_readDay_37 rfl ?_
  refine g_iconst (v := (-1)) dc_BF_readDay_40 rfl (by decide) ?_
  refine g_ic_ne (tgt := 59) dc_BF_readDay_41 rfl (by decide) (fun c1 => ?_) (fun c1 => ?_)
  · refine g_weak [none, none, some (.int x2), none] ⟨rfl, trivial⟩ ?_
    exact (k1 c1)
  · refine g_iload_n dc_BF_readDay_44 rfl rfl rfl ?_
    refine g_iload_n dc_BF_readDay_45 rfl rfl rfl ?_
    refine g_bipush (v := 39) dc_BF_readDay_46 rfl (by decide) ?_
    refine g_callSN (M := m_LB_isWithin) (As := [.int x2, .int y0, .int 39]) (rest := []) (host := "LevelBreaks") ok_LB_isWithin st_LB_isWithin nl_BF_57 rfl rfl (Nat.le_of_ble_eq_true rfl) dc_BF_readDay_48 rfl rOk_fr (c_LB_isWithin ?_)
    show Go G (fr G m_BF_readDay (d + 2) P) 51 [some (.ref 53), some (.int x1), some (.int x2), some (.int y0)] [.int (f_LB_isWithin x2 y0 39)] I J
    refine g_if_ne (tgt := 59) dc_BF_readDay_51 rfl (by decide) (fun c2 => ?_) (fun c2 => ?_)
    · refine g_weak [none, none, some (.int x2), none] ⟨rfl, trivial⟩ ?_
      exact (k2 c1 c2)
    · refine g_aload_n dc_BF_readDay_54 rfl rfl rfl ?_
      refine g_iload_n dc_BF_readDay_55 rfl rfl rfl ?_
      refine g_putI (C := "LevelBreaks$Beforehand") (T := T_BF) (N := 8) (k := 7) (ty := t_BF) sh_53 (by decide) rfl rfl i_BF p_BF n_BF (by decide) fl_BF_34 (Or.inl rfl) rfl (by decide) dc_BF_readDay_56 rfl ?_
      refine g_weak [none, none, some (.int x2), none] ⟨rfl, trivial⟩ ?_
      exact (k3 c1 c2)
theorem w_BF_readDay_59 {G : GC} {d : Nat} {P : PT} {I : MI} {J : MJ} {x2 : Int32} (q1 : P (some (.int x2)) I J) : Go G (fr G m_BF_readDay (d + 2) P) 59 [none, none, some (.int x2), none] [] I J := by
  refine g_iload_n dc_BF_readDay_59 rfl rfl rfl ?_
  exact g_iret rfl dc_BF_readDay_60 q1
theorem dc_BF_readFigures_0 : decode prog_3_method_8_code 0 = .ok (.iconst 0, 1) := by decide +kernel
theorem dc_BF_readFigures_1 : decode prog_3_method_8_code 1 = .ok (.istore_n 2, 1) := by decide +kernel
theorem dc_BF_readFigures_2 : decode prog_3_method_8_code 2 = .ok (.iconst 0, 1) := by decide +kernel
theorem dc_BF_readFigures_3 : decode prog_3_method_8_code 3 = .ok (.istore_n 3, 1) := by decide +kernel
theorem dc_BF_readFigures_4 : decode prog_3_method_8_code 4 = .ok (.iload_n 3, 1) := by decide +kernel
theorem dc_BF_readFigures_5 : decode prog_3_method_8_code 5 = .ok (.iload_n 1, 1) := by decide +kernel
theorem dc_BF_readFigures_6 : decode prog_3_method_8_code 6 = .ok (.if_icmp .ge 46, 3) := by decide +kernel
theorem dc_BF_readFigures_9 : decode prog_3_method_8_code 9 = .ok (.aload_n 0, 1) := by decide +kernel
theorem dc_BF_readFigures_10 : decode prog_3_method_8_code 10 = .ok (.invokevirtual 40, 3) := by decide +kernel
theorem dc_BF_readFigures_13 : decode prog_3_method_8_code 13 = .ok (.bipush 48, 2) := by decide +kernel
theorem dc_BF_readFigures_15 : decode prog_3_method_8_code 15 = .ok (.bipush 57, 2) := by decide +kernel
theorem dc_BF_readFigures_17 : decode prog_3_method_8_code 17 = .ok (.invokestatic 57, 3) := by decide +kernel
theorem dc_BF_readFigures_20 : decode prog_3_method_8_code 20 = .ok (.ifCond .eq 32, 3) := by decide +kernel
theorem dc_BF_readFigures_23 : decode prog_3_method_8_code 23 = .ok (.bipush 10, 2) := by decide +kernel
theorem dc_BF_readFigures_25 : decode prog_3_method_8_code 25 = .ok (.iload_n 2, 1) := by decide +kernel
theorem dc_BF_readFigures_26 : decode prog_3_method_8_code 26 = .ok (.imul, 1) := by decide +kernel
theorem dc_BF_readFigures_27 : decode prog_3_method_8_code 27 = .ok (.aload_n 0, 1) := by decide +kernel
theorem dc_BF_readFigures_28 : decode prog_3_method_8_code 28 = .ok (.invokevirtual 40, 3) := by decide +kernel
theorem dc_BF_readFigures_31 : decode prog_3_method_8_code 31 = .ok (.iadd, 1) := by decide +kernel
theorem dc_BF_readFigures_32 : decode prog_3_method_8_code 32 = .ok (.bipush 48, 2) := by decide +kernel
theorem dc_BF_readFigures_34 : decode prog_3_method_8_code 34 = .ok (.isub, 1) := by decide +kernel
theorem dc_BF_readFigures_35 : decode prog_3_method_8_code 35 = .ok (.istore_n 2, 1) := by decide +kernel
theorem dc_BF_readFigures_36 : decode prog_3_method_8_code 36 = .ok (.aload_n 0, 1) := by decide +kernel
theorem dc_BF_readFigures_37 : decode prog_3_method_8_code 37 = .ok (.dup, 1) := by decide +kernel
theorem dc_BF_readFigures_38 : decode prog_3_method_8_code 38 = .ok (.getfield 28, 3) := by decide +kernel
theorem dc_BF_readFigures_41 : decode prog_3_method_8_code 41 = .ok (.iconst 1, 1) := by decide +kernel
theorem dc_BF_readFigures_42 : decode prog_3_method_8_code 42 = .ok (.iadd, 1) := by decide +kernel
theorem dc_BF_readFigures_43 : decode prog_3_method_8_code 43 = .ok (.putfield 28, 3) := by decide +kernel
theorem dc_BF_readFigures_46 : decode prog_3_method_8_code 46 = .ok (.iinc 3 1, 3) := by decide +kernel
theorem dc_BF_readFigures_49 : decode prog_3_method_8_code 49 = .ok (.goto (-45), 3) := by decide +kernel
theorem dc_BF_readFigures_52 : decode prog_3_method_8_code 52 = .ok (.iload_n 3, 1) := by decide +kernel
theorem dc_BF_readFigures_53 : decode prog_3_method_8_code 53 = .ok (.ifCond .ne 11, 3) := by decide +kernel
theorem dc_BF_readFigures_56 : decode prog_3_method_8_code 56 = .ok (.aload_n 0, 1) := by decide +kernel
theorem dc_BF_readFigures_57 : decode prog_3_method_8_code 57 = .ok (.aload_n 0, 1) := by decide +kernel
theorem dc_BF_readFigures_58 : decode prog_3_method_8_code 58 = .ok (.getfield 28, 3) := by decide +kernel
theorem dc_BF_readFigures_61 : decode prog_3_method_8_code 61 = .ok (.putfield 34, 3) := by decide +kernel
theorem dc_BF_readFigures_64 : decode prog_3_method_8_code 64 = .ok (.iload_n 2, 1) := by decide +kernel
theorem dc_BF_readFigures_65 : decode prog_3_method_8_code 65 = .ok (.ireturn, 1) := by decide +kernel
theorem w_BF_readFigures_0 {G : GC} {d : Nat} {P : PT} {I : MI} {J : MJ} {x1 : Int32} (k1 : Go G (fr G m_BF_readFigures (d + 1) P) 4 [some (.ref 53), some (.int x1), some (.int 0), some (.int 0)] [] I J) : Go G (fr G m_BF_readFigures (d + 1) P) 0 [some (.ref 53), some (.int x1), none, none] [] I J := by
  refine g_iconst (v := 0) dc_BF_readFigures_0 rfl (by decide) ?_
  refine g_istore_n (L' := [some (.ref 53), some (.int x1), some (.int 0), none]) dc_BF_readFigures_1 rfl rfl (Nat.le_of_ble_eq_true rfl) rfl ?_
  refine g_iconst (v := 0) dc_BF_readFigures_2 rfl (by decide) ?_
  refine g_istore_n (L' := [some (.ref 53), some (.int x1), some (.int 0), some (.int 0)]) dc_BF_readFigures_3 rfl rfl (Nat.le_of_ble_eq_true rfl) rfl ?_
  exact k1
theorem w_BF_readFigures_4 {G : GC} {d : Nat} {P : PT} {I : MI} {J : MJ} {x1 : Int32} {x2 : Int32} {x3 : Int32} (k1 : (x1 ≤ x3) → Go G (fr G m_BF_readFigures (d + 1) P) 52 [some (.ref 53), none, some (.int x2), some (.int x3)] [] I J) (k2 : (¬ (x1 ≤ x3)) → Ct G d m_BF_byteHere [.ref 53] (fun r I' J' => Go G (fr G m_BF_readFigures (d + 1) P) 13 [some (.ref 53), some (.int x1), some (.int x2), some (.int x3)] (r.toList ++ []) I' J') I J) : Go G (fr G m_BF_readFigures (d + 1) P) 4 [some (.ref 53), some (.int x1), some (.int x2), some (.int x3)] [] I J := by
  refine g_iload_n dc_BF_readFigures_4 rfl rfl rfl ?_
  refine g_iload_n dc_BF_readFigures_5 rfl rfl rfl ?_
  refine g_ic_ge (tgt := 52) dc_BF_readFigures_6 rfl (by decide) (fun c1 => ?_) (fun c1 => ?_)
  · refine g_weak [some (.ref 53), none, some (.int x2), some (.int x3)] ⟨rfl, ⟨rfl, ⟨rfl, trivial⟩⟩⟩ ?_
    exact (k1 c1)
  · refine g_aload_n dc_BF_readFigures_9 rfl rfl rfl ?_
    exact g_callV (T := T_BF) (N := 8) (As := []) (rest := []) ok_BF_byteHere in_BF_byteHere se_BF_byteHere ml_BF_40 sh_53 (by decide) rfl rfl rfl (Nat.le_of_ble_eq_true rfl) dc_BF_readFigures_10 rfl rOk_fr (k2 c1)
theorem w_BF_readFigures_13 {G : GC} {d : Nat} {P : PT} {I : MI} {J : MJ} {x1 : Int32} {x2 : Int32} {x3 : Int32} {y0 : Int32} (k1 : ((f_LB_isWithin y0 48 57) = 0) → Go G (fr G m_BF_readFigures (d + 1) P) 52 [some (.ref 53), none, some (.int x2), some (.int x3)] [] I J) (k2 : (¬ ((f_LB_isWithin y0 48 57) = 0)) → Ct G d m_BF_byteHere [.ref 53] (fun r I' J' => Go G (fr G m_BF_readFigures (d + 1) P) 31 [some (.ref 53), some (.int x1), none, some (.int x3)] (r.toList ++ [.int (10 * x2)]) I' J') I J) : Go G (fr G m_BF_readFigures (d + 1) P) 13 [some (.ref 53), some (.int x1), some (.int x2), some (.int x3)] [.int y0] I J := by
  refine g_bipush (v := 48) dc_BF_readFigures_13 rfl (by decide) ?_
  refine g_bipush (v := 57) dc_BF_readFigures_15 rfl (by decide) ?_
  refine g_callSN (M := m_LB_isWithin) (As := [.int y0, .int 48, .int 57]) (rest := []) (host := "LevelBreaks") ok_LB_isWithin st_LB_isWithin nl_BF_57 rfl rfl (Nat.le_of_ble_eq_true rfl) dc_BF_readFigures_17 rfl rOk_fr (c_LB_isWithin ?_)
  show Go G (fr G m_BF_readFigures (d + 1) P) 20 [some (.ref 53), some (.int x1), some (.int x2), some (.int x3)] [.int (f_LB_isWithin y0 48 57)] I J
  refine g_if_eq (tgt := 52) dc_BF_readFigures_20 rfl (by decide) (fun c1 => ?_) (fun c1 => ?_)
  · refine g_weak [some (.ref 53), none, some (.int x2), some (.int x3)] ⟨rfl, ⟨rfl, ⟨rfl, trivial⟩⟩⟩ ?_
    exact (k1 c1)
  · refine g_bipush (v := 10) dc_BF_readFigures_23 rfl (by decide) ?_
    refine g_iload_n dc_BF_readFigures_25 rfl rfl rfl ?_
    refine g_imul dc_BF_readFigures_26 rfl ?_
    refine g_aload_n dc_BF_readFigures_27 rfl rfl rfl ?_
    refine g_weak [some (.ref 53), some (.int x1), none, some (.int x3)] ⟨rfl, ⟨rfl, ⟨rfl, trivial⟩⟩⟩ ?_
    exact g_callV (T := T_BF) (N := 8) (As := []) (rest := [.int (10 * x2)]) ok_BF_byteHere in_BF_byteHere se_BF_byteHere ml_BF_40 sh_53 (by decide) rfl rfl rfl (Nat.le_of_ble_eq_true rfl) dc_BF_readFigures_28 rfl rOk_fr (k2 c1)
theorem w_BF_readFigures_31 {G : GC} {d : Nat} {P : PT} {I : MI} {J : MJ} {x1 : Int32} {x3 : Int32} {y0 : Int32} {y1 : Int32} (k1 : Go G (fr G m_BF_readFigures (d + 1) P) 4 [some (.ref 53), some (.int x1), some (.int ((y0 + y1) - 48)), some (.int (x3 + 1))] [] (u2 I 53 6 ((I 53 6) + 1)) J) : Go G (fr G m_BF_readFigures (d + 1) P) 31 [some (.ref 53), some (.int x1), none, some (.int x3)] [.int y1, .int y0] I J := by
  refine g_iadd dc_BF_readFigures_31 rfl ?_
  refine g_bipush (v := 48) dc_BF_readFigures_32 rfl (by decide) ?_
  refine g_isub dc_BF_readFigures_34 rfl ?_
  refine g_istore_n (L' := [some (.ref 53), some (.int x1), some (.int ((y0 + y1) - 48)), some (.int x3)]) dc_BF_readFigures_35 rfl rfl (Nat.le_of_ble_eq_true rfl) rfl ?_
  refine g_aload_n dc_BF_readFigures_36 rfl rfl rfl ?_
  refine g_dup dc_BF_readFigures_37 rfl rfl ?_
  refine g_get (C := "LevelBreaks$Beforehand") (T := T_BF) (N := 8) (k := 6) (v := .int (I 53 6)) sh_53 (by decide) rfl rfl i_BF (by decide) fl_BF_28 (Or.inl rfl) rfl dc_BF_readFigures_38 rfl ?_
  refine g_iconst (v := 1) dc_BF_readFigures_41 rfl (by decide) ?_
  refine g_iadd dc_BF_readFigures_42 rfl ?_
  refine g_putI (C := "LevelBreaks$Beforehand") (T := T_BF) (N := 8) (k := 6) (ty := t_BF) sh_53 (by decide) rfl rfl i_BF p_BF n_BF (by decide) fl_BF_28 (Or.inl rfl) rfl (by decide) dc_BF_readFigures_43 rfl ?_
  refine g_iinc (v := (x3 + 1)) (L' := [some (.ref 53), some (.int x1), some (.int ((y0 + y1) - 48)), some (.int (x3 + 1))]) dc_BF_readFigures_46 rfl rfl (by rw [show Int32.ofInt 1 = 1 from by decide]) (Nat.le_of_ble_eq_true rfl) rfl ?_
  refine g_goto (tgt := 4) dc_BF_readFigures_49 (by decide) ?_
  exact k1
theorem w_BF_readFigures_52 {G : GC} {d : Nat} {P : PT} {I : MI} {J : MJ} {x2 : Int32} {x3 : Int32} (k1 : (¬ x3 = 0) → Go G (fr G m_BF_readFigures (d + 1) P) 64 [none, none, some (.int x2), none] [] I J) (k2 : (x3 = 0) → Go G (fr G m_BF_readFigures (d + 1) P) 64 [none, none, some (.int x2), none] [] (u2 I 53 7 (I 53 6)) J) : Go G (fr G m_BF_readFigures (d + 1) P) 52 [some (.ref 53), none, some (.int x2), some (.int x3)] [] I J := by
  refine g_iload_n dc_BF_readFigures_52 rfl rfl rfl ?_
  refine g_if_ne (tgt := 64) dc_BF_readFigures_53 rfl (by decide) (fun c1 => ?_) (fun c1 => ?_)
  · refine g_weak [none, none, some (.int x2), none] ⟨rfl, trivial⟩ ?_
    exact (k1 c1)
  · refine g_aload_n dc_BF_readFigures_56 rfl rfl rfl ?_
    refine g_aload_n dc_BF_readFigures_57 rfl rfl rfl ?_
    refine g_get (C := "LevelBreaks$Beforehand") (T := T_BF) (N := 8) (k := 6) (v := .int (I 53 6)) sh_53 (by decide) rfl rfl i_BF (by decide) fl_BF_28 (Or.inl rfl) rfl dc_BF_readFigures_58 rfl ?_
    refine g_putI (C := "LevelBreaks$Beforehand") (T := T_BF) (N := 8) (k := 7) (ty := t_BF) sh_53 (by decide) rfl rfl i_BF p_BF n_BF (by decide) fl_BF_34 (Or.inl rfl) rfl (by decide) dc_BF_readFigures_61 rfl ?_
    refine g_weak [none, none, some (.int x2), none] ⟨rfl, trivial⟩ ?_
    exact (k2 c1)
theorem w_BF_readFigures_64 {G : GC} {d : Nat} {P : PT} {I : MI} {J : MJ} {x2 : Int32} (q1 : P (some (.int x2)) I J) : Go G (fr G m_BF_readFigures (d + 1) P) 64 [none, none, some (.int x2), none] [] I J := by
  refine g_iload_n dc_BF_readFigures_64 rfl rfl rfl ?_
  exact g_iret rfl dc_BF_readFigures_65 q1
theorem dc_BF_readNumber_0 : decode prog_3_method_7_code 0 = .ok (.aload_n 0, 1) := by decide +kernel
theorem dc_BF_readNumber_1 : decode prog_3_method_7_code 1 = .ok (.getfield 28, 3) := by decide +kernel
theorem dc_BF_readNumber_4 : decode prog_3_method_7_code 4 = .ok (.istore_n 2, 1) := by decide +kernel
theorem dc_BF_readNumber_5 : decode prog_3_method_7_code 5 = .ok (.aload_n 0, 1) := by decide +kernel
theorem dc_BF_readNumber_6 : decode prog_3_method_7_code 6 = .ok (.invokevirtual 40, 3) := by decide +kernel
theorem dc_BF_readNumber_9 : decode prog_3_method_7_code 9 = .ok (.bipush 45, 2) := by decide +kernel
theorem dc_BF_readNumber_11 : decode prog_3_method_7_code 11 = .ok (.if_icmp .ne 7, 3) := by decide +kernel
theorem dc_BF_readNumber_14 : decode prog_3_method_7_code 14 = .ok (.iconst 1, 1) := by decide +kernel
theorem dc_BF_readNumber_15 : decode prog_3_method_7_code 15 = .ok (.goto 4, 3) := by decide +kernel
theorem dc_BF_readNumber_18 : decode prog_3_method_7_code 18 = .ok (.iconst 0, 1) := by decide +kernel
theorem dc_BF_readNumber_19 : decode prog_3_method_7_code 19 = .ok (.istore_n 3, 1) := by decide +kernel
theorem dc_BF_readNumber_20 : decode prog_3_method_7_code 20 = .ok (.iload_n 3, 1) := by decide +kernel
theorem dc_BF_readNumber_21 : decode prog_3_method_7_code 21 = .ok (.ifCond .eq 13, 3) := by decide +kernel
theorem dc_BF_readNumber_24 : decode prog_3_method_7_code 24 = .ok (.aload_n 0, 1) := by decide +kernel
theorem dc_BF_readNumber_25 : decode prog_3_method_7_code 25 = .ok (.dup, 1) := by decide +kernel
theorem dc_BF_readNumber_26 : decode prog_3_method_7_code 26 = .ok (.getfield 28, 3) := by decide +kernel
theorem dc_BF_readNumber_29 : decode prog_3_method_7_code 29 = .ok (.iconst 1, 1) := by decide +kernel
theorem dc_BF_readNumber_30 : decode prog_3_method_7_code 30 = .ok (.iadd, 1) := by decide +kernel
theorem dc_BF_readNumber_31 : decode prog_3_method_7_code 31 = .ok (.putfield 28, 3) := by decide +kernel
theorem dc_BF_readNumber_34 : decode prog_3_method_7_code 34 = .ok (.aload_n 0, 1) := by decide +kernel
theorem dc_BF_readNumber_35 : decode prog_3_method_7_code 35 = .ok (.iconst 4, 1) := by decide +kernel
theorem dc_BF_readNumber_36 : decode prog_3_method_7_code 36 = .ok (.invokevirtual 54, 3) := by decide +kernel
theorem dc_BF_readNumber_39 : decode prog_3_method_7_code 39 = .ok (.istore 4, 2) := by decide +kernel
theorem dc_BF_readNumber_41 : decode prog_3_method_7_code 41 = .ok (.iload_n 3, 1) := by decide +kernel
theorem dc_BF_readNumber_42 : decode prog_3_method_7_code 42 = .ok (.ifCond .eq 9, 3) := by decide +kernel
theorem dc_BF_readNumber_45 : decode prog_3_method_7_code 45 = .ok (.iload 4, 2) := by decide +kernel
theorem dc_BF_readNumber_47 : decode prog_3_method_7_code 47 = .ok (.ineg, 1) := by decide +kernel
theorem dc_BF_readNumber_48 : decode prog_3_method_7_code 48 = .ok (.goto 5, 3) := by decide +kernel
theorem dc_BF_readNumber_51 : decode prog_3_method_7_code 51 = .ok (.iload 4, 2) := by decide +kernel
theorem dc_BF_readNumber_53 : decode prog_3_method_7_code 53 = .ok (.istore 5, 2) := by decide +kernel
theorem dc_BF_readNumber_55 : decode prog_3_method_7_code 55 = .ok (.aload_n 0, 1) := by decide +kernel
theorem dc_BF_readNumber_56 : decode prog_3_method_7_code 56 = .ok (.getfield 34, 3) := by decide +kernel
theorem dc_BF_readNumber_59 : decode prog_3_method_7_code 59 = .ok (.iconst (-1), 1) := by decide +kernel
theorem dc_BF_readNumber_60 : decode prog_3_method_7_code 60 = .ok (.if_icmp .ne 20, 3) := by decide +kernel
theorem dc_BF_readNumber_63 : decode prog_3_method_7_code 63 = .ok (.iload 5, 2) := by decide +kernel
theorem dc_BF_readNumber_65 : decode prog_3_method_7_code 65 = .ok (.iload_n 1, 1) := by decide +kernel
theorem dc_BF_readNumber_66 : decode prog_3_method_7_code 66 = .ok (.sipush 1000, 3) := by decide +kernel
theorem dc_BF_readNumber_69 : decode prog_3_method_7_code 69 = .ok (.invokestatic 57, 3) := by decide +kernel
theorem dc_BF_readNumber_72 : decode prog_3_method_7_code 72 = .ok (.ifCond .ne 8, 3) := by decide +kernel
theorem dc_BF_readNumber_75 : decode prog_3_method_7_code 75 = .ok (.aload_n 0, 1) := by decide +kernel
theorem dc_BF_readNumber_76 : decode prog_3_method_7_code 76 = .ok (.iload_n 2, 1) := by decide +kernel
theorem dc_BF_readNumber_77 : decode prog_3_method_7_code 77 = .ok (.putfield 34, 3) := by decide +kernel
theorem dc_BF_readNumber_80 : decode prog_3_method_7_code 80 = .ok (.iload 5, 2) := by decide +kernel
theorem dc_BF_readNumber_82 : decode prog_3_method_7_code 82 = .ok (.ireturn, 1) := by decide +kernel
theorem w_BF_readNumber_0 {G : GC} {d : Nat} {P : PT} {I : MI} {J : MJ} {x1 : Int32} (k1 : Ct G (d + 1) m_BF_byteHere [.ref 53] (fun r I' J' => Go G (fr G m_BF_readNumber (d + 2) P) 9 [some (.ref 53), some (.int x1), some (.int (I 53 6)), none, none, none] (r.toList ++ []) I' J') I J) : Go G (fr G m_BF_readNumber (d + 2) P) 0 [some (.ref 53), some (.int x1), none, none, none, none] [] I J := by
  refine g_aload_n dc_BF_readNumber_0 rfl rfl rfl ?_
  refine g_get (C := "LevelBreaks$Beforehand") (T := T_BF) (N := 8) (k := 6) (v := .int (I 53 6)) sh_53 (by decide) rfl rfl i_BF (by decide) fl_BF_28 (Or.inl rfl) rfl dc_BF_readNumber_1 rfl ?_
  refine g_istore_n (L' := [some (.ref 53), some (.int x1), some (.int (I 53 6)), none, none, none]) dc_BF_readNumber_4 rfl rfl (Nat.le_of_ble_eq_true rfl) rfl ?_
  refine g_aload_n dc_BF_readNumber_5 rfl rfl rfl ?_
  exact g_callV (T := T_BF) (N := 8) (As := []) (rest := []) ok_BF_byteHere in_BF_byteHere se_BF_byteHere ml_BF_40 sh_53 (by decide) rfl rfl rfl (Nat.le_of_ble_eq_true rfl) dc_BF_readNumber_6 rfl rOk_fr k1
theorem w_BF_readNumber_9 {G : GC} {d : Nat} {P : PT} {I : MI} {J : MJ} {x1 : Int32} {x2 : Int32} {y0 : Int32} (k1 : (¬ y0 = 45) → Go G (fr G m_BF_readNumber (d + 2) P) 19 [some (.ref 53), some (.int x1), some (.int x2), none, none, none] [.int 0] I J) (k2 : (y0 = 45) → Go G (fr G m_BF_readNumber (d + 2) P) 19 [some (.ref 53), some (.int x1), some (.int x2), none, none, none] [.int 1] I J) : Go G (fr G m_BF_readNumber (d + 2) P) 9 [some (.ref 53), some (.int x1), some (.int x2), none, none, none] [.int y0] I J := by
  refine g_bipush (v := 45) dc_BF_readNumber_9 rfl (by decide) ?_
  refine g_ic_ne (tgt := 18) dc_BF_readNumber_11 rfl (by decide) (fun c1 => ?_) (fun c1 => ?_)
  · refine g_iconst (v := 0) dc_BF_readNumber_18 rfl (by decide) ?_
    exact (k1 c1)
  · refine g_iconst (v := 1) dc_BF_readNumber_14 rfl (by decide) ?_
    refine g_goto (tgt := 19) dc_BF_readNumber_15 (by decide) ?_
    exact (k2 c1)
theorem w_BF_readNumber_19 {G : GC} {d : Nat} {P : PT} {I : MI} {J : MJ} {x1 : Int32} {x2 : Int32} {y0 : Int32} (k1 : (y0 = 0) → Go G (fr G m_BF_readNumber (d + 2) P) 34 [some (.ref 53), some (.int x1), some (.int x2), some (.int y0), none, none] [] I J) (k2 : (¬ (y0 = 0)) → Go G (fr G m_BF_readNumber (d + 2) P) 34 [some (.ref 53), some (.int x1), some (.int x2), some (.int y0), none, none] [] (u2 I 53 6 ((I 53 6) + 1)) J) : Go G (fr G m_BF_readNumber (d + 2) P) 19 [some (.ref 53), some (.int x1), some (.int x2), none, none, none] [.int y0] I J := by
  refine g_istore_n (L' := [some (.ref 53), some (.int x1), some (.int x2), some (.int y0), none, none]) dc_BF_readNumber_19 rfl rfl (Nat.le_of_ble_eq_true rfl) rfl ?_
  refine g_iload_n dc_BF_readNumber_20 rfl rfl rfl ?_
  refine g_if_eq (tgt := 34) dc_BF_readNumber_21 rfl (by decide) (fun c1 => ?_) (fun c1 => ?_)
  · exact (k1 c1)
  · refine g_aload_n dc_BF_readNumber_24 rfl rfl rfl ?_
    refine g_dup dc_BF_readNumber_25 rfl rfl ?_
    refine g_get (C := "LevelBreaks$Beforehand") (T := T_BF) (N := 8) (k := 6) (v := .int (I 53 6)) sh_53 (by decide) rfl rfl i_BF (by decide) fl_BF_28 (Or.inl rfl) rfl dc_BF_readNumber_26 rfl ?_
    refine g_iconst (v := 1) dc_BF_readNumber_29 rfl (by decide) ?_
    refine g_iadd dc_BF_readNumber_30 rfl ?_
    refine g_putI (C := "LevelBreaks$Beforehand") (T := T_BF) (N := 8) (k := 6) (ty := t_BF) sh_53 (by decide) rfl rfl i_BF p_BF n_BF (by decide) fl_BF_28 (Or.inl rfl) rfl (by decide) dc_BF_readNumber_31 rfl ?_
    exact (k2 c1)
theorem w_BF_readNumber_34 {G : GC} {d : Nat} {P : PT} {I : MI} {J : MJ} {x1 : Int32} {x2 : Int32} {x3 : Int32} (k1 : Ct G (d + 1) m_BF_readFigures [.ref 53, .int 4] (fun r I' J' => Go G (fr G m_BF_readNumber (d + 2) P) 39 [some (.ref 53), some (.int x1), some (.int x2), some (.int x3), none, none] (r.toList ++ []) I' J') I J) : Go G (fr G m_BF_readNumber (d + 2) P) 34 [some (.ref 53), some (.int x1), some (.int x2), some (.int x3), none, none] [] I J := by
  refine g_aload_n dc_BF_readNumber_34 rfl rfl rfl ?_
  refine g_iconst (v := 4) dc_BF_readNumber_35 rfl (by decide) ?_
  exact g_callV (T := T_BF) (N := 8) (As := [.int 4]) (rest := []) ok_BF_readFigures in_BF_readFigures se_BF_readFigures ml_BF_54 sh_53 (by decide) rfl rfl rfl (Nat.le_of_ble_eq_true rfl) dc_BF_readNumber_36 rfl rOk_fr k1
theorem w_BF_readNumber_39 {G : GC} {d : Nat} {P : PT} {I : MI} {J : MJ} {x1 : Int32} {x2 : Int32} {x3 : Int32} {y0 : Int32} (k1 : (x3 = 0) → Go G (fr G m_BF_readNumber (d + 2) P) 53 [some (.ref 53), some (.int x1), some (.int x2), none, none, none] [.int y0] I J) (k2 : (¬ (x3 = 0)) → Go G (fr G m_BF_readNumber (d + 2) P) 53 [some (.ref 53), some (.int x1), some (.int x2), none, none, none] [.int (0 - y0)] I J) : Go G (fr G m_BF_readNumber (d + 2) P) 39 [some (.ref 53), some (.int x1), some (.int x2), some (.int x3), none, none] [.int y0] I J := by
  refine g_istore (L' := [some (.ref 53), some (.int x1), some (.int x2), some (.int x3), some (.int y0), none]) dc_BF_readNumber_39 rfl (Nat.le_of_ble_eq_true rfl) rfl ?_
  refine g_iload_n dc_BF_readNumber_41 rfl rfl rfl ?_
  refine g_if_eq (tgt := 51) dc_BF_readNumber_42 rfl (by decide) (fun c1 => ?_) (fun c1 => ?_)
  · refine g_iload dc_BF_readNumber_51 rfl rfl ?_
    refine g_weak [some (.ref 53), some (.int x1), some (.int x2), none, none, none] ⟨rfl, ⟨rfl, ⟨rfl, trivial⟩⟩⟩ ?_
    exact (k1 c1)
  · refine g_iload dc_BF_readNumber_45 rfl rfl ?_
    refine g_ineg dc_BF_readNumber_47 rfl ?_
    refine g_goto (tgt := 53) dc_BF_readNumber_48 (by decide) ?_
    refine g_weak [some (.ref 53), some (.int x1), some (.int x2), none, none, none] ⟨rfl, ⟨rfl, ⟨rfl, trivial⟩⟩⟩ ?_
    exact (k2 c1)
theorem w_BF_readNumber_53 {G : GC} {d : Nat} {P : PT} {I : MI} {J : MJ} {x1 : Int32} {x2 : Int32} {y0 : Int32} (k1 : (¬ (I 53 7) = (-1)) → Go G (fr G m_BF_readNumber (d + 2) P) 80 [none, none, none, none, none, some (.int y0)] [] I J) (k2 : ((I 53 7) = (-1)) → (¬ (f_LB_isWithin y0 x1 1000) = 0) → Go G (fr G m_BF_readNumber (d + 2) P) 80 [none, none, none, none, none, some (.int y0)] [] I J) (k3 : ((I 53 7) = (-1)) → ((f_LB_isWithin y0 x1 1000) = 0) → Go G (fr G m_BF_readNumber (d + 2) P) 80 [none, none, none, none, none, some (.int y0)] [] (u2 I 53 7 x2) J) : Go G (fr G m_BF_readNumber (d + 2) P) 53 [some (.ref 53), some (.int x1), some (.int x2), none, none, none] [.int y0] I J := by
  refine g_istore (L' := [some (.ref 53), some (.int x1), some (.int x2), none, none, some (.int y0)]) dc_BF_readNumber_53 rfl (Nat.le_of_ble_eq_true rfl) rfl ?_
  refine g_aload_n dc_BF_readNumber_55 rfl rfl rfl ?_
  refine g_get (C := "LevelBreaks$Beforehand") (T := T_BF) (N := 8) (k := 7) (v := .int (I 53 7)) sh_53 (by decide) rfl rfl i_BF (by decide) fl_BF_34 (Or.inl rfl) rfl dc_BF_readNumber_56 rfl ?_
  refine g_iconst (v := (-1)) dc_BF_readNumber_59 rfl (by decide) ?_
  refine g_ic_ne (tgt := 80) dc_BF_readNumber_60 rfl (by decide) (fun c1 => ?_) (fun c1 => ?_)
  · refine g_weak [none, none, none, none, none, some (.int y0)] ⟨rfl, trivial⟩ ?_
    exact (k1 c1)
  · refine g_iload dc_BF_readNumber_63 rfl rfl ?_
    refine g_iload_n dc_BF_readNumber_65 rfl rfl rfl ?_
    refine g_sipush (v := 1000) dc_BF_readNumber_66 rfl (by decide) ?_
    refine g_callSN (M := m_LB_isWithin) (As := [.int y0, .int x1, .int 1000]) (rest := []) (host := "LevelBreaks") ok_LB_isWithin st_LB_isWithin nl_BF_57 rfl rfl (Nat.le_of_ble_eq_true rfl) dc_BF_readNumber_69 rfl rOk_fr (c_LB_isWithin ?_)
    show Go G (fr G m_BF_readNumber (d + 2) P) 72 [some (.ref 53), some (.int x1), some (.int x2), none, none, some (.int y0)] [.int (f_LB_isWithin y0 x1 1000)] I J
    refine g_if_ne (tgt := 80) dc_BF_readNumber_72 rfl (by decide) (fun c2 => ?_) (fun c2 => ?_)
    · refine g_weak [none, none, none, none, none, some (.int y0)] ⟨rfl, trivial⟩ ?_
      exact (k2 c1 c2)
    · refine g_aload_n dc_BF_readNumber_75 rfl rfl rfl ?_
      refine g_iload_n dc_BF_readNumber_76 rfl rfl rfl ?_
      refine g_putI (C := "LevelBreaks$Beforehand") (T := T_BF) (N := 8) (k := 7) (ty := t_BF) sh_53 (by decide) rfl rfl i_BF p_BF n_BF (by decide) fl_BF_34 (Or.inl rfl) rfl (by decide) dc_BF_readNumber_77 rfl ?_
      refine g_weak [none, none, none, none, none, some (.int y0)] ⟨rfl, trivial⟩ ?_
      exact (k3 c1 c2)
theorem w_BF_readNumber_80 {G : GC} {d : Nat} {P : PT} {I : MI} {J : MJ} {x5 : Int32} (q1 : P (some (.int x5)) I J) : Go G (fr G m_BF_readNumber (d + 2) P) 80 [none, none, none, none, none, some (.int x5)] [] I J := by
  refine g_iload dc_BF_readNumber_80 rfl rfl ?_
  exact g_iret rfl dc_BF_readNumber_82 q1
theorem dc_BF_readPart_0 : decode prog_3_method_4_code 0 = .ok (.aload_n 0, 1) := by decide +kernel
theorem dc_BF_readPart_1 : decode prog_3_method_4_code 1 = .ok (.invokevirtual 44, 3) := by decide +kernel
theorem dc_BF_readPart_4 : decode prog_3_method_4_code 4 = .ok (.istore_n 1, 1) := by decide +kernel
theorem dc_BF_readPart_5 : decode prog_3_method_4_code 5 = .ok (.aload_n 0, 1) := by decide +kernel
theorem dc_BF_readPart_6 : decode prog_3_method_4_code 6 = .ok (.invokevirtual 40, 3) := by decide +kernel
theorem dc_BF_readPart_9 : decode prog_3_method_4_code 9 = .ok (.istore_n 2, 1) := by decide +kernel
theorem dc_BF_readPart_10 : decode prog_3_method_4_code 10 = .ok (.aload_n 0, 1) := by decide +kernel
theorem dc_BF_readPart_11 : decode prog_3_method_4_code 11 = .ok (.getfield 34, 3) := by decide +kernel
theorem dc_BF_readPart_14 : decode prog_3_method_4_code 14 = .ok (.iconst (-1), 1) := by decide +kernel
theorem dc_BF_readPart_15 : decode prog_3_method_4_code 15 = .ok (.if_icmp .ne 23, 3) := by decide +kernel
theorem dc_BF_readPart_18 : decode prog_3_method_4_code 18 = .ok (.iload_n 2, 1) := by decide +kernel
theorem dc_BF_readPart_19 : decode prog_3_method_4_code 19 = .ok (.bipush 61, 2) := by decide +kernel
theorem dc_BF_readPart_21 : decode prog_3_method_4_code 21 = .ok (.if_icmp .eq 17, 3) := by decide +kernel
theorem dc_BF_readPart_24 : decode prog_3_method_4_code 24 = .ok (.iload_n 2, 1) := by decide +kernel
theorem dc_BF_readPart_25 : decode prog_3_method_4_code 25 = .ok (.bipush 126, 2) := by decide +kernel
theorem dc_BF_readPart_27 : decode prog_3_method_4_code 27 = .ok (.if_icmp .eq 11, 3) := by decide +kernel
theorem dc_BF_readPart_30 : decode prog_3_method_4_code 30 = .ok (.aload_n 0, 1) := by decide +kernel
theorem dc_BF_readPart_31 : decode prog_3_method_4_code 31 = .ok (.aload_n 0, 1) := by decide +kernel
theorem dc_BF_readPart_32 : decode prog_3_method_4_code 32 = .ok (.getfield 28, 3) := by decide +kernel
theorem dc_BF_readPart_35 : decode prog_3_method_4_code 35 = .ok (.putfield 34, 3) := by decide +kernel
theorem dc_BF_readPart_38 : decode prog_3_method_4_code 38 = .ok (.aload_n 0, 1) := by decide +kernel
theorem dc_BF_readPart_39 : decode prog_3_method_4_code 39 = .ok (.getfield 34, 3) := by decide +kernel
theorem dc_BF_readPart_42 : decode prog_3_method_4_code 42 = .ok (.iconst (-1), 1) := by decide +kernel
theorem dc_BF_readPart_43 : decode prog_3_method_4_code 43 = .ok (.if_icmp .eq 4, 3) := by decide +kernel
theorem dc_BF_readPart_46 : decode prog_3_method_4_code 46 = .ok (.return_, 1) := by decide +kernel
theorem dc_BF_readPart_47 : decode prog_3_method_4_code 47 = .ok (.aload_n 0, 1) := by decide +kernel
theorem dc_BF_readPart_48 : decode prog_3_method_4_code 48 = .ok (.dup, 1) := by decide +kernel
theorem dc_BF_readPart_49 : decode prog_3_method_4_code 49 = .ok (.getfield 28, 3) := by decide +kernel
theorem dc_BF_readPart_52 : decode prog_3_method_4_code 52 = .ok (.iconst 1, 1) := by decide +kernel
theorem dc_BF_readPart_53 : decode prog_3_method_4_code 53 = .ok (.iadd, 1) := by decide +kernel
theorem dc_BF_readPart_54 : decode prog_3_method_4_code 54 = .ok (.putfield 28, 3) := by decide +kernel
theorem dc_BF_readPart_57 : decode prog_3_method_4_code 57 = .ok (.aload_n 0, 1) := by decide +kernel
theorem dc_BF_readPart_58 : decode prog_3_method_4_code 58 = .ok (.sipush (-1000), 3) := by decide +kernel
theorem dc_BF_readPart_61 : decode prog_3_method_4_code 61 = .ok (.invokevirtual 47, 3) := by decide +kernel
theorem dc_BF_readPart_64 : decode prog_3_method_4_code 64 = .ok (.istore_n 3, 1) := by decide +kernel
theorem dc_BF_readPart_65 : decode prog_3_method_4_code 65 = .ok (.iload_n 2, 1) := by decide +kernel
theorem dc_BF_readPart_66 : decode prog_3_method_4_code 66 = .ok (.bipush 126, 2) := by decide +kernel
theorem dc_BF_readPart_68 : decode prog_3_method_4_code 68 = .ok (.if_icmp .ne 10, 3) := by decide +kernel
theorem dc_BF_readPart_71 : decode prog_3_method_4_code 71 = .ok (.aload_n 0, 1) := by decide +kernel
theorem dc_BF_readPart_72 : decode prog_3_method_4_code 72 = .ok (.invokevirtual 51, 3) := by decide +kernel
theorem dc_BF_readPart_75 : decode prog_3_method_4_code 75 = .ok (.goto 4, 3) := by decide +kernel
theorem dc_BF_readPart_78 : decode prog_3_method_4_code 78 = .ok (.iconst 0, 1) := by decide +kernel
theorem dc_BF_readPart_79 : decode prog_3_method_4_code 79 = .ok (.istore 4, 2) := by decide +kernel
theorem dc_BF_readPart_81 : decode prog_3_method_4_code 81 = .ok (.aload_n 0, 1) := by decide +kernel
theorem dc_BF_readPart_82 : decode prog_3_method_4_code 82 = .ok (.getfield 34, 3) := by decide +kernel
theorem dc_BF_readPart_85 : decode prog_3_method_4_code 85 = .ok (.iconst (-1), 1) := by decide +kernel
theorem dc_BF_readPart_86 : decode prog_3_method_4_code 86 = .ok (.if_icmp .ne 12, 3) := by decide +kernel
theorem dc_BF_readPart_89 : decode prog_3_method_4_code 89 = .ok (.aload_n 0, 1) := by decide +kernel
theorem dc_BF_readPart_90 : decode prog_3_method_4_code 90 = .ok (.getfield 31, 3) := by decide +kernel
theorem dc_BF_readPart_93 : decode prog_3_method_4_code 93 = .ok (.bipush 40, 2) := by decide +kernel
theorem dc_BF_readPart_95 : decode prog_3_method_4_code 95 = .ok (.if_icmp .lt 4, 3) := by decide +kernel
theorem dc_BF_readPart_98 : decode prog_3_method_4_code 98 = .ok (.return_, 1) := by decide +kernel
theorem dc_BF_readPart_99 : decode prog_3_method_4_code 99 = .ok (.aload_n 0, 1) := by decide +kernel
theorem dc_BF_readPart_100 : decode prog_3_method_4_code 100 = .ok (.getfield 19, 3) := by decide +kernel
theorem dc_BF_readPart_103 : decode prog_3_method_4_code 103 = .ok (.aload_n 0, 1) := by decide +kernel
theorem dc_BF_readPart_104 : decode prog_3_method_4_code 104 = .ok (.getfield 31, 3) := by decide +kernel
theorem dc_BF_readPart_107 : decode prog_3_method_4_code 107 = .ok (.iload_n 1, 1) := by decide +kernel
theorem dc_BF_readPart_108 : decode prog_3_method_4_code 108 = .ok (.iastore, 1) := by decide +kernel
theorem dc_BF_readPart_109 : decode prog_3_method_4_code 109 = .ok (.aload_n 0, 1) := by decide +kernel
theorem dc_BF_readPart_110 : decode prog_3_method_4_code 110 = .ok (.getfield 22, 3) := by decide +kernel
theorem dc_BF_readPart_113 : decode prog_3_method_4_code 113 = .ok (.aload_n 0, 1) := by decide +kernel
theorem dc_BF_readPart_114 : decode prog_3_method_4_code 114 = .ok (.getfield 31, 3) := by decide +kernel
theorem dc_BF_readPart_117 : decode prog_3_method_4_code 117 = .ok (.iload_n 3, 1) := by decide +kernel
theorem dc_BF_readPart_118 : decode prog_3_method_4_code 118 = .ok (.iastore, 1) := by decide +kernel
theorem dc_BF_readPart_119 : decode prog_3_method_4_code 119 = .ok (.aload_n 0, 1) := by decide +kernel
theorem dc_BF_readPart_120 : decode prog_3_method_4_code 120 = .ok (.getfield 25, 3) := by decide +kernel
theorem dc_BF_readPart_123 : decode prog_3_method_4_code 123 = .ok (.aload_n 0, 1) := by decide +kernel
theorem dc_BF_readPart_124 : decode prog_3_method_4_code 124 = .ok (.getfield 31, 3) := by decide +kernel
theorem dc_BF_readPart_127 : decode prog_3_method_4_code 127 = .ok (.iload 4, 2) := by decide +kernel
theorem dc_BF_readPart_129 : decode prog_3_method_4_code 129 = .ok (.iastore, 1) := by decide +kernel
theorem dc_BF_readPart_130 : decode prog_3_method_4_code 130 = .ok (.aload_n 0, 1) := by decide +kernel
theorem dc_BF_readPart_131 : decode prog_3_method_4_code 131 = .ok (.dup, 1) := by decide +kernel
theorem dc_BF_readPart_132 : decode prog_3_method_4_code 132 = .ok (.getfield 31, 3) := by decide +kernel
theorem dc_BF_readPart_135 : decode prog_3_method_4_code 135 = .ok (.iconst 1, 1) := by decide +kernel
theorem dc_BF_readPart_136 : decode prog_3_method_4_code 136 = .ok (.iadd, 1) := by decide +kernel
theorem dc_BF_readPart_137 : decode prog_3_method_4_code 137 = .ok (.putfield 31, 3) := by decide +kernel
theorem dc_BF_readPart_140 : decode prog_3_method_4_code 140 = .ok (.return_, 1) := by decide +kernel
theorem w_BF_readPart_0 {G : GC} {d : Nat} {P : PT} {I : MI} {J : MJ}  (k1 : Ct G (d + 3) m_BF_readDay [.ref 53] (fun r I' J' => Go G (fr G m_BF_readPart (d + 4) P) 4 [some (.ref 53), none, none, none, none] (r.toList ++ []) I' J') I J) : Go G (fr G m_BF_readPart (d + 4) P) 0 [some (.ref 53), none, none, none, none] [] I J := by
  refine g_aload_n dc_BF_readPart_0 rfl rfl rfl ?_
  exact g_callV (T := T_BF) (N := 8) (As := []) (rest := []) ok_BF_readDay in_BF_readDay se_BF_readDay ml_BF_44 sh_53 (by decide) rfl rfl rfl (Nat.le_of_ble_eq_true rfl) dc_BF_readPart_1 rfl rOk_fr k1
theorem w_BF_readPart_4 {G : GC} {d : Nat} {P : PT} {I : MI} {J : MJ} {y0 : Int32} (k1 : Ct G (d + 3) m_BF_byteHere [.ref 53] (fun r I' J' => Go G (fr G m_BF_readPart (d + 4) P) 9 [some (.ref 53), some (.int y0), none, none, none] (r.toList ++ []) I' J') I J) : Go G (fr G m_BF_readPart (d + 4) P) 4 [some (.ref 53), none, none, none, none] [.int y0] I J := by
  refine g_istore_n (L' := [some (.ref 53), some (.int y0), none, none, none]) dc_BF_readPart_4 rfl rfl (Nat.le_of_ble_eq_true rfl) rfl ?_
  refine g_aload_n dc_BF_readPart_5 rfl rfl rfl ?_
  exact g_callV (T := T_BF) (N := 8) (As := []) (rest := []) ok_BF_byteHere in_BF_byteHere se_BF_byteHere ml_BF_40 sh_53 (by decide) rfl rfl rfl (Nat.le_of_ble_eq_true rfl) dc_BF_readPart_6 rfl rOk_fr k1
theorem w_BF_readPart_9 {G : GC} {d : Nat} {P : PT} {I : MI} {J : MJ} {x1 : Int32} {y0 : Int32} (k1 : (¬ (I 53 7) = (-1)) → Go G (fr G m_BF_readPart (d + 4) P) 38 [some (.ref 53), some (.int x1), some (.int y0), none, none] [] I J) (k2 : ((I 53 7) = (-1)) → (y0 = 61) → Go G (fr G m_BF_readPart (d + 4) P) 38 [some (.ref 53), some (.int x1), some (.int y0), none, none] [] I J) (k3 : ((I 53 7) = (-1)) → (¬ (y0 = 61)) → (y0 = 126) → Go G (fr G m_BF_readPart (d + 4) P) 38 [some (.ref 53), some (.int x1), some (.int y0), none, none] [] I J) (k4 : ((I 53 7) = (-1)) → (¬ (y0 = 61)) → (¬ (y0 = 126)) → Go G (fr G m_BF_readPart (d + 4) P) 38 [some (.ref 53), some (.int x1), some (.int y0), none, none] [] (u2 I 53 7 (I 53 6)) J) : Go G (fr G m_BF_readPart (d + 4) P) 9 [some (.ref 53), some (.int x1), none, none, none] [.int y0] I J := by
  refine g_istore_n (L' := [some (.ref 53), some (.int x1), some (.int y0), none, none]) dc_BF_readPart_9 rfl rfl (Nat.le_of_ble_eq_true rfl) rfl ?_
  refine g_aload_n dc_BF_readPart_10 rfl rfl rfl ?_
  refine g_get (C := "LevelBreaks$Beforehand") (T := T_BF) (N := 8) (k := 7) (v := .int (I 53 7)) sh_53 (by decide) rfl rfl i_BF (by decide) fl_BF_34 (Or.inl rfl) rfl dc_BF_readPart_11 rfl ?_
  refine g_iconst (v := (-1)) dc_BF_readPart_14 rfl (by decide) ?_
  refine g_ic_ne (tgt := 38) dc_BF_readPart_15 rfl (by decide) (fun c1 => ?_) (fun c1 => ?_)
  · exact (k1 c1)
  · refine g_iload_n dc_BF_readPart_18 rfl rfl rfl ?_
    refine g_bipush (v := 61) dc_BF_readPart_19 rfl (by decide) ?_
    refine g_ic_eq (tgt := 38) dc_BF_readPart_21 rfl (by decide) (fun c2 => ?_) (fun c2 => ?_)
    · exact (k2 c1 c2)
    · refine g_iload_n dc_BF_readPart_24 rfl rfl rfl ?_
      refine g_bipush (v := 126) dc_BF_readPart_25 rfl (by decide) ?_
      refine g_ic_eq (tgt := 38) dc_BF_readPart_27 rfl (by decide) (fun c3 => ?_) (fun c3 => ?_)
      · exact (k3 c1 c2 c3)
      · refine g_aload_n dc_BF_readPart_30 rfl rfl rfl ?_
        refine g_aload_n dc_BF_readPart_31 rfl rfl rfl ?_
        refine g_get (C := "LevelBreaks$Beforehand") (T := T_BF) (N := 8) (k := 6) (v := .int (I 53 6)) sh_53 (by decide) rfl rfl i_BF (by decide) fl_BF_28 (Or.inl rfl) rfl dc_BF_readPart_32 rfl ?_
        refine g_putI (C := "LevelBreaks$Beforehand") (T := T_BF) (N := 8) (k := 7) (ty := t_BF) sh_53 (by decide) rfl rfl i_BF p_BF n_BF (by decide) fl_BF_34 (Or.inl rfl) rfl (by decide) dc_BF_readPart_35 rfl ?_
        exact (k4 c1 c2 c3)
theorem w_BF_readPart_38 {G : GC} {d : Nat} {P : PT} {I : MI} {J : MJ} {x1 : Int32} {x2 : Int32} (k1 : ((I 53 7) = (-1)) → Ct G (d + 3) m_BF_readNumber [.ref 53, .int (-1000)] (fun r I' J' => Go G (fr G m_BF_readPart (d + 4) P) 64 [some (.ref 53), some (.int x1), some (.int x2), none, none] (r.toList ++ []) I' J') (u2 I 53 6 ((I 53 6) + 1)) J) (q2 : (¬ ((I 53 7) = (-1))) → P none I J) : Go G (fr G m_BF_readPart (d + 4) P) 38 [some (.ref 53), some (.int x1), some (.int x2), none, none] [] I J := by
  refine g_aload_n dc_BF_readPart_38 rfl rfl rfl ?_
  refine g_get (C := "LevelBreaks$Beforehand") (T := T_BF) (N := 8) (k := 7) (v := .int (I 53 7)) sh_53 (by decide) rfl rfl i_BF (by decide) fl_BF_34 (Or.inl rfl) rfl dc_BF_readPart_39 rfl ?_
  refine g_iconst (v := (-1)) dc_BF_readPart_42 rfl (by decide) ?_
  refine g_ic_eq (tgt := 47) dc_BF_readPart_43 rfl (by decide) (fun c1 => ?_) (fun c1 => ?_)
  · refine g_aload_n dc_BF_readPart_47 rfl rfl rfl ?_
    refine g_dup dc_BF_readPart_48 rfl rfl ?_
    refine g_get (C := "LevelBreaks$Beforehand") (T := T_BF) (N := 8) (k := 6) (v := .int (I 53 6)) sh_53 (by decide) rfl rfl i_BF (by decide) fl_BF_28 (Or.inl rfl) rfl dc_BF_readPart_49 rfl ?_
    refine g_iconst (v := 1) dc_BF_readPart_52 rfl (by decide) ?_
    refine g_iadd dc_BF_readPart_53 rfl ?_
    refine g_putI (C := "LevelBreaks$Beforehand") (T := T_BF) (N := 8) (k := 6) (ty := t_BF) sh_53 (by decide) rfl rfl i_BF p_BF n_BF (by decide) fl_BF_28 (Or.inl rfl) rfl (by decide) dc_BF_readPart_54 rfl ?_
    refine g_aload_n dc_BF_readPart_57 rfl rfl rfl ?_
    refine g_sipush (v := (-1000)) dc_BF_readPart_58 rfl (by decide) ?_
    exact g_callV (T := T_BF) (N := 8) (As := [.int (-1000)]) (rest := []) ok_BF_readNumber in_BF_readNumber se_BF_readNumber ml_BF_47 sh_53 (by decide) rfl rfl rfl (Nat.le_of_ble_eq_true rfl) dc_BF_readPart_61 rfl rOk_fr (k1 c1)
  · exact g_vret rfl dc_BF_readPart_46 (q2 c1)
theorem w_BF_readPart_64 {G : GC} {d : Nat} {P : PT} {I : MI} {J : MJ} {x1 : Int32} {x2 : Int32} {y0 : Int32} (k1 : (¬ x2 = 126) → Go G (fr G m_BF_readPart (d + 4) P) 79 [some (.ref 53), some (.int x1), none, some (.int y0), none] [.int 0] I J) (k2 : (x2 = 126) → Ct G (d + 3) m_BF_readSpread [.ref 53] (fun r I' J' => Go G (fr G m_BF_readPart (d + 4) P) 75 [some (.ref 53), some (.int x1), none, some (.int y0), none] (r.toList ++ []) I' J') I J) : Go G (fr G m_BF_readPart (d + 4) P) 64 [some (.ref 53), some (.int x1), some (.int x2), none, none] [.int y0] I J := by
  refine g_istore_n (L' := [some (.ref 53), some (.int x1), some (.int x2), some (.int y0), none]) dc_BF_readPart_64 rfl rfl (Nat.le_of_ble_eq_true rfl) rfl ?_
  refine g_iload_n dc_BF_readPart_65 rfl rfl rfl ?_
  refine g_bipush (v := 126) dc_BF_readPart_66 rfl (by decide) ?_
  refine g_ic_ne (tgt := 78) dc_BF_readPart_68 rfl (by decide) (fun c1 => ?_) (fun c1 => ?_)
  · refine g_iconst (v := 0) dc_BF_readPart_78 rfl (by decide) ?_
    refine g_weak [some (.ref 53), some (.int x1), none, some (.int y0), none] ⟨rfl, ⟨rfl, ⟨rfl, trivial⟩⟩⟩ ?_
    exact (k1 c1)
  · refine g_aload_n dc_BF_readPart_71 rfl rfl rfl ?_
    refine g_weak [some (.ref 53), some (.int x1), none, some (.int y0), none] ⟨rfl, ⟨rfl, ⟨rfl, trivial⟩⟩⟩ ?_
    exact g_callV (T := T_BF) (N := 8) (As := []) (rest := []) ok_BF_readSpread in_BF_readSpread se_BF_readSpread ml_BF_51 sh_53 (by decide) rfl rfl rfl (Nat.le_of_ble_eq_true rfl) dc_BF_readPart_72 rfl rOk_fr (k2 c1)
theorem w_BF_readPart_75 {G : GC} {d : Nat} {P : PT} {I : MI} {J : MJ} {x1 : Int32} {x3 : Int32} {y0 : Int32} (k1 : Go G (fr G m_BF_readPart (d + 4) P) 79 [some (.ref 53), some (.int x1), none, some (.int x3), none] [.int y0] I J) : Go G (fr G m_BF_readPart (d + 4) P) 75 [some (.ref 53), some (.int x1), none, some (.int x3), none] [.int y0] I J := by
  refine g_goto (tgt := 79) dc_BF_readPart_75 (by decide) ?_
  exact k1
theorem w_BF_readPart_79 {G : GC} {d : Nat} {P : PT} {I : MI} {J : MJ} {x1 : Int32} {x3 : Int32} {y0 : Int32} (q1 : (¬ (I 53 7) = (-1)) → P none I J) (b2 : ((I 53 7) = (-1)) → ((I 53 5) < 40) → vp_in (I 53 5) 40) (q3 : ((I 53 7) = (-1)) → ((I 53 5) < 40) → P none (u2 (u2 (u2 (u2 I 55 (I 53 5).toNatClampNeg x1) 56 (I 53 5).toNatClampNeg x3) 57 (I 53 5).toNatClampNeg y0) 53 5 ((I 53 5) + 1)) J) (q4 : ((I 53 7) = (-1)) → (¬ ((I 53 5) < 40)) → P none I J) : Go G (fr G m_BF_readPart (d + 4) P) 79 [some (.ref 53), some (.int x1), none, some (.int x3), none] [.int y0] I J := by
  refine g_istore (L' := [some (.ref 53), some (.int x1), none, some (.int x3), some (.int y0)]) dc_BF_readPart_79 rfl (Nat.le_of_ble_eq_true rfl) rfl ?_
  refine g_aload_n dc_BF_readPart_81 rfl rfl rfl ?_
  refine g_get (C := "LevelBreaks$Beforehand") (T := T_BF) (N := 8) (k := 7) (v := .int (I 53 7)) sh_53 (by decide) rfl rfl i_BF (by decide) fl_BF_34 (Or.inl rfl) rfl dc_BF_readPart_82 rfl ?_
  refine g_iconst (v := (-1)) dc_BF_readPart_85 rfl (by decide) ?_
  refine g_ic_ne (tgt := 98) dc_BF_readPart_86 rfl (by decide) (fun c1 => ?_) (fun c1 => ?_)
  · exact g_vret rfl dc_BF_readPart_98 (q1 c1)
  · refine g_aload_n dc_BF_readPart_89 rfl rfl rfl ?_
    refine g_get (C := "LevelBreaks$Beforehand") (T := T_BF) (N := 8) (k := 5) (v := .int (I 53 5)) sh_53 (by decide) rfl rfl i_BF (by decide) fl_BF_31 (Or.inl rfl) rfl dc_BF_readPart_90 rfl ?_
    refine g_bipush (v := 40) dc_BF_readPart_93 rfl (by decide) ?_
    refine g_ic_lt (tgt := 99) dc_BF_readPart_95 rfl (by decide) (fun c2 => ?_) (fun c2 => ?_)
    · refine g_aload_n dc_BF_readPart_99 rfl rfl rfl ?_
      refine g_get (C := "LevelBreaks$Beforehand") (T := T_BF) (N := 8) (k := 2) (v := .ref 55) sh_53 (by decide) rfl rfl i_BF (by decide) fl_BF_19 (Or.inl rfl) rfl dc_BF_readPart_100 rfl ?_
      refine g_aload_n dc_BF_readPart_103 rfl rfl rfl ?_
      refine g_get (C := "LevelBreaks$Beforehand") (T := T_BF) (N := 8) (k := 5) (v := .int (I 53 5)) sh_53 (by decide) rfl rfl i_BF (by decide) fl_BF_31 (Or.inl rfl) rfl dc_BF_readPart_104 rfl ?_
      refine g_iload_n dc_BF_readPart_107 rfl rfl rfl ?_
      refine g_iast sh_55 (b2 c1 c2) dc_BF_readPart_108 rfl ?_
      refine g_aload_n dc_BF_readPart_109 rfl rfl rfl ?_
      refine g_get (C := "LevelBreaks$Beforehand") (T := T_BF) (N := 8) (k := 3) (v := .ref 56) sh_53 (by decide) rfl rfl i_BF (by decide) fl_BF_22 (Or.inl rfl) rfl dc_BF_readPart_110 rfl ?_
      refine g_aload_n dc_BF_readPart_113 rfl rfl rfl ?_
      refine g_get (C := "LevelBreaks$Beforehand") (T := T_BF) (N := 8) (k := 5) (v := .int (I 53 5)) sh_53 (by decide) rfl rfl i_BF (by decide) fl_BF_31 (Or.inl rfl) rfl dc_BF_readPart_114 rfl ?_
      refine g_iload_n dc_BF_readPart_117 rfl rfl rfl ?_
      refine g_iast sh_56 (b2 c1 c2) dc_BF_readPart_118 rfl ?_
      refine g_aload_n dc_BF_readPart_119 rfl rfl rfl ?_
      refine g_get (C := "LevelBreaks$Beforehand") (T := T_BF) (N := 8) (k := 4) (v := .ref 57) sh_53 (by decide) rfl rfl i_BF (by decide) fl_BF_25 (Or.inl rfl) rfl dc_BF_readPart_120 rfl ?_
      refine g_aload_n dc_BF_readPart_123 rfl rfl rfl ?_
      refine g_get (C := "LevelBreaks$Beforehand") (T := T_BF) (N := 8) (k := 5) (v := .int (I 53 5)) sh_53 (by decide) rfl rfl i_BF (by decide) fl_BF_31 (Or.inl rfl) rfl dc_BF_readPart_124 rfl ?_
      refine g_iload dc_BF_readPart_127 rfl rfl ?_
      refine g_iast sh_57 (b2 c1 c2) dc_BF_readPart_129 rfl ?_
      refine g_aload_n dc_BF_readPart_130 rfl rfl rfl ?_
      refine g_dup dc_BF_readPart_131 rfl rfl ?_
      refine g_get (C := "LevelBreaks$Beforehand") (T := T_BF) (N := 8) (k := 5) (v := .int (I 53 5)) sh_53 (by decide) rfl rfl i_BF (by decide) fl_BF_31 (Or.inl rfl) rfl dc_BF_readPart_132 rfl ?_
      refine g_iconst (v := 1) dc_BF_readPart_135 rfl (by decide) ?_
      refine g_iadd dc_BF_readPart_136 rfl ?_
      refine g_putI (C := "LevelBreaks$Beforehand") (T := T_BF) (N := 8) (k := 5) (ty := t_BF) sh_53 (by decide) rfl rfl i_BF p_BF n_BF (by decide) fl_BF_31 (Or.inl rfl) rfl (by decide) dc_BF_readPart_137 rfl ?_
      exact g_vret rfl dc_BF_readPart_140 (q3 c1 c2)
    · exact g_vret rfl dc_BF_readPart_98 (q4 c1 c2)
theorem dc_BF_readSpread_0 : decode prog_3_method_6_code 0 = .ok (.aload_n 0, 1) := by decide +kernel
theorem dc_BF_readSpread_1 : decode prog_3_method_6_code 1 = .ok (.getfield 34, 3) := by decide +kernel
theorem dc_BF_readSpread_4 : decode prog_3_method_6_code 4 = .ok (.iconst (-1), 1) := by decide +kernel
theorem dc_BF_readSpread_5 : decode prog_3_method_6_code 5 = .ok (.if_icmp .ne 20, 3) := by decide +kernel
theorem dc_BF_readSpread_8 : decode prog_3_method_6_code 8 = .ok (.aload_n 0, 1) := by decide +kernel
theorem dc_BF_readSpread_9 : decode prog_3_method_6_code 9 = .ok (.invokevirtual 40, 3) := by decide +kernel
theorem dc_BF_readSpread_12 : decode prog_3_method_6_code 12 = .ok (.bipush 44, 2) := by decide +kernel
theorem dc_BF_readSpread_14 : decode prog_3_method_6_code 14 = .ok (.if_icmp .eq 11, 3) := by decide +kernel
theorem dc_BF_readSpread_17 : decode prog_3_method_6_code 17 = .ok (.aload_n 0, 1) := by decide +kernel
theorem dc_BF_readSpread_18 : decode prog_3_method_6_code 18 = .ok (.aload_n 0, 1) := by decide +kernel
theorem dc_BF_readSpread_19 : decode prog_3_method_6_code 19 = .ok (.getfield 28, 3) := by decide +kernel
theorem dc_BF_readSpread_22 : decode prog_3_method_6_code 22 = .ok (.putfield 34, 3) := by decide +kernel
theorem dc_BF_readSpread_25 : decode prog_3_method_6_code 25 = .ok (.aload_n 0, 1) := by decide +kernel
theorem dc_BF_readSpread_26 : decode prog_3_method_6_code 26 = .ok (.getfield 34, 3) := by decide +kernel
theorem dc_BF_readSpread_29 : decode prog_3_method_6_code 29 = .ok (.iconst (-1), 1) := by decide +kernel
theorem dc_BF_readSpread_30 : decode prog_3_method_6_code 30 = .ok (.if_icmp .eq 5, 3) := by decide +kernel
theorem dc_BF_readSpread_33 : decode prog_3_method_6_code 33 = .ok (.iconst 0, 1) := by decide +kernel
theorem dc_BF_readSpread_34 : decode prog_3_method_6_code 34 = .ok (.ireturn, 1) := by decide +kernel
theorem dc_BF_readSpread_35 : decode prog_3_method_6_code 35 = .ok (.aload_n 0, 1) := by decide +kernel
theorem dc_BF_readSpread_36 : decode prog_3_method_6_code 36 = .ok (.dup, 1) := by decide +kernel
theorem dc_BF_readSpread_37 : decode prog_3_method_6_code 37 = .ok (.getfield 28, 3) := by decide +kernel
theorem dc_BF_readSpread_40 : decode prog_3_method_6_code 40 = .ok (.iconst 1, 1) := by decide +kernel
theorem dc_BF_readSpread_41 : decode prog_3_method_6_code 41 = .ok (.iadd, 1) := by decide +kernel
theorem dc_BF_readSpread_42 : decode prog_3_method_6_code 42 = .ok (.putfield 28, 3) := by decide +kernel
theorem dc_BF_readSpread_45 : decode prog_3_method_6_code 45 = .ok (.aload_n 0, 1) := by decide +kernel
theorem dc_BF_readSpread_46 : decode prog_3_method_6_code 46 = .ok (.iconst 0, 1) := by decide +kernel
theorem dc_BF_readSpread_47 : decode prog_3_method_6_code 47 = .ok (.invokevirtual 47, 3) := by decide +kernel
theorem dc_BF_readSpread_50 : decode prog_3_method_6_code 50 = .ok (.ireturn, 1) := by decide +kernel
theorem w_BF_readSpread_0 {G : GC} {d : Nat} {P : PT} {I : MI} {J : MJ}  (k1 : (¬ (I 53 7) = (-1)) → Go G (fr G m_BF_readSpread (d + 3) P) 25 [some (.ref 53)] [] I J) (k2 : ((I 53 7) = (-1)) → Ct G (d + 2) m_BF_byteHere [.ref 53] (fun r I' J' => Go G (fr G m_BF_readSpread (d + 3) P) 12 [some (.ref 53)] (r.toList ++ []) I' J') I J) : Go G (fr G m_BF_readSpread (d + 3) P) 0 [some (.ref 53)] [] I J := by
  refine g_aload_n dc_BF_readSpread_0 rfl rfl rfl ?_
  refine g_get (C := "LevelBreaks$Beforehand") (T := T_BF) (N := 8) (k := 7) (v := .int (I 53 7)) sh_53 (by decide) rfl rfl i_BF (by decide) fl_BF_34 (Or.inl rfl) rfl dc_BF_readSpread_1 rfl ?_
  refine g_iconst (v := (-1)) dc_BF_readSpread_4 rfl (by decide) ?_
  refine g_ic_ne (tgt := 25) dc_BF_readSpread_5 rfl (by decide) (fun c1 => ?_) (fun c1 => ?_)
  · exact (k1 c1)
  · refine g_aload_n dc_BF_readSpread_8 rfl rfl rfl ?_
    exact g_callV (T := T_BF) (N := 8) (As := []) (rest := []) ok_BF_byteHere in_BF_byteHere se_BF_byteHere ml_BF_40 sh_53 (by decide) rfl rfl rfl (Nat.le_of_ble_eq_true rfl) dc_BF_readSpread_9 rfl rOk_fr (k2 c1)
theorem w_BF_readSpread_12 {G : GC} {d : Nat} {P : PT} {I : MI} {J : MJ} {y0 : Int32} (k1 : (y0 = 44) → Go G (fr G m_BF_readSpread (d + 3) P) 25 [some (.ref 53)] [] I J) (k2 : (¬ (y0 = 44)) → Go G (fr G m_BF_readSpread (d + 3) P) 25 [some (.ref 53)] [] (u2 I 53 7 (I 53 6)) J) : Go G (fr G m_BF_readSpread (d + 3) P) 12 [some (.ref 53)] [.int y0] I J := by
  refine g_bipush (v := 44) dc_BF_readSpread_12 rfl (by decide) ?_
  refine g_ic_eq (tgt := 25) dc_BF_readSpread_14 rfl (by decide) (fun c1 => ?_) (fun c1 => ?_)
  · exact (k1 c1)
  · refine g_aload_n dc_BF_readSpread_17 rfl rfl rfl ?_
    refine g_aload_n dc_BF_readSpread_18 rfl rfl rfl ?_
    refine g_get (C := "LevelBreaks$Beforehand") (T := T_BF) (N := 8) (k := 6) (v := .int (I 53 6)) sh_53 (by decide) rfl rfl i_BF (by decide) fl_BF_28 (Or.inl rfl) rfl dc_BF_readSpread_19 rfl ?_
    refine g_putI (C := "LevelBreaks$Beforehand") (T := T_BF) (N := 8) (k := 7) (ty := t_BF) sh_53 (by decide) rfl rfl i_BF p_BF n_BF (by decide) fl_BF_34 (Or.inl rfl) rfl (by decide) dc_BF_readSpread_22 rfl ?_
    exact (k2 c1)
theorem w_BF_readSpread_25 {G : GC} {d : Nat} {P : PT} {I : MI} {J : MJ}  (k1 : ((I 53 7) = (-1)) → Ct G (d + 2) m_BF_readNumber [.ref 53, .int 0] (fun r I' J' => Go G (fr G m_BF_readSpread (d + 3) P) 50 [none] (r.toList ++ []) I' J') (u2 I 53 6 ((I 53 6) + 1)) J) (q2 : (¬ ((I 53 7) = (-1))) → P (some (.int 0)) I J) : Go G (fr G m_BF_readSpread (d + 3) P) 25 [some (.ref 53)] [] I J := by
  refine g_aload_n dc_BF_readSpread_25 rfl rfl rfl ?_
  refine g_get (C := "LevelBreaks$Beforehand") (T := T_BF) (N := 8) (k := 7) (v := .int (I 53 7)) sh_53 (by decide) rfl rfl i_BF (by decide) fl_BF_34 (Or.inl rfl) rfl dc_BF_readSpread_26 rfl ?_
  refine g_iconst (v := (-1)) dc_BF_readSpread_29 rfl (by decide) ?_
  refine g_ic_eq (tgt := 35) dc_BF_readSpread_30 rfl (by decide) (fun c1 => ?_) (fun c1 => ?_)
  · refine g_aload_n dc_BF_readSpread_35 rfl rfl rfl ?_
    refine g_dup dc_BF_readSpread_36 rfl rfl ?_
    refine g_get (C := "LevelBreaks$Beforehand") (T := T_BF) (N := 8) (k := 6) (v := .int (I 53 6)) sh_53 (by decide) rfl rfl i_BF (by decide) fl_BF_28 (Or.inl rfl) rfl dc_BF_readSpread_37 rfl ?_
    refine g_iconst (v := 1) dc_BF_readSpread_40 rfl (by decide) ?_
    refine g_iadd dc_BF_readSpread_41 rfl ?_
    refine g_putI (C := "LevelBreaks$Beforehand") (T := T_BF) (N := 8) (k := 6) (ty := t_BF) sh_53 (by decide) rfl rfl i_BF p_BF n_BF (by decide) fl_BF_28 (Or.inl rfl) rfl (by decide) dc_BF_readSpread_42 rfl ?_
    refine g_aload_n dc_BF_readSpread_45 rfl rfl rfl ?_
    refine g_iconst (v := 0) dc_BF_readSpread_46 rfl (by decide) ?_
    refine g_weak [none] trivial ?_
    exact g_callV (T := T_BF) (N := 8) (As := [.int 0]) (rest := []) ok_BF_readNumber in_BF_readNumber se_BF_readNumber ml_BF_47 sh_53 (by decide) rfl rfl rfl (Nat.le_of_ble_eq_true rfl) dc_BF_readSpread_47 rfl rOk_fr (k1 c1)
  · refine g_iconst (v := 0) dc_BF_readSpread_33 rfl (by decide) ?_
    exact g_iret rfl dc_BF_readSpread_34 (q2 c1)
theorem w_BF_readSpread_50 {G : GC} {d : Nat} {P : PT} {I : MI} {J : MJ} {y0 : Int32} (q1 : P (some (.int y0)) I J) : Go G (fr G m_BF_readSpread (d + 3) P) 50 [none] [.int y0] I J := by
  exact g_iret rfl dc_BF_readSpread_50 q1
theorem dc_BF_readText_0 : decode prog_3_method_2_code 0 = .ok (.aload_n 0, 1) := by decide +kernel
theorem dc_BF_readText_1 : decode prog_3_method_2_code 1 = .ok (.iconst 0, 1) := by decide +kernel
theorem dc_BF_readText_2 : decode prog_3_method_2_code 2 = .ok (.putfield 28, 3) := by decide +kernel
theorem dc_BF_readText_5 : decode prog_3_method_2_code 5 = .ok (.aload_n 0, 1) := by decide +kernel
theorem dc_BF_readText_6 : decode prog_3_method_2_code 6 = .ok (.iconst 0, 1) := by decide +kernel
theorem dc_BF_readText_7 : decode prog_3_method_2_code 7 = .ok (.putfield 31, 3) := by decide +kernel
theorem dc_BF_readText_10 : decode prog_3_method_2_code 10 = .ok (.aload_n 0, 1) := by decide +kernel
theorem dc_BF_readText_11 : decode prog_3_method_2_code 11 = .ok (.iconst (-1), 1) := by decide +kernel
theorem dc_BF_readText_12 : decode prog_3_method_2_code 12 = .ok (.putfield 34, 3) := by decide +kernel
theorem dc_BF_readText_15 : decode prog_3_method_2_code 15 = .ok (.iconst 0, 1) := by decide +kernel
theorem dc_BF_readText_16 : decode prog_3_method_2_code 16 = .ok (.istore_n 1, 1) := by decide +kernel
theorem dc_BF_readText_17 : decode prog_3_method_2_code 17 = .ok (.iload_n 1, 1) := by decide +kernel
theorem dc_BF_readText_18 : decode prog_3_method_2_code 18 = .ok (.bipush 40, 2) := by decide +kernel
theorem dc_BF_readText_20 : decode prog_3_method_2_code 20 = .ok (.if_icmp .gt 61, 3) := by decide +kernel
theorem dc_BF_readText_23 : decode prog_3_method_2_code 23 = .ok (.aload_n 0, 1) := by decide +kernel
theorem dc_BF_readText_24 : decode prog_3_method_2_code 24 = .ok (.invokevirtual 37, 3) := by decide +kernel
theorem dc_BF_readText_27 : decode prog_3_method_2_code 27 = .ok (.aload_n 0, 1) := by decide +kernel
theorem dc_BF_readText_28 : decode prog_3_method_2_code 28 = .ok (.getfield 34, 3) := by decide +kernel
theorem dc_BF_readText_31 : decode prog_3_method_2_code 31 = .ok (.iconst (-1), 1) := by decide +kernel
theorem dc_BF_readText_32 : decode prog_3_method_2_code 32 = .ok (.if_icmp .ne 14, 3) := by decide +kernel
theorem dc_BF_readText_35 : decode prog_3_method_2_code 35 = .ok (.aload_n 0, 1) := by decide +kernel
theorem dc_BF_readText_36 : decode prog_3_method_2_code 36 = .ok (.getfield 28, 3) := by decide +kernel
theorem dc_BF_readText_39 : decode prog_3_method_2_code 39 = .ok (.aload_n 0, 1) := by decide +kernel
theorem dc_BF_readText_40 : decode prog_3_method_2_code 40 = .ok (.getfield 15, 3) := by decide +kernel
theorem dc_BF_readText_43 : decode prog_3_method_2_code 43 = .ok (.if_icmp .lt 8, 3) := by decide +kernel
theorem dc_BF_readText_46 : decode prog_3_method_2_code 46 = .ok (.aload_n 0, 1) := by decide +kernel
theorem dc_BF_readText_47 : decode prog_3_method_2_code 47 = .ok (.getfield 34, 3) := by decide +kernel
theorem dc_BF_readText_50 : decode prog_3_method_2_code 50 = .ok (.ireturn, 1) := by decide +kernel
theorem dc_BF_readText_51 : decode prog_3_method_2_code 51 = .ok (.aload_n 0, 1) := by decide +kernel
theorem dc_BF_readText_52 : decode prog_3_method_2_code 52 = .ok (.invokevirtual 40, 3) := by decide +kernel
theorem dc_BF_readText_55 : decode prog_3_method_2_code 55 = .ok (.bipush 59, 2) := by decide +kernel
theorem dc_BF_readText_57 : decode prog_3_method_2_code 57 = .ok (.if_icmp .eq 8, 3) := by decide +kernel
theorem dc_BF_readText_60 : decode prog_3_method_2_code 60 = .ok (.aload_n 0, 1) := by decide +kernel
theorem dc_BF_readText_61 : decode prog_3_method_2_code 61 = .ok (.getfield 28, 3) := by decide +kernel
theorem dc_BF_readText_64 : decode prog_3_method_2_code 64 = .ok (.ireturn, 1) := by decide +kernel
theorem dc_BF_readText_65 : decode prog_3_method_2_code 65 = .ok (.aload_n 0, 1) := by decide +kernel
theorem dc_BF_readText_66 : decode prog_3_method_2_code 66 = .ok (.dup, 1) := by decide +kernel
theorem dc_BF_readText_67 : decode prog_3_method_2_code 67 = .ok (.getfield 28, 3) := by decide +kernel
theorem dc_BF_readText_70 : decode prog_3_method_2_code 70 = .ok (.iconst 1, 1) := by decide +kernel
theorem dc_BF_readText_71 : decode prog_3_method_2_code 71 = .ok (.iadd, 1) := by decide +kernel
theorem dc_BF_readText_72 : decode prog_3_method_2_code 72 = .ok (.putfield 28, 3) := by decide +kernel
theorem dc_BF_readText_75 : decode prog_3_method_2_code 75 = .ok (.iinc 1 1, 3) := by decide +kernel
theorem dc_BF_readText_78 : decode prog_3_method_2_code 78 = .ok (.goto (-61), 3) := by decide +kernel
theorem dc_BF_readText_81 : decode prog_3_method_2_code 81 = .ok (.aload_n 0, 1) := by decide +kernel
theorem dc_BF_readText_82 : decode prog_3_method_2_code 82 = .ok (.getfield 28, 3) := by decide +kernel
theorem dc_BF_readText_85 : decode prog_3_method_2_code 85 = .ok (.ireturn, 1) := by decide +kernel
theorem w_BF_readText_0 {G : GC} {d : Nat} {P : PT} {I : MI} {J : MJ}  (k1 : Go G (fr G m_BF_readText (d + 5) P) 17 [some (.ref 53), some (.int 0)] [] (u2 (u2 (u2 I 53 6 0) 53 5 0) 53 7 (-1)) J) : Go G (fr G m_BF_readText (d + 5) P) 0 [some (.ref 53), none] [] I J := by
  refine g_aload_n dc_BF_readText_0 rfl rfl rfl ?_
  refine g_iconst (v := 0) dc_BF_readText_1 rfl (by decide) ?_
  refine g_putI (C := "LevelBreaks$Beforehand") (T := T_BF) (N := 8) (k := 6) (ty := t_BF) sh_53 (by decide) rfl rfl i_BF p_BF n_BF (by decide) fl_BF_28 (Or.inl rfl) rfl (by decide) dc_BF_readText_2 rfl ?_
  refine g_aload_n dc_BF_readText_5 rfl rfl rfl ?_
  refine g_iconst (v := 0) dc_BF_readText_6 rfl (by decide) ?_
  refine g_putI (C := "LevelBreaks$Beforehand") (T := T_BF) (N := 8) (k := 5) (ty := t_BF) sh_53 (by decide) rfl rfl i_BF p_BF n_BF (by decide) fl_BF_31 (Or.inl rfl) rfl (by decide) dc_BF_readText_7 rfl ?_
  refine g_aload_n dc_BF_readText_10 rfl rfl rfl ?_
  refine g_iconst (v := (-1)) dc_BF_readText_11 rfl (by decide) ?_
  refine g_putI (C := "LevelBreaks$Beforehand") (T := T_BF) (N := 8) (k := 7) (ty := t_BF) sh_53 (by decide) rfl rfl i_BF p_BF n_BF (by decide) fl_BF_34 (Or.inl rfl) rfl (by decide) dc_BF_readText_12 rfl ?_
  refine g_iconst (v := 0) dc_BF_readText_15 rfl (by decide) ?_
  refine g_istore_n (L' := [some (.ref 53), some (.int 0)]) dc_BF_readText_16 rfl rfl (Nat.le_of_ble_eq_true rfl) rfl ?_
  exact k1
theorem w_BF_readText_17 {G : GC} {d : Nat} {P : PT} {I : MI} {J : MJ} {x1 : Int32} (q1 : (40 < x1) → P (some (.int (I 53 6))) I J) (k2 : (¬ (40 < x1)) → Ct G (d + 4) m_BF_readPart [.ref 53] (fun r I' J' => Go G (fr G m_BF_readText (d + 5) P) 27 [some (.ref 53), some (.int x1)] (r.toList ++ []) I' J') I J) : Go G (fr G m_BF_readText (d + 5) P) 17 [some (.ref 53), some (.int x1)] [] I J := by
  refine g_iload_n dc_BF_readText_17 rfl rfl rfl ?_
  refine g_bipush (v := 40) dc_BF_readText_18 rfl (by decide) ?_
  refine g_ic_gt (tgt := 81) dc_BF_readText_20 rfl (by decide) (fun c1 => ?_) (fun c1 => ?_)
  · refine g_aload_n dc_BF_readText_81 rfl rfl rfl ?_
    refine g_get (C := "LevelBreaks$Beforehand") (T := T_BF) (N := 8) (k := 6) (v := .int (I 53 6)) sh_53 (by decide) rfl rfl i_BF (by decide) fl_BF_28 (Or.inl rfl) rfl dc_BF_readText_82 rfl ?_
    exact g_iret rfl dc_BF_readText_85 (q1 c1)
  · refine g_aload_n dc_BF_readText_23 rfl rfl rfl ?_
    exact g_callV (T := T_BF) (N := 8) (As := []) (rest := []) ok_BF_readPart in_BF_readPart se_BF_readPart ml_BF_37 sh_53 (by decide) rfl rfl rfl (Nat.le_of_ble_eq_true rfl) dc_BF_readText_24 rfl rOk_fr (k2 c1)
theorem w_BF_readText_27 {G : GC} {d : Nat} {P : PT} {I : MI} {J : MJ} {x1 : Int32} (k1 : (¬ (I 53 7) = (-1)) → Go G (fr G m_BF_readText (d + 5) P) 46 [some (.ref 53), none] [] I J) (k2 : ((I 53 7) = (-1)) → ((I 53 6) < (I 53 1)) → Ct G (d + 4) m_BF_byteHere [.ref 53] (fun r I' J' => Go G (fr G m_BF_readText (d + 5) P) 55 [some (.ref 53), some (.int x1)] (r.toList ++ []) I' J') I J) (k3 : ((I 53 7) = (-1)) → (¬ ((I 53 6) < (I 53 1))) → Go G (fr G m_BF_readText (d + 5) P) 46 [some (.ref 53), none] [] I J) : Go G (fr G m_BF_readText (d + 5) P) 27 [some (.ref 53), some (.int x1)] [] I J := by
  refine g_aload_n dc_BF_readText_27 rfl rfl rfl ?_
  refine g_get (C := "LevelBreaks$Beforehand") (T := T_BF) (N := 8) (k := 7) (v := .int (I 53 7)) sh_53 (by decide) rfl rfl i_BF (by decide) fl_BF_34 (Or.inl rfl) rfl dc_BF_readText_28 rfl ?_
  refine g_iconst (v := (-1)) dc_BF_readText_31 rfl (by decide) ?_
  refine g_ic_ne (tgt := 46) dc_BF_readText_32 rfl (by decide) (fun c1 => ?_) (fun c1 => ?_)
  · refine g_weak [some (.ref 53), none] ⟨rfl, trivial⟩ ?_
    exact (k1 c1)
  · refine g_aload_n dc_BF_readText_35 rfl rfl rfl ?_
    refine g_get (C := "LevelBreaks$Beforehand") (T := T_BF) (N := 8) (k := 6) (v := .int (I 53 6)) sh_53 (by decide) rfl rfl i_BF (by decide) fl_BF_28 (Or.inl rfl) rfl dc_BF_readText_36 rfl ?_
    refine g_aload_n dc_BF_readText_39 rfl rfl rfl ?_
    refine g_get (C := "LevelBreaks$Beforehand") (T := T_BF) (N := 8) (k := 1) (v := .int (I 53 1)) sh_53 (by decide) rfl rfl i_BF (by decide) fl_BF_15 (Or.inl rfl) rfl dc_BF_readText_40 rfl ?_
    refine g_ic_lt (tgt := 51) dc_BF_readText_43 rfl (by decide) (fun c2 => ?_) (fun c2 => ?_)
    · refine g_aload_n dc_BF_readText_51 rfl rfl rfl ?_
      exact g_callV (T := T_BF) (N := 8) (As := []) (rest := []) ok_BF_byteHere in_BF_byteHere se_BF_byteHere ml_BF_40 sh_53 (by decide) rfl rfl rfl (Nat.le_of_ble_eq_true rfl) dc_BF_readText_52 rfl rOk_fr (k2 c1 c2)
    · refine g_weak [some (.ref 53), none] ⟨rfl, trivial⟩ ?_
      exact (k3 c1 c2)
theorem w_BF_readText_46 {G : GC} {d : Nat} {P : PT} {I : MI} {J : MJ}  (q1 : P (some (.int (I 53 7))) I J) : Go G (fr G m_BF_readText (d + 5) P) 46 [some (.ref 53), none] [] I J := by
  refine g_aload_n dc_BF_readText_46 rfl rfl rfl ?_
  refine g_get (C := "LevelBreaks$Beforehand") (T := T_BF) (N := 8) (k := 7) (v := .int (I 53 7)) sh_53 (by decide) rfl rfl i_BF (by decide) fl_BF_34 (Or.inl rfl) rfl dc_BF_readText_47 rfl ?_
  exact g_iret rfl dc_BF_readText_50 q1
theorem w_BF_readText_55 {G : GC} {d : Nat} {P : PT} {I : MI} {J : MJ} {x1 : Int32} {y0 : Int32} (k1 : (y0 = 59) → Go G (fr G m_BF_readText (d + 5) P) 17 [some (.ref 53), some (.int (x1 + 1))] [] (u2 I 53 6 ((I 53 6) + 1)) J) (q2 : (¬ (y0 = 59)) → P (some (.int (I 53 6))) I J) : Go G (fr G m_BF_readText (d + 5) P) 55 [some (.ref 53), some (.int x1)] [.int y0] I J := by
  refine g_bipush (v := 59) dc_BF_readText_55 rfl (by decide) ?_
  refine g_ic_eq (tgt := 65) dc_BF_readText_57 rfl (by decide) (fun c1 => ?_) (fun c1 => ?_)
  · refine g_aload_n dc_BF_readText_65 rfl rfl rfl ?_
    refine g_dup dc_BF_readText_66 rfl rfl ?_
    refine g_get (C := "LevelBreaks$Beforehand") (T := T_BF) (N := 8) (k := 6) (v := .int (I 53 6)) sh_53 (by decide) rfl rfl i_BF (by decide) fl_BF_28 (Or.inl rfl) rfl dc_BF_readText_67 rfl ?_
    refine g_iconst (v := 1) dc_BF_readText_70 rfl (by decide) ?_
    refine g_iadd dc_BF_readText_71 rfl ?_
    refine g_putI (C := "LevelBreaks$Beforehand") (T := T_BF) (N := 8) (k := 6) (ty := t_BF) sh_53 (by decide) rfl rfl i_BF p_BF n_BF (by decide) fl_BF_28 (Or.inl rfl) rfl (by decide) dc_BF_readText_72 rfl ?_
    refine g_iinc (v := (x1 + 1)) (L' := [some (.ref 53), some (.int (x1 + 1))]) dc_BF_readText_75 rfl rfl (by rw [show Int32.ofInt 1 = 1 from by decide]) (Nat.le_of_ble_eq_true rfl) rfl ?_
    refine g_goto (tgt := 17) dc_BF_readText_78 (by decide) ?_
    exact (k1 c1)
  · refine g_aload_n dc_BF_readText_60 rfl rfl rfl ?_
    refine g_get (C := "LevelBreaks$Beforehand") (T := T_BF) (N := 8) (k := 6) (v := .int (I 53 6)) sh_53 (by decide) rfl rfl i_BF (by decide) fl_BF_28 (Or.inl rfl) rfl dc_BF_readText_61 rfl ?_
    exact g_iret rfl dc_BF_readText_64 (q2 c1)
theorem dc_BF_worstDay_0 : decode prog_3_method_10_code 0 = .ok (.iconst (-1), 1) := by decide +kernel
theorem dc_BF_worstDay_1 : decode prog_3_method_10_code 1 = .ok (.istore_n 2, 1) := by decide +kernel
theorem dc_BF_worstDay_2 : decode prog_3_method_10_code 2 = .ok (.iconst 0, 1) := by decide +kernel
theorem dc_BF_worstDay_3 : decode prog_3_method_10_code 3 = .ok (.istore_n 3, 1) := by decide +kernel
theorem dc_BF_worstDay_4 : decode prog_3_method_10_code 4 = .ok (.iconst 0, 1) := by decide +kernel
theorem dc_BF_worstDay_5 : decode prog_3_method_10_code 5 = .ok (.istore 4, 2) := by decide +kernel
theorem dc_BF_worstDay_7 : decode prog_3_method_10_code 7 = .ok (.iload 4, 2) := by decide +kernel
theorem dc_BF_worstDay_9 : decode prog_3_method_10_code 9 = .ok (.aload_n 1, 1) := by decide +kernel
theorem dc_BF_worstDay_10 : decode prog_3_method_10_code 10 = .ok (.getfield 61, 3) := by decide +kernel
theorem dc_BF_worstDay_13 : decode prog_3_method_10_code 13 = .ok (.if_icmp .ge 35, 3) := by decide +kernel
theorem dc_BF_worstDay_16 : decode prog_3_method_10_code 16 = .ok (.aload_n 0, 1) := by decide +kernel
theorem dc_BF_worstDay_17 : decode prog_3_method_10_code 17 = .ok (.aload_n 1, 1) := by decide +kernel
theorem dc_BF_worstDay_18 : decode prog_3_method_10_code 18 = .ok (.iload 4, 2) := by decide +kernel
theorem dc_BF_worstDay_20 : decode prog_3_method_10_code 20 = .ok (.invokevirtual 64, 3) := by decide +kernel
theorem dc_BF_worstDay_23 : decode prog_3_method_10_code 23 = .ok (.istore 5, 2) := by decide +kernel
theorem dc_BF_worstDay_25 : decode prog_3_method_10_code 25 = .ok (.iload 5, 2) := by decide +kernel
theorem dc_BF_worstDay_27 : decode prog_3_method_10_code 27 = .ok (.iload_n 3, 1) := by decide +kernel
theorem dc_BF_worstDay_28 : decode prog_3_method_10_code 28 = .ok (.if_icmp .le 14, 3) := by decide +kernel
theorem dc_BF_worstDay_31 : decode prog_3_method_10_code 31 = .ok (.iload 5, 2) := by decide +kernel
theorem dc_BF_worstDay_33 : decode prog_3_method_10_code 33 = .ok (.istore_n 3, 1) := by decide +kernel
theorem dc_BF_worstDay_34 : decode prog_3_method_10_code 34 = .ok (.aload_n 1, 1) := by decide +kernel
theorem dc_BF_worstDay_35 : decode prog_3_method_10_code 35 = .ok (.getfield 68, 3) := by decide +kernel
theorem dc_BF_worstDay_38 : decode prog_3_method_10_code 38 = .ok (.iload 4, 2) := by decide +kernel
theorem dc_BF_worstDay_40 : decode prog_3_method_10_code 40 = .ok (.iaload, 1) := by decide +kernel
theorem dc_BF_worstDay_41 : decode prog_3_method_10_code 41 = .ok (.istore_n 2, 1) := by decide +kernel
theorem dc_BF_worstDay_42 : decode prog_3_method_10_code 42 = .ok (.iinc 4 1, 3) := by decide +kernel
theorem dc_BF_worstDay_45 : decode prog_3_method_10_code 45 = .ok (.goto (-38), 3) := by decide +kernel
theorem dc_BF_worstDay_48 : decode prog_3_method_10_code 48 = .ok (.iload_n 2, 1) := by decide +kernel
theorem dc_BF_worstDay_49 : decode prog_3_method_10_code 49 = .ok (.ireturn, 1) := by decide +kernel
theorem w_BF_worstDay_0 {G : GC} {d : Nat} {P : PT} {I : MI} {J : MJ} {o1 : Nat} (h1 : PtsAt o1) (k1 : Go G (fr G m_BF_worstDay (d + 2) P) 7 [some (.ref 53), some (.ref o1), some (.int (-1)), some (.int 0), some (.int 0), none] [] I J) : Go G (fr G m_BF_worstDay (d + 2) P) 0 [some (.ref 53), some (.ref o1), none, none, none, none] [] I J := by
  refine g_iconst (v := (-1)) dc_BF_worstDay_0 rfl (by decide) ?_
  refine g_istore_n (L' := [some (.ref 53), some (.ref o1), some (.int (-1)), none, none, none]) dc_BF_worstDay_1 rfl rfl (Nat.le_of_ble_eq_true rfl) rfl ?_
  refine g_iconst (v := 0) dc_BF_worstDay_2 rfl (by decide) ?_
  refine g_istore_n (L' := [some (.ref 53), some (.ref o1), some (.int (-1)), some (.int 0), none, none]) dc_BF_worstDay_3 rfl rfl (Nat.le_of_ble_eq_true rfl) rfl ?_
  refine g_iconst (v := 0) dc_BF_worstDay_4 rfl (by decide) ?_
  refine g_istore (L' := [some (.ref 53), some (.ref o1), some (.int (-1)), some (.int 0), some (.int 0), none]) dc_BF_worstDay_5 rfl (Nat.le_of_ble_eq_true rfl) rfl ?_
  exact k1
theorem w_BF_worstDay_7 {G : GC} {d : Nat} {P : PT} {I : MI} {J : MJ} {o1 : Nat} (h1 : PtsAt o1) {x2 : Int32} {x3 : Int32} {x4 : Int32} (q1 : ((I o1 4) ≤ x4) → P (some (.int x2)) I J) (k2 : (¬ ((I o1 4) ≤ x4)) → Ct G (d + 1) m_BF_offAt [.ref 53, .ref o1, .int x4] (fun r I' J' => Go G (fr G m_BF_worstDay (d + 2) P) 23 [some (.ref 53), some (.ref o1), some (.int x2), some (.int x3), some (.int x4), none] (r.toList ++ []) I' J') I J) : Go G (fr G m_BF_worstDay (d + 2) P) 7 [some (.ref 53), some (.ref o1), some (.int x2), some (.int x3), some (.int x4), none] [] I J := by
  refine g_iload dc_BF_worstDay_7 rfl rfl ?_
  refine g_aload_n dc_BF_worstDay_9 rfl rfl rfl ?_
  refine g_get (C := "LevelBreaks$Points") (T := T_PO) (N := 5) (k := 4) (v := .int (I o1 4)) h1.1 (by decide) rfl rfl i_PO (by decide) fl_BF_61 (Or.inl rfl) rfl dc_BF_worstDay_10 rfl ?_
  refine g_ic_ge (tgt := 48) dc_BF_worstDay_13 rfl (by decide) (fun c1 => ?_) (fun c1 => ?_)
  · refine g_iload_n dc_BF_worstDay_48 rfl rfl rfl ?_
    exact g_iret rfl dc_BF_worstDay_49 (q1 c1)
  · refine g_aload_n dc_BF_worstDay_16 rfl rfl rfl ?_
    refine g_aload_n dc_BF_worstDay_17 rfl rfl rfl ?_
    refine g_iload dc_BF_worstDay_18 rfl rfl ?_
    exact g_callV (T := T_BF) (N := 8) (As := [.ref o1, .int x4]) (rest := []) ok_BF_offAt in_BF_offAt se_BF_offAt ml_BF_64 sh_53 (by decide) rfl rfl rfl (Nat.le_of_ble_eq_true rfl) dc_BF_worstDay_20 rfl rOk_fr (k2 c1)
theorem w_BF_worstDay_23 {G : GC} {d : Nat} {P : PT} {I : MI} {J : MJ} {o1 : Nat} (h1 : PtsAt o1) {x2 : Int32} {x3 : Int32} {x4 : Int32} {y0 : Int32} (k1 : (y0 ≤ x3) → Go G (fr G m_BF_worstDay (d + 2) P) 42 [some (.ref 53), some (.ref o1), some (.int x2), some (.int x3), some (.int x4), none] [] I J) (b2 : (¬ (y0 ≤ x3)) → vp_in x4 40) (k3 : (¬ (y0 ≤ x3)) → Go G (fr G m_BF_worstDay (d + 2) P) 42 [some (.ref 53), some (.ref o1), some (.int (I (o1 + 2) x4.toNatClampNeg)), some (.int y0), some (.int x4), none] [] I J) : Go G (fr G m_BF_worstDay (d + 2) P) 23 [some (.ref 53), some (.ref o1), some (.int x2), some (.int x3), some (.int x4), none] [.int y0] I J := by
  refine g_istore (L' := [some (.ref 53), some (.ref o1), some (.int x2), some (.int x3), some (.int x4), some (.int y0)]) dc_BF_worstDay_23 rfl (Nat.le_of_ble_eq_true rfl) rfl ?_
  refine g_iload dc_BF_worstDay_25 rfl rfl ?_
  refine g_iload_n dc_BF_worstDay_27 rfl rfl rfl ?_
  refine g_ic_le (tgt := 42) dc_BF_worstDay_28 rfl (by decide) (fun c1 => ?_) (fun c1 => ?_)
  · refine g_weak [some (.ref 53), some (.ref o1), some (.int x2), some (.int x3), some (.int x4), none] ⟨rfl, ⟨rfl, ⟨rfl, ⟨rfl, ⟨rfl, trivial⟩⟩⟩⟩⟩ ?_
    exact (k1 c1)
  · refine g_iload dc_BF_worstDay_31 rfl rfl ?_
    refine g_istore_n (L' := [some (.ref 53), some (.ref o1), some (.int x2), some (.int y0), some (.int x4), some (.int y0)]) dc_BF_worstDay_33 rfl rfl (Nat.le_of_ble_eq_true rfl) rfl ?_
    refine g_aload_n dc_BF_worstDay_34 rfl rfl rfl ?_
    refine g_get (C := "LevelBreaks$Points") (T := T_PO) (N := 5) (k := 1) (v := .ref (o1 + 2)) h1.1 (by decide) rfl rfl i_PO (by decide) fl_BF_68 (Or.inl rfl) rfl dc_BF_worstDay_35 rfl ?_
    refine g_iload dc_BF_worstDay_38 rfl rfl ?_
    refine g_ialdv (v := (I (o1 + 2) x4.toNatClampNeg)) h1.2.2.1 (b2 c1) rfl dc_BF_worstDay_40 rfl ?_
    refine g_istore_n (L' := [some (.ref 53), some (.ref o1), some (.int (I (o1 + 2) x4.toNatClampNeg)), some (.int y0), some (.int x4), some (.int y0)]) dc_BF_worstDay_41 rfl rfl (Nat.le_of_ble_eq_true rfl) rfl ?_
    refine g_weak [some (.ref 53), some (.ref o1), some (.int (I (o1 + 2) x4.toNatClampNeg)), some (.int y0), some (.int x4), none] ⟨rfl, ⟨rfl, ⟨rfl, ⟨rfl, ⟨rfl, trivial⟩⟩⟩⟩⟩ ?_
    exact (k3 c1)
theorem w_BF_worstDay_42 {G : GC} {d : Nat} {P : PT} {I : MI} {J : MJ} {o1 : Nat} (h1 : PtsAt o1) {x2 : Int32} {x3 : Int32} {x4 : Int32} (k1 : Go G (fr G m_BF_worstDay (d + 2) P) 7 [some (.ref 53), some (.ref o1), some (.int x2), some (.int x3), some (.int (x4 + 1)), none] [] I J) : Go G (fr G m_BF_worstDay (d + 2) P) 42 [some (.ref 53), some (.ref o1), some (.int x2), some (.int x3), some (.int x4), none] [] I J := by
  refine g_iinc (v := (x4 + 1)) (L' := [some (.ref 53), some (.ref o1), some (.int x2), some (.int x3), some (.int (x4 + 1)), none]) dc_BF_worstDay_42 rfl rfl (by rw [show Int32.ofInt 1 = 1 from by decide]) (Nat.le_of_ble_eq_true rfl) rfl ?_
  refine g_goto (tgt := 7) dc_BF_worstDay_45 (by decide) ?_
  exact k1
