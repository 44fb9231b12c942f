theorem dc_JM_floorDiv_0 : decode prog_15_method_49_code 0 = .ok (.lload_n 0, 1) := by decide +kernel
theorem dc_JM_floorDiv_1 : decode prog_15_method_49_code 1 = .ok (.lload_n 2, 1) := by decide +kernel
theorem dc_JM_floorDiv_2 : decode prog_15_method_49_code 2 = .ok (.ldiv, 1) := by decide +kernel
theorem dc_JM_floorDiv_3 : decode prog_15_method_49_code 3 = .ok (.lstore 4, 2) := by decide +kernel
theorem dc_JM_floorDiv_5 : decode prog_15_method_49_code 5 = .ok (.lload_n 0, 1) := by decide +kernel
theorem dc_JM_floorDiv_6 : decode prog_15_method_49_code 6 = .ok (.lload_n 2, 1) := by decide +kernel
theorem dc_JM_floorDiv_7 : decode prog_15_method_49_code 7 = .ok (.lxor, 1) := by decide +kernel
theorem dc_JM_floorDiv_8 : decode prog_15_method_49_code 8 = .ok (.lconst 0, 1) := by decide +kernel
theorem dc_JM_floorDiv_9 : decode prog_15_method_49_code 9 = .ok (.lcmp, 1) := by decide +kernel
theorem dc_JM_floorDiv_10 : decode prog_15_method_49_code 10 = .ok (.ifCond .ge 17, 3) := by decide +kernel
theorem dc_JM_floorDiv_13 : decode prog_15_method_49_code 13 = .ok (.lload 4, 2) := by decide +kernel
theorem dc_JM_floorDiv_15 : decode prog_15_method_49_code 15 = .ok (.lload_n 2, 1) := by decide +kernel
theorem dc_JM_floorDiv_16 : decode prog_15_method_49_code 16 = .ok (.lmul, 1) := by decide +kernel
theorem dc_JM_floorDiv_17 : decode prog_15_method_49_code 17 = .ok (.lload_n 0, 1) := by decide +kernel
theorem dc_JM_floorDiv_18 : decode prog_15_method_49_code 18 = .ok (.lcmp, 1) := by decide +kernel
theorem dc_JM_floorDiv_19 : decode prog_15_method_49_code 19 = .ok (.ifCond .eq 8, 3) := by decide +kernel
theorem dc_JM_floorDiv_22 : decode prog_15_method_49_code 22 = .ok (.lload 4, 2) := by decide +kernel
theorem dc_JM_floorDiv_24 : decode prog_15_method_49_code 24 = .ok (.lconst 1, 1) := by decide +kernel
theorem dc_JM_floorDiv_25 : decode prog_15_method_49_code 25 = .ok (.lsub, 1) := by decide +kernel
theorem dc_JM_floorDiv_26 : decode prog_15_method_49_code 26 = .ok (.lreturn, 1) := by decide +kernel
theorem dc_JM_floorDiv_27 : decode prog_15_method_49_code 27 = .ok (.lload 4, 2) := by decide +kernel
theorem dc_JM_floorDiv_29 : decode prog_15_method_49_code 29 = .ok (.lreturn, 1) := by decide +kernel
theorem w_JM_floorDiv_0 {G : GC} {d : Nat} {P : PT} {I : MI} {J : MJ} {l0 : Int64} {l2 : Int64} (z1 : ¬ l2 = 0) (k2 : (0 ≤ (l0 ^^^ l2)) → Go G (fr G m_JM_floorDiv d P) 27 [none, none, none, none, some (.long (l0 / l2)), none] [] I J) (k3 : (¬ (0 ≤ (l0 ^^^ l2))) → (((l0 / l2) * l2) = l0) → Go G (fr G m_JM_floorDiv d P) 27 [none, none, none, none, some (.long (l0 / l2)), none] [] I J) (q4 : (¬ (0 ≤ (l0 ^^^ l2))) → (¬ (((l0 / l2) * l2) = l0)) → P (some (.long ((l0 / l2) - 1))) I J) : Go G (fr G m_JM_floorDiv d P) 0 [some (.long l0), none, some (.long l2), none, none, none] [] I J := by
  refine g_lload_n dc_JM_floorDiv_0 rfl rfl rfl ?_
  refine g_lload_n dc_JM_floorDiv_1 rfl rfl rfl ?_
  refine g_ldiv dc_JM_floorDiv_2 rfl z1 ?_
  refine g_lstore (L' := [some (.long l0), none, some (.long l2), none, some (.long (l0 / l2)), none]) dc_JM_floorDiv_3 rfl (Nat.le_of_ble_eq_true rfl) rfl ?_
  refine g_lload_n dc_JM_floorDiv_5 rfl rfl rfl ?_
  refine g_lload_n dc_JM_floorDiv_6 rfl rfl rfl ?_
  refine g_lxor dc_JM_floorDiv_7 rfl ?_
  refine g_lconst (v := 0) dc_JM_floorDiv_8 rfl (by decide) ?_
  refine g_lc_ge (tgt := 27) dc_JM_floorDiv_9 rfl dc_JM_floorDiv_10 rfl (by decide) (fun c1 => ?_) (fun c1 => ?_)
  · refine g_weak [none, none, none, none, some (.long (l0 / l2)), none] ⟨rfl, trivial⟩ ?_
    exact (k2 c1)
  · refine g_lload dc_JM_floorDiv_13 rfl rfl ?_
    refine g_lload_n dc_JM_floorDiv_15 rfl rfl rfl ?_
    refine g_lmul dc_JM_floorDiv_16 rfl ?_
    refine g_lload_n dc_JM_floorDiv_17 rfl rfl rfl ?_
    refine g_lc_eq (tgt := 27) dc_JM_floorDiv_18 rfl dc_JM_floorDiv_19 rfl (by decide) (fun c2 => ?_) (fun c2 => ?_)
    · refine g_weak [none, none, none, none, some (.long (l0 / l2)), none] ⟨rfl, trivial⟩ ?_
      exact (k3 c1 c2)
    · refine g_lload dc_JM_floorDiv_22 rfl rfl ?_
      refine g_lconst (v := 1) dc_JM_floorDiv_24 rfl (by decide) ?_
      refine g_lsub dc_JM_floorDiv_25 rfl ?_
      exact g_lret rfl dc_JM_floorDiv_26 (q4 c1 c2)
theorem w_JM_floorDiv_27 {G : GC} {d : Nat} {P : PT} {I : MI} {J : MJ} {l4 : Int64} (q1 : P (some (.long l4)) I J) : Go G (fr G m_JM_floorDiv d P) 27 [none, none, none, none, some (.long l4), none] [] I J := by
  refine g_lload dc_JM_floorDiv_27 rfl rfl ?_
  exact g_lret rfl dc_JM_floorDiv_29 q1
theorem dc_JA_fill_AII_0 : decode prog_17_method_103_code 0 = .ok (.iconst 0, 1) := by decide +kernel
theorem dc_JA_fill_AII_1 : decode prog_17_method_103_code 1 = .ok (.istore_n 2, 1) := by decide +kernel
theorem dc_JA_fill_AII_2 : decode prog_17_method_103_code 2 = .ok (.aload_n 0, 1) := by decide +kernel
theorem dc_JA_fill_AII_3 : decode prog_17_method_103_code 3 = .ok (.arraylength, 1) := by decide +kernel
theorem dc_JA_fill_AII_4 : decode prog_17_method_103_code 4 = .ok (.istore_n 3, 1) := by decide +kernel
theorem dc_JA_fill_AII_5 : decode prog_17_method_103_code 5 = .ok (.iload_n 2, 1) := by decide +kernel
theorem dc_JA_fill_AII_6 : decode prog_17_method_103_code 6 = .ok (.iload_n 3, 1) := by decide +kernel
theorem dc_JA_fill_AII_7 : decode prog_17_method_103_code 7 = .ok (.if_icmp .ge 13, 3) := by decide +kernel
theorem dc_JA_fill_AII_10 : decode prog_17_method_103_code 10 = .ok (.aload_n 0, 1) := by decide +kernel
theorem dc_JA_fill_AII_11 : decode prog_17_method_103_code 11 = .ok (.iload_n 2, 1) := by decide +kernel
theorem dc_JA_fill_AII_12 : decode prog_17_method_103_code 12 = .ok (.iload_n 1, 1) := by decide +kernel
theorem dc_JA_fill_AII_13 : decode prog_17_method_103_code 13 = .ok (.iastore, 1) := by decide +kernel
theorem dc_JA_fill_AII_14 : decode prog_17_method_103_code 14 = .ok (.iinc 2 1, 3) := by decide +kernel
theorem dc_JA_fill_AII_17 : decode prog_17_method_103_code 17 = .ok (.goto (-12), 3) := by decide +kernel
theorem dc_JA_fill_AII_20 : decode prog_17_method_103_code 20 = .ok (.return_, 1) := by decide +kernel
theorem w_JA_fill_AII_0 {G : GC} {d : Nat} {P : PT} {I : MI} {J : MJ} {o0 : Nat} {n0 : Nat} (h0 : SHP[o0]? = some (20, n0, [])) {x1 : Int32} (k1 : Go G (fr G m_JA_fill_AII d P) 5 [some (.ref o0), some (.int x1), some (.int 0), some (.int (Int32.ofNat n0))] [] I J) : Go G (fr G m_JA_fill_AII d P) 0 [some (.ref o0), some (.int x1), none, none] [] I J := by
  refine g_iconst (v := 0) dc_JA_fill_AII_0 rfl (by decide) ?_
  refine g_istore_n (L' := [some (.ref o0), some (.int x1), some (.int 0), none]) dc_JA_fill_AII_1 rfl rfl (Nat.le_of_ble_eq_true rfl) rfl ?_
  refine g_aload_n dc_JA_fill_AII_2 rfl rfl rfl ?_
  refine g_alen (v := (Int32.ofNat n0)) h0 rfl dc_JA_fill_AII_3 rfl ?_
  refine g_istore_n (L' := [some (.ref o0), some (.int x1), some (.int 0), some (.int (Int32.ofNat n0))]) dc_JA_fill_AII_4 rfl rfl (Nat.le_of_ble_eq_true rfl) rfl ?_
  exact k1
theorem w_JA_fill_AII_5 {G : GC} {d : Nat} {P : PT} {I : MI} {J : MJ} {o0 : Nat} {n0 : Nat} (h0 : SHP[o0]? = some (20, n0, [])) {x1 : Int32} {x2 : Int32} {x3 : Int32} (q1 : (x3 ≤ x2) → P none I J) (b2 : (¬ (x3 ≤ x2)) → vp_in x2 n0) (k3 : (¬ (x3 ≤ x2)) → Go G (fr G m_JA_fill_AII d P) 5 [some (.ref o0), some (.int x1), some (.int (x2 + 1)), some (.int x3)] [] (u2 I o0 x2.toNatClampNeg x1) J) : Go G (fr G m_JA_fill_AII d P) 5 [some (.ref o0), some (.int x1), some (.int x2), some (.int x3)] [] I J := by
  refine g_iload_n dc_JA_fill_AII_5 rfl rfl rfl ?_
  refine g_iload_n dc_JA_fill_AII_6 rfl rfl rfl ?_
  refine g_ic_ge (tgt := 20) dc_JA_fill_AII_7 rfl (by decide) (fun c1 => ?_) (fun c1 => ?_)
  · exact g_vret rfl dc_JA_fill_AII_20 (q1 c1)
  · refine g_aload_n dc_JA_fill_AII_10 rfl rfl rfl ?_
    refine g_iload_n dc_JA_fill_AII_11 rfl rfl rfl ?_
    refine g_iload_n dc_JA_fill_AII_12 rfl rfl rfl ?_
    refine g_iast h0 (b2 c1) dc_JA_fill_AII_13 rfl ?_
    refine g_iinc (v := (x2 + 1)) (L' := [some (.ref o0), some (.int x1), some (.int (x2 + 1)), some (.int x3)]) dc_JA_fill_AII_14 rfl rfl (by rw [show Int32.ofInt 1 = 1 from by decide]) (Nat.le_of_ble_eq_true rfl) rfl ?_
    refine g_goto (tgt := 5) dc_JA_fill_AII_17 (by decide) ?_
    exact (k3 c1)
theorem dc_JA_fill_AJIIJ_0 : decode prog_17_method_102_code 0 = .ok (.aload_n 0, 1) := by decide +kernel
theorem dc_JA_fill_AJIIJ_1 : decode prog_17_method_102_code 1 = .ok (.arraylength, 1) := by decide +kernel
theorem dc_JA_fill_AJIIJ_2 : decode prog_17_method_102_code 2 = .ok (.iload_n 1, 1) := by decide +kernel
theorem dc_JA_fill_AJIIJ_3 : decode prog_17_method_102_code 3 = .ok (.iload_n 2, 1) := by decide +kernel
theorem dc_JA_fill_AJIIJ_4 : decode prog_17_method_102_code 4 = .ok (.invokestatic 13, 3) := by decide +kernel
theorem dc_JA_fill_AJIIJ_7 : decode prog_17_method_102_code 7 = .ok (.iload_n 1, 1) := by decide +kernel
theorem dc_JA_fill_AJIIJ_8 : decode prog_17_method_102_code 8 = .ok (.istore 5, 2) := by decide +kernel
theorem dc_JA_fill_AJIIJ_10 : decode prog_17_method_102_code 10 = .ok (.iload 5, 2) := by decide +kernel
theorem dc_JA_fill_AJIIJ_12 : decode prog_17_method_102_code 12 = .ok (.iload_n 2, 1) := by decide +kernel
theorem dc_JA_fill_AJIIJ_13 : decode prog_17_method_102_code 13 = .ok (.if_icmp .ge 14, 3) := by decide +kernel
theorem dc_JA_fill_AJIIJ_16 : decode prog_17_method_102_code 16 = .ok (.aload_n 0, 1) := by decide +kernel
theorem dc_JA_fill_AJIIJ_17 : decode prog_17_method_102_code 17 = .ok (.iload 5, 2) := by decide +kernel
theorem dc_JA_fill_AJIIJ_19 : decode prog_17_method_102_code 19 = .ok (.lload_n 3, 1) := by decide +kernel
theorem dc_JA_fill_AJIIJ_20 : decode prog_17_method_102_code 20 = .ok (.lastore, 1) := by decide +kernel
theorem dc_JA_fill_AJIIJ_21 : decode prog_17_method_102_code 21 = .ok (.iinc 5 1, 3) := by decide +kernel
theorem dc_JA_fill_AJIIJ_24 : decode prog_17_method_102_code 24 = .ok (.goto (-14), 3) := by decide +kernel
theorem dc_JA_fill_AJIIJ_27 : decode prog_17_method_102_code 27 = .ok (.return_, 1) := by decide +kernel
theorem w_JA_fill_AJIIJ_0 {G : GC} {d : Nat} {P : PT} {I : MI} {J : MJ} {o0 : Nat} {n0 : Nat} (h0 : SHP[o0]? = some (21, n0, [])) {x1 : Int32} {x2 : Int32} {l3 : Int64} (k1 : Ct G d m_JA_rangeCheck [.int (Int32.ofNat n0), .int x1, .int x2] (fun r I' J' => Go G (fr G m_JA_fill_AJIIJ (d + 1) P) 7 [some (.ref o0), some (.int x1), some (.int x2), some (.long l3), none, none] (r.toList ++ []) I' J') I J) : Go G (fr G m_JA_fill_AJIIJ (d + 1) P) 0 [some (.ref o0), some (.int x1), some (.int x2), some (.long l3), none, none] [] I J := by
  refine g_aload_n dc_JA_fill_AJIIJ_0 rfl rfl rfl ?_
  refine g_alenJ (v := (Int32.ofNat n0)) h0 rfl dc_JA_fill_AJIIJ_1 rfl ?_
  refine g_iload_n dc_JA_fill_AJIIJ_2 rfl rfl rfl ?_
  refine g_iload_n dc_JA_fill_AJIIJ_3 rfl rfl rfl ?_
  exact g_callS (As := [.int (Int32.ofNat n0), .int x1, .int x2]) (rest := []) ok_JA_rangeCheck st_JA_rangeCheck ml_JA_13 rfl rfl (Nat.le_of_ble_eq_true rfl) dc_JA_fill_AJIIJ_4 rfl rOk_fr k1
theorem w_JA_fill_AJIIJ_7 {G : GC} {d : Nat} {P : PT} {I : MI} {J : MJ} {o0 : Nat} {n0 : Nat} (h0 : SHP[o0]? = some (21, n0, [])) {x1 : Int32} {x2 : Int32} {l3 : Int64} (k1 : Go G (fr G m_JA_fill_AJIIJ (d + 1) P) 10 [some (.ref o0), none, some (.int x2), some (.long l3), none, some (.int x1)] [] I J) : Go G (fr G m_JA_fill_AJIIJ (d + 1) P) 7 [some (.ref o0), some (.int x1), some (.int x2), some (.long l3), none, none] [] I J := by
  refine g_iload_n dc_JA_fill_AJIIJ_7 rfl rfl rfl ?_
  refine g_istore (L' := [some (.ref o0), some (.int x1), some (.int x2), some (.long l3), none, some (.int x1)]) dc_JA_fill_AJIIJ_8 rfl (Nat.le_of_ble_eq_true rfl) rfl ?_
  refine g_weak [some (.ref o0), none, some (.int x2), some (.long l3), none, some (.int x1)] ⟨rfl, ⟨rfl, ⟨rfl, ⟨rfl, trivial⟩⟩⟩⟩ ?_
  exact k1
theorem w_JA_fill_AJIIJ_10 {G : GC} {d : Nat} {P : PT} {I : MI} {J : MJ} {o0 : Nat} {n0 : Nat} (h0 : SHP[o0]? = some (21, n0, [])) {x2 : Int32} {l3 : Int64} {x5 : Int32} (q1 : (x2 ≤ x5) → P none I J) (b2 : (¬ (x2 ≤ x5)) → vp_in x5 n0) (k3 : (¬ (x2 ≤ x5)) → Go G (fr G m_JA_fill_AJIIJ (d + 1) P) 10 [some (.ref o0), none, some (.int x2), some (.long l3), none, some (.int (x5 + 1))] [] I (u2 J o0 x5.toNatClampNeg l3)) : Go G (fr G m_JA_fill_AJIIJ (d + 1) P) 10 [some (.ref o0), none, some (.int x2), some (.long l3), none, some (.int x5)] [] I J := by
  refine g_iload dc_JA_fill_AJIIJ_10 rfl rfl ?_
  refine g_iload_n dc_JA_fill_AJIIJ_12 rfl rfl rfl ?_
  refine g_ic_ge (tgt := 27) dc_JA_fill_AJIIJ_13 rfl (by decide) (fun c1 => ?_) (fun c1 => ?_)
  · exact g_vret rfl dc_JA_fill_AJIIJ_27 (q1 c1)
  · refine g_aload_n dc_JA_fill_AJIIJ_16 rfl rfl rfl ?_
    refine g_iload dc_JA_fill_AJIIJ_17 rfl rfl ?_
    refine g_lload_n dc_JA_fill_AJIIJ_19 rfl rfl rfl ?_
    refine g_last h0 (b2 c1) dc_JA_fill_AJIIJ_20 rfl ?_
    refine g_iinc (v := (x5 + 1)) (L' := [some (.ref o0), none, some (.int x2), some (.long l3), none, some (.int (x5 + 1))]) dc_JA_fill_AJIIJ_21 rfl rfl (by rw [show Int32.ofInt 1 = 1 from by decide]) (Nat.le_of_ble_eq_true rfl) rfl ?_
    refine g_goto (tgt := 10) dc_JA_fill_AJIIJ_24 (by decide) ?_
    exact (k3 c1)
theorem dc_JA_fill_AJJ_0 : decode prog_17_method_101_code 0 = .ok (.iconst 0, 1) := by decide +kernel
theorem dc_JA_fill_AJJ_1 : decode prog_17_method_101_code 1 = .ok (.istore_n 3, 1) := by decide +kernel
theorem dc_JA_fill_AJJ_2 : decode prog_17_method_101_code 2 = .ok (.aload_n 0, 1) := by decide +kernel
theorem dc_JA_fill_AJJ_3 : decode prog_17_method_101_code 3 = .ok (.arraylength, 1) := by decide +kernel
theorem dc_JA_fill_AJJ_4 : decode prog_17_method_101_code 4 = .ok (.istore 4, 2) := by decide +kernel
theorem dc_JA_fill_AJJ_6 : decode prog_17_method_101_code 6 = .ok (.iload_n 3, 1) := by decide +kernel
theorem dc_JA_fill_AJJ_7 : decode prog_17_method_101_code 7 = .ok (.iload 4, 2) := by decide +kernel
theorem dc_JA_fill_AJJ_9 : decode prog_17_method_101_code 9 = .ok (.if_icmp .ge 13, 3) := by decide +kernel
theorem dc_JA_fill_AJJ_12 : decode prog_17_method_101_code 12 = .ok (.aload_n 0, 1) := by decide +kernel
theorem dc_JA_fill_AJJ_13 : decode prog_17_method_101_code 13 = .ok (.iload_n 3, 1) := by decide +kernel
theorem dc_JA_fill_AJJ_14 : decode prog_17_method_101_code 14 = .ok (.lload_n 1, 1) := by decide +kernel
theorem dc_JA_fill_AJJ_15 : decode prog_17_method_101_code 15 = .ok (.lastore, 1) := by decide +kernel
theorem dc_JA_fill_AJJ_16 : decode prog_17_method_101_code 16 = .ok (.iinc 3 1, 3) := by decide +kernel
theorem dc_JA_fill_AJJ_19 : decode prog_17_method_101_code 19 = .ok (.goto (-13), 3) := by decide +kernel
theorem dc_JA_fill_AJJ_22 : decode prog_17_method_101_code 22 = .ok (.return_, 1) := by decide +kernel
theorem w_JA_fill_AJJ_0 {G : GC} {d : Nat} {P : PT} {I : MI} {J : MJ} {o0 : Nat} {n0 : Nat} (h0 : SHP[o0]? = some (21, n0, [])) {l1 : Int64} (k1 : Go G (fr G m_JA_fill_AJJ d P) 6 [some (.ref o0), some (.long l1), none, some (.int 0), some (.int (Int32.ofNat n0))] [] I J) : Go G (fr G m_JA_fill_AJJ d P) 0 [some (.ref o0), some (.long l1), none, none, none] [] I J := by
  refine g_iconst (v := 0) dc_JA_fill_AJJ_0 rfl (by decide) ?_
  refine g_istore_n (L' := [some (.ref o0), some (.long l1), none, some (.int 0), none]) dc_JA_fill_AJJ_1 rfl rfl (Nat.le_of_ble_eq_true rfl) rfl ?_
  refine g_aload_n dc_JA_fill_AJJ_2 rfl rfl rfl ?_
  refine g_alenJ (v := (Int32.ofNat n0)) h0 rfl dc_JA_fill_AJJ_3 rfl ?_
  refine g_istore (L' := [some (.ref o0), some (.long l1), none, some (.int 0), some (.int (Int32.ofNat n0))]) dc_JA_fill_AJJ_4 rfl (Nat.le_of_ble_eq_true rfl) rfl ?_
  exact k1
theorem w_JA_fill_AJJ_6 {G : GC} {d : Nat} {P : PT} {I : MI} {J : MJ} {o0 : Nat} {n0 : Nat} (h0 : SHP[o0]? = some (21, n0, [])) {l1 : Int64} {x3 : Int32} {x4 : Int32} (q1 : (x4 ≤ x3) → P none I J) (b2 : (¬ (x4 ≤ x3)) → vp_in x3 n0) (k3 : (¬ (x4 ≤ x3)) → Go G (fr G m_JA_fill_AJJ d P) 6 [some (.ref o0), some (.long l1), none, some (.int (x3 + 1)), some (.int x4)] [] I (u2 J o0 x3.toNatClampNeg l1)) : Go G (fr G m_JA_fill_AJJ d P) 6 [some (.ref o0), some (.long l1), none, some (.int x3), some (.int x4)] [] I J := by
  refine g_iload_n dc_JA_fill_AJJ_6 rfl rfl rfl ?_
  refine g_iload dc_JA_fill_AJJ_7 rfl rfl ?_
  refine g_ic_ge (tgt := 22) dc_JA_fill_AJJ_9 rfl (by decide) (fun c1 => ?_) (fun c1 => ?_)
  · exact g_vret rfl dc_JA_fill_AJJ_22 (q1 c1)
  · refine g_aload_n dc_JA_fill_AJJ_12 rfl rfl rfl ?_
    refine g_iload_n dc_JA_fill_AJJ_13 rfl rfl rfl ?_
    refine g_lload_n dc_JA_fill_AJJ_14 rfl rfl rfl ?_
    refine g_last h0 (b2 c1) dc_JA_fill_AJJ_15 rfl ?_
    refine g_iinc (v := (x3 + 1)) (L' := [some (.ref o0), some (.long l1), none, some (.int (x3 + 1)), some (.int x4)]) dc_JA_fill_AJJ_16 rfl rfl (by rw [show Int32.ofInt 1 = 1 from by decide]) (Nat.le_of_ble_eq_true rfl) rfl ?_
    refine g_goto (tgt := 6) dc_JA_fill_AJJ_19 (by decide) ?_
    exact (k3 c1)
theorem dc_JA_rangeCheck_0 : decode prog_17_method_30_code 0 = .ok (.iload_n 1, 1) := by decide +kernel
theorem dc_JA_rangeCheck_1 : decode prog_17_method_30_code 1 = .ok (.iload_n 2, 1) := by decide +kernel
theorem dc_JA_rangeCheck_2 : decode prog_17_method_30_code 2 = .ok (.if_icmp .le 44, 3) := by decide +kernel
theorem dc_JA_rangeCheck_46 : decode prog_17_method_30_code 46 = .ok (.iload_n 1, 1) := by decide +kernel
theorem dc_JA_rangeCheck_47 : decode prog_17_method_30_code 47 = .ok (.ifCond .ge 12, 3) := by decide +kernel
theorem dc_JA_rangeCheck_59 : decode prog_17_method_30_code 59 = .ok (.iload_n 2, 1) := by decide +kernel
theorem dc_JA_rangeCheck_60 : decode prog_17_method_30_code 60 = .ok (.iload_n 0, 1) := by decide +kernel
theorem dc_JA_rangeCheck_61 : decode prog_17_method_30_code 61 = .ok (.if_icmp .le 12, 3) := by decide +kernel
theorem dc_JA_rangeCheck_73 : decode prog_17_method_30_code 73 = .ok (.return_, 1) := by decide +kernel
theorem w_JA_rangeCheck_0 {G : GC} {d : Nat} {P : PT} {I : MI} {J : MJ} {x0 : Int32} {x1 : Int32} {x2 : Int32} (q1 : (x1 ≤ x2) → (0 ≤ x1) → (x2 ≤ x0) → P none I J) (k2 : (x1 ≤ x2) → (0 ≤ x1) → (¬ (x2 ≤ x0)) → False) (k3 : (x1 ≤ x2) → (¬ (0 ≤ x1)) → False) (k4 : (¬ (x1 ≤ x2)) → False) : Go G (fr G m_JA_rangeCheck d P) 0 [some (.int x0), some (.int x1), some (.int x2)] [] I J := by
  refine g_iload_n dc_JA_rangeCheck_0 rfl rfl rfl ?_
  refine g_iload_n dc_JA_rangeCheck_1 rfl rfl rfl ?_
  refine g_ic_le (tgt := 46) dc_JA_rangeCheck_2 rfl (by decide) (fun c1 => ?_) (fun c1 => ?_)
  · refine g_iload_n dc_JA_rangeCheck_46 rfl rfl rfl ?_
    refine g_if_ge (tgt := 59) dc_JA_rangeCheck_47 rfl (by decide) (fun c2 => ?_) (fun c2 => ?_)
    · refine g_iload_n dc_JA_rangeCheck_59 rfl rfl rfl ?_
      refine g_iload_n dc_JA_rangeCheck_60 rfl rfl rfl ?_
      refine g_ic_le (tgt := 73) dc_JA_rangeCheck_61 rfl (by decide) (fun c3 => ?_) (fun c3 => ?_)
      · exact g_vret rfl dc_JA_rangeCheck_73 (q1 c1 c2 c3)
      · exact (k2 c1 c2 c3).elim
    · exact (k3 c1 c2).elim
  · exact (k4 c1).elim
theorem dc_LE_add_0 : decode prog_6_method_2_code 0 = .ok (.aload_n 0, 1) := by decide +kernel
theorem dc_LE_add_1 : decode prog_6_method_2_code 1 = .ok (.getfield 24, 3) := by decide +kernel
theorem dc_LE_add_4 : decode prog_6_method_2_code 4 = .ok (.sipush 200, 3) := by decide +kernel
theorem dc_LE_add_7 : decode prog_6_method_2_code 7 = .ok (.if_icmp .lt 4, 3) := by decide +kernel
theorem dc_LE_add_10 : decode prog_6_method_2_code 10 = .ok (.return_, 1) := by decide +kernel
theorem dc_LE_add_11 : decode prog_6_method_2_code 11 = .ok (.aload_n 0, 1) := by decide +kernel
theorem dc_LE_add_12 : decode prog_6_method_2_code 12 = .ok (.getfield 9, 3) := by decide +kernel
theorem dc_LE_add_15 : decode prog_6_method_2_code 15 = .ok (.aload_n 0, 1) := by decide +kernel
theorem dc_LE_add_16 : decode prog_6_method_2_code 16 = .ok (.getfield 24, 3) := by decide +kernel
theorem dc_LE_add_19 : decode prog_6_method_2_code 19 = .ok (.iload_n 1, 1) := by decide +kernel
theorem dc_LE_add_20 : decode prog_6_method_2_code 20 = .ok (.iastore, 1) := by decide +kernel
theorem dc_LE_add_21 : decode prog_6_method_2_code 21 = .ok (.aload_n 0, 1) := by decide +kernel
theorem dc_LE_add_22 : decode prog_6_method_2_code 22 = .ok (.getfield 15, 3) := by decide +kernel
theorem dc_LE_add_25 : decode prog_6_method_2_code 25 = .ok (.aload_n 0, 1) := by decide +kernel
theorem dc_LE_add_26 : decode prog_6_method_2_code 26 = .ok (.getfield 24, 3) := by decide +kernel
theorem dc_LE_add_29 : decode prog_6_method_2_code 29 = .ok (.iload_n 2, 1) := by decide +kernel
theorem dc_LE_add_30 : decode prog_6_method_2_code 30 = .ok (.iastore, 1) := by decide +kernel
theorem dc_LE_add_31 : decode prog_6_method_2_code 31 = .ok (.aload_n 0, 1) := by decide +kernel
theorem dc_LE_add_32 : decode prog_6_method_2_code 32 = .ok (.getfield 18, 3) := by decide +kernel
theorem dc_LE_add_35 : decode prog_6_method_2_code 35 = .ok (.aload_n 0, 1) := by decide +kernel
theorem dc_LE_add_36 : decode prog_6_method_2_code 36 = .ok (.getfield 24, 3) := by decide +kernel
theorem dc_LE_add_39 : decode prog_6_method_2_code 39 = .ok (.iload_n 3, 1) := by decide +kernel
theorem dc_LE_add_40 : decode prog_6_method_2_code 40 = .ok (.iastore, 1) := by decide +kernel
theorem dc_LE_add_41 : decode prog_6_method_2_code 41 = .ok (.aload_n 0, 1) := by decide +kernel
theorem dc_LE_add_42 : decode prog_6_method_2_code 42 = .ok (.getfield 21, 3) := by decide +kernel
theorem dc_LE_add_45 : decode prog_6_method_2_code 45 = .ok (.aload_n 0, 1) := by decide +kernel
theorem dc_LE_add_46 : decode prog_6_method_2_code 46 = .ok (.getfield 24, 3) := by decide +kernel
theorem dc_LE_add_49 : decode prog_6_method_2_code 49 = .ok (.iload 4, 2) := by decide +kernel
theorem dc_LE_add_51 : decode prog_6_method_2_code 51 = .ok (.iastore, 1) := by decide +kernel
theorem dc_LE_add_52 : decode prog_6_method_2_code 52 = .ok (.aload_n 0, 1) := by decide +kernel
theorem dc_LE_add_53 : decode prog_6_method_2_code 53 = .ok (.dup, 1) := by decide +kernel
theorem dc_LE_add_54 : decode prog_6_method_2_code 54 = .ok (.getfield 24, 3) := by decide +kernel
theorem dc_LE_add_57 : decode prog_6_method_2_code 57 = .ok (.iconst 1, 1) := by decide +kernel
theorem dc_LE_add_58 : decode prog_6_method_2_code 58 = .ok (.iadd, 1) := by decide +kernel
theorem dc_LE_add_59 : decode prog_6_method_2_code 59 = .ok (.putfield 24, 3) := by decide +kernel
theorem dc_LE_add_62 : decode prog_6_method_2_code 62 = .ok (.return_, 1) := by decide +kernel
theorem w_LE_add_0 {G : GC} {d : Nat} {P : PT} {I : MI} {J : MJ} {x1 : Int32} {x2 : Int32} {x3 : Int32} {x4 : Int32} (b1 : ((I 1 4) < 200) → vp_in (I 1 4) 200) (q2 : ((I 1 4) < 200) → P none (u2 (u2 (u2 (u2 (u2 I 2 (I 1 4).toNatClampNeg x1) 3 (I 1 4).toNatClampNeg x2) 4 (I 1 4).toNatClampNeg x3) 5 (I 1 4).toNatClampNeg x4) 1 4 ((I 1 4) + 1)) J) (q3 : (¬ ((I 1 4) < 200)) → P none I J) : Go G (fr G m_LE_add d P) 0 [some (.ref 1), some (.int x1), some (.int x2), some (.int x3), some (.int x4)] [] I J := by
  refine g_aload_n dc_LE_add_0 rfl rfl rfl ?_
  refine g_get (C := "LevelBreaks$Ledger") (T := T_LE) (N := 5) (k := 4) (v := .int (I 1 4)) sh_1 (by decide) rfl rfl i_LE (by decide) fl_LE_24 (Or.inl rfl) rfl dc_LE_add_1 rfl ?_
  refine g_sipush (v := 200) dc_LE_add_4 rfl (by decide) ?_
  refine g_ic_lt (tgt := 11) dc_LE_add_7 rfl (by decide) (fun c1 => ?_) (fun c1 => ?_)
  · refine g_aload_n dc_LE_add_11 rfl rfl rfl ?_
    refine g_get (C := "LevelBreaks$Ledger") (T := T_LE) (N := 5) (k := 0) (v := .ref 2) sh_1 (by decide) rfl rfl i_LE (by decide) fl_LE_9 (Or.inl rfl) rfl dc_LE_add_12 rfl ?_
    refine g_aload_n dc_LE_add_15 rfl rfl rfl ?_
    refine g_get (C := "LevelBreaks$Ledger") (T := T_LE) (N := 5) (k := 4) (v := .int (I 1 4)) sh_1 (by decide) rfl rfl i_LE (by decide) fl_LE_24 (Or.inl rfl) rfl dc_LE_add_16 rfl ?_
    refine g_iload_n dc_LE_add_19 rfl rfl rfl ?_
    refine g_iast sh_2 (b1 c1) dc_LE_add_20 rfl ?_
    refine g_aload_n dc_LE_add_21 rfl rfl rfl ?_
    refine g_get (C := "LevelBreaks$Ledger") (T := T_LE) (N := 5) (k := 1) (v := .ref 3) sh_1 (by decide) rfl rfl i_LE (by decide) fl_LE_15 (Or.inl rfl) rfl dc_LE_add_22 rfl ?_
    refine g_aload_n dc_LE_add_25 rfl rfl rfl ?_
    refine g_get (C := "LevelBreaks$Ledger") (T := T_LE) (N := 5) (k := 4) (v := .int (I 1 4)) sh_1 (by decide) rfl rfl i_LE (by decide) fl_LE_24 (Or.inl rfl) rfl dc_LE_add_26 rfl ?_
    refine g_iload_n dc_LE_add_29 rfl rfl rfl ?_
    refine g_iast sh_3 (b1 c1) dc_LE_add_30 rfl ?_
    refine g_aload_n dc_LE_add_31 rfl rfl rfl ?_
    refine g_get (C := "LevelBreaks$Ledger") (T := T_LE) (N := 5) (k := 2) (v := .ref 4) sh_1 (by decide) rfl rfl i_LE (by decide) fl_LE_18 (Or.inl rfl) rfl dc_LE_add_32 rfl ?_
    refine g_aload_n dc_LE_add_35 rfl rfl rfl ?_
    refine g_get (C := "LevelBreaks$Ledger") (T := T_LE) (N := 5) (k := 4) (v := .int (I 1 4)) sh_1 (by decide) rfl rfl i_LE (by decide) fl_LE_24 (Or.inl rfl) rfl dc_LE_add_36 rfl ?_
    refine g_iload_n dc_LE_add_39 rfl rfl rfl ?_
    refine g_iast sh_4 (b1 c1) dc_LE_add_40 rfl ?_
    refine g_aload_n dc_LE_add_41 rfl rfl rfl ?_
    refine g_get (C := "LevelBreaks$Ledger") (T := T_LE) (N := 5) (k := 3) (v := .ref 5) sh_1 (by decide) rfl rfl i_LE (by decide) fl_LE_21 (Or.inl rfl) rfl dc_LE_add_42 rfl ?_
    refine g_aload_n dc_LE_add_45 rfl rfl rfl ?_
    refine g_get (C := "LevelBreaks$Ledger") (T := T_LE) (N := 5) (k := 4) (v := .int (I 1 4)) sh_1 (by decide) rfl rfl i_LE (by decide) fl_LE_24 (Or.inl rfl) rfl dc_LE_add_46 rfl ?_
    refine g_iload dc_LE_add_49 rfl rfl ?_
    refine g_iast sh_5 (b1 c1) dc_LE_add_51 rfl ?_
    refine g_aload_n dc_LE_add_52 rfl rfl rfl ?_
    refine g_dup dc_LE_add_53 rfl rfl ?_
    refine g_get (C := "LevelBreaks$Ledger") (T := T_LE) (N := 5) (k := 4) (v := .int (I 1 4)) sh_1 (by decide) rfl rfl i_LE (by decide) fl_LE_24 (Or.inl rfl) rfl dc_LE_add_54 rfl ?_
    refine g_iconst (v := 1) dc_LE_add_57 rfl (by decide) ?_
    refine g_iadd dc_LE_add_58 rfl ?_
    refine g_putI (C := "LevelBreaks$Ledger") (T := T_LE) (N := 5) (k := 4) (ty := t_LE) sh_1 (by decide) rfl rfl i_LE p_LE n_LE (by decide) fl_LE_24 (Or.inl rfl) rfl (by decide) dc_LE_add_59 rfl ?_
    exact g_vret rfl dc_LE_add_62 (q2 c1)
  · exact g_vret rfl dc_LE_add_10 (q3 c1)
theorem dc_LE_lastOf_0 : decode prog_6_method_5_code 0 = .ok (.iload_n 2, 1) := by decide +kernel
theorem dc_LE_lastOf_1 : decode prog_6_method_5_code 1 = .ok (.iconst 1, 1) := by decide +kernel
theorem dc_LE_lastOf_2 : decode prog_6_method_5_code 2 = .ok (.isub, 1) := by decide +kernel
theorem dc_LE_lastOf_3 : decode prog_6_method_5_code 3 = .ok (.istore_n 3, 1) := by decide +kernel
theorem dc_LE_lastOf_4 : decode prog_6_method_5_code 4 = .ok (.iload_n 3, 1) := by decide +kernel
theorem dc_LE_lastOf_5 : decode prog_6_method_5_code 5 = .ok (.ifCond .lt 19, 3) := by decide +kernel
theorem dc_LE_lastOf_8 : decode prog_6_method_5_code 8 = .ok (.aload_n 0, 1) := by decide +kernel
theorem dc_LE_lastOf_9 : decode prog_6_method_5_code 9 = .ok (.getfield 9, 3) := by decide +kernel
theorem dc_LE_lastOf_12 : decode prog_6_method_5_code 12 = .ok (.iload_n 3, 1) := by decide +kernel
theorem dc_LE_lastOf_13 : decode prog_6_method_5_code 13 = .ok (.iaload, 1) := by decide +kernel
theorem dc_LE_lastOf_14 : decode prog_6_method_5_code 14 = .ok (.iload_n 1, 1) := by decide +kernel
theorem dc_LE_lastOf_15 : decode prog_6_method_5_code 15 = .ok (.if_icmp .eq 9, 3) := by decide +kernel
theorem dc_LE_lastOf_18 : decode prog_6_method_5_code 18 = .ok (.iinc 3 (-1), 3) := by decide +kernel
theorem dc_LE_lastOf_21 : decode prog_6_method_5_code 21 = .ok (.goto (-17), 3) := by decide +kernel
theorem dc_LE_lastOf_24 : decode prog_6_method_5_code 24 = .ok (.iload_n 3, 1) := by decide +kernel
theorem dc_LE_lastOf_25 : decode prog_6_method_5_code 25 = .ok (.ifCond .lt 7, 3) := by decide +kernel
theorem dc_LE_lastOf_28 : decode prog_6_method_5_code 28 = .ok (.iload_n 3, 1) := by decide +kernel
theorem dc_LE_lastOf_29 : decode prog_6_method_5_code 29 = .ok (.goto 4, 3) := by decide +kernel
theorem dc_LE_lastOf_32 : decode prog_6_method_5_code 32 = .ok (.iconst (-1), 1) := by decide +kernel
theorem dc_LE_lastOf_33 : decode prog_6_method_5_code 33 = .ok (.ireturn, 1) := by decide +kernel
theorem w_LE_lastOf_0 {G : GC} {d : Nat} {P : PT} {I : MI} {J : MJ} {x1 : Int32} {x2 : Int32} (k1 : Go G (fr G m_LE_lastOf d P) 4 [some (.ref 1), some (.int x1), none, some (.int (x2 - 1))] [] I J) : Go G (fr G m_LE_lastOf d P) 0 [some (.ref 1), some (.int x1), some (.int x2), none] [] I J := by
  refine g_iload_n dc_LE_lastOf_0 rfl rfl rfl ?_
  refine g_iconst (v := 1) dc_LE_lastOf_1 rfl (by decide) ?_
  refine g_isub dc_LE_lastOf_2 rfl ?_
  refine g_istore_n (L' := [some (.ref 1), some (.int x1), some (.int x2), some (.int (x2 - 1))]) dc_LE_lastOf_3 rfl rfl (Nat.le_of_ble_eq_true rfl) rfl ?_
  refine g_weak [some (.ref 1), some (.int x1), none, some (.int (x2 - 1))] ⟨rfl, ⟨rfl, ⟨rfl, trivial⟩⟩⟩ ?_
  exact k1
theorem w_LE_lastOf_4 {G : GC} {d : Nat} {P : PT} {I : MI} {J : MJ} {x1 : Int32} {x3 : Int32} (k1 : (x3 < 0) → Go G (fr G m_LE_lastOf d P) 24 [none, none, none, some (.int x3)] [] I J) (b2 : (¬ (x3 < 0)) → vp_in x3 200) (k3 : (¬ (x3 < 0)) → ((I 2 x3.toNatClampNeg) = x1) → Go G (fr G m_LE_lastOf d P) 24 [none, none, none, some (.int x3)] [] I J) (k4 : (¬ (x3 < 0)) → (¬ ((I 2 x3.toNatClampNeg) = x1)) → Go G (fr G m_LE_lastOf d P) 4 [some (.ref 1), some (.int x1), none, some (.int (x3 + (-1)))] [] I J) : Go G (fr G m_LE_lastOf d P) 4 [some (.ref 1), some (.int x1), none, some (.int x3)] [] I J := by
  refine g_iload_n dc_LE_lastOf_4 rfl rfl rfl ?_
  refine g_if_lt (tgt := 24) dc_LE_lastOf_5 rfl (by decide) (fun c1 => ?_) (fun c1 => ?_)
  · refine g_weak [none, none, none, some (.int x3)] ⟨rfl, trivial⟩ ?_
    exact (k1 c1)
  · refine g_aload_n dc_LE_lastOf_8 rfl rfl rfl ?_
    refine g_get (C := "LevelBreaks$Ledger") (T := T_LE) (N := 5) (k := 0) (v := .ref 2) sh_1 (by decide) rfl rfl i_LE (by decide) fl_LE_9 (Or.inl rfl) rfl dc_LE_lastOf_9 rfl ?_
    refine g_iload_n dc_LE_lastOf_12 rfl rfl rfl ?_
    refine g_ialdv (v := (I 2 x3.toNatClampNeg)) sh_2 (b2 c1) rfl dc_LE_lastOf_13 rfl ?_
    refine g_iload_n dc_LE_lastOf_14 rfl rfl rfl ?_
    refine g_ic_eq (tgt := 24) dc_LE_lastOf_15 rfl (by decide) (fun c2 => ?_) (fun c2 => ?_)
    · refine g_weak [none, none, none, some (.int x3)] ⟨rfl, trivial⟩ ?_
      exact (k3 c1 c2)
    · refine g_iinc (v := (x3 + (-1))) (L' := [some (.ref 1), some (.int x1), none, some (.int (x3 + (-1)))]) dc_LE_lastOf_18 rfl rfl (by rw [show Int32.ofInt (-1) = (-1) from by decide]) (Nat.le_of_ble_eq_true rfl) rfl ?_
      refine g_goto (tgt := 4) dc_LE_lastOf_21 (by decide) ?_
      exact (k4 c1 c2)
theorem w_LE_lastOf_24 {G : GC} {d : Nat} {P : PT} {I : MI} {J : MJ} {x3 : Int32} (q1 : (x3 < 0) → P (some (.int (-1))) I J) (q2 : (¬ (x3 < 0)) → P (some (.int x3)) I J) : Go G (fr G m_LE_lastOf d P) 24 [none, none, none, some (.int x3)] [] I J := by
  refine g_iload_n dc_LE_lastOf_24 rfl rfl rfl ?_
  refine g_if_lt (tgt := 32) dc_LE_lastOf_25 rfl (by decide) (fun c1 => ?_) (fun c1 => ?_)
  · refine g_iconst (v := (-1)) dc_LE_lastOf_32 rfl (by decide) ?_
    exact g_iret rfl dc_LE_lastOf_33 (q1 c1)
  · refine g_iload_n dc_LE_lastOf_28 rfl rfl rfl ?_
    refine g_goto (tgt := 33) dc_LE_lastOf_29 (by decide) ?_
    exact g_iret rfl dc_LE_lastOf_33 (q2 c1)
theorem dc_LE_lastTime_0 : decode prog_6_method_3_code 0 = .ok (.aload_n 0, 1) := by decide +kernel
theorem dc_LE_lastTime_1 : decode prog_6_method_3_code 1 = .ok (.getfield 24, 3) := by decide +kernel
theorem dc_LE_lastTime_4 : decode prog_6_method_3_code 4 = .ok (.ifCond .ne 7, 3) := by decide +kernel
theorem dc_LE_lastTime_7 : decode prog_6_method_3_code 7 = .ok (.iconst 0, 1) := by decide +kernel
theorem dc_LE_lastTime_8 : decode prog_6_method_3_code 8 = .ok (.goto 14, 3) := by decide +kernel
theorem dc_LE_lastTime_11 : decode prog_6_method_3_code 11 = .ok (.aload_n 0, 1) := by decide +kernel
theorem dc_LE_lastTime_12 : decode prog_6_method_3_code 12 = .ok (.getfield 21, 3) := by decide +kernel
theorem dc_LE_lastTime_15 : decode prog_6_method_3_code 15 = .ok (.aload_n 0, 1) := by decide +kernel
theorem dc_LE_lastTime_16 : decode prog_6_method_3_code 16 = .ok (.getfield 24, 3) := by decide +kernel
theorem dc_LE_lastTime_19 : decode prog_6_method_3_code 19 = .ok (.iconst 1, 1) := by decide +kernel
theorem dc_LE_lastTime_20 : decode prog_6_method_3_code 20 = .ok (.isub, 1) := by decide +kernel
theorem dc_LE_lastTime_21 : decode prog_6_method_3_code 21 = .ok (.iaload, 1) := by decide +kernel
theorem dc_LE_lastTime_22 : decode prog_6_method_3_code 22 = .ok (.ireturn, 1) := by decide +kernel
theorem w_LE_lastTime_0 {G : GC} {d : Nat} {P : PT} {I : MI} {J : MJ}  (b1 : (¬ (I 1 4) = 0) → vp_in ((I 1 4) - 1) 200) (q2 : (¬ (I 1 4) = 0) → P (some (.int (I 5 ((I 1 4) - 1).toNatClampNeg))) I J) (q3 : ((I 1 4) = 0) → P (some (.int 0)) I J) : Go G (fr G m_LE_lastTime d P) 0 [some (.ref 1)] [] I J := by
  refine g_aload_n dc_LE_lastTime_0 rfl rfl rfl ?_
  refine g_get (C := "LevelBreaks$Ledger") (T := T_LE) (N := 5) (k := 4) (v := .int (I 1 4)) sh_1 (by decide) rfl rfl i_LE (by decide) fl_LE_24 (Or.inl rfl) rfl dc_LE_lastTime_1 rfl ?_
  refine g_if_ne (tgt := 11) dc_LE_lastTime_4 rfl (by decide) (fun c1 => ?_) (fun c1 => ?_)
  · refine g_aload_n dc_LE_lastTime_11 rfl rfl rfl ?_
    refine g_get (C := "LevelBreaks$Ledger") (T := T_LE) (N := 5) (k := 3) (v := .ref 5) sh_1 (by decide) rfl rfl i_LE (by decide) fl_LE_21 (Or.inl rfl) rfl dc_LE_lastTime_12 rfl ?_
    refine g_aload_n dc_LE_lastTime_15 rfl rfl rfl ?_
    refine g_get (C := "LevelBreaks$Ledger") (T := T_LE) (N := 5) (k := 4) (v := .int (I 1 4)) sh_1 (by decide) rfl rfl i_LE (by decide) fl_LE_24 (Or.inl rfl) rfl dc_LE_lastTime_16 rfl ?_
    refine g_iconst (v := 1) dc_LE_lastTime_19 rfl (by decide) ?_
    refine g_isub dc_LE_lastTime_20 rfl ?_
    refine g_ialdv (v := (I 5 ((I 1 4) - 1).toNatClampNeg)) sh_5 (b1 c1) rfl dc_LE_lastTime_21 rfl ?_
    exact g_iret rfl dc_LE_lastTime_22 (q2 c1)
  · refine g_iconst (v := 0) dc_LE_lastTime_7 rfl (by decide) ?_
    refine g_goto (tgt := 22) dc_LE_lastTime_8 (by decide) ?_
    exact g_iret rfl dc_LE_lastTime_22 (q3 c1)
theorem dc_LE_load_0 : decode prog_6_method_6_code 0 = .ok (.aload_n 1, 1) := by decide +kernel
theorem dc_LE_load_1 : decode prog_6_method_6_code 1 = .ok (.getfield 28, 3) := by decide +kernel
theorem dc_LE_load_4 : decode prog_6_method_6_code 4 = .ok (.sipush (-9999), 3) := by decide +kernel
theorem dc_LE_load_7 : decode prog_6_method_6_code 7 = .ok (.invokestatic 33, 3) := by decide +kernel
theorem dc_LE_load_10 : decode prog_6_method_6_code 10 = .ok (.iconst 0, 1) := by decide +kernel
theorem dc_LE_load_11 : decode prog_6_method_6_code 11 = .ok (.istore 4, 2) := by decide +kernel
theorem dc_LE_load_13 : decode prog_6_method_6_code 13 = .ok (.iload 4, 2) := by decide +kernel
theorem dc_LE_load_15 : decode prog_6_method_6_code 15 = .ok (.iload_n 3, 1) := by decide +kernel
theorem dc_LE_load_16 : decode prog_6_method_6_code 16 = .ok (.if_icmp .ge 39, 3) := by decide +kernel
theorem dc_LE_load_19 : decode prog_6_method_6_code 19 = .ok (.aload_n 0, 1) := by decide +kernel
theorem dc_LE_load_20 : decode prog_6_method_6_code 20 = .ok (.getfield 9, 3) := by decide +kernel
theorem dc_LE_load_23 : decode prog_6_method_6_code 23 = .ok (.iload 4, 2) := by decide +kernel
theorem dc_LE_load_25 : decode prog_6_method_6_code 25 = .ok (.iaload, 1) := by decide +kernel
theorem dc_LE_load_26 : decode prog_6_method_6_code 26 = .ok (.iload_n 2, 1) := by decide +kernel
theorem dc_LE_load_27 : decode prog_6_method_6_code 27 = .ok (.if_icmp .ne 22, 3) := by decide +kernel
theorem dc_LE_load_30 : decode prog_6_method_6_code 30 = .ok (.aload_n 1, 1) := by decide +kernel
theorem dc_LE_load_31 : decode prog_6_method_6_code 31 = .ok (.getfield 28, 3) := by decide +kernel
theorem dc_LE_load_34 : decode prog_6_method_6_code 34 = .ok (.aload_n 0, 1) := by decide +kernel
theorem dc_LE_load_35 : decode prog_6_method_6_code 35 = .ok (.getfield 15, 3) := by decide +kernel
theorem dc_LE_load_38 : decode prog_6_method_6_code 38 = .ok (.iload 4, 2) := by decide +kernel
theorem dc_LE_load_40 : decode prog_6_method_6_code 40 = .ok (.iaload, 1) := by decide +kernel
theorem dc_LE_load_41 : decode prog_6_method_6_code 41 = .ok (.aload_n 0, 1) := by decide +kernel
theorem dc_LE_load_42 : decode prog_6_method_6_code 42 = .ok (.getfield 18, 3) := by decide +kernel
theorem dc_LE_load_45 : decode prog_6_method_6_code 45 = .ok (.iload 4, 2) := by decide +kernel
theorem dc_LE_load_47 : decode prog_6_method_6_code 47 = .ok (.iaload, 1) := by decide +kernel
theorem dc_LE_load_48 : decode prog_6_method_6_code 48 = .ok (.iastore, 1) := by decide +kernel
theorem dc_LE_load_49 : decode prog_6_method_6_code 49 = .ok (.iinc 4 1, 3) := by decide +kernel
theorem dc_LE_load_52 : decode prog_6_method_6_code 52 = .ok (.goto (-39), 3) := by decide +kernel
theorem dc_LE_load_55 : decode prog_6_method_6_code 55 = .ok (.aload_n 1, 1) := by decide +kernel
theorem dc_LE_load_56 : decode prog_6_method_6_code 56 = .ok (.invokevirtual 39, 3) := by decide +kernel
theorem dc_LE_load_59 : decode prog_6_method_6_code 59 = .ok (.return_, 1) := by decide +kernel
theorem w_LE_load_0 {G : GC} {d : Nat} {P : PT} {I : MI} {J : MJ} {o1 : Nat} (h1 : PtsAt o1) {x2 : Int32} {x3 : Int32} (k1 : Ct G (d + 1) m_JA_fill_AII [.ref (o1 + 1), .int (-9999)] (fun r I' J' => Go G (fr G m_LE_load (d + 2) P) 10 [some (.ref 1), some (.ref o1), some (.int x2), some (.int x3), none] (r.toList ++ []) I' J') I J) : Go G (fr G m_LE_load (d + 2) P) 0 [some (.ref 1), some (.ref o1), some (.int x2), some (.int x3), none] [] I J := by
  refine g_aload_n dc_LE_load_0 rfl rfl rfl ?_
  refine g_get (C := "LevelBreaks$Points") (T := T_PO) (N := 5) (k := 0) (v := .ref (o1 + 1)) h1.1 (by decide) rfl rfl i_PO (by decide) fl_LE_28 (Or.inl rfl) rfl dc_LE_load_1 rfl ?_
  refine g_sipush (v := (-9999)) dc_LE_load_4 rfl (by decide) ?_
  exact g_callS (As := [.ref (o1 + 1), .int (-9999)]) (rest := []) ok_JA_fill_AII st_JA_fill_AII ml_LE_33 rfl rfl (Nat.le_of_ble_eq_true rfl) dc_LE_load_7 rfl rOk_fr k1
theorem w_LE_load_10 {G : GC} {d : Nat} {P : PT} {I : MI} {J : MJ} {o1 : Nat} (h1 : PtsAt o1) {x2 : Int32} {x3 : Int32} (k1 : Go G (fr G m_LE_load (d + 2) P) 13 [some (.ref 1), some (.ref o1), some (.int x2), some (.int x3), some (.int 0)] [] I J) : Go G (fr G m_LE_load (d + 2) P) 10 [some (.ref 1), some (.ref o1), some (.int x2), some (.int x3), none] [] I J := by
  refine g_iconst (v := 0) dc_LE_load_10 rfl (by decide) ?_
  refine g_istore (L' := [some (.ref 1), some (.ref o1), some (.int x2), some (.int x3), some (.int 0)]) dc_LE_load_11 rfl (Nat.le_of_ble_eq_true rfl) rfl ?_
  exact k1
theorem w_LE_load_13 {G : GC} {d : Nat} {P : PT} {I : MI} {J : MJ} {o1 : Nat} (h1 : PtsAt o1) {x2 : Int32} {x3 : Int32} {x4 : Int32} (k1 : (x3 ≤ x4) → Ct G (d + 1) m_PO_gather [.ref o1] (fun r I' J' => Go G (fr G m_LE_load (d + 2) P) 59 [none, none, none, none, none] (r.toList ++ []) I' J') I J) (b2 : (¬ (x3 ≤ x4)) → vp_in x4 200) (k3 : (¬ (x3 ≤ x4)) → (¬ (I 2 x4.toNatClampNeg) = x2) → Go G (fr G m_LE_load (d + 2) P) 49 [some (.ref 1), some (.ref o1), some (.int x2), some (.int x3), some (.int x4)] [] I J) (b4 : (¬ (x3 ≤ x4)) → ((I 2 x4.toNatClampNeg) = x2) → vp_in (I 3 x4.toNatClampNeg) 40) (k5 : (¬ (x3 ≤ x4)) → ((I 2 x4.toNatClampNeg) = x2) → Go G (fr G m_LE_load (d + 2) P) 49 [some (.ref 1), some (.ref o1), some (.int x2), some (.int x3), some (.int x4)] [] (u2 I (o1 + 1) (I 3 x4.toNatClampNeg).toNatClampNeg (I 4 x4.toNatClampNeg)) J) : Go G (fr G m_LE_load (d + 2) P) 13 [some (.ref 1), some (.ref o1), some (.int x2), some (.int x3), some (.int x4)] [] I J := by
  refine g_iload dc_LE_load_13 rfl rfl ?_
  refine g_iload_n dc_LE_load_15 rfl rfl rfl ?_
  refine g_ic_ge (tgt := 55) dc_LE_load_16 rfl (by decide) (fun c1 => ?_) (fun c1 => ?_)
  · refine g_aload_n dc_LE_load_55 rfl rfl rfl ?_
    refine g_weak [none, none, none, none, none] trivial ?_
    exact g_callV (T := T_PO) (N := 5) (As := []) (rest := []) ok_PO_gather in_PO_gather se_PO_gather ml_LE_39 h1.1 (by decide) rfl rfl rfl (Nat.le_of_ble_eq_true rfl) dc_LE_load_56 rfl rOk_fr (k1 c1)
  · refine g_aload_n dc_LE_load_19 rfl rfl rfl ?_
    refine g_get (C := "LevelBreaks$Ledger") (T := T_LE) (N := 5) (k := 0) (v := .ref 2) sh_1 (by decide) rfl rfl i_LE (by decide) fl_LE_9 (Or.inl rfl) rfl dc_LE_load_20 rfl ?_
    refine g_iload dc_LE_load_23 rfl rfl ?_
    refine g_ialdv (v := (I 2 x4.toNatClampNeg)) sh_2 (b2 c1) rfl dc_LE_load_25 rfl ?_
    refine g_iload_n dc_LE_load_26 rfl rfl rfl ?_
    refine g_ic_ne (tgt := 49) dc_LE_load_27 rfl (by decide) (fun c2 => ?_) (fun c2 => ?_)
    · exact (k3 c1 c2)
    · refine g_aload_n dc_LE_load_30 rfl rfl rfl ?_
      refine g_get (C := "LevelBreaks$Points") (T := T_PO) (N := 5) (k := 0) (v := .ref (o1 + 1)) h1.1 (by decide) rfl rfl i_PO (by decide) fl_LE_28 (Or.inl rfl) rfl dc_LE_load_31 rfl ?_
      refine g_aload_n dc_LE_load_34 rfl rfl rfl ?_
      refine g_get (C := "LevelBreaks$Ledger") (T := T_LE) (N := 5) (k := 1) (v := .ref 3) sh_1 (by decide) rfl rfl i_LE (by decide) fl_LE_15 (Or.inl rfl) rfl dc_LE_load_35 rfl ?_
      refine g_iload dc_LE_load_38 rfl rfl ?_
      refine g_ialdv (v := (I 3 x4.toNatClampNeg)) sh_3 (b2 c1) rfl dc_LE_load_40 rfl ?_
      refine g_aload_n dc_LE_load_41 rfl rfl rfl ?_
      refine g_get (C := "LevelBreaks$Ledger") (T := T_LE) (N := 5) (k := 2) (v := .ref 4) sh_1 (by decide) rfl rfl i_LE (by decide) fl_LE_18 (Or.inl rfl) rfl dc_LE_load_42 rfl ?_
      refine g_iload dc_LE_load_45 rfl rfl ?_
      refine g_ialdv (v := (I 4 x4.toNatClampNeg)) sh_4 (b2 c1) rfl dc_LE_load_47 rfl ?_
      refine g_iast h1.2.1 (b4 c1 c2) dc_LE_load_48 rfl ?_
      exact (k5 c1 c2)
theorem w_LE_load_49 {G : GC} {d : Nat} {P : PT} {I : MI} {J : MJ} {o1 : Nat} (h1 : PtsAt o1) {x2 : Int32} {x3 : Int32} {x4 : Int32} (k1 : Go G (fr G m_LE_load (d + 2) P) 13 [some (.ref 1), some (.ref o1), some (.int x2), some (.int x3), some (.int (x4 + 1))] [] I J) : Go G (fr G m_LE_load (d + 2) P) 49 [some (.ref 1), some (.ref o1), some (.int x2), some (.int x3), some (.int x4)] [] I J := by
  refine g_iinc (v := (x4 + 1)) (L' := [some (.ref 1), some (.ref o1), some (.int x2), some (.int x3), some (.int (x4 + 1))]) dc_LE_load_49 rfl rfl (by rw [show Int32.ofInt 1 = 1 from by decide]) (Nat.le_of_ble_eq_true rfl) rfl ?_
  refine g_goto (tgt := 13) dc_LE_load_52 (by decide) ?_
  exact k1
theorem w_LE_load_59 {G : GC} {d : Nat} {P : PT} {I : MI} {J : MJ}  (q1 : P none I J) : Go G (fr G m_LE_load (d + 2) P) 59 [none, none, none, none, none] [] I J := by
  exact g_vret rfl dc_LE_load_59 q1
theorem dc_LE_toldUpTo_0 : decode prog_6_method_4_code 0 = .ok (.aload_n 0, 1) := by decide +kernel
theorem dc_LE_toldUpTo_1 : decode prog_6_method_4_code 1 = .ok (.getfield 24, 3) := by decide +kernel
theorem dc_LE_toldUpTo_4 : decode prog_6_method_4_code 4 = .ok (.istore_n 2, 1) := by decide +kernel
theorem dc_LE_toldUpTo_5 : decode prog_6_method_4_code 5 = .ok (.iload_n 2, 1) := by decide +kernel
theorem dc_LE_toldUpTo_6 : decode prog_6_method_4_code 6 = .ok (.ifCond .le 21, 3) := by decide +kernel
theorem dc_LE_toldUpTo_9 : decode prog_6_method_4_code 9 = .ok (.aload_n 0, 1) := by decide +kernel
theorem dc_LE_toldUpTo_10 : decode prog_6_method_4_code 10 = .ok (.getfield 21, 3) := by decide +kernel
theorem dc_LE_toldUpTo_13 : decode prog_6_method_4_code 13 = .ok (.iload_n 2, 1) := by decide +kernel
theorem dc_LE_toldUpTo_14 : decode prog_6_method_4_code 14 = .ok (.iconst 1, 1) := by decide +kernel
theorem dc_LE_toldUpTo_15 : decode prog_6_method_4_code 15 = .ok (.isub, 1) := by decide +kernel
theorem dc_LE_toldUpTo_16 : decode prog_6_method_4_code 16 = .ok (.iaload, 1) := by decide +kernel
theorem dc_LE_toldUpTo_17 : decode prog_6_method_4_code 17 = .ok (.iload_n 1, 1) := by decide +kernel
theorem dc_LE_toldUpTo_18 : decode prog_6_method_4_code 18 = .ok (.if_icmp .le 9, 3) := by decide +kernel
theorem dc_LE_toldUpTo_21 : decode prog_6_method_4_code 21 = .ok (.iinc 2 (-1), 3) := by decide +kernel
theorem dc_LE_toldUpTo_24 : decode prog_6_method_4_code 24 = .ok (.goto (-19), 3) := by decide +kernel
theorem dc_LE_toldUpTo_27 : decode prog_6_method_4_code 27 = .ok (.iload_n 2, 1) := by decide +kernel
theorem dc_LE_toldUpTo_28 : decode prog_6_method_4_code 28 = .ok (.ireturn, 1) := by decide +kernel
theorem w_LE_toldUpTo_0 {G : GC} {d : Nat} {P : PT} {I : MI} {J : MJ} {x1 : Int32} (k1 : Go G (fr G m_LE_toldUpTo d P) 5 [some (.ref 1), some (.int x1), some (.int (I 1 4))] [] I J) : Go G (fr G m_LE_toldUpTo d P) 0 [some (.ref 1), some (.int x1), none] [] I J := by
  refine g_aload_n dc_LE_toldUpTo_0 rfl rfl rfl ?_
  refine g_get (C := "LevelBreaks$Ledger") (T := T_LE) (N := 5) (k := 4) (v := .int (I 1 4)) sh_1 (by decide) rfl rfl i_LE (by decide) fl_LE_24 (Or.inl rfl) rfl dc_LE_toldUpTo_1 rfl ?_
  refine g_istore_n (L' := [some (.ref 1), some (.int x1), some (.int (I 1 4))]) dc_LE_toldUpTo_4 rfl rfl (Nat.le_of_ble_eq_true rfl) rfl ?_
  exact k1
theorem w_LE_toldUpTo_5 {G : GC} {d : Nat} {P : PT} {I : MI} {J : MJ} {x1 : Int32} {x2 : Int32} (k1 : (x2 ≤ 0) → Go G (fr G m_LE_toldUpTo d P) 27 [none, none, some (.int x2)] [] I J) (b2 : (¬ (x2 ≤ 0)) → vp_in (x2 - 1) 200) (k3 : (¬ (x2 ≤ 0)) → ((I 5 (x2 - 1).toNatClampNeg) ≤ x1) → Go G (fr G m_LE_toldUpTo d P) 27 [none, none, some (.int x2)] [] I J) (k4 : (¬ (x2 ≤ 0)) → (¬ ((I 5 (x2 - 1).toNatClampNeg) ≤ x1)) → Go G (fr G m_LE_toldUpTo d P) 5 [some (.ref 1), some (.int x1), some (.int (x2 + (-1)))] [] I J) : Go G (fr G m_LE_toldUpTo d P) 5 [some (.ref 1), some (.int x1), some (.int x2)] [] I J := by
  refine g_iload_n dc_LE_toldUpTo_5 rfl rfl rfl ?_
  refine g_if_le (tgt := 27) dc_LE_toldUpTo_6 rfl (by decide) (fun c1 => ?_) (fun c1 => ?_)
  · refine g_weak [none, none, some (.int x2)] ⟨rfl, trivial⟩ ?_
    exact (k1 c1)
  · refine g_aload_n dc_LE_toldUpTo_9 rfl rfl rfl ?_
    refine g_get (C := "LevelBreaks$Ledger") (T := T_LE) (N := 5) (k := 3) (v := .ref 5) sh_1 (by decide) rfl rfl i_LE (by decide) fl_LE_21 (Or.inl rfl) rfl dc_LE_toldUpTo_10 rfl ?_
    refine g_iload_n dc_LE_toldUpTo_13 rfl rfl rfl ?_
    refine g_iconst (v := 1) dc_LE_toldUpTo_14 rfl (by decide) ?_
    refine g_isub dc_LE_toldUpTo_15 rfl ?_
    refine g_ialdv (v := (I 5 (x2 - 1).toNatClampNeg)) sh_5 (b2 c1) rfl dc_LE_toldUpTo_16 rfl ?_
    refine g_iload_n dc_LE_toldUpTo_17 rfl rfl rfl ?_
    refine g_ic_le (tgt := 27) dc_LE_toldUpTo_18 rfl (by decide) (fun c2 => ?_) (fun c2 => ?_)
    · refine g_weak [none, none, some (.int x2)] ⟨rfl, trivial⟩ ?_
      exact (k3 c1 c2)
    · refine g_iinc (v := (x2 + (-1))) (L' := [some (.ref 1), some (.int x1), some (.int (x2 + (-1)))]) dc_LE_toldUpTo_21 rfl rfl (by rw [show Int32.ofInt (-1) = (-1) from by decide]) (Nat.le_of_ble_eq_true rfl) rfl ?_
      refine g_goto (tgt := 5) dc_LE_toldUpTo_24 (by decide) ?_
      exact (k4 c1 c2)
theorem w_LE_toldUpTo_27 {G : GC} {d : Nat} {P : PT} {I : MI} {J : MJ} {x2 : Int32} (q1 : P (some (.int x2)) I J) : Go G (fr G m_LE_toldUpTo d P) 27 [none, none, some (.int x2)] [] I J := by
  refine g_iload_n dc_LE_toldUpTo_27 rfl rfl rfl ?_
  exact g_iret rfl dc_LE_toldUpTo_28 q1
theorem dc_PO_findLike_0 : decode prog_10_method_3_code 0 = .ok (.iconst 0, 1) := by decide +kernel
theorem dc_PO_findLike_1 : decode prog_10_method_3_code 1 = .ok (.istore_n 2, 1) := by decide +kernel
theorem dc_PO_findLike_2 : decode prog_10_method_3_code 2 = .ok (.iload_n 2, 1) := by decide +kernel
theorem dc_PO_findLike_3 : decode prog_10_method_3_code 3 = .ok (.iload_n 1, 1) := by decide +kernel
theorem dc_PO_findLike_4 : decode prog_10_method_3_code 4 = .ok (.if_icmp .ge 26, 3) := by decide +kernel
theorem dc_PO_findLike_7 : decode prog_10_method_3_code 7 = .ok (.aload_n 0, 1) := by decide +kernel
theorem dc_PO_findLike_8 : decode prog_10_method_3_code 8 = .ok (.getfield 18, 3) := by decide +kernel
theorem dc_PO_findLike_11 : decode prog_10_method_3_code 11 = .ok (.iload_n 2, 1) := by decide +kernel
theorem dc_PO_findLike_12 : decode prog_10_method_3_code 12 = .ok (.iaload, 1) := by decide +kernel
theorem dc_PO_findLike_13 : decode prog_10_method_3_code 13 = .ok (.aload_n 0, 1) := by decide +kernel
theorem dc_PO_findLike_14 : decode prog_10_method_3_code 14 = .ok (.getfield 18, 3) := by decide +kernel
theorem dc_PO_findLike_17 : decode prog_10_method_3_code 17 = .ok (.iload_n 1, 1) := by decide +kernel
theorem dc_PO_findLike_18 : decode prog_10_method_3_code 18 = .ok (.iaload, 1) := by decide +kernel
theorem dc_PO_findLike_19 : decode prog_10_method_3_code 19 = .ok (.if_icmp .ne 5, 3) := by decide +kernel
theorem dc_PO_findLike_22 : decode prog_10_method_3_code 22 = .ok (.iload_n 2, 1) := by decide +kernel
theorem dc_PO_findLike_23 : decode prog_10_method_3_code 23 = .ok (.ireturn, 1) := by decide +kernel
theorem dc_PO_findLike_24 : decode prog_10_method_3_code 24 = .ok (.iinc 2 1, 3) := by decide +kernel
theorem dc_PO_findLike_27 : decode prog_10_method_3_code 27 = .ok (.goto (-25), 3) := by decide +kernel
theorem dc_PO_findLike_30 : decode prog_10_method_3_code 30 = .ok (.iload_n 1, 1) := by decide +kernel
theorem dc_PO_findLike_31 : decode prog_10_method_3_code 31 = .ok (.ireturn, 1) := by decide +kernel
theorem w_PO_findLike_0 {G : GC} {d : Nat} {P : PT} {I : MI} {J : MJ} {o0 : Nat} (h0 : PtsAt o0) {x1 : Int32} (k1 : Go G (fr G m_PO_findLike d P) 2 [some (.ref o0), some (.int x1), some (.int 0)] [] I J) : Go G (fr G m_PO_findLike d P) 0 [some (.ref o0), some (.int x1), none] [] I J := by
  refine g_iconst (v := 0) dc_PO_findLike_0 rfl (by decide) ?_
  refine g_istore_n (L' := [some (.ref o0), some (.int x1), some (.int 0)]) dc_PO_findLike_1 rfl rfl (Nat.le_of_ble_eq_true rfl) rfl ?_
  exact k1
theorem w_PO_findLike_2 {G : GC} {d : Nat} {P : PT} {I : MI} {J : MJ} {o0 : Nat} (h0 : PtsAt o0) {x1 : Int32} {x2 : Int32} (q1 : (x1 ≤ x2) → P (some (.int x1)) I J) (b2 : (¬ (x1 ≤ x2)) → vp_in x2 40) (b3 : (¬ (x1 ≤ x2)) → vp_in x1 40) (k4 : (¬ (x1 ≤ x2)) → (¬ (I (o0 + 3) x2.toNatClampNeg) = (I (o0 + 3) x1.toNatClampNeg)) → Go G (fr G m_PO_findLike d P) 2 [some (.ref o0), some (.int x1), some (.int (x2 + 1))] [] I J) (q5 : (¬ (x1 ≤ x2)) → ((I (o0 + 3) x2.toNatClampNeg) = (I (o0 + 3) x1.toNatClampNeg)) → P (some (.int x2)) I J) : Go G (fr G m_PO_findLike d P) 2 [some (.ref o0), some (.int x1), some (.int x2)] [] I J := by
  refine g_iload_n dc_PO_findLike_2 rfl rfl rfl ?_
  refine g_iload_n dc_PO_findLike_3 rfl rfl rfl ?_
  refine g_ic_ge (tgt := 30) dc_PO_findLike_4 rfl (by decide) (fun c1 => ?_) (fun c1 => ?_)
  · refine g_iload_n dc_PO_findLike_30 rfl rfl rfl ?_
    exact g_iret rfl dc_PO_findLike_31 (q1 c1)
  · refine g_aload_n dc_PO_findLike_7 rfl rfl rfl ?_
    refine g_get (C := "LevelBreaks$Points") (T := T_PO) (N := 5) (k := 2) (v := .ref (o0 + 3)) h0.1 (by decide) rfl rfl i_PO (by decide) fl_PO_18 (Or.inl rfl) rfl dc_PO_findLike_8 rfl ?_
    refine g_iload_n dc_PO_findLike_11 rfl rfl rfl ?_
    refine g_ialdv (v := (I (o0 + 3) x2.toNatClampNeg)) h0.2.2.2.1 (b2 c1) rfl dc_PO_findLike_12 rfl ?_
    refine g_aload_n dc_PO_findLike_13 rfl rfl rfl ?_
    refine g_get (C := "LevelBreaks$Points") (T := T_PO) (N := 5) (k := 2) (v := .ref (o0 + 3)) h0.1 (by decide) rfl rfl i_PO (by decide) fl_PO_18 (Or.inl rfl) rfl dc_PO_findLike_14 rfl ?_
    refine g_iload_n dc_PO_findLike_17 rfl rfl rfl ?_
    refine g_ialdv (v := (I (o0 + 3) x1.toNatClampNeg)) h0.2.2.2.1 (b3 c1) rfl dc_PO_findLike_18 rfl ?_
    refine g_ic_ne (tgt := 24) dc_PO_findLike_19 rfl (by decide) (fun c2 => ?_) (fun c2 => ?_)
    · refine g_iinc (v := (x2 + 1)) (L' := [some (.ref o0), some (.int x1), some (.int (x2 + 1))]) dc_PO_findLike_24 rfl rfl (by rw [show Int32.ofInt 1 = 1 from by decide]) (Nat.le_of_ble_eq_true rfl) rfl ?_
      refine g_goto (tgt := 2) dc_PO_findLike_27 (by decide) ?_
      exact (k4 c1 c2)
    · refine g_iload_n dc_PO_findLike_22 rfl rfl rfl ?_
      exact g_iret rfl dc_PO_findLike_23 (q5 c1 c2)
theorem dc_PO_firstFrom_0 : decode prog_10_method_4_code 0 = .ok (.iconst 0, 1) := by decide +kernel
theorem dc_PO_firstFrom_1 : decode prog_10_method_4_code 1 = .ok (.istore_n 2, 1) := by decide +kernel
theorem dc_PO_firstFrom_2 : decode prog_10_method_4_code 2 = .ok (.iload_n 2, 1) := by decide +kernel
theorem dc_PO_firstFrom_3 : decode prog_10_method_4_code 3 = .ok (.aload_n 0, 1) := by decide +kernel
theorem dc_PO_firstFrom_4 : decode prog_10_method_4_code 4 = .ok (.getfield 24, 3) := by decide +kernel
theorem dc_PO_firstFrom_7 : decode prog_10_method_4_code 7 = .ok (.if_icmp .ge 19, 3) := by decide +kernel
theorem dc_PO_firstFrom_10 : decode prog_10_method_4_code 10 = .ok (.aload_n 0, 1) := by decide +kernel
theorem dc_PO_firstFrom_11 : decode prog_10_method_4_code 11 = .ok (.getfield 15, 3) := by decide +kernel
theorem dc_PO_firstFrom_14 : decode prog_10_method_4_code 14 = .ok (.iload_n 2, 1) := by decide +kernel
theorem dc_PO_firstFrom_15 : decode prog_10_method_4_code 15 = .ok (.iaload, 1) := by decide +kernel
theorem dc_PO_firstFrom_16 : decode prog_10_method_4_code 16 = .ok (.iload_n 1, 1) := by decide +kernel
theorem dc_PO_firstFrom_17 : decode prog_10_method_4_code 17 = .ok (.if_icmp .ge 9, 3) := by decide +kernel
theorem dc_PO_firstFrom_20 : decode prog_10_method_4_code 20 = .ok (.iinc 2 1, 3) := by decide +kernel
theorem dc_PO_firstFrom_23 : decode prog_10_method_4_code 23 = .ok (.goto (-21), 3) := by decide +kernel
theorem dc_PO_firstFrom_26 : decode prog_10_method_4_code 26 = .ok (.iload_n 2, 1) := by decide +kernel
theorem dc_PO_firstFrom_27 : decode prog_10_method_4_code 27 = .ok (.ireturn, 1) := by decide +kernel
theorem w_PO_firstFrom_0 {G : GC} {d : Nat} {P : PT} {I : MI} {J : MJ} {o0 : Nat} (h0 : PtsAt o0) {x1 : Int32} (k1 : Go G (fr G m_PO_firstFrom d P) 2 [some (.ref o0), some (.int x1), some (.int 0)] [] I J) : Go G (fr G m_PO_firstFrom d P) 0 [some (.ref o0), some (.int x1), none] [] I J := by
  refine g_iconst (v := 0) dc_PO_firstFrom_0 rfl (by decide) ?_
  refine g_istore_n (L' := [some (.ref o0), some (.int x1), some (.int 0)]) dc_PO_firstFrom_1 rfl rfl (Nat.le_of_ble_eq_true rfl) rfl ?_
  exact k1
theorem w_PO_firstFrom_2 {G : GC} {d : Nat} {P : PT} {I : MI} {J : MJ} {o0 : Nat} (h0 : PtsAt o0) {x1 : Int32} {x2 : Int32} (k1 : ((I o0 4) ≤ x2) → Go G (fr G m_PO_firstFrom d P) 26 [none, none, some (.int x2)] [] I J) (b2 : (¬ ((I o0 4) ≤ x2)) → vp_in x2 40) (k3 : (¬ ((I o0 4) ≤ x2)) → (x1 ≤ (I (o0 + 2) x2.toNatClampNeg)) → Go G (fr G m_PO_firstFrom d P) 26 [none, none, some (.int x2)] [] I J) (k4 : (¬ ((I o0 4) ≤ x2)) → (¬ (x1 ≤ (I (o0 + 2) x2.toNatClampNeg))) → Go G (fr G m_PO_firstFrom d P) 2 [some (.ref o0), some (.int x1), some (.int (x2 + 1))] [] I J) : Go G (fr G m_PO_firstFrom d P) 2 [some (.ref o0), some (.int x1), some (.int x2)] [] I J := by
  refine g_iload_n dc_PO_firstFrom_2 rfl rfl rfl ?_
  refine g_aload_n dc_PO_firstFrom_3 rfl rfl rfl ?_
  refine g_get (C := "LevelBreaks$Points") (T := T_PO) (N := 5) (k := 4) (v := .int (I o0 4)) h0.1 (by decide) rfl rfl i_PO (by decide) fl_PO_24 (Or.inl rfl) rfl dc_PO_firstFrom_4 rfl ?_
  refine g_ic_ge (tgt := 26) dc_PO_firstFrom_7 rfl (by decide) (fun c1 => ?_) (fun c1 => ?_)
  · refine g_weak [none, none, some (.int x2)] ⟨rfl, trivial⟩ ?_
    exact (k1 c1)
  · refine g_aload_n dc_PO_firstFrom_10 rfl rfl rfl ?_
    refine g_get (C := "LevelBreaks$Points") (T := T_PO) (N := 5) (k := 1) (v := .ref (o0 + 2)) h0.1 (by decide) rfl rfl i_PO (by decide) fl_PO_15 (Or.inl rfl) rfl dc_PO_firstFrom_11 rfl ?_
    refine g_iload_n dc_PO_firstFrom_14 rfl rfl rfl ?_
    refine g_ialdv (v := (I (o0 + 2) x2.toNatClampNeg)) h0.2.2.1 (b2 c1) rfl dc_PO_firstFrom_15 rfl ?_
    refine g_iload_n dc_PO_firstFrom_16 rfl rfl rfl ?_
    refine g_ic_ge (tgt := 26) dc_PO_firstFrom_17 rfl (by decide) (fun c2 => ?_) (fun c2 => ?_)
    · refine g_weak [none, none, some (.int x2)] ⟨rfl, trivial⟩ ?_
      exact (k3 c1 c2)
    · refine g_iinc (v := (x2 + 1)) (L' := [some (.ref o0), some (.int x1), some (.int (x2 + 1))]) dc_PO_firstFrom_20 rfl rfl (by rw [show Int32.ofInt 1 = 1 from by decide]) (Nat.le_of_ble_eq_true rfl) rfl ?_
      refine g_goto (tgt := 2) dc_PO_firstFrom_23 (by decide) ?_
      exact (k4 c1 c2)
theorem w_PO_firstFrom_26 {G : GC} {d : Nat} {P : PT} {I : MI} {J : MJ} {x2 : Int32} (q1 : P (some (.int x2)) I J) : Go G (fr G m_PO_firstFrom d P) 26 [none, none, some (.int x2)] [] I J := by
  refine g_iload_n dc_PO_firstFrom_26 rfl rfl rfl ?_
  exact g_iret rfl dc_PO_firstFrom_27 q1
theorem dc_PO_gather_0 : decode prog_10_method_2_code 0 = .ok (.aload_n 0, 1) := by decide +kernel
theorem dc_PO_gather_1 : decode prog_10_method_2_code 1 = .ok (.iconst 0, 1) := by decide +kernel
theorem dc_PO_gather_2 : decode prog_10_method_2_code 2 = .ok (.putfield 24, 3) := by decide +kernel
theorem dc_PO_gather_5 : decode prog_10_method_2_code 5 = .ok (.iconst 0, 1) := by decide +kernel
theorem dc_PO_gather_6 : decode prog_10_method_2_code 6 = .ok (.istore_n 1, 1) := by decide +kernel
theorem dc_PO_gather_7 : decode prog_10_method_2_code 7 = .ok (.iload_n 1, 1) := by decide +kernel
theorem dc_PO_gather_8 : decode prog_10_method_2_code 8 = .ok (.bipush 40, 2) := by decide +kernel
theorem dc_PO_gather_10 : decode prog_10_method_2_code 10 = .ok (.if_icmp .ge 73, 3) := by decide +kernel
theorem dc_PO_gather_13 : decode prog_10_method_2_code 13 = .ok (.aload_n 0, 1) := by decide +kernel
theorem dc_PO_gather_14 : decode prog_10_method_2_code 14 = .ok (.getfield 9, 3) := by decide +kernel
theorem dc_PO_gather_17 : decode prog_10_method_2_code 17 = .ok (.iload_n 1, 1) := by decide +kernel
theorem dc_PO_gather_18 : decode prog_10_method_2_code 18 = .ok (.iaload, 1) := by decide +kernel
theorem dc_PO_gather_19 : decode prog_10_method_2_code 19 = .ok (.sipush (-9999), 3) := by decide +kernel
theorem dc_PO_gather_22 : decode prog_10_method_2_code 22 = .ok (.if_icmp .eq 55, 3) := by decide +kernel
theorem dc_PO_gather_25 : decode prog_10_method_2_code 25 = .ok (.aload_n 0, 1) := by decide +kernel
theorem dc_PO_gather_26 : decode prog_10_method_2_code 26 = .ok (.getfield 15, 3) := by decide +kernel
theorem dc_PO_gather_29 : decode prog_10_method_2_code 29 = .ok (.aload_n 0, 1) := by decide +kernel
theorem dc_PO_gather_30 : decode prog_10_method_2_code 30 = .ok (.getfield 24, 3) := by decide +kernel
theorem dc_PO_gather_33 : decode prog_10_method_2_code 33 = .ok (.iload_n 1, 1) := by decide +kernel
theorem dc_PO_gather_34 : decode prog_10_method_2_code 34 = .ok (.iastore, 1) := by decide +kernel
theorem dc_PO_gather_35 : decode prog_10_method_2_code 35 = .ok (.aload_n 0, 1) := by decide +kernel
theorem dc_PO_gather_36 : decode prog_10_method_2_code 36 = .ok (.getfield 18, 3) := by decide +kernel
theorem dc_PO_gather_39 : decode prog_10_method_2_code 39 = .ok (.aload_n 0, 1) := by decide +kernel
theorem dc_PO_gather_40 : decode prog_10_method_2_code 40 = .ok (.getfield 24, 3) := by decide +kernel
theorem dc_PO_gather_43 : decode prog_10_method_2_code 43 = .ok (.aload_n 0, 1) := by decide +kernel
theorem dc_PO_gather_44 : decode prog_10_method_2_code 44 = .ok (.getfield 9, 3) := by decide +kernel
theorem dc_PO_gather_47 : decode prog_10_method_2_code 47 = .ok (.iload_n 1, 1) := by decide +kernel
theorem dc_PO_gather_48 : decode prog_10_method_2_code 48 = .ok (.iaload, 1) := by decide +kernel
theorem dc_PO_gather_49 : decode prog_10_method_2_code 49 = .ok (.iastore, 1) := by decide +kernel
theorem dc_PO_gather_50 : decode prog_10_method_2_code 50 = .ok (.aload_n 0, 1) := by decide +kernel
theorem dc_PO_gather_51 : decode prog_10_method_2_code 51 = .ok (.getfield 21, 3) := by decide +kernel
theorem dc_PO_gather_54 : decode prog_10_method_2_code 54 = .ok (.aload_n 0, 1) := by decide +kernel
theorem dc_PO_gather_55 : decode prog_10_method_2_code 55 = .ok (.getfield 24, 3) := by decide +kernel
theorem dc_PO_gather_58 : decode prog_10_method_2_code 58 = .ok (.aload_n 0, 1) := by decide +kernel
theorem dc_PO_gather_59 : decode prog_10_method_2_code 59 = .ok (.aload_n 0, 1) := by decide +kernel
theorem dc_PO_gather_60 : decode prog_10_method_2_code 60 = .ok (.getfield 24, 3) := by decide +kernel
theorem dc_PO_gather_63 : decode prog_10_method_2_code 63 = .ok (.invokevirtual 28, 3) := by decide +kernel
theorem dc_PO_gather_66 : decode prog_10_method_2_code 66 = .ok (.iastore, 1) := by decide +kernel
theorem dc_PO_gather_67 : decode prog_10_method_2_code 67 = .ok (.aload_n 0, 1) := by decide +kernel
theorem dc_PO_gather_68 : decode prog_10_method_2_code 68 = .ok (.dup, 1) := by decide +kernel
theorem dc_PO_gather_69 : decode prog_10_method_2_code 69 = .ok (.getfield 24, 3) := by decide +kernel
theorem dc_PO_gather_72 : decode prog_10_method_2_code 72 = .ok (.iconst 1, 1) := by decide +kernel
theorem dc_PO_gather_73 : decode prog_10_method_2_code 73 = .ok (.iadd, 1) := by decide +kernel
theorem dc_PO_gather_74 : decode prog_10_method_2_code 74 = .ok (.putfield 24, 3) := by decide +kernel
theorem dc_PO_gather_77 : decode prog_10_method_2_code 77 = .ok (.iinc 1 1, 3) := by decide +kernel
theorem dc_PO_gather_80 : decode prog_10_method_2_code 80 = .ok (.goto (-73), 3) := by decide +kernel
theorem dc_PO_gather_83 : decode prog_10_method_2_code 83 = .ok (.return_, 1) := by decide +kernel
theorem w_PO_gather_0 {G : GC} {d : Nat} {P : PT} {I : MI} {J : MJ} {o0 : Nat} (h0 : PtsAt o0) (k1 : Go G (fr G m_PO_gather (d + 1) P) 7 [some (.ref o0), some (.int 0)] [] (u2 I o0 4 0) J) : Go G (fr G m_PO_gather (d + 1) P) 0 [some (.ref o0), none] [] I J := by
  refine g_aload_n dc_PO_gather_0 rfl rfl rfl ?_
  refine g_iconst (v := 0) dc_PO_gather_1 rfl (by decide) ?_
  refine g_putI (C := "LevelBreaks$Points") (T := T_PO) (N := 5) (k := 4) (ty := t_PO) h0.1 (by decide) rfl rfl i_PO p_PO n_PO (by decide) fl_PO_24 (Or.inl rfl) rfl (by decide) dc_PO_gather_2 rfl ?_
  refine g_iconst (v := 0) dc_PO_gather_5 rfl (by decide) ?_
  refine g_istore_n (L' := [some (.ref o0), some (.int 0)]) dc_PO_gather_6 rfl rfl (Nat.le_of_ble_eq_true rfl) rfl ?_
  exact k1
theorem w_PO_gather_7 {G : GC} {d : Nat} {P : PT} {I : MI} {J : MJ} {o0 : Nat} (h0 : PtsAt o0) {x1 : Int32} (q1 : (40 ≤ x1) → P none I J) (b2 : (¬ (40 ≤ x1)) → vp_in x1 40) (k3 : (¬ (40 ≤ x1)) → ((I (o0 + 1) x1.toNatClampNeg) = (-9999)) → Go G (fr G m_PO_gather (d + 1) P) 77 [some (.ref o0), some (.int x1)] [] I J) (b4 : (¬ (40 ≤ x1)) → (¬ ((I (o0 + 1) x1.toNatClampNeg) = (-9999))) → vp_in (I o0 4) 40) (k5 : (¬ (40 ≤ x1)) → (¬ ((I (o0 + 1) x1.toNatClampNeg) = (-9999))) → Ct G d m_PO_findLike [.ref o0, .int (I o0 4)] (fun r I' J' => Go G (fr G m_PO_gather (d + 1) P) 66 [some (.ref o0), some (.int x1)] (r.toList ++ [.int (I o0 4), .ref (o0 + 4)]) I' J') (u2 (u2 I (o0 + 2) (I o0 4).toNatClampNeg x1) (o0 + 3) (I o0 4).toNatClampNeg (I (o0 + 1) x1.toNatClampNeg)) J) : Go G (fr G m_PO_gather (d + 1) P) 7 [some (.ref o0), some (.int x1)] [] I J := by
  refine g_iload_n dc_PO_gather_7 rfl rfl rfl ?_
  refine g_bipush (v := 40) dc_PO_gather_8 rfl (by decide) ?_
  refine g_ic_ge (tgt := 83) dc_PO_gather_10 rfl (by decide) (fun c1 => ?_) (fun c1 => ?_)
  · exact g_vret rfl dc_PO_gather_83 (q1 c1)
  · refine g_aload_n dc_PO_gather_13 rfl rfl rfl ?_
    refine g_get (C := "LevelBreaks$Points") (T := T_PO) (N := 5) (k := 0) (v := .ref (o0 + 1)) h0.1 (by decide) rfl rfl i_PO (by decide) fl_PO_9 (Or.inl rfl) rfl dc_PO_gather_14 rfl ?_
    refine g_iload_n dc_PO_gather_17 rfl rfl rfl ?_
    refine g_ialdv (v := (I (o0 + 1) x1.toNatClampNeg)) h0.2.1 (b2 c1) rfl dc_PO_gather_18 rfl ?_
    refine g_sipush (v := (-9999)) dc_PO_gather_19 rfl (by decide) ?_
    refine g_ic_eq (tgt := 77) dc_PO_gather_22 rfl (by decide) (fun c2 => ?_) (fun c2 => ?_)
    · exact (k3 c1 c2)
    · refine g_aload_n dc_PO_gather_25 rfl rfl rfl ?_
      refine g_get (C := "LevelBreaks$Points") (T := T_PO) (N := 5) (k := 1) (v := .ref (o0 + 2)) h0.1 (by decide) rfl rfl i_PO (by decide) fl_PO_15 (Or.inl rfl) rfl dc_PO_gather_26 rfl ?_
      refine g_aload_n dc_PO_gather_29 rfl rfl rfl ?_
      refine g_get (C := "LevelBreaks$Points") (T := T_PO) (N := 5) (k := 4) (v := .int (I o0 4)) h0.1 (by decide) rfl rfl i_PO (by decide) fl_PO_24 (Or.inl rfl) rfl dc_PO_gather_30 rfl ?_
      refine g_iload_n dc_PO_gather_33 rfl rfl rfl ?_
      refine g_iast h0.2.2.1 (b4 c1 c2) dc_PO_gather_34 rfl ?_
      refine g_aload_n dc_PO_gather_35 rfl rfl rfl ?_
      refine g_get (C := "LevelBreaks$Points") (T := T_PO) (N := 5) (k := 2) (v := .ref (o0 + 3)) h0.1 (by decide) rfl rfl i_PO (by decide) fl_PO_18 (Or.inl rfl) rfl dc_PO_gather_36 rfl ?_
      refine g_aload_n dc_PO_gather_39 rfl rfl rfl ?_
      refine g_get (C := "LevelBreaks$Points") (T := T_PO) (N := 5) (k := 4) (v := .int (I o0 4)) h0.1 (by decide) rfl rfl i_PO (by decide) fl_PO_24 (Or.inl rfl) (by simp [fvA, u2]) dc_PO_gather_40 rfl ?_
      refine g_aload_n dc_PO_gather_43 rfl rfl rfl ?_
      refine g_get (C := "LevelBreaks$Points") (T := T_PO) (N := 5) (k := 0) (v := .ref (o0 + 1)) h0.1 (by decide) rfl rfl i_PO (by decide) fl_PO_9 (Or.inl rfl) rfl dc_PO_gather_44 rfl ?_
      refine g_iload_n dc_PO_gather_47 rfl rfl rfl ?_
      refine g_ialdv (v := (I (o0 + 1) x1.toNatClampNeg)) h0.2.1 (b2 c1) (by simp [fvA, u2]) dc_PO_gather_48 rfl ?_
      refine g_iast h0.2.2.2.1 (b4 c1 c2) dc_PO_gather_49 rfl ?_
      refine g_aload_n dc_PO_gather_50 rfl rfl rfl ?_
      refine g_get (C := "LevelBreaks$Points") (T := T_PO) (N := 5) (k := 3) (v := .ref (o0 + 4)) h0.1 (by decide) rfl rfl i_PO (by decide) fl_PO_21 (Or.inl rfl) rfl dc_PO_gather_51 rfl ?_
      refine g_aload_n dc_PO_gather_54 rfl rfl rfl ?_
      refine g_get (C := "LevelBreaks$Points") (T := T_PO) (N := 5) (k := 4) (v := .int (I o0 4)) h0.1 (by decide) rfl rfl i_PO (by decide) fl_PO_24 (Or.inl rfl) (by simp [fvA, u2]) dc_PO_gather_55 rfl ?_
      refine g_aload_n dc_PO_gather_58 rfl rfl rfl ?_
      refine g_aload_n dc_PO_gather_59 rfl rfl rfl ?_
      refine g_get (C := "LevelBreaks$Points") (T := T_PO) (N := 5) (k := 4) (v := .int (I o0 4)) h0.1 (by decide) rfl rfl i_PO (by decide) fl_PO_24 (Or.inl rfl) (by simp [fvA, u2]) dc_PO_gather_60 rfl ?_
      exact g_callV (T := T_PO) (N := 5) (As := [.int (I o0 4)]) (rest := [.int (I o0 4), .ref (o0 + 4)]) ok_PO_findLike in_PO_findLike se_PO_findLike ml_PO_28 h0.1 (by decide) rfl rfl rfl (Nat.le_of_ble_eq_true rfl) dc_PO_gather_63 rfl rOk_fr (k5 c1 c2)
theorem w_PO_gather_66 {G : GC} {d : Nat} {P : PT} {I : MI} {J : MJ} {o0 : Nat} (h0 : PtsAt o0) {x1 : Int32} {r0 : Nat} (g0 : SHP[r0]? = some (20, 40, [])) {y1 : Int32} {y2 : Int32} (b1 : vp_in y1 40) (k2 : Go G (fr G m_PO_gather (d + 1) P) 77 [some (.ref o0), some (.int x1)] [] (u2 (u2 I r0 y1.toNatClampNeg y2) o0 4 (((u2 I r0 y1.toNatClampNeg y2) o0 4) + 1)) J) : Go G (fr G m_PO_gather (d + 1) P) 66 [some (.ref o0), some (.int x1)] [.int y2, .int y1, .ref r0] I J := by
  refine g_iast g0 b1 dc_PO_gather_66 rfl ?_
  refine g_aload_n dc_PO_gather_67 rfl rfl rfl ?_
  refine g_dup dc_PO_gather_68 rfl rfl ?_
  refine g_get (C := "LevelBreaks$Points") (T := T_PO) (N := 5) (k := 4) (v := .int ((u2 I r0 y1.toNatClampNeg y2) o0 4)) h0.1 (by decide) rfl rfl i_PO (by decide) fl_PO_24 (Or.inl rfl) rfl dc_PO_gather_69 rfl ?_
  refine g_iconst (v := 1) dc_PO_gather_72 rfl (by decide) ?_
  refine g_iadd dc_PO_gather_73 rfl ?_
  refine g_putI (C := "LevelBreaks$Points") (T := T_PO) (N := 5) (k := 4) (ty := t_PO) h0.1 (by decide) rfl rfl i_PO p_PO n_PO (by decide) fl_PO_24 (Or.inl rfl) rfl (by decide) dc_PO_gather_74 rfl ?_
  exact k2
theorem w_PO_gather_77 {G : GC} {d : Nat} {P : PT} {I : MI} {J : MJ} {o0 : Nat} (h0 : PtsAt o0) {x1 : Int32} (k1 : Go G (fr G m_PO_gather (d + 1) P) 7 [some (.ref o0), some (.int (x1 + 1))] [] I J) : Go G (fr G m_PO_gather (d + 1) P) 77 [some (.ref o0), some (.int x1)] [] I J := by
  refine g_iinc (v := (x1 + 1)) (L' := [some (.ref o0), some (.int (x1 + 1))]) dc_PO_gather_77 rfl rfl (by rw [show Int32.ofInt 1 = 1 from by decide]) (Nat.le_of_ble_eq_true rfl) rfl ?_
  refine g_goto (tgt := 7) dc_PO_gather_80 (by decide) ?_
  exact k1
theorem dc_SH_findingAt_0 : decode prog_11_method_5_code 0 = .ok (.aload_n 0, 1) := by decide +kernel
theorem dc_SH_findingAt_1 : decode prog_11_method_5_code 1 = .ok (.invokevirtual 28, 3) := by decide +kernel
theorem dc_SH_findingAt_4 : decode prog_11_method_5_code 4 = .ok (.ifCond .eq 5, 3) := by decide +kernel
theorem dc_SH_findingAt_7 : decode prog_11_method_5_code 7 = .ok (.iconst 1, 1) := by decide +kernel
theorem dc_SH_findingAt_8 : decode prog_11_method_5_code 8 = .ok (.ireturn, 1) := by decide +kernel
theorem dc_SH_findingAt_9 : decode prog_11_method_5_code 9 = .ok (.iload_n 1, 1) := by decide +kernel
theorem dc_SH_findingAt_10 : decode prog_11_method_5_code 10 = .ok (.aload_n 0, 1) := by decide +kernel
theorem dc_SH_findingAt_11 : decode prog_11_method_5_code 11 = .ok (.getfield 15, 3) := by decide +kernel
theorem dc_SH_findingAt_14 : decode prog_11_method_5_code 14 = .ok (.if_icmp .eq 5, 3) := by decide +kernel
theorem dc_SH_findingAt_17 : decode prog_11_method_5_code 17 = .ok (.iconst 3, 1) := by decide +kernel
theorem dc_SH_findingAt_18 : decode prog_11_method_5_code 18 = .ok (.ireturn, 1) := by decide +kernel
theorem dc_SH_findingAt_19 : decode prog_11_method_5_code 19 = .ok (.aload_n 0, 1) := by decide +kernel
theorem dc_SH_findingAt_20 : decode prog_11_method_5_code 20 = .ok (.iload_n 2, 1) := by decide +kernel
theorem dc_SH_findingAt_21 : decode prog_11_method_5_code 21 = .ok (.iconst 1, 1) := by decide +kernel
theorem dc_SH_findingAt_22 : decode prog_11_method_5_code 22 = .ok (.invokevirtual 32, 3) := by decide +kernel
theorem dc_SH_findingAt_25 : decode prog_11_method_5_code 25 = .ok (.ifCond .eq 7, 3) := by decide +kernel
theorem dc_SH_findingAt_28 : decode prog_11_method_5_code 28 = .ok (.iconst 0, 1) := by decide +kernel
theorem dc_SH_findingAt_29 : decode prog_11_method_5_code 29 = .ok (.goto 4, 3) := by decide +kernel
theorem dc_SH_findingAt_32 : decode prog_11_method_5_code 32 = .ok (.iconst 2, 1) := by decide +kernel
theorem dc_SH_findingAt_33 : decode prog_11_method_5_code 33 = .ok (.ireturn, 1) := by decide +kernel
theorem w_SH_findingAt_0 {G : GC} {d : Nat} {P : PT} {I : MI} {J : MJ} {o0 : Nat} (h0 : ShtAt o0) {x1 : Int32} {x2 : Int32} (k1 : Ct G d m_SH_isLost [.ref o0] (fun r I' J' => Go G (fr G m_SH_findingAt (d + 1) P) 4 [some (.ref o0), some (.int x1), some (.int x2)] (r.toList ++ []) I' J') I J) : Go G (fr G m_SH_findingAt (d + 1) P) 0 [some (.ref o0), some (.int x1), some (.int x2)] [] I J := by
  refine g_aload_n dc_SH_findingAt_0 rfl rfl rfl ?_
  exact g_callV (T := T_SH) (N := 3) (As := []) (rest := []) ok_SH_isLost in_SH_isLost se_SH_isLost ml_SH_28 h0.1 (by decide) rfl rfl rfl (Nat.le_of_ble_eq_true rfl) dc_SH_findingAt_1 rfl rOk_fr k1
theorem w_SH_findingAt_4 {G : GC} {d : Nat} {P : PT} {I : MI} {J : MJ} {o0 : Nat} (h0 : ShtAt o0) {x1 : Int32} {x2 : Int32} {y0 : Int32} (k1 : (y0 = 0) → (x1 = (I o0 1)) → Ct G d m_SH_has [.ref o0, .int x2, .int 1] (fun r I' J' => Go G (fr G m_SH_findingAt (d + 1) P) 25 [none, none, none] (r.toList ++ []) I' J') I J) (q2 : (y0 = 0) → (¬ (x1 = (I o0 1))) → P (some (.int 3)) I J) (q3 : (¬ (y0 = 0)) → P (some (.int 1)) I J) : Go G (fr G m_SH_findingAt (d + 1) P) 4 [some (.ref o0), some (.int x1), some (.int x2)] [.int y0] I J := by
  refine g_if_eq (tgt := 9) dc_SH_findingAt_4 rfl (by decide) (fun c1 => ?_) (fun c1 => ?_)
  · refine g_iload_n dc_SH_findingAt_9 rfl rfl rfl ?_
    refine g_aload_n dc_SH_findingAt_10 rfl rfl rfl ?_
    refine g_get (C := "LevelBreaks$Sheet") (T := T_SH) (N := 3) (k := 1) (v := .int (I o0 1)) h0.1 (by decide) rfl rfl i_SH (by decide) fl_SH_15 (Or.inl rfl) rfl dc_SH_findingAt_11 rfl ?_
    refine g_ic_eq (tgt := 19) dc_SH_findingAt_14 rfl (by decide) (fun c2 => ?_) (fun c2 => ?_)
    · refine g_aload_n dc_SH_findingAt_19 rfl rfl rfl ?_
      refine g_iload_n dc_SH_findingAt_20 rfl rfl rfl ?_
      refine g_iconst (v := 1) dc_SH_findingAt_21 rfl (by decide) ?_
      refine g_weak [none, none, none] trivial ?_
      exact g_callV (T := T_SH) (N := 3) (As := [.int x2, .int 1]) (rest := []) ok_SH_has in_SH_has se_SH_has ml_SH_32 h0.1 (by decide) rfl rfl rfl (Nat.le_of_ble_eq_true rfl) dc_SH_findingAt_22 rfl rOk_fr (k1 c1 c2)
    · refine g_iconst (v := 3) dc_SH_findingAt_17 rfl (by decide) ?_
      exact g_iret rfl dc_SH_findingAt_18 (q2 c1 c2)
  · refine g_iconst (v := 1) dc_SH_findingAt_7 rfl (by decide) ?_
    exact g_iret rfl dc_SH_findingAt_8 (q3 c1)
theorem w_SH_findingAt_25 {G : GC} {d : Nat} {P : PT} {I : MI} {J : MJ} {y0 : Int32} (q1 : (y0 = 0) → P (some (.int 2)) I J) (q2 : (¬ (y0 = 0)) → P (some (.int 0)) I J) : Go G (fr G m_SH_findingAt (d + 1) P) 25 [none, none, none] [.int y0] I J := by
  refine g_if_eq (tgt := 32) dc_SH_findingAt_25 rfl (by decide) (fun c1 => ?_) (fun c1 => ?_)
  · refine g_iconst (v := 2) dc_SH_findingAt_32 rfl (by decide) ?_
    exact g_iret rfl dc_SH_findingAt_33 (q1 c1)
  · refine g_iconst (v := 0) dc_SH_findingAt_28 rfl (by decide) ?_
    refine g_goto (tgt := 33) dc_SH_findingAt_29 (by decide) ?_
    exact g_iret rfl dc_SH_findingAt_33 (q2 c1)
theorem dc_SH_has_0 : decode prog_11_method_4_code 0 = .ok (.iload_n 1, 1) := by decide +kernel
theorem dc_SH_has_1 : decode prog_11_method_4_code 1 = .ok (.ifCond .lt 29, 3) := by decide +kernel
theorem dc_SH_has_4 : decode prog_11_method_4_code 4 = .ok (.iload_n 2, 1) := by decide +kernel
theorem dc_SH_has_5 : decode prog_11_method_4_code 5 = .ok (.ifCond .lt 25, 3) := by decide +kernel
theorem dc_SH_has_8 : decode prog_11_method_4_code 8 = .ok (.iload_n 2, 1) := by decide +kernel
theorem dc_SH_has_9 : decode prog_11_method_4_code 9 = .ok (.aload_n 0, 1) := by decide +kernel
theorem dc_SH_has_10 : decode prog_11_method_4_code 10 = .ok (.getfield 19, 3) := by decide +kernel
theorem dc_SH_has_13 : decode prog_11_method_4_code 13 = .ok (.if_icmp .gt 17, 3) := by decide +kernel
theorem dc_SH_has_16 : decode prog_11_method_4_code 16 = .ok (.iload_n 1, 1) := by decide +kernel
theorem dc_SH_has_17 : decode prog_11_method_4_code 17 = .ok (.aload_n 0, 1) := by decide +kernel
theorem dc_SH_has_18 : decode prog_11_method_4_code 18 = .ok (.getfield 19, 3) := by decide +kernel
theorem dc_SH_has_21 : decode prog_11_method_4_code 21 = .ok (.iload_n 2, 1) := by decide +kernel
theorem dc_SH_has_22 : decode prog_11_method_4_code 22 = .ok (.isub, 1) := by decide +kernel
theorem dc_SH_has_23 : decode prog_11_method_4_code 23 = .ok (.if_icmp .gt 7, 3) := by decide +kernel
theorem dc_SH_has_26 : decode prog_11_method_4_code 26 = .ok (.iconst 1, 1) := by decide +kernel
theorem dc_SH_has_27 : decode prog_11_method_4_code 27 = .ok (.goto 4, 3) := by decide +kernel
theorem dc_SH_has_30 : decode prog_11_method_4_code 30 = .ok (.iconst 0, 1) := by decide +kernel
theorem dc_SH_has_31 : decode prog_11_method_4_code 31 = .ok (.ireturn, 1) := by decide +kernel
theorem w_SH_has_0 {G : GC} {d : Nat} {P : PT} {I : MI} {J : MJ} {o0 : Nat} (h0 : ShtAt o0) {x1 : Int32} {x2 : Int32} (k1 : (x1 < 0) → Go G (fr G m_SH_has d P) 30 [none, none, none] [] I J) (k2 : (¬ (x1 < 0)) → (x2 < 0) → Go G (fr G m_SH_has d P) 30 [none, none, none] [] I J) (k3 : (¬ (x1 < 0)) → (¬ (x2 < 0)) → ((I o0 2) < x2) → Go G (fr G m_SH_has d P) 30 [none, none, none] [] I J) (k4 : (¬ (x1 < 0)) → (¬ (x2 < 0)) → (¬ ((I o0 2) < x2)) → (((I o0 2) - x2) < x1) → Go G (fr G m_SH_has d P) 30 [none, none, none] [] I J) (q5 : (¬ (x1 < 0)) → (¬ (x2 < 0)) → (¬ ((I o0 2) < x2)) → (¬ (((I o0 2) - x2) < x1)) → P (some (.int 1)) I J) : Go G (fr G m_SH_has d P) 0 [some (.ref o0), some (.int x1), some (.int x2)] [] I J := by
  refine g_iload_n dc_SH_has_0 rfl rfl rfl ?_
  refine g_if_lt (tgt := 30) dc_SH_has_1 rfl (by decide) (fun c1 => ?_) (fun c1 => ?_)
  · refine g_weak [none, none, none] trivial ?_
    exact (k1 c1)
  · refine g_iload_n dc_SH_has_4 rfl rfl rfl ?_
    refine g_if_lt (tgt := 30) dc_SH_has_5 rfl (by decide) (fun c2 => ?_) (fun c2 => ?_)
    · refine g_weak [none, none, none] trivial ?_
      exact (k2 c1 c2)
    · refine g_iload_n dc_SH_has_8 rfl rfl rfl ?_
      refine g_aload_n dc_SH_has_9 rfl rfl rfl ?_
      refine g_get (C := "LevelBreaks$Sheet") (T := T_SH) (N := 3) (k := 2) (v := .int (I o0 2)) h0.1 (by decide) rfl rfl i_SH (by decide) fl_SH_19 (Or.inl rfl) rfl dc_SH_has_10 rfl ?_
      refine g_ic_gt (tgt := 30) dc_SH_has_13 rfl (by decide) (fun c3 => ?_) (fun c3 => ?_)
      · refine g_weak [none, none, none] trivial ?_
        exact (k3 c1 c2 c3)
      · refine g_iload_n dc_SH_has_16 rfl rfl rfl ?_
        refine g_aload_n dc_SH_has_17 rfl rfl rfl ?_
        refine g_get (C := "LevelBreaks$Sheet") (T := T_SH) (N := 3) (k := 2) (v := .int (I o0 2)) h0.1 (by decide) rfl rfl i_SH (by decide) fl_SH_19 (Or.inl rfl) rfl dc_SH_has_18 rfl ?_
        refine g_iload_n dc_SH_has_21 rfl rfl rfl ?_
        refine g_isub dc_SH_has_22 rfl ?_
        refine g_ic_gt (tgt := 30) dc_SH_has_23 rfl (by decide) (fun c4 => ?_) (fun c4 => ?_)
        · refine g_weak [none, none, none] trivial ?_
          exact (k4 c1 c2 c3 c4)
        · refine g_iconst (v := 1) dc_SH_has_26 rfl (by decide) ?_
          refine g_goto (tgt := 31) dc_SH_has_27 (by decide) ?_
          exact g_zret rfl (by decide) dc_SH_has_31 (q5 c1 c2 c3 c4)
theorem w_SH_has_30 {G : GC} {d : Nat} {P : PT} {I : MI} {J : MJ}  (q1 : P (some (.int 0)) I J) : Go G (fr G m_SH_has d P) 30 [none, none, none] [] I J := by
  refine g_iconst (v := 0) dc_SH_has_30 rfl (by decide) ?_
  exact g_zret rfl (by decide) dc_SH_has_31 q1
theorem dc_SH_isLost_0 : decode prog_11_method_2_code 0 = .ok (.aload_n 0, 1) := by decide +kernel
theorem dc_SH_isLost_1 : decode prog_11_method_2_code 1 = .ok (.getfield 19, 3) := by decide +kernel
theorem dc_SH_isLost_4 : decode prog_11_method_2_code 4 = .ok (.iconst (-1), 1) := by decide +kernel
theorem dc_SH_isLost_5 : decode prog_11_method_2_code 5 = .ok (.if_icmp .ne 7, 3) := by decide +kernel
theorem dc_SH_isLost_8 : decode prog_11_method_2_code 8 = .ok (.iconst 1, 1) := by decide +kernel
theorem dc_SH_isLost_9 : decode prog_11_method_2_code 9 = .ok (.goto 4, 3) := by decide +kernel
theorem dc_SH_isLost_12 : decode prog_11_method_2_code 12 = .ok (.iconst 0, 1) := by decide +kernel
theorem dc_SH_isLost_13 : decode prog_11_method_2_code 13 = .ok (.ireturn, 1) := by decide +kernel
theorem w_SH_isLost_0 {G : GC} {d : Nat} {P : PT} {I : MI} {J : MJ} {o0 : Nat} (h0 : ShtAt o0) (q1 : (¬ (I o0 2) = (-1)) → P (some (.int 0)) I J) (q2 : ((I o0 2) = (-1)) → P (some (.int 1)) I J) : Go G (fr G m_SH_isLost d P) 0 [some (.ref o0)] [] I J := by
  refine g_aload_n dc_SH_isLost_0 rfl rfl rfl ?_
  refine g_get (C := "LevelBreaks$Sheet") (T := T_SH) (N := 3) (k := 2) (v := .int (I o0 2)) h0.1 (by decide) rfl rfl i_SH (by decide) fl_SH_19 (Or.inl rfl) rfl dc_SH_isLost_1 rfl ?_
  refine g_iconst (v := (-1)) dc_SH_isLost_4 rfl (by decide) ?_
  refine g_ic_ne (tgt := 12) dc_SH_isLost_5 rfl (by decide) (fun c1 => ?_) (fun c1 => ?_)
  · refine g_iconst (v := 0) dc_SH_isLost_12 rfl (by decide) ?_
    exact g_zret rfl (by decide) dc_SH_isLost_13 (q1 c1)
  · refine g_iconst (v := 1) dc_SH_isLost_8 rfl (by decide) ?_
    refine g_goto (tgt := 13) dc_SH_isLost_9 (by decide) ?_
    exact g_zret rfl (by decide) dc_SH_isLost_13 (q2 c1)
theorem dc_SH_renew_0 : decode prog_11_method_3_code 0 = .ok (.aload_n 0, 1) := by decide +kernel
theorem dc_SH_renew_1 : decode prog_11_method_3_code 1 = .ok (.iload_n 1, 1) := by decide +kernel
theorem dc_SH_renew_2 : decode prog_11_method_3_code 2 = .ok (.putfield 15, 3) := by decide +kernel
theorem dc_SH_renew_5 : decode prog_11_method_3_code 5 = .ok (.aload_n 0, 1) := by decide +kernel
theorem dc_SH_renew_6 : decode prog_11_method_3_code 6 = .ok (.iload_n 2, 1) := by decide +kernel
theorem dc_SH_renew_7 : decode prog_11_method_3_code 7 = .ok (.putfield 19, 3) := by decide +kernel
theorem dc_SH_renew_10 : decode prog_11_method_3_code 10 = .ok (.aload_n 0, 1) := by decide +kernel
theorem dc_SH_renew_11 : decode prog_11_method_3_code 11 = .ok (.getfield 9, 3) := by decide +kernel
theorem dc_SH_renew_14 : decode prog_11_method_3_code 14 = .ok (.iconst 0, 1) := by decide +kernel
theorem dc_SH_renew_15 : decode prog_11_method_3_code 15 = .ok (.invokestatic 22, 3) := by decide +kernel
theorem dc_SH_renew_18 : decode prog_11_method_3_code 18 = .ok (.return_, 1) := by decide +kernel
theorem w_SH_renew_0 {G : GC} {d : Nat} {P : PT} {I : MI} {J : MJ} {o0 : Nat} (h0 : ShtAt o0) {x1 : Int32} {x2 : Int32} (k1 : Ct G d m_JA_fill_AII [.ref (o0 + 1), .int 0] (fun r I' J' => Go G (fr G m_SH_renew (d + 1) P) 18 [none, none, none] (r.toList ++ []) I' J') (u2 (u2 I o0 1 x1) o0 2 x2) J) : Go G (fr G m_SH_renew (d + 1) P) 0 [some (.ref o0), some (.int x1), some (.int x2)] [] I J := by
  refine g_aload_n dc_SH_renew_0 rfl rfl rfl ?_
  refine g_iload_n dc_SH_renew_1 rfl rfl rfl ?_
  refine g_putI (C := "LevelBreaks$Sheet") (T := T_SH) (N := 3) (k := 1) (ty := t_SH) h0.1 (by decide) rfl rfl i_SH p_SH n_SH (by decide) fl_SH_15 (Or.inl rfl) rfl (by decide) dc_SH_renew_2 rfl ?_
  refine g_aload_n dc_SH_renew_5 rfl rfl rfl ?_
  refine g_iload_n dc_SH_renew_6 rfl rfl rfl ?_
  refine g_putI (C := "LevelBreaks$Sheet") (T := T_SH) (N := 3) (k := 2) (ty := t_SH) h0.1 (by decide) rfl rfl i_SH p_SH n_SH (by decide) fl_SH_19 (Or.inl rfl) rfl (by decide) dc_SH_renew_7 rfl ?_
  refine g_aload_n dc_SH_renew_10 rfl rfl rfl ?_
  refine g_get (C := "LevelBreaks$Sheet") (T := T_SH) (N := 3) (k := 0) (v := .ref (o0 + 1)) h0.1 (by decide) rfl rfl i_SH (by decide) fl_SH_9 (Or.inl rfl) rfl dc_SH_renew_11 rfl ?_
  refine g_iconst (v := 0) dc_SH_renew_14 rfl (by decide) ?_
  refine g_weak [none, none, none] trivial ?_
  exact g_callS (As := [.ref (o0 + 1), .int 0]) (rest := []) ok_JA_fill_AII st_JA_fill_AII ml_SH_22 rfl rfl (Nat.le_of_ble_eq_true rfl) dc_SH_renew_15 rfl rOk_fr k1
theorem w_SH_renew_18 {G : GC} {d : Nat} {P : PT} {I : MI} {J : MJ}  (q1 : P none I J) : Go G (fr G m_SH_renew (d + 1) P) 18 [none, none, none] [] I J := by
  exact g_vret rfl dc_SH_renew_18 q1
theorem dc_SH_store_0 : decode prog_11_method_6_code 0 = .ok (.aload_n 0, 1) := by decide +kernel
theorem dc_SH_store_1 : decode prog_11_method_6_code 1 = .ok (.iload_n 1, 1) := by decide +kernel
theorem dc_SH_store_2 : decode prog_11_method_6_code 2 = .ok (.iconst 1, 1) := by decide +kernel
theorem dc_SH_store_3 : decode prog_11_method_6_code 3 = .ok (.invokevirtual 32, 3) := by decide +kernel
theorem dc_SH_store_6 : decode prog_11_method_6_code 6 = .ok (.ifCond .ne 4, 3) := by decide +kernel
theorem dc_SH_store_9 : decode prog_11_method_6_code 9 = .ok (.return_, 1) := by decide +kernel
theorem dc_SH_store_10 : decode prog_11_method_6_code 10 = .ok (.aload_n 0, 1) := by decide +kernel
theorem dc_SH_store_11 : decode prog_11_method_6_code 11 = .ok (.getfield 9, 3) := by decide +kernel
theorem dc_SH_store_14 : decode prog_11_method_6_code 14 = .ok (.iload_n 1, 1) := by decide +kernel
theorem dc_SH_store_15 : decode prog_11_method_6_code 15 = .ok (.aload_n 0, 1) := by decide +kernel
theorem dc_SH_store_16 : decode prog_11_method_6_code 16 = .ok (.getfield 15, 3) := by decide +kernel
theorem dc_SH_store_19 : decode prog_11_method_6_code 19 = .ok (.ifCond .ne 8, 3) := by decide +kernel
theorem dc_SH_store_22 : decode prog_11_method_6_code 22 = .ok (.iload_n 2, 1) := by decide +kernel
theorem dc_SH_store_23 : decode prog_11_method_6_code 23 = .ok (.i2b, 1) := by decide +kernel
theorem dc_SH_store_24 : decode prog_11_method_6_code 24 = .ok (.goto 17, 3) := by decide +kernel
theorem dc_SH_store_27 : decode prog_11_method_6_code 27 = .ok (.aload_n 0, 1) := by decide +kernel
theorem dc_SH_store_28 : decode prog_11_method_6_code 28 = .ok (.getfield 15, 3) := by decide +kernel
theorem dc_SH_store_31 : decode prog_11_method_6_code 31 = .ok (.iconst 1, 1) := by decide +kernel
theorem dc_SH_store_32 : decode prog_11_method_6_code 32 = .ok (.if_icmp .ne 8, 3) := by decide +kernel
theorem dc_SH_store_35 : decode prog_11_method_6_code 35 = .ok (.iload_n 2, 1) := by decide +kernel
theorem dc_SH_store_36 : decode prog_11_method_6_code 36 = .ok (.i2s, 1) := by decide +kernel
theorem dc_SH_store_37 : decode prog_11_method_6_code 37 = .ok (.goto 4, 3) := by decide +kernel
theorem dc_SH_store_40 : decode prog_11_method_6_code 40 = .ok (.iload_n 2, 1) := by decide +kernel
theorem dc_SH_store_41 : decode prog_11_method_6_code 41 = .ok (.iastore, 1) := by decide +kernel
theorem dc_SH_store_42 : decode prog_11_method_6_code 42 = .ok (.return_, 1) := by decide +kernel
theorem w_SH_store_0 {G : GC} {d : Nat} {P : PT} {I : MI} {J : MJ} {o0 : Nat} (h0 : ShtAt o0) {x1 : Int32} {x2 : Int32} (k1 : Ct G d m_SH_has [.ref o0, .int x1, .int 1] (fun r I' J' => Go G (fr G m_SH_store (d + 1) P) 6 [some (.ref o0), some (.int x1), some (.int x2)] (r.toList ++ []) I' J') I J) : Go G (fr G m_SH_store (d + 1) P) 0 [some (.ref o0), some (.int x1), some (.int x2)] [] I J := by
  refine g_aload_n dc_SH_store_0 rfl rfl rfl ?_
  refine g_iload_n dc_SH_store_1 rfl rfl rfl ?_
  refine g_iconst (v := 1) dc_SH_store_2 rfl (by decide) ?_
  exact g_callV (T := T_SH) (N := 3) (As := [.int x1, .int 1]) (rest := []) ok_SH_has in_SH_has se_SH_has ml_SH_32 h0.1 (by decide) rfl rfl rfl (Nat.le_of_ble_eq_true rfl) dc_SH_store_3 rfl rOk_fr k1
theorem w_SH_store_6 {G : GC} {d : Nat} {P : PT} {I : MI} {J : MJ} {o0 : Nat} (h0 : ShtAt o0) {x1 : Int32} {x2 : Int32} {y0 : Int32} (k1 : (¬ y0 = 0) → (¬ (I o0 1) = 0) → (¬ (I o0 1) = 1) → Go G (fr G m_SH_store (d + 1) P) 41 [none, none, none] [.int x2, .int x1, .ref (o0 + 1)] I J) (k2 : (¬ y0 = 0) → (¬ (I o0 1) = 0) → ((I o0 1) = 1) → Go G (fr G m_SH_store (d + 1) P) 41 [none, none, none] [.int (Int16.toInt32 (Int32.toInt16 x2)), .int x1, .ref (o0 + 1)] I J) (k3 : (¬ y0 = 0) → ((I o0 1) = 0) → Go G (fr G m_SH_store (d + 1) P) 41 [none, none, none] [.int (Int8.toInt32 (Int32.toInt8 x2)), .int x1, .ref (o0 + 1)] I J) (q4 : (y0 = 0) → P none I J) : Go G (fr G m_SH_store (d + 1) P) 6 [some (.ref o0), some (.int x1), some (.int x2)] [.int y0] I J := by
  refine g_if_ne (tgt := 10) dc_SH_store_6 rfl (by decide) (fun c1 => ?_) (fun c1 => ?_)
  · refine g_aload_n dc_SH_store_10 rfl rfl rfl ?_
    refine g_get (C := "LevelBreaks$Sheet") (T := T_SH) (N := 3) (k := 0) (v := .ref (o0 + 1)) h0.1 (by decide) rfl rfl i_SH (by decide) fl_SH_9 (Or.inl rfl) rfl dc_SH_store_11 rfl ?_
    refine g_iload_n dc_SH_store_14 rfl rfl rfl ?_
    refine g_aload_n dc_SH_store_15 rfl rfl rfl ?_
    refine g_get (C := "LevelBreaks$Sheet") (T := T_SH) (N := 3) (k := 1) (v := .int (I o0 1)) h0.1 (by decide) rfl rfl i_SH (by decide) fl_SH_15 (Or.inl rfl) rfl dc_SH_store_16 rfl ?_
    refine g_if_ne (tgt := 27) dc_SH_store_19 rfl (by decide) (fun c2 => ?_) (fun c2 => ?_)
    · refine g_aload_n dc_SH_store_27 rfl rfl rfl ?_
      refine g_get (C := "LevelBreaks$Sheet") (T := T_SH) (N := 3) (k := 1) (v := .int (I o0 1)) h0.1 (by decide) rfl rfl i_SH (by decide) fl_SH_15 (Or.inl rfl) rfl dc_SH_store_28 rfl ?_
      refine g_iconst (v := 1) dc_SH_store_31 rfl (by decide) ?_
      refine g_ic_ne (tgt := 40) dc_SH_store_32 rfl (by decide) (fun c3 => ?_) (fun c3 => ?_)
      · refine g_iload_n dc_SH_store_40 rfl rfl rfl ?_
        refine g_weak [none, none, none] trivial ?_
        exact (k1 c1 c2 c3)
      · refine g_iload_n dc_SH_store_35 rfl rfl rfl ?_
        refine g_i2s dc_SH_store_36 rfl ?_
        refine g_goto (tgt := 41) dc_SH_store_37 (by decide) ?_
        refine g_weak [none, none, none] trivial ?_
        exact (k2 c1 c2 c3)
    · refine g_iload_n dc_SH_store_22 rfl rfl rfl ?_
      refine g_i2b dc_SH_store_23 rfl ?_
      refine g_goto (tgt := 41) dc_SH_store_24 (by decide) ?_
      refine g_weak [none, none, none] trivial ?_
      exact (k3 c1 c2)
  · exact g_vret rfl dc_SH_store_9 (q4 c1)
theorem w_SH_store_41 {G : GC} {d : Nat} {P : PT} {I : MI} {J : MJ} {r0 : Nat} (g0 : SHP[r0]? = some (20, 60, [])) {y1 : Int32} {y2 : Int32} (b1 : vp_in y1 60) (q2 : P none (u2 I r0 y1.toNatClampNeg y2) J) : Go G (fr G m_SH_store (d + 1) P) 41 [none, none, none] [.int y2, .int y1, .ref r0] I J := by
  refine g_iast g0 b1 dc_SH_store_41 rfl ?_
  exact g_vret rfl dc_SH_store_42 q2
theorem dc_AL_bestLimit_0 : decode prog_2_method_6_code 0 = .ok (.iconst 0, 1) := by decide +kernel
theorem dc_AL_bestLimit_1 : decode prog_2_method_6_code 1 = .ok (.istore 5, 2) := by decide +kernel
theorem dc_AL_bestLimit_3 : decode prog_2_method_6_code 3 = .ok (.iconst 0, 1) := by decide +kernel
theorem dc_AL_bestLimit_4 : decode prog_2_method_6_code 4 = .ok (.istore 6, 2) := by decide +kernel
theorem dc_AL_bestLimit_6 : decode prog_2_method_6_code 6 = .ok (.iconst 0, 1) := by decide +kernel
theorem dc_AL_bestLimit_7 : decode prog_2_method_6_code 7 = .ok (.istore 7, 2) := by decide +kernel
theorem dc_AL_bestLimit_9 : decode prog_2_method_6_code 9 = .ok (.iconst 0, 1) := by decide +kernel
theorem dc_AL_bestLimit_10 : decode prog_2_method_6_code 10 = .ok (.istore 8, 2) := by decide +kernel
theorem dc_AL_bestLimit_12 : decode prog_2_method_6_code 12 = .ok (.iload 8, 2) := by decide +kernel
theorem dc_AL_bestLimit_14 : decode prog_2_method_6_code 14 = .ok (.aload_n 0, 1) := by decide +kernel
theorem dc_AL_bestLimit_15 : decode prog_2_method_6_code 15 = .ok (.getfield 21, 3) := by decide +kernel
theorem dc_AL_bestLimit_18 : decode prog_2_method_6_code 18 = .ok (.if_icmp .ge 59, 3) := by decide +kernel
theorem dc_AL_bestLimit_21 : decode prog_2_method_6_code 21 = .ok (.iload 5, 2) := by decide +kernel
theorem dc_AL_bestLimit_23 : decode prog_2_method_6_code 23 = .ok (.aload_n 0, 1) := by decide +kernel
theorem dc_AL_bestLimit_24 : decode prog_2_method_6_code 24 = .ok (.getfield 27, 3) := by decide +kernel
theorem dc_AL_bestLimit_27 : decode prog_2_method_6_code 27 = .ok (.iload 8, 2) := by decide +kernel
theorem dc_AL_bestLimit_29 : decode prog_2_method_6_code 29 = .ok (.iaload, 1) := by decide +kernel
theorem dc_AL_bestLimit_30 : decode prog_2_method_6_code 30 = .ok (.iload_n 1, 1) := by decide +kernel
theorem dc_AL_bestLimit_31 : decode prog_2_method_6_code 31 = .ok (.iload_n 2, 1) := by decide +kernel
theorem dc_AL_bestLimit_32 : decode prog_2_method_6_code 32 = .ok (.iload_n 3, 1) := by decide +kernel
theorem dc_AL_bestLimit_33 : decode prog_2_method_6_code 33 = .ok (.invokestatic 30, 3) := by decide +kernel
theorem dc_AL_bestLimit_36 : decode prog_2_method_6_code 36 = .ok (.istore 5, 2) := by decide +kernel
theorem dc_AL_bestLimit_38 : decode prog_2_method_6_code 38 = .ok (.aload_n 0, 1) := by decide +kernel
theorem dc_AL_bestLimit_39 : decode prog_2_method_6_code 39 = .ok (.getfield 34, 3) := by decide +kernel
theorem dc_AL_bestLimit_42 : decode prog_2_method_6_code 42 = .ok (.iload 8, 2) := by decide +kernel
theorem dc_AL_bestLimit_44 : decode prog_2_method_6_code 44 = .ok (.iaload, 1) := by decide +kernel
theorem dc_AL_bestLimit_45 : decode prog_2_method_6_code 45 = .ok (.iload 4, 2) := by decide +kernel
theorem dc_AL_bestLimit_47 : decode prog_2_method_6_code 47 = .ok (.if_icmp .ge 15, 3) := by decide +kernel
theorem dc_AL_bestLimit_50 : decode prog_2_method_6_code 50 = .ok (.iload 6, 2) := by decide +kernel
theorem dc_AL_bestLimit_52 : decode prog_2_method_6_code 52 = .ok (.iload 5, 2) := by decide +kernel
theorem dc_AL_bestLimit_54 : decode prog_2_method_6_code 54 = .ok (.invokestatic 37, 3) := by decide +kernel
theorem dc_AL_bestLimit_57 : decode prog_2_method_6_code 57 = .ok (.istore 6, 2) := by decide +kernel
theorem dc_AL_bestLimit_59 : decode prog_2_method_6_code 59 = .ok (.goto 12, 3) := by decide +kernel
theorem dc_AL_bestLimit_62 : decode prog_2_method_6_code 62 = .ok (.iload 7, 2) := by decide +kernel
theorem dc_AL_bestLimit_64 : decode prog_2_method_6_code 64 = .ok (.iload 5, 2) := by decide +kernel
theorem dc_AL_bestLimit_66 : decode prog_2_method_6_code 66 = .ok (.invokestatic 37, 3) := by decide +kernel
theorem dc_AL_bestLimit_69 : decode prog_2_method_6_code 69 = .ok (.istore 7, 2) := by decide +kernel
theorem dc_AL_bestLimit_71 : decode prog_2_method_6_code 71 = .ok (.iinc 8 1, 3) := by decide +kernel
theorem dc_AL_bestLimit_74 : decode prog_2_method_6_code 74 = .ok (.goto (-62), 3) := by decide +kernel
theorem dc_AL_bestLimit_77 : decode prog_2_method_6_code 77 = .ok (.iload 6, 2) := by decide +kernel
theorem dc_AL_bestLimit_79 : decode prog_2_method_6_code 79 = .ok (.iconst 1, 1) := by decide +kernel
theorem dc_AL_bestLimit_80 : decode prog_2_method_6_code 80 = .ok (.iadd, 1) := by decide +kernel
theorem dc_AL_bestLimit_81 : decode prog_2_method_6_code 81 = .ok (.istore 8, 2) := by decide +kernel
theorem dc_AL_bestLimit_83 : decode prog_2_method_6_code 83 = .ok (.iload 8, 2) := by decide +kernel
theorem dc_AL_bestLimit_85 : decode prog_2_method_6_code 85 = .ok (.iload 7, 2) := by decide +kernel
theorem dc_AL_bestLimit_87 : decode prog_2_method_6_code 87 = .ok (.if_icmp .gt 16, 3) := by decide +kernel
theorem dc_AL_bestLimit_90 : decode prog_2_method_6_code 90 = .ok (.iload 8, 2) := by decide +kernel
theorem dc_AL_bestLimit_92 : decode prog_2_method_6_code 92 = .ok (.sipush 2000, 3) := by decide +kernel
theorem dc_AL_bestLimit_95 : decode prog_2_method_6_code 95 = .ok (.if_icmp .gt 8, 3) := by decide +kernel
theorem dc_AL_bestLimit_98 : decode prog_2_method_6_code 98 = .ok (.iload 8, 2) := by decide +kernel
theorem dc_AL_bestLimit_100 : decode prog_2_method_6_code 100 = .ok (.goto 4, 3) := by decide +kernel
theorem dc_AL_bestLimit_103 : decode prog_2_method_6_code 103 = .ok (.iconst (-1), 1) := by decide +kernel
theorem dc_AL_bestLimit_104 : decode prog_2_method_6_code 104 = .ok (.ireturn, 1) := by decide +kernel
theorem w_AL_bestLimit_0 {G : GC} {d : Nat} {P : PT} {I : MI} {J : MJ} {o0 : Nat} (h0 : PtsAt o0) {x1 : Int32} {x2 : Int32} {x3 : Int32} {x4 : Int32} (k1 : Go G (fr G m_AL_bestLimit (d + 2) P) 12 [some (.ref o0), some (.int x1), some (.int x2), some (.int x3), some (.int x4), some (.int 0), some (.int 0), some (.int 0), some (.int 0)] [] I J) : Go G (fr G m_AL_bestLimit (d + 2) P) 0 [some (.ref o0), some (.int x1), some (.int x2), some (.int x3), some (.int x4), none, none, none, none] [] I J := by
  refine g_iconst (v := 0) dc_AL_bestLimit_0 rfl (by decide) ?_
  refine g_istore (L' := [some (.ref o0), some (.int x1), some (.int x2), some (.int x3), some (.int x4), some (.int 0), none, none, none]) dc_AL_bestLimit_1 rfl (Nat.le_of_ble_eq_true rfl) rfl ?_
  refine g_iconst (v := 0) dc_AL_bestLimit_3 rfl (by decide) ?_
  refine g_istore (L' := [some (.ref o0), some (.int x1), some (.int x2), some (.int x3), some (.int x4), some (.int 0), some (.int 0), none, none]) dc_AL_bestLimit_4 rfl (Nat.le_of_ble_eq_true rfl) rfl ?_
  refine g_iconst (v := 0) dc_AL_bestLimit_6 rfl (by decide) ?_
  refine g_istore (L' := [some (.ref o0), some (.int x1), some (.int x2), some (.int x3), some (.int x4), some (.int 0), some (.int 0), some (.int 0), none]) dc_AL_bestLimit_7 rfl (Nat.le_of_ble_eq_true rfl) rfl ?_
  refine g_iconst (v := 0) dc_AL_bestLimit_9 rfl (by decide) ?_
  refine g_istore (L' := [some (.ref o0), some (.int x1), some (.int x2), some (.int x3), some (.int x4), some (.int 0), some (.int 0), some (.int 0), some (.int 0)]) dc_AL_bestLimit_10 rfl (Nat.le_of_ble_eq_true rfl) rfl ?_
  exact k1
theorem w_AL_bestLimit_12 {G : GC} {d : Nat} {P : PT} {I : MI} {J : MJ} {o0 : Nat} (h0 : PtsAt o0) {x1 : Int32} {x2 : Int32} {x3 : Int32} {x4 : Int32} {x5 : Int32} {x6 : Int32} {x7 : Int32} {x8 : Int32} (k1 : ((I o0 4) ≤ x8) → (x7 < (x6 + 1)) → Go G (fr G m_AL_bestLimit (d + 2) P) 103 [none, none, none, none, none, none, none, none, none] [] I J) (k2 : ((I o0 4) ≤ x8) → (¬ (x7 < (x6 + 1))) → (2000 < (x6 + 1)) → Go G (fr G m_AL_bestLimit (d + 2) P) 103 [none, none, none, none, none, none, none, none, none] [] I J) (q3 : ((I o0 4) ≤ x8) → (¬ (x7 < (x6 + 1))) → (¬ (2000 < (x6 + 1))) → P (some (.int (x6 + 1))) I J) (b4 : (¬ ((I o0 4) ≤ x8)) → vp_in x8 40) (k5 : (¬ ((I o0 4) ≤ x8)) → (x4 ≤ (I (o0 + 2) x8.toNatClampNeg)) → Go G (fr G m_AL_bestLimit (d + 2) P) 71 [some (.ref o0), some (.int x1), some (.int x2), some (.int x3), some (.int x4), some (.int (f_AL_sumWith x5 (I (o0 + 3) x8.toNatClampNeg) x1 x2 x3)), some (.int x6), some (.int (f_JM_max_II x7 (f_AL_sumWith x5 (I (o0 + 3) x8.toNatClampNeg) x1 x2 x3))), some (.int x8)] [] I J) (k6 : (¬ ((I o0 4) ≤ x8)) → (¬ (x4 ≤ (I (o0 + 2) x8.toNatClampNeg))) → Go G (fr G m_AL_bestLimit (d + 2) P) 71 [some (.ref o0), some (.int x1), some (.int x2), some (.int x3), some (.int x4), some (.int (f_AL_sumWith x5 (I (o0 + 3) x8.toNatClampNeg) x1 x2 x3)), some (.int (f_JM_max_II x6 (f_AL_sumWith x5 (I (o0 + 3) x8.toNatClampNeg) x1 x2 x3))), some (.int x7), some (.int x8)] [] I J) : Go G (fr G m_AL_bestLimit (d + 2) P) 12 [some (.ref o0), some (.int x1), some (.int x2), some (.int x3), some (.int x4), some (.int x5), some (.int x6), some (.int x7), some (.int x8)] [] I J := by
  refine g_iload dc_AL_bestLimit_12 rfl rfl ?_
  refine g_aload_n dc_AL_bestLimit_14 rfl rfl rfl ?_
  refine g_get (C := "LevelBreaks$Points") (T := T_PO) (N := 5) (k := 4) (v := .int (I o0 4)) h0.1 (by decide) rfl rfl i_PO (by decide) fl_AL_21 (Or.inl rfl) rfl dc_AL_bestLimit_15 rfl ?_
  refine g_ic_ge (tgt := 77) dc_AL_bestLimit_18 rfl (by decide) (fun c1 => ?_) (fun c1 => ?_)
  · refine g_iload dc_AL_bestLimit_77 rfl rfl ?_
    refine g_iconst (v := 1) dc_AL_bestLimit_79 rfl (by decide) ?_
    refine g_iadd dc_AL_bestLimit_80 rfl ?_
    refine g_istore (L' := [some (.ref o0), some (.int x1), some (.int x2), some (.int x3), some (.int x4), some (.int x5), some (.int x6), some (.int x7), some (.int (x6 + 1))]) dc_AL_bestLimit_81 rfl (Nat.le_of_ble_eq_true rfl) rfl ?_
    refine g_iload dc_AL_bestLimit_83 rfl rfl ?_
    refine g_iload dc_AL_bestLimit_85 rfl rfl ?_
    refine g_ic_gt (tgt := 103) dc_AL_bestLimit_87 rfl (by decide) (fun c2 => ?_) (fun c2 => ?_)
    · refine g_weak [none, none, none, none, none, none, none, none, none] trivial ?_
      exact (k1 c1 c2)
    · refine g_iload dc_AL_bestLimit_90 rfl rfl ?_
      refine g_sipush (v := 2000) dc_AL_bestLimit_92 rfl (by decide) ?_
      refine g_ic_gt (tgt := 103) dc_AL_bestLimit_95 rfl (by decide) (fun c3 => ?_) (fun c3 => ?_)
      · refine g_weak [none, none, none, none, none, none, none, none, none] trivial ?_
        exact (k2 c1 c2 c3)
      · refine g_iload dc_AL_bestLimit_98 rfl rfl ?_
        refine g_goto (tgt := 104) dc_AL_bestLimit_100 (by decide) ?_
        exact g_iret rfl dc_AL_bestLimit_104 (q3 c1 c2 c3)
  · refine g_iload dc_AL_bestLimit_21 rfl rfl ?_
    refine g_aload_n dc_AL_bestLimit_23 rfl rfl rfl ?_
    refine g_get (C := "LevelBreaks$Points") (T := T_PO) (N := 5) (k := 2) (v := .ref (o0 + 3)) h0.1 (by decide) rfl rfl i_PO (by decide) fl_AL_27 (Or.inl rfl) rfl dc_AL_bestLimit_24 rfl ?_
    refine g_iload dc_AL_bestLimit_27 rfl rfl ?_
    refine g_ialdv (v := (I (o0 + 3) x8.toNatClampNeg)) h0.2.2.2.1 (b4 c1) rfl dc_AL_bestLimit_29 rfl ?_
    refine g_iload_n dc_AL_bestLimit_30 rfl rfl rfl ?_
    refine g_iload_n dc_AL_bestLimit_31 rfl rfl rfl ?_
    refine g_iload_n dc_AL_bestLimit_32 rfl rfl rfl ?_
    refine g_callS (M := m_AL_sumWith) (As := [.int x5, .int (I (o0 + 3) x8.toNatClampNeg), .int x1, .int x2, .int x3]) (rest := []) ok_AL_sumWith st_AL_sumWith ml_AL_30 rfl rfl (Nat.le_of_ble_eq_true rfl) dc_AL_bestLimit_33 rfl rOk_fr (c_AL_sumWith ?_)
    show Go G (fr G m_AL_bestLimit (d + 2) P) 36 [some (.ref o0), some (.int x1), some (.int x2), some (.int x3), some (.int x4), some (.int x5), some (.int x6), some (.int x7), some (.int x8)] [.int (f_AL_sumWith x5 (I (o0 + 3) x8.toNatClampNeg) x1 x2 x3)] I J
    refine g_istore (L' := [some (.ref o0), some (.int x1), some (.int x2), some (.int x3), some (.int x4), some (.int (f_AL_sumWith x5 (I (o0 + 3) x8.toNatClampNeg) x1 x2 x3)), some (.int x6), some (.int x7), some (.int x8)]) dc_AL_bestLimit_36 rfl (Nat.le_of_ble_eq_true rfl) rfl ?_
    refine g_aload_n dc_AL_bestLimit_38 rfl rfl rfl ?_
    refine g_get (C := "LevelBreaks$Points") (T := T_PO) (N := 5) (k := 1) (v := .ref (o0 + 2)) h0.1 (by decide) rfl rfl i_PO (by decide) fl_AL_34 (Or.inl rfl) rfl dc_AL_bestLimit_39 rfl ?_
    refine g_iload dc_AL_bestLimit_42 rfl rfl ?_
    refine g_ialdv (v := (I (o0 + 2) x8.toNatClampNeg)) h0.2.2.1 (b4 c1) rfl dc_AL_bestLimit_44 rfl ?_
    refine g_iload dc_AL_bestLimit_45 rfl rfl ?_
    refine g_ic_ge (tgt := 62) dc_AL_bestLimit_47 rfl (by decide) (fun c4 => ?_) (fun c4 => ?_)
    · refine g_iload dc_AL_bestLimit_62 rfl rfl ?_
      refine g_iload dc_AL_bestLimit_64 rfl rfl ?_
      refine g_callS (M := m_JM_max_II) (As := [.int x7, .int (f_AL_sumWith x5 (I (o0 + 3) x8.toNatClampNeg) x1 x2 x3)]) (rest := []) ok_JM_max_II st_JM_max_II ml_AL_37 rfl rfl (Nat.le_of_ble_eq_true rfl) dc_AL_bestLimit_66 rfl rOk_fr (c_JM_max_II ?_)
      show Go G (fr G m_AL_bestLimit (d + 2) P) 69 [some (.ref o0), some (.int x1), some (.int x2), some (.int x3), some (.int x4), some (.int (f_AL_sumWith x5 (I (o0 + 3) x8.toNatClampNeg) x1 x2 x3)), some (.int x6), some (.int x7), some (.int x8)] [.int (f_JM_max_II x7 (f_AL_sumWith x5 (I (o0 + 3) x8.toNatClampNeg) x1 x2 x3))] I J
      refine g_istore (L' := [some (.ref o0), some (.int x1), some (.int x2), some (.int x3), some (.int x4), some (.int (f_AL_sumWith x5 (I (o0 + 3) x8.toNatClampNeg) x1 x2 x3)), some (.int x6), some (.int (f_JM_max_II x7 (f_AL_sumWith x5 (I (o0 + 3) x8.toNatClampNeg) x1 x2 x3))), some (.int x8)]) dc_AL_bestLimit_69 rfl (Nat.le_of_ble_eq_true rfl) rfl ?_
      exact (k5 c1 c4)
    · refine g_iload dc_AL_bestLimit_50 rfl rfl ?_
      refine g_iload dc_AL_bestLimit_52 rfl rfl ?_
      refine g_callS (M := m_JM_max_II) (As := [.int x6, .int (f_AL_sumWith x5 (I (o0 + 3) x8.toNatClampNeg) x1 x2 x3)]) (rest := []) ok_JM_max_II st_JM_max_II ml_AL_37 rfl rfl (Nat.le_of_ble_eq_true rfl) dc_AL_bestLimit_54 rfl rOk_fr (c_JM_max_II ?_)
      show Go G (fr G m_AL_bestLimit (d + 2) P) 57 [some (.ref o0), some (.int x1), some (.int x2), some (.int x3), some (.int x4), some (.int (f_AL_sumWith x5 (I (o0 + 3) x8.toNatClampNeg) x1 x2 x3)), some (.int x6), some (.int x7), some (.int x8)] [.int (f_JM_max_II x6 (f_AL_sumWith x5 (I (o0 + 3) x8.toNatClampNeg) x1 x2 x3))] I J
      refine g_istore (L' := [some (.ref o0), some (.int x1), some (.int x2), some (.int x3), some (.int x4), some (.int (f_AL_sumWith x5 (I (o0 + 3) x8.toNatClampNeg) x1 x2 x3)), some (.int (f_JM_max_II x6 (f_AL_sumWith x5 (I (o0 + 3) x8.toNatClampNeg) x1 x2 x3))), some (.int x7), some (.int x8)]) dc_AL_bestLimit_57 rfl (Nat.le_of_ble_eq_true rfl) rfl ?_
      refine g_goto (tgt := 71) dc_AL_bestLimit_59 (by decide) ?_
      exact (k6 c1 c4)
theorem w_AL_bestLimit_71 {G : GC} {d : Nat} {P : PT} {I : MI} {J : MJ} {o0 : Nat} (h0 : PtsAt o0) {x1 : Int32} {x2 : Int32} {x3 : Int32} {x4 : Int32} {x5 : Int32} {x6 : Int32} {x7 : Int32} {x8 : Int32} (k1 : Go G (fr G m_AL_bestLimit (d + 2) P) 12 [some (.ref o0), some (.int x1), some (.int x2), some (.int x3), some (.int x4), some (.int x5), some (.int x6), some (.int x7), some (.int (x8 + 1))] [] I J) : Go G (fr G m_AL_bestLimit (d + 2) P) 71 [some (.ref o0), some (.int x1), some (.int x2), some (.int x3), some (.int x4), some (.int x5), some (.int x6), some (.int x7), some (.int x8)] [] I J := by
  refine g_iinc (v := (x8 + 1)) (L' := [some (.ref o0), some (.int x1), some (.int x2), some (.int x3), some (.int x4), some (.int x5), some (.int x6), some (.int x7), some (.int (x8 + 1))]) dc_AL_bestLimit_71 rfl rfl (by rw [show Int32.ofInt 1 = 1 from by decide]) (Nat.le_of_ble_eq_true rfl) rfl ?_
  refine g_goto (tgt := 12) dc_AL_bestLimit_74 (by decide) ?_
  exact k1
theorem w_AL_bestLimit_103 {G : GC} {d : Nat} {P : PT} {I : MI} {J : MJ}  (q1 : P (some (.int (-1))) I J) : Go G (fr G m_AL_bestLimit (d + 2) P) 103 [none, none, none, none, none, none, none, none, none] [] I J := by
  refine g_iconst (v := (-1)) dc_AL_bestLimit_103 rfl (by decide) ?_
  exact g_iret rfl dc_AL_bestLimit_104 q1
theorem dc_AL_countBefore_0 : decode prog_2_method_4_code 0 = .ok (.iconst 0, 1) := by decide +kernel
theorem dc_AL_countBefore_1 : decode prog_2_method_4_code 1 = .ok (.istore_n 2, 1) := by decide +kernel
theorem dc_AL_countBefore_2 : decode prog_2_method_4_code 2 = .ok (.iconst 0, 1) := by decide +kernel
theorem dc_AL_countBefore_3 : decode prog_2_method_4_code 3 = .ok (.istore_n 3, 1) := by decide +kernel
theorem dc_AL_countBefore_4 : decode prog_2_method_4_code 4 = .ok (.iload_n 3, 1) := by decide +kernel
theorem dc_AL_countBefore_5 : decode prog_2_method_4_code 5 = .ok (.iload_n 1, 1) := by decide +kernel
theorem dc_AL_countBefore_6 : decode prog_2_method_4_code 6 = .ok (.if_icmp .ge 24, 3) := by decide +kernel
theorem dc_AL_countBefore_9 : decode prog_2_method_4_code 9 = .ok (.iload_n 3, 1) := by decide +kernel
theorem dc_AL_countBefore_10 : decode prog_2_method_4_code 10 = .ok (.bipush 40, 2) := by decide +kernel
theorem dc_AL_countBefore_12 : decode prog_2_method_4_code 12 = .ok (.if_icmp .ge 18, 3) := by decide +kernel
theorem dc_AL_countBefore_15 : decode prog_2_method_4_code 15 = .ok (.iload_n 2, 1) := by decide +kernel
theorem dc_AL_countBefore_16 : decode prog_2_method_4_code 16 = .ok (.aload_n 0, 1) := by decide +kernel
theorem dc_AL_countBefore_17 : decode prog_2_method_4_code 17 = .ok (.getfield 9, 3) := by decide +kernel
theorem dc_AL_countBefore_20 : decode prog_2_method_4_code 20 = .ok (.iload_n 3, 1) := by decide +kernel
theorem dc_AL_countBefore_21 : decode prog_2_method_4_code 21 = .ok (.iaload, 1) := by decide +kernel
theorem dc_AL_countBefore_22 : decode prog_2_method_4_code 22 = .ok (.iadd, 1) := by decide +kernel
theorem dc_AL_countBefore_23 : decode prog_2_method_4_code 23 = .ok (.istore_n 2, 1) := by decide +kernel
theorem dc_AL_countBefore_24 : decode prog_2_method_4_code 24 = .ok (.iinc 3 1, 3) := by decide +kernel
theorem dc_AL_countBefore_27 : decode prog_2_method_4_code 27 = .ok (.goto (-23), 3) := by decide +kernel
theorem dc_AL_countBefore_30 : decode prog_2_method_4_code 30 = .ok (.iload_n 2, 1) := by decide +kernel
theorem dc_AL_countBefore_31 : decode prog_2_method_4_code 31 = .ok (.ireturn, 1) := by decide +kernel
theorem w_AL_countBefore_0 {G : GC} {d : Nat} {P : PT} {I : MI} {J : MJ} {x1 : Int32} (k1 : Go G (fr G m_AL_countBefore d P) 4 [some (.ref 51), some (.int x1), some (.int 0), some (.int 0)] [] I J) : Go G (fr G m_AL_countBefore d P) 0 [some (.ref 51), some (.int x1), none, none] [] I J := by
  refine g_iconst (v := 0) dc_AL_countBefore_0 rfl (by decide) ?_
  refine g_istore_n (L' := [some (.ref 51), some (.int x1), some (.int 0), none]) dc_AL_countBefore_1 rfl rfl (Nat.le_of_ble_eq_true rfl) rfl ?_
  refine g_iconst (v := 0) dc_AL_countBefore_2 rfl (by decide) ?_
  refine g_istore_n (L' := [some (.ref 51), some (.int x1), some (.int 0), some (.int 0)]) dc_AL_countBefore_3 rfl rfl (Nat.le_of_ble_eq_true rfl) rfl ?_
  exact k1
theorem w_AL_countBefore_4 {G : GC} {d : Nat} {P : PT} {I : MI} {J : MJ} {x1 : Int32} {x2 : Int32} {x3 : Int32} (k1 : (x1 ≤ x3) → Go G (fr G m_AL_countBefore d P) 30 [none, none, some (.int x2), none] [] I J) (k2 : (¬ (x1 ≤ x3)) → (40 ≤ x3) → Go G (fr G m_AL_countBefore d P) 30 [none, none, some (.int x2), none] [] I J) (b3 : (¬ (x1 ≤ x3)) → (¬ (40 ≤ x3)) → vp_in x3 40) (k4 : (¬ (x1 ≤ x3)) → (¬ (40 ≤ x3)) → Go G (fr G m_AL_countBefore d P) 4 [some (.ref 51), some (.int x1), some (.int (x2 + (I 52 x3.toNatClampNeg))), some (.int (x3 + 1))] [] I J) : Go G (fr G m_AL_countBefore d P) 4 [some (.ref 51), some (.int x1), some (.int x2), some (.int x3)] [] I J := by
  refine g_iload_n dc_AL_countBefore_4 rfl rfl rfl ?_
  refine g_iload_n dc_AL_countBefore_5 rfl rfl rfl ?_
  refine g_ic_ge (tgt := 30) dc_AL_countBefore_6 rfl (by decide) (fun c1 => ?_) (fun c1 => ?_)
  · refine g_weak [none, none, some (.int x2), none] ⟨rfl, trivial⟩ ?_
    exact (k1 c1)
  · refine g_iload_n dc_AL_countBefore_9 rfl rfl rfl ?_
    refine g_bipush (v := 40) dc_AL_countBefore_10 rfl (by decide) ?_
    refine g_ic_ge (tgt := 30) dc_AL_countBefore_12 rfl (by decide) (fun c2 => ?_) (fun c2 => ?_)
    · refine g_weak [none, none, some (.int x2), none] ⟨rfl, trivial⟩ ?_
      exact (k2 c1 c2)
    · refine g_iload_n dc_AL_countBefore_15 rfl rfl rfl ?_
      refine g_aload_n dc_AL_countBefore_16 rfl rfl rfl ?_
      refine g_get (C := "LevelBreaks$Alarms") (T := T_AL) (N := 1) (k := 0) (v := .ref 52) sh_51 (by decide) rfl rfl i_AL (by decide) fl_AL_9 (Or.inl rfl) rfl dc_AL_countBefore_17 rfl ?_
      refine g_iload_n dc_AL_countBefore_20 rfl rfl rfl ?_
      refine g_ialdv (v := (I 52 x3.toNatClampNeg)) sh_52 (b3 c1 c2) rfl dc_AL_countBefore_21 rfl ?_
      refine g_iadd dc_AL_countBefore_22 rfl ?_
      refine g_istore_n (L' := [some (.ref 51), some (.int x1), some (.int (x2 + (I 52 x3.toNatClampNeg))), some (.int x3)]) dc_AL_countBefore_23 rfl rfl (Nat.le_of_ble_eq_true rfl) rfl ?_
      refine g_iinc (v := (x3 + 1)) (L' := [some (.ref 51), some (.int x1), some (.int (x2 + (I 52 x3.toNatClampNeg))), some (.int (x3 + 1))]) dc_AL_countBefore_24 rfl rfl (by rw [show Int32.ofInt 1 = 1 from by decide]) (Nat.le_of_ble_eq_true rfl) rfl ?_
      refine g_goto (tgt := 4) dc_AL_countBefore_27 (by decide) ?_
      exact (k4 c1 c2)
theorem w_AL_countBefore_30 {G : GC} {d : Nat} {P : PT} {I : MI} {J : MJ} {x2 : Int32} (q1 : P (some (.int x2)) I J) : Go G (fr G m_AL_countBefore d P) 30 [none, none, some (.int x2), none] [] I J := by
  refine g_iload_n dc_AL_countBefore_30 rfl rfl rfl ?_
  exact g_iret rfl dc_AL_countBefore_31 q1
theorem dc_AL_daysTillFirst_0 : decode prog_2_method_5_code 0 = .ok (.iload_n 1, 1) := by decide +kernel
theorem dc_AL_daysTillFirst_1 : decode prog_2_method_5_code 1 = .ok (.istore_n 2, 1) := by decide +kernel
theorem dc_AL_daysTillFirst_2 : decode prog_2_method_5_code 2 = .ok (.iload_n 2, 1) := by decide +kernel
theorem dc_AL_daysTillFirst_3 : decode prog_2_method_5_code 3 = .ok (.bipush 40, 2) := by decide +kernel
theorem dc_AL_daysTillFirst_5 : decode prog_2_method_5_code 5 = .ok (.if_icmp .ge 23, 3) := by decide +kernel
theorem dc_AL_daysTillFirst_8 : decode prog_2_method_5_code 8 = .ok (.aload_n 0, 1) := by decide +kernel
theorem dc_AL_daysTillFirst_9 : decode prog_2_method_5_code 9 = .ok (.getfield 9, 3) := by decide +kernel
theorem dc_AL_daysTillFirst_12 : decode prog_2_method_5_code 12 = .ok (.iload_n 2, 1) := by decide +kernel
theorem dc_AL_daysTillFirst_13 : decode prog_2_method_5_code 13 = .ok (.iaload, 1) := by decide +kernel
theorem dc_AL_daysTillFirst_14 : decode prog_2_method_5_code 14 = .ok (.iconst 1, 1) := by decide +kernel
theorem dc_AL_daysTillFirst_15 : decode prog_2_method_5_code 15 = .ok (.if_icmp .ne 7, 3) := by decide +kernel
theorem dc_AL_daysTillFirst_18 : decode prog_2_method_5_code 18 = .ok (.iload_n 2, 1) := by decide +kernel
theorem dc_AL_daysTillFirst_19 : decode prog_2_method_5_code 19 = .ok (.iload_n 1, 1) := by decide +kernel
theorem dc_AL_daysTillFirst_20 : decode prog_2_method_5_code 20 = .ok (.isub, 1) := by decide +kernel
theorem dc_AL_daysTillFirst_21 : decode prog_2_method_5_code 21 = .ok (.ireturn, 1) := by decide +kernel
theorem dc_AL_daysTillFirst_22 : decode prog_2_method_5_code 22 = .ok (.iinc 2 1, 3) := by decide +kernel
theorem dc_AL_daysTillFirst_25 : decode prog_2_method_5_code 25 = .ok (.goto (-23), 3) := by decide +kernel
theorem dc_AL_daysTillFirst_28 : decode prog_2_method_5_code 28 = .ok (.iconst (-1), 1) := by decide +kernel
theorem dc_AL_daysTillFirst_29 : decode prog_2_method_5_code 29 = .ok (.ireturn, 1) := by decide +kernel
theorem w_AL_daysTillFirst_0 {G : GC} {d : Nat} {P : PT} {I : MI} {J : MJ} {x1 : Int32} (k1 : Go G (fr G m_AL_daysTillFirst d P) 2 [some (.ref 51), some (.int x1), some (.int x1)] [] I J) : Go G (fr G m_AL_daysTillFirst d P) 0 [some (.ref 51), some (.int x1), none] [] I J := by
  refine g_iload_n dc_AL_daysTillFirst_0 rfl rfl rfl ?_
  refine g_istore_n (L' := [some (.ref 51), some (.int x1), some (.int x1)]) dc_AL_daysTillFirst_1 rfl rfl (Nat.le_of_ble_eq_true rfl) rfl ?_
  exact k1
theorem w_AL_daysTillFirst_2 {G : GC} {d : Nat} {P : PT} {I : MI} {J : MJ} {x1 : Int32} {x2 : Int32} (q1 : (40 ≤ x2) → P (some (.int (-1))) I J) (b2 : (¬ (40 ≤ x2)) → vp_in x2 40) (k3 : (¬ (40 ≤ x2)) → (¬ (I 52 x2.toNatClampNeg) = 1) → Go G (fr G m_AL_daysTillFirst d P) 2 [some (.ref 51), some (.int x1), some (.int (x2 + 1))] [] I J) (q4 : (¬ (40 ≤ x2)) → ((I 52 x2.toNatClampNeg) = 1) → P (some (.int (x2 - x1))) I J) : Go G (fr G m_AL_daysTillFirst d P) 2 [some (.ref 51), some (.int x1), some (.int x2)] [] I J := by
  refine g_iload_n dc_AL_daysTillFirst_2 rfl rfl rfl ?_
  refine g_bipush (v := 40) dc_AL_daysTillFirst_3 rfl (by decide) ?_
  refine g_ic_ge (tgt := 28) dc_AL_daysTillFirst_5 rfl (by decide) (fun c1 => ?_) (fun c1 => ?_)
  · refine g_iconst (v := (-1)) dc_AL_daysTillFirst_28 rfl (by decide) ?_
    exact g_iret rfl dc_AL_daysTillFirst_29 (q1 c1)
  · refine g_aload_n dc_AL_daysTillFirst_8 rfl rfl rfl ?_
    refine g_get (C := "LevelBreaks$Alarms") (T := T_AL) (N := 1) (k := 0) (v := .ref 52) sh_51 (by decide) rfl rfl i_AL (by decide) fl_AL_9 (Or.inl rfl) rfl dc_AL_daysTillFirst_9 rfl ?_
    refine g_iload_n dc_AL_daysTillFirst_12 rfl rfl rfl ?_
    refine g_ialdv (v := (I 52 x2.toNatClampNeg)) sh_52 (b2 c1) rfl dc_AL_daysTillFirst_13 rfl ?_
    refine g_iconst (v := 1) dc_AL_daysTillFirst_14 rfl (by decide) ?_
    refine g_ic_ne (tgt := 22) dc_AL_daysTillFirst_15 rfl (by decide) (fun c2 => ?_) (fun c2 => ?_)
    · refine g_iinc (v := (x2 + 1)) (L' := [some (.ref 51), some (.int x1), some (.int (x2 + 1))]) dc_AL_daysTillFirst_22 rfl rfl (by rw [show Int32.ofInt 1 = 1 from by decide]) (Nat.le_of_ble_eq_true rfl) rfl ?_
      refine g_goto (tgt := 2) dc_AL_daysTillFirst_25 (by decide) ?_
      exact (k3 c1 c2)
    · refine g_iload_n dc_AL_daysTillFirst_18 rfl rfl rfl ?_
      refine g_iload_n dc_AL_daysTillFirst_19 rfl rfl rfl ?_
      refine g_isub dc_AL_daysTillFirst_20 rfl ?_
      exact g_iret rfl dc_AL_daysTillFirst_21 (q4 c1 c2)
theorem dc_AL_watch_0 : decode prog_2_method_2_code 0 = .ok (.aload_n 0, 1) := by decide +kernel
theorem dc_AL_watch_1 : decode prog_2_method_2_code 1 = .ok (.getfield 9, 3) := by decide +kernel
theorem dc_AL_watch_4 : decode prog_2_method_2_code 4 = .ok (.iconst 0, 1) := by decide +kernel
theorem dc_AL_watch_5 : decode prog_2_method_2_code 5 = .ok (.invokestatic 15, 3) := by decide +kernel
theorem dc_AL_watch_8 : decode prog_2_method_2_code 8 = .ok (.iconst 0, 1) := by decide +kernel
theorem dc_AL_watch_9 : decode prog_2_method_2_code 9 = .ok (.istore 6, 2) := by decide +kernel
theorem dc_AL_watch_11 : decode prog_2_method_2_code 11 = .ok (.iconst 0, 1) := by decide +kernel
theorem dc_AL_watch_12 : decode prog_2_method_2_code 12 = .ok (.istore 7, 2) := by decide +kernel
theorem dc_AL_watch_14 : decode prog_2_method_2_code 14 = .ok (.iload 7, 2) := by decide +kernel
theorem dc_AL_watch_16 : decode prog_2_method_2_code 16 = .ok (.aload_n 1, 1) := by decide +kernel
theorem dc_AL_watch_17 : decode prog_2_method_2_code 17 = .ok (.getfield 21, 3) := by decide +kernel
theorem dc_AL_watch_20 : decode prog_2_method_2_code 20 = .ok (.if_icmp .ge 50, 3) := by decide +kernel
theorem dc_AL_watch_23 : decode prog_2_method_2_code 23 = .ok (.iload 6, 2) := by decide +kernel
theorem dc_AL_watch_25 : decode prog_2_method_2_code 25 = .ok (.aload_n 1, 1) := by decide +kernel
theorem dc_AL_watch_26 : decode prog_2_method_2_code 26 = .ok (.getfield 27, 3) := by decide +kernel
theorem dc_AL_watch_29 : decode prog_2_method_2_code 29 = .ok (.iload 7, 2) := by decide +kernel
theorem dc_AL_watch_31 : decode prog_2_method_2_code 31 = .ok (.iaload, 1) := by decide +kernel
theorem dc_AL_watch_32 : decode prog_2_method_2_code 32 = .ok (.iload_n 2, 1) := by decide +kernel
theorem dc_AL_watch_33 : decode prog_2_method_2_code 33 = .ok (.iload_n 3, 1) := by decide +kernel
theorem dc_AL_watch_34 : decode prog_2_method_2_code 34 = .ok (.iload 5, 2) := by decide +kernel
theorem dc_AL_watch_36 : decode prog_2_method_2_code 36 = .ok (.invokestatic 30, 3) := by decide +kernel
theorem dc_AL_watch_39 : decode prog_2_method_2_code 39 = .ok (.istore 6, 2) := by decide +kernel
theorem dc_AL_watch_41 : decode prog_2_method_2_code 41 = .ok (.iload 6, 2) := by decide +kernel
theorem dc_AL_watch_43 : decode prog_2_method_2_code 43 = .ok (.iload 4, 2) := by decide +kernel
theorem dc_AL_watch_45 : decode prog_2_method_2_code 45 = .ok (.if_icmp .lt 19, 3) := by decide +kernel
theorem dc_AL_watch_48 : decode prog_2_method_2_code 48 = .ok (.aload_n 0, 1) := by decide +kernel
theorem dc_AL_watch_49 : decode prog_2_method_2_code 49 = .ok (.getfield 9, 3) := by decide +kernel
theorem dc_AL_watch_52 : decode prog_2_method_2_code 52 = .ok (.aload_n 1, 1) := by decide +kernel
theorem dc_AL_watch_53 : decode prog_2_method_2_code 53 = .ok (.getfield 34, 3) := by decide +kernel
theorem dc_AL_watch_56 : decode prog_2_method_2_code 56 = .ok (.iload 7, 2) := by decide +kernel
theorem dc_AL_watch_58 : decode prog_2_method_2_code 58 = .ok (.iaload, 1) := by decide +kernel
theorem dc_AL_watch_59 : decode prog_2_method_2_code 59 = .ok (.iconst 1, 1) := by decide +kernel
theorem dc_AL_watch_60 : decode prog_2_method_2_code 60 = .ok (.iastore, 1) := by decide +kernel
theorem dc_AL_watch_61 : decode prog_2_method_2_code 61 = .ok (.iconst 0, 1) := by decide +kernel
theorem dc_AL_watch_62 : decode prog_2_method_2_code 62 = .ok (.istore 6, 2) := by decide +kernel
theorem dc_AL_watch_64 : decode prog_2_method_2_code 64 = .ok (.iinc 7 1, 3) := by decide +kernel
theorem dc_AL_watch_67 : decode prog_2_method_2_code 67 = .ok (.goto (-53), 3) := by decide +kernel
theorem dc_AL_watch_70 : decode prog_2_method_2_code 70 = .ok (.return_, 1) := by decide +kernel
theorem w_AL_watch_0 {G : GC} {d : Nat} {P : PT} {I : MI} {J : MJ} {o1 : Nat} (h1 : PtsAt o1) {x2 : Int32} {x3 : Int32} {x4 : Int32} {x5 : Int32} (k1 : Ct G (d + 1) m_JA_fill_AII [.ref 52, .int 0] (fun r I' J' => Go G (fr G m_AL_watch (d + 2) P) 8 [some (.ref 51), some (.ref o1), some (.int x2), some (.int x3), some (.int x4), some (.int x5), none, none] (r.toList ++ []) I' J') I J) : Go G (fr G m_AL_watch (d + 2) P) 0 [some (.ref 51), some (.ref o1), some (.int x2), some (.int x3), some (.int x4), some (.int x5), none, none] [] I J := by
  refine g_aload_n dc_AL_watch_0 rfl rfl rfl ?_
  refine g_get (C := "LevelBreaks$Alarms") (T := T_AL) (N := 1) (k := 0) (v := .ref 52) sh_51 (by decide) rfl rfl i_AL (by decide) fl_AL_9 (Or.inl rfl) rfl dc_AL_watch_1 rfl ?_
  refine g_iconst (v := 0) dc_AL_watch_4 rfl (by decide) ?_
  exact g_callS (As := [.ref 52, .int 0]) (rest := []) ok_JA_fill_AII st_JA_fill_AII ml_AL_15 rfl rfl (Nat.le_of_ble_eq_true rfl) dc_AL_watch_5 rfl rOk_fr k1
theorem w_AL_watch_8 {G : GC} {d : Nat} {P : PT} {I : MI} {J : MJ} {o1 : Nat} (h1 : PtsAt o1) {x2 : Int32} {x3 : Int32} {x4 : Int32} {x5 : Int32} (k1 : Go G (fr G m_AL_watch (d + 2) P) 14 [some (.ref 51), some (.ref o1), some (.int x2), some (.int x3), some (.int x4), some (.int x5), some (.int 0), some (.int 0)] [] I J) : Go G (fr G m_AL_watch (d + 2) P) 8 [some (.ref 51), some (.ref o1), some (.int x2), some (.int x3), some (.int x4), some (.int x5), none, none] [] I J := by
  refine g_iconst (v := 0) dc_AL_watch_8 rfl (by decide) ?_
  refine g_istore (L' := [some (.ref 51), some (.ref o1), some (.int x2), some (.int x3), some (.int x4), some (.int x5), some (.int 0), none]) dc_AL_watch_9 rfl (Nat.le_of_ble_eq_true rfl) rfl ?_
  refine g_iconst (v := 0) dc_AL_watch_11 rfl (by decide) ?_
  refine g_istore (L' := [some (.ref 51), some (.ref o1), some (.int x2), some (.int x3), some (.int x4), some (.int x5), some (.int 0), some (.int 0)]) dc_AL_watch_12 rfl (Nat.le_of_ble_eq_true rfl) rfl ?_
  exact k1
theorem w_AL_watch_14 {G : GC} {d : Nat} {P : PT} {I : MI} {J : MJ} {o1 : Nat} (h1 : PtsAt o1) {x2 : Int32} {x3 : Int32} {x4 : Int32} {x5 : Int32} {x6 : Int32} {x7 : Int32} (q1 : ((I o1 4) ≤ x7) → P none I J) (b2 : (¬ ((I o1 4) ≤ x7)) → vp_in x7 40) (k3 : (¬ ((I o1 4) ≤ x7)) → ((f_AL_sumWith x6 (I (o1 + 3) x7.toNatClampNeg) x2 x3 x5) < x4) → Go G (fr G m_AL_watch (d + 2) P) 64 [some (.ref 51), some (.ref o1), some (.int x2), some (.int x3), some (.int x4), some (.int x5), some (.int (f_AL_sumWith x6 (I (o1 + 3) x7.toNatClampNeg) x2 x3 x5)), some (.int x7)] [] I J) (b4 : (¬ ((I o1 4) ≤ x7)) → (¬ ((f_AL_sumWith x6 (I (o1 + 3) x7.toNatClampNeg) x2 x3 x5) < x4)) → vp_in (I (o1 + 2) x7.toNatClampNeg) 40) (k5 : (¬ ((I o1 4) ≤ x7)) → (¬ ((f_AL_sumWith x6 (I (o1 + 3) x7.toNatClampNeg) x2 x3 x5) < x4)) → Go G (fr G m_AL_watch (d + 2) P) 64 [some (.ref 51), some (.ref o1), some (.int x2), some (.int x3), some (.int x4), some (.int x5), some (.int 0), some (.int x7)] [] (u2 I 52 (I (o1 + 2) x7.toNatClampNeg).toNatClampNeg 1) J) : Go G (fr G m_AL_watch (d + 2) P) 14 [some (.ref 51), some (.ref o1), some (.int x2), some (.int x3), some (.int x4), some (.int x5), some (.int x6), some (.int x7)] [] I J := by
  refine g_iload dc_AL_watch_14 rfl rfl ?_
  refine g_aload_n dc_AL_watch_16 rfl rfl rfl ?_
  refine g_get (C := "LevelBreaks$Points") (T := T_PO) (N := 5) (k := 4) (v := .int (I o1 4)) h1.1 (by decide) rfl rfl i_PO (by decide) fl_AL_21 (Or.inl rfl) rfl dc_AL_watch_17 rfl ?_
  refine g_ic_ge (tgt := 70) dc_AL_watch_20 rfl (by decide) (fun c1 => ?_) (fun c1 => ?_)
  · exact g_vret rfl dc_AL_watch_70 (q1 c1)
  · refine g_iload dc_AL_watch_23 rfl rfl ?_
    refine g_aload_n dc_AL_watch_25 rfl rfl rfl ?_
    refine g_get (C := "LevelBreaks$Points") (T := T_PO) (N := 5) (k := 2) (v := .ref (o1 + 3)) h1.1 (by decide) rfl rfl i_PO (by decide) fl_AL_27 (Or.inl rfl) rfl dc_AL_watch_26 rfl ?_
    refine g_iload dc_AL_watch_29 rfl rfl ?_
    refine g_ialdv (v := (I (o1 + 3) x7.toNatClampNeg)) h1.2.2.2.1 (b2 c1) rfl dc_AL_watch_31 rfl ?_
    refine g_iload_n dc_AL_watch_32 rfl rfl rfl ?_
    refine g_iload_n dc_AL_watch_33 rfl rfl rfl ?_
    refine g_iload dc_AL_watch_34 rfl rfl ?_
    refine g_callS (M := m_AL_sumWith) (As := [.int x6, .int (I (o1 + 3) x7.toNatClampNeg), .int x2, .int x3, .int x5]) (rest := []) ok_AL_sumWith st_AL_sumWith ml_AL_30 rfl rfl (Nat.le_of_ble_eq_true rfl) dc_AL_watch_36 rfl rOk_fr (c_AL_sumWith ?_)
    show Go G (fr G m_AL_watch (d + 2) P) 39 [some (.ref 51), some (.ref o1), some (.int x2), some (.int x3), some (.int x4), some (.int x5), some (.int x6), some (.int x7)] [.int (f_AL_sumWith x6 (I (o1 + 3) x7.toNatClampNeg) x2 x3 x5)] I J
    refine g_istore (L' := [some (.ref 51), some (.ref o1), some (.int x2), some (.int x3), some (.int x4), some (.int x5), some (.int (f_AL_sumWith x6 (I (o1 + 3) x7.toNatClampNeg) x2 x3 x5)), some (.int x7)]) dc_AL_watch_39 rfl (Nat.le_of_ble_eq_true rfl) rfl ?_
    refine g_iload dc_AL_watch_41 rfl rfl ?_
    refine g_iload dc_AL_watch_43 rfl rfl ?_
    refine g_ic_lt (tgt := 64) dc_AL_watch_45 rfl (by decide) (fun c2 => ?_) (fun c2 => ?_)
    · exact (k3 c1 c2)
    · refine g_aload_n dc_AL_watch_48 rfl rfl rfl ?_
      refine g_get (C := "LevelBreaks$Alarms") (T := T_AL) (N := 1) (k := 0) (v := .ref 52) sh_51 (by decide) rfl rfl i_AL (by decide) fl_AL_9 (Or.inl rfl) rfl dc_AL_watch_49 rfl ?_
      refine g_aload_n dc_AL_watch_52 rfl rfl rfl ?_
      refine g_get (C := "LevelBreaks$Points") (T := T_PO) (N := 5) (k := 1) (v := .ref (o1 + 2)) h1.1 (by decide) rfl rfl i_PO (by decide) fl_AL_34 (Or.inl rfl) rfl dc_AL_watch_53 rfl ?_
      refine g_iload dc_AL_watch_56 rfl rfl ?_
      refine g_ialdv (v := (I (o1 + 2) x7.toNatClampNeg)) h1.2.2.1 (b2 c1) rfl dc_AL_watch_58 rfl ?_
      refine g_iconst (v := 1) dc_AL_watch_59 rfl (by decide) ?_
      refine g_iast sh_52 (b4 c1 c2) dc_AL_watch_60 rfl ?_
      refine g_iconst (v := 0) dc_AL_watch_61 rfl (by decide) ?_
      refine g_istore (L' := [some (.ref 51), some (.ref o1), some (.int x2), some (.int x3), some (.int x4), some (.int x5), some (.int 0), some (.int x7)]) dc_AL_watch_62 rfl (Nat.le_of_ble_eq_true rfl) rfl ?_
      exact (k5 c1 c2)
theorem w_AL_watch_64 {G : GC} {d : Nat} {P : PT} {I : MI} {J : MJ} {o1 : Nat} (h1 : PtsAt o1) {x2 : Int32} {x3 : Int32} {x4 : Int32} {x5 : Int32} {x6 : Int32} {x7 : Int32} (k1 : Go G (fr G m_AL_watch (d + 2) P) 14 [some (.ref 51), some (.ref o1), some (.int x2), some (.int x3), some (.int x4), some (.int x5), some (.int x6), some (.int (x7 + 1))] [] I J) : Go G (fr G m_AL_watch (d + 2) P) 64 [some (.ref 51), some (.ref o1), some (.int x2), some (.int x3), some (.int x4), some (.int x5), some (.int x6), some (.int x7)] [] I J := by
  refine g_iinc (v := (x7 + 1)) (L' := [some (.ref 51), some (.ref o1), some (.int x2), some (.int x3), some (.int x4), some (.int x5), some (.int x6), some (.int (x7 + 1))]) dc_AL_watch_64 rfl rfl (by rw [show Int32.ofInt 1 = 1 from by decide]) (Nat.le_of_ble_eq_true rfl) rfl ?_
  refine g_goto (tgt := 14) dc_AL_watch_67 (by decide) ?_
  exact k1
theorem dc_CH_millionths_0 : decode prog_4_method_6_code 0 = .ok (.lload_n 2, 1) := by decide +kernel
theorem dc_CH_millionths_1 : decode prog_4_method_6_code 1 = .ok (.lconst 1, 1) := by decide +kernel
theorem dc_CH_millionths_2 : decode prog_4_method_6_code 2 = .ok (.lcmp, 1) := by decide +kernel
theorem dc_CH_millionths_3 : decode prog_4_method_6_code 3 = .ok (.ifCond .ge 7, 3) := by decide +kernel
theorem dc_CH_millionths_6 : decode prog_4_method_6_code 6 = .ok (.iconst 0, 1) := by decide +kernel
theorem dc_CH_millionths_7 : decode prog_4_method_6_code 7 = .ok (.goto 11, 3) := by decide +kernel
theorem dc_CH_millionths_10 : decode prog_4_method_6_code 10 = .ok (.lload_n 0, 1) := by decide +kernel
theorem dc_CH_millionths_11 : decode prog_4_method_6_code 11 = .ok (.ldc2_w 35, 3) := by decide +kernel
theorem dc_CH_millionths_14 : decode prog_4_method_6_code 14 = .ok (.lmul, 1) := by decide +kernel
theorem dc_CH_millionths_15 : decode prog_4_method_6_code 15 = .ok (.lload_n 2, 1) := by decide +kernel
theorem dc_CH_millionths_16 : decode prog_4_method_6_code 16 = .ok (.ldiv, 1) := by decide +kernel
theorem dc_CH_millionths_17 : decode prog_4_method_6_code 17 = .ok (.l2i, 1) := by decide +kernel
theorem dc_CH_millionths_18 : decode prog_4_method_6_code 18 = .ok (.ireturn, 1) := by decide +kernel
theorem w_CH_millionths_0 {G : GC} {d : Nat} {P : PT} {I : MI} {J : MJ} {l0 : Int64} {l2 : Int64} (z1 : (1 ≤ l2) → ¬ l2 = 0) (q2 : (1 ≤ l2) → P (some (.int (Int64.toInt32 ((l0 * 1000000) / l2)))) I J) (q3 : (¬ (1 ≤ l2)) → P (some (.int 0)) I J) : Go G (fr G m_CH_millionths d P) 0 [some (.long l0), none, some (.long l2), none] [] I J := by
  refine g_lload_n dc_CH_millionths_0 rfl rfl rfl ?_
  refine g_lconst (v := 1) dc_CH_millionths_1 rfl (by decide) ?_
  refine g_lc_ge (tgt := 10) dc_CH_millionths_2 rfl dc_CH_millionths_3 rfl (by decide) (fun c1 => ?_) (fun c1 => ?_)
  · refine g_lload_n dc_CH_millionths_10 rfl rfl rfl ?_
    refine g_ldc2 (v := 1000000) kl_CH_35 dc_CH_millionths_11 rfl ?_
    refine g_lmul dc_CH_millionths_14 rfl ?_
    refine g_lload_n dc_CH_millionths_15 rfl rfl rfl ?_
    refine g_ldiv dc_CH_millionths_16 rfl (z1 c1) ?_
    refine g_l2i dc_CH_millionths_17 rfl ?_
    exact g_iret rfl dc_CH_millionths_18 (q2 c1)
  · refine g_iconst (v := 0) dc_CH_millionths_6 rfl (by decide) ?_
    refine g_goto (tgt := 18) dc_CH_millionths_7 (by decide) ?_
    exact g_iret rfl dc_CH_millionths_18 (q3 c1)
theorem dc_CH_ofHits_0 : decode prog_4_method_4_code 0 = .ok (.bipush 39, 2) := by decide +kernel
theorem dc_CH_ofHits_2 : decode prog_4_method_4_code 2 = .ok (.istore_n 3, 1) := by decide +kernel
theorem dc_CH_ofHits_3 : decode prog_4_method_4_code 3 = .ok (.lconst 0, 1) := by decide +kernel
theorem dc_CH_ofHits_4 : decode prog_4_method_4_code 4 = .ok (.lstore 4, 2) := by decide +kernel
theorem dc_CH_ofHits_6 : decode prog_4_method_4_code 6 = .ok (.iload_n 2, 1) := by decide +kernel
theorem dc_CH_ofHits_7 : decode prog_4_method_4_code 7 = .ok (.istore 6, 2) := by decide +kernel
theorem dc_CH_ofHits_9 : decode prog_4_method_4_code 9 = .ok (.iload 6, 2) := by decide +kernel
theorem dc_CH_ofHits_11 : decode prog_4_method_4_code 11 = .ok (.iload_n 1, 1) := by decide +kernel
theorem dc_CH_ofHits_12 : decode prog_4_method_4_code 12 = .ok (.if_icmp .gt 31, 3) := by decide +kernel
theorem dc_CH_ofHits_15 : decode prog_4_method_4_code 15 = .ok (.lload 4, 2) := by decide +kernel
theorem dc_CH_ofHits_17 : decode prog_4_method_4_code 17 = .ok (.iload_n 0, 1) := by decide +kernel
theorem dc_CH_ofHits_18 : decode prog_4_method_4_code 18 = .ok (.iload 6, 2) := by decide +kernel
theorem dc_CH_ofHits_20 : decode prog_4_method_4_code 20 = .ok (.invokestatic 27, 3) := by decide +kernel
theorem dc_CH_ofHits_23 : decode prog_4_method_4_code 23 = .ok (.iload_n 3, 1) := by decide +kernel
theorem dc_CH_ofHits_24 : decode prog_4_method_4_code 24 = .ok (.iload_n 0, 1) := by decide +kernel
theorem dc_CH_ofHits_25 : decode prog_4_method_4_code 25 = .ok (.isub, 1) := by decide +kernel
theorem dc_CH_ofHits_26 : decode prog_4_method_4_code 26 = .ok (.iload_n 1, 1) := by decide +kernel
theorem dc_CH_ofHits_27 : decode prog_4_method_4_code 27 = .ok (.iload 6, 2) := by decide +kernel
theorem dc_CH_ofHits_29 : decode prog_4_method_4_code 29 = .ok (.isub, 1) := by decide +kernel
theorem dc_CH_ofHits_30 : decode prog_4_method_4_code 30 = .ok (.invokestatic 27, 3) := by decide +kernel
theorem dc_CH_ofHits_33 : decode prog_4_method_4_code 33 = .ok (.lmul, 1) := by decide +kernel
theorem dc_CH_ofHits_34 : decode prog_4_method_4_code 34 = .ok (.ladd, 1) := by decide +kernel
theorem dc_CH_ofHits_35 : decode prog_4_method_4_code 35 = .ok (.lstore 4, 2) := by decide +kernel
theorem dc_CH_ofHits_37 : decode prog_4_method_4_code 37 = .ok (.iinc 6 1, 3) := by decide +kernel
theorem dc_CH_ofHits_40 : decode prog_4_method_4_code 40 = .ok (.goto (-31), 3) := by decide +kernel
theorem dc_CH_ofHits_43 : decode prog_4_method_4_code 43 = .ok (.lload 4, 2) := by decide +kernel
theorem dc_CH_ofHits_45 : decode prog_4_method_4_code 45 = .ok (.iload_n 3, 1) := by decide +kernel
theorem dc_CH_ofHits_46 : decode prog_4_method_4_code 46 = .ok (.iload_n 1, 1) := by decide +kernel
theorem dc_CH_ofHits_47 : decode prog_4_method_4_code 47 = .ok (.invokestatic 27, 3) := by decide +kernel
theorem dc_CH_ofHits_50 : decode prog_4_method_4_code 50 = .ok (.invokestatic 31, 3) := by decide +kernel
theorem dc_CH_ofHits_53 : decode prog_4_method_4_code 53 = .ok (.ireturn, 1) := by decide +kernel
theorem w_CH_ofHits_0 {G : GC} {d : Nat} {P : PT} {I : MI} {J : MJ} {x0 : Int32} {x1 : Int32} {x2 : Int32} (k1 : Go G (fr G m_CH_ofHits (d + 1) P) 9 [some (.int x0), some (.int x1), none, some (.int 39), some (.long 0), none, some (.int x2)] [] I J) : Go G (fr G m_CH_ofHits (d + 1) P) 0 [some (.int x0), some (.int x1), some (.int x2), none, none, none, none] [] I J := by
  refine g_bipush (v := 39) dc_CH_ofHits_0 rfl (by decide) ?_
  refine g_istore_n (L' := [some (.int x0), some (.int x1), some (.int x2), some (.int 39), none, none, none]) dc_CH_ofHits_2 rfl rfl (Nat.le_of_ble_eq_true rfl) rfl ?_
  refine g_lconst (v := 0) dc_CH_ofHits_3 rfl (by decide) ?_
  refine g_lstore (L' := [some (.int x0), some (.int x1), some (.int x2), some (.int 39), some (.long 0), none, none]) dc_CH_ofHits_4 rfl (Nat.le_of_ble_eq_true rfl) rfl ?_
  refine g_iload_n dc_CH_ofHits_6 rfl rfl rfl ?_
  refine g_istore (L' := [some (.int x0), some (.int x1), some (.int x2), some (.int 39), some (.long 0), none, some (.int x2)]) dc_CH_ofHits_7 rfl (Nat.le_of_ble_eq_true rfl) rfl ?_
  refine g_weak [some (.int x0), some (.int x1), none, some (.int 39), some (.long 0), none, some (.int x2)] ⟨rfl, ⟨rfl, ⟨rfl, ⟨rfl, ⟨rfl, trivial⟩⟩⟩⟩⟩ ?_
  exact k1
theorem w_CH_ofHits_9 {G : GC} {d : Nat} {P : PT} {I : MI} {J : MJ} {x0 : Int32} {x1 : Int32} {x3 : Int32} {l4 : Int64} {x6 : Int32} (k1 : (x1 < x6) → Ct G d m_CH_ways [.int x3, .int x1] (fun r I' J' => Go G (fr G m_CH_ofHits (d + 1) P) 50 [none, none, none, none, none, none, none] (r.toList ++ [.long l4]) I' J') I J) (k2 : (¬ (x1 < x6)) → Ct G d m_CH_ways [.int x0, .int x6] (fun r I' J' => Go G (fr G m_CH_ofHits (d + 1) P) 23 [some (.int x0), some (.int x1), none, some (.int x3), none, none, some (.int x6)] (r.toList ++ [.long l4]) I' J') I J) : Go G (fr G m_CH_ofHits (d + 1) P) 9 [some (.int x0), some (.int x1), none, some (.int x3), some (.long l4), none, some (.int x6)] [] I J := by
  refine g_iload dc_CH_ofHits_9 rfl rfl ?_
  refine g_iload_n dc_CH_ofHits_11 rfl rfl rfl ?_
  refine g_ic_gt (tgt := 43) dc_CH_ofHits_12 rfl (by decide) (fun c1 => ?_) (fun c1 => ?_)
  · refine g_lload dc_CH_ofHits_43 rfl rfl ?_
    refine g_iload_n dc_CH_ofHits_45 rfl rfl rfl ?_
    refine g_iload_n dc_CH_ofHits_46 rfl rfl rfl ?_
    refine g_weak [none, none, none, none, none, none, none] trivial ?_
    exact g_callS (As := [.int x3, .int x1]) (rest := [.long l4]) ok_CH_ways st_CH_ways ml_CH_27 rfl rfl (Nat.le_of_ble_eq_true rfl) dc_CH_ofHits_47 rfl rOk_fr (k1 c1)
  · refine g_lload dc_CH_ofHits_15 rfl rfl ?_
    refine g_iload_n dc_CH_ofHits_17 rfl rfl rfl ?_
    refine g_iload dc_CH_ofHits_18 rfl rfl ?_
    refine g_weak [some (.int x0), some (.int x1), none, some (.int x3), none, none, some (.int x6)] ⟨rfl, ⟨rfl, ⟨rfl, ⟨rfl, trivial⟩⟩⟩⟩ ?_
    exact g_callS (As := [.int x0, .int x6]) (rest := [.long l4]) ok_CH_ways st_CH_ways ml_CH_27 rfl rfl (Nat.le_of_ble_eq_true rfl) dc_CH_ofHits_20 rfl rOk_fr (k2 c1)
theorem w_CH_ofHits_23 {G : GC} {d : Nat} {P : PT} {I : MI} {J : MJ} {x0 : Int32} {x1 : Int32} {x3 : Int32} {x6 : Int32} {s0 : Int64} {s1 : Int64} (k1 : Ct G d m_CH_ways [.int (x3 - x0), .int (x1 - x6)] (fun r I' J' => Go G (fr G m_CH_ofHits (d + 1) P) 33 [some (.int x0), some (.int x1), none, some (.int x3), none, none, some (.int x6)] (r.toList ++ [.long s1, .long s0]) I' J') I J) : Go G (fr G m_CH_ofHits (d + 1) P) 23 [some (.int x0), some (.int x1), none, some (.int x3), none, none, some (.int x6)] [.long s1, .long s0] I J := by
  refine g_iload_n dc_CH_ofHits_23 rfl rfl rfl ?_
  refine g_iload_n dc_CH_ofHits_24 rfl rfl rfl ?_
  refine g_isub dc_CH_ofHits_25 rfl ?_
  refine g_iload_n dc_CH_ofHits_26 rfl rfl rfl ?_
  refine g_iload dc_CH_ofHits_27 rfl rfl ?_
  refine g_isub dc_CH_ofHits_29 rfl ?_
  exact g_callS (As := [.int (x3 - x0), .int (x1 - x6)]) (rest := [.long s1, .long s0]) ok_CH_ways st_CH_ways ml_CH_27 rfl rfl (Nat.le_of_ble_eq_true rfl) dc_CH_ofHits_30 rfl rOk_fr k1
theorem w_CH_ofHits_33 {G : GC} {d : Nat} {P : PT} {I : MI} {J : MJ} {x0 : Int32} {x1 : Int32} {x3 : Int32} {x6 : Int32} {s0 : Int64} {s1 : Int64} {s2 : Int64} (k1 : Go G (fr G m_CH_ofHits (d + 1) P) 9 [some (.int x0), some (.int x1), none, some (.int x3), some (.long (s0 + (s1 * s2))), none, some (.int (x6 + 1))] [] I J) : Go G (fr G m_CH_ofHits (d + 1) P) 33 [some (.int x0), some (.int x1), none, some (.int x3), none, none, some (.int x6)] [.long s2, .long s1, .long s0] I J := by
  refine g_lmul dc_CH_ofHits_33 rfl ?_
  refine g_ladd dc_CH_ofHits_34 rfl ?_
  refine g_lstore (L' := [some (.int x0), some (.int x1), none, some (.int x3), some (.long (s0 + (s1 * s2))), none, some (.int x6)]) dc_CH_ofHits_35 rfl (Nat.le_of_ble_eq_true rfl) rfl ?_
  refine g_iinc (v := (x6 + 1)) (L' := [some (.int x0), some (.int x1), none, some (.int x3), some (.long (s0 + (s1 * s2))), none, some (.int (x6 + 1))]) dc_CH_ofHits_37 rfl rfl (by rw [show Int32.ofInt 1 = 1 from by decide]) (Nat.le_of_ble_eq_true rfl) rfl ?_
  refine g_goto (tgt := 9) dc_CH_ofHits_40 (by decide) ?_
  exact k1
theorem w_CH_ofHits_50 {G : GC} {d : Nat} {P : PT} {I : MI} {J : MJ} {s0 : Int64} {s1 : Int64} (k1 : Ct G d m_CH_millionths [.long s0, .long s1] (fun r I' J' => Go G (fr G m_CH_ofHits (d + 1) P) 53 [none, none, none, none, none, none, none] (r.toList ++ []) I' J') I J) : Go G (fr G m_CH_ofHits (d + 1) P) 50 [none, none, none, none, none, none, none] [.long s1, .long s0] I J := by
  exact g_callS (As := [.long s0, .long s1]) (rest := []) ok_CH_millionths st_CH_millionths ml_CH_31 rfl rfl (Nat.le_of_ble_eq_true rfl) dc_CH_ofHits_50 rfl rOk_fr k1
theorem w_CH_ofHits_53 {G : GC} {d : Nat} {P : PT} {I : MI} {J : MJ} {y0 : Int32} (q1 : P (some (.int y0)) I J) : Go G (fr G m_CH_ofHits (d + 1) P) 53 [none, none, none, none, none, none, none] [.int y0] I J := by
  exact g_iret rfl dc_CH_ofHits_53 q1
theorem dc_CH_ofSplit_0 : decode prog_4_method_2_code 0 = .ok (.iload_n 3, 1) := by decide +kernel
theorem dc_CH_ofSplit_1 : decode prog_4_method_2_code 1 = .ok (.iload_n 1, 1) := by decide +kernel
theorem dc_CH_ofSplit_2 : decode prog_4_method_2_code 2 = .ok (.isub, 1) := by decide +kernel
theorem dc_CH_ofSplit_3 : decode prog_4_method_2_code 3 = .ok (.istore 4, 2) := by decide +kernel
theorem dc_CH_ofSplit_5 : decode prog_4_method_2_code 5 = .ok (.iload_n 2, 1) := by decide +kernel
theorem dc_CH_ofSplit_6 : decode prog_4_method_2_code 6 = .ok (.iload_n 1, 1) := by decide +kernel
theorem dc_CH_ofSplit_7 : decode prog_4_method_2_code 7 = .ok (.isub, 1) := by decide +kernel
theorem dc_CH_ofSplit_8 : decode prog_4_method_2_code 8 = .ok (.istore 5, 2) := by decide +kernel
theorem dc_CH_ofSplit_10 : decode prog_4_method_2_code 10 = .ok (.lconst 0, 1) := by decide +kernel
theorem dc_CH_ofSplit_11 : decode prog_4_method_2_code 11 = .ok (.lstore 6, 2) := by decide +kernel
theorem dc_CH_ofSplit_13 : decode prog_4_method_2_code 13 = .ok (.lconst 0, 1) := by decide +kernel
theorem dc_CH_ofSplit_14 : decode prog_4_method_2_code 14 = .ok (.lstore 8, 2) := by decide +kernel
theorem dc_CH_ofSplit_16 : decode prog_4_method_2_code 16 = .ok (.iload_n 1, 1) := by decide +kernel
theorem dc_CH_ofSplit_17 : decode prog_4_method_2_code 17 = .ok (.istore 10, 2) := by decide +kernel
theorem dc_CH_ofSplit_19 : decode prog_4_method_2_code 19 = .ok (.iload 10, 2) := by decide +kernel
theorem dc_CH_ofSplit_21 : decode prog_4_method_2_code 21 = .ok (.iload_n 3, 1) := by decide +kernel
theorem dc_CH_ofSplit_22 : decode prog_4_method_2_code 22 = .ok (.if_icmp .ge 45, 3) := by decide +kernel
theorem dc_CH_ofSplit_25 : decode prog_4_method_2_code 25 = .ok (.lload 6, 2) := by decide +kernel
theorem dc_CH_ofSplit_27 : decode prog_4_method_2_code 27 = .ok (.aload_n 0, 1) := by decide +kernel
theorem dc_CH_ofSplit_28 : decode prog_4_method_2_code 28 = .ok (.getfield 9, 3) := by decide +kernel
theorem dc_CH_ofSplit_31 : decode prog_4_method_2_code 31 = .ok (.iload 10, 2) := by decide +kernel
theorem dc_CH_ofSplit_33 : decode prog_4_method_2_code 33 = .ok (.iaload, 1) := by decide +kernel
theorem dc_CH_ofSplit_34 : decode prog_4_method_2_code 34 = .ok (.i2l, 1) := by decide +kernel
theorem dc_CH_ofSplit_35 : decode prog_4_method_2_code 35 = .ok (.ladd, 1) := by decide +kernel
theorem dc_CH_ofSplit_36 : decode prog_4_method_2_code 36 = .ok (.lstore 6, 2) := by decide +kernel
theorem dc_CH_ofSplit_38 : decode prog_4_method_2_code 38 = .ok (.lload 8, 2) := by decide +kernel
theorem dc_CH_ofSplit_40 : decode prog_4_method_2_code 40 = .ok (.iload 10, 2) := by decide +kernel
theorem dc_CH_ofSplit_42 : decode prog_4_method_2_code 42 = .ok (.iload_n 2, 1) := by decide +kernel
theorem dc_CH_ofSplit_43 : decode prog_4_method_2_code 43 = .ok (.if_icmp .ge 14, 3) := by decide +kernel
theorem dc_CH_ofSplit_46 : decode prog_4_method_2_code 46 = .ok (.aload_n 0, 1) := by decide +kernel
theorem dc_CH_ofSplit_47 : decode prog_4_method_2_code 47 = .ok (.getfield 9, 3) := by decide +kernel
theorem dc_CH_ofSplit_50 : decode prog_4_method_2_code 50 = .ok (.iload 10, 2) := by decide +kernel
theorem dc_CH_ofSplit_52 : decode prog_4_method_2_code 52 = .ok (.iaload, 1) := by decide +kernel
theorem dc_CH_ofSplit_53 : decode prog_4_method_2_code 53 = .ok (.i2l, 1) := by decide +kernel
theorem dc_CH_ofSplit_54 : decode prog_4_method_2_code 54 = .ok (.goto 4, 3) := by decide +kernel
theorem dc_CH_ofSplit_57 : decode prog_4_method_2_code 57 = .ok (.lconst 0, 1) := by decide +kernel
theorem dc_CH_ofSplit_58 : decode prog_4_method_2_code 58 = .ok (.ladd, 1) := by decide +kernel
theorem dc_CH_ofSplit_59 : decode prog_4_method_2_code 59 = .ok (.lstore 8, 2) := by decide +kernel
theorem dc_CH_ofSplit_61 : decode prog_4_method_2_code 61 = .ok (.iinc 10 1, 3) := by decide +kernel
theorem dc_CH_ofSplit_64 : decode prog_4_method_2_code 64 = .ok (.goto (-45), 3) := by decide +kernel
theorem dc_CH_ofSplit_67 : decode prog_4_method_2_code 67 = .ok (.iload 4, 2) := by decide +kernel
theorem dc_CH_ofSplit_69 : decode prog_4_method_2_code 69 = .ok (.i2l, 1) := by decide +kernel
theorem dc_CH_ofSplit_70 : decode prog_4_method_2_code 70 = .ok (.lload 8, 2) := by decide +kernel
theorem dc_CH_ofSplit_72 : decode prog_4_method_2_code 72 = .ok (.lmul, 1) := by decide +kernel
theorem dc_CH_ofSplit_73 : decode prog_4_method_2_code 73 = .ok (.iload 5, 2) := by decide +kernel
theorem dc_CH_ofSplit_75 : decode prog_4_method_2_code 75 = .ok (.i2l, 1) := by decide +kernel
theorem dc_CH_ofSplit_76 : decode prog_4_method_2_code 76 = .ok (.lload 6, 2) := by decide +kernel
theorem dc_CH_ofSplit_78 : decode prog_4_method_2_code 78 = .ok (.lmul, 1) := by decide +kernel
theorem dc_CH_ofSplit_79 : decode prog_4_method_2_code 79 = .ok (.lsub, 1) := by decide +kernel
theorem dc_CH_ofSplit_80 : decode prog_4_method_2_code 80 = .ok (.invokestatic 15, 3) := by decide +kernel
theorem dc_CH_ofSplit_83 : decode prog_4_method_2_code 83 = .ok (.lstore 10, 2) := by decide +kernel
theorem dc_CH_ofSplit_85 : decode prog_4_method_2_code 85 = .ok (.aload_n 0, 1) := by decide +kernel
theorem dc_CH_ofSplit_86 : decode prog_4_method_2_code 86 = .ok (.iload_n 1, 1) := by decide +kernel
theorem dc_CH_ofSplit_87 : decode prog_4_method_2_code 87 = .ok (.iload_n 3, 1) := by decide +kernel
theorem dc_CH_ofSplit_88 : decode prog_4_method_2_code 88 = .ok (.iload 5, 2) := by decide +kernel
theorem dc_CH_ofSplit_90 : decode prog_4_method_2_code 90 = .ok (.iload 5, 2) := by decide +kernel
theorem dc_CH_ofSplit_92 : decode prog_4_method_2_code 92 = .ok (.ineg, 1) := by decide +kernel
theorem dc_CH_ofSplit_93 : decode prog_4_method_2_code 93 = .ok (.i2l, 1) := by decide +kernel
theorem dc_CH_ofSplit_94 : decode prog_4_method_2_code 94 = .ok (.lload 6, 2) := by decide +kernel
theorem dc_CH_ofSplit_96 : decode prog_4_method_2_code 96 = .ok (.lmul, 1) := by decide +kernel
theorem dc_CH_ofSplit_97 : decode prog_4_method_2_code 97 = .ok (.lload 10, 2) := by decide +kernel
theorem dc_CH_ofSplit_99 : decode prog_4_method_2_code 99 = .ok (.iload 4, 2) := by decide +kernel
theorem dc_CH_ofSplit_101 : decode prog_4_method_2_code 101 = .ok (.invokestatic 21, 3) := by decide +kernel
theorem dc_CH_ofSplit_104 : decode prog_4_method_2_code 104 = .ok (.iload 4, 2) := by decide +kernel
theorem dc_CH_ofSplit_106 : decode prog_4_method_2_code 106 = .ok (.iload 5, 2) := by decide +kernel
theorem dc_CH_ofSplit_108 : decode prog_4_method_2_code 108 = .ok (.invokestatic 27, 3) := by decide +kernel
theorem dc_CH_ofSplit_111 : decode prog_4_method_2_code 111 = .ok (.invokestatic 31, 3) := by decide +kernel
theorem dc_CH_ofSplit_114 : decode prog_4_method_2_code 114 = .ok (.ireturn, 1) := by decide +kernel
theorem w_CH_ofSplit_0 {G : GC} {d : Nat} {P : PT} {I : MI} {J : MJ} {o0 : Nat} (h0 : PtsAt o0) {x1 : Int32} {x2 : Int32} {x3 : Int32} (k1 : Go G (fr G m_CH_ofSplit (d + 21) P) 19 [some (.ref o0), some (.int x1), some (.int x2), some (.int x3), some (.int (x3 - x1)), some (.int (x2 - x1)), some (.long 0), none, some (.long 0), none, some (.int x1), none] [] I J) : Go G (fr G m_CH_ofSplit (d + 21) P) 0 [some (.ref o0), some (.int x1), some (.int x2), some (.int x3), none, none, none, none, none, none, none, none] [] I J := by
  refine g_iload_n dc_CH_ofSplit_0 rfl rfl rfl ?_
  refine g_iload_n dc_CH_ofSplit_1 rfl rfl rfl ?_
  refine g_isub dc_CH_ofSplit_2 rfl ?_
  refine g_istore (L' := [some (.ref o0), some (.int x1), some (.int x2), some (.int x3), some (.int (x3 - x1)), none, none, none, none, none, none, none]) dc_CH_ofSplit_3 rfl (Nat.le_of_ble_eq_true rfl) rfl ?_
  refine g_iload_n dc_CH_ofSplit_5 rfl rfl rfl ?_
  refine g_iload_n dc_CH_ofSplit_6 rfl rfl rfl ?_
  refine g_isub dc_CH_ofSplit_7 rfl ?_
  refine g_istore (L' := [some (.ref o0), some (.int x1), some (.int x2), some (.int x3), some (.int (x3 - x1)), some (.int (x2 - x1)), none, none, none, none, none, none]) dc_CH_ofSplit_8 rfl (Nat.le_of_ble_eq_true rfl) rfl ?_
  refine g_lconst (v := 0) dc_CH_ofSplit_10 rfl (by decide) ?_
  refine g_lstore (L' := [some (.ref o0), some (.int x1), some (.int x2), some (.int x3), some (.int (x3 - x1)), some (.int (x2 - x1)), some (.long 0), none, none, none, none, none]) dc_CH_ofSplit_11 rfl (Nat.le_of_ble_eq_true rfl) rfl ?_
  refine g_lconst (v := 0) dc_CH_ofSplit_13 rfl (by decide) ?_
  refine g_lstore (L' := [some (.ref o0), some (.int x1), some (.int x2), some (.int x3), some (.int (x3 - x1)), some (.int (x2 - x1)), some (.long 0), none, some (.long 0), none, none, none]) dc_CH_ofSplit_14 rfl (Nat.le_of_ble_eq_true rfl) rfl ?_
  refine g_iload_n dc_CH_ofSplit_16 rfl rfl rfl ?_
  refine g_istore (L' := [some (.ref o0), some (.int x1), some (.int x2), some (.int x3), some (.int (x3 - x1)), some (.int (x2 - x1)), some (.long 0), none, some (.long 0), none, some (.int x1), none]) dc_CH_ofSplit_17 rfl (Nat.le_of_ble_eq_true rfl) rfl ?_
  exact k1
theorem w_CH_ofSplit_19 {G : GC} {d : Nat} {P : PT} {I : MI} {J : MJ} {o0 : Nat} (h0 : PtsAt o0) {x1 : Int32} {x2 : Int32} {x3 : Int32} {x4 : Int32} {x5 : Int32} {l6 : Int64} {l8 : Int64} {x10 : Int32} (k1 : (x3 ≤ x10) → Ct G (d + 20) m_CH_waysAsFar [.ref o0, .int x1, .int x3, .int x5, .long ((Int32.toInt64 (0 - x5)) * l6), .long (f_JM_abs_J (((Int32.toInt64 x4) * l8) - ((Int32.toInt64 x5) * l6))), .int x4] (fun r I' J' => Go G (fr G m_CH_ofSplit (d + 21) P) 104 [none, none, none, none, some (.int x4), some (.int x5), none, none, none, none, none, none] (r.toList ++ []) I' J') I J) (b2 : (¬ (x3 ≤ x10)) → vp_in x10 40) (k3 : (¬ (x3 ≤ x10)) → (x2 ≤ x10) → Go G (fr G m_CH_ofSplit (d + 21) P) 58 [some (.ref o0), some (.int x1), some (.int x2), some (.int x3), some (.int x4), some (.int x5), some (.long (l6 + (Int32.toInt64 (I (o0 + 3) x10.toNatClampNeg)))), none, none, none, some (.int x10), none] [.long 0, .long l8] I J) (k4 : (¬ (x3 ≤ x10)) → (¬ (x2 ≤ x10)) → Go G (fr G m_CH_ofSplit (d + 21) P) 58 [some (.ref o0), some (.int x1), some (.int x2), some (.int x3), some (.int x4), some (.int x5), some (.long (l6 + (Int32.toInt64 (I (o0 + 3) x10.toNatClampNeg)))), none, none, none, some (.int x10), none] [.long (Int32.toInt64 (I (o0 + 3) x10.toNatClampNeg)), .long l8] I J) : Go G (fr G m_CH_ofSplit (d + 21) P) 19 [some (.ref o0), some (.int x1), some (.int x2), some (.int x3), some (.int x4), some (.int x5), some (.long l6), none, some (.long l8), none, some (.int x10), none] [] I J := by
  refine g_iload dc_CH_ofSplit_19 rfl rfl ?_
  refine g_iload_n dc_CH_ofSplit_21 rfl rfl rfl ?_
  refine g_ic_ge (tgt := 67) dc_CH_ofSplit_22 rfl (by decide) (fun c1 => ?_) (fun c1 => ?_)
  · refine g_iload dc_CH_ofSplit_67 rfl rfl ?_
    refine g_i2l dc_CH_ofSplit_69 rfl ?_
    refine g_lload dc_CH_ofSplit_70 rfl rfl ?_
    refine g_lmul dc_CH_ofSplit_72 rfl ?_
    refine g_iload dc_CH_ofSplit_73 rfl rfl ?_
    refine g_i2l dc_CH_ofSplit_75 rfl ?_
    refine g_lload dc_CH_ofSplit_76 rfl rfl ?_
    refine g_lmul dc_CH_ofSplit_78 rfl ?_
    refine g_lsub dc_CH_ofSplit_79 rfl ?_
    refine g_callS (M := m_JM_abs_J) (As := [.long (((Int32.toInt64 x4) * l8) - ((Int32.toInt64 x5) * l6))]) (rest := []) ok_JM_abs_J st_JM_abs_J ml_CH_15 rfl rfl (Nat.le_of_ble_eq_true rfl) dc_CH_ofSplit_80 rfl rOk_fr (c_JM_abs_J ?_)
    show Go G (fr G m_CH_ofSplit (d + 21) P) 83 [some (.ref o0), some (.int x1), some (.int x2), some (.int x3), some (.int x4), some (.int x5), some (.long l6), none, some (.long l8), none, some (.int x10), none] [.long (f_JM_abs_J (((Int32.toInt64 x4) * l8) - ((Int32.toInt64 x5) * l6)))] I J
    refine g_lstore (L' := [some (.ref o0), some (.int x1), some (.int x2), some (.int x3), some (.int x4), some (.int x5), some (.long l6), none, some (.long l8), none, some (.long (f_JM_abs_J (((Int32.toInt64 x4) * l8) - ((Int32.toInt64 x5) * l6)))), none]) dc_CH_ofSplit_83 rfl (Nat.le_of_ble_eq_true rfl) rfl ?_
    refine g_aload_n dc_CH_ofSplit_85 rfl rfl rfl ?_
    refine g_iload_n dc_CH_ofSplit_86 rfl rfl rfl ?_
    refine g_iload_n dc_CH_ofSplit_87 rfl rfl rfl ?_
    refine g_iload dc_CH_ofSplit_88 rfl rfl ?_
    refine g_iload dc_CH_ofSplit_90 rfl rfl ?_
    refine g_ineg dc_CH_ofSplit_92 rfl ?_
    refine g_i2l dc_CH_ofSplit_93 rfl ?_
    refine g_lload dc_CH_ofSplit_94 rfl rfl ?_
    refine g_lmul dc_CH_ofSplit_96 rfl ?_
    refine g_lload dc_CH_ofSplit_97 rfl rfl ?_
    refine g_iload dc_CH_ofSplit_99 rfl rfl ?_
    refine g_weak [none, none, none, none, some (.int x4), some (.int x5), none, none, none, none, none, none] ⟨rfl, ⟨rfl, trivial⟩⟩ ?_
    exact g_callS (As := [.ref o0, .int x1, .int x3, .int x5, .long ((Int32.toInt64 (0 - x5)) * l6), .long (f_JM_abs_J (((Int32.toInt64 x4) * l8) - ((Int32.toInt64 x5) * l6))), .int x4]) (rest := []) ok_CH_waysAsFar st_CH_waysAsFar ml_CH_21 rfl rfl (Nat.le_of_ble_eq_true rfl) dc_CH_ofSplit_101 rfl rOk_fr (k1 c1)
  · refine g_lload dc_CH_ofSplit_25 rfl rfl ?_
    refine g_aload_n dc_CH_ofSplit_27 rfl rfl rfl ?_
    refine g_get (C := "LevelBreaks$Points") (T := T_PO) (N := 5) (k := 2) (v := .ref (o0 + 3)) h0.1 (by decide) rfl rfl i_PO (by decide) fl_CH_9 (Or.inl rfl) rfl dc_CH_ofSplit_28 rfl ?_
    refine g_iload dc_CH_ofSplit_31 rfl rfl ?_
    refine g_ialdv (v := (I (o0 + 3) x10.toNatClampNeg)) h0.2.2.2.1 (b2 c1) rfl dc_CH_ofSplit_33 rfl ?_
    refine g_i2l dc_CH_ofSplit_34 rfl ?_
    refine g_ladd dc_CH_ofSplit_35 rfl ?_
    refine g_lstore (L' := [some (.ref o0), some (.int x1), some (.int x2), some (.int x3), some (.int x4), some (.int x5), some (.long (l6 + (Int32.toInt64 (I (o0 + 3) x10.toNatClampNeg)))), none, some (.long l8), none, some (.int x10), none]) dc_CH_ofSplit_36 rfl (Nat.le_of_ble_eq_true rfl) rfl ?_
    refine g_lload dc_CH_ofSplit_38 rfl rfl ?_
    refine g_iload dc_CH_ofSplit_40 rfl rfl ?_
    refine g_iload_n dc_CH_ofSplit_42 rfl rfl rfl ?_
    refine g_ic_ge (tgt := 57) dc_CH_ofSplit_43 rfl (by decide) (fun c2 => ?_) (fun c2 => ?_)
    · refine g_lconst (v := 0) dc_CH_ofSplit_57 rfl (by decide) ?_
      refine g_weak [some (.ref o0), some (.int x1), some (.int x2), some (.int x3), some (.int x4), some (.int x5), some (.long (l6 + (Int32.toInt64 (I (o0 + 3) x10.toNatClampNeg)))), none, none, none, some (.int x10), none] ⟨rfl, ⟨rfl, ⟨rfl, ⟨rfl, ⟨rfl, ⟨rfl, ⟨rfl, ⟨rfl, trivial⟩⟩⟩⟩⟩⟩⟩⟩ ?_
      exact (k3 c1 c2)
    · refine g_aload_n dc_CH_ofSplit_46 rfl rfl rfl ?_
      refine g_get (C := "LevelBreaks$Points") (T := T_PO) (N := 5) (k := 2) (v := .ref (o0 + 3)) h0.1 (by decide) rfl rfl i_PO (by decide) fl_CH_9 (Or.inl rfl) rfl dc_CH_ofSplit_47 rfl ?_
      refine g_iload dc_CH_ofSplit_50 rfl rfl ?_
      refine g_ialdv (v := (I (o0 + 3) x10.toNatClampNeg)) h0.2.2.2.1 (b2 c1) rfl dc_CH_ofSplit_52 rfl ?_
      refine g_i2l dc_CH_ofSplit_53 rfl ?_
      refine g_goto (tgt := 58) dc_CH_ofSplit_54 (by decide) ?_
      refine g_weak [some (.ref o0), some (.int x1), some (.int x2), some (.int x3), some (.int x4), some (.int x5), some (.long (l6 + (Int32.toInt64 (I (o0 + 3) x10.toNatClampNeg)))), none, none, none, some (.int x10), none] ⟨rfl, ⟨rfl, ⟨rfl, ⟨rfl, ⟨rfl, ⟨rfl, ⟨rfl, ⟨rfl, trivial⟩⟩⟩⟩⟩⟩⟩⟩ ?_
      exact (k4 c1 c2)
theorem w_CH_ofSplit_58 {G : GC} {d : Nat} {P : PT} {I : MI} {J : MJ} {o0 : Nat} (h0 : PtsAt o0) {x1 : Int32} {x2 : Int32} {x3 : Int32} {x4 : Int32} {x5 : Int32} {l6 : Int64} {x10 : Int32} {s0 : Int64} {s1 : Int64} (k1 : Go G (fr G m_CH_ofSplit (d + 21) P) 19 [some (.ref o0), some (.int x1), some (.int x2), some (.int x3), some (.int x4), some (.int x5), some (.long l6), none, some (.long (s0 + s1)), none, some (.int (x10 + 1)), none] [] I J) : Go G (fr G m_CH_ofSplit (d + 21) P) 58 [some (.ref o0), some (.int x1), some (.int x2), some (.int x3), some (.int x4), some (.int x5), some (.long l6), none, none, none, some (.int x10), none] [.long s1, .long s0] I J := by
  refine g_ladd dc_CH_ofSplit_58 rfl ?_
  refine g_lstore (L' := [some (.ref o0), some (.int x1), some (.int x2), some (.int x3), some (.int x4), some (.int x5), some (.long l6), none, some (.long (s0 + s1)), none, some (.int x10), none]) dc_CH_ofSplit_59 rfl (Nat.le_of_ble_eq_true rfl) rfl ?_
  refine g_iinc (v := (x10 + 1)) (L' := [some (.ref o0), some (.int x1), some (.int x2), some (.int x3), some (.int x4), some (.int x5), some (.long l6), none, some (.long (s0 + s1)), none, some (.int (x10 + 1)), none]) dc_CH_ofSplit_61 rfl rfl (by rw [show Int32.ofInt 1 = 1 from by decide]) (Nat.le_of_ble_eq_true rfl) rfl ?_
  refine g_goto (tgt := 19) dc_CH_ofSplit_64 (by decide) ?_
  exact k1
theorem w_CH_ofSplit_104 {G : GC} {d : Nat} {P : PT} {I : MI} {J : MJ} {x4 : Int32} {x5 : Int32} {s0 : Int64} (k1 : Ct G (d + 20) m_CH_ways [.int x4, .int x5] (fun r I' J' => Go G (fr G m_CH_ofSplit (d + 21) P) 111 [none, none, none, none, none, none, none, none, none, none, none, none] (r.toList ++ [.long s0]) I' J') I J) : Go G (fr G m_CH_ofSplit (d + 21) P) 104 [none, none, none, none, some (.int x4), some (.int x5), none, none, none, none, none, none] [.long s0] I J := by
  refine g_iload dc_CH_ofSplit_104 rfl rfl ?_
  refine g_iload dc_CH_ofSplit_106 rfl rfl ?_
  refine g_weak [none, none, none, none, none, none, none, none, none, none, none, none] trivial ?_
  exact g_callS (As := [.int x4, .int x5]) (rest := [.long s0]) ok_CH_ways st_CH_ways ml_CH_27 rfl rfl (Nat.le_of_ble_eq_true rfl) dc_CH_ofSplit_108 rfl rOk_fr k1
theorem w_CH_ofSplit_111 {G : GC} {d : Nat} {P : PT} {I : MI} {J : MJ} {s0 : Int64} {s1 : Int64} (k1 : Ct G (d + 20) m_CH_millionths [.long s0, .long s1] (fun r I' J' => Go G (fr G m_CH_ofSplit (d + 21) P) 114 [none, none, none, none, none, none, none, none, none, none, none, none] (r.toList ++ []) I' J') I J) : Go G (fr G m_CH_ofSplit (d + 21) P) 111 [none, none, none, none, none, none, none, none, none, none, none, none] [.long s1, .long s0] I J := by
  exact g_callS (As := [.long s0, .long s1]) (rest := []) ok_CH_millionths st_CH_millionths ml_CH_31 rfl rfl (Nat.le_of_ble_eq_true rfl) dc_CH_ofSplit_111 rfl rOk_fr k1
theorem w_CH_ofSplit_114 {G : GC} {d : Nat} {P : PT} {I : MI} {J : MJ} {y0 : Int32} (q1 : P (some (.int y0)) I J) : Go G (fr G m_CH_ofSplit (d + 21) P) 114 [none, none, none, none, none, none, none, none, none, none, none, none] [.int y0] I J := by
  exact g_iret rfl dc_CH_ofSplit_114 q1
theorem dc_CH_ways_0 : decode prog_4_method_5_code 0 = .ok (.iload_n 1, 1) := by decide +kernel
theorem dc_CH_ways_1 : decode prog_4_method_5_code 1 = .ok (.ifCond .lt 8, 3) := by decide +kernel
theorem dc_CH_ways_4 : decode prog_4_method_5_code 4 = .ok (.iload_n 1, 1) := by decide +kernel
theorem dc_CH_ways_5 : decode prog_4_method_5_code 5 = .ok (.iload_n 0, 1) := by decide +kernel
theorem dc_CH_ways_6 : decode prog_4_method_5_code 6 = .ok (.if_icmp .le 5, 3) := by decide +kernel
theorem dc_CH_ways_9 : decode prog_4_method_5_code 9 = .ok (.lconst 0, 1) := by decide +kernel
theorem dc_CH_ways_10 : decode prog_4_method_5_code 10 = .ok (.lreturn, 1) := by decide +kernel
theorem dc_CH_ways_11 : decode prog_4_method_5_code 11 = .ok (.lconst 1, 1) := by decide +kernel
theorem dc_CH_ways_12 : decode prog_4_method_5_code 12 = .ok (.lstore_n 2, 1) := by decide +kernel
theorem dc_CH_ways_13 : decode prog_4_method_5_code 13 = .ok (.iconst 1, 1) := by decide +kernel
theorem dc_CH_ways_14 : decode prog_4_method_5_code 14 = .ok (.istore 4, 2) := by decide +kernel
theorem dc_CH_ways_16 : decode prog_4_method_5_code 16 = .ok (.iload 4, 2) := by decide +kernel
theorem dc_CH_ways_18 : decode prog_4_method_5_code 18 = .ok (.iload_n 1, 1) := by decide +kernel
theorem dc_CH_ways_19 : decode prog_4_method_5_code 19 = .ok (.if_icmp .gt 23, 3) := by decide +kernel
theorem dc_CH_ways_22 : decode prog_4_method_5_code 22 = .ok (.lload_n 2, 1) := by decide +kernel
theorem dc_CH_ways_23 : decode prog_4_method_5_code 23 = .ok (.iload_n 0, 1) := by decide +kernel
theorem dc_CH_ways_24 : decode prog_4_method_5_code 24 = .ok (.iload_n 1, 1) := by decide +kernel
theorem dc_CH_ways_25 : decode prog_4_method_5_code 25 = .ok (.isub, 1) := by decide +kernel
theorem dc_CH_ways_26 : decode prog_4_method_5_code 26 = .ok (.iload 4, 2) := by decide +kernel
theorem dc_CH_ways_28 : decode prog_4_method_5_code 28 = .ok (.iadd, 1) := by decide +kernel
theorem dc_CH_ways_29 : decode prog_4_method_5_code 29 = .ok (.i2l, 1) := by decide +kernel
theorem dc_CH_ways_30 : decode prog_4_method_5_code 30 = .ok (.lmul, 1) := by decide +kernel
theorem dc_CH_ways_31 : decode prog_4_method_5_code 31 = .ok (.iload 4, 2) := by decide +kernel
theorem dc_CH_ways_33 : decode prog_4_method_5_code 33 = .ok (.i2l, 1) := by decide +kernel
theorem dc_CH_ways_34 : decode prog_4_method_5_code 34 = .ok (.ldiv, 1) := by decide +kernel
theorem dc_CH_ways_35 : decode prog_4_method_5_code 35 = .ok (.lstore_n 2, 1) := by decide +kernel
theorem dc_CH_ways_36 : decode prog_4_method_5_code 36 = .ok (.iinc 4 1, 3) := by decide +kernel
theorem dc_CH_ways_39 : decode prog_4_method_5_code 39 = .ok (.goto (-23), 3) := by decide +kernel
theorem dc_CH_ways_42 : decode prog_4_method_5_code 42 = .ok (.lload_n 2, 1) := by decide +kernel
theorem dc_CH_ways_43 : decode prog_4_method_5_code 43 = .ok (.lreturn, 1) := by decide +kernel
theorem w_CH_ways_0 {G : GC} {d : Nat} {P : PT} {I : MI} {J : MJ} {x0 : Int32} {x1 : Int32} (k1 : (x1 < 0) → Go G (fr G m_CH_ways d P) 9 [none, none, none, none, none] [] I J) (k2 : (¬ (x1 < 0)) → (x1 ≤ x0) → Go G (fr G m_CH_ways d P) 16 [some (.int x0), some (.int x1), some (.long 1), none, some (.int 1)] [] I J) (k3 : (¬ (x1 < 0)) → (¬ (x1 ≤ x0)) → Go G (fr G m_CH_ways d P) 9 [none, none, none, none, none] [] I J) : Go G (fr G m_CH_ways d P) 0 [some (.int x0), some (.int x1), none, none, none] [] I J := by
  refine g_iload_n dc_CH_ways_0 rfl rfl rfl ?_
  refine g_if_lt (tgt := 9) dc_CH_ways_1 rfl (by decide) (fun c1 => ?_) (fun c1 => ?_)
  · refine g_weak [none, none, none, none, none] trivial ?_
    exact (k1 c1)
  · refine g_iload_n dc_CH_ways_4 rfl rfl rfl ?_
    refine g_iload_n dc_CH_ways_5 rfl rfl rfl ?_
    refine g_ic_le (tgt := 11) dc_CH_ways_6 rfl (by decide) (fun c2 => ?_) (fun c2 => ?_)
    · refine g_lconst (v := 1) dc_CH_ways_11 rfl (by decide) ?_
      refine g_lstore_n (L' := [some (.int x0), some (.int x1), some (.long 1), none, none]) dc_CH_ways_12 rfl rfl (Nat.le_of_ble_eq_true rfl) rfl ?_
      refine g_iconst (v := 1) dc_CH_ways_13 rfl (by decide) ?_
      refine g_istore (L' := [some (.int x0), some (.int x1), some (.long 1), none, some (.int 1)]) dc_CH_ways_14 rfl (Nat.le_of_ble_eq_true rfl) rfl ?_
      exact (k2 c1 c2)
    · refine g_weak [none, none, none, none, none] trivial ?_
      exact (k3 c1 c2)
theorem w_CH_ways_9 {G : GC} {d : Nat} {P : PT} {I : MI} {J : MJ}  (q1 : P (some (.long 0)) I J) : Go G (fr G m_CH_ways d P) 9 [none, none, none, none, none] [] I J := by
  refine g_lconst (v := 0) dc_CH_ways_9 rfl (by decide) ?_
  exact g_lret rfl dc_CH_ways_10 q1
theorem w_CH_ways_16 {G : GC} {d : Nat} {P : PT} {I : MI} {J : MJ} {x0 : Int32} {x1 : Int32} {l2 : Int64} {x4 : Int32} (q1 : (x1 < x4) → P (some (.long l2)) I J) (z2 : (¬ (x1 < x4)) → ¬ (Int32.toInt64 x4) = 0) (k3 : (¬ (x1 < x4)) → Go G (fr G m_CH_ways d P) 16 [some (.int x0), some (.int x1), some (.long ((l2 * (Int32.toInt64 ((x0 - x1) + x4))) / (Int32.toInt64 x4))), none, some (.int (x4 + 1))] [] I J) : Go G (fr G m_CH_ways d P) 16 [some (.int x0), some (.int x1), some (.long l2), none, some (.int x4)] [] I J := by
  refine g_iload dc_CH_ways_16 rfl rfl ?_
  refine g_iload_n dc_CH_ways_18 rfl rfl rfl ?_
  refine g_ic_gt (tgt := 42) dc_CH_ways_19 rfl (by decide) (fun c1 => ?_) (fun c1 => ?_)
  · refine g_lload_n dc_CH_ways_42 rfl rfl rfl ?_
    exact g_lret rfl dc_CH_ways_43 (q1 c1)
  · refine g_lload_n dc_CH_ways_22 rfl rfl rfl ?_
    refine g_iload_n dc_CH_ways_23 rfl rfl rfl ?_
    refine g_iload_n dc_CH_ways_24 rfl rfl rfl ?_
    refine g_isub dc_CH_ways_25 rfl ?_
    refine g_iload dc_CH_ways_26 rfl rfl ?_
    refine g_iadd dc_CH_ways_28 rfl ?_
    refine g_i2l dc_CH_ways_29 rfl ?_
    refine g_lmul dc_CH_ways_30 rfl ?_
    refine g_iload dc_CH_ways_31 rfl rfl ?_
    refine g_i2l dc_CH_ways_33 rfl ?_
    refine g_ldiv dc_CH_ways_34 rfl (z2 c1) ?_
    refine g_lstore_n (L' := [some (.int x0), some (.int x1), some (.long ((l2 * (Int32.toInt64 ((x0 - x1) + x4))) / (Int32.toInt64 x4))), none, some (.int x4)]) dc_CH_ways_35 rfl rfl (Nat.le_of_ble_eq_true rfl) rfl ?_
    refine g_iinc (v := (x4 + 1)) (L' := [some (.int x0), some (.int x1), some (.long ((l2 * (Int32.toInt64 ((x0 - x1) + x4))) / (Int32.toInt64 x4))), none, some (.int (x4 + 1))]) dc_CH_ways_36 rfl rfl (by rw [show Int32.ofInt 1 = 1 from by decide]) (Nat.le_of_ble_eq_true rfl) rfl ?_
    refine g_goto (tgt := 16) dc_CH_ways_39 (by decide) ?_
    exact (k3 c1)
theorem dc_CH_waysAsFar_0 : decode prog_4_method_3_code 0 = .ok (.iload_n 3, 1) := by decide +kernel
theorem dc_CH_waysAsFar_1 : decode prog_4_method_3_code 1 = .ok (.ifCond .ne 20, 3) := by decide +kernel
theorem dc_CH_waysAsFar_4 : decode prog_4_method_3_code 4 = .ok (.lload 4, 2) := by decide +kernel
theorem dc_CH_waysAsFar_6 : decode prog_4_method_3_code 6 = .ok (.invokestatic 15, 3) := by decide +kernel
theorem dc_CH_waysAsFar_9 : decode prog_4_method_3_code 9 = .ok (.lload 6, 2) := by decide +kernel
theorem dc_CH_waysAsFar_11 : decode prog_4_method_3_code 11 = .ok (.lcmp, 1) := by decide +kernel
theorem dc_CH_waysAsFar_12 : decode prog_4_method_3_code 12 = .ok (.ifCond .lt 7, 3) := by decide +kernel
theorem dc_CH_waysAsFar_15 : decode prog_4_method_3_code 15 = .ok (.lconst 1, 1) := by decide +kernel
theorem dc_CH_waysAsFar_16 : decode prog_4_method_3_code 16 = .ok (.goto 4, 3) := by decide +kernel
theorem dc_CH_waysAsFar_19 : decode prog_4_method_3_code 19 = .ok (.lconst 0, 1) := by decide +kernel
theorem dc_CH_waysAsFar_20 : decode prog_4_method_3_code 20 = .ok (.lreturn, 1) := by decide +kernel
theorem dc_CH_waysAsFar_21 : decode prog_4_method_3_code 21 = .ok (.iload_n 2, 1) := by decide +kernel
theorem dc_CH_waysAsFar_22 : decode prog_4_method_3_code 22 = .ok (.iload_n 1, 1) := by decide +kernel
theorem dc_CH_waysAsFar_23 : decode prog_4_method_3_code 23 = .ok (.isub, 1) := by decide +kernel
theorem dc_CH_waysAsFar_24 : decode prog_4_method_3_code 24 = .ok (.iload_n 3, 1) := by decide +kernel
theorem dc_CH_waysAsFar_25 : decode prog_4_method_3_code 25 = .ok (.if_icmp .lt 11, 3) := by decide +kernel
theorem dc_CH_waysAsFar_28 : decode prog_4_method_3_code 28 = .ok (.iload_n 2, 1) := by decide +kernel
theorem dc_CH_waysAsFar_29 : decode prog_4_method_3_code 29 = .ok (.iload_n 1, 1) := by decide +kernel
theorem dc_CH_waysAsFar_30 : decode prog_4_method_3_code 30 = .ok (.isub, 1) := by decide +kernel
theorem dc_CH_waysAsFar_31 : decode prog_4_method_3_code 31 = .ok (.bipush 16, 2) := by decide +kernel
theorem dc_CH_waysAsFar_33 : decode prog_4_method_3_code 33 = .ok (.if_icmp .le 5, 3) := by decide +kernel
theorem dc_CH_waysAsFar_36 : decode prog_4_method_3_code 36 = .ok (.lconst 0, 1) := by decide +kernel
theorem dc_CH_waysAsFar_37 : decode prog_4_method_3_code 37 = .ok (.lreturn, 1) := by decide +kernel
theorem dc_CH_waysAsFar_38 : decode prog_4_method_3_code 38 = .ok (.iload 8, 2) := by decide +kernel
theorem dc_CH_waysAsFar_40 : decode prog_4_method_3_code 40 = .ok (.i2l, 1) := by decide +kernel
theorem dc_CH_waysAsFar_41 : decode prog_4_method_3_code 41 = .ok (.aload_n 0, 1) := by decide +kernel
theorem dc_CH_waysAsFar_42 : decode prog_4_method_3_code 42 = .ok (.getfield 9, 3) := by decide +kernel
theorem dc_CH_waysAsFar_45 : decode prog_4_method_3_code 45 = .ok (.iload_n 1, 1) := by decide +kernel
theorem dc_CH_waysAsFar_46 : decode prog_4_method_3_code 46 = .ok (.iaload, 1) := by decide +kernel
theorem dc_CH_waysAsFar_47 : decode prog_4_method_3_code 47 = .ok (.i2l, 1) := by decide +kernel
theorem dc_CH_waysAsFar_48 : decode prog_4_method_3_code 48 = .ok (.lmul, 1) := by decide +kernel
theorem dc_CH_waysAsFar_49 : decode prog_4_method_3_code 49 = .ok (.lstore 9, 2) := by decide +kernel
theorem dc_CH_waysAsFar_51 : decode prog_4_method_3_code 51 = .ok (.aload_n 0, 1) := by decide +kernel
theorem dc_CH_waysAsFar_52 : decode prog_4_method_3_code 52 = .ok (.iload_n 1, 1) := by decide +kernel
theorem dc_CH_waysAsFar_53 : decode prog_4_method_3_code 53 = .ok (.iconst 1, 1) := by decide +kernel
theorem dc_CH_waysAsFar_54 : decode prog_4_method_3_code 54 = .ok (.iadd, 1) := by decide +kernel
theorem dc_CH_waysAsFar_55 : decode prog_4_method_3_code 55 = .ok (.iload_n 2, 1) := by decide +kernel
theorem dc_CH_waysAsFar_56 : decode prog_4_method_3_code 56 = .ok (.iload_n 3, 1) := by decide +kernel
theorem dc_CH_waysAsFar_57 : decode prog_4_method_3_code 57 = .ok (.iconst 1, 1) := by decide +kernel
theorem dc_CH_waysAsFar_58 : decode prog_4_method_3_code 58 = .ok (.isub, 1) := by decide +kernel
theorem dc_CH_waysAsFar_59 : decode prog_4_method_3_code 59 = .ok (.lload 4, 2) := by decide +kernel
theorem dc_CH_waysAsFar_61 : decode prog_4_method_3_code 61 = .ok (.lload 9, 2) := by decide +kernel
theorem dc_CH_waysAsFar_63 : decode prog_4_method_3_code 63 = .ok (.ladd, 1) := by decide +kernel
theorem dc_CH_waysAsFar_64 : decode prog_4_method_3_code 64 = .ok (.lload 6, 2) := by decide +kernel
theorem dc_CH_waysAsFar_66 : decode prog_4_method_3_code 66 = .ok (.iload 8, 2) := by decide +kernel
theorem dc_CH_waysAsFar_68 : decode prog_4_method_3_code 68 = .ok (.invokestatic 21, 3) := by decide +kernel
theorem dc_CH_waysAsFar_71 : decode prog_4_method_3_code 71 = .ok (.aload_n 0, 1) := by decide +kernel
theorem dc_CH_waysAsFar_72 : decode prog_4_method_3_code 72 = .ok (.iload_n 1, 1) := by decide +kernel
theorem dc_CH_waysAsFar_73 : decode prog_4_method_3_code 73 = .ok (.iconst 1, 1) := by decide +kernel
theorem dc_CH_waysAsFar_74 : decode prog_4_method_3_code 74 = .ok (.iadd, 1) := by decide +kernel
theorem dc_CH_waysAsFar_75 : decode prog_4_method_3_code 75 = .ok (.iload_n 2, 1) := by decide +kernel
theorem dc_CH_waysAsFar_76 : decode prog_4_method_3_code 76 = .ok (.iload_n 3, 1) := by decide +kernel
theorem dc_CH_waysAsFar_77 : decode prog_4_method_3_code 77 = .ok (.lload 4, 2) := by decide +kernel
theorem dc_CH_waysAsFar_79 : decode prog_4_method_3_code 79 = .ok (.lload 6, 2) := by decide +kernel
theorem dc_CH_waysAsFar_81 : decode prog_4_method_3_code 81 = .ok (.iload 8, 2) := by decide +kernel
theorem dc_CH_waysAsFar_83 : decode prog_4_method_3_code 83 = .ok (.invokestatic 21, 3) := by decide +kernel
theorem dc_CH_waysAsFar_86 : decode prog_4_method_3_code 86 = .ok (.ladd, 1) := by decide +kernel
theorem dc_CH_waysAsFar_87 : decode prog_4_method_3_code 87 = .ok (.lreturn, 1) := by decide +kernel
theorem w_CH_waysAsFar_0 {G : GC} {d : Nat} {P : PT} {I : MI} {J : MJ} {o0 : Nat} (h0 : PtsAt o0) {x1 : Int32} {x2 : Int32} {x3 : Int32} {l4 : Int64} {l6 : Int64} {x8 : Int32} (k1 : (¬ x3 = 0) → ((x2 - x1) < x3) → Go G (fr G m_CH_waysAsFar (d + 1) P) 36 [none, none, none, none, none, none, none, none, none, none, none] [] I J) (b2 : (¬ x3 = 0) → (¬ ((x2 - x1) < x3)) → ((x2 - x1) ≤ 16) → vp_in x1 40) (k3 : (¬ x3 = 0) → (¬ ((x2 - x1) < x3)) → ((x2 - x1) ≤ 16) → Ct G d m_CH_waysAsFar [.ref o0, .int (x1 + 1), .int x2, .int (x3 - 1), .long (l4 + ((Int32.toInt64 x8) * (Int32.toInt64 (I (o0 + 3) x1.toNatClampNeg)))), .long l6, .int x8] (fun r I' J' => Go G (fr G m_CH_waysAsFar (d + 1) P) 71 [some (.ref o0), some (.int x1), some (.int x2), some (.int x3), some (.long l4), none, some (.long l6), none, some (.int x8), none, none] (r.toList ++ []) I' J') I J) (k4 : (¬ x3 = 0) → (¬ ((x2 - x1) < x3)) → (¬ ((x2 - x1) ≤ 16)) → Go G (fr G m_CH_waysAsFar (d + 1) P) 36 [none, none, none, none, none, none, none, none, none, none, none] [] I J) (q5 : (x3 = 0) → ((f_JM_abs_J l4) < l6) → P (some (.long 0)) I J) (q6 : (x3 = 0) → (¬ ((f_JM_abs_J l4) < l6)) → P (some (.long 1)) I J) : Go G (fr G m_CH_waysAsFar (d + 1) P) 0 [some (.ref o0), some (.int x1), some (.int x2), some (.int x3), some (.long l4), none, some (.long l6), none, some (.int x8), none, none] [] I J := by
  refine g_iload_n dc_CH_waysAsFar_0 rfl rfl rfl ?_
  refine g_if_ne (tgt := 21) dc_CH_waysAsFar_1 rfl (by decide) (fun c1 => ?_) (fun c1 => ?_)
  · refine g_iload_n dc_CH_waysAsFar_21 rfl rfl rfl ?_
    refine g_iload_n dc_CH_waysAsFar_22 rfl rfl rfl ?_
    refine g_isub dc_CH_waysAsFar_23 rfl ?_
    refine g_iload_n dc_CH_waysAsFar_24 rfl rfl rfl ?_
    refine g_ic_lt (tgt := 36) dc_CH_waysAsFar_25 rfl (by decide) (fun c2 => ?_) (fun c2 => ?_)
    · refine g_weak [none, none, none, none, none, none, none, none, none, none, none] trivial ?_
      exact (k1 c1 c2)
    · refine g_iload_n dc_CH_waysAsFar_28 rfl rfl rfl ?_
      refine g_iload_n dc_CH_waysAsFar_29 rfl rfl rfl ?_
      refine g_isub dc_CH_waysAsFar_30 rfl ?_
      refine g_bipush (v := 16) dc_CH_waysAsFar_31 rfl (by decide) ?_
      refine g_ic_le (tgt := 38) dc_CH_waysAsFar_33 rfl (by decide) (fun c3 => ?_) (fun c3 => ?_)
      · refine g_iload dc_CH_waysAsFar_38 rfl rfl ?_
        refine g_i2l dc_CH_waysAsFar_40 rfl ?_
        refine g_aload_n dc_CH_waysAsFar_41 rfl rfl rfl ?_
        refine g_get (C := "LevelBreaks$Points") (T := T_PO) (N := 5) (k := 2) (v := .ref (o0 + 3)) h0.1 (by decide) rfl rfl i_PO (by decide) fl_CH_9 (Or.inl rfl) rfl dc_CH_waysAsFar_42 rfl ?_
        refine g_iload_n dc_CH_waysAsFar_45 rfl rfl rfl ?_
        refine g_ialdv (v := (I (o0 + 3) x1.toNatClampNeg)) h0.2.2.2.1 (b2 c1 c2 c3) rfl dc_CH_waysAsFar_46 rfl ?_
        refine g_i2l dc_CH_waysAsFar_47 rfl ?_
        refine g_lmul dc_CH_waysAsFar_48 rfl ?_
        refine g_lstore (L' := [some (.ref o0), some (.int x1), some (.int x2), some (.int x3), some (.long l4), none, some (.long l6), none, some (.int x8), some (.long ((Int32.toInt64 x8) * (Int32.toInt64 (I (o0 + 3) x1.toNatClampNeg)))), none]) dc_CH_waysAsFar_49 rfl (Nat.le_of_ble_eq_true rfl) rfl ?_
        refine g_aload_n dc_CH_waysAsFar_51 rfl rfl rfl ?_
        refine g_iload_n dc_CH_waysAsFar_52 rfl rfl rfl ?_
        refine g_iconst (v := 1) dc_CH_waysAsFar_53 rfl (by decide) ?_
        refine g_iadd dc_CH_waysAsFar_54 rfl ?_
        refine g_iload_n dc_CH_waysAsFar_55 rfl rfl rfl ?_
        refine g_iload_n dc_CH_waysAsFar_56 rfl rfl rfl ?_
        refine g_iconst (v := 1) dc_CH_waysAsFar_57 rfl (by decide) ?_
        refine g_isub dc_CH_waysAsFar_58 rfl ?_
        refine g_lload dc_CH_waysAsFar_59 rfl rfl ?_
        refine g_lload dc_CH_waysAsFar_61 rfl rfl ?_
        refine g_ladd dc_CH_waysAsFar_63 rfl ?_
        refine g_lload dc_CH_waysAsFar_64 rfl rfl ?_
        refine g_iload dc_CH_waysAsFar_66 rfl rfl ?_
        refine g_weak [some (.ref o0), some (.int x1), some (.int x2), some (.int x3), some (.long l4), none, some (.long l6), none, some (.int x8), none, none] ⟨rfl, ⟨rfl, ⟨rfl, ⟨rfl, ⟨rfl, ⟨rfl, ⟨rfl, trivial⟩⟩⟩⟩⟩⟩⟩ ?_
        exact g_callS (As := [.ref o0, .int (x1 + 1), .int x2, .int (x3 - 1), .long (l4 + ((Int32.toInt64 x8) * (Int32.toInt64 (I (o0 + 3) x1.toNatClampNeg)))), .long l6, .int x8]) (rest := []) ok_CH_waysAsFar st_CH_waysAsFar ml_CH_21 rfl rfl (Nat.le_of_ble_eq_true rfl) dc_CH_waysAsFar_68 rfl rOk_fr (k3 c1 c2 c3)
      · refine g_weak [none, none, none, none, none, none, none, none, none, none, none] trivial ?_
        exact (k4 c1 c2 c3)
  · refine g_lload dc_CH_waysAsFar_4 rfl rfl ?_
    refine g_callS (M := m_JM_abs_J) (As := [.long l4]) (rest := []) ok_JM_abs_J st_JM_abs_J ml_CH_15 rfl rfl (Nat.le_of_ble_eq_true rfl) dc_CH_waysAsFar_6 rfl rOk_fr (c_JM_abs_J ?_)
    show Go G (fr G m_CH_waysAsFar (d + 1) P) 9 [some (.ref o0), some (.int x1), some (.int x2), some (.int x3), some (.long l4), none, some (.long l6), none, some (.int x8), none, none] [.long (f_JM_abs_J l4)] I J
    refine g_lload dc_CH_waysAsFar_9 rfl rfl ?_
    refine g_lc_lt (tgt := 19) dc_CH_waysAsFar_11 rfl dc_CH_waysAsFar_12 rfl (by decide) (fun c4 => ?_) (fun c4 => ?_)
    · refine g_lconst (v := 0) dc_CH_waysAsFar_19 rfl (by decide) ?_
      exact g_lret rfl dc_CH_waysAsFar_20 (q5 c1 c4)
    · refine g_lconst (v := 1) dc_CH_waysAsFar_15 rfl (by decide) ?_
      refine g_goto (tgt := 20) dc_CH_waysAsFar_16 (by decide) ?_
      exact g_lret rfl dc_CH_waysAsFar_20 (q6 c1 c4)
theorem w_CH_waysAsFar_36 {G : GC} {d : Nat} {P : PT} {I : MI} {J : MJ}  (q1 : P (some (.long 0)) I J) : Go G (fr G m_CH_waysAsFar (d + 1) P) 36 [none, none, none, none, none, none, none, none, none, none, none] [] I J := by
  refine g_lconst (v := 0) dc_CH_waysAsFar_36 rfl (by decide) ?_
  exact g_lret rfl dc_CH_waysAsFar_37 q1
theorem w_CH_waysAsFar_71 {G : GC} {d : Nat} {P : PT} {I : MI} {J : MJ} {o0 : Nat} (h0 : PtsAt o0) {x1 : Int32} {x2 : Int32} {x3 : Int32} {l4 : Int64} {l6 : Int64} {x8 : Int32} {s0 : Int64} (k1 : Ct G d m_CH_waysAsFar [.ref o0, .int (x1 + 1), .int x2, .int x3, .long l4, .long l6, .int x8] (fun r I' J' => Go G (fr G m_CH_waysAsFar (d + 1) P) 86 [none, none, none, none, none, none, none, none, none, none, none] (r.toList ++ [.long s0]) I' J') I J) : Go G (fr G m_CH_waysAsFar (d + 1) P) 71 [some (.ref o0), some (.int x1), some (.int x2), some (.int x3), some (.long l4), none, some (.long l6), none, some (.int x8), none, none] [.long s0] I J := by
  refine g_aload_n dc_CH_waysAsFar_71 rfl rfl rfl ?_
  refine g_iload_n dc_CH_waysAsFar_72 rfl rfl rfl ?_
  refine g_iconst (v := 1) dc_CH_waysAsFar_73 rfl (by decide) ?_
  refine g_iadd dc_CH_waysAsFar_74 rfl ?_
  refine g_iload_n dc_CH_waysAsFar_75 rfl rfl rfl ?_
  refine g_iload_n dc_CH_waysAsFar_76 rfl rfl rfl ?_
  refine g_lload dc_CH_waysAsFar_77 rfl rfl ?_
  refine g_lload dc_CH_waysAsFar_79 rfl rfl ?_
  refine g_iload dc_CH_waysAsFar_81 rfl rfl ?_
  refine g_weak [none, none, none, none, none, none, none, none, none, none, none] trivial ?_
  exact g_callS (As := [.ref o0, .int (x1 + 1), .int x2, .int x3, .long l4, .long l6, .int x8]) (rest := [.long s0]) ok_CH_waysAsFar st_CH_waysAsFar ml_CH_21 rfl rfl (Nat.le_of_ble_eq_true rfl) dc_CH_waysAsFar_83 rfl rOk_fr k1
theorem w_CH_waysAsFar_86 {G : GC} {d : Nat} {P : PT} {I : MI} {J : MJ} {s0 : Int64} {s1 : Int64} (q1 : P (some (.long (s0 + s1))) I J) : Go G (fr G m_CH_waysAsFar (d + 1) P) 86 [none, none, none, none, none, none, none, none, none, none, none] [.long s1, .long s0] I J := by
  refine g_ladd dc_CH_waysAsFar_86 rfl ?_
  exact g_lret rfl dc_CH_waysAsFar_87 q1
