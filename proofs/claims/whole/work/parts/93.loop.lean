/-! ===== the law's loop (printed) ===== -/
theorem and31 (x : Int32) : ∃ c : Nat, c < 32 ∧ x &&& 31 = nI c := by
  refine ⟨x.toBitVec.toNat % 32, Nat.mod_lt _ (by decide), ?_⟩
  apply Int32.toBitVec_inj.mp
  apply BitVec.eq_of_toNat_eq
  have h1 : (x &&& 31).toBitVec.toNat = x.toBitVec.toNat % 32 := by
    rw [Int32.toBitVec_and, BitVec.toNat_and]
    exact Nat.and_two_pow_sub_one_eq_mod x.toBitVec.toNat 5
  have h2 : (nI (x.toBitVec.toNat % 32)).toBitVec.toNat = x.toBitVec.toNat % 32 := by
    show (BitVec.ofNat 32 (x.toBitVec.toNat % 32)).toNat = _
    rw [BitVec.toNat_ofNat]
    omega
  rw [h1, h2]
abbrev law_tab : Array Int := #[143,196,249,272,305,338,361,425,479,532,575,628,671,724,767,810,873,948,1023,1110,1173,1196,1209,1222,1255,1298,1321,1374,1417,1480,1513,1536]
theorem dc_law_33 : decode code 33 = .ok (.tableswitch 1550 0 31 law_tab, 143) := by decide +kernel
theorem la_all {G : GC} {n : Nat} {xs : Nat → Int32} {k : Nat} {st : ST} {I : MI} {J : MJ} (hk : k + 8 ≤ n) (hn : n ≤ 4096) (hR : RC st I J) (hM : RM st I J) (hS : okS st) (nx : ∀ (st' : ST) (I' : MI) (J' : MJ), RC st' I' J' → RM st' I' J' → okS st' → Go G (FL G n xs) 1583 (LL k) [] I' J') : ∀ c : Nat, c < 32 → Go G (FL G n xs) 33 (LL k) [.int (nI c)] I J := by
  intro c hc
  match c, hc with
  | 0, _ => exact g_tabIn (F := FL G n xs) dc_law_33 (by decide) (by decide) (off := 143) (by decide) (tgt := 176) (by decide) (la_tell hk hn hR hM hS nx)
  | 1, _ => exact g_tabIn (F := FL G n xs) dc_law_33 (by decide) (by decide) (off := 196) (by decide) (tgt := 229) (by decide) (la_read hk hn hR hM hS nx)
  | 2, _ => exact g_tabIn (F := FL G n xs) dc_law_33 (by decide) (by decide) (off := 249) (by decide) (tgt := 282) (by decide) (la_asOf hk hn hR hM hS nx)
  | 3, _ => exact g_tabIn (F := FL G n xs) dc_law_33 (by decide) (by decide) (off := 272) (by decide) (tgt := 305) (by decide) (la_least hk hn hR hM hS nx)
  | 4, _ => exact g_tabIn (F := FL G n xs) dc_law_33 (by decide) (by decide) (off := 305) (by decide) (tgt := 338) (by decide) (la_value hk hn hR hM hS nx)
  | 5, _ => exact g_tabIn (F := FL G n xs) dc_law_33 (by decide) (by decide) (off := 338) (by decide) (tgt := 371) (by decide) (la_many hk hn hR hM hS nx)
  | 6, _ => exact g_tabIn (F := FL G n xs) dc_law_33 (by decide) (by decide) (off := 361) (by decide) (tgt := 394) (by decide) (la_cost hk hn hR hM hS nx)
  | 7, _ => exact g_tabIn (F := FL G n xs) dc_law_33 (by decide) (by decide) (off := 425) (by decide) (tgt := 458) (by decide) (la_best hk hn hR hM hS nx)
  | 8, _ => exact g_tabIn (F := FL G n xs) dc_law_33 (by decide) (by decide) (off := 479) (by decide) (tgt := 512) (by decide) (la_cut hk hn hR hM hS nx)
  | 9, _ => exact g_tabIn (F := FL G n xs) dc_law_33 (by decide) (by decide) (off := 532) (by decide) (tgt := 565) (by decide) (la_priced hk hn hR hM hS nx)
  | 10, _ => exact g_tabIn (F := FL G n xs) dc_law_33 (by decide) (by decide) (off := 575) (by decide) (tgt := 608) (by decide) (la_near hk hn hR hM hS nx)
  | 11, _ => exact g_tabIn (F := FL G n xs) dc_law_33 (by decide) (by decide) (off := 628) (by decide) (tgt := 661) (by decide) (la_common hk hn hR hM hS nx)
  | 12, _ => exact g_tabIn (F := FL G n xs) dc_law_33 (by decide) (by decide) (off := 671) (by decide) (tgt := 704) (by decide) (la_shared hk hn hR hM hS nx)
  | 13, _ => exact g_tabIn (F := FL G n xs) dc_law_33 (by decide) (by decide) (off := 724) (by decide) (tgt := 757) (by decide) (la_since hk hn hR hM hS nx)
  | 14, _ => exact g_tabIn (F := FL G n xs) dc_law_33 (by decide) (by decide) (off := 767) (by decide) (tgt := 800) (by decide) (la_doubt hk hn hR hM hS nx)
  | 15, _ => exact g_tabIn (F := FL G n xs) dc_law_33 (by decide) (by decide) (off := 810) (by decide) (tgt := 843) (by decide) (la_simpler hk hn hR hM hS nx)
  | 16, _ => exact g_tabIn (F := FL G n xs) dc_law_33 (by decide) (by decide) (off := 873) (by decide) (tgt := 906) (by decide) (la_together hk hn hR hM hS nx)
  | 17, _ => exact g_tabIn (F := FL G n xs) dc_law_33 (by decide) (by decide) (off := 948) (by decide) (tgt := 981) (by decide) (la_alarm hk hn hR hM hS nx)
  | 18, _ => exact g_tabIn (F := FL G n xs) dc_law_33 (by decide) (by decide) (off := 1023) (by decide) (tgt := 1056) (by decide) (la_soon hk hn hR hM hS nx)
  | 19, _ => exact g_tabIn (F := FL G n xs) dc_law_33 (by decide) (by decide) (off := 1110) (by decide) (tgt := 1143) (by decide) (la_limit hk hn hR hM hS nx)
  | 20, _ => exact g_tabIn (F := FL G n xs) dc_law_33 (by decide) (by decide) (off := 1173) (by decide) (tgt := 1206) (by decide) (la_type hk hn hR hM hS nx)
  | 21, _ => exact g_tabIn (F := FL G n xs) dc_law_33 (by decide) (by decide) (off := 1196) (by decide) (tgt := 1229) (by decide) (la_wipe hk hn hR hM hS nx)
  | 22, _ => exact g_tabIn (F := FL G n xs) dc_law_33 (by decide) (by decide) (off := 1209) (by decide) (tgt := 1242) (by decide) (la_fault hk hn hR hM hS nx)
  | 23, _ => exact g_tabIn (F := FL G n xs) dc_law_33 (by decide) (by decide) (off := 1222) (by decide) (tgt := 1255) (by decide) (la_missed hk hn hR hM hS nx)
  | 24, _ => exact g_tabIn (F := FL G n xs) dc_law_33 (by decide) (by decide) (off := 1255) (by decide) (tgt := 1288) (by decide) (la_sheet hk hn hR hM hS nx)
  | 25, _ => exact g_tabIn (F := FL G n xs) dc_law_33 (by decide) (by decide) (off := 1298) (by decide) (tgt := 1331) (by decide) (la_lose hk hn hR hM hS nx)
  | 26, _ => exact g_tabIn (F := FL G n xs) dc_law_33 (by decide) (by decide) (off := 1321) (by decide) (tgt := 1354) (by decide) (la_put hk hn hR hM hS nx)
  | 27, _ => exact g_tabIn (F := FL G n xs) dc_law_33 (by decide) (by decide) (off := 1374) (by decide) (tgt := 1407) (by decide) (la_get hk hn hR hM hS nx)
  | 28, _ => exact g_tabIn (F := FL G n xs) dc_law_33 (by decide) (by decide) (off := 1417) (by decide) (tgt := 1450) (by decide) (la_copy hk hn hR hM hS nx)
  | 29, _ => exact g_tabIn (F := FL G n xs) dc_law_33 (by decide) (by decide) (off := 1480) (by decide) (tgt := 1513) (by decide) (la_write hk hn hR hM hS nx)
  | 30, _ => exact g_tabIn (F := FL G n xs) dc_law_33 (by decide) (by decide) (off := 1513) (by decide) (tgt := 1546) (by decide) (la_count hk hn hR hM hS nx)
  | 31, _ => exact g_tabIn (F := FL G n xs) dc_law_33 (by decide) (by decide) (off := 1536) (by decide) (tgt := 1569) (by decide) (la_digest hk hn hR hM hS nx)
  | c + 32, hc => exact absurd hc (by omega)
theorem la_loop {G : GC} {n : Nat} {xs : Nat → Int32} (hn : n ≤ 4096) : ∀ (r i : Nat), i + r = 513 → ∀ {st : ST} {I : MI} {J : MJ}, RC st I J → RM st I J → okS st → Go G (FL G n xs) 18 (LL (8 * i)) [] I J := by
  intro r
  induction r with
  | zero =>
    intro i hi st I J hR hM hS
    refine g_iload_n (show decode code 18 = .ok (.iload_n 3, 1) by decide +kernel) rfl rfl (i := 3) rfl ?_
    refine g_aload_s (show decode code 19 = .ok (.aload_n 0, 1) by decide +kernel) rfl rfl (i := 0) rfl ?_
    refine l_slen (show decode code 20 = .ok (.arraylength, 1) by decide +kernel) rfl ?_
    refine g_bipush (v := 8) (show decode code 21 = .ok (.bipush 8, 2) by decide +kernel) rfl (by decide) ?_
    refine g_isub (show decode code 23 = .ok (.isub, 1) by decide +kernel) rfl ?_
    have e8 : (8 : Int32).toInt = 8 := by decide
    have en : (Int32.ofNat n).toInt = n := nI_ti (by omega)
    have es : (Int32.ofNat n - 8).toInt = (n : Int) - 8 := by rw [ti_sub (by rw [en, e8]; omega) (by rw [en, e8]; omega), en, e8]
    have ek : (nI (8 * i)).toInt = ((8 * i : Nat) : Int) := nI_ti (by omega)
    refine g_ic_gt (show decode code 24 = .ok (.if_icmp .gt 1565, 3) by decide +kernel) rfl (tgt := 1589) rfl (fun _ => ?_) (fun h => ?_)
    · refine g_iconst (v := 1) (show decode code 1589 = .ok (.iconst 1, 1) by decide +kernel) rfl (by decide) ?_
      exact l_ret (show decode code 1590 = .ok (.ireturn, 1) by decide +kernel)
    · exact absurd (ti_lt.mpr (by rw [es, ek]; omega)) h
  | succ r ih =>
    intro i hi st I J hR hM hS
    refine g_iload_n (show decode code 18 = .ok (.iload_n 3, 1) by decide +kernel) rfl rfl (i := 3) rfl ?_
    refine g_aload_s (show decode code 19 = .ok (.aload_n 0, 1) by decide +kernel) rfl rfl (i := 0) rfl ?_
    refine l_slen (show decode code 20 = .ok (.arraylength, 1) by decide +kernel) rfl ?_
    refine g_bipush (v := 8) (show decode code 21 = .ok (.bipush 8, 2) by decide +kernel) rfl (by decide) ?_
    refine g_isub (show decode code 23 = .ok (.isub, 1) by decide +kernel) rfl ?_
    have e8 : (8 : Int32).toInt = 8 := by decide
    have en : (Int32.ofNat n).toInt = n := nI_ti (by omega)
    have es : (Int32.ofNat n - 8).toInt = (n : Int) - 8 := by rw [ti_sub (by rw [en, e8]; omega) (by rw [en, e8]; omega), en, e8]
    have ek : (nI (8 * i)).toInt = ((8 * i : Nat) : Int) := nI_ti (by omega)
    refine g_ic_gt (show decode code 24 = .ok (.if_icmp .gt 1565, 3) by decide +kernel) rfl (tgt := 1589) rfl (fun _ => ?_) (fun h => ?_)
    · refine g_iconst (v := 1) (show decode code 1589 = .ok (.iconst 1, 1) by decide +kernel) rfl (by decide) ?_
      exact l_ret (show decode code 1590 = .ok (.ireturn, 1) by decide +kernel)
    · rw [ti_lt, es, ek] at h
      have hk : 8 * i + 8 ≤ n := by omega
      refine g_aload_s (show decode code 27 = .ok (.aload_n 0, 1) by decide +kernel) rfl rfl (i := 0) rfl ?_
      refine g_iload_n (show decode code 28 = .ok (.iload_n 3, 1) by decide +kernel) rfl rfl (i := 3) rfl ?_
      refine l_sld (vp_in_nI (by omega) (by omega)) (show decode code 29 = .ok (.iaload, 1) by decide +kernel) rfl ?_
      refine g_bipush (v := 31) (show decode code 30 = .ok (.bipush 31, 2) by decide +kernel) rfl (by decide) ?_
      refine g_iand (show decode code 32 = .ok (.iand, 1) by decide +kernel) rfl ?_
      obtain ⟨c, hc, e⟩ := and31 (xs (nI (8 * i)).toNatClampNeg)
      rw [e]
      refine la_all hk hn hR hM hS (fun st' I' J' hR' hM' hS' => ?_) c hc
      refine g_iinc (v := nI (8 * (i + 1))) (show decode code 1583 = .ok (.iinc 3 8, 3) by decide +kernel) rfl (i := 3) rfl (nI_add (8 * i) 8) (Nat.le_of_ble_eq_true rfl) rfl ?_
      refine g_goto (show decode code 1586 = .ok (.goto (-1568), 3) by decide +kernel) (tgt := 18) rfl ?_
      exact ih (i + 1) (by omega) hR' hM' hS' 
