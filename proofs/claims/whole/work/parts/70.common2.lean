/-! ===== common cuts: the class ===== -/
theorem pcD_1 (st : ST) (S k a b : Nat) : pcD st S k 1 a b = none := by unfold pcD; rw [if_neg (by decide)]
theorem pcD_2 (st : ST) (S k a b : Nat) : pcD st S k 2 a b = none := by unfold pcD; rw [if_neg (by decide)]
theorem step_pcD (st : ST) (S k most frm to : Nat) (T : TB) : stepT (pcD st S k) 0 most frm to T = offO 0 most frm to 0 (pcD st S k 0 frm to) T := by
  unfold stepT; rw [pcD_1, pcD_2]; rfl
section
variable {G : GC} {d : Nat} {P : PT} {I : MI} {J : MJ}
theorem ct_rows {st : ST} (hS : okS st) {k : Nat} (hk : k = 1 ∨ k = 3) {S K frm : Nat} {I0 : MI} {J0 : MJ} (hR : RC st I0 J0) (hSb : S < 16) (hfr : frm < 40) (hq : ∀ I' J', FA I0 J0 I' J' → (∀ t, frm ≤ t → t < 40 → J' 48 t = eO (dcR st S k frm t 4)) → Go G (fr G m_CU_cutTogether (d + 4) P) 80 [some (.ref 33), some (.ref 6), some (.ref 32), some (.int (nI S)), some (.int (nI k)), some (.int (nI K)), some (.int (nI frm)), none] [] I' J') : ∀ (m r : Nat) (I : MI) (J : MJ), r + m = 4 → FA I0 J0 I J → (∀ t, frm ≤ t → t < 40 → J 48 t = eO (dcR st S k frm t r)) → Go G (fr G m_CU_cutTogether (d + 4) P) 29 [some (.ref 33), some (.ref 6), some (.ref 32), some (.int (nI S)), some (.int (nI k)), some (.int (nI K)), some (.int (nI frm)), some (.int (nI r))] [] I J := by
  intro m
  induction m with
  | zero =>
    intro r I J hr hF hv
    obtain rfl : r = 4 := by omega
    have hle : (4 : Int32) ≤ nI 4 := by decide
    exact w_CU_cutTogether_29 (fun _ => hq I J hF hv) (fun c => absurd hle c) (fun c => absurd hle c) (fun c => absurd hle c) (fun c => absurd hle c) (fun c => absurd hle c)
  | succ m ih =>
    intro r I J hr hF hv
    have hc : ¬ (4 : Int32) ≤ nI r := nI_ge (a := r) (b := 4) (by omega) (by omega)
    have er : (nI r).toNatClampNeg = r := nI_clamp (by omega)
    have ek : (nI k).toNatClampNeg = k := nI_clamp (by omega)
    have hbi : (((nI S) >>> ((nI r) &&& 31)) &&& 1 = 1) ↔ bit S r = 1 := by
      rw [bitI (by omega) (by omega)]
      have := bit_01 S r
      exact nI_eq (b := 1) (by omega) (by omega)
    have hR' := hR.keep hF.g.kc
    obtain ⟨e1, l1, l2⟩ := lsr_ok hS (show r < 4 by omega)
    refine w_CU_cutTogether_29 (fun c => absurd c hc) (fun _ c => absurd c hc) (fun _ _ c => w_CU_cutTogether_74 ?_) (fun _ _ _ => vp_in_nI (by omega) (by omega)) (fun _ _ _ => vp_in_nI (by omega) (by omega)) (fun _ _ c => ?_)
    · rw [nI_1]
      refine ih (r + 1) I J (by omega) hF (fun t t1 t2 => ?_)
      rw [hv t t1 t2]
      congr 1
      show _ = if bit S r = 1 then _ else _
      rw [if_neg (fun h => c (hbi.mpr h))]
    · rw [er, ek, hR'.2.2.2.1 r (by omega), e1]
      refine sp_addDays hk (fun t => dcR st S k frm t r) (pts_ok hS r) (pts_lt r (by omega)) (hR'.2.2.1 r (by omega)).2.pf hR'.2.2.2.2.2.2.2.1 hR'.2.2.2.2.2.2.2.2 (by omega) hfr (fun t x hx => Nat.le_trans (dcR_b hS hk r x hx) (by omega)) hv (fun I' J' g1 g2 => w_CU_cutTogether_74 ?_)
      rw [nI_1]
      refine ih (r + 1) I' J' (by omega) (hF.tr g1) (fun t t1 t2 => ?_)
      rw [g2 t t1 t2]
      congr 1
      show _ = if bit S r = 1 then _ else _
      rw [if_pos (hbi.mp c)]
theorem ct_to {st : ST} (hS : okS st) {k : Nat} (hk : k = 1 ∨ k = 3) {S K frm : Nat} {T0 : TB} {I0 : MI} {J0 : MJ} (hK : 1 ≤ K) (hK6 : K ≤ 6) (hfr : frm < 40) (hT0 : okTB T0) (h8 : I0 33 8 = nI K) (h9 : I0 33 9 = nI 0) (hv : ∀ t, frm ≤ t → t < 40 → J0 48 t = eO (dcR st S k frm t 4)) (hq : ∀ I' J', FO I0 J0 I' J' → TT 0 (rowT (pcD st S k) 0 (mostOf K frm) frm (40 - frm) T0) I' J' → Go G (fr G m_CU_cutTogether (d + 4) P) 13 [some (.ref 33), some (.ref 6), some (.ref 32), some (.int (nI S)), some (.int (nI k)), some (.int (nI K)), some (.int (nI frm + -1)), none] [] I' J') : ∀ (r m : Nat) (I : MI) (J : MJ), frm + m + r = 40 → FO I0 J0 I J → TT 0 (rowT (pcD st S k) 0 (mostOf K frm) frm m T0) I J → Go G (fr G m_CU_cutTogether (d + 4) P) 84 [some (.ref 33), some (.ref 6), some (.ref 32), some (.int (nI S)), some (.int (nI k)), some (.int (nI K)), some (.int (nI frm)), some (.int (nI (frm + m)))] [] I J := by
  intro r
  induction r with
  | zero =>
    intro m I J hr hF hT
    have hle : (40 : Int32) ≤ nI (frm + m) := nI_le (a := 40) (by omega) (by omega)
    rw [show m = 40 - frm by omega] at hT
    exact w_CU_cutTogether_84 (fun _ => hq I J hF hT) (fun c => absurd hle c) (fun c => absurd hle c) (fun c => absurd hle c)
  | succ r ih =>
    intro m I J hr hF hT
    have hc : ¬ (40 : Int32) ≤ nI (frm + m) := nI_ge (a := frm + m) (b := 40) (by omega) (by omega)
    have et : (nI (frm + m)).toNatClampNeg = frm + m := nI_clamp (by omega)
    have hokm := ok_row (q := 0) (most := mostOf K frm) (frm := frm) hT0 (pcD_ok (S := S) hS hk) m (by omega)
    have h48 : J 48 (nI (frm + m)).toNatClampNeg = eO (dcR st S k frm (frm + m) 4) := by rw [et, hF.2 48 (by decide) (by decide)]; exact hv _ (by omega) (by omega)
    have est : rowT (pcD st S k) 0 (mostOf K frm) frm (m + 1) T0 = offO 0 (mostOf K frm) frm (frm + m) 0 (pcD st S k 0 frm (frm + m)) (rowT (pcD st S k) 0 (mostOf K frm) frm m T0) := step_pcD _ _ _ _ _ _ _
    have epc : pcD st S k 0 frm (frm + m) = (dcR st S k frm (frm + m) 4).map fun x => (x * 5342931457063200, 0) := by unfold pcD; rw [if_pos rfl]
    rw [epc] at est
    refine w_CU_cutTogether_84 (fun c => absurd c hc) (fun _ => vp_in_nI (by omega) (by omega)) (fun _ c => ?_) (fun _ c => ?_)
    · rw [h48, eO_none (fun x hx => by have := dcR_b hS hk 4 x hx; omega)] at c
      rw [c] at est
      refine w_CU_cutTogether_123 ?_
      rw [nI_1]
      exact ih (m + 1) I J (by omega) hF (by rw [est]; exact hT)
    · cases hd : dcR st S k frm (frm + m) 4 with
      | none => rw [h48, hd] at c; exact absurd rfl c
      | some x =>
        have hb := dcR_b hS hk 4 x hd
        rw [h48, hd]
        rw [hd] at est
        refine sp_offer (q := 0) (K := K) (e := 0) (n := x) (b := 1) (wh := 0) (by omega) hK hK6 (by omega) (by omega) (by omega) (by rw [hF.1 33 (by decide) (by decide)]; exact h8) (by rw [hF.1 33 (by decide) (by decide)]; exact h9) hokm (by omega) (by omega) (by decide) hT (fun I' J' g1 g2 => w_CU_cutTogether_123 ?_)
        rw [nI_1]
        refine ih (m + 1) I' J' (by omega) (hF.tr g1) ?_
        rw [est]
        rw [Nat.div_one] at g2
        exact g2
theorem FO.g {I I' : MI} {J J' : MJ} (h : FO I J I' J') : FG I J I' J' := h.q.g
theorem ct_from {st : ST} (hS : okS st) {k : Nat} (hk : k = 1 ∨ k = 3) {S K : Nat} {I0 : MI} {J0 : MJ} (hR : RC st I0 J0) (hSb : S < 16) (hK : 1 ≤ K) (hK6 : K ≤ 6) (hq : ∀ I' J', FG I0 J0 I' J' → I' 33 8 = nI K → I' 33 9 = nI 0 → TT 0 (allT (pcD st S k) 0 K 40 40) I' J' → Ct G (d + 3) m_CU_trace [.ref 33, .int (nI K)] (fun r I' J' => Go G (fr G m_CU_cutTogether (d + 4) P) 141 [none, none, none, none, none, none, none, none] (r.toList ++ []) I' J') I' J') : ∀ (r j : Nat) (x6 : Int32) (I : MI) (J : MJ), j + r = 40 → x6 = nI (40 - j) - 1 → FG I0 J0 I J → I 33 8 = nI K → I 33 9 = nI 0 → TT 0 (allT (pcD st S k) 0 K 40 j) I J → Go G (fr G m_CU_cutTogether (d + 4) P) 13 [some (.ref 33), some (.ref 6), some (.ref 32), some (.int (nI S)), some (.int (nI k)), some (.int (nI K)), some (.int x6), none] [] I J := by
  intro r
  induction r with
  | zero =>
    intro j x6 I J hr hx hF h8 h9 hT
    obtain rfl : j = 40 := by omega
    subst hx
    have hlt : nI (40 - 40) - 1 < 0 := by decide
    exact w_CU_cutTogether_13 (fun _ => hq I J hF h8 h9 hT) (fun c => absurd hlt c)
  | succ r ih =>
    intro j x6 I J hr hx hF h8 h9 hT
    have hx2 : x6 = nI (40 - 1 - j) := by rw [hx, show 40 - j = 40 - 1 - j + 1 by omega]; exact nI_pred _
    subst hx2
    have hlt : ¬ nI (40 - 1 - j) < 0 := nI_pos (by omega)
    refine w_CU_cutTogether_13 (fun c => absurd c hlt) (fun _ => sp_fillJ sh_48 (by decide) (w_CU_cutTogether_26 ?_))
    have hF1 : FG I J I (fl J 48 40 0) := ⟨fun _ _ => rfl, fun a _ h => fl_o h, by rw [fl_o (by decide)], by rw [fl_o (by decide)]⟩
    have hR1 := hR.keep (hF.tr hF1).kc
    have h0 := ct_rows (G := G) (d := d) (P := P) hS hk (S := S) (K := K) (frm := 40 - 1 - j) hR1 hSb (by omega) (fun I2 J2 f1 f2 => w_CU_cutTogether_80 (ct_to hS hk (T0 := allT (pcD st S k) 0 K 40 j) hK hK6 (by omega) (ok_all (pcD_ok hS hk) (by omega) j (by omega)) (by rw [f1.1 33 (by omega)]; exact h8) (by rw [f1.1 33 (by omega)]; exact h9) f2 (fun I3 J3 e1 e2 => ih (j + 1) _ I3 J3 (by omega) (by rw [show 40 - 1 - j = 40 - (j + 1) by omega, Int32.sub_eq_add_neg]) (((hF.tr hF1).tr f1.g).tr e1.g) (by rw [e1.1 33 (by decide) (by decide), f1.1 33 (by omega)]; exact h8) (by rw [e1.1 33 (by decide) (by decide), f1.1 33 (by omega)]; exact h9) (by rw [show 40 - (40 - 1 - j) = j + 1 by omega] at e2; exact e2)) (j + 1) 0 I2 J2 (by omega) FO.rf (hT.of (f1.1 44 (by omega)) (f1.1 45 (by omega)) (by rw [f1.2.1 42 (by omega) (by decide), fl_o (by decide)]) (by rw [f1.2.1 43 (by omega) (by decide), fl_o (by decide)])))) 4 0 I (fl J 48 40 0) (by omega) FA.rf (fun t t1 t2 => by rw [fl_at t2]; rfl)
    exact h0
theorem cl_cutTogether {st : ST} (hS : okS st) {k : Nat} (hk : k = 1 ∨ k = 3) {S K : Nat} (hR : RC st I J) (hSb : S < 16) (hK : 1 ≤ K) (hK6 : K ≤ 6) (hq : ∀ I' J', KC I J I' J' → CS (cD st S k) 40 K I' J' → ((Dp (cD st S k) 40 K 0).isSome = true → ∀ i, i < K → I' 49 i = nI (plc (cD st S k) 40 K i)) → P (some (.int (if (Dp (cD st S k) 40 K 0).isSome = true then 1 else 0))) I' J') : Ct G (d + 4) m_CU_cutTogether [.ref 33, .ref 6, .ref 32, .int (nI S), .int (nI k), .int (nI K)] P I J := by
  refine Ct.ofGo [some (.ref 33), some (.ref 6), some (.ref 32), some (.int (nI S)), some (.int (nI k)), some (.int (nI K)), none, none] (by decide +kernel) rfl (Nat.le_of_ble_eq_true rfl) (w_CU_cutTogether_0 ?_)
  refine sp_begin (n := 40) (q := 0) (by omega) (by omega) (fun I1 J1 g1 g2 g3 g4 => w_CU_cutTogether_9 ?_)
  refine ct_from hS hk (I0 := I1) (J0 := J1) (hR.keep g1.kc) hSb hK hK6 (fun I2 J2 f1 f2 f3 f4 => ?_) 40 0 39 I1 J1 (by omega) (by decide) FG.rf g2 g3 g4
  have hokT := ok_all (q := 0) (K := K) (pcD_ok (S := S) hS hk) (show 40 ≤ 40 by omega) 40 (Nat.le_refl _)
  have hD : ∀ k' a, a ≤ 40 → (k' ≤ mostOf K a ∨ k' = 0) → allT (pcD st S k) 0 K 40 40 0 k' a = lft (Dp (cD st S k) 40 k' a) := fun k' a g4 g5 => (all0 (pcD_c st S k) 40 (Nat.le_refl _)).1 k' a (by omega) g4 g5
  refine sp_trace0 (by omega) hK hK6 f4 hokT f3 hD (fun I3 e1 e2 => w_CU_cutTogether_141 (hq I3 J2 ?_ ⟨_, f4.of (e1 44 (by decide)) (e1 45 (by decide)) rfl rfl, hokT, hD, by rw [e1 33 (by decide)]; exact f2, by rw [e1 33 (by decide)]; exact f3⟩ e2) ?_)
  · refine (g1.kc.tr f1.kc).tr ⟨fun a ha => e1 a (by unfold lasts at ha; omega), by rw [e1 53 (by decide)], rfl, rfl, fun _ _ => rfl⟩
  · split
    · exact Or.inr rfl
    · exact Or.inl rfl
end
def commonN (st : ST) (S k K : Nat) : Int32 := match Dp (cU st S k) 40 K 0 with
  | none => -3
  | some t => Int64.toInt32 (lI ((t.1 : Nat) : Int))
def comBad (S kd K : Int32) : Prop := f_LB_isRowSet S = 0 ∨ f_LB_isCommonKind kd = 0 ∨ f_LB_isStretches K = 0
noncomputable def commonA (st : ST) (S kd K : Int32) : Int32 := @ite _ (comBad S kd K) (Classical.propDecidable _) (-2) (commonN st S.toNatClampNeg kd.toNatClampNeg K.toNatClampNeg)
def sharedN (st : ST) (S k K i : Nat) : Int32 := if (Dp (cU st S k) 40 K 0).isSome = true then nI (plc (cU st S k) 40 K i) else -3
noncomputable def sharedA (st : ST) (S kd K i : Int32) : Int32 := @ite _ (comBad S kd K ∨ f_LB_isWithin i 0 (K - 1) = 0) (Classical.propDecidable _) (-2) (sharedN st S.toNatClampNeg kd.toNatClampNeg K.toNatClampNeg i.toNatClampNeg)
theorem isSet1 {x : Int32} (h : ¬ f_LB_isRowSet x = 0) : ∃ S, S < 16 ∧ x = nI S := by
  obtain ⟨h1, h2⟩ := isW1.mp (show ¬ f_LB_isWithin x 1 15 = 0 from h)
  rw [ti_le] at h1 h2
  have z1 : (1 : Int32).toInt = 1 := rfl
  have z2 : (15 : Int32).toInt = 15 := rfl
  refine ⟨x.toInt.toNat, by omega, ?_⟩
  rw [ti_eq, nI_ti (by omega)]; omega
theorem isCK1 {x : Int32} (h : ¬ f_LB_isCommonKind x = 0) : ∃ k, (k = 1 ∨ k = 3) ∧ x = nI k := by
  unfold f_LB_isCommonKind at h
  by_cases h1 : x = 1
  · exact ⟨1, Or.inl rfl, by rw [h1]; rfl⟩
  · rw [if_neg h1] at h
    by_cases h3 : x = 3
    · exact ⟨3, Or.inr rfl, by rw [h3]; rfl⟩
    · rw [if_pos h3] at h; exact absurd rfl h
section
variable {G : GC} {d : Nat} {P : PT} {I : MI} {J : MJ}
theorem cl_common {st : ST} {S kd K : Int32} (hR : RC st I J) (hS : okS st) (hq : ∀ I' J', KC I J I' J' → P (some (.int (commonA st S kd K))) I' J') : Ct G (d + 5) m_LB_common [.ref 0, .int S, .int kd, .int K] P I J := by
  have hbad : comBad S kd K → Go G (fr G m_LB_common (d + 5) P) 21 [none, none, none, none] [] I J := fun hb => by
    have := hq I J KC.rf
    unfold commonA at this
    rw [if_pos hb] at this; exact w_LB_common_21 this
  refine Ct.ofGo [some (.ref 0), some (.int S), some (.int kd), some (.int K)] (by decide +kernel) rfl (Nat.le_of_ble_eq_true rfl) (w_LB_common_0 (fun c => hbad (Or.inl c)) (fun _ c => hbad (Or.inr (Or.inl c))) (fun c1 c2 c3 => ?_) (fun _ _ c => hbad (Or.inr (Or.inr c))))
  have hnb : ¬ comBad S kd K := by
    rintro (h | h | h)
    · exact c1 h
    · exact c2 h
    · exact c3 h
  unfold commonA at hq
  rw [if_neg hnb] at hq
  obtain ⟨S, hSb, rfl⟩ := isSet1 c1
  obtain ⟨k, hk, rfl⟩ := isCK1 c2
  obtain ⟨K, hK, hK6, rfl⟩ := isStr1 c3
  rw [nI_clamp (show S < 2 ^ 31 by omega), nI_clamp (show k < 2 ^ 31 by omega), nI_clamp (show K < 2 ^ 31 by omega)] at hq
  refine cl_cutTogether hS hk hR hSb hK hK6 (fun I1 J1 g1 g2 _ => ?_)
  have hfin := hq I1 J1 g1
  unfold commonN at hfin
  have hDU := Dp_DU st S k 40 K 0
  cases hd : Dp (cU st S k) 40 K 0 with
  | none =>
    rw [hd] at hfin hDU
    rw [hDU]
    exact w_LB_common_42 (fun c => absurd rfl c) (fun _ => hfin)
  | some t =>
    rw [hd] at hfin hDU
    have hDU : Dp (cD st S k) 40 K 0 = some (t.1 * 5342931457063200, t.2) := hDU
    have hne : ¬ (1 : Int32) = 0 := by decide
    rw [hDU]
    refine w_LB_common_42 (fun _ => sp_bestAbove g2 hK6 (by omega) hDU (w_LB_common_56 ?_)) (fun c => absurd c hne)
    rw [topV_sc]; exact hfin
theorem cl_shared {st : ST} {S kd K i : Int32} (hR : RC st I J) (hS : okS st) (hq : ∀ I' J', KC I J I' J' → P (some (.int (sharedA st S kd K i))) I' J') : Ct G (d + 5) m_LB_shared [.ref 0, .int S, .int kd, .int K, .int i] P I J := by
  have hbad : (comBad S kd K ∨ f_LB_isWithin i 0 (K - 1) = 0) → Go G (fr G m_LB_shared (d + 5) P) 32 [none, none, none, none, none] [] I J := fun hb => by
    have := hq I J KC.rf
    unfold sharedA at this
    rw [if_pos hb] at this; exact w_LB_shared_32 this
  have hK1 : ¬ f_LB_isStretches K = 0 → (K - 1).toInt = K.toInt - 1 := fun h => by
    obtain ⟨K, hK, hK6, rfl⟩ := isStr1 h
    rw [show nI K - 1 = nI (K - 1) by rw [show K = K - 1 + 1 by omega]; exact nI_pred _, nI_ti (by omega), nI_ti (by omega)]; omega
  refine Ct.ofGo [some (.ref 0), some (.int S), some (.int kd), some (.int K), some (.int i)] (by decide +kernel) rfl (Nat.le_of_ble_eq_true rfl) (w_LB_shared_0 (fun c => hbad (Or.inl (Or.inl c))) (fun _ c => hbad (Or.inl (Or.inr (Or.inl c)))) (fun _ _ c => hbad (Or.inl (Or.inr (Or.inr c)))) (fun _ _ _ c => hbad (Or.inr (isW0.mpr (fun h => absurd c (Int32.not_lt.mpr h.1))))) (fun c1 c2 c3 c4 c5 => ?_) (fun _ _ c3 _ c => hbad (Or.inr (isW0.mpr (fun h => c (by have := h.2; rw [ti_le, hK1 c3] at this; rw [ti_lt]; omega))))))
  have hnb : ¬ (comBad S kd K ∨ f_LB_isWithin i 0 (K - 1) = 0) := by
    rintro ((h | h | h) | h)
    · exact c1 h
    · exact c2 h
    · exact c3 h
    · exact isW0.mp h ⟨Int32.not_lt.mp c4, by rw [ti_le, hK1 c3]; rw [ti_lt] at c5; omega⟩
  unfold sharedA at hq
  rw [if_neg hnb] at hq
  obtain ⟨S, hSb, rfl⟩ := isSet1 c1
  obtain ⟨k, hk, rfl⟩ := isCK1 c2
  obtain ⟨K, hK, hK6, rfl⟩ := isStr1 c3
  obtain ⟨i, hi, rfl⟩ := nI_of c4
  have c5 := (nI_ltI hi (by omega)).mp c5
  have ei : (nI i).toNatClampNeg = i := nI_clamp hi
  rw [nI_clamp (show S < 2 ^ 31 by omega), nI_clamp (show k < 2 ^ 31 by omega), nI_clamp (show K < 2 ^ 31 by omega), ei] at hq
  refine cl_cutTogether hS hk hR hSb hK hK6 (fun I1 J1 g1 g2 g3 => ?_)
  have hfin := hq I1 J1 g1
  unfold sharedN at hfin
  have hDU := Dp_DU st S k 40 K 0
  have hs : (Dp (cD st S k) 40 K 0).isSome = (Dp (cU st S k) 40 K 0).isSome := by rw [hDU]; cases Dp (cU st S k) 40 K 0 <;> rfl
  by_cases hd : (Dp (cU st S k) 40 K 0).isSome = true
  · rw [if_pos hd] at hfin
    rw [if_pos (by rw [hs]; exact hd)]
    refine w_LB_shared_53 (fun _ => vp_in_nI (by omega) (by omega)) (fun _ => ?_) (fun c => absurd c (by decide))
    rw [ei, g3 (by rw [hs]; exact hd) i c5, plc_DU]
    exact hfin
  · rw [if_neg hd] at hfin
    rw [if_neg (by rw [hs]; exact hd)]
    exact w_LB_shared_53 (fun c => absurd rfl c) (fun c => absurd rfl c) (fun _ => hfin)
end
