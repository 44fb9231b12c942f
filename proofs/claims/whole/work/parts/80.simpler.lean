/-! ===== simpler ===== -/
noncomputable def simpN (st : ST) (r k K q i : Nat) : Int32 := match minO (WS k (lsr st r) (pts st r) K q) with
  | none => -3
  | some p => dayAt (pts st r) (if q = 2 ∧ i = 0 then p.2 / 40 else p.2 % 40)
def simpBad (r kd K q i : Int32) : Prop := f_LB_isRow r = 0 ∨ f_LB_isKind kd = 0 ∨ f_LB_isStretches K = 0 ∨ f_LB_isWithin q 1 2 = 0 ∨ f_LB_isWithin i 0 (q - 1) = 0
noncomputable def simplerA (st : ST) (r kd K q i : Int32) : Int32 := @ite _ (simpBad r kd K q i) (Classical.propDecidable _) (-2) (simpN st r.toNatClampNeg kd.toNatClampNeg K.toNatClampNeg q.toNatClampNeg i.toNatClampNeg)
theorem isW12 {x : Int32} (h : ¬ f_LB_isWithin x 1 2 = 0) : ∃ q, (q = 1 ∨ q = 2) ∧ x = nI q := by
  obtain ⟨h1, h2⟩ := isW1.mp h
  rw [ti_le] at h1 h2
  have z1 : (1 : Int32).toInt = 1 := rfl
  have z2 : (2 : Int32).toInt = 2 := rfl
  refine ⟨x.toInt.toNat, by omega, ?_⟩
  rw [ti_eq, nI_ti (by omega)]; omega
/-- where the left-out points lie -/
theorem WS_ix {kd ls : Nat} {L : List Pt} {K q v w i : Nat} (hl : L.length ≤ 40) (hq : q = 1 ∨ q = 2) (hi : i < q) (h : WS kd ls L K q v w) : w < 1600 ∧ (if q = 2 ∧ i = 0 then w / 40 else w % 40) < L.length := by
  obtain ⟨D, d1, d2, d3, -⟩ := h
  rcases hq with rfl | rfl
  · obtain ⟨x, rfl, a1, a2⟩ := DS1 d1 d2
    rw [cdn1] at d3
    rw [if_neg (by omega)]; omega
  · obtain ⟨x, y, rfl, a1, a2, a3⟩ := DS2 d1 d2
    rw [cdn2] at d3
    split <;> omega
section
variable {G : GC} {d : Nat} {P : PT} {I : MI} {J : MJ}
theorem sp_traceQ {n K q : Nat} {T : TB} (hK6 : K ≤ 6) (hq1 : 1 ≤ q) (hq2 : q ≤ 2) (hT : TT q T I J) (hok : okTB T) (h9 : I 33 9 = nI q) (hq : P (some (.int (if (T q K 0).isSome = true then 1 else 0))) I J) : Ct G (d + 1) m_CU_trace [.ref 33, .int (nI K)] P I J := by
  have eat : f_CU_at (I 33 9) (nI K) 0 = nI (ix q K 0) := by rw [h9]; exact at_ix q K 0
  have hxl := ix_lt (e := q) (k := K) (a := 0) hq2 hK6 (by omega)
  have ex : (nI (ix q K 0)).toNatClampNeg = ix q K 0 := nI_clamp (by omega)
  have hpos : ¬ I 33 9 ≤ 0 := by rw [h9]; exact nI_nle hq1 (by omega)
  have henc := hT q K 0 (Nat.le_refl _) hK6 (by omega)
  refine Ct.ofGo [some (.ref 33), some (.int (nI K)), none, none] (by decide +kernel) rfl (Nat.le_of_ble_eq_true rfl) ?_
  cases ht : T q K 0 with
  | none =>
    rw [ht] at hq henc
    have hm1 : J 42 (f_CU_at (I 33 9) (nI K) 0).toNatClampNeg = -1 := by rw [eat, ex]; exact henc
    exact w_CU_trace_0 (by rw [eat]; exact vp_in_nI (by omega) (by omega)) (fun c => absurd hm1 c) (fun c => absurd hm1 c) (fun _ => hq)
  | some t =>
    rw [ht] at hq henc
    obtain ⟨b1, -, -⟩ := hok q K 0 t ht
    have hb : t.1 / 5342931457063200 ≤ 60000000000000 := by
      have h1 : t.1 ≤ 6 * 53429314570632000000000000000 := Nat.le_trans b1 (Nat.mul_le_mul_right _ hK6)
      exact Nat.le_trans (Nat.div_le_div_right (c := 5342931457063200) h1) (by decide)
    have hm1 : ¬ J 42 (f_CU_at (I 33 9) (nI K) 0).toNatClampNeg = -1 := by
      rw [eat, ex, henc.1, show (-1 : Int64) = lI (-1) from rfl, lI_inj (by omega) (by omega)]; omega
    exact w_CU_trace_0 (by rw [eat]; exact vp_in_nI (by omega) (by omega)) (fun _ c => absurd c hpos) (fun _ _ => hq) (fun c => absurd c hm1)
theorem sp_dropped {K q i w : Nat} (hK6 : K ≤ 6) (hq : q = 1 ∨ q = 2) (hi : i < q) (hw : w < 1600) (h9 : I 33 9 = nI q) (h44 : I 44 (ix q K 0) = nI w) (hP : P (some (.int (nI (if q = 2 ∧ i = 0 then w / 40 else w % 40)))) I J) : Ct G (d + 1) m_CU_dropped [.ref 33, .int (nI K), .int (nI i)] P I J := by
  have eat : f_CU_at (I 33 9) (nI K) 0 = nI (ix q K 0) := by rw [h9]; exact at_ix q K 0
  have hxl := ix_lt (e := q) (k := K) (a := 0) (by omega) hK6 (by omega)
  have ex : (nI (ix q K 0)).toNatClampNeg = ix q K 0 := nI_clamp (by omega)
  have c2 : (I 33 9 = 2) ↔ q = 2 := by rw [h9]; exact nI_eq (b := 2) (by omega) (by omega)
  have c0 : (nI i = 0) ↔ i = 0 := nI_eq (b := 0) (by omega) (by omega)
  have hrem : nI w - nI w / 40 * 40 = nI (w % 40) := pk_rem (d := 40) (by omega) (by omega) (by omega)
  refine Ct.ofGo [some (.ref 33), some (.int (nI K)), some (.int (nI i)), none] (by decide +kernel) rfl (Nat.le_of_ble_eq_true rfl) (w_CU_dropped_0 (by rw [eat]; exact vp_in_nI (by omega) (by omega)) (fun c => w_CU_dropped_34 ?_) (fun _ c => w_CU_dropped_34 ?_) (fun c c' => ?_))
  · rw [eat, ex, h44, hrem]
    rw [if_neg (fun h => c (c2.mpr h.1))] at hP; exact hP
  · rw [eat, ex, h44, hrem]
    rw [if_neg (fun h => c (c0.mpr h.2))] at hP; exact hP
  · rw [eat, ex, h44, show nI w / 40 = nI (w / 40) from pk_div (d := 40) (by omega) (by omega) (by omega)]
    rw [if_pos ⟨c2.mp c, c0.mp c'⟩] at hP; exact hP
theorem cl_simpler {st : ST} {r kd K q i : Int32} (hR : RC st I J) (hS : okS st) (hq : ∀ I' J', KC I J I' J' → P (some (.int (simplerA st r kd K q i))) I' J') : Ct G (d + 5) m_LB_simpler [.ref 0, .int r, .int kd, .int K, .int q, .int i] P I J := by
  have hbad : simpBad r kd K q i → Go G (fr G m_LB_simpler (d + 5) P) 43 [none, none, none, none, none, none] [] I J := fun hb => by
    have := hq I J KC.rf
    unfold simplerA at this
    rw [if_pos hb] at this; exact w_LB_simpler_43 this
  have hQ1 : ¬ f_LB_isWithin q 1 2 = 0 → (q - 1).toInt = q.toInt - 1 := fun h => by
    obtain ⟨q, hq, rfl⟩ := isW12 h
    rw [show nI q - 1 = nI (q - 1) by rw [show q = q - 1 + 1 by omega]; exact nI_pred _, nI_ti (by omega), nI_ti (by omega)]; omega
  have main : ¬ f_LB_isRow r = 0 → ¬ f_LB_isKind kd = 0 → ¬ f_LB_isStretches K = 0 → ¬ f_LB_isWithin q 1 2 = 0 → ¬ i < 0 → i < q → vp_in r 4 ∧ Ct G (d + 4) m_CU_cutPoints [.ref 33, .ref (7 + 5 * r.toNatClampNeg), .int kd, .int K, .int (I 32 r.toNatClampNeg), .int q] (fun rr I' J' => Go G (fr G m_LB_simpler (d + 5) P) 69 [some (.ref 0), some (.int r), none, some (.int K), none, some (.int i)] (rr.toList ++ []) I' J') I J := fun c1 c2 c3 c4 c5 c6 => by
    have hnb : ¬ simpBad r kd K q i := by
      rintro (h | h | h | h | h)
      · exact c1 h
      · exact c2 h
      · exact c3 h
      · exact c4 h
      · exact isW0.mp h ⟨Int32.not_lt.mp c5, by rw [ti_le, hQ1 c4]; rw [ti_lt] at c6; omega⟩
    unfold simplerA at hq
    rw [if_neg hnb] at hq
    obtain ⟨r, hr, rfl⟩ := isRow1 c1
    obtain ⟨k, hk, rfl⟩ := isKind1 c2
    obtain ⟨K, hK, hK6, rfl⟩ := isStr1 c3
    obtain ⟨q, hq12, rfl⟩ := isW12 c4
    obtain ⟨i, hi, rfl⟩ := nI_of c5
    have c6 := (nI_ltI hi (by omega)).mp c6
    have er : (nI r).toNatClampNeg = r := nI_clamp (by omega)
    rw [er, nI_clamp (show k < 2 ^ 31 by omega), nI_clamp (show K < 2 ^ 31 by omega), nI_clamp (show q < 2 ^ 31 by omega), nI_clamp hi] at hq
    obtain ⟨e1, l1, l2⟩ := lsr_ok hS hr
    have hok := pts_ok hS r
    have hl := hok.1
    have h1 := pts_lt r hr
    refine ⟨vp_in_nI hr (by omega), ?_⟩
    rw [er, hR.2.2.2.1 r hr, e1]
    have hW0 := of_whole (G := G) (q := q) (K := K) (pc := fun _ a b => pc0 k (pts st r) (lsr st r) a b) hk hok h1 (by omega) hK hK6 (show lsr st r ≤ 100 by omega) (fun a b => rfl)
    have hW := OfC.mono (pc' := pcS k (lsr st r) (pts st r)) hW0 (fun a b g1 g2 => by rw [pcS_at g1 g2]; exact (minO_of (StD0 g1 g2)).symm)
    have hO1 := of_one (G := G) (o1 := 7 + 5 * r) (K := K) (ls := lsr st r) hk hok h1 (show 1 ≤ q by omega) (by omega) hK hK6 (by omega) l1
    have hO2 : OfC G m_CU_offerWithoutTwo k (pts st r) (7 + 5 * r) q K (lsr st r) 2 (pcS k (lsr st r) (pts st r)) := by
      rcases hq12 with h | h
      · subst h
        intro d' P' I' J' T frm to a1 a2 a3 a4 a5 a6 a7
        have e9 : I' 33 9 < 2 := by rw [a4.2.2.2.2]; decide
        rw [offO_big (show 1 < 2 by omega)] at a7
        exact Ct.ofGo [some (.ref 33), some (.ref (7 + 5 * r)), some (.ref (mcl k)), some (.int (nI frm)), some (.int (nI to)), some (.int (nI (lsr st r))), none, none, none, none, none, none, none] (by decide +kernel) rfl (Nat.le_of_ble_eq_true rfl) (w_CU_offerWithoutTwo_0 h1 (mes_lt hk) (fun _ => a7 I' J' FO.rf a6) (fun c => absurd e9 c) (fun c => absurd e9 c))
      · exact of_two (G := G) (o1 := 7 + 5 * r) (K := K) (ls := lsr st r) hk hok h1 h hK hK6 (by omega) l1
    have hpcok := pcS_ok (k := k) (ls := lsr st r) hok l1
    refine sp_cutPoints (q := q) (pc := pcS k (lsr st r) (pts st r)) hk hok h1 (by omega) hK hK6 hpcok (hR.2.2.1 r hr).2.pf hR.2.2.2.2.2.2.2.1 hR.2.2.2.2.2.2.2.2 hW hO1 hO2 (fun I1 J1 g1 g2 g3 => ?_)
    have hokT := ok_all (q := q) (K := K) hpcok hl (pts st r).length (Nat.le_refl _)
    have hmin := (allq (pc := pcS k (lsr st r) (pts st r)) (St := StD k (lsr st r) (pts st r)) (n := (pts st r).length) (q := q) (K := K) (by omega) (fun e a b _ a1 a2 => by rw [pcS_at a1 a2]; exact minO_spec _) (pts st r).length (Nat.le_refl _)).1 q K 0 (Nat.le_refl _) (by omega) (Nat.zero_le _) (Or.inl (most0 K))
    have hmin2 := minO_of (isMin_congr hmin (fun v w => AD_WS l1 hK v w))
    refine sp_traceQ (n := (pts st r).length) (d := d + 2) hK6 (by omega) (by omega) g3 hokT g2.2.2.2.2 (w_CU_cutPoints_133 ?_ ?_)
    · have hfin := hq I1 J1 g1.kc
      unfold simpN at hfin
      rw [hmin2] at hfin
      have henc := g3 q K 0 (Nat.le_refl _) hK6 (by omega)
      cases ht : allT (pcS k (lsr st r) (pts st r)) q K (pts st r).length (pts st r).length q K 0 with
      | none =>
        rw [ht] at hfin
        exact w_LB_simpler_69 (fun c => absurd rfl c) (fun c => absurd rfl c) (fun _ => hfin)
      | some t =>
        rw [ht] at hfin henc hmin
        have hws := (AD_WS l1 hK _ _).mp hmin.1
        obtain ⟨w1, w2⟩ := WS_ix hl hq12 c6 hws
        have w1 : t.2.1 < 1600 := w1
        have hP1 := ((hR.2.2.1 r hr).2.pf).fq g1 h1
        have hne1 : ¬ (1 : Int32) = 0 := by decide
        refine w_LB_simpler_69 (fun _ => vp_in_nI hr (by omega)) (fun _ => ?_) (fun c => absurd c hne1)
        rw [er]
        refine sp_dropped (d := d + 3) hK6 hq12 c6 w1 g2.2.2.2.2 henc.2.2.1 (w_LB_simpler_94 h1.2.2.1 (vp_in_nI (Nat.lt_of_lt_of_le w2 hl) (by omega)) ?_)
        have hwl : (if q = 2 ∧ i = 0 then t.2.1 / 40 else t.2.1 % 40) < (pts st r).length := w2
        rw [nI_clamp (show (if q = 2 ∧ i = 0 then t.2.1 / 40 else t.2.1 % 40) < 2 ^ 31 by omega), (hP1.1.2 _ hwl).1]
        exact hfin
    · split
      · exact Or.inr rfl
      · exact Or.inl rfl
  exact Ct.ofGo [some (.ref 0), some (.int r), some (.int kd), some (.int K), some (.int q), some (.int i)] (by decide +kernel) rfl (Nat.le_of_ble_eq_true rfl) (w_LB_simpler_0 (fun c => hbad (Or.inl c)) (fun _ c => hbad (Or.inr (Or.inl c))) (fun _ _ c => hbad (Or.inr (Or.inr (Or.inl c)))) (fun _ _ _ c => hbad (Or.inr (Or.inr (Or.inr (Or.inl c))))) (fun _ _ _ _ c => hbad (Or.inr (Or.inr (Or.inr (Or.inr (isW0.mpr (fun h => absurd c (Int32.not_lt.mpr h.1)))))))) (fun c1 c2 c3 c4 c5 c6 => (main c1 c2 c3 c4 c5 c6).1) (fun c1 c2 c3 c4 c5 c6 => (main c1 c2 c3 c4 c5 c6).2) (fun _ _ _ c4 _ c => hbad (Or.inr (Or.inr (Or.inr (Or.inr (isW0.mpr (fun h => c (by have := h.2; rw [ti_le, hQ1 c4] at this; rw [ti_lt]; omega)))))))))
end
