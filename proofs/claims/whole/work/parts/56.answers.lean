/-! ===== best, cut, priced ===== -/
theorem isStr1 {x : Int32} (h : ¬ f_LB_isStretches x = 0) : ∃ r, 1 ≤ r ∧ r ≤ 6 ∧ x = nI r := by
  obtain ⟨h1, h2⟩ := isW1.mp (show ¬ f_LB_isWithin x 1 6 = 0 from h)
  rw [ti_le] at h1 h2
  have z1 : (1 : Int32).toInt = 1 := rfl
  have z2 : (6 : Int32).toInt = 6 := rfl
  refine ⟨x.toInt.toNat, by omega, by omega, ?_⟩
  rw [ti_eq, nI_ti (by omega)]; omega
theorem isCut0 {r k K : Int32} : f_RM_isCut r k K = 0 ↔ (f_LB_isRow r = 0 ∨ f_LB_isKind k = 0 ∨ f_LB_isStretches K = 0) := by
  unfold f_RM_isCut
  show (if f_LB_isRow r = 0 then (0 : Int32) else if f_LB_isKind k = 0 then 0 else if f_LB_isStretches K = 0 then 0 else 1) = 0 ↔ _
  by_cases h1 : f_LB_isRow r = 0
  · simp [h1]
  by_cases h2 : f_LB_isKind k = 0
  · simp [h1, h2]
  by_cases h3 : f_LB_isStretches K = 0
  · simp [h1, h2, h3]
  · simp [h1, h2, h3]
/-- the costs of a row -/
def cR (st : ST) (r k : Nat) : CC := cP k (pts st r) (lsr st r)
def nR (st : ST) (r : Nat) : Nat := (pts st r).length
def topV (v : Nat) : Nat := vW v * vB v + vA v
def bestT (o : Option (Nat × Nat)) (w : Int32) : Int64 := match o with
  | none => -9223372036854775805
  | some t => if w = 0 then lI (topV t.1 : Nat) else lI (vB t.1 : Nat)
def bestA (st : ST) (r kd K w : Int32) : Int64 :=
  if f_LB_isRow r = 0 ∨ f_LB_isKind kd = 0 ∨ f_LB_isStretches K = 0 ∨ f_LB_isWithin w 0 1 = 0 then -9223372036854775806
  else bestT (Dp (cR st r.toNatClampNeg kd.toNatClampNeg) (nR st r.toNatClampNeg) K.toNatClampNeg 0) w
def dayAt (L : List Pt) (i : Nat) : Int32 := nI (L.getD i (0, 0)).1
def cutA (st : ST) (r kd K i : Int32) : Int32 :=
  if f_LB_isRow r = 0 ∨ f_LB_isKind kd = 0 ∨ f_LB_isStretches K = 0 ∨ f_LB_isWithin i 0 (K - 1) = 0 then -2
  else if (Dp (cR st r.toNatClampNeg kd.toNatClampNeg) (nR st r.toNatClampNeg) K.toNatClampNeg 0).isSome = true then dayAt (pts st r.toNatClampNeg) (plc (cR st r.toNatClampNeg kd.toNatClampNeg) (nR st r.toNatClampNeg) K.toNatClampNeg i.toNatClampNeg) else -3
theorem plc_lt {c : CC} {n K i : Nat} (h : (Dp c n K 0).isSome = true) (hi : i < K) : plc c n K i < n := by
  obtain ⟨h1, h2, -⟩ := plc_ok h i (by omega)
  obtain ⟨t, ht⟩ := Option.isSome_iff_exists.mp h1
  rw [show K - i = (K - i - 1) + 1 by omega] at ht
  obtain ⟨g1, g2, -⟩ := Dp_nx ht
  omega
section
variable {G : GC} {d : Nat} {P : PT} {I : MI} {J : MJ}
theorem pts_ok {st : ST} (hS : okS st) (r : Nat) : okP (pts st r) := ptl_ok hS.1 r st.2.1
/-- the class cuts a row as it is known -/
theorem cl_cutRow {st : ST} {r k K : Nat} (hR : RC st I J) (hS : okS st) (hr : r < 4) (hk : k < 4) (hK : 1 ≤ K) (hK6 : K ≤ 6) (hq : ∀ I' J', FQ I J I' J' → CS (cR st r k) (nR st r) K I' J' → ((Dp (cR st r k) (nR st r) K 0).isSome = true → ∀ i, i < K → I' 49 i = nI (plc (cR st r k) (nR st r) K i)) → P (some (.int (if (Dp (cR st r k) (nR st r) K 0).isSome = true then 1 else 0))) I' J') : Ct G (d + 5) m_LB_cutRow [.ref 0, .int (nI r), .int (nI k), .int (nI K)] P I J := by
  have er : (nI r).toNatClampNeg = r := nI_clamp (by omega)
  obtain ⟨e1, l1, l2⟩ := lsr_ok hS hr
  refine Ct.ofGo [some (.ref 0), some (.int (nI r)), some (.int (nI k)), some (.int (nI K))] (by decide +kernel) rfl (Nat.le_of_ble_eq_true rfl) (w_LB_cutRow_0 (vp_in_nI hr (by omega)) ?_)
  rw [er, hR.2.2.2.1 r hr, e1]
  refine sp_cut0 hk (pts_ok hS r) (pts_lt r hr) hK hK6 (by omega) (hR.2.2.1 r hr).2.pf hR.2.2.2.2.2.2.2.1 hR.2.2.2.2.2.2.2.2 (fun I' J' g1 g2 g3 => w_LB_cutRow_22 (hq I' J' g1 g2 g3) ?_)
  split
  · exact Or.inr rfl
  · exact Or.inl rfl
theorem CS.at {c : CC} {n K k a : Nat} {t : Nat × Nat} (h : CS c n K I J) (hk : k ≤ 6) (ha : a ≤ n) (hn : n ≤ 40) (hm : k ≤ mostOf K a) (ht : Dp c n k a = some t) : J 42 (ix 0 k a) = lI (vW t.1 : Nat) ∧ J 43 (ix 0 k a) = lI ((t.1 % 5342931457063200 : Nat) : Int) := by
  obtain ⟨T, h1, h2, h3, -, -⟩ := h
  have := h1 0 k a (by omega) hk (by omega)
  rw [h3 k a ha (Or.inl hm), ht] at this
  exact ⟨this.1, this.2.1⟩
theorem CS.no {c : CC} {n K k a : Nat} (h : CS c n K I J) (hk : k ≤ 6) (ha : a ≤ n) (hn : n ≤ 40) (hm : k ≤ mostOf K a) (ht : Dp c n k a = none) : J 42 (ix 0 k a) = -1 := by
  obtain ⟨T, h1, h2, h3, -, -⟩ := h
  have := h1 0 k a (by omega) hk (by omega)
  rw [h3 k a ha (Or.inl hm), ht] at this
  exact this
theorem most0 (K : Nat) : K ≤ mostOf K 0 := by unfold mostOf; rw [if_pos rfl]; exact Nat.le_refl _
theorem gcd_r (v : Nat) : Nat.gcd (v % 5342931457063200) 5342931457063200 = vG v := rfl
theorem vG_le (v : Nat) : vG v ≤ 5342931457063200 := Nat.le_of_dvd (by decide) (vG_dvd v)
theorem sp_bestAbove {c : CC} {n K : Nat} {t : Nat × Nat} (h : CS c n K I J) (hK6 : K ≤ 6) (hn : n ≤ 40) (ht : Dp c n K 0 = some t) (hq : P (some (.long (lI (topV t.1 : Nat)))) I J) : Ct G (d + 1) m_CU_bestAbove [.ref 33, .int (nI K)] P I J := by
  obtain ⟨h1, h2⟩ := h.at hK6 (Nat.zero_le _) hn (most0 K) ht
  have eat : f_CU_at 0 (nI K) 0 = nI (ix 0 K 0) := at_ix 0 K 0
  have hxl := ix_lt (e := 0) (k := K) (a := 0) (by omega) hK6 (by omega)
  have ex : (nI (ix 0 K 0)).toNatClampNeg = ix 0 K 0 := nI_clamp (by omega)
  have hg := vG_pos t.1
  have hgl := vG_le t.1
  have hge : (1 : Int64) ≤ lI (vG t.1 : Nat) := by rw [show (1 : Int64) = lI 1 from rfl, lI_le (by omega) (by omega)]; omega
  have hne : ¬ lI (vG t.1 : Nat) = 0 := fun c => by have := (ln_0 (by omega)).mp c; omega
  refine Ct.ofGo [some (.ref 33), some (.int (nI K)), none, none, none] (by decide +kernel) rfl (Nat.le_of_ble_eq_true rfl) (w_CU_bestAbove_0 (by rw [eat]; exact vp_in_nI (by omega) (by omega)) ?_)
  rw [eat, ex, h2, c_NN]
  refine sp_commonDivisor (by omega) (by omega) ?_
  rw [gcd_r]
  refine w_CU_bestAbove_19 (fun _ => vp_in_nI (by omega) (by omega)) (fun _ => hne) (fun _ => ?_) (fun c => absurd hge c) (fun c => absurd hge c)
  rw [ex, h1, h2, c_NN, ln_div (by omega) (by omega) hg, ln_div (by omega) (by omega) hg, lI_mul, lI_add]
  exact hq
theorem sp_bestBelow {c : CC} {n K : Nat} {t : Nat × Nat} (h : CS c n K I J) (hK6 : K ≤ 6) (hn : n ≤ 40) (ht : Dp c n K 0 = some t) (hq : P (some (.long (lI (vB t.1 : Nat)))) I J) : Ct G (d + 1) m_CU_bestBelow [.ref 33, .int (nI K)] P I J := by
  obtain ⟨h1, h2⟩ := h.at hK6 (Nat.zero_le _) hn (most0 K) ht
  have eat : f_CU_at 0 (nI K) 0 = nI (ix 0 K 0) := at_ix 0 K 0
  have hxl := ix_lt (e := 0) (k := K) (a := 0) (by omega) hK6 (by omega)
  have ex : (nI (ix 0 K 0)).toNatClampNeg = ix 0 K 0 := nI_clamp (by omega)
  have hg := vG_pos t.1
  have hgl := vG_le t.1
  have hge : (1 : Int64) ≤ lI (vG t.1 : Nat) := by rw [show (1 : Int64) = lI 1 from rfl, lI_le (by omega) (by omega)]; omega
  have hne : ¬ lI (vG t.1 : Nat) = 0 := fun c => by have := (ln_0 (by omega)).mp c; omega
  refine Ct.ofGo [some (.ref 33), some (.int (nI K)), none, none] (by decide +kernel) rfl (Nat.le_of_ble_eq_true rfl) (w_CU_bestBelow_0 (by rw [eat]; exact vp_in_nI (by omega) (by omega)) ?_)
  rw [eat, ex, h2, c_NN]
  refine sp_commonDivisor (by omega) (by omega) ?_
  rw [gcd_r]
  refine w_CU_bestBelow_17 (fun _ => hne) (fun _ => ?_) (fun c => absurd hge c)
  rw [c_NN, ln_div (by omega) (by omega) hg]
  exact hq
theorem nR_le {st : ST} (hS : okS st) (r : Nat) : nR st r ≤ 40 := (pts_ok hS r).1
theorem cl_best {st : ST} {r kd K w : Int32} (hR : RC st I J) (hS : okS st) (hq : ∀ I' J', KC I J I' J' → P (some (.long (bestA st r kd K w))) I' J') : Ct G (d + 6) m_LB_best [.ref 0, .int r, .int kd, .int K, .int w] P I J := by
  have hbad : (f_LB_isRow r = 0 ∨ f_LB_isKind kd = 0 ∨ f_LB_isStretches K = 0 ∨ f_LB_isWithin w 0 1 = 0) → Go G (fr G m_LB_best (d + 6) P) 31 [none, none, none, none, none] [] I J := fun hb => by
    have e : bestA st r kd K w = f_LB_asLong (-2) := by unfold bestA; rw [if_pos hb]; decide
    have := hq I J KC.rf
    rw [e] at this; exact w_LB_best_31 this
  refine Ct.ofGo [some (.ref 0), some (.int r), some (.int kd), some (.int K), some (.int w)] (by decide +kernel) rfl (Nat.le_of_ble_eq_true rfl) (w_LB_best_0 (fun c => hbad (Or.inl c)) (fun _ c => hbad (Or.inr (Or.inl c))) (fun _ _ c => hbad (Or.inr (Or.inr (Or.inl c)))) (fun c1 c2 c3 c4 => ?_) (fun _ _ _ c => hbad (Or.inr (Or.inr (Or.inr c)))))
  have hnb : ¬ (f_LB_isRow r = 0 ∨ f_LB_isKind kd = 0 ∨ f_LB_isStretches K = 0 ∨ f_LB_isWithin w 0 1 = 0) := by
    rintro (h | h | h | h)
    · exact c1 h
    · exact c2 h
    · exact c3 h
    · exact c4 h
  unfold bestA at hq
  rw [if_neg hnb] at hq
  obtain ⟨r, hr, rfl⟩ := isRow1 c1
  obtain ⟨k, hk, rfl⟩ := isKind1 c2
  obtain ⟨K, hK, hK6, rfl⟩ := isStr1 c3
  rw [nI_clamp (show r < 2 ^ 31 by omega), nI_clamp (show k < 2 ^ 31 by omega), nI_clamp (show K < 2 ^ 31 by omega)] at hq
  have hn := nR_le hS r
  refine cl_cutRow hR hS hr hk hK hK6 (fun I' J' g1 g2 _ => ?_)
  have hfin := hq I' J' g1.kc
  cases hd : Dp (cR st r k) (nR st r) K 0 with
  | none =>
    rw [hd] at hfin
    refine w_LB_best_44 (fun c => absurd rfl c) (fun c => absurd rfl c) (fun _ => ?_)
    exact hfin
  | some t =>
    rw [hd] at hfin
    have hne : ¬ (1 : Int32) = 0 := by decide
    unfold bestT at hfin
    dsimp only at hfin
    refine w_LB_best_44 (fun _ c => sp_bestBelow g2 hK6 hn hd (w_LB_best_77 ?_)) (fun _ c => sp_bestAbove g2 hK6 hn hd (w_LB_best_66 (w_LB_best_77 ?_))) (fun c => absurd c hne)
    · rw [if_neg c] at hfin; exact hfin
    · rw [if_pos c] at hfin; exact hfin
theorem md_bestTold {c : CC} {n K : Nat} {t : Nat × Nat} {w : Int32} (hM : BM c n K J) (hK6 : K ≤ 6) (ht : Dp c n K 0 = some t) (hq : P (some (.long (bestT (some t) w))) I J) : Ct G d m_RM_bestTold [.ref 67, .int (nI K), .int w] P I J := by
  have h := hM K 0 (Nat.le_refl _) (Nat.zero_le _)
  rw [ht] at h
  obtain ⟨h1, h2, h3⟩ := h
  have e : 41 * nI K = nI (41 * K) := (Int32.ofNat_mul 41 K).symm
  have ex : (nI (41 * K)).toNatClampNeg = 41 * K := nI_clamp (by omega)
  rw [Nat.add_zero] at h1 h2 h3
  unfold bestT at hq
  dsimp only at hq
  refine Ct.ofGo [some (.ref 67), some (.int (nI K)), some (.int w), none] (by decide +kernel) rfl (Nat.le_of_ble_eq_true rfl) (w_RM_bestTold_0 (fun _ => by rw [e]; exact vp_in_nI (by omega) (by omega)) (fun c => ?_) (fun _ => by rw [e]; exact vp_in_nI (by omega) (by omega)) (fun c => ?_))
  · rw [if_neg c] at hq
    rw [e, ex, h3]; exact hq
  · rw [if_pos c] at hq
    rw [e, ex, h1, h2, h3, lI_mul, lI_add]; exact hq
theorem md_best {st : ST} {r kd K w : Int32} (hR : RM st I J) (hS : okS st) (hq : ∀ I' J', KM I J I' J' → P (some (.long (bestA st r kd K w))) I' J') : Ct G (d + 5) m_RM_best [.ref 67, .int r, .int kd, .int K, .int w] P I J := by
  have hbad : (f_LB_isRow r = 0 ∨ f_LB_isKind kd = 0 ∨ f_LB_isStretches K = 0 ∨ f_LB_isWithin w 0 1 = 0) → Go G (fr G m_RM_best (d + 5) P) 19 [none, none, none, none, none] [] I J := fun hb => by
    have e : bestA st r kd K w = -9223372036854775806 := by unfold bestA; rw [if_pos hb]
    have := hq I J KM.rf
    rw [e] at this; exact w_RM_best_19 this
  refine Ct.ofGo [some (.ref 67), some (.int r), some (.int kd), some (.int K), some (.int w)] (by decide +kernel) rfl (Nat.le_of_ble_eq_true rfl) (w_RM_best_0 (fun c => hbad (by rcases isCut0.mp c with h | h | h; (· exact Or.inl h); (· exact Or.inr (Or.inl h)); (· exact Or.inr (Or.inr (Or.inl h))))) (fun c1 c4 => ?_) (fun _ c => hbad (Or.inr (Or.inr (Or.inr c)))))
  have a1 : ¬ f_LB_isRow r = 0 := fun h => c1 (isCut0.mpr (Or.inl h))
  have a2 : ¬ f_LB_isKind kd = 0 := fun h => c1 (isCut0.mpr (Or.inr (Or.inl h)))
  have a3 : ¬ f_LB_isStretches K = 0 := fun h => c1 (isCut0.mpr (Or.inr (Or.inr h)))
  have a4 : ¬ f_LB_isWithin w 0 1 = 0 := c4
  have hnb : ¬ (f_LB_isRow r = 0 ∨ f_LB_isKind kd = 0 ∨ f_LB_isStretches K = 0 ∨ f_LB_isWithin w 0 1 = 0) := by
    rintro (h | h | h | h)
    · exact a1 h
    · exact a2 h
    · exact a3 h
    · exact a4 h
  unfold bestA at hq
  rw [if_neg hnb] at hq
  obtain ⟨r, hr, rfl⟩ := isRow1 a1
  obtain ⟨k, hk, rfl⟩ := isKind1 a2
  obtain ⟨K, hK, hK6, rfl⟩ := isStr1 a3
  rw [nI_clamp (show r < 2 ^ 31 by omega), nI_clamp (show k < 2 ^ 31 by omega), nI_clamp (show K < 2 ^ 31 by omega)] at hq
  rw [hR.2.1]
  refine md_finds hR hS hr hk hK hK6 (fun I' g1 _ g2 => ?_) (fun I' J' g1 _ g2 => ?_)
  · have hfin := hq I' J g1
    have g2 : (Dp (cR st r k) (nR st r) K 0).isSome = false := g2
    cases hd : Dp (cR st r k) (nR st r) K 0 with
    | none => rw [hd] at hfin; exact w_RM_best_34 (fun _ => hfin) (fun c => absurd rfl c)
    | some t => rw [hd] at g2; exact absurd g2 (by simp)
  · have hfin := hq I' J' g1
    obtain ⟨t, ht⟩ := Option.isSome_iff_exists.mp g2.2.2.2.1
    have ht' : Dp (cR st r k) (nR st r) K 0 = some t := ht
    rw [ht'] at hfin
    exact w_RM_best_34 (fun c => absurd c (by decide)) (fun _ => md_bestTold g2.2.2.1 hK6 ht (w_RM_best_44 hfin))
theorem cl_cut {st : ST} {r kd K i : Int32} (hR : RC st I J) (hS : okS st) (hq : ∀ I' J', KC I J I' J' → P (some (.int (cutA st r kd K i))) I' J') : Ct G (d + 6) m_LB_cut [.ref 0, .int r, .int kd, .int K, .int i] P I J := by
  have hbad : (f_LB_isRow r = 0 ∨ f_LB_isKind kd = 0 ∨ f_LB_isStretches K = 0 ∨ f_LB_isWithin i 0 (K - 1) = 0) → Go G (fr G m_LB_cut (d + 6) P) 32 [none, none, none, none, none] [] I J := fun hb => by
    have e : cutA st r kd K i = -2 := by unfold cutA; rw [if_pos hb]
    have := hq I J KC.rf
    rw [e] at this; exact w_LB_cut_32 this
  have hK1 : ¬ f_LB_isStretches K = 0 → (K - 1).toInt = K.toInt - 1 := fun h => by
    obtain ⟨K, hK, hK6, rfl⟩ := isStr1 h
    rw [show nI K - 1 = nI (K - 1) by rw [show K = K - 1 + 1 by omega]; exact nI_pred _, nI_ti (by omega), nI_ti (by omega)]; omega
  have z0 : (0 : Int32).toInt = 0 := rfl
  refine Ct.ofGo [some (.ref 0), some (.int r), some (.int kd), some (.int K), some (.int i)] (by decide +kernel) rfl (Nat.le_of_ble_eq_true rfl) (w_LB_cut_0 (fun c => hbad (Or.inl c)) (fun _ c => hbad (Or.inr (Or.inl c))) (fun _ _ c => hbad (Or.inr (Or.inr (Or.inl c)))) (fun _ _ _ c => hbad (Or.inr (Or.inr (Or.inr (isW0.mpr (fun h => absurd c (Int32.not_lt.mpr h.1))))))) (fun c1 c2 c3 c4 c5 => ?_) (fun _ _ c3 _ c => hbad (Or.inr (Or.inr (Or.inr (isW0.mpr (fun h => c (by have := h.2; rw [ti_le, hK1 c3] at this; rw [ti_lt]; omega))))))))
  have hnb : ¬ (f_LB_isRow r = 0 ∨ f_LB_isKind kd = 0 ∨ f_LB_isStretches K = 0 ∨ f_LB_isWithin i 0 (K - 1) = 0) := by
    rintro (h | h | h | h)
    · exact c1 h
    · exact c2 h
    · exact c3 h
    · exact isW0.mp h ⟨Int32.not_lt.mp c4, by rw [ti_le, hK1 c3]; rw [ti_lt] at c5; omega⟩
  unfold cutA at hq
  rw [if_neg hnb] at hq
  obtain ⟨r, hr, rfl⟩ := isRow1 c1
  obtain ⟨k, hk, rfl⟩ := isKind1 c2
  obtain ⟨K, hK, hK6, rfl⟩ := isStr1 c3
  obtain ⟨i, hi, rfl⟩ := nI_of c4
  have c5 := (nI_ltI hi (by omega)).mp c5
  have er : (nI r).toNatClampNeg = r := nI_clamp (by omega)
  rw [er, nI_clamp (show k < 2 ^ 31 by omega), nI_clamp (show K < 2 ^ 31 by omega), nI_clamp hi] at hq
  have hn := nR_le hS r
  refine cl_cutRow hR hS hr hk hK hK6 (fun I' J' g1 g2 g3 => ?_)
  have hfin := hq I' J' g1.kc
  by_cases hd : (Dp (cR st r k) (nR st r) K 0).isSome = true
  · rw [if_pos hd] at hfin ⊢
    have hpl := plc_lt hd c5
    have e49 := g3 hd i c5
    have hP := ((hR.2.2.1 r hr).2.pf).fq g1 (pts_lt r hr)
    refine w_LB_cut_42 (fun _ => vp_in_nI hr (by omega)) (fun _ => ?_) (fun c => absurd c (by decide))
    rw [er]
    have ei : (nI i).toNatClampNeg = i := nI_clamp hi
    refine Ct.ofGo [some (.ref 33), some (.ref (7 + 5 * r)), some (.int (nI i))] (by decide +kernel) rfl (Nat.le_of_ble_eq_true rfl) (w_CU_startDay_0 (pts_lt r hr) (vp_in_nI (by omega) (by omega)) (by rw [ei, e49]; exact vp_in_nI (by omega) (by omega)) (w_LB_cut_63 ?_))
    rw [ei, e49, nI_clamp (show plc (cR st r k) (nR st r) K i < 2 ^ 31 by omega), (hP.1.2 _ hpl).1]
    exact hfin
  · rw [if_neg hd] at hfin ⊢
    exact w_LB_cut_42 (fun c => absurd rfl c) (fun c => absurd rfl c) (fun _ => hfin)
theorem md_cut {st : ST} {r kd K i : Int32} (hR : RM st I J) (hS : okS st) (hq : ∀ I' J', KM I J I' J' → P (some (.int (cutA st r kd K i))) I' J') : Ct G (d + 5) m_RM_cut [.ref 67, .int r, .int kd, .int K, .int i] P I J := by
  have hbad : (f_LB_isRow r = 0 ∨ f_LB_isKind kd = 0 ∨ f_LB_isStretches K = 0 ∨ f_LB_isWithin i 0 (K - 1) = 0) → Go G (fr G m_RM_cut (d + 5) P) 21 [none, none, none, none, none] [] I J := fun hb => by
    have e : cutA st r kd K i = -2 := by unfold cutA; rw [if_pos hb]
    have := hq I J KM.rf
    rw [e] at this; exact w_RM_cut_21 this
  refine Ct.ofGo [some (.ref 67), some (.int r), some (.int kd), some (.int K), some (.int i)] (by decide +kernel) rfl (Nat.le_of_ble_eq_true rfl) (w_RM_cut_0 (fun c => hbad (by rcases isCut0.mp c with h | h | h; (· exact Or.inl h); (· exact Or.inr (Or.inl h)); (· exact Or.inr (Or.inr (Or.inl h))))) (fun c1 c4 => ?_) (fun _ c => hbad (Or.inr (Or.inr (Or.inr c)))))
  have a1 : ¬ f_LB_isRow r = 0 := fun h => c1 (isCut0.mpr (Or.inl h))
  have a2 : ¬ f_LB_isKind kd = 0 := fun h => c1 (isCut0.mpr (Or.inr (Or.inl h)))
  have a3 : ¬ f_LB_isStretches K = 0 := fun h => c1 (isCut0.mpr (Or.inr (Or.inr h)))
  have a4 : ¬ f_LB_isWithin i 0 (K - 1) = 0 := c4
  have hnb : ¬ (f_LB_isRow r = 0 ∨ f_LB_isKind kd = 0 ∨ f_LB_isStretches K = 0 ∨ f_LB_isWithin i 0 (K - 1) = 0) := by
    rintro (h | h | h | h)
    · exact a1 h
    · exact a2 h
    · exact a3 h
    · exact a4 h
  unfold cutA at hq
  rw [if_neg hnb] at hq
  obtain ⟨r, hr, rfl⟩ := isRow1 a1
  obtain ⟨k, hk, rfl⟩ := isKind1 a2
  obtain ⟨K, hK, hK6, rfl⟩ := isStr1 a3
  obtain ⟨b1, b2⟩ := isW1.mp a4
  obtain ⟨i, hi, rfl⟩ := nI_of (Int32.not_lt.mpr b1)
  rw [show nI K - 1 = nI (K - 1) by rw [show K = K - 1 + 1 by omega]; exact nI_pred _, nI_leI hi (by omega)] at b2
  have er : (nI r).toNatClampNeg = r := nI_clamp (by omega)
  have ei : (nI i).toNatClampNeg = i := nI_clamp hi
  rw [er, nI_clamp (show k < 2 ^ 31 by omega), nI_clamp (show K < 2 ^ 31 by omega), ei] at hq
  have hn := nR_le hS r
  rw [hR.2.1]
  refine md_finds hR hS hr hk hK hK6 (fun I' g1 _ g2 => ?_) (fun I' J' g1 _ g2 => ?_)
  · have hfin := hq I' J g1
    have g2 : (Dp (cR st r k) (nR st r) K 0).isSome = false := g2
    rw [g2, if_neg (by decide)] at hfin
    exact w_RM_cut_35 (fun _ => hfin) (fun c => absurd rfl c) (fun c => absurd rfl c) (fun c => absurd rfl c)
  · have hfin := hq I' J' g1
    have hd : (Dp (cR st r k) (nR st r) K 0).isSome = true := g2.2.2.2.1
    rw [if_pos hd] at hfin
    have hpl := plc_lt hd (show i < K by omega)
    have e83 : I' 83 i = nI (plc (cR st r k) (nR st r) K i) := g2.2.2.2.2 i (by omega)
    refine w_RM_cut_35 (fun c => absurd c (by decide)) (fun _ => vp_in_nI (by omega) (by omega)) (fun _ => by rw [ei, e83]; exact vp_in_nI (by omega) (by omega)) (fun _ => ?_)
    rw [ei, e83, nI_clamp (show plc (cR st r k) (nR st r) K i < 2 ^ 31 by omega), (g2.1.2 _ hpl).2]
    exact hfin
end
