/-! ===== priced ===== -/
/-- the cost of the best cuts into k, with the price of k - 1 cuts -/
def uPr (c : CC) (n p k : Nat) : Nat := match Dp c n k 0 with
  | none => 0
  | some t => t.1 + p * (k - 1) * 5342931457063200
/-- the first of 1 .. m that is worth most; 0 where none is -/
def prc (c : CC) (n p : Nat) : Nat → Nat
  | 0 => 0
  | m + 1 => if (Dp c n (m + 1) 0).isSome = true then (if prc c n p m = 0 ∨ uPr c n p (m + 1) < uPr c n p (prc c n p m) then m + 1 else prc c n p m) else prc c n p m
theorem prc_s (c : CC) (n p m : Nat) : prc c n p (m + 1) = if (Dp c n (m + 1) 0).isSome = true then (if prc c n p m = 0 ∨ uPr c n p (m + 1) < uPr c n p (prc c n p m) then m + 1 else prc c n p m) else prc c n p m := rfl
theorem prc_le (c : CC) (n p : Nat) : ∀ m, prc c n p m ≤ m ∧ (0 < prc c n p m → (Dp c n (prc c n p m) 0).isSome = true) := by
  intro m
  induction m with
  | zero => exact ⟨Nat.le_refl _, fun h => absurd h (by simp [prc])⟩
  | succ m ih =>
    unfold prc
    split
    · rename_i h
      split
      · exact ⟨Nat.le_refl _, fun _ => h⟩
      · exact ⟨by omega, ih.2⟩
    · exact ⟨by omega, ih.2⟩
theorem prc_stop {c : CC} {n p m : Nat} (h : ∀ j, m ≤ j → (Dp c n (j + 1) 0).isSome = false) : ∀ i, prc c n p (m + i) = prc c n p m := by
  intro i
  induction i with
  | zero => rfl
  | succ i ih =>
    show prc c n p (m + i + 1) = _
    rw [prc_s, if_neg (by rw [h (m + i) (by omega)]; decide), ih]
def pricedA (st : ST) (r kd p : Int32) : Int32 :=
  if f_LB_isRow r = 0 ∨ f_LB_isKind kd = 0 ∨ f_LB_isWithin p 0 1000000 = 0 then -2
  else if prc (cR st r.toNatClampNeg kd.toNatClampNeg) (nR st r.toNatClampNeg) p.toNatClampNeg 6 = 0 then -3 else nI (prc (cR st r.toNatClampNeg kd.toNatClampNeg) (nR st r.toNatClampNeg) p.toNatClampNeg 6)
theorem Dp_mono0 {c : CC} {n ls : Nat} (hfew : fewC c ls) (hls : 1 ≤ ls) {k : Nat} (h : (Dp c n (k + 1) 0).isSome = false) : ∀ j, k ≤ j → (Dp c n (j + 1) 0).isSome = false := by
  intro j hj
  have h1 := Dp_some (n := n) hfew hls k 0 (Nat.zero_le _)
  have h2 := Dp_some (n := n) hfew hls j 0 (Nat.zero_le _)
  cases hd : (Dp c n (j + 1) 0).isSome with
  | false => rfl
  | true =>
    have h3 := h2.mp hd
    have h4 : (k + 1) * ls ≤ (j + 1) * ls := Nat.mul_le_mul_right _ (by omega)
    have h5 := h1.mpr (by omega)
    rw [h] at h5; exact absurd h5 (by decide)
theorem uPr_w {c : CC} {n p k : Nat} {t : Nat × Nat} (h : Dp c n k 0 = some t) : uPr c n p k / 5342931457063200 = vW t.1 + p * (k - 1) ∧ uPr c n p k % 5342931457063200 = t.1 % 5342931457063200 := by
  unfold uPr vW
  rw [h]
  dsimp only
  generalize p * (k - 1) = z
  omega
section
variable {G : GC} {d : Nat} {P : PT} {I : MI} {J : MJ}
theorem sw_loop {c : CC} {n p ls : Nat} (hc : okC c n) (hn : n ≤ 40) (hfew : fewC c ls) (hls : 1 ≤ ls) (hp : p ≤ 1000000) (hS : CS c n 6 I J) (hq : P (some (.int (if prc c n p 6 = 0 then -3 else nI (prc c n p 6)))) I J) : ∀ (r k : Nat) (x2 : Int32) (l3 l5 : Int64), k + r = 6 → x2 = (if prc c n p k = 0 then -3 else nI (prc c n p k)) → (prc c n p k ≠ 0 → l3 = lI ((uPr c n p (prc c n p k) / 5342931457063200 : Nat) : Int) ∧ l5 = lI ((uPr c n p (prc c n p k) % 5342931457063200 : Nat) : Int)) → Go G (fr G m_CU_stretchesWorth (d + 1) P) 11 [some (.ref 33), some (.int (nI p)), some (.int x2), some (.long l3), none, some (.long l5), none, some (.int (nI (k + 1))), none, none, none] [] I J := by
  have h8 : I 33 8 = nI 6 := by obtain ⟨T, -, -, -, h, -⟩ := hS; exact h
  intro r
  induction r with
  | zero =>
    intro k x2 l3 l5 hr hx hl
    obtain rfl : k = 6 := by omega
    have hlt : I 33 8 < nI (6 + 1) := by rw [h8]; decide
    subst hx
    exact w_CU_stretchesWorth_11 (fun _ => w_CU_stretchesWorth_118 hq) (fun c => absurd hlt c) (fun c => absurd hlt c) (fun c => absurd hlt c) (fun c => absurd hlt c) (fun c => absurd hlt c) (fun c => absurd hlt c) (fun c => absurd hlt c)
  | succ r ih =>
    intro k x2 l3 l5 hr hx hl
    have hlt : ¬ I 33 8 < nI (k + 1) := by rw [h8]; exact nI_nlt (by omega) (by omega)
    have eat : f_CU_at 0 (nI (k + 1)) 0 = nI (ix 0 (k + 1) 0) := at_ix 0 (k + 1) 0
    have hxl := ix_lt (e := 0) (k := k + 1) (a := 0) (by omega) (by omega) (by omega)
    have ex : (nI (ix 0 (k + 1) 0)).toNatClampNeg = ix 0 (k + 1) 0 := nI_clamp (by omega)
    have hmo : k + 1 ≤ mostOf 6 0 := by unfold mostOf; rw [if_pos rfl]; omega
    obtain ⟨pl1, pl2⟩ := prc_le c n p k
    cases hd : Dp c n (k + 1) 0 with
    | none =>
      have h42 := hS.no (k := k + 1) (by omega) (Nat.zero_le _) hn hmo hd
      have hz : J 42 (f_CU_at 0 (nI (k + 1)) 0).toNatClampNeg = -1 := by rw [eat, ex]; exact h42
      have hst := prc_stop (p := p) (Dp_mono0 hfew hls (k := k) (n := n) (by rw [hd]; rfl)) (6 - k)
      rw [show k + (6 - k) = 6 by omega] at hst
      subst hx
      rw [hst] at hq
      exact w_CU_stretchesWorth_11 (fun c => absurd c hlt) (fun _ => by rw [eat]; exact vp_in_nI (by omega) (by omega)) (fun _ c => absurd hz c) (fun _ c => absurd hz c) (fun _ c => absurd hz c) (fun _ c => absurd hz c) (fun _ c => absurd hz c) (fun _ _ => w_CU_stretchesWorth_118 hq)
    | some t =>
      obtain ⟨h42, h43⟩ := hS.at (k := k + 1) (by omega) (Nat.zero_le _) hn hmo hd
      obtain ⟨bt1, bt2⟩ := D_bd hc hn (Nat.zero_le _) hd
      obtain ⟨u1, u2'⟩ := uPr_w (p := p) hd
      rw [Nat.add_sub_cancel] at u1
      have hpk : p * k ≤ 1000000 * 6 := Nat.mul_le_mul hp (by omega)
      have hw : J 42 (f_CU_at 0 (nI (k + 1)) 0).toNatClampNeg + (nI p).toInt64 * (nI (k + 1) - 1).toInt64 = lI ((uPr c n p (k + 1) / 5342931457063200 : Nat) : Int) := by
        rw [eat, ex, h42, nI_pred, nI_lI (by omega), nI_lI (by omega), lI_mul, lI_add, u1]; rfl
      have hz : ¬ J 42 (f_CU_at 0 (nI (k + 1)) 0).toNatClampNeg = -1 := by
        rw [eat, ex, h42, show (-1 : Int64) = lI (-1) from rfl, lI_inj (by omega) (by omega)]; omega
      have hr43 : J 43 (f_CU_at 0 (nI (k + 1)) 0).toNatClampNeg = lI ((uPr c n p (k + 1) % 5342931457063200 : Nat) : Int) := by rw [eat, ex, h43, u2']
      have hsome : (Dp c n (k + 1) 0).isSome = true := by rw [hd]; rfl
      have hpu : prc c n p (k + 1) = if prc c n p k = 0 ∨ uPr c n p (k + 1) < uPr c n p (prc c n p k) then k + 1 else prc c n p k := by
        show (if (Dp c n (k + 1) 0).isSome = true then _ else _) = _
        rw [if_pos hsome]
      have take : (prc c n p k = 0 ∨ uPr c n p (k + 1) < uPr c n p (prc c n p k)) → Go G (fr G m_CU_stretchesWorth (d + 1) P) 97 [some (.ref 33), some (.int (nI p)), none, none, none, none, none, some (.int (nI (k + 1))), some (.int (f_CU_at 0 (nI (k + 1)) 0)), some (.long (J 42 (f_CU_at 0 (nI (k + 1)) 0).toNatClampNeg + (nI p).toInt64 * (nI (k + 1) - 1).toInt64)), none] [] I J := by
        intro hc
        rw [if_pos hc] at hpu
        refine w_CU_stretchesWorth_97 (by rw [eat]; exact vp_in_nI (by omega) (by omega)) (w_CU_stretchesWorth_112 ?_)
        rw [nI_1]
        refine ih (k + 1) _ _ _ (by omega) ?_ (fun _ => ?_)
        · rw [hpu, if_neg (by omega)]
        · rw [hpu]; exact ⟨hw, hr43⟩
      have keep : ¬ (prc c n p k = 0 ∨ uPr c n p (k + 1) < uPr c n p (prc c n p k)) → Go G (fr G m_CU_stretchesWorth (d + 1) P) 112 [some (.ref 33), some (.int (nI p)), some (.int x2), some (.long l3), none, some (.long l5), none, some (.int (nI (k + 1))), none, none, none] [] I J := by
        intro hc
        rw [if_neg hc] at hpu
        refine w_CU_stretchesWorth_112 ?_
        rw [nI_1]
        refine ih (k + 1) _ _ _ (by omega) ?_ ?_
        · rw [hpu]; exact hx
        · rw [hpu]; exact hl
      by_cases hp0 : prc c n p k = 0
      · have hx3 : x2 = -3 := by rw [hx, if_pos hp0]
        exact w_CU_stretchesWorth_11 (fun c => absurd c hlt) (fun _ => by rw [eat]; exact vp_in_nI (by omega) (by omega)) (fun _ _ _ => take (Or.inl hp0)) (fun _ _ c => absurd hx3 c) (fun _ _ c => absurd hx3 c) (fun _ _ c => absurd hx3 c) (fun _ _ c => absurd hx3 c) (fun _ c => absurd c hz)
      · have hx3 : ¬ x2 = -3 := by
          rw [hx, if_neg hp0, ti_eq, nI_ti (by omega)]
          have : (-3 : Int32).toInt = -3 := rfl
          omega
        obtain ⟨e3, e5⟩ := hl hp0
        obtain ⟨tb, htb⟩ := Option.isSome_iff_exists.mp (pl2 (by omega))
        obtain ⟨v1, v2⟩ := uPr_w (p := p) htb
        obtain ⟨bb1, bb2⟩ := D_bd hc hn (Nat.zero_le _) htb
        have hpk2 : p * (prc c n p k - 1) ≤ 1000000 * 6 := Nat.mul_le_mul hp (by omega)
        have q1 : (J 42 (f_CU_at 0 (nI (k + 1)) 0).toNatClampNeg + (nI p).toInt64 * (nI (k + 1) - 1).toInt64 < l3) ↔ uPr c n p (k + 1) / 5342931457063200 < uPr c n p (prc c n p k) / 5342931457063200 := by rw [hw, e3, lI_lt (by omega) (by omega)]; omega
        have q2 : (J 42 (f_CU_at 0 (nI (k + 1)) 0).toNatClampNeg + (nI p).toInt64 * (nI (k + 1) - 1).toInt64 = l3) ↔ uPr c n p (k + 1) / 5342931457063200 = uPr c n p (prc c n p k) / 5342931457063200 := by rw [hw, e3, lI_inj (by omega) (by omega)]; omega
        have q3 : (l5 ≤ J 43 (f_CU_at 0 (nI (k + 1)) 0).toNatClampNeg) ↔ uPr c n p (prc c n p k) % 5342931457063200 ≤ uPr c n p (k + 1) % 5342931457063200 := by rw [hr43, e5, lI_le (by omega) (by omega)]; omega
        refine w_CU_stretchesWorth_11 (fun c => absurd c hlt) (fun _ => by rw [eat]; exact vp_in_nI (by omega) (by omega)) (fun _ _ c => absurd c hx3) (fun _ _ _ c => take (Or.inr (by rw [q1] at c; omega))) (fun _ _ _ c1 c2 => keep (by rw [q1] at c1; rw [q2] at c2; omega)) (fun _ _ _ c1 c2 c3 => keep (by rw [q1] at c1; rw [q2] at c2; rw [q3] at c3; omega)) (fun _ _ _ c1 c2 c3 => take (Or.inr (by rw [q1] at c1; rw [q2] at c2; rw [q3] at c3; omega))) (fun _ c => absurd c hz)
theorem isW_nI {x : Int32} {m : Nat} (hm : m < 2147483648) (h : ¬ f_LB_isWithin x 0 (nI m) = 0) : ∃ p, p ≤ m ∧ x = nI p := by
  obtain ⟨h1, h2⟩ := isW1.mp h
  obtain ⟨p, hp, rfl⟩ := nI_of (Int32.not_lt.mpr h1)
  rw [nI_leI hp (by omega)] at h2
  exact ⟨p, h2, rfl⟩
theorem cl_priced {st : ST} {r kd p : Int32} (hR : RC st I J) (hS : okS st) (hq : ∀ I' J', KC I J I' J' → P (some (.int (pricedA st r kd p))) I' J') : Ct G (d + 6) m_LB_priced [.ref 0, .int r, .int kd, .int p] P I J := by
  have hbad : (f_LB_isRow r = 0 ∨ f_LB_isKind kd = 0 ∨ f_LB_isWithin p 0 1000000 = 0) → Go G (fr G m_LB_priced (d + 6) P) 24 [none, none, none, none] [] I J := fun hb => by
    have e : pricedA st r kd p = -2 := by unfold pricedA; rw [if_pos hb]
    have := hq I J KC.rf
    rw [e] at this; exact w_LB_priced_24 this
  refine Ct.ofGo [some (.ref 0), some (.int r), some (.int kd), some (.int p)] (by decide +kernel) rfl (Nat.le_of_ble_eq_true rfl) (w_LB_priced_0 (fun c => hbad (Or.inl c)) (fun _ c => hbad (Or.inr (Or.inl c))) (fun c1 c2 c3 => ?_) (fun _ _ c => hbad (Or.inr (Or.inr c))))
  have hnb : ¬ (f_LB_isRow r = 0 ∨ f_LB_isKind kd = 0 ∨ f_LB_isWithin p 0 1000000 = 0) := by
    rintro (h | h | h)
    · exact c1 h
    · exact c2 h
    · exact c3 h
  unfold pricedA at hq
  rw [if_neg hnb] at hq
  obtain ⟨r, hr, rfl⟩ := isRow1 c1
  obtain ⟨k, hk, rfl⟩ := isKind1 c2
  obtain ⟨p, hp, rfl⟩ := isW_nI (m := 1000000) (by omega) c3
  rw [nI_clamp (show r < 2 ^ 31 by omega), nI_clamp (show k < 2 ^ 31 by omega), nI_clamp (show p < 2 ^ 31 by omega)] at hq
  obtain ⟨-, l1, -⟩ := lsr_ok hS hr
  refine cl_cutRow (K := 6) hR hS hr hk (by omega) (by omega) (fun I' J' g1 g2 _ => w_LB_priced_35 ?_)
  refine Ct.ofGo [some (.ref 33), some (.int (nI p)), none, none, none, none, none, none, none, none, none] (by decide +kernel) rfl (Nat.le_of_ble_eq_true rfl) (w_CU_stretchesWorth_0 ?_)
  exact sw_loop (c := cR st r k) (n := nR st r) (cP_ok (pts_ok hS r)) (nR_le hS r) (cP_few _ _ _) l1 hp g2 (w_LB_priced_44 (hq I' J' g1.kc)) 6 0 _ _ _ rfl rfl (fun h => absurd rfl h)
theorem pr_loop {c : CC} {n p ls r : Nat} {J0 : MJ} (hc : okC c n) (hn : n ≤ 40) (hfew : fewC c ls) (hls : 1 ≤ ls) (hls2 : ls ≤ 10) (hp : p ≤ 1000000) (hr : r < 4) (h72 : I 72 r = nI ls) (h7 : I 67 7 = nI n) (h1s : (Dp c n 1 0).isSome = true) (hq : ∀ J', FB J0 J' → P (some (.int (nI (prc c n p 6)))) I J') : ∀ (s k : Nat) (J : MJ), k + s = 6 → 1 ≤ k → FB J0 J → BM c n 6 J → Go G (fr G m_RM_priced (d + 4) P) 82 [some (.ref 67), some (.int (nI r)), none, some (.int (nI p)), some (.int (nI (prc c n p k))), some (.int (nI (k + 1)))] [] I J := by
  have er : (nI r).toNatClampNeg = r := nI_clamp (by omega)
  intro s
  induction s with
  | zero =>
    intro k J hr2 hk hF hM
    obtain rfl : k = 6 := by omega
    have hle : (7 : Int32) ≤ nI (6 + 1) := by decide
    exact w_RM_priced_82 (fun _ => w_RM_priced_184 (hq J hF)) (fun c => absurd hle c) (fun c => absurd hle c) (fun c => absurd hle c) (fun c => absurd hle c)
  | succ s ih =>
    intro k J hr2 hk hF hM
    have hlt : ¬ (7 : Int32) ≤ nI (k + 1) := nI_ge (b := 7) (by omega) (by omega)
    obtain ⟨pl1, pl2⟩ := prc_le c n p k
    have hmul : (k + 1) * ls ≤ 70 := Nat.le_trans (Nat.mul_le_mul (show k + 1 ≤ 7 by omega) hls2) (by decide)
    have hcmp : (I 67 7 < nI (k + 1) * I 72 (nI r).toNatClampNeg) ↔ n < (k + 1) * ls := by
      rw [er, h72, h7, show nI (k + 1) * nI ls = nI ((k + 1) * ls) from (Int32.ofNat_mul _ _).symm]; exact nI_ltI (by omega) (by omega)
    have hfeas := Dp_some (c := c) (n := n) hfew hls k 0 (Nat.zero_le _)
    rw [Nat.sub_zero] at hfeas
    have ppos : ∀ m, 1 ≤ m → 0 < prc c n p m := by
      intro m hm
      induction m with
      | zero => omega
      | succ m ihm =>
        unfold prc
        rcases Nat.eq_zero_or_pos m with q | q
        · subst q; rw [if_pos h1s, if_pos (Or.inl (show prc _ _ _ 0 = 0 from rfl))]; omega
        · have := ihm (by omega)
          split
          · split <;> omega
          · exact this
    have hpp := ppos k hk
    have e41 : ∀ j : Nat, 41 * nI j = nI (41 * j) := fun j => (Int32.ofNat_mul 41 j).symm
    refine w_RM_priced_82 (fun c => absurd c hlt) (fun _ => vp_in_nI hr (by omega)) (fun _ z0 => ?_) (fun _ _ => by rw [e41]; exact vp_in_nI (by omega) (by omega)) (fun _ z0 => ?_)
    · rw [hcmp] at z0
      have hno : (Dp c n (k + 1) 0).isSome = false := by
        cases hd : (Dp c n (k + 1) 0).isSome with
        | false => rfl
        | true => have := hfeas.mp hd; omega
      have hst := prc_stop (p := p) (Dp_mono0 hfew hls (k := k) (n := n) hno) (6 - k)
      rw [show k + (6 - k) = 6 by omega] at hst
      rw [← hst]
      exact w_RM_priced_184 (hq J hF)
    · rw [hcmp] at z0
      have hsome := hfeas.mpr (by omega)
      obtain ⟨t, ht⟩ := Option.isSome_iff_exists.mp hsome
      obtain ⟨tb, htb⟩ := Option.isSome_iff_exists.mp (pl2 hpp)
      have hk1 := hM (k + 1) 0 (by omega) (Nat.zero_le _)
      have hkb := hM (prc c n p k) 0 (by omega) (Nat.zero_le _)
      rw [ht] at hk1
      rw [htb] at hkb
      obtain ⟨a1, a2, a3⟩ := hk1
      obtain ⟨b1, b2, b3⟩ := hkb
      rw [Nat.add_zero] at a1 a2 a3 b1 b2 b3
      obtain ⟨bt1, bt2⟩ := D_bd hc hn (Nat.zero_le _) ht
      obtain ⟨bb1, bb2⟩ := D_bd hc hn (Nat.zero_le _) htb
      have ex1 : (nI (41 * (k + 1))).toNatClampNeg = 41 * (k + 1) := nI_clamp (by omega)
      have hpk : p * (k + 1 - prc c n p k) ≤ 1000000 * 6 := Nat.mul_le_mul hp (by omega)
      have hsu : nI (k + 1) - nI (prc c n p k) = nI (k + 1 - prc c n p k) := nI_sub (by omega)
      rw [e41, e41, ex1, hsu, nI_lI (by omega), nI_lI (by omega), a1, a2, a3, lI_mul, lI_add]
      generalize hz : p * (k + 1 - prc c n p k) = z at hpk
      have ez : ((vW t.1 : Nat) : Int) + (p : Int) * ((k + 1 - prc c n p k : Nat) : Int) = ((vW (t.1 + z * 5342931457063200) : Nat) : Int) := by
        have : (p : Int) * ((k + 1 - prc c n p k : Nat) : Int) = (z : Int) := by rw [← hz]; rfl
        rw [this]
        unfold vW; omega
      have em := v_mod (v := t.1 + z * 5342931457063200) (w := t.1) (by omega)
      rw [ez]
      have hSU : SU (t.1 + z * 5342931457063200) (u2 (u2 (u2 J 67 18 (lI (vW (t.1 + z * 5342931457063200) : Nat))) 67 19 (lI (vA t.1 : Nat))) 67 20 (lI (vB t.1 : Nat))) := by
        refine ⟨?_, ?_, ?_⟩
        · rw [u2_k (by decide), u2_k (by decide), u2_s]
        · rw [u2_k (by decide), u2_s, em.1]
        · rw [u2_s, em.2]
      refine md_against (by omega) hSU (by rw [u2_o (by decide), u2_o (by decide), u2_o (by decide)]; exact b1) (by rw [u2_o (by decide), u2_o (by decide), u2_o (by decide)]; exact b2) (by rw [u2_o (by decide), u2_o (by decide), u2_o (by decide)]; exact b3) (by rw [em.2]; omega) (by omega) (by unfold vW at bt2 ⊢; omega) (by omega) ?_
      have hcond : t.1 + z * 5342931457063200 < tb.1 ↔ uPr c n p (k + 1) < uPr c n p (prc c n p k) := by
        unfold uPr
        rw [ht, htb]
        dsimp only
        have e1 : p * (k + 1 - 1) = z + p * (prc c n p k - 1) := by
          rw [← hz, ← Nat.mul_add]; congr 1; omega
        rw [e1]
        generalize p * (prc c n p k - 1) = y
        omega
      have hpu : prc c n p (k + 1) = if prc c n p k = 0 ∨ uPr c n p (k + 1) < uPr c n p (prc c n p k) then k + 1 else prc c n p k := by
        show (if (Dp c n (k + 1) 0).isSome = true then _ else _) = _
        rw [if_pos hsome]
      have hfb : FB J (u2 (u2 (u2 J 67 18 (lI (vW (t.1 + z * 5342931457063200) : Nat))) 67 19 (lI (vA t.1 : Nat))) 67 20 (lI (vB t.1 : Nat))) := fun a h1 _ _ _ => by rw [u2_o h1, u2_o h1, u2_o h1]
      have nxt : ∀ y : Nat, y = prc c n p (k + 1) → Go G (fr G m_RM_priced (d + 4) P) 176 [some (.ref 67), some (.int (nI r)), none, some (.int (nI p)), none, some (.int (nI (k + 1)))] [.int (nI y)] I (u2 (u2 (u2 J 67 18 (lI (vW (t.1 + z * 5342931457063200) : Nat))) 67 19 (lI (vA t.1 : Nat))) 67 20 (lI (vB t.1 : Nat))) := by
        intro y hy
        subst hy
        refine w_RM_priced_176 ?_
        rw [nI_1]
        exact ih (k + 1) _ (by omega) (by omega) (hF.tr hfb) (hM.of (by rw [u2_o (by decide), u2_o (by decide), u2_o (by decide)]) (by rw [u2_o (by decide), u2_o (by decide), u2_o (by decide)]) (by rw [u2_o (by decide), u2_o (by decide), u2_o (by decide)]))
      refine w_RM_priced_166 (fun c => nxt _ ?_) (fun c => nxt _ ?_)
      · rw [hpu, if_neg]
        rintro (h | h)
        · omega
        · exact (cmpI_lt.mpr (hcond.mpr h)) c
      · rw [hpu, if_pos (Or.inr (hcond.mp (cmpI_lt.mp c)))]
theorem md_priced {st : ST} {r kd p : Int32} (hR : RM st I J) (hS : okS st) (hq : ∀ I' J', KM I J I' J' → P (some (.int (pricedA st r kd p))) I' J') : Ct G (d + 4) m_RM_priced [.ref 67, .int r, .int kd, .int p] P I J := by
  have hbad : (f_LB_isRow r = 0 ∨ f_LB_isKind kd = 0 ∨ f_LB_isWithin p 0 1000000 = 0) → Go G (fr G m_RM_priced (d + 4) P) 24 [none, none, none, none, none, none] [] I J := fun hb => by
    have e : pricedA st r kd p = -2 := by unfold pricedA; rw [if_pos hb]
    have := hq I J KM.rf
    rw [e] at this; exact w_RM_priced_24 this
  refine Ct.ofGo [some (.ref 67), some (.int r), some (.int kd), some (.int p), none, none] (by decide +kernel) rfl (Nat.le_of_ble_eq_true rfl) (w_RM_priced_0 (fun c => hbad (Or.inl c)) (fun _ c => hbad (Or.inr (Or.inl c))) (fun c1 c2 c3 => ?_) (fun _ _ c => hbad (Or.inr (Or.inr c))))
  have c1 : ¬ f_LB_isRow r = 0 := c1
  have c2 : ¬ f_LB_isKind kd = 0 := c2
  have c3 : ¬ f_LB_isWithin p 0 1000000 = 0 := c3
  have hnb : ¬ (f_LB_isRow r = 0 ∨ f_LB_isKind kd = 0 ∨ f_LB_isWithin p 0 1000000 = 0) := by
    rintro (h | h | h)
    · exact c1 h
    · exact c2 h
    · exact c3 h
  unfold pricedA at hq
  rw [if_neg hnb] at hq
  obtain ⟨r, hr, rfl⟩ := isRow1 c1
  obtain ⟨k, hk, rfl⟩ := isKind1 c2
  obtain ⟨p, hp, rfl⟩ := isW_nI (m := 1000000) (by omega) c3
  have er : (nI r).toNatClampNeg = r := nI_clamp (by omega)
  rw [er, nI_clamp (show k < 2 ^ 31 by omega), nI_clamp (show p < 2 ^ 31 by omega)] at hq
  obtain ⟨e1, l1, l2⟩ := lsr_ok hS hr
  have hok := pts_ok hS r
  have hn := nR_le hS r
  have hfeas := Dp_some (c := cR st r k) (n := nR st r) (cP_few _ _ _) l1 0 0 (Nat.zero_le _)
  rw [Nat.zero_add, Nat.one_mul, Nat.sub_zero] at hfeas
  have hnone : ¬ lsr st r ≤ nR st r → prc (cR st r k) (nR st r) p 6 = 0 := fun h => by
    have hno : (Dp (cR st r k) (nR st r) (0 + 1) 0).isSome = false := by
      cases hd : (Dp (cR st r k) (nR st r) (0 + 1) 0).isSome with
      | false => rfl
      | true => exact absurd (hfeas.mp hd) h
    have := prc_stop (p := p) (Dp_mono0 (cP_few _ _ _) l1 (k := 0) hno) 6
    rw [Nat.zero_add] at this
    exact this
  rw [hR.2.1]
  refine md_pointsBy hR.1 hS.1 (fun I1 g1 _ g3 => ?_)
  have hQ : QL (pts st r) I1 := g3.ql
  have h7 : I1 67 7 = nI (nR st r) := hQ.1
  have h72 : I1 72 r = nI (lsr st r) := by rw [g1.1 72 (by decide) (by decide) (by decide) (by decide), hR.2.2.1 r hr, e1]
  have hcmp : (I1 72 (nI r).toNatClampNeg ≤ I1 67 7) ↔ lsr st r ≤ nR st r := by rw [er, h72, h7]; exact nI_leI (by omega) (by omega)
  have hb2 : ¬ lsr st r ≤ nR st r → Go G (fr G m_RM_priced (d + 4) P) 56 [none, none, none, none, none, none] [] I1 J := fun h => by
    have := hq I1 J g1.km
    rw [hnone h, if_pos rfl] at this
    exact w_RM_priced_56 this
  refine w_RM_priced_36 (fun c => hb2 ?_) (fun _ => vp_in_nI hr (by omega)) (fun _ c => ?_) (fun _ c => hb2 (fun h => c (hcmp.mpr h)))
  · rw [h7, show (0 : Int32) = nI 0 from rfl, nI_eq (by omega) (by omega)] at c; omega
  · have hge := hcmp.mp c
    refine md_costs hk hok hQ (fun I2 J2 k1 k2 => w_RM_priced_64 (vp_in_nI hr (by omega)) ?_)
    have h72' : I2 72 r = nI (lsr st r) := by rw [k1.1 72 (by decide)]; exact h72
    have hQ2 := hQ.fc k1
    rw [er, h72']
    have h1s := hfeas.mpr hge
    refine md_cuts (c := cR st r k) (K := 6) hn (cP_ok hok) (cP_few _ _ _) l1 (by omega) (by omega) hQ2.1 (k2.c hok) (fun J3 m1 m2 => w_RM_priced_76 ?_)
    have hp1 : prc (cR st r k) (nR st r) p 1 = 1 := by
      rw [prc_s, if_pos h1s, if_pos (Or.inl (show prc _ _ _ 0 = 0 from rfl))]
    have hlp := pr_loop (G := G) (d := d) (P := P) (I := I2) (J0 := J3) (c := cR st r k) (n := nR st r) (p := p) (ls := lsr st r) (r := r) (cP_ok hok) hn (cP_few _ _ _) l1 l2 hp hr h72' hQ2.1 h1s (fun J4 n1 => ?_) 5 1 J3 rfl (by omega) FB.rf m2
    · rw [hp1] at hlp; exact hlp
    · have := hq I2 J4 (((g1.km.tr k1.km).tr (FB.km (fun _ _ => rfl) m1)).tr (FB.km (fun _ _ => rfl) n1))
      have hpp : ¬ prc (cR st r k) (nR st r) p 6 = 0 := by
        have : ∀ m, 1 ≤ m → 0 < prc (cR st r k) (nR st r) p m := by
          intro m hm
          induction m with
          | zero => omega
          | succ m ihm =>
            unfold prc
            rcases Nat.eq_zero_or_pos m with q | q
            · subst q; rw [if_pos h1s, if_pos (Or.inl (show prc _ _ _ 0 = 0 from rfl))]; omega
            · have := ihm (by omega)
              split
              · split <;> omega
              · exact this
        have := this 6 (by omega); omega
      rw [if_neg hpp] at this
      exact this
end
