/-! ===== common cuts: the reference's best ===== -/
def cB (c : CC) : Prop := ∀ a b x, c a b = some x → x ≤ 1000000000
theorem Dp_b {c : CC} (hc : cB c) {n : Nat} : ∀ k a t, Dp c n k a = some t → t.1 ≤ k * 1000000000 := by
  intro k
  induction k with
  | zero =>
    intro a t h
    have h : (if a = n then some ((0, 0) : Nat × Nat) else none) = some t := h
    split at h
    · obtain rfl := Option.some.inj h; exact Nat.zero_le _
    · exact absurd h (by simp)
  | succ k ih =>
    intro a t h
    obtain ⟨-, -, x, t', g3, g4, g5⟩ := Dp_nx h
    have := ih t.2 t' g4
    have := hc a (t.2 - 1) x g3
    rw [g5, Nat.succ_mul]; omega
theorem fD_b {c : CC} (hc : cB c) {n k a b v : Nat} (hk : k ≤ 6) (h : fD c n k a b = some v) : v ≤ 10000000000 := by
  unfold fD at h
  cases hx : c a b with
  | none => rw [hx] at h; exact absurd h (by simp)
  | some x =>
    rw [hx] at h
    cases hd : Dp c n k (b + 1) with
    | none => rw [hd] at h; exact absurd h (by simp)
    | some t =>
      rw [hd] at h
      have h : some (x + t.1) = some v := h
      have h := Option.some.inj h
      have h1 := hc a b x hx
      have h2 := Dp_b hc k (b + 1) t hd
      have h3 : k * 1000000000 ≤ 6 * 1000000000 := Nat.mul_le_mul_right _ hk
      omega
def d1 (o : Option (Nat × Nat)) : Option Nat := o.map fun t => t.1
def SB (c : CC) (k A : Nat) (J : MJ) : Prop := ∀ k' a, a ≤ 40 → (k' < k ∨ (k' = k ∧ A ≤ a)) → J 85 (41 * k' + a) = eO (d1 (Dp c 40 k' a))
theorem bst_s (f : Nat → Option Nat) (lo m : Nat) : bst f lo (m + 1) = match f (lo + m) with
    | none => bst f lo m
    | some v => some (match bst f lo m with
      | none => (v, lo + m + 1)
      | some w => if v < w.1 then (v, lo + m + 1) else w) := rfl
theorem bst_b {c : CC} (hc : cB c) {n k a m : Nat} {w : Nat × Nat} (hk : k ≤ 6) (h : bst (fD c n k a) a m = some w) : w.1 ≤ 10000000000 := fD_b hc hk ((bst_spec (fD c n k a) a m).2 w h).1.2.2
section
variable {G : GC} {d : Nat} {P : PT} {I : MI} {J : MJ}
theorem sh_b {c : CC} (hc : cB c) {K j a : Nat} (hK : K ≤ 6) (hj : j + 1 ≤ K) (ha : a ≤ 40) (hC : CB c J) (hB : SB c (j + 1) (a + 1) J) (hq : Go G (fr G m_RM_shares (d + 5) P) 174 [some (.ref 67), none, none, some (.int (nI K)), some (.int (nI (j + 1))), some (.int (nI a)), some (.long (eO (d1 (Dp c 40 (j + 1) a)))), none, none, none, none, none, none] [] I J) : ∀ (r m : Nat), a + m + r = 40 → Go G (fr G m_RM_shares (d + 5) P) 49 [some (.ref 67), none, none, some (.int (nI K)), some (.int (nI (j + 1))), some (.int (nI a)), some (.long (eO (d1 (bst (fD c 40 j a) a m)))), none, some (.int (nI (a + m))), none, none, none, none] [] I J := by
  intro r
  induction r with
  | zero =>
    intro m hm
    have hle : (40 : Int32) ≤ nI (a + m) := nI_le (a := 40) (by omega) (by omega)
    refine w_RM_shares_49 (fun _ => ?_) (fun c => absurd hle c) (fun c => absurd hle c) (fun c => absurd hle c) (fun c => absurd hle c) (fun c => absurd hle c) (fun c => absurd hle c)
    rw [Dp_s] at hq
    rw [show m = 40 - a by omega]; exact hq
  | succ r ih =>
    intro m hm
    have hlt : ¬ (40 : Int32) ≤ nI (a + m) := nI_ge (a := a + m) (b := 40) (by omega) (by omega)
    have hpos : ¬ nI (j + 1) ≤ 0 := nI_nle (by omega) (by omega)
    have e1 : 41 * (nI (j + 1) - 1) + nI (a + m) + 1 = nI (41 * j + (a + m + 1)) := by rw [nI_pred, i41, nI_1]; rfl
    have e1c : (nI (41 * j + (a + m + 1))).toNatClampNeg = 41 * j + (a + m + 1) := nI_clamp (by omega)
    have e2 : 40 * nI a + nI (a + m) = nI (40 * a + (a + m)) := i40 _ _
    have e2c : (nI (40 * a + (a + m))).toNatClampNeg = 40 * a + (a + m) := nI_clamp (by omega)
    have hr := hB j (a + m + 1) (by omega) (Or.inl (by omega))
    have hcs := hC a (a + m) (by omega) (by omega)
    have hnx := ih (m + 1) (by omega)
    have hb1 : ∀ x, d1 (Dp c 40 j (a + m + 1)) = some x → x < 9223372036854775808 := fun x hx => by
      cases hd : Dp c 40 j (a + m + 1) with
      | none => rw [hd] at hx; exact absurd hx (by simp [d1])
      | some t =>
        rw [hd] at hx
        have hx : some t.1 = some x := hx
        have := Option.some.inj hx
        have := Dp_b hc j _ t hd
        have h3 : j * 1000000000 ≤ 6 * 1000000000 := Nat.mul_le_mul_right _ (by omega)
        omega
    have hb2 : ∀ x, c a (a + m) = some x → x < 9223372036854775808 := fun x hx => by have := hc a (a + m) x hx; omega
    have no : fD c 40 j a (a + m) = none → Go G (fr G m_RM_shares (d + 5) P) 109 [some (.ref 67), none, none, some (.int (nI K)), some (.int (nI (j + 1))), some (.int (nI a)), some (.long (eO (d1 (bst (fD c 40 j a) a m)))), none, some (.int (nI (a + m))), none, none, none, none] [] I J := fun h => by
      refine w_RM_shares_109 (w_RM_shares_131 (fun _ => w_RM_shares_164 (w_RM_shares_166 ?_)) (fun c => absurd rfl c) (fun c => absurd rfl c) (fun c => absurd rfl c))
      rw [nI_1]
      rw [bst_s, h] at hnx
      exact hnx
    refine w_RM_shares_49 (fun c => absurd c hlt) (fun _ c => absurd c hpos) (fun _ _ => by rw [e1]; exact vp_in_nI (by omega) (by omega)) (fun _ _ => by rw [e2]; exact vp_in_nI (by omega) (by omega)) (fun _ _ c => no ?_) (fun _ _ c1 c2 => ?_) (fun _ _ _ q => no ?_)
    · rw [e2, e2c, hcs, eO_none hb2] at c
      unfold fD; rw [c]; rfl
    · rw [e2, e2c, hcs, eO_none hb2] at c1
      rw [e1, e1c, hr, eO_none hb1] at c2
      cases hx : c a (a + m) with
      | none => exact absurd hx c1
      | some x =>
        cases hd : Dp c 40 j (a + m + 1) with
        | none => rw [hd] at c2; exact absurd rfl c2
        | some t =>
          have hf : fD c 40 j a (a + m) = some (x + t.1) := by unfold fD; rw [hx, hd]; rfl
          have hfb := fD_b hc (show j ≤ 6 by omega) hf
          rw [bst_s, hf] at hnx
          rw [e2, e2c, hcs, e1, e1c, hr, hx, hd]
          have es : eO (some x) + eO (d1 (some t)) = lI ((x + t.1 : Nat) : Int) := by show lI (x : Int) + lI (t.1 : Int) = _; rw [lI_add]; rfl
          rw [es]
          have hs1 : ¬ lI ((x + t.1 : Nat) : Int) = -1 := by rw [show (-1 : Int64) = lI (-1) from rfl, lI_inj (by omega) (by omega)]; omega
          cases hw : bst (fD c 40 j a) a m with
          | none =>
            rw [hw] at hnx
            have hm1 : eO (d1 none) = -1 := rfl
            refine w_RM_shares_131 (fun c => absurd c hs1) (fun _ _ => w_RM_shares_159 (w_RM_shares_166 ?_)) (fun _ c => absurd hm1 c) (fun _ c => absurd hm1 c)
            rw [nI_1]; exact hnx
          | some w =>
            rw [hw] at hnx
            have hwb := bst_b hc (show j ≤ 6 by omega) hw
            have hm1 : ¬ eO (d1 (some w)) = -1 := by
              show ¬ lI (w.1 : Int) = -1
              rw [show (-1 : Int64) = lI (-1) from rfl, lI_inj (by omega) (by omega)]; omega
            have hcm : (eO (d1 (some w)) ≤ lI ((x + t.1 : Nat) : Int)) ↔ w.1 ≤ x + t.1 := by
              show (lI (w.1 : Int) ≤ lI ((x + t.1 : Nat) : Int)) ↔ _
              rw [lI_le (by omega) (by omega)]; omega
            refine w_RM_shares_131 (fun c => absurd c hs1) (fun _ c => absurd c hm1) (fun _ _ c => w_RM_shares_164 (w_RM_shares_166 ?_)) (fun _ _ c => w_RM_shares_159 (w_RM_shares_166 ?_))
            · have c := hcm.mp c
              rw [nI_1]
              have e : (if x + t.1 < w.1 then (x + t.1, a + m + 1) else w) = w := if_neg (by omega)
              dsimp only at hnx
              rw [e] at hnx; exact hnx
            · have c : ¬ w.1 ≤ x + t.1 := fun h => c (hcm.mpr h)
              rw [nI_1]
              have e : (if x + t.1 < w.1 then (x + t.1, a + m + 1) else w) = (x + t.1, a + m + 1) := if_pos (by omega)
              dsimp only at hnx
              rw [e] at hnx; exact hnx
    · rw [e1, e1c, hr, eO_none hb1] at q
      cases hd : Dp c 40 j (a + m + 1) with
      | none => unfold fD; rw [hd]; cases c a (a + m) <;> rfl
      | some t => rw [hd] at q; exact absurd q (by simp [d1])
theorem SB.nx {c : CC} {k : Nat} (h : SB c k 0 J) : SB c (k + 1) 41 J := fun k' a h1 h2 => h k' a h1 (by omega)
theorem sh_a {c : CC} (hc : cB c) {K k : Nat} {J0 : MJ} (hK : K ≤ 6) (hk : k ≤ K) (hq : ∀ J', (∀ x, x ≠ 85 → J' x = J0 x) → SB c (k + 1) 41 J' → Go G (fr G m_RM_shares (d + 5) P) 9 [some (.ref 67), none, none, some (.int (nI K)), some (.int (nI k + 1)), none, none, none, none, none, none, none, none] [] I J') : ∀ (A : Nat) (x5 : Int32) (J : MJ), A ≤ 41 → x5 = nI A - 1 → (∀ x, x ≠ 85 → J x = J0 x) → CB c J → SB c k A J → Go G (fr G m_RM_shares (d + 5) P) 19 [some (.ref 67), none, none, some (.int (nI K)), some (.int (nI k)), some (.int x5), none, none, none, none, none, none, none] [] I J := by
  intro A
  induction A with
  | zero =>
    intro x5 J _ hx hF hC hB
    subst hx
    have hlt : nI 0 - 1 < 0 := by decide
    exact w_RM_shares_19 (fun _ => hq J hF hB.nx) (fun c => absurd hlt c) (fun c => absurd hlt c) (fun c => absurd hlt c)
  | succ a ih =>
    intro x5 J hA hx hF hC hB
    rw [nI_pred] at hx
    subst hx
    have hlt : ¬ nI a < 0 := nI_pos (by omega)
    have e3 : 41 * nI k + nI a = nI (41 * k + a) := i41 _ _
    have e3c : (nI (41 * k + a)).toNatClampNeg = 41 * k + a := nI_clamp (by omega)
    have h174 : Go G (fr G m_RM_shares (d + 5) P) 174 [some (.ref 67), none, none, some (.int (nI K)), some (.int (nI k)), some (.int (nI a)), some (.long (eO (d1 (Dp c 40 k a)))), none, none, none, none, none, none] [] I J := by
      refine w_RM_shares_174 (by rw [e3]; exact vp_in_nI (by omega) (by omega)) ?_
      rw [e3, e3c]
      refine ih _ _ (by omega) (by rw [Int32.sub_eq_add_neg]) (fun x hx => by rw [u2_o hx]; exact hF x hx) (fun a' b' h1 h2 => by rw [u2_o (by decide)]; exact hC a' b' h1 h2) (fun k' a' h1 h2 => ?_)
      by_cases q : k' = k ∧ a' = a
      · rw [q.1, q.2, u2_s]
      · rw [u2_k (by omega)]; exact hB k' a' h1 (by omega)
    cases k with
    | zero =>
      have h0 : nI 0 = 0 := nI_0
      have h0le : nI 0 ≤ 0 := by decide
      have hg : ∀ z : Int64, z = eO (d1 (Dp c 40 0 a)) → Go G (fr G m_RM_shares (d + 5) P) 43 [some (.ref 67), none, none, some (.int (nI K)), some (.int (nI 0)), some (.int (nI a)), none, none, none, none, none, none, none] [.long z] I J := fun z hz => by
        rw [hz]
        refine w_RM_shares_43 ?_
        by_cases q : (40 : Int32) ≤ nI a
        · exact w_RM_shares_49 (fun _ => h174) (fun c => absurd q c) (fun c => absurd q c) (fun c => absurd q c) (fun c => absurd q c) (fun c => absurd q c) (fun c => absurd q c)
        · exact w_RM_shares_49 (fun c => absurd c q) (fun _ _ => h174) (fun _ c => absurd h0le c) (fun _ c => absurd h0le c) (fun _ c => absurd h0le c) (fun _ c => absurd h0le c) (fun _ c => absurd h0le c)
      have h40 : (nI a = 40) ↔ a = 40 := nI_eq (b := 40) (by omega) (by omega)
      refine w_RM_shares_19 (fun c => absurd c hlt) (fun _ c => absurd h0 c) (fun _ _ c => w_RM_shares_40 (hg _ ?_)) (fun _ _ c => hg _ ?_)
      · show (-1 : Int64) = eO (d1 (if a = 40 then some (0, 0) else none))
        rw [if_neg (fun h => c (h40.mpr h))]; rfl
      · show (0 : Int64) = eO (d1 (if a = 40 then some (0, 0) else none))
        rw [if_pos (h40.mp c)]; rfl
    | succ j =>
      have h0 : ¬ nI (j + 1) = 0 := nI_ne0 (by omega) (by omega)
      refine w_RM_shares_19 (fun c => absurd c hlt) (fun _ _ => w_RM_shares_40 (w_RM_shares_43 ?_)) (fun _ c => absurd c h0) (fun _ c => absurd c h0)
      exact sh_b hc hK hk (by omega) hC hB h174 (40 - a) 0 (by omega)
theorem sh_k {c : CC} (hc : cB c) {K : Nat} {J0 : MJ} (hK : K ≤ 6) (hq1 : ∀ J', (∀ x, x ≠ 85 → J' x = J0 x) → SB c (K + 1) 41 J' → (Dp c 40 K 0).isSome = true → Go G (fr G m_RM_shares (d + 5) P) 225 [some (.ref 67), none, none, some (.int (nI K)), some (.int 0), some (.int 0), none, none, none, none, none, none, none] [] I J') (hq0 : ∀ J', (∀ x, x ≠ 85 → J' x = J0 x) → (Dp c 40 K 0).isSome = false → P (some (.int 0)) I J') : ∀ (r k : Nat) (J : MJ), k + r = K + 1 → (∀ x, x ≠ 85 → J x = J0 x) → CB c J → SB c k 41 J → Go G (fr G m_RM_shares (d + 5) P) 9 [some (.ref 67), none, none, some (.int (nI K)), some (.int (nI k)), none, none, none, none, none, none, none, none] [] I J := by
  intro r
  induction r with
  | zero =>
    intro k J hk hF hC hB
    obtain rfl : k = K + 1 := by omega
    have hlt : nI K < nI (K + 1) := nI_lt (by omega) (by omega)
    have e : 41 * nI K = nI (41 * K) := (Int32.ofNat_mul 41 K).symm
    have ec : (nI (41 * K)).toNatClampNeg = 41 * K := nI_clamp (by omega)
    have hv := hB K 0 (by omega) (Or.inl (by omega))
    rw [Nat.add_zero] at hv
    have hb1 : ∀ x, d1 (Dp c 40 K 0) = some x → x < 9223372036854775808 := fun x hx => by
      cases hd : Dp c 40 K 0 with
      | none => rw [hd] at hx; exact absurd hx (by simp [d1])
      | some t =>
        rw [hd] at hx
        have hx : some t.1 = some x := hx
        have := Option.some.inj hx
        have := Dp_b hc K _ t hd
        have h3 : K * 1000000000 ≤ 6 * 1000000000 := Nat.mul_le_mul_right _ (by omega)
        omega
    refine w_RM_shares_9 (fun _ => by rw [e]; exact vp_in_nI (by omega) (by omega)) (fun _ q => ?_) (fun _ q => ?_) (fun c => absurd hlt c)
    · rw [e, ec, hv, eO_none hb1] at q
      refine hq1 J hF hB ?_
      cases hd : Dp c 40 K 0 with
      | none => rw [hd] at q; exact absurd rfl q
      | some t => rfl
    · rw [e, ec, hv, eO_none hb1] at q
      refine hq0 J hF ?_
      cases hd : Dp c 40 K 0 with
      | none => rfl
      | some t => rw [hd] at q; exact absurd q (by simp [d1])
  | succ r ih =>
    intro k J hk hF hC hB
    have hlt : ¬ nI K < nI k := nI_nlt (by omega) (by omega)
    refine w_RM_shares_9 (fun c => absurd c hlt) (fun c => absurd c hlt) (fun c => absurd c hlt) (fun _ => ?_)
    refine sh_a hc (J0 := J) hK (by omega) (fun J' g1 g2 => ?_) 41 40 J (by omega) (by decide) (fun _ _ => rfl) hC hB
    rw [nI_1]
    exact ih (k + 1) J' (by omega) (fun x hx => (g1 x hx).trans (hF x hx)) (fun a b h1 h2 => by rw [g1 84 (by decide)]; exact hC a b h1 h2) g2
theorem md_isCommon {c : CC} (hc : cB c) {K j a b : Nat} {t : Nat × Nat} (hK : K ≤ 6) (hj : j + 1 ≤ K) (hab : a ≤ b) (hb : b < 40) (hC : CB c J) (hB : SB c (K + 1) 41 J) (ht : Dp c 40 (j + 1) a = some t) (hq : P (some (.int (if fD c 40 j a b = some t.1 then 1 else 0))) I J) : Ct G d m_RM_isCommon [.ref 67, .int (nI a), .int (nI b), .int (nI (j + 1))] P I J := by
  have e1 : 41 * (nI (j + 1) - 1) + nI b + 1 = nI (41 * j + (b + 1)) := by rw [nI_pred, i41, nI_1]; rfl
  have e1c : (nI (41 * j + (b + 1))).toNatClampNeg = 41 * j + (b + 1) := nI_clamp (by omega)
  have e2 : 40 * nI a + nI b = nI (40 * a + b) := i40 _ _
  have e2c : (nI (40 * a + b)).toNatClampNeg = 40 * a + b := nI_clamp (by omega)
  have e3 : 41 * nI (j + 1) + nI a = nI (41 * (j + 1) + a) := i41 _ _
  have e3c : (nI (41 * (j + 1) + a)).toNatClampNeg = 41 * (j + 1) + a := nI_clamp (by omega)
  have hr := hB j (b + 1) (by omega) (Or.inl (by omega))
  have hcs := hC a b hab hb
  have hat := hB (j + 1) a (by omega) (Or.inl (by omega))
  rw [ht] at hat
  have htb := Dp_b hc (j + 1) a t ht
  have h3 : (j + 1) * 1000000000 ≤ 6 * 1000000000 := Nat.mul_le_mul_right _ (by omega)
  have hat : J 85 (41 * (j + 1) + a) = lI (t.1 : Int) := hat
  have no : ¬ fD c 40 j a b = some t.1 → Go G (fr G m_RM_isCommon d P) 72 [none, none, none, none, none, none, none, none] [] I J := fun h => by
    rw [if_neg h] at hq; exact w_RM_isCommon_72 hq
  refine Ct.ofGo [some (.ref 67), some (.int (nI a)), some (.int (nI b)), some (.int (nI (j + 1))), none, none, none, none] (by decide +kernel) rfl (Nat.le_of_ble_eq_true rfl) ?_
  have vb1 : vp_in (41 * (nI (j + 1) - 1) + nI b + 1) 287 := by rw [e1]; exact vp_in_nI (by omega) (by omega)
  have vb2 : vp_in (40 * nI a + nI b) 1600 := by rw [e2]; exact vp_in_nI (by omega) (by omega)
  have vb3 : vp_in (41 * nI (j + 1) + nI a) 287 := by rw [e3]; exact vp_in_nI (by omega) (by omega)
  cases hd : Dp c 40 j (b + 1) with
  | none =>
    rw [hd] at hr
    have hm1 : J 85 (41 * (nI (j + 1) - 1) + nI b + 1).toNatClampNeg = -1 := by rw [e1, e1c]; exact hr
    refine w_RM_isCommon_0 vb1 vb2 (fun _ => no ?_) (fun c => absurd hm1 c) (fun c => absurd hm1 c) (fun c => absurd hm1 c) (fun c => absurd hm1 c)
    unfold fD; rw [hd]; cases c a b <;> simp
  | some t' =>
    rw [hd] at hr
    have hr : J 85 (41 * j + (b + 1)) = lI (t'.1 : Int) := hr
    have htb' := Dp_b hc j (b + 1) t' hd
    have h4 : j * 1000000000 ≤ 6 * 1000000000 := Nat.mul_le_mul_right _ (by omega)
    have hm1 : ¬ J 85 (41 * (nI (j + 1) - 1) + nI b + 1).toNatClampNeg = -1 := by rw [e1, e1c, hr, show (-1 : Int64) = lI (-1) from rfl, lI_inj (by omega) (by omega)]; omega
    cases hx : c a b with
    | none =>
      rw [hx] at hcs
      have hm2 : J 84 (40 * nI a + nI b).toNatClampNeg = -1 := by rw [e2, e2c]; exact hcs
      refine w_RM_isCommon_0 vb1 vb2 (fun c => absurd c hm1) (fun _ _ => no ?_) (fun _ c => absurd hm2 c) (fun _ c => absurd hm2 c) (fun _ c => absurd hm2 c)
      unfold fD; rw [hx]; simp
    | some x =>
      rw [hx] at hcs
      have hcs : J 84 (40 * a + b) = lI (x : Int) := hcs
      have hxb := hc a b x hx
      have hm2 : ¬ J 84 (40 * nI a + nI b).toNatClampNeg = -1 := by rw [e2, e2c, hcs, show (-1 : Int64) = lI (-1) from rfl, lI_inj (by omega) (by omega)]; omega
      have hf : fD c 40 j a b = some (x + t'.1) := by unfold fD; rw [hx, hd]; rfl
      have hcm : (J 84 (40 * nI a + nI b).toNatClampNeg + J 85 (41 * (nI (j + 1) - 1) + nI b + 1).toNatClampNeg = J 85 (41 * nI (j + 1) + nI a).toNatClampNeg) ↔ x + t'.1 = t.1 := by
        rw [e1, e1c, e2, e2c, e3, e3c, hr, hcs, hat, lI_add, lI_inj (by omega) (by omega)]; omega
      refine w_RM_isCommon_0 vb1 vb2 (fun c => absurd c hm1) (fun _ c => absurd c hm2) (fun _ _ => vb3) (fun _ _ c => no ?_) (fun _ _ c => ?_)
      · rw [hf]; exact fun h => c (hcm.mpr (Option.some.inj h))
      · rw [hf, hcm.mp c, if_pos rfl] at hq; exact hq
theorem shf_b {c : CC} (hc : cB c) {K i a j : Nat} {t : Nat × Nat} (hK : K ≤ 6) (hij : i + j + 1 = K) (hC : CB c J) (hB : SB c (K + 1) 41 J) (ht : Dp c 40 (j + 1) a = some t) (hq : Go G (fr G m_RM_shares (d + 5) P) 225 [some (.ref 67), none, none, some (.int (nI K)), some (.int (nI t.2)), some (.int (nI (i + 1))), none, none, none, none, none, none, none] [] I J) : ∀ (r b : Nat), b + r = t.2 - 1 → a ≤ b → Go G (fr G m_RM_shares (d + 5) P) 244 [some (.ref 67), none, none, some (.int (nI K)), some (.int (nI a)), some (.int (nI i)), some (.int (nI b)), none, none, none, none, none, none] [] I J := by
  obtain ⟨g1, g2, x0, t0, g3, g4, g5⟩ := Dp_nx ht
  have spec := (bst_spec (fD c 40 j a) a (40 - a)).2 t (by rw [← Dp_s]; exact ht)
  have es : nI K - nI i = nI (j + 1) := by rw [nI_sub (by omega)]; congr 1; omega
  intro r
  induction r with
  | zero =>
    intro b hb hab
    obtain rfl : b = t.2 - 1 := by omega
    refine w_RM_shares_244 ?_
    rw [es]
    refine md_isCommon hc hK (by omega) hab (by omega) hC hB ht ?_
    rw [if_pos spec.1.2.2]
    refine w_RM_shares_256 (fun _ => ?_) (fun c => absurd c (by decide))
    rw [nI_1, nI_1, show t.2 - 1 + 1 = t.2 by omega]; exact hq
  | succ r ih =>
    intro b hb hab
    refine w_RM_shares_244 ?_
    rw [es]
    refine md_isCommon hc hK (by omega) hab (by omega) hC hB ht ?_
    rw [if_neg (fun h => by have := spec.2.2 b t.1 hab (by omega) h; omega)]
    refine w_RM_shares_256 (fun c => absurd rfl c) (fun _ => ?_)
    rw [nI_1]
    exact ih (b + 1) (by omega) (by omega)
theorem shf_i {c : CC} (hc : cB c) {K : Nat} {I0 : MI} (hK : K ≤ 6) (hS : (Dp c 40 K 0).isSome = true) (hC : CB c J) (hB : SB c (K + 1) 41 J) (hq : ∀ I', (∀ x, x ≠ 83 → I' x = I0 x) → (∀ i, i < K → I' 83 i = nI (plc c 40 K i)) → P (some (.int 1)) I' J) : ∀ (r i : Nat) (I : MI), i + r = K → (∀ x, x ≠ 83 → I x = I0 x) → (∀ j, j < i → I 83 j = nI (plc c 40 K j)) → Go G (fr G m_RM_shares (d + 5) P) 225 [some (.ref 67), none, none, some (.int (nI K)), some (.int (nI (plc c 40 K i))), some (.int (nI i)), none, none, none, none, none, none, none] [] I J := by
  intro r
  induction r with
  | zero =>
    intro i I hr hF hv
    obtain rfl : i = K := by omega
    have hle : nI i ≤ nI i := nI_le (Nat.le_refl _) (by omega)
    exact w_RM_shares_225 (fun _ => hq I hF hv) (fun c => absurd hle c) (fun c => absurd hle c)
  | succ r ih =>
    intro i I hr hF hv
    have hcc : ¬ nI K ≤ nI i := nI_ge (by omega) (by omega)
    obtain ⟨h1, h2, h3⟩ := plc_ok hS i (by omega)
    obtain ⟨t, ht⟩ := Option.isSome_iff_exists.mp h1
    have e : plc c 40 K (i + 1) = t.2 := by simp only [plc, ht]
    obtain ⟨j, hj⟩ : ∃ j, i + j + 1 = K := ⟨K - i - 1, by omega⟩
    rw [show K - i = j + 1 by omega] at ht
    obtain ⟨g1, g2, -⟩ := Dp_nx ht
    refine w_RM_shares_225 (fun c => absurd c hcc) (fun _ => vp_in_nI (by omega) (by omega)) (fun _ => ?_)
    rw [nI_clamp (show i < 2 ^ 31 by omega)]
    refine shf_b hc hK hj hC hB ht ?_ (t.2 - 1 - plc c 40 K i) (plc c 40 K i) (by omega) (Nat.le_refl _)
    rw [← e]
    refine ih (i + 1) _ (by omega) (fun x hx => by rw [u2_o hx]; exact hF x hx) (fun j' hj' => ?_)
    by_cases q : j' = i
    · rw [q, u2_s]
    · rw [u2_k q]; exact hv j' (by omega)
theorem cU_b {st : ST} (hS : okS st) {S k : Nat} (hk : k = 1 ∨ k = 3) : cB (cU st S k) := fun a b x h => Nat.le_trans (dcR_b hS hk 4 x h) (by omega)
theorem md_shares {st : ST} (hS : okS st) {k : Nat} (hk : k = 1 ∨ k = 3) {S K : Nat} (hR : RM st I J) (hSb : S < 16) (hK : 1 ≤ K) (hK6 : K ≤ 6) (hq : ∀ I' J', KM I J I' J' → ((Dp (cU st S k) 40 K 0).isSome = true → SB (cU st S k) (K + 1) 41 J' ∧ ∀ i, i < K → I' 83 i = nI (plc (cU st S k) 40 K i)) → P (some (.int (if (Dp (cU st S k) 40 K 0).isSome = true then 1 else 0))) I' J') : Ct G (d + 5) m_RM_shares [.ref 67, .int (nI S), .int (nI k), .int (nI K)] P I J := by
  refine Ct.ofGo [some (.ref 67), some (.int (nI S)), some (.int (nI k)), some (.int (nI K)), none, none, none, none, none, none, none, none, none] (by decide +kernel) rfl (Nat.le_of_ble_eq_true rfl) (w_RM_shares_0 ?_)
  refine md_commonCosts hS hk hR hSb (fun I1 J1 g1 g2 => w_RM_shares_6 ?_)
  have kmJ : ∀ J', (∀ x, x ≠ 85 → J' x = J1 x) → KM I1 J1 I1 J' := fun J' h => ⟨fun a ha => ⟨rfl, h a (by omega)⟩, fun _ _ _ => rfl, rfl, fun _ _ _ => rfl, rfl, rfl, rfl, rfl⟩
  have h0 := sh_k (G := G) (d := d) (P := P) (I := I1) (c := cU st S k) (cU_b hS hk) (K := K) (J0 := J1) hK6 (fun J2 f1 f2 f3 => by
    have h1 := shf_i (G := G) (d := d) (P := P) (J := J2) (I0 := I1) (cU_b hS hk) hK6 f3 (fun a b h1 h2 => by rw [f1 84 (by decide)]; exact g2 a b h1 h2) f2 (fun I3 e1 e2 => by
      have := hq I3 J2 ((g1.tr (kmJ J2 f1)).tr ⟨fun a ha => ⟨e1 a (by omega), rfl⟩, fun a _ _ => e1 a (by omega), e1 91 (by decide), fun a _ _ => e1 a (by omega), by rw [e1 67 (by decide)], by rw [e1 67 (by decide)], by rw [e1 67 (by decide)], by rw [e1 67 (by decide)]⟩) (fun _ => ⟨f2, e2⟩)
      rw [if_pos f3] at this; exact this) K 0 I1 (by omega) (fun _ _ => rfl) (fun j hj => by omega)
    exact h1) (fun J2 f1 f2 => by
      have := hq I1 J2 (g1.tr (kmJ J2 f1)) (fun h => by rw [f2] at h; exact absurd h (by decide))
      rw [if_neg (by rw [f2]; decide)] at this; exact this) (K + 1) 0 J1 (by omega) (fun _ _ => rfl) g2 (fun k' a h1 h2 => by omega)
  exact h0
theorem isCC0 {S k K : Int32} : f_RM_isCommonCut S k K = 0 ↔ comBad S k K := by
  have hk1 : f_LB_isCommonKind 1 = 1 := by decide
  unfold f_RM_isCommonCut comBad
  show (if f_LB_isRowSet S = 0 then (0 : Int32) else if k = 1 then (if f_LB_isStretches K = 0 then 0 else 1) else if ¬ k = 3 then 0 else if f_LB_isStretches K = 0 then 0 else 1) = 0 ↔ _
  by_cases h1 : f_LB_isRowSet S = 0
  · simp [h1]
  by_cases h3 : f_LB_isStretches K = 0
  · by_cases q1 : k = 1
    · simp [h1, h3, q1]
    · by_cases q3 : k = 3
      · simp [h1, h3, q3]
      · simp [h1, h3, q1, q3]
  · by_cases q1 : k = 1
    · subst q1
      simp [h1, h3, hk1]
    · by_cases q3 : k = 3
      · subst q3
        have : f_LB_isCommonKind 3 = 1 := by decide
        simp [h1, h3, this]
      · have : f_LB_isCommonKind k = 0 := by unfold f_LB_isCommonKind; rw [if_neg q1, if_pos q3]
        simp [h1, h3, q1, q3, this]
theorem md_common {st : ST} {S kd K : Int32} (hR : RM st I J) (hS : okS st) (hq : ∀ I' J', KM I J I' J' → P (some (.int (commonA st S kd K))) I' J') : Ct G (d + 6) m_RM_common [.ref 67, .int S, .int kd, .int K] P I J := by
  unfold commonA at hq
  refine Ct.ofGo [some (.ref 67), some (.int S), some (.int kd), some (.int K)] (by decide +kernel) rfl (Nat.le_of_ble_eq_true rfl) (w_RM_common_0 (fun c => ?_) (fun c => ?_))
  · have hnb : ¬ comBad S kd K := fun h => c (isCC0.mpr h)
    rw [if_neg hnb] at hq
    obtain ⟨S, hSb, rfl⟩ := isSet1 (fun h => hnb (Or.inl h))
    obtain ⟨k, hk, rfl⟩ := isCK1 (fun h => hnb (Or.inr (Or.inl h)))
    obtain ⟨K, hK, hK6, rfl⟩ := isStr1 (fun h => hnb (Or.inr (Or.inr h)))
    rw [nI_clamp (show S < 2 ^ 31 by omega), nI_clamp (show k < 2 ^ 31 by omega), nI_clamp (show K < 2 ^ 31 by omega)] at hq
    refine md_shares hS hk hR hSb hK hK6 (fun I1 J1 g1 g2 => ?_)
    have hfin := hq I1 J1 g1
    unfold commonN at hfin
    have e : 41 * nI K = nI (41 * K) := (Int32.ofNat_mul 41 K).symm
    have ec : (nI (41 * K)).toNatClampNeg = 41 * K := nI_clamp (by omega)
    cases hd : Dp (cU st S k) 40 K 0 with
    | none =>
      rw [hd] at hfin
      exact w_RM_common_19 (fun _ => hfin) (fun c => absurd rfl c) (fun c => absurd rfl c)
    | some t =>
      rw [hd] at hfin g2
      have hv := (g2 rfl).1 K 0 (by omega) (Or.inl (by omega))
      rw [Nat.add_zero, hd] at hv
      have hne : ¬ (1 : Int32) = 0 := by decide
      refine w_RM_common_19 (fun c => absurd c hne) (fun _ => by rw [e]; exact vp_in_nI (by omega) (by omega)) (fun _ => ?_)
      rw [e, ec, hv]; exact hfin
  · have := hq I J KM.rf
    rw [if_pos (isCC0.mp c)] at this; exact this
theorem md_shared {st : ST} {S kd K i : Int32} (hR : RM st I J) (hS : okS st) (hq : ∀ I' J', KM I J I' J' → P (some (.int (sharedA st S kd K i))) I' J') : Ct G (d + 6) m_RM_shared [.ref 67, .int S, .int kd, .int K, .int i] P I J := by
  have hbad : (comBad S kd K ∨ f_LB_isWithin i 0 (K - 1) = 0) → Go G (fr G m_RM_shared (d + 6) P) 21 [none, none, none, none, none] [] I J := fun hb => by
    have := hq I J KM.rf
    unfold sharedA at this
    rw [if_pos hb] at this; exact w_RM_shared_21 this
  refine Ct.ofGo [some (.ref 67), some (.int S), some (.int kd), some (.int K), some (.int i)] (by decide +kernel) rfl (Nat.le_of_ble_eq_true rfl) (w_RM_shared_0 (fun c => hbad (Or.inl (isCC0.mp c))) (fun c c4 => ?_) (fun _ c => hbad (Or.inr c)))
  have hnb : ¬ comBad S kd K := fun h => c (isCC0.mpr h)
  have a4 : ¬ f_LB_isWithin i 0 (K - 1) = 0 := c4
  unfold sharedA at hq
  rw [if_neg (fun h => h.elim hnb a4)] at hq
  obtain ⟨S, hSb, rfl⟩ := isSet1 (fun h => hnb (Or.inl h))
  obtain ⟨k, hk, rfl⟩ := isCK1 (fun h => hnb (Or.inr (Or.inl h)))
  obtain ⟨K, hK, hK6, rfl⟩ := isStr1 (fun h => hnb (Or.inr (Or.inr h)))
  obtain ⟨b1, b2⟩ := isW1.mp a4
  obtain ⟨i, hi, rfl⟩ := nI_of (Int32.not_lt.mpr b1)
  rw [show nI K - 1 = nI (K - 1) by rw [show K = K - 1 + 1 by omega]; exact nI_pred _, nI_leI hi (by omega)] at b2
  have ei : (nI i).toNatClampNeg = i := nI_clamp hi
  rw [nI_clamp (show S < 2 ^ 31 by omega), nI_clamp (show k < 2 ^ 31 by omega), nI_clamp (show K < 2 ^ 31 by omega), ei] at hq
  refine md_shares hS hk hR hSb hK hK6 (fun I1 J1 g1 g2 => ?_)
  have hfin := hq I1 J1 g1
  unfold sharedN at hfin
  by_cases hd : (Dp (cU st S k) 40 K 0).isSome = true
  · rw [if_pos hd] at hfin ⊢
    refine w_RM_shared_31 (fun c => absurd c (by decide)) (fun _ => vp_in_nI (by omega) (by omega)) (fun _ => ?_)
    rw [ei, (g2 hd).2 i (by omega)]; exact hfin
  · rw [if_neg hd] at hfin ⊢
    exact w_RM_shared_31 (fun _ => hfin) (fun c => absurd rfl c) (fun c => absurd rfl c)
end
