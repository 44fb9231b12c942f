/-! ===== the reference: the best cuts ===== -/
theorem vb6 {b m : Nat} (h : b ^ 3 ≤ 3 ^ m) (hm : m ≤ 40) : b < 2300000 := by
  refine Nat.not_le.mp fun q => ?_
  have h1 : (2300000 : Nat) ^ 3 ≤ b ^ 3 := Nat.pow_le_pow_left q 3
  have h2 : (3 : Nat) ^ m ≤ 3 ^ 40 := Nat.pow_le_pow_right (by decide) hm
  have h3 : ¬ (2300000 : Nat) ^ 3 ≤ 3 ^ 40 := by decide +kernel
  exact h3 (Nat.le_trans h1 (Nat.le_trans h h2))
def enM (o : Option (Nat × Nat)) (x : Nat) (J : MJ) : Prop := match o with
  | none => J 82 x = 0
  | some t => J 80 x = lI (vW t.1 : Nat) ∧ J 81 x = lI (vA t.1 : Nat) ∧ J 82 x = lI (vB t.1 : Nat)
/-- the reference's costs, by the costs of both sides -/
def CTc (c : CC) (n : Nat) (J : MJ) : Prop := ∀ a b x, a ≤ b → b < n → c a b = some x → J 76 (40 * a + b) = lI (vW x : Nat) ∧ J 77 (40 * a + b) = lI (vA x : Nat) ∧ J 78 (40 * a + b) = lI (vB x : Nat)
theorem CT.c {k : Nat} {L : List Pt} {ls : Nat} {J : MJ} (hok : okP L) (h : CT k L J) : CTc (cP k L ls) L.length J := by
  intro a b x hab hb hx
  have hl := hok.1
  have := h a (b - a) (by omega)
  rw [show a + (b - a) = b by omega] at this
  unfold cP at hx
  split at hx
  · obtain rfl := Option.some.inj hx
    have hlen : (seg L a (b - a + 1)).length = b - a + 1 := seg_len (by omega)
    have hd := denK_b (k := k) (l := seg L a (b - a + 1)) (by omega) (by omega)
    obtain ⟨s1, s2, s3⟩ := v_sc (n := nK k (seg L a (b - a + 1))) (b := denK k (seg L a (b - a + 1))) (by omega) (dvNN hd.1 hd.2)
    rw [s1, s2, s3]; exact this
  · exact absurd hx (by simp)
/-- what the reference's cuts may change -/
def FB (J J' : MJ) : Prop := ∀ a, a ≠ 67 → a ≠ 80 → a ≠ 81 → a ≠ 82 → J' a = J a
theorem FB.rf {J : MJ} : FB J J := fun _ _ _ _ _ => rfl
theorem FB.tr {J J' J'' : MJ} (h : FB J J') (g : FB J' J'') : FB J J'' := fun a h1 h2 h3 h4 => (g a h1 h2 h3 h4).trans (h a h1 h2 h3 h4)
theorem CTc.fb {c : CC} {n : Nat} {J J' : MJ} (h : CTc c n J) (hf : FB J J') : CTc c n J' := by
  intro a b x h1 h2 h3
  rw [hf 76 (by decide) (by decide) (by decide) (by decide), hf 77 (by decide) (by decide) (by decide) (by decide), hf 78 (by decide) (by decide) (by decide) (by decide)]
  exact h a b x h1 h2 h3
def cmpI (v w : Nat) : Int32 := if v < w then -1 else if v = w then 0 else 1
theorem cmpI_lt {v w : Nat} : ¬ 0 ≤ cmpI v w ↔ v < w := by
  unfold cmpI
  by_cases h : v < w
  · rw [if_pos h]; exact ⟨fun _ => h, fun _ => by decide⟩
  · rw [if_neg h]
    refine ⟨fun c => absurd ?_ c, fun c => absurd c h⟩
    split <;> decide
theorem cmpI_eq {v w : Nat} : cmpI v w = 0 ↔ v = w := by
  unfold cmpI
  by_cases h : v < w
  · rw [if_pos h]; exact ⟨fun c => absurd c (by decide), fun c => by omega⟩
  · rw [if_neg h]
    by_cases h2 : v = w
    · rw [if_pos h2]; exact ⟨fun _ => h2, fun _ => rfl⟩
    · rw [if_neg h2]; exact ⟨fun c => absurd c (by decide), fun c => absurd c h2⟩
def SU (v : Nat) (J : MJ) : Prop := J 67 18 = lI (vW v : Nat) ∧ J 67 19 = lI (vA v : Nat) ∧ J 67 20 = lI (vB v : Nat)
section
variable {G : GC} {d : Nat} {P : PT} {I : MI} {J : MJ}
theorem md_adds {x y v w : Nat} (hx : x < 1600) (hy : y < 287) (h1 : J 76 x = lI (vW v : Nat)) (h2 : J 77 x = lI (vA v : Nat)) (h3 : J 78 x = lI (vB v : Nat)) (g1 : J 80 y = lI (vW w : Nat)) (g2 : J 81 y = lI (vA w : Nat)) (g3 : J 82 y = lI (vB w : Nat)) (hb1 : vB v ≤ 40) (hb2 : vB w < 2300000) (hw1 : vW v ≤ 1000000000000) (hw2 : vW w ≤ 1000000000000) (hq : ∀ J', (∀ a, a ≠ 67 → J' a = J a) → SU (v + w) J' → P none I J') : Ct G (d + 1) m_RM_adds [.ref 67, .int (nI x), .int (nI y)] P I J := by
  have ex : (nI x).toNatClampNeg = x := nI_clamp (by omega)
  have ey : (nI y).toNatClampNeg = y := nI_clamp (by omega)
  obtain ⟨⟨hbp, hbd⟩, a1, a2, a3⟩ := v_add v w
  have p1 := vB_pos v
  have p2 := vB_pos w
  have q1 := vA_lt v
  have q2 := vA_lt w
  have hgp : 0 < Nat.gcd (vB v) (vB w) := Nat.gcd_pos_of_pos_right _ p2
  have hgl : Nat.gcd (vB v) (vB w) ≤ vB v := Nat.le_of_dvd p1 (Nat.gcd_dvd_left _ _)
  have m1 : vB v / Nat.gcd (vB v) (vB w) * vB w ≤ 40 * 2300000 := Nat.mul_le_mul (Nat.le_trans (Nat.div_le_self _ _) hb1) (by omega)
  have m2 : vA v * (vB w / Nat.gcd (vB v) (vB w)) ≤ 40 * 2300000 := Nat.mul_le_mul (by omega) (Nat.le_trans (Nat.div_le_self _ _) (by omega))
  have m3 : vA w * (vB v / Nat.gcd (vB v) (vB w)) ≤ 2300000 * 40 := Nat.mul_le_mul (by omega) (Nat.le_trans (Nat.div_le_self _ _) hb1)
  have e1 : lI (vB v : Nat) / lI (Nat.gcd (vB v) (vB w) : Nat) = lI ((vB v / Nat.gcd (vB v) (vB w) : Nat) : Int) := ln_div (by omega) (by omega) hgp
  have e2 : lI (vB w : Nat) / lI (Nat.gcd (vB v) (vB w) : Nat) = lI ((vB w / Nat.gcd (vB v) (vB w) : Nat) : Int) := ln_div (by omega) (by omega) hgp
  have ebo : lI ((vB v / Nat.gcd (vB v) (vB w) : Nat) : Int) * lI (vB w : Nat) = lI ((vB v / Nat.gcd (vB v) (vB w) * vB w : Nat) : Int) := by rw [lI_mul]; rfl
  have eto : lI (vA v : Nat) * lI ((vB w / Nat.gcd (vB v) (vB w) : Nat) : Int) + lI (vA w : Nat) * lI ((vB v / Nat.gcd (vB v) (vB w) : Nat) : Int) = lI ((vA v * (vB w / Nat.gcd (vB v) (vB w)) + vA w * (vB v / Nat.gcd (vB v) (vB w)) : Nat) : Int) := by rw [lI_mul, lI_mul, lI_add]; rfl
  have hgn : ¬ lI (Nat.gcd (vB v) (vB w) : Nat) = 0 := fun c => by have := (ln_0 (by omega)).mp c; omega
  refine Ct.ofGo [some (.ref 67), some (.int (nI x)), some (.int (nI y)), none, none, none, none, none, none, none, none, none, none] (by decide +kernel) rfl (Nat.le_of_ble_eq_true rfl) (w_RM_adds_0 (vp_in_nI hx (by omega)) (vp_in_nI hy (by omega)) ?_)
  rw [ex, ey, h3, g3]
  refine md_divisor (by omega) (by omega) (w_RM_adds_15 (vp_in_nI hx (by omega)) hgn (vp_in_nI hy (by omega)) ?_ ?_)
  · rw [ex, ey, h3, g3, e1, ebo]
    exact fun c => by have := (ln_0 (by omega)).mp c; omega
  · rw [ex, ey, h1, h2, h3, g1, g2, g3, e1, e2, ebo, eto]
    generalize vB v / Nat.gcd (vB v) (vB w) * vB w = bo at *
    generalize hto : vA v * (vB w / Nat.gcd (vB v) (vB w)) + vA w * (vB v / Nat.gcd (vB v) (vB w)) = to at *
    have hlt := Nat.mod_lt to hbp
    have hfg : 0 < fG to bo := fG_pos hbp
    have hfl : fG to bo ≤ bo := Nat.le_of_dvd hbp (Nat.gcd_dvd_right _ _)
    rw [ln_rem (by omega) (by omega) hbp, ln_div (by omega) (by omega) hbp, lI_add, lI_add]
    refine md_divisor (by omega) (by omega) (w_RM_adds_103 (fun c => ?_) ?_)
    · have := (ln_0 (show fG to bo < 9223372036854775808 by omega)).mp c; omega
    · rw [ln_div (b := (to % bo).gcd bo) (by omega) (show fG to bo < _ by omega) hfg, ln_div (b := (to % bo).gcd bo) (by omega) (show fG to bo < _ by omega) hfg]
      refine hq _ (fun a ha => by rw [u2_o ha, u2_o ha, u2_o ha]) ⟨?_, ?_, ?_⟩
      · rw [u2_k (by decide), u2_k (by decide), u2_s, a1]; rfl
      · rw [u2_k (by decide), u2_s, a2]; rfl
      · rw [u2_s, a3]; rfl
theorem md_against {y v w : Nat} (hy : y < 287) (hs : SU v J) (g1 : J 80 y = lI (vW w : Nat)) (g2 : J 81 y = lI (vA w : Nat)) (g3 : J 82 y = lI (vB w : Nat)) (hb1 : vB v ≤ 100000000) (hb2 : vB w ≤ 100000000) (hw1 : vW v ≤ 10000000000000) (hw2 : vW w ≤ 10000000000000) (hq : P (some (.int (cmpI v w))) I J) : Ct G d m_RM_against [.ref 67, .int (nI y)] P I J := by
  have ey : (nI y).toNatClampNeg = y := nI_clamp (by omega)
  obtain ⟨s1, s2, s3⟩ := hs
  have q1 := vA_lt v
  have q2 := vA_lt w
  have c1 := v_cmp v w
  have c2 := v_cmp w v
  have m1 : vA v * vB w ≤ 100000000 * 100000000 := Nat.mul_le_mul (by omega) hb2
  have m2 : vA w * vB v ≤ 100000000 * 100000000 := Nat.mul_le_mul (by omega) hb1
  have ed : J 67 19 * J 82 y - J 81 y * J 67 20 = lI (((vA v * vB w : Nat) : Int) - ((vA w * vB v : Nat) : Int)) := by rw [s2, s3, g2, g3, lI_mul, lI_mul, lI_sub]; rfl
  have eq1 : (J 67 18 = J 80 y) ↔ vW v = vW w := by rw [s1, g1, lI_inj (by omega) (by omega)]; omega
  have ele : (J 80 y ≤ J 67 18) ↔ vW w ≤ vW v := by rw [s1, g1, lI_le (by omega) (by omega)]; omega
  have en : (0 ≤ J 67 19 * J 82 y - J 81 y * J 67 20) ↔ vA w * vB v ≤ vA v * vB w := by rw [ed, show (0 : Int64) = lI 0 from rfl, lI_le (by omega) (by omega)]; omega
  have ep : (J 67 19 * J 82 y - J 81 y * J 67 20 ≤ 0) ↔ vA v * vB w ≤ vA w * vB v := by rw [ed, show (0 : Int64) = lI 0 from rfl, lI_le (by omega) (by omega)]; omega
  generalize vA v * vB w = X at *
  generalize vA w * vB v = Y at *
  unfold vW at *
  unfold cmpI at hq
  refine Ct.ofGo [some (.ref 67), some (.int (nI y)), none, none] (by decide +kernel) rfl (Nat.le_of_ble_eq_true rfl) (w_RM_against_0 (vp_in_nI hy (by omega)) (fun b1 b2 b3 => ?_) (fun b1 b2 b3 => ?_) (fun b1 b2 => ?_) (fun b1 b2 => ?_) (fun b1 b2 => ?_))
  · rw [ey] at b1 b2 b3
    rw [eq1] at b1; rw [en] at b2; rw [ep] at b3
    rw [if_neg (by omega), if_pos (by omega)] at hq; exact hq
  · rw [ey] at b1 b2 b3
    rw [eq1] at b1; rw [en] at b2; rw [ep] at b3
    rw [if_neg (by omega), if_neg (by omega)] at hq; exact hq
  · rw [ey] at b1 b2
    rw [eq1] at b1; rw [en] at b2
    rw [if_pos (by omega)] at hq; exact hq
  · rw [ey] at b1 b2
    rw [eq1] at b1; rw [ele] at b2
    rw [if_neg (by omega), if_neg (by omega)] at hq; exact hq
  · rw [ey] at b1 b2
    rw [eq1] at b1; rw [ele] at b2
    rw [if_pos (by omega)] at hq; exact hq
end
/-- rows below k are there, and of row k the places from A on -/
def BMx (c : CC) (n k A : Nat) (J : MJ) : Prop := ∀ k' a, a ≤ n → (k' < k ∨ (k' = k ∧ A ≤ a)) → enM (Dp c n k' a) (41 * k' + a) J
theorem enM_of {o : Option (Nat × Nat)} {x : Nat} {J J' : MJ} (h : enM o x J) (h0 : J' 80 x = J 80 x) (h1 : J' 81 x = J 81 x) (h2 : J' 82 x = J 82 x) : enM o x J' := by
  unfold enM at h ⊢
  rw [h0, h1, h2]; exact h
/-- few: where too few points stand, there is no cost -/
def fewC (c : CC) (ls : Nat) : Prop := ∀ a b, a ≤ b → (c a b = none ↔ b - a + 1 < ls)
theorem cP_few (k : Nat) (L : List Pt) (ls : Nat) : fewC (cP k L ls) ls := by
  intro a b _
  unfold cP
  split
  · exact ⟨fun h => absurd h (by simp), fun h => by omega⟩
  · exact ⟨fun _ => by omega, fun _ => rfl⟩
theorem c_bd {c : CC} {n a b x : Nat} (hc : okC c n) (hn : n ≤ 40) (hab : a ≤ b) (hb : b < n) (h : c a b = some x) : vB x ≤ 40 ∧ vW x ≤ 40000000 := by
  obtain ⟨h1, d', h2, h3⟩ := hc a b x hab hb h
  refine ⟨Nat.le_trans h2.vB (by omega), ?_⟩
  have : x ≤ 40 * 5342931457063200000000 := Nat.le_trans h1 (Nat.mul_le_mul_right _ (by omega))
  unfold vW; omega
theorem D_bd {c : CC} {n k a : Nat} {t : Nat × Nat} (hc : okC c n) (hn : n ≤ 40) (ha : a ≤ n) (h : Dp c n k a = some t) : vB t.1 < 2300000 ∧ vW t.1 ≤ 40000000 := by
  obtain ⟨h1, b, h2, h3⟩ := Dp_ok hc k a t ha h
  refine ⟨Nat.lt_of_le_of_lt h2.vB (vb6 h3.1 (by omega)), ?_⟩
  have : t.1 ≤ 40 * 5342931457063200000000 := Nat.le_trans h1 (Nat.mul_le_mul_right _ (by omega))
  unfold vW; omega
theorem vB_sum {v w : Nat} (h1 : vB v ≤ 40) (h2 : vB w < 2300000) : vB (v + w) ≤ 100000000 := by
  have d1 : DB v (vB v) := ⟨vB_pos v, vB_dvd v, by
    have e : 5342931457063200 / vB v = vG v := by rw [← vB_vG v]; exact Nat.mul_div_cancel_left _ (vB_pos v)
    rw [e]
    exact (Nat.dvd_mod_iff (vG_dvd v)).mp (Nat.gcd_dvd_left _ _)⟩
  have d2 : DB w (vB w) := ⟨vB_pos w, vB_dvd w, by
    have e : 5342931457063200 / vB w = vG w := by rw [← vB_vG w]; exact Nat.mul_div_cancel_left _ (vB_pos w)
    rw [e]
    exact (Nat.dvd_mod_iff (vG_dvd w)).mp (Nat.gcd_dvd_left _ _)⟩
  obtain ⟨x, hx, hxl⟩ := d1.add d2
  have := Nat.mul_le_mul h1 (Nat.le_of_lt h2)
  exact Nat.le_trans hx.vB (by omega)
section
variable {G : GC} {d : Nat} {P : PT} {I : MI} {J : MJ}
theorem i40 (a b : Nat) : 40 * nI a + nI b = nI (40 * a + b) := by
  rw [show (40 : Int32) = nI 40 from rfl, show nI 40 * nI a = nI (40 * a) from (Int32.ofNat_mul 40 a).symm, nI_add]
theorem i41 (a b : Nat) : 41 * nI a + nI b = nI (41 * a + b) := by
  rw [show (41 : Int32) = nI 41 from rfl, show nI 41 * nI a = nI (41 * a) from (Int32.ofNat_mul 41 a).symm, nI_add]
theorem cuts_b {c : CC} {n K ls k a : Nat} {J0 : MJ} (hn : n ≤ 40) (hc : okC c n) (hfew : fewC c ls) (hls : 1 ≤ ls) (hK : K ≤ 6) (hk1 : 1 ≤ k) (hkK : k ≤ K) (ha : a ≤ n) (h7 : I 67 7 = nI n) (hq : ∀ J', FB J0 J' → BMx c n k a J' → Go G (fr G m_RM_cuts (d + 2) P) 232 [some (.ref 67), some (.int (nI K)), some (.int (nI ls)), some (.int (nI k)), some (.int (nI a)), none, none, none] [] I J') : ∀ (r b : Nat) (J : MJ), b + r = n → a + ls - 1 ≤ b → FB J0 J → CTc c n J → BMx c n k (a + 1) J → enM (bst (fD c n (k - 1) a) a (b - a)) (41 * k + a) J → Go G (fr G m_RM_cuts (d + 2) P) 76 [some (.ref 67), some (.int (nI K)), some (.int (nI ls)), some (.int (nI k)), some (.int (nI a)), some (.int (nI (41 * k + a))), some (.int (nI b)), none] [] I J := by
  obtain ⟨k, rfl⟩ : ∃ j, k = j + 1 := ⟨k - 1, by omega⟩
  rw [Nat.add_sub_cancel]
  intro r
  induction r with
  | zero =>
    intro b J hr hb hF hC hM he
    obtain rfl : b = n := by omega
    have hle : I 67 7 ≤ nI b := by rw [h7]; exact nI_le (Nat.le_refl _) (by omega)
    refine w_RM_cuts_76 (fun _ => hq J hF (fun k' a' h1 h2 => ?_)) (fun c => absurd hle c) (fun c => absurd hle c) (fun c => absurd hle c) (fun c => absurd hle c) (fun c => absurd hle c) (fun c => absurd hle c) (fun c => absurd hle c) (fun c => absurd hle c)
    by_cases q : k' = k + 1 ∧ a' = a
    · obtain ⟨rfl, rfl⟩ := q; rw [Dp_s]; exact he
    · exact hM k' a' h1 (by omega)
  | succ r ih =>
    intro b J hr hb hF hC hM he
    have hcc : ¬ I 67 7 ≤ nI b := by rw [h7]; exact nI_ge (by omega) (by omega)
    have hk0 : ¬ nI (k + 1) ≤ 0 := nI_nle (by omega) (by omega)
    have eidx : 41 * (nI (k + 1) - 1) + nI b + 1 = nI (41 * k + (b + 1)) := by rw [nI_pred, i41, nI_1]; congr 1
    have ex : (nI (41 * k + (b + 1))).toNatClampNeg = 41 * k + (b + 1) := nI_clamp (by omega)
    have eat : (nI (41 * (k + 1) + a)).toNatClampNeg = 41 * (k + 1) + a := nI_clamp (by omega)
    have ec : (nI (40 * a + b)).toNatClampNeg = 40 * a + b := nI_clamp (by omega)
    have hrest := hM k (b + 1) (by omega) (Or.inl (by omega))
    have hab : a ≤ b := by omega
    obtain ⟨x, hx⟩ : ∃ x, c a b = some x := by
      cases hcx : c a b with
      | none => have := (hfew a b hab).mp hcx; omega
      | some x => exact ⟨x, rfl⟩
    have hst : b + 1 - a = (b - a) + 1 := by omega
    have hab2 : a + (b - a) = b := by omega
    have hbst : bst (fD c n k a) a (b + 1 - a) = (match fD c n k a b with | none => bst (fD c n k a) a (b - a) | some v => some (match bst (fD c n k a) a (b - a) with | none => (v, b + 1) | some w => if v < w.1 then (v, b + 1) else w)) := by
      rw [hst]
      show (match fD c n k a (a + (b - a)) with | none => bst (fD c n k a) a (b - a) | some v => some (match bst (fD c n k a) a (b - a) with | none => (v, a + (b - a) + 1) | some w => if v < w.1 then (v, a + (b - a) + 1) else w)) = _
      rw [hab2]
    have nxt : ∀ J', FB J J' → (∀ k' a', a' ≤ n → (k' < k + 1 ∨ (k' = k + 1 ∧ a + 1 ≤ a')) → enM (Dp c n k' a') (41 * k' + a') J') → enM (bst (fD c n k a) a (b + 1 - a)) (41 * (k + 1) + a) J' → Go G (fr G m_RM_cuts (d + 2) P) 226 [some (.ref 67), some (.int (nI K)), some (.int (nI ls)), some (.int (nI (k + 1))), some (.int (nI a)), some (.int (nI (41 * (k + 1) + a))), some (.int (nI b)), none] [] I J' := by
      intro J' f1 f2 f3
      refine w_RM_cuts_226 ?_
      rw [nI_1]
      exact ih (b + 1) J' (by omega) (by omega) (hF.tr f1) (hC.fb f1) f2 f3
    obtain ⟨y1, y2, y3⟩ := hC a b x hab (by omega) hx
    obtain ⟨bx1, bx2⟩ := c_bd hc hn hab (by omega) hx
    cases hd : Dp c n k (b + 1) with
    | none =>
      rw [hd] at hrest
      have hz : J 82 (nI (41 * k + (b + 1))).toNatClampNeg ≤ 0 := by rw [ex, hrest]; decide
      have hf : fD c n k a b = none := by unfold fD; rw [hx, hd]; rfl
      rw [hf] at hbst
      dsimp only at hbst
      refine w_RM_cuts_76 (fun c => absurd c hcc) (fun _ c => absurd c hk0) (fun _ _ => by rw [eidx]; exact vp_in_nI (by omega) (by omega)) (fun _ _ _ => nxt J FB.rf hM (by rw [hbst]; exact he)) (fun _ _ c => absurd (by rw [eidx]; exact hz) c) (fun _ _ c => absurd (by rw [eidx]; exact hz) c) (fun _ _ c => absurd (by rw [eidx]; exact hz) c) (fun _ _ c => absurd (by rw [eidx]; exact hz) c) (fun _ _ c => absurd (by rw [eidx]; exact hz) c)
    | some t =>
      rw [hd] at hrest
      obtain ⟨r1, r2, r3⟩ := hrest
      obtain ⟨bt1, bt2⟩ := D_bd hc hn (by omega) hd
      have pt := vB_pos t.1
      have hz : ¬ J 82 (nI (41 * k + (b + 1))).toNatClampNeg ≤ 0 := by rw [ex, r3, show (0 : Int64) = lI 0 from rfl, lI_le (by omega) (by omega)]; omega
      have hf : fD c n k a b = some (x + t.1) := by unfold fD; rw [hx, hd]; rfl
      rw [hf] at hbst
      dsimp only at hbst
      have hsum : ∀ (Q : PT), (∀ J', (∀ a, a ≠ 67 → J' a = J a) → SU (x + t.1) J' → Q none I J') → Ct G (d + 1) m_RM_adds [.ref 67, .int (nI (40 * a + b)), .int (nI (41 * k + (b + 1)))] Q I J := fun Q hQ => md_adds (by omega) (by omega) y1 y2 y3 r1 r2 r3 bx1 bt1 (by omega) (by omega) hQ
      have bs := vB_sum bx1 bt1
      have bw : vW (x + t.1) ≤ 10000000000000 := by unfold vW at bx2 bt2 ⊢; omega
      have put : ∀ J', (∀ a, a ≠ 67 → J' a = J a) → SU (x + t.1) J' → enM (bst (fD c n k a) a (b + 1 - a)) (41 * (k + 1) + a) (u2 (u2 (u2 J' 80 (41 * (k + 1) + a) (J' 67 18)) 81 (41 * (k + 1) + a) (J' 67 19)) 82 (41 * (k + 1) + a) (J' 67 20)) → Go G (fr G m_RM_cuts (d + 2) P) 193 [some (.ref 67), some (.int (nI K)), some (.int (nI ls)), some (.int (nI (k + 1))), some (.int (nI a)), some (.int (nI (41 * (k + 1) + a))), some (.int (nI b)), none] [] I J' := by
        intro J' f1 f2 f3
        refine w_RM_cuts_193 (vp_in_nI (by omega) (by omega)) ?_
        rw [eat]
        refine nxt _ (fun c h1 h2 h3 h4 => by rw [u2_o h4, u2_o h3, u2_o h2]; exact f1 c h1) (fun k' a' h1 h2 => ?_) f3
        have hne : 41 * k' + a' ≠ 41 * (k + 1) + a := by omega
        refine enM_of (hM k' a' h1 h2) ?_ ?_ ?_
        · rw [u2_o (by decide), u2_o (by decide), u2_k hne, f1 80 (by decide)]
        · rw [u2_o (by decide), u2_k hne, u2_o (by decide), f1 81 (by decide)]
        · rw [u2_k hne, u2_o (by decide), u2_o (by decide), f1 82 (by decide)]
      have enp : ∀ J', SU (x + t.1) J' → enM (some (x + t.1, b + 1)) (41 * (k + 1) + a) (u2 (u2 (u2 J' 80 (41 * (k + 1) + a) (J' 67 18)) 81 (41 * (k + 1) + a) (J' 67 19)) 82 (41 * (k + 1) + a) (J' 67 20)) := by
        intro J' f2
        refine ⟨?_, ?_, ?_⟩
        · rw [u2_o (by decide), u2_o (by decide), u2_s]; exact f2.1
        · rw [u2_o (by decide), u2_s]; exact f2.2.1
        · rw [u2_s]; exact f2.2.2
      cases hb : bst (fD c n k a) a (b - a) with
      | none =>
        rw [hb] at he hbst
        dsimp only at hbst
        have h0 : J 82 (nI (41 * (k + 1) + a)).toNatClampNeg = 0 := by rw [eat]; exact he
        refine w_RM_cuts_76 (fun c => absurd c hcc) (fun _ c => absurd c hk0) (fun _ _ => by rw [eidx]; exact vp_in_nI (by omega) (by omega)) (fun _ _ c => absurd (by rw [eidx] at c; exact c) hz) (fun _ _ _ => vp_in_nI (by omega) (by omega)) (fun _ _ _ _ => w_RM_cuts_158 ?_) (fun _ _ _ c => absurd h0 c) (fun _ _ _ c => absurd h0 c) (fun _ _ _ c => absurd h0 c)
        rw [eidx, i40]
        refine hsum _ (fun J' f1 f2 => w_RM_cuts_172 (vp_in_nI (by omega) (by omega)) (fun _ => put J' f1 f2 (by rw [hbst]; exact enp J' f2)) (fun c => absurd (by rw [f1 82 (by decide)]; exact h0) c))
      | some w =>
        rw [hb] at he hbst
        dsimp only at hbst
        obtain ⟨w1, w2, w3⟩ := he
        have hbw : vB w.1 ≤ 100000000 ∧ vW w.1 ≤ 90000000 := by
          obtain ⟨⟨j1, j2, j3⟩, -, -⟩ := (bst_spec (fD c n k a) a (b - a)).2 w hb
          unfold fD at j3
          cases hcx : c a (w.2 - 1) with
          | none => rw [hcx] at j3; exact absurd j3 (by simp)
          | some x' =>
            rw [hcx] at j3
            cases hdx : Dp c n k (w.2 - 1 + 1) with
            | none => rw [hdx] at j3; exact absurd j3 (by simp)
            | some t' =>
              rw [hdx] at j3
              have e : x' + t'.1 = w.1 := by simpa using j3
              obtain ⟨k1, k2⟩ := c_bd hc hn (by omega) (by omega) hcx
              obtain ⟨k3, k4⟩ := D_bd hc hn (by omega) hdx
              rw [← e]
              exact ⟨vB_sum k1 k3, by unfold vW at k2 k4 ⊢; omega⟩
        have pw := vB_pos w.1
        have h0 : ¬ J 82 (nI (41 * (k + 1) + a)).toNatClampNeg = 0 := by rw [eat, w3]; exact fun c => by have := (ln_0 (by omega)).mp c; omega
        have hpr : (J 80 (nI (41 * (k + 1) + a)).toNatClampNeg < J 76 (nI (40 * a + b)).toNatClampNeg + J 80 (nI (41 * k + (b + 1))).toNatClampNeg) ↔ vW w.1 < vW x + vW t.1 := by
          rw [eat, ec, ex, w1, y1, r1, lI_add, lI_lt (by omega) (by omega)]; omega
        have same : ¬ x + t.1 < w.1 → enM (bst (fD c n k a) a (b + 1 - a)) (41 * (k + 1) + a) J := fun hn => by
          rw [hbst, if_neg hn]; exact ⟨w1, w2, w3⟩
        refine w_RM_cuts_76 (fun c => absurd c hcc) (fun _ c => absurd c hk0) (fun _ _ => by rw [eidx]; exact vp_in_nI (by omega) (by omega)) (fun _ _ c => absurd (by rw [eidx] at c; exact c) hz) (fun _ _ _ => vp_in_nI (by omega) (by omega)) (fun _ _ _ c => absurd c h0) (fun _ _ _ _ => by rw [i40]; exact vp_in_nI (by omega) (by omega)) (fun _ _ _ _ c => nxt J FB.rf hM (same ?_)) (fun _ _ _ _ c => w_RM_cuts_158 ?_)
        · rw [eidx, i40, hpr] at c
          unfold vW at c; omega
        · rw [eidx, i40]
          refine hsum _ (fun J' f1 f2 => w_RM_cuts_172 (vp_in_nI (by omega) (by omega)) (fun c => absurd (by rw [f1 82 (by decide)] at c; exact c) h0) (fun _ => ?_))
          refine md_against (by omega) f2 (by rw [f1 80 (by decide)]; exact w1) (by rw [f1 81 (by decide)]; exact w2) (by rw [f1 82 (by decide)]; exact w3) bs hbw.1 bw (by omega) (w_RM_cuts_190 (fun c => ?_) (fun c => ?_))
          · have hnl : ¬ x + t.1 < w.1 := fun h => (cmpI_lt.mpr h) c
            refine nxt J' (fun c h1 _ _ _ => f1 c h1) (fun k' a' h1 h2 => enM_of (hM k' a' h1 h2) (by rw [f1 80 (by decide)]) (by rw [f1 81 (by decide)]) (by rw [f1 82 (by decide)])) (enM_of (same hnl) (by rw [f1 80 (by decide)]) (by rw [f1 81 (by decide)]) (by rw [f1 82 (by decide)]))
          · have hl : x + t.1 < w.1 := cmpI_lt.mp c
            refine put J' f1 f2 ?_
            rw [hbst, if_pos hl]; exact enp J' f2
theorem cuts_a {c : CC} {n K ls k : Nat} {J0 : MJ} (hn : n ≤ 40) (hc : okC c n) (hfew : fewC c ls) (hls : 1 ≤ ls) (hls2 : ls ≤ 100) (hK : K ≤ 6) (hkK : k ≤ K) (h7 : I 67 7 = nI n) (hq : ∀ J', FB J0 J' → BMx c n (k + 1) (n + 1) J' → Go G (fr G m_RM_cuts (d + 2) P) 2 [some (.ref 67), some (.int (nI K)), some (.int (nI ls)), some (.int (nI (k + 1))), none, none, none, none] [] I J') : ∀ (A : Nat) (x4 : Int32) (J : MJ), A ≤ n + 1 → x4 = nI A - 1 → FB J0 J → CTc c n J → BMx c n k A J → Go G (fr G m_RM_cuts (d + 2) P) 13 [some (.ref 67), some (.int (nI K)), some (.int (nI ls)), some (.int (nI k)), some (.int x4), none, none, none] [] I J := by
  intro A
  induction A with
  | zero =>
    intro x4 J hA hx hF hC hM
    subst hx
    have hlt : nI 0 - 1 < 0 := by decide
    refine w_RM_cuts_13 (fun _ => ?_) (fun c => absurd hlt c) (fun c => absurd hlt c) (fun c => absurd hlt c) (fun c => absurd hlt c)
    rw [nI_1]
    exact hq J hF (fun k' a h1 h2 => hM k' a h1 (by omega))
  | succ a ih =>
    intro x4 J hA hx hF hC hM
    rw [nI_pred] at hx
    subst hx
    have hlt : ¬ nI a < 0 := nI_pos (by omega)
    have eidx : 41 * nI k + nI a = nI (41 * k + a) := i41 k a
    have eat : (nI (41 * k + a)).toNatClampNeg = 41 * k + a := nI_clamp (by omega)
    have nxt : ∀ J', FB J J' → BMx c n k a J' → Go G (fr G m_RM_cuts (d + 2) P) 232 [some (.ref 67), some (.int (nI K)), some (.int (nI ls)), some (.int (nI k)), some (.int (nI a)), none, none, none] [] I J' := by
      intro J' f1 f2
      refine w_RM_cuts_232 ?_
      exact ih _ J' (by omega) (by rw [Int32.sub_eq_add_neg]) (hF.tr f1) (hC.fb f1) f2
    have eb : nI a + nI ls - 1 = nI (a + ls - 1) := by rw [nI_add, show a + ls = a + ls - 1 + 1 by omega]; exact nI_pred _
    have hrows : ∀ (z : Int64), (∀ k' a', a' ≤ n → (k' < k ∨ (k' = k ∧ a + 1 ≤ a')) → enM (Dp c n k' a') (41 * k' + a') (u2 (u2 (u2 J 80 (41 * k + a) 0) 81 (41 * k + a) 0) 82 (41 * k + a) z)) := by
      intro z k' a' h1 h2
      have hne : 41 * k' + a' ≠ 41 * k + a := by omega
      refine enM_of (hM k' a' h1 (by omega)) ?_ ?_ ?_
      · rw [u2_o (by decide), u2_o (by decide), u2_k hne]
      · rw [u2_o (by decide), u2_k hne, u2_o (by decide)]
      · rw [u2_k hne, u2_o (by decide), u2_o (by decide)]
    have hfb : ∀ z : Int64, FB J (u2 (u2 (u2 J 80 (41 * k + a) 0) 81 (41 * k + a) 0) 82 (41 * k + a) z) := fun z c h1 h2 h3 h4 => by rw [u2_o h4, u2_o h3, u2_o h2]
    have row0 : k = 0 → ∀ z : Int64, enM (Dp c n 0 a) (41 * k + a) (u2 (u2 (u2 J 80 (41 * k + a) 0) 81 (41 * k + a) 0) 82 (41 * k + a) z) → Go G (fr G m_RM_cuts (d + 2) P) 67 [some (.ref 67), some (.int (nI K)), some (.int (nI ls)), some (.int (nI k)), some (.int (nI a)), some (.int (nI (41 * k + a))), none, none] [.long z, .int (nI (41 * k + a)), .ref 82] I (u2 (u2 J 80 (41 * k + a) 0) 81 (41 * k + a) 0) := by
      intro hk0 z hz
      subst hk0
      refine w_RM_cuts_67 (vp_in_nI (by omega) (by omega)) ?_
      rw [eat]
      have hle : nI 0 ≤ 0 := by decide
      have fin := nxt _ (hfb z) (fun k' a' h1 h2 => by
        by_cases q : k' = 0 ∧ a' = a
        · obtain ⟨rfl, rfl⟩ := q; exact hz
        · exact hrows z k' a' h1 (by omega))
      exact w_RM_cuts_76 (fun _ => fin) (fun _ _ => fin) (fun _ c => absurd hle c) (fun _ c => absurd hle c) (fun _ c => absurd hle c) (fun _ c => absurd hle c) (fun _ c => absurd hle c) (fun _ c => absurd hle c) (fun _ c => absurd hle c)
    refine w_RM_cuts_13 (fun c => absurd c hlt) (fun _ => by rw [eidx]; exact vp_in_nI (by omega) (by omega)) (fun _ z => ?_) (fun _ z z2 => ?_) (fun _ z z2 => ?_)
    · have hk0 : ¬ k = 0 := fun h => z (by rw [h]; rfl)
      rw [eidx, eat]
      refine w_RM_cuts_66 (w_RM_cuts_67 (vp_in_nI (by omega) (by omega)) ?_)
      rw [eat, eb]
      have hnone : ∀ m, a + m ≤ n → m ≤ ls - 1 → bst (fD c n (k - 1) a) a m = none := by
        intro m h1 h2
        have := bst_skip (f := fD c n (k - 1) a) (lo := a) m 0 (fun b g1 g2 => by
          unfold fD
          rw [(hfew a b g1).mpr (by omega)]; rfl)
        rw [Nat.add_zero] at this
        rw [this]; rfl
      rcases Nat.lt_or_ge (a + ls - 1) n with q | q
      · refine cuts_b hn hc hfew hls hK (by omega) hkK (by omega) h7 nxt (n - (a + ls - 1)) (a + ls - 1) _ (by omega) (by omega) (hfb 0) (hC.fb (hfb 0)) (fun k' a' h1 h2 => hrows 0 k' a' h1 h2) ?_
        rw [hnone _ (by omega) (by omega)]
        exact u2_s
      · have hle : I 67 7 ≤ nI (a + ls - 1) := by rw [h7]; exact nI_le q (by omega)
        refine w_RM_cuts_76 (fun _ => nxt _ (hfb 0) (fun k' a' h1 h2 => ?_)) (fun c => absurd hle c) (fun c => absurd hle c) (fun c => absurd hle c) (fun c => absurd hle c) (fun c => absurd hle c) (fun c => absurd hle c) (fun c => absurd hle c) (fun c => absurd hle c)
        by_cases q2 : k' = k ∧ a' = a
        · obtain ⟨rfl, rfl⟩ := q2
          obtain ⟨j, rfl⟩ : ∃ j, k' = j + 1 := ⟨k' - 1, by omega⟩
          have := hnone (n - a') (by omega) (by omega)
          rw [Nat.add_sub_cancel] at this
          rw [Dp_s, this]
          exact u2_s
        · exact hrows 0 k' a' h1 (by omega)
    · have hk0 : k = 0 := by rw [show (0 : Int32) = nI 0 from rfl] at z; exact (nI_eq (by omega) (by omega)).mp z
      have han : ¬ a = n := fun h => z2 (by rw [h7, h])
      rw [eidx, eat]
      refine w_RM_cuts_66 (row0 hk0 0 ?_)
      have : Dp c n 0 a = none := if_neg han
      rw [this]; exact u2_s
    · have hk0 : k = 0 := by rw [show (0 : Int32) = nI 0 from rfl] at z; exact (nI_eq (by omega) (by omega)).mp z
      have han : a = n := by rw [h7] at z2; exact (nI_eq (by omega) (by omega)).mp z2
      rw [eidx, eat]
      refine row0 hk0 1 ?_
      have : Dp c n 0 a = some (0, 0) := if_pos han
      rw [this]
      refine ⟨?_, ?_, ?_⟩
      · rw [u2_o (by decide), u2_o (by decide), u2_s]; rfl
      · rw [u2_o (by decide), u2_s]; decide +kernel
      · rw [u2_s]; decide +kernel
theorem cuts_k {c : CC} {n K ls : Nat} {J0 : MJ} (hn : n ≤ 40) (hc : okC c n) (hfew : fewC c ls) (hls : 1 ≤ ls) (hls2 : ls ≤ 100) (hK : K ≤ 6) (h7 : I 67 7 = nI n) (hq : ∀ J', FB J0 J' → BMx c n (K + 1) (n + 1) J' → P none I J') : ∀ (r k : Nat) (J : MJ), k + r = K + 1 → FB J0 J → CTc c n J → BMx c n k (n + 1) J → Go G (fr G m_RM_cuts (d + 2) P) 2 [some (.ref 67), some (.int (nI K)), some (.int (nI ls)), some (.int (nI k)), none, none, none, none] [] I J := by
  intro r
  induction r with
  | zero =>
    intro k J hr hF hC hM
    obtain rfl : k = K + 1 := by omega
    have hlt : nI K < nI (K + 1) := nI_lt (by omega) (by omega)
    exact w_RM_cuts_2 (fun _ => hq J hF hM) (fun c => absurd hlt c)
  | succ r ih =>
    intro k J hr hF hC hM
    have hlt : ¬ nI K < nI k := nI_nlt (by omega) (by omega)
    refine w_RM_cuts_2 (fun c => absurd c hlt) (fun _ => ?_)
    rw [h7]
    refine cuts_a (J0 := J) hn hc hfew hls hls2 hK (by omega) h7 (fun J' f1 f2 => ih (k + 1) J' (by omega) (hF.tr f1) (hC.fb f1) f2) (n + 1) _ J (Nat.le_refl _) (nI_pred n).symm FB.rf hC hM
/-- the reference's table of best cuts into up to K -/
def BM (c : CC) (n K : Nat) (J : MJ) : Prop := ∀ k a, k ≤ K → a ≤ n → enM (Dp c n k a) (41 * k + a) J
theorem md_cuts {c : CC} {n K ls : Nat} (hn : n ≤ 40) (hc : okC c n) (hfew : fewC c ls) (hls : 1 ≤ ls) (hls2 : ls ≤ 100) (hK : K ≤ 6) (h7 : I 67 7 = nI n) (hC : CTc c n J) (hq : ∀ J', FB J J' → BM c n K J' → P none I J') : Ct G (d + 2) m_RM_cuts [.ref 67, .int (nI K), .int (nI ls)] P I J :=
  Ct.ofGo [some (.ref 67), some (.int (nI K)), some (.int (nI ls)), none, none, none, none, none] (by decide +kernel) rfl (Nat.le_of_ble_eq_true rfl) (w_RM_cuts_0 (cuts_k hn hc hfew hls hls2 hK h7 (fun J' f1 f2 => hq J' f1 (fun k a h1 h2 => f2 k a h2 (Or.inl (by omega)))) (K + 1) 0 J (by omega) FB.rf hC (fun k' a h1 h2 => by omega)))
end
