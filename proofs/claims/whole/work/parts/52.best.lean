/-! ===== the best cuts, pure; the class finds them ===== -/
abbrev CC : Type := Nat → Nat → Option Nat
/-- the first least of f lo, f (lo + 1) .. : its value, and its place + 1 -/
def bst (f : Nat → Option Nat) (lo : Nat) : Nat → Option (Nat × Nat)
  | 0 => none
  | m + 1 => match f (lo + m) with
    | none => bst f lo m
    | some v => some (match bst f lo m with
      | none => (v, lo + m + 1)
      | some w => if v < w.1 then (v, lo + m + 1) else w)
def Dp (c : CC) (n : Nat) : Nat → Nat → Option (Nat × Nat)
  | 0, a => if a = n then some (0, 0) else none
  | k + 1, a => bst (fun b => (c a b).bind fun x => (Dp c n k (b + 1)).map fun t => x + t.1) a (n - a)
def fD (c : CC) (n k a : Nat) : Nat → Option Nat := fun b => (c a b).bind fun x => (Dp c n k (b + 1)).map fun t => x + t.1
theorem Dp_s (c : CC) (n k a : Nat) : Dp c n (k + 1) a = bst (fD c n k a) a (n - a) := rfl
theorem bst_spec (f : Nat → Option Nat) (lo : Nat) : ∀ m, (bst f lo m = none → ∀ b, lo ≤ b → b < lo + m → f b = none) ∧ ∀ w, bst f lo m = some w → (lo < w.2 ∧ w.2 ≤ lo + m ∧ f (w.2 - 1) = some w.1) ∧ (∀ b v, lo ≤ b → b < lo + m → f b = some v → w.1 ≤ v) ∧ ∀ b v, lo ≤ b → b < w.2 - 1 → f b = some v → w.1 < v := by
  intro m
  induction m with
  | zero => exact ⟨fun _ b h1 h2 => by omega, fun w h => absurd h (by simp [bst])⟩
  | succ m ih =>
    obtain ⟨ih1, ih2⟩ := ih
    unfold bst
    cases hf : f (lo + m) with
    | none =>
      dsimp only
      refine ⟨fun h b h1 h2 => ?_, fun w h => ?_⟩
      · by_cases q : b = lo + m
        · rw [q]; exact hf
        · exact ih1 h b h1 (by omega)
      · obtain ⟨⟨a1, a2, a3⟩, a4, a5⟩ := ih2 w h
        refine ⟨⟨a1, by omega, a3⟩, fun b v h1 h2 h3 => ?_, a5⟩
        by_cases q : b = lo + m
        · rw [q, hf] at h3; exact absurd h3 (by simp)
        · exact a4 b v h1 (by omega) h3
    | some v =>
      dsimp only
      refine ⟨fun h => absurd h (by simp), fun w h => ?_⟩
      have h := Option.some.inj h
      cases hb : bst f lo m with
      | none =>
        rw [hb] at h
        dsimp only at h
        subst h
        refine ⟨⟨by dsimp only; omega, by dsimp only; omega, hf⟩, fun b v' h1 h2 h3 => ?_, fun b v' h1 h2 h3 => ?_⟩
        · by_cases q : b = lo + m
          · rw [q, hf] at h3; exact Nat.le_of_eq (Option.some.inj h3)
          · rw [ih1 hb b h1 (by omega)] at h3; exact absurd h3 (by simp)
        · dsimp only at h2
          rw [ih1 hb b h1 (by omega)] at h3; exact absurd h3 (by simp)
      | some w0 =>
        rw [hb] at h
        dsimp only at h
        obtain ⟨⟨a1, a2, a3⟩, a4, a5⟩ := ih2 w0 hb
        by_cases q : v < w0.1
        · rw [if_pos q] at h
          subst h
          refine ⟨⟨by dsimp only; omega, by dsimp only; omega, hf⟩, fun b v' h1 h2 h3 => ?_, fun b v' h1 h2 h3 => ?_⟩
          · by_cases q2 : b = lo + m
            · rw [q2, hf] at h3; exact Nat.le_of_eq (Option.some.inj h3)
            · have := a4 b v' h1 (by omega) h3; dsimp only; omega
          · dsimp only at h2
            have := a4 b v' h1 (by omega) h3; dsimp only; omega
        · rw [if_neg q] at h
          subst h
          refine ⟨⟨a1, by omega, a3⟩, fun b v' h1 h2 h3 => ?_, a5⟩
          by_cases q2 : b = lo + m
          · rw [q2, hf] at h3; have := Option.some.inj h3; omega
          · exact a4 b v' h1 (by omega) h3
theorem bst_skip {f : Nat → Option Nat} {lo : Nat} : ∀ j m, (∀ b, lo ≤ b → b < lo + j → f b = none) → bst f lo (j + m) = bst f (lo + j) m := by
  intro j m
  induction m with
  | zero =>
    intro h
    rw [Nat.add_zero]
    have : ∀ i, i ≤ j → bst f lo i = none := by
      intro i
      induction i with
      | zero => intro _; rfl
      | succ i ih => intro hi; unfold bst; rw [h (lo + i) (by omega) (by omega)]; exact ih (by omega)
    rw [this j (Nat.le_refl _)]; rfl
  | succ m ih =>
    intro h
    show bst f lo (j + m + 1) = bst f (lo + j) (m + 1)
    unfold bst
    rw [ih h, show lo + (j + m) = lo + j + m by omega]
def lft (o : Option (Nat × Nat)) : Option EN := o.map fun t => (t.1, 0, t.2)
theorem offT_big {q most frm to e pv wh : Nat} {T : TB} (h : q < e) : offT q most frm to e pv wh T = T := by
  funext e' k' a
  unfold offT offD
  exact if_neg (fun c => by omega)
theorem offO_big {q most frm to e : Nat} {p : Option (Nat × Nat)} {T : TB} (h : q < e) : offO q most frm to e p T = T := by
  cases p with
  | none => rfl
  | some p => exact offT_big h
def okC0 (pc : PCS) (c : CC) : Prop := ∀ a b, pc 0 a b = (c a b).map fun x => (x, 0)
theorem step0 {pc : PCS} {c : CC} (hc : okC0 pc c) {most frm to : Nat} {T : TB} : stepT pc 0 most frm to T = (match c frm to with | none => T | some x => offT 0 most frm to 0 x 0 T) := by
  unfold stepT
  rw [offO_big (by omega), offO_big (by omega), hc]
  cases c frm to <;> rfl
theorem row_o {pc : PCS} {q most frm : Nat} {T : TB} {e k a : Nat} (h : a ≠ frm) : ∀ m, rowT pc q most frm m T e k a = T e k a := by
  have ho : ∀ {e0 : Nat} {to : Nat} {p : Option (Nat × Nat)} {T : TB}, offO q most frm to e0 p T e k a = T e k a := by
    intro e0 to p T
    cases p with
    | none => rfl
    | some p =>
      show offD q most frm to e0 p.1 p.2 (fun _ _ => true) T e k a = T e k a
      exact offD_o h
  intro m
  induction m with
  | zero => rfl
  | succ m ih =>
    show stepT pc q most frm (frm + m) (rowT pc q most frm m T) e k a = _
    unfold stepT
    rw [ho, ho, ho]; exact ih
theorem row_k {pc : PCS} {q most frm : Nat} {T : TB} {e k a : Nat} (h : k = 0 ∨ most < k) : ∀ m, rowT pc q most frm m T e k a = T e k a := by
  have ho : ∀ {e0 : Nat} {to : Nat} {p : Option (Nat × Nat)} {T : TB}, offO q most frm to e0 p T e k a = T e k a := by
    intro e0 to p T
    cases p with
    | none => rfl
    | some p =>
      show offD q most frm to e0 p.1 p.2 (fun _ _ => true) T e k a = T e k a
      unfold offD; exact if_neg (fun c => by omega)
  intro m
  induction m with
  | zero => rfl
  | succ m ih =>
    show stepT pc q most frm (frm + m) (rowT pc q most frm m T) e k a = _
    unfold stepT
    rw [ho, ho, ho]; exact ih
theorem row0 {pc : PCS} {c : CC} (hc : okC0 pc c) {n most frm : Nat} {T : TB} (h0 : ∀ k, 1 ≤ k → T 0 k frm = none) (hD : ∀ k a, frm < a → a ≤ n → k + 1 ≤ most → T 0 k a = lft (Dp c n k a)) : ∀ m, frm + m ≤ n → ∀ k, k + 1 ≤ most → rowT pc 0 most frm m T 0 (k + 1) frm = lft (bst (fD c n k frm) frm m) := by
  intro m
  induction m with
  | zero => intro _ k hk; exact h0 (k + 1) (by omega)
  | succ m ih =>
    intro hm k hk
    have ih := ih (by omega) k hk
    show stepT pc 0 most frm (frm + m) (rowT pc 0 most frm m T) 0 (k + 1) frm = _
    rw [step0 hc]
    unfold bst fD
    have htail : rowT pc 0 most frm m T 0 k (frm + m + 1) = lft (Dp c n k (frm + m + 1)) := by rw [row_o (by omega), hD k _ (by omega) (by omega) hk]
    cases hx : c frm (frm + m) with
    | none =>
      simp only [Option.bind_none]
      exact ih
    | some x =>
      simp only [Option.bind_some]
      show offT 0 most frm (frm + m) 0 x 0 (rowT pc 0 most frm m T) 0 (k + 1) frm = _
      unfold offT offD
      rw [if_pos ⟨rfl, by omega, hk, by omega, by omega, rfl⟩, Nat.sub_zero, Nat.add_sub_cancel, htail, ih]
      cases hd : Dp c n k (frm + m + 1) with
      | none => simp only [lft, Option.map_none]; rfl
      | some t =>
        simp only [lft, Option.map_some, Nat.zero_mul, Nat.zero_add]
        congr 1
        show keepE (Option.map (fun t => (t.1, 0, t.2)) (bst (fD c n k frm) frm m)) (x + t.1, 0, frm + m + 1) = ((match bst (fD c n k frm) frm m with | none => (x + t.1, frm + m + 1) | some w => if x + t.1 < w.1 then (x + t.1, frm + m + 1) else w).1, 0, (match bst (fD c n k frm) frm m with | none => (x + t.1, frm + m + 1) | some w => if x + t.1 < w.1 then (x + t.1, frm + m + 1) else w).2)
        cases bst (fD c n k frm) frm m with
        | none => rfl
        | some w =>
          simp only [Option.map_some, keepE, Nat.lt_irrefl, and_false, or_false]
          by_cases q : x + t.1 < w.1
          · simp only [if_pos q]
          · simp only [if_neg q]
/-- the class's table holds the best cuts -/
theorem all0 {pc : PCS} {c : CC} (hc : okC0 pc c) {K n : Nat} : ∀ j, j ≤ n → (∀ k a, n - j ≤ a → a ≤ n → (k ≤ mostOf K a ∨ k = 0) → allT pc 0 K n j 0 k a = lft (Dp c n k a)) ∧ ∀ k a, a < n - j → 1 ≤ k → allT pc 0 K n j 0 k a = none := by
  intro j
  induction j with
  | zero =>
    intro _
    refine ⟨fun k a h1 h2 _ => ?_, fun k a h1 h2 => ?_⟩
    · obtain rfl : a = n := by omega
      show initT a 0 k a = _
      unfold initT
      cases k with
      | zero => simp [lft, Dp]
      | succ k => rw [Dp_s, Nat.sub_self]; simp [lft, bst]
    · show initT n 0 k a = none
      unfold initT
      exact if_neg (fun c => by omega)
  | succ j ih =>
    intro hj
    obtain ⟨i1, i2⟩ := ih (by omega)
    refine ⟨fun k a h1 h2 h3 => ?_, fun k a h1 h2 => ?_⟩
    · show rowT pc 0 (mostOf K (n - 1 - j)) (n - 1 - j) (j + 1) (allT pc 0 K n j) 0 k a = _
      by_cases q : a = n - 1 - j
      · subst q
        cases k with
        | zero =>
          rw [row_k (Or.inl rfl), ZT_all j 0 (n - 1 - j)]
          rw [if_neg (fun c => by omega)]
          show none = lft (if n - 1 - j = n then some (0, 0) else none)
          rw [if_neg (by omega)]; rfl
        | succ k =>
          have hm : k + 1 ≤ mostOf K (n - 1 - j) := by omega
          rw [row0 hc (n := n) (i2 · (n - 1 - j) (by omega)) (fun k' a' g1 g2 g3 => i1 k' a' (by omega) g2 (Or.inl (by unfold mostOf at g3 ⊢; rw [if_neg (by omega)]; split at g3 <;> omega))) (j + 1) (by omega) k hm, Dp_s]
          rw [show n - (n - 1 - j) = j + 1 by omega]
      · rw [row_o q]
        exact i1 k a (by omega) h2 h3
    · show rowT pc 0 (mostOf K (n - 1 - j)) (n - 1 - j) (j + 1) (allT pc 0 K n j) 0 k a = _
      rw [row_o (by omega)]
      exact i2 k a (by omega) h2
theorem Dp_nx {c : CC} {n k a : Nat} {t : Nat × Nat} (h : Dp c n (k + 1) a = some t) : a < t.2 ∧ t.2 ≤ n ∧ ∃ x t', c a (t.2 - 1) = some x ∧ Dp c n k t.2 = some t' ∧ t.1 = x + t'.1 := by
  rw [Dp_s] at h
  obtain ⟨⟨h1, h2, h3⟩, -, -⟩ := (bst_spec (fD c n k a) a (n - a)).2 t h
  have h4 : t.2 ≤ n := by
    rcases Nat.lt_or_ge n a with q | q
    · rw [show n - a = 0 by omega] at h; exact absurd h (by simp [bst])
    · omega
  refine ⟨h1, h4, ?_⟩
  unfold fD at h3
  rw [show t.2 - 1 + 1 = t.2 by omega] at h3
  cases hx : c a (t.2 - 1) with
  | none => rw [hx] at h3; exact absurd h3 (by simp)
  | some x =>
    rw [hx] at h3
    cases hd : Dp c n k t.2 with
    | none => rw [hd] at h3; exact absurd h3 (by simp)
    | some t' => rw [hd] at h3; exact ⟨x, t', rfl, rfl, by simpa using h3.symm⟩
/-- where the stretches of the best cuts into K begin -/
def plc (c : CC) (n K : Nat) : Nat → Nat
  | 0 => 0
  | i + 1 => match Dp c n (K - i) (plc c n K i) with
    | none => 0
    | some t => t.2
theorem plc_ok {c : CC} {n K : Nat} (h : (Dp c n K 0).isSome = true) : ∀ i, i ≤ K → (Dp c n (K - i) (plc c n K i)).isSome = true ∧ plc c n K i ≤ n ∧ (1 ≤ i → 1 ≤ plc c n K i) := by
  intro i
  induction i with
  | zero => intro _; exact ⟨h, Nat.zero_le _, fun h => by omega⟩
  | succ i ih =>
    intro hi
    obtain ⟨h1, h2, -⟩ := ih (by omega)
    obtain ⟨t, ht⟩ := Option.isSome_iff_exists.mp h1
    have e : plc c n K (i + 1) = t.2 := by simp only [plc, ht]
    rw [show K - i = (K - (i + 1)) + 1 by omega] at ht
    obtain ⟨g1, g2, x, t', g3, g4, g5⟩ := Dp_nx ht
    rw [e, g4]
    exact ⟨rfl, g2, fun _ => by omega⟩
section
variable {G : GC} {d : Nat} {P : PT} {I : MI} {J : MJ}
theorem tr_loop {c : CC} {n K : Nat} {T : TB} {I0 : MI} (hn : n ≤ 40) (hK6 : K ≤ 6) (hT : TT 0 T I0 J) (hD : ∀ k a, a ≤ n → (k ≤ mostOf K a ∨ k = 0) → T 0 k a = lft (Dp c n k a)) (hS : (Dp c n K 0).isSome = true) (hq : ∀ I', (∀ a, a ≠ 49 → I' a = I0 a) → (∀ i, i < K → I' 49 i = nI (plc c n K i)) → P (some (.int 1)) I' J) : ∀ (r i : Nat) (I : MI), i + r = K → (∀ a, a ≠ 49 → I a = I0 a) → (∀ j, j < i → I 49 j = nI (plc c n K j)) → Go G (fr G m_CU_trace (d + 1) P) 36 [some (.ref 33), some (.int (nI K)), some (.int (nI (plc c n K i))), some (.int (nI i))] [] I J := by
  intro r
  induction r with
  | zero =>
    intro i I hi hF hv
    obtain rfl : i = K := by omega
    have hle : nI i ≤ nI i := nI_le (Nat.le_refl _) (by omega)
    exact w_CU_trace_36 (fun _ => hq I hF hv) (fun c => absurd hle c) (fun c => absurd hle c) (fun c => absurd hle c)
  | succ r ih =>
    intro i I hi hF hv
    have hc : ¬ nI K ≤ nI i := nI_ge (by omega) (by omega)
    obtain ⟨h1, h2, h3⟩ := plc_ok hS i (by omega)
    obtain ⟨t, ht⟩ := Option.isSome_iff_exists.mp h1
    have e : plc c n K (i + 1) = t.2 := by simp only [plc, ht]
    have eat : f_CU_at 0 (nI K - nI i) (nI (plc c n K i)) = nI (ix 0 (K - i) (plc c n K i)) := by rw [nI_sub (by omega)]; exact at_ix 0 _ _
    have hxl := ix_lt (e := 0) (k := K - i) (a := plc c n K i) (by omega) (by omega) (by omega)
    have hent := hT 0 (K - i) (plc c n K i) (by omega) (by omega) (by omega)
    have hmo : K - i ≤ mostOf K (plc c n K i) := by
      unfold mostOf
      rcases Nat.eq_zero_or_pos i with q | q
      · subst q; split <;> first | omega | (rename_i h; exact absurd rfl h)
      · rw [if_neg (by have := h3 q; omega)]; omega
    rw [hD _ _ (by omega) (Or.inl hmo), ht] at hent
    obtain ⟨-, -, -, hnx⟩ := hent
    have hnx := hnx (by omega)
    refine w_CU_trace_36 (fun c => absurd c hc) (fun _ => vp_in_nI (by omega) (by omega)) (fun _ => by rw [eat]; exact vp_in_nI (by omega) (by omega)) (fun _ => ?_)
    rw [eat, nI_clamp (show ix 0 (K - i) (plc c n K i) < 2 ^ 31 by omega), hF 45 (by decide), hnx, nI_1, nI_clamp (show i < 2 ^ 31 by omega)]
    show Go _ _ _ [_, _, some (.int (nI t.2)), _] _ _ _
    rw [← e]
    refine ih (i + 1) _ (by omega) (fun a ha => by rw [u2_o ha]; exact hF a ha) (fun j hj => ?_)
    by_cases q : j = i
    · rw [q, u2_s]
    · rw [u2_k q]; exact hv j (by omega)
theorem sp_trace0 {c : CC} {n K : Nat} {T : TB} (hn : n ≤ 40) (hK : 1 ≤ K) (hK6 : K ≤ 6) (hT : TT 0 T I J) (hok : okTB T) (h9 : I 33 9 = 0) (hD : ∀ k a, a ≤ n → (k ≤ mostOf K a ∨ k = 0) → T 0 k a = lft (Dp c n k a)) (hq : ∀ I', (∀ a, a ≠ 49 → I' a = I a) → ((Dp c n K 0).isSome = true → ∀ i, i < K → I' 49 i = nI (plc c n K i)) → P (some (.int (if (Dp c n K 0).isSome = true then 1 else 0))) I' J) : Ct G (d + 1) m_CU_trace [.ref 33, .int (nI K)] P I J := by
  have eat : f_CU_at (I 33 9) (nI K) 0 = nI (ix 0 K 0) := by rw [h9]; exact at_ix 0 K 0
  have hxl := ix_lt (e := 0) (k := K) (a := 0) (by omega) (by omega) (by omega)
  have ex : (nI (ix 0 K 0)).toNatClampNeg = ix 0 K 0 := nI_clamp (by omega)
  have hent := hT 0 K 0 (by omega) (by omega) (by omega)
  have hDK := hD K 0 (by omega) (Or.inl (by unfold mostOf; rw [if_pos rfl]; exact Nat.le_refl _))
  rw [hDK] at hent
  have hle : I 33 9 ≤ 0 := by rw [h9]; decide
  refine Ct.ofGo [some (.ref 33), some (.int (nI K)), none, none] (by decide +kernel) rfl (Nat.le_of_ble_eq_true rfl) (w_CU_trace_0 (by rw [eat]; exact vp_in_nI (by omega) (by omega)) (fun c1 _ => ?_) (fun _ c2 => absurd hle c2) (fun c1 => ?_))
  · cases hd : Dp c n K 0 with
    | none =>
      rw [hd] at hent
      rw [eat, ex] at c1
      exact absurd hent c1
    | some t =>
      have hS : (Dp c n K 0).isSome = true := by rw [hd]; rfl
      rw [if_pos hS] at hq
      exact tr_loop (c := c) hn hK6 hT hD hS (fun I' g1 g2 => hq I' g1 (fun _ => g2)) K 0 I (by omega) (fun _ _ => rfl) (fun j hj => by omega)
  · cases hd : Dp c n K 0 with
    | none =>
      rw [hd] at hq
      exact hq I (fun _ _ => rfl) (fun h => absurd h (by decide))
    | some t =>
      rw [hd] at hent hDK
      rw [eat, ex, hent.1] at c1
      obtain ⟨o1, -, -⟩ := hok 0 K 0 _ hDK
      have hkk : K * 53429314570632000000000000000 ≤ 6 * 53429314570632000000000000000 := Nat.mul_le_mul_right _ hK6
      rw [show (-1 : Int64) = lI (-1) from rfl, lI_inj (by omega) (by omega)] at c1
      omega
end
