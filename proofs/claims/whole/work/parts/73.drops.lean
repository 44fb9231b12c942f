/-! ===== points left out, pure ===== -/
def lexle (p : Nat × Nat) (v w : Nat) : Prop := p.1 < v ∨ (p.1 = v ∧ p.2 ≤ w)
def isMin (o : Option (Nat × Nat)) (S : Nat → Nat → Prop) : Prop := match o with
  | none => ∀ v w, ¬ S v w
  | some p => S p.1 p.2 ∧ ∀ v w, S v w → lexle p v w
theorem isMin_uniq {o o' : Option (Nat × Nat)} {S : Nat → Nat → Prop} (h : isMin o S) (h' : isMin o' S) : o = o' := by
  cases o with
  | none =>
    cases o' with
    | none => rfl
    | some p => exact absurd h'.1 (h _ _)
  | some p =>
    cases o' with
    | none => exact absurd h.1 (h' _ _)
    | some p' =>
      have h1 := h.2 _ _ h'.1
      have h2 := h'.2 _ _ h.1
      unfold lexle at h1 h2
      congr 1
      have e1 : p.1 = p'.1 := by omega
      have e2 : p.2 = p'.2 := by omega
      exact Prod.ext e1 e2
theorem isMin_congr {o : Option (Nat × Nat)} {S S' : Nat → Nat → Prop} (h : isMin o S) (e : ∀ v w, S v w ↔ S' v w) : isMin o S' := by
  cases o with
  | none => exact fun v w hs => h v w ((e v w).mpr hs)
  | some p => exact ⟨(e _ _).mp h.1, fun v w hs => h.2 v w ((e v w).mpr hs)⟩
def kmin (o : Option (Nat × Nat)) (p : Nat × Nat) : Option (Nat × Nat) := match o with
  | none => some p
  | some o => if p.1 < o.1 ∨ (p.1 = o.1 ∧ p.2 < o.2) then some p else some o
theorem isMin_keep {o : Option (Nat × Nat)} {p : Nat × Nat} {S S' : Nat → Nat → Prop} (h : isMin o S) (h' : isMin (some p) S') : isMin (kmin o p) (fun v w => S v w ∨ S' v w) := by
  cases o with
  | none => exact ⟨Or.inr h'.1, fun v w hs => hs.elim (fun q => absurd q (h v w)) (h'.2 v w)⟩
  | some o =>
    unfold kmin
    dsimp only
    split
    · rename_i c
      refine ⟨Or.inr h'.1, fun v w hs => hs.elim (fun q => ?_) (h'.2 v w)⟩
      have := h.2 v w q
      unfold lexle at this ⊢; omega
    · rename_i c
      refine ⟨Or.inl h.1, fun v w hs => hs.elim (h.2 v w) (fun q => ?_)⟩
      have := h'.2 v w q
      unfold lexle at this ⊢; omega
noncomputable def minO (S : Nat → Nat → Prop) : Option (Nat × Nat) := @dite _ (∃ p : Nat × Nat, isMin (some p) S) (Classical.propDecidable _) (fun h => some h.choose) (fun _ => none)
theorem minO_spec (S : Nat → Nat → Prop) : isMin (minO S) S := by
  by_cases h : ∃ p : Nat × Nat, isMin (some p) S
  · have e : minO S = some h.choose := by unfold minO; rw [dif_pos h]
    rw [e]; exact h.choose_spec
  · have e : minO S = none := by unfold minO; rw [dif_neg h]
    rw [e]
    intro v w hs
    refine h ?_
    obtain ⟨v0, ⟨w1, h1⟩, h2⟩ := pk_least (fun v => ∃ w, S v w) ⟨v, w, hs⟩
    obtain ⟨w0, h3, h4⟩ := pk_least (fun w => S v0 w) ⟨w1, h1⟩
    refine ⟨(v0, w0), h3, fun v' w' hs' => ?_⟩
    unfold lexle
    rcases Nat.lt_or_ge v' v0 with q | q
    · exact absurd ⟨w', hs'⟩ (h2 v' q)
    · rcases Nat.lt_or_ge v0 v' with q2 | q2
      · exact Or.inl q2
      · have : v' = v0 := by omega
        subst this
        refine Or.inr ⟨rfl, ?_⟩
        rcases Nat.lt_or_ge w' w0 with q3 | q3
        · exact absurd hs' (h4 w' q3)
        · exact q3
theorem minO_of {S : Nat → Nat → Prop} {o : Option (Nat × Nat)} (h : isMin o S) : minO S = o := isMin_uniq (minO_spec S) h
abbrev SP : Type := Nat → Nat → Nat → Nat → Nat → Prop
/-- ways to cut from a on into k, with e left out: cost and number -/
def AD (St : SP) (n : Nat) : Nat → Nat → Nat → Nat → Nat → Prop
  | 0, e, a, v, w => e = 0 ∧ a = n ∧ v = 0 ∧ w = 0
  | k + 1, e, a, v, w => ∃ b e1 v1 w1 v2 w2, a ≤ b ∧ b < n ∧ e1 ≤ e ∧ St e1 a b v1 w1 ∧ AD St n k (e - e1) (b + 1) v2 w2 ∧ v = v1 + v2 ∧ w = w1 * 40 ^ (e - e1) + w2
def pr (t : EN) : Nat × Nat := (t.1, t.2.1)
theorem keep_pr (o : Option EN) (n : EN) : some (pr (keepE o n)) = kmin (o.map pr) (pr n) := by
  cases o with
  | none => rfl
  | some o =>
    show some (pr (if n.1 < o.1 ∨ (n.1 = o.1 ∧ n.2.1 < o.2.1) then n else o)) = if n.1 < o.1 ∨ (n.1 = o.1 ∧ n.2.1 < o.2.1) then some (pr n) else some (pr o)
    split <;> rfl
def XS (Sp S2 : Nat → Nat → Prop) (e e1 : Nat) : Nat → Nat → Prop := fun v w => e1 ≤ e ∧ ∃ v1 w1 v2 w2, Sp v1 w1 ∧ S2 v2 w2 ∧ v = v1 + v2 ∧ w = w1 * 40 ^ (e - e1) + w2
theorem off_min {q most frm to e1 e k : Nat} {T : TB} {p : Option (Nat × Nat)} {S Sp S2 : Nat → Nat → Prop} (he : e ≤ q) (hk : k + 1 ≤ most) (hc : isMin ((T e (k + 1) frm).map pr) S) (hp : isMin p Sp) (ht : e1 ≤ e → isMin ((T (e - e1) k (to + 1)).map pr) S2) : isMin ((offO q most frm to e1 p T e (k + 1) frm).map pr) (fun v w => S v w ∨ XS Sp S2 e e1 v w) := by
  by_cases h1 : e1 ≤ e
  · have ht := ht h1
    cases p with
    | none =>
      refine isMin_congr hc (fun v w => ⟨Or.inl, fun h => h.elim id (fun h => ?_)⟩)
      obtain ⟨-, v1, w1, v2, w2, a, -⟩ := h
      exact absurd a (hp v1 w1)
    | some p =>
      show isMin ((offD q most frm to e1 p.1 p.2 (fun _ _ => true) T e (k + 1) frm).map pr) _
      unfold offD
      rw [if_pos ⟨rfl, by omega, hk, h1, he, rfl⟩, Nat.add_sub_cancel]
      cases htt : T (e - e1) k (to + 1) with
      | none =>
        rw [htt] at ht
        refine isMin_congr hc (fun v w => ⟨Or.inl, fun h => h.elim id (fun h => ?_)⟩)
        obtain ⟨-, v1, w1, v2, w2, -, a, -⟩ := h
        exact absurd a (ht v2 w2)
      | some t =>
        rw [htt] at ht
        show isMin (some (pr (keepE (T e (k + 1) frm) (p.1 + t.1, p.2 * 40 ^ (e - e1) + t.2.1, to + 1)))) _
        rw [keep_pr]
        refine isMin_keep hc ⟨⟨h1, p.1, p.2, t.1, t.2.1, hp.1, ht.1, rfl, rfl⟩, fun v w hx => ?_⟩
        obtain ⟨-, v1, w1, v2, w2, a, b, rfl, rfl⟩ := hx
        have c1 := hp.2 v1 w1 a
        have c2 := ht.2 v2 w2 b
        unfold lexle at c1 c2 ⊢
        show p.1 + t.1 < v1 + v2 ∨ (p.1 + t.1 = v1 + v2 ∧ p.2 * 40 ^ (e - e1) + t.2.1 ≤ w1 * 40 ^ (e - e1) + w2)
        have c2 : t.1 < v2 ∨ (t.1 = v2 ∧ t.2.1 ≤ w2) := c2
        rcases c1 with c1 | c1
        · left; omega
        · rcases c2 with c2 | c2
          · left; omega
          · right
            have := Nat.mul_le_mul_right (40 ^ (e - e1)) c1.2
            omega
  · have hsame : offO q most frm to e1 p T e (k + 1) frm = T e (k + 1) frm := by
      cases p with
      | none => rfl
      | some p =>
        show offD q most frm to e1 p.1 p.2 (fun _ _ => true) T e (k + 1) frm = _
        unfold offD
        exact if_neg (fun c => h1 c.2.2.2.1)
    rw [hsame]
    exact isMin_congr hc (fun v w => ⟨Or.inl, fun h => h.elim id (fun h => absurd h.1 h1)⟩)
theorem offO_o {q most frm to e1 : Nat} {p : Option (Nat × Nat)} {T : TB} {e k a : Nat} (h : a ≠ frm) : offO q most frm to e1 p T e k a = T e k a := by
  cases p with
  | none => rfl
  | some p =>
    show offD q most frm to e1 p.1 p.2 (fun _ _ => true) T e k a = T e k a
    exact offD_o h
def RS (St : SP) (n frm m k e : Nat) : Nat → Nat → Prop := fun v w => ∃ b e1 v1 w1 v2 w2, frm ≤ b ∧ b < frm + m ∧ e1 ≤ e ∧ St e1 frm b v1 w1 ∧ AD St n k (e - e1) (b + 1) v2 w2 ∧ v = v1 + v2 ∧ w = w1 * 40 ^ (e - e1) + w2
theorem rowq {pc : PCS} {St : SP} {n q most frm : Nat} {T : TB} (hq : q ≤ 2) (hpc : ∀ e b, e ≤ 2 → frm ≤ b → b < n → isMin (pc e frm b) (St e frm b)) (h0 : ∀ e k, 1 ≤ k → T e k frm = none) (hD : ∀ e k a, e ≤ q → frm < a → a ≤ n → k + 1 ≤ most → isMin ((T e k a).map pr) (AD St n k e a)) : ∀ m, frm + m ≤ n → ∀ e k, e ≤ q → k + 1 ≤ most → isMin ((rowT pc q most frm m T e (k + 1) frm).map pr) (RS St n frm m k e) := by
  intro m
  induction m with
  | zero =>
    intro _ e k he hk
    show isMin ((T e (k + 1) frm).map pr) _
    rw [h0 e (k + 1) (by omega)]
    rintro v w ⟨b, e1, v1, w1, v2, w2, h1, h2, -⟩
    omega
  | succ m ih =>
    intro hm e k he hk
    have ih := ih (by omega) e k he hk
    show isMin ((stepT pc q most frm (frm + m) (rowT pc q most frm m T) e (k + 1) frm).map pr) _
    unfold stepT
    have htail : ∀ e1, e1 ≤ e → isMin ((rowT pc q most frm m T (e - e1) k (frm + m + 1)).map pr) (AD St n k (e - e1) (frm + m + 1)) := fun e1 _ => by
      rw [row_o (by omega)]
      exact hD (e - e1) k _ (by omega) (by omega) (by omega) hk
    have s0 := off_min (to := frm + m) he hk ih (hpc 0 (frm + m) (by omega) (by omega) (by omega)) (htail 0)
    have s1 := off_min (to := frm + m) he hk s0 (hpc 1 (frm + m) (by omega) (by omega) (by omega)) (fun h => by rw [offO_o (by omega)]; exact htail 1 h)
    have s2 := off_min (to := frm + m) he hk s1 (hpc 2 (frm + m) (by omega) (by omega) (by omega)) (fun h => by rw [offO_o (by omega), offO_o (by omega)]; exact htail 2 h)
    refine isMin_congr s2 (fun v w => ⟨fun h => ?_, fun h => ?_⟩)
    · rcases h with ((h | h) | h) | h
      · obtain ⟨b, e1, v1, w1, v2, w2, a1, a2, a3⟩ := h
        exact ⟨b, e1, v1, w1, v2, w2, a1, by omega, a3⟩
      · obtain ⟨h1, v1, w1, v2, w2, a1, a2, a3, a4⟩ := h
        exact ⟨frm + m, 0, v1, w1, v2, w2, by omega, by omega, h1, a1, a2, a3, a4⟩
      · obtain ⟨h1, v1, w1, v2, w2, a1, a2, a3, a4⟩ := h
        exact ⟨frm + m, 1, v1, w1, v2, w2, by omega, by omega, h1, a1, a2, a3, a4⟩
      · obtain ⟨h1, v1, w1, v2, w2, a1, a2, a3, a4⟩ := h
        exact ⟨frm + m, 2, v1, w1, v2, w2, by omega, by omega, h1, a1, a2, a3, a4⟩
    · obtain ⟨b, e1, v1, w1, v2, w2, a1, a2, a3, a4, a5, a6, a7⟩ := h
      by_cases q2 : b < frm + m
      · exact Or.inl (Or.inl (Or.inl ⟨b, e1, v1, w1, v2, w2, a1, q2, a3, a4, a5, a6, a7⟩))
      · obtain rfl : b = frm + m := by omega
        have hX : XS (St e1 frm (frm + m)) (AD St n k (e - e1) (frm + m + 1)) e e1 v w := ⟨a3, v1, w1, v2, w2, a4, a5, a6, a7⟩
        rcases (show e1 = 0 ∨ e1 = 1 ∨ e1 = 2 by omega) with h | h | h
        · subst h; exact Or.inl (Or.inl (Or.inr hX))
        · subst h; exact Or.inl (Or.inr hX)
        · subst h; exact Or.inr hX
/-- the class's table holds the least -/
theorem allq {pc : PCS} {St : SP} {n q K : Nat} (hq : q ≤ 2) (hpc : ∀ e a b, e ≤ 2 → a ≤ b → b < n → isMin (pc e a b) (St e a b)) : ∀ j, j ≤ n → (∀ e k a, e ≤ q → n - j ≤ a → a ≤ n → (k ≤ mostOf K a ∨ k = 0) → isMin ((allT pc q K n j e k a).map pr) (AD St n k e a)) ∧ ∀ e k a, a < n - j → 1 ≤ k → allT pc q K n j e k a = none := by
  have hz : ∀ j e a, isMin ((allT pc q K n j e 0 a).map pr) (AD St n 0 e a) := fun j e a => by
    rw [ZT_all j e a]
    by_cases c : e = 0 ∧ a = n
    · rw [if_pos c]
      refine ⟨⟨c.1, c.2, rfl, rfl⟩, fun v w h => ?_⟩
      obtain ⟨-, -, h3, h4⟩ := h
      unfold lexle
      right
      exact ⟨h3.symm, by rw [h4]; exact Nat.zero_le _⟩
    · rw [if_neg c]
      rintro v w ⟨h1, h2, -⟩
      exact c ⟨h1, h2⟩
  intro j
  induction j with
  | zero =>
    intro _
    refine ⟨fun e k a he h1 h2 _ => ?_, fun e k a h1 h2 => ?_⟩
    · obtain rfl : a = n := by omega
      cases k with
      | zero => exact hz 0 e a
      | succ k =>
        show isMin ((initT a e (k + 1) a).map pr) _
        have : initT a e (k + 1) a = none := by unfold initT; exact if_neg (fun c => by omega)
        rw [this]
        rintro v w ⟨b, e1, v1, w1, v2, w2, h1, h2, -⟩
        omega
    · show initT n e k a = none
      unfold initT
      exact if_neg (fun c => by omega)
  | succ j ih =>
    intro hj
    obtain ⟨i1, i2⟩ := ih (by omega)
    refine ⟨fun e k a he h1 h2 h3 => ?_, fun e k a h1 h2 => ?_⟩
    · by_cases q2 : a = n - 1 - j
      · subst q2
        cases k with
        | zero => exact hz (j + 1) e _
        | succ k =>
          have hm : k + 1 ≤ mostOf K (n - 1 - j) := by omega
          have h := rowq (pc := pc) (St := St) (n := n) (q := q) (most := mostOf K (n - 1 - j)) (frm := n - 1 - j) (T := allT pc q K n j) hq (fun e b g1 g2 g3 => hpc e _ b g1 g2 g3) (fun e k g => i2 e k (n - 1 - j) (by omega) g) (fun e k' a' g0 g1 g2 g3 => i1 e k' a' g0 (by omega) g2 (Or.inl (by unfold mostOf at g3 ⊢; rw [if_neg (by omega)]; split at g3 <;> omega))) (j + 1) (by omega) e k he hm
          show isMin ((rowT pc q (mostOf K (n - 1 - j)) (n - 1 - j) (j + 1) (allT pc q K n j) e (k + 1) (n - 1 - j)).map pr) _
          refine isMin_congr h (fun v w => ?_)
          show RS St n (n - 1 - j) (j + 1) k e v w ↔ ∃ b e1 v1 w1 v2 w2, _
          unfold RS
          rw [show n - 1 - j + (j + 1) = n by omega]
      · show isMin ((rowT pc q (mostOf K (n - 1 - j)) (n - 1 - j) (j + 1) (allT pc q K n j) e k a).map pr) _
        rw [row_o q2]
        exact i1 e k a he (by omega) h2 h3
    · show rowT pc q (mostOf K (n - 1 - j)) (n - 1 - j) (j + 1) (allT pc q K n j) e k a = none
      rw [row_o (by omega)]
      exact i2 e k a (by omega) h2
