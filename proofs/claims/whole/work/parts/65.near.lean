/-! ===== near ===== -/
theorem Dp1 {c : CC} {n a : Nat} (ha : a < n) : Dp c n 1 a = (c a (n - 1)).map fun x => (x, n) := by
  have hf : ∀ b, b + 1 ≠ n → fD c n 0 a b = none := fun b hb => by
    show (c a b).bind (fun x => (Dp c n 0 (b + 1)).map fun t => x + t.1) = none
    have : Dp c n 0 (b + 1) = none := by show (if b + 1 = n then some ((0, 0) : Nat × Nat) else none) = none; rw [if_neg hb]
    rw [this]; cases c a b <;> rfl
  have hl : fD c n 0 a (n - 1) = c a (n - 1) := by
    show (c a (n - 1)).bind (fun x => (Dp c n 0 (n - 1 + 1)).map fun t => x + t.1) = _
    have : Dp c n 0 (n - 1 + 1) = some (0, 0) := by show (if n - 1 + 1 = n then some ((0, 0) : Nat × Nat) else none) = _; rw [if_pos (by omega)]
    rw [this]; cases c a (n - 1) <;> rfl
  have hs := bst_skip (f := fD c n 0 a) (lo := a) (n - a - 1) 1 (fun b _ hb => hf b (by omega))
  rw [show n - a - 1 + 1 = n - a by omega, show a + (n - a - 1) = n - 1 by omega] at hs
  rw [Dp_s, hs]
  show (match fD c n 0 a (n - 1 + 0) with | none => none | some v => some (match (none : Option (Nat × Nat)) with | none => (v, n - 1 + 0 + 1) | some w => if v < w.1 then (v, n - 1 + 0 + 1) else w)) = _
  rw [Nat.add_zero, hl, show n - 1 + 1 = n by omega]
  cases c a (n - 1) <;> rfl
def tlN (c : CC) (n B p hv f : Nat) : Nat := match c f (n - 1) with
  | none => 0
  | some z => if 100 * (hv + z) ≤ (100 + p) * B then 1 else 0
def mdN (c : CC) (n B p x f t : Nat) : Nat := if t < f then 0 else match c f t with
  | none => 0
  | some y => tlN c n B p (x + y) (t + 1)
def nrT (c : CC) (n B p K f : Nat) : Nat := if f = 0 then 0 else match c 0 (f - 1) with
  | none => 0
  | some x => if K = 2 then tlN c n B p x f else gs (mdN c n B p x f) (n - 1)
def nearN (c : CC) (n B p K : Nat) : Nat := gs (nrT c n B p K) n
theorem gs_z {F : Nat → Nat} : ∀ m, (∀ x, x < m → F x = 0) → gs F m = 0 := by
  intro m
  induction m with
  | zero => intro _; rfl
  | succ m ih => intro h; show gs F m + F m = 0; rw [ih (fun x hx => h x (by omega)), h m (by omega)]
theorem gs_tail {F : Nat → Nat} {a b : Nat} (hab : a ≤ b) (h : ∀ x, a ≤ x → x < b → F x = 0) : gs F a = gs F b := by
  obtain ⟨m, rfl⟩ : ∃ m, b = a + m := ⟨b - a, by omega⟩
  rw [gs_add, gs_z m (fun x hx => h (a + x) (by omega) (by omega))]; rfl
theorem gs_le {F : Nat → Nat} {B : Nat} : ∀ m, (∀ x, x < m → F x ≤ B) → gs F m ≤ B * m := by
  intro m
  induction m with
  | zero => intro _; exact Nat.zero_le _
  | succ m ih => intro h; have := ih (fun x hx => h x (by omega)); have := h m (by omega); show gs F m + F m ≤ _; rw [Nat.mul_succ]; omega
theorem tlN_le (c : CC) (n B p hv f : Nat) : tlN c n B p hv f ≤ 1 := by
  unfold tlN; split
  · omega
  · split <;> omega
theorem lex_le {X Y N : Nat} (hN : 0 < N) : X ≤ Y ↔ X / N < Y / N ∨ (X / N = Y / N ∧ X % N ≤ Y % N) := by
  have hx := Nat.div_add_mod X N
  have hy := Nat.div_add_mod Y N
  have lx := Nat.mod_lt X hN
  have ly := Nat.mod_lt Y hN
  constructor
  · intro h
    rcases Nat.lt_or_ge (X / N) (Y / N) with q | q
    · exact Or.inl q
    · have := Nat.div_le_div_right (c := N) h
      have e : X / N = Y / N := by omega
      refine Or.inr ⟨e, ?_⟩
      rw [e] at hx; omega
  · rintro (h | ⟨h1, h2⟩)
    · have : N * (X / N + 1) ≤ N * (Y / N) := Nat.mul_le_mul_left _ h
      rw [Nat.mul_add, Nat.mul_one] at this
      omega
    · rw [h1] at hx; omega
theorem div_split {N w r : Nat} (hN : 0 < N) : (w * N + r) / N = w + r / N ∧ (w * N + r) % N = r % N := by
  constructor
  · rw [Nat.add_comm, Nat.add_mul_div_right _ _ hN, Nat.add_comm]
  · rw [Nat.add_comm, Nat.add_mul_mod_self_right]
theorem hsum_l (N hW w hR r : Nat) : 100 * (hW + w) * N + 100 * (hR + r) = 100 * ((hW * N + hR) + (w * N + r)) := by
  rw [Nat.mul_assoc, Nat.add_mul]; omega
def FH (I : MI) (J : MJ) (I' : MI) (J' : MJ) : Prop := (∀ a, a < 35 ∨ 41 < a → I' a = I a) ∧ (∀ a, (a < 35 ∨ 41 < a) → a ≠ 46 → a ≠ 47 → J' a = J a) ∧ J' 35 1 = J 35 1 ∧ J' 38 1 = J 38 1
theorem FH.rf {I : MI} {J : MJ} : FH I J I J := ⟨fun _ _ => rfl, fun _ _ _ _ => rfl, rfl, rfl⟩
theorem FH.tr {I I' I'' : MI} {J J' J'' : MJ} (h : FH I J I' J') (g : FH I' J' I'' J'') : FH I J I'' J'' := ⟨fun a ha => (g.1 a ha).trans (h.1 a ha), fun a ha h1 h2 => (g.2.1 a ha h1 h2).trans (h.2.1 a ha h1 h2), g.2.2.1.trans h.2.2.1, g.2.2.2.trans h.2.2.2⟩
theorem FM.h {I I' : MI} {J J' : MJ} (h : FM I J I' J') : FH I J I' J' := ⟨fun a ha => (h.1 a ha).1, fun a ha _ _ => (h.1 a ha).2, h.2.1, h.2.2⟩
theorem FH.kc {I I' : MI} {J J' : MJ} (h : FH I J I' J') : KC I J I' J' := by
  refine ⟨fun a ha => h.1 a (by unfold lasts at ha; omega), by rw [h.1 53 (by omega)], h.2.2.1, h.2.2.2, fun a ha => h.2.1 a (by omega) (by omega) (by omega)⟩
theorem PF.fh {o : Nat} {L : List Pt} {I I' : MI} {J J' : MJ} (h : PF o L I) (hf : FH I J I' J') (ho : PtsAt o) : PF o L I' := by
  have hr := pts_rng ho
  have hk : ∀ a, a ≤ 31 → I' a = I a := fun a ha => hf.1 a (by omega)
  exact ⟨⟨by rw [hk o (by omega)]; exact h.1.1, fun k hk' => by rw [hk (o + 2) (by omega), hk (o + 3) (by omega)]; exact h.1.2 k hk'⟩, fun k hk' => by rw [hk (o + 4) (by omega)]; exact h.2 k hk'⟩
theorem CS.of {c : CC} {n K : Nat} {I I' : MI} {J J' : MJ} (h : CS c n K I J) (h33 : I' 33 = I 33) (h4 : I' 44 = I 44) (h5 : I' 45 = I 45) (h2 : J' 42 = J 42) (h3 : J' 43 = J 43) : CS c n K I' J' := by
  obtain ⟨T, e1, e2, e3, e4, e5⟩ := h
  exact ⟨T, e1.of h4 h5 h2 h3, e2, e3, by rw [h33]; exact e4, by rw [h33]; exact e5⟩
theorem CS.fh {c : CC} {n K : Nat} {I I' : MI} {J J' : MJ} (h : CS c n K I J) (g : FH I J I' J') : CS c n K I' J' := h.of (g.1 33 (by omega)) (g.1 44 (by omega)) (g.1 45 (by omega)) (g.2.1 42 (by omega) (by omega) (by omega)) (g.2.1 43 (by omega) (by omega) (by omega))
/-- the bound that was set -/
def BD (B p : Nat) (J : MJ) : Prop := J 33 10 = lI (((100 + p) * B / 5342931457063200 : Nat) : Int) ∧ J 33 11 = lI (((100 + p) * B % 5342931457063200 : Nat) : Int)
def hdE (o : Option Nat) (j : Nat) (J : MJ) : Prop := match o with
  | none => J 46 j = -1
  | some x => J 46 j = lI ((vW x : Nat) : Int) ∧ J 47 j = lI ((x % 5342931457063200 : Nat) : Int)
section
variable {G : GC} {d : Nat} {P : PT} {I : MI} {J : MJ}
theorem sp_setBound {c : CC} {n K p : Nat} {t : Nat × Nat} (hc : okC c n) (hn : n ≤ 40) (hK6 : K ≤ 6) (hp : p ≤ 1000) (hS : CS c n K I J) (ht : Dp c n K 0 = some t) (hq : ∀ J', (∀ a, a ≠ 33 → J' a = J a) → BD t.1 p J' → P none I J') : Ct G (d + 1) m_CU_setBound [.ref 33, .int (nI K), .int (nI p)] P I J := by
  have eat : f_CU_at 0 (nI K) 0 = nI (ix 0 K 0) := at_ix 0 K 0
  have hxl := ix_lt (e := 0) (k := K) (a := 0) (by omega) hK6 (by omega)
  have ex : (nI (ix 0 K 0)).toNatClampNeg = ix 0 K 0 := nI_clamp (by omega)
  obtain ⟨h1, h2⟩ := hS.at hK6 (Nat.zero_le _) hn (most0 K) ht
  have hb := (Dp_ok hc K 0 t (Nat.zero_le _) ht).1
  have hN : 0 < 5342931457063200 := by decide
  have hr := Nat.mod_lt t.1 hN
  have hw : vW t.1 ≤ 40000000 := (D_bd hc hn (Nat.zero_le _) ht).2
  have e1 : Int32.toInt64 (100 + nI p) = lI ((100 + p : Nat) : Int) := by
    rw [show (100 : Int32) + nI p = nI (100 + p) from nI_add 100 p]; exact nI_lI (by omega)
  have hm : (100 + p) * (t.1 % 5342931457063200) < 9223372036854775808 := by
    have : (100 + p) * (t.1 % 5342931457063200) ≤ 1100 * 5342931457063200 := Nat.mul_le_mul (by omega) (by omega)
    omega
  have hsp := div_split (N := 5342931457063200) (w := (100 + p) * vW t.1) (r := (100 + p) * (t.1 % 5342931457063200)) hN
  have hsum : (100 + p) * vW t.1 * 5342931457063200 + (100 + p) * (t.1 % 5342931457063200) = (100 + p) * t.1 := by
    rw [Nat.mul_assoc, ← Nat.mul_add]
    congr 1
    unfold vW
    have := Nat.div_add_mod t.1 5342931457063200
    rw [Nat.mul_comm] at this; exact this
  rw [hsum] at hsp
  refine Ct.ofGo [some (.ref 33), some (.int (nI K)), some (.int (nI p)), none, none, none] (by decide +kernel) rfl (Nat.le_of_ble_eq_true rfl) (w_CU_setBound_0 (by rw [eat]; exact vp_in_nI (by omega) (by omega)) ?_)
  rw [eat, ex, h1, h2, e1, lI_mul, lI_mul, c_NN]
  rw [show ((100 + p : Nat) : Int) * ((t.1 % 5342931457063200 : Nat) : Int) = (((100 + p) * (t.1 % 5342931457063200) : Nat) : Int) from (Int.natCast_mul _ _).symm]
  rw [show ((100 + p : Nat) : Int) * ((vW t.1 : Nat) : Int) = (((100 + p) * vW t.1 : Nat) : Int) from (Int.natCast_mul _ _).symm]
  rw [ln_rem hm (by decide) (by decide), ln_div hm (by decide) (by decide), lI_add]
  refine hq _ (fun a ha => by rw [u2_o ha, u2_o ha]) ⟨?_, ?_⟩
  · rw [u2_k (by decide), u2_s, hsp.1]; rfl
  · rw [u2_s, hsp.2]
theorem sp_countTail {c : CC} {n K p B hv hW hR f : Nat} (hc : okC c n) (hn : n ≤ 40) (hK : 2 ≤ K) (hB : BD B p J) (hp : p ≤ 1000) (hBb : B ≤ 40 * 5342931457063200000000) (hS : CS c n K I J) (hv' : hW * 5342931457063200 + hR = hv) (hhW : hW ≤ 1000000000) (hhR : hR ≤ 2 * 5342931457063200) (hf : f < n) (hq : P (some (.int (nI (tlN c n B p hv f)))) I J) : Ct G (d + 1) m_CU_countTail [.ref 33, .long (lI (hW : Int)), .long (lI (hR : Int)), .int (nI f)] P I J := by
  have eat : f_CU_at 0 1 (nI f) = nI (ix 0 1 f) := at_ix 0 1 f
  have hxl := ix_lt (e := 0) (k := 1) (a := f) (by omega) (by omega) (by omega)
  have ex : (nI (ix 0 1 f)).toNatClampNeg = ix 0 1 f := nI_clamp (by omega)
  have hm : 1 ≤ mostOf K f := by unfold mostOf; split <;> omega
  have hN : 0 < 5342931457063200 := by decide
  have hd := Dp1 (c := c) (n := n) (a := f) hf
  refine Ct.ofGo [some (.ref 33), some (.long (lI (hW : Int))), none, some (.long (lI (hR : Int))), none, some (.int (nI f)), none, none, none, none, none, none, none] (by decide +kernel) rfl (Nat.le_of_ble_eq_true rfl) ?_
  cases hcf : c f (n - 1) with
  | none =>
    rw [hcf] at hd
    have h42 := hS.no (k := 1) (a := f) (by omega) (by omega) hn hm hd
    have e0 : tlN c n B p hv f = 0 := by unfold tlN; rw [hcf]
    rw [e0] at hq
    have hy : J 42 (f_CU_at 0 1 (nI f)).toNatClampNeg = -1 := by rw [eat, ex]; exact h42
    exact w_CU_countTail_0 (by rw [eat]; exact vp_in_nI (by omega) (by omega)) (fun c => absurd hy c) (fun c => absurd hy c) (fun c => absurd hy c) (fun c => absurd hy c) (fun _ => hq)
  | some z =>
    rw [hcf] at hd
    obtain ⟨h42, h43⟩ := hS.at (k := 1) (a := f) (t := (z, n)) (by omega) (by omega) hn hm hd
    dsimp only at h42 h43
    have hz := hc f (n - 1) z (by omega) (by omega) hcf
    have hwz : vW z ≤ 40000000 := (c_bd hc hn (by omega) (by omega) hcf).2
    have hrz := Nat.mod_lt z hN
    have e0 : tlN c n B p hv f = if 100 * (hv + z) ≤ (100 + p) * B then 1 else 0 := by unfold tlN; rw [hcf]
    rw [e0] at hq
    have hsp := div_split (N := 5342931457063200) (w := 100 * (hW + vW z)) (r := 100 * (hR + z % 5342931457063200)) hN
    have hsum : 100 * (hW + vW z) * 5342931457063200 + 100 * (hR + z % 5342931457063200) = 100 * (hv + z) := by
      have h0 := Nat.div_add_mod z 5342931457063200
      rw [Nat.mul_comm] at h0
      have h1 := hsum_l 5342931457063200 hW (vW z) hR (z % 5342931457063200)
      rw [hv', show vW z * 5342931457063200 + z % 5342931457063200 = z from h0] at h1
      exact h1
    rw [hsum] at hsp
    have e42 : (100 * (lI (hW : Int) + J 42 (f_CU_at 0 1 (nI f)).toNatClampNeg)) = lI ((100 * (hW + vW z) : Nat) : Int) := by
      rw [eat, ex, h42, lI_add, show (100 : Int64) = lI 100 from rfl, lI_mul]; rfl
    have e43 : (100 * (lI (hR : Int) + J 43 (f_CU_at 0 1 (nI f)).toNatClampNeg)) = lI ((100 * (hR + z % 5342931457063200) : Nat) : Int) := by
      rw [eat, ex, h43, lI_add, show (100 : Int64) = lI 100 from rfl, lI_mul]; rfl
    have hne : ¬ J 42 (f_CU_at 0 1 (nI f)).toNatClampNeg = -1 := by
      rw [eat, ex, h42, show (-1 : Int64) = lI (-1) from rfl, lI_inj (by omega) (by omega)]; omega
    have hb43 : 100 * (hR + z % 5342931457063200) < 9223372036854775808 := by omega
    have hN63 : (5342931457063200 : Nat) < 9223372036854775808 := by decide
    have hBq : (100 + p) * B / 5342931457063200 ≤ 1100 * 40000000 := by
      have h1 : (100 + p) * B ≤ 1100 * (40 * 5342931457063200000000) := Nat.mul_le_mul (by omega) hBb
      have h2 := Nat.div_le_div_right (c := 5342931457063200) h1
      have h3 : 1100 * (40 * 5342931457063200000000) / 5342931457063200 = 1100 * 40000000 := by decide
      omega
    have hBr := Nat.mod_lt ((100 + p) * B) hN
    have hlex := lex_le (X := 100 * (hv + z)) (Y := (100 + p) * B) hN
    rw [hsp.1, hsp.2] at hlex
    have hdv : 100 * (hR + z % 5342931457063200) / 5342931457063200 ≤ 300 := by
      have h1 : 100 * (hR + z % 5342931457063200) ≤ 300 * 5342931457063200 := by omega
      have h2 := Nat.div_le_div_right (c := 5342931457063200) h1
      have h3 : 300 * 5342931457063200 / 5342931457063200 = 300 := by decide
      omega
    have hrm := Nat.mod_lt (100 * (hR + z % 5342931457063200)) hN
    have eW : (lI ((100 * (hW + vW z) : Nat) : Int) + lI ((100 * (hR + z % 5342931457063200) : Nat) : Int) / 5342931457063200) = lI ((100 * (hW + vW z) + 100 * (hR + z % 5342931457063200) / 5342931457063200 : Nat) : Int) := by
      rw [c_NN, ln_div hb43 hN63 hN, lI_add]; rfl
    have eR : (lI ((100 * (hR + z % 5342931457063200) : Nat) : Int) - lI ((100 * (hR + z % 5342931457063200) : Nat) : Int) / 5342931457063200 * 5342931457063200) = lI ((100 * (hR + z % 5342931457063200) % 5342931457063200 : Nat) : Int) := by
      rw [c_NN]; exact ln_rem hb43 hN63 hN
    obtain ⟨hB1, hB2⟩ := hB
    generalize 100 * (hR + z % 5342931457063200) / 5342931457063200 = u at *
    generalize 100 * (hR + z % 5342931457063200) % 5342931457063200 = v at *
    generalize (100 + p) * B / 5342931457063200 = bw at *
    generalize (100 + p) * B % 5342931457063200 = br at *
    have cLt : (lI ((100 * (hW + vW z) + u : Nat) : Int) < J 33 10) ↔ 100 * (hW + vW z) + u < bw := by rw [hB1, lI_lt (by omega) (by omega)]; omega
    have cEq : (lI ((100 * (hW + vW z) + u : Nat) : Int) = J 33 10) ↔ 100 * (hW + vW z) + u = bw := by rw [hB1, lI_inj (by omega) (by omega)]; omega
    have cR : (J 33 11 < lI ((v : Nat) : Int)) ↔ br < v := by rw [hB2, lI_lt (by omega) (by omega)]; omega
    refine w_CU_countTail_0 (by rw [eat]; exact vp_in_nI (by omega) (by omega)) (fun _ a => w_CU_countTail_100 ?_) (fun _ a b => w_CU_countTail_104 ?_) (fun _ a b e => w_CU_countTail_104 ?_) (fun _ a b e => w_CU_countTail_100 ?_) (fun c => absurd c hne)
    · rw [e42, e43, eW] at a
      rw [if_pos (hlex.mpr (Or.inl (cLt.mp a)))] at hq; exact hq
    · rw [e42, e43, eW] at a b
      rw [if_neg (fun h => by rcases hlex.mp h with h | h; (· exact a (cLt.mpr h)); (· exact b (cEq.mpr h.1)))] at hq; exact hq
    · rw [e42, e43, eW] at a b
      rw [e43, eR] at e
      have := cR.mp e
      rw [if_neg (fun h => by rcases hlex.mp h with h | h; (· exact a (cLt.mpr h)); (· omega))] at hq; exact hq
    · rw [e42, e43, eW] at a b
      rw [e43, eR] at e
      have : ¬ br < v := fun h => e (cR.mpr h)
      rw [if_pos (hlex.mpr (Or.inr ⟨cEq.mp b, by omega⟩))] at hq; exact hq
end
