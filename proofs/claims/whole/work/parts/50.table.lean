/-! ===== the class's table of cuts ===== -/
abbrev EN : Type := Nat × Nat × Nat
abbrev TB : Type := Nat → Nat → Nat → Option EN
def ix (e k a : Nat) : Nat := e * 287 + k * 41 + a
theorem ix_inj {e k a e' k' a' : Nat} (hk : k ≤ 6) (ha : a ≤ 40) (hk' : k' ≤ 6) (ha' : a' ≤ 40) (h : ix e k a = ix e' k' a') : e = e' ∧ k = k' ∧ a = a' := by unfold ix at h; omega
theorem at_ix (e k a : Nat) : f_CU_at (nI e) (nI k) (nI a) = nI (ix e k a) := by
  unfold f_CU_at ix
  rw [show (287 : Int32) = nI 287 from rfl, show (41 : Int32) = nI 41 from rfl, show nI e * nI 287 = nI (e * 287) from (Int32.ofNat_mul _ _).symm, show nI k * nI 41 = nI (k * 41) from (Int32.ofNat_mul _ _).symm, nI_add, nI_add]
theorem ix_lt {e k a : Nat} (he : e ≤ 2) (hk : k ≤ 6) (ha : a ≤ 40) : ix e k a < 861 := by unfold ix; omega
def enc (o : Option EN) (k x : Nat) (I : MI) (J : MJ) : Prop := match o with
  | none => J 42 x = -1
  | some t => J 42 x = lI ((t.1 / 5342931457063200 : Nat) : Int) ∧ J 43 x = lI ((t.1 % 5342931457063200 : Nat) : Int) ∧ I 44 x = nI t.2.1 ∧ (1 ≤ k → I 45 x = nI t.2.2)
def okN (e k : Nat) (t : EN) : Prop := t.1 ≤ k * 53429314570632000000000000000 ∧ t.2.1 < 40 ^ e ∧ t.2.2 ≤ 40
def TT (q : Nat) (T : TB) (I : MI) (J : MJ) : Prop := ∀ e k a, e ≤ q → k ≤ 6 → a ≤ 40 → enc (T e k a) k (ix e k a) I J
def okTB (T : TB) : Prop := ∀ e k a t, T e k a = some t → okN e k t
theorem TT.of {q : Nat} {T : TB} {I I' : MI} {J J' : MJ} (h : TT q T I J) (h4 : I' 44 = I 44) (h5 : I' 45 = I 45) (h2 : J' 42 = J 42) (h3 : J' 43 = J 43) : TT q T I' J' := by
  intro e k a he hk ha
  have := h e k a he hk ha
  unfold enc at this ⊢
  rw [h4, h5, h2, h3]; exact this
def updT (T : TB) (e k a : Nat) (n : EN) : TB := fun e' k' a' => if e' = e ∧ k' = k ∧ a' = a then some n else T e' k' a'
def keepE (o : Option EN) (n : EN) : EN := match o with
  | none => n
  | some o => if n.1 < o.1 ∨ (n.1 = o.1 ∧ n.2.1 < o.2.1) then n else o
/-- what offers may change -/
def FO (I : MI) (J : MJ) (I' : MI) (J' : MJ) : Prop := (∀ a, a ≠ 44 → a ≠ 45 → I' a = I a) ∧ ∀ a, a ≠ 42 → a ≠ 43 → J' a = J a
theorem FO.rf {I : MI} {J : MJ} : FO I J I J := ⟨fun _ _ _ => rfl, fun _ _ _ => rfl⟩
theorem FO.tr {I I' I'' : MI} {J J' J'' : MJ} (h : FO I J I' J') (g : FO I' J' I'' J'') : FO I J I'' J'' := ⟨fun a h1 h2 => (g.1 a h1 h2).trans (h.1 a h1 h2), fun a h1 h2 => (g.2 a h1 h2).trans (h.2 a h1 h2)⟩
theorem pow40 {e : Nat} (h : e ≤ 2) : 40 ^ e ≤ 1600 := by
  rcases (show e = 0 ∨ e = 1 ∨ e = 2 by omega) with rfl | rfl | rfl <;> decide
theorem TT.put {q : Nat} {T : TB} {I : MI} {J : MJ} (h : TT q T I J) {e k a : Nat} (he : e ≤ q) (hk : k ≤ 6) (ha : a ≤ 40) {n : EN} : TT q (updT T e k a n) (u2 (u2 I 44 (ix e k a) (nI n.2.1)) 45 (ix e k a) (nI n.2.2)) (u2 (u2 J 42 (ix e k a) (lI ((n.1 / 5342931457063200 : Nat) : Int))) 43 (ix e k a) (lI ((n.1 % 5342931457063200 : Nat) : Int))) := by
  intro e' k' a' he' hk' ha'
  unfold updT
  by_cases q1 : e' = e ∧ k' = k ∧ a' = a
  · obtain ⟨rfl, rfl, rfl⟩ := q1
    rw [if_pos ⟨rfl, rfl, rfl⟩]
    refine ⟨?_, u2_s, ?_, fun _ => u2_s⟩
    · rw [u2_o (by decide), u2_s]
    · rw [u2_o (by decide), u2_s]
  · rw [if_neg q1]
    have hne : ix e' k' a' ≠ ix e k a := fun c => q1 (ix_inj hk' ha' hk ha c)
    have := h e' k' a' he' hk' ha'
    unfold enc at this ⊢
    rw [u2_o (show (42 : Nat) ≠ 43 by decide), u2_k hne, u2_k hne, u2_o (show (43 : Nat) ≠ 42 by decide), u2_o (show (44 : Nat) ≠ 45 by decide), u2_k hne, u2_k hne, u2_o (show (45 : Nat) ≠ 44 by decide)]
    exact this
section
variable {G : GC} {d : Nat} {P : PT} {I : MI} {J : MJ}
theorem c_NN : (5342931457063200 : Int64) = lI ((5342931457063200 : Nat) : Int) := rfl
/-- one entry against a new one -/
theorem sp_keepIfBetter {q : Nat} {T : TB} {e k a e2 k2 a2 nx pv wh : Nat} {t : EN} (hq2 : q ≤ 2) (hT : TT q T I J) (hok : okTB T) (he : e ≤ q) (hk : k ≤ 6) (ha : a ≤ 40) (he2 : e2 ≤ q) (hk2 : k2 ≤ 6) (ha2 : a2 ≤ 40) (ht : T e2 k2 a2 = some t) (hpv : pv ≤ 53429314570632000000000000000) (hwh : wh ≤ 100000) (hnx : nx ≤ 40) (hq : ∀ I' J', FO I J I' J' → TT q (updT T e k a (keepE (T e k a) (pv + t.1, wh + t.2.1, nx))) I' J' → P none I' J') : Ct G (d + 1) m_CU_keepIfBetter [.ref 33, .int (nI (ix e k a)), .int (nI (ix e2 k2 a2)), .long (lI ((pv / 5342931457063200 : Nat) : Int)), .long (lI ((pv % 5342931457063200 : Nat) : Int)), .int (nI wh), .int (nI nx)] P I J := by
  have hx := ix_lt (e := e) (k := k) (a := a) (by omega) hk ha
  have hy := ix_lt (e := e2) (k := k2) (a := a2) (by omega) hk2 ha2
  have ex : (nI (ix e k a)).toNatClampNeg = ix e k a := nI_clamp (by omega)
  have ey : (nI (ix e2 k2 a2)).toNatClampNeg = ix e2 k2 a2 := nI_clamp (by omega)
  have htl := hT e2 k2 a2 he2 hk2 ha2
  rw [ht] at htl
  obtain ⟨t1, t2, t3, -⟩ := htl
  obtain ⟨n1, n2, -⟩ := hok e2 k2 a2 t ht
  have hp2 := pow40 (show e2 ≤ 2 by omega)
  have hkk : k2 * 53429314570632000000000000000 ≤ 6 * 53429314570632000000000000000 := Nat.mul_le_mul_right _ hk2
  generalize hnew : ((pv + t.1, wh + t.2.1, nx) : EN) = new at hq
  have w1 : new.1 = pv + t.1 := by rw [← hnew]
  have w2 : new.2.1 = wh + t.2.1 := by rw [← hnew]
  have w3 : new.2.2 = nx := by rw [← hnew]
  have e44 : nI wh + I 44 (ix e2 k2 a2) = nI new.2.1 := by rw [t3, nI_add, w2]
  have main : Go G (fr G m_CU_keepIfBetter (d + 1) P) 44 [some (.ref 33), some (.int (nI (ix e k a))), some (.int (nI (ix e2 k2 a2))), none, none, none, none, some (.int (nI wh)), some (.int (nI nx)), some (.long (lI ((new.1 / 5342931457063200 : Nat) : Int))), none, some (.long (lI ((new.1 % 5342931457063200 : Nat) : Int))), none, none] [] I J := by
    have put : keepE (T e k a) new = new → Go G (fr G m_CU_keepIfBetter (d + 1) P) 83 [some (.ref 33), some (.int (nI (ix e k a))), none, none, none, none, none, none, some (.int (nI nx)), some (.long (lI ((new.1 / 5342931457063200 : Nat) : Int))), none, some (.long (lI ((new.1 % 5342931457063200 : Nat) : Int))), none, some (.int (nI new.2.1))] [] I J := by
      intro hke
      refine w_CU_keepIfBetter_83 (vp_in_nI (by omega) (by omega)) ?_
      rw [ex]
      rw [hke] at hq
      have := hT.put he hk ha (n := new)
      rw [w3] at this
      refine hq _ _ ⟨fun b h1 h2 => by rw [u2_o h2, u2_o h1], fun b h1 h2 => by rw [u2_o h2, u2_o h1]⟩ this
    have hhere := hT e k a he hk ha
    refine w_CU_keepIfBetter_44 (vp_in_nI (by omega) (by omega)) (vp_in_nI (by omega) (by omega)) (fun c => ?_) (fun c => ?_)
    · rw [ey, e44]
      refine put ?_
      cases ho : T e k a with
      | none => rfl
      | some o =>
        rw [ho] at hhere
        rw [ex, hhere.1] at c
        obtain ⟨o1, -, -⟩ := hok e k a o ho
        have hkk : k * 53429314570632000000000000000 ≤ 6 * 53429314570632000000000000000 := Nat.mul_le_mul_right _ hk
        rw [show (-1 : Int64) = lI (-1) from rfl, lI_inj (by omega) (by omega)] at c
        omega
    · rw [ey, e44]
      rw [ex] at c
      cases ho : T e k a with
      | none => rw [ho] at hhere; exact absurd hhere c
      | some o =>
        rw [ho] at hhere hq
        obtain ⟨h1, h2, h3, -⟩ := hhere
        obtain ⟨o1, o2, -⟩ := hok e k a o ho
        have hkk : k * 53429314570632000000000000000 ≤ 6 * 53429314570632000000000000000 := Nat.mul_le_mul_right _ hk
        have hp1 := pow40 (show e ≤ 2 by omega)
        rw [ho] at put
        have same : ¬ (new.1 < o.1 ∨ (new.1 = o.1 ∧ new.2.1 < o.2.1)) → P none I J := fun hn => by
          have hke : keepE (some o) new = o := by simp only [keepE, if_neg hn]
          rw [hke] at hq
          refine hq I J FO.rf ?_
          have : updT T e k a o = T := by
            funext e' k' a'
            unfold updT
            by_cases q1 : e' = e ∧ k' = k ∧ a' = a
            · obtain ⟨rfl, rfl, rfl⟩ := q1; rw [if_pos ⟨rfl, rfl, rfl⟩, ho]
            · rw [if_neg q1]
          rw [this]; exact hT
        have better : (new.1 < o.1 ∨ (new.1 = o.1 ∧ new.2.1 < o.2.1)) → keepE (some o) new = new := fun hy => by simp only [keepE, if_pos hy]
        have q1 : (lI ((new.1 / 5342931457063200 : Nat) : Int) = J 42 (ix e k a)) ↔ new.1 / 5342931457063200 = o.1 / 5342931457063200 := by rw [h1, lI_inj (by omega) (by omega)]; omega
        have q2 : (lI ((new.1 % 5342931457063200 : Nat) : Int) = J 43 (ix e k a)) ↔ new.1 % 5342931457063200 = o.1 % 5342931457063200 := by rw [h2, lI_inj (by omega) (by omega)]; omega
        have q3 : (J 42 (ix e k a) ≤ lI ((new.1 / 5342931457063200 : Nat) : Int)) ↔ o.1 / 5342931457063200 ≤ new.1 / 5342931457063200 := by rw [h1, lI_le (by omega) (by omega)]; omega
        have q4 : (J 43 (ix e k a) ≤ lI ((new.1 % 5342931457063200 : Nat) : Int)) ↔ o.1 % 5342931457063200 ≤ new.1 % 5342931457063200 := by rw [h2, lI_le (by omega) (by omega)]; omega
        have q5 : (I 44 (ix e k a) ≤ nI new.2.1) ↔ o.2.1 ≤ new.2.1 := by rw [h3]; exact nI_leI (by omega) (by omega)
        have z01 : ¬ (1 : Int32) = 0 := by decide
        refine Ct.ofGo [some (.ref 33), some (.int (nI (ix e k a))), some (.long (lI ((new.1 / 5342931457063200 : Nat) : Int))), none, some (.long (lI ((new.1 % 5342931457063200 : Nat) : Int))), none, some (.int (nI new.2.1))] (by decide +kernel) rfl (Nat.le_of_ble_eq_true rfl) (w_CU_isBetter_0 (vp_in_nI (by omega) (by omega)) (fun a1 a2 a3 => ?_) (fun a1 a2 a3 => ?_) (fun a1 a2 a3 => ?_) (fun a1 a2 a3 => ?_) (fun a1 a2 => ?_) (fun a1 a2 => ?_))
        · rw [ex] at a1 a2 a3
          rw [q1] at a1; rw [q2] at a2; rw [q5] at a3
          exact w_CU_keepIfBetter_79 (fun c => absurd rfl c) (fun _ => same (by omega))
        · rw [ex] at a1 a2 a3
          rw [q1] at a1; rw [q2] at a2; rw [q5] at a3
          exact w_CU_keepIfBetter_79 (fun _ => put (better (by omega))) (fun c => absurd c z01)
        · rw [ex] at a1 a2 a3
          rw [q1] at a1; rw [q2] at a2; rw [q4] at a3
          exact w_CU_keepIfBetter_79 (fun c => absurd rfl c) (fun _ => same (by omega))
        · rw [ex] at a1 a2 a3
          rw [q1] at a1; rw [q2] at a2; rw [q4] at a3
          exact w_CU_keepIfBetter_79 (fun _ => put (better (by omega))) (fun c => absurd c z01)
        · rw [ex] at a1 a2
          rw [q1] at a1; rw [q3] at a2
          exact w_CU_keepIfBetter_79 (fun c => absurd rfl c) (fun _ => same (by omega))
        · rw [ex] at a1 a2
          rw [q1] at a1; rw [q3] at a2
          exact w_CU_keepIfBetter_79 (fun _ => put (better (by omega))) (fun c => absurd c z01)
  refine Ct.ofGo [some (.ref 33), some (.int (nI (ix e k a))), some (.int (nI (ix e2 k2 a2))), some (.long (lI ((pv / 5342931457063200 : Nat) : Int))), none, some (.long (lI ((pv % 5342931457063200 : Nat) : Int))), none, some (.int (nI wh)), some (.int (nI nx)), none, none, none, none, none] (by decide +kernel) rfl (Nat.le_of_ble_eq_true rfl) (w_CU_keepIfBetter_0 (vp_in_nI (by omega) (by omega)) (fun c => ?_) (fun c => ?_))
  · rw [ey, t2, lI_add, c_NN, lI_lt (by omega) (by omega)] at c
    rw [ey, t1, t2, lI_add, lI_add]
    have z1 : ((pv / 5342931457063200 : Nat) : Int) + ((t.1 / 5342931457063200 : Nat) : Int) = ((new.1 / 5342931457063200 : Nat) : Int) := by rw [w1]; omega
    have z2 : ((pv % 5342931457063200 : Nat) : Int) + ((t.1 % 5342931457063200 : Nat) : Int) = ((new.1 % 5342931457063200 : Nat) : Int) := by rw [w1]; omega
    rw [z1, z2]; exact main
  · rw [ey, t2, lI_add, c_NN, lI_lt (by omega) (by omega)] at c
    rw [ey, t1, t2, lI_add, lI_add, c_NN, lI_sub, show (1 : Int64) = lI 1 from rfl, lI_add]
    have z1 : ((pv / 5342931457063200 : Nat) : Int) + ((t.1 / 5342931457063200 : Nat) : Int) + 1 = ((new.1 / 5342931457063200 : Nat) : Int) := by rw [w1]; omega
    have z2 : ((pv % 5342931457063200 : Nat) : Int) + ((t.1 % 5342931457063200 : Nat) : Int) - ((5342931457063200 : Nat) : Int) = ((new.1 % 5342931457063200 : Nat) : Int) := by rw [w1]; omega
    rw [z1, z2]; exact main
end
/-- a stretch ahead of all that can stand behind it: where S holds already -/
def offD (q most frm to e pv wh : Nat) (S : Nat → Nat → Bool) (T : TB) : TB := fun e' k' a =>
  if a = frm ∧ 1 ≤ k' ∧ k' ≤ most ∧ e ≤ e' ∧ e' ≤ q ∧ S (e' - e) k' = true then
    (match T (e' - e) (k' - 1) (to + 1) with
    | none => T e' k' a
    | some t => some (keepE (T e' k' a) (pv + t.1, wh * 40 ^ (e' - e) + t.2.1, to + 1)))
  else T e' k' a
def offT (q most frm to e pv wh : Nat) (T : TB) : TB := offD q most frm to e pv wh (fun _ _ => true) T
theorem offD_o {q most frm to e pv wh : Nat} {S : Nat → Nat → Bool} {T : TB} {e' k' a : Nat} (h : a ≠ frm) : offD q most frm to e pv wh S T e' k' a = T e' k' a := by
  unfold offD; exact if_neg (fun c => h c.1)
theorem offD_n {q most frm to e pv wh : Nat} {S : Nat → Nat → Bool} {T : TB} {e' k' a : Nat} (h : S (e' - e) k' = false) : offD q most frm to e pv wh S T e' k' a = T e' k' a := by
  unfold offD; exact if_neg (fun c => by rw [h] at c; exact absurd c.2.2.2.2.2 (by decide))
theorem okTB_off {q most frm to e pv wh : Nat} {S : Nat → Nat → Bool} {T : TB} (h : okTB T) (hpv : pv ≤ 53429314570632000000000000000) (hwh : wh < 40 ^ e) (hto : to < 40) : okTB (offD q most frm to e pv wh S T) := by
  intro e' k' a t ht
  unfold offD at ht
  split at ht
  · rename_i hc
    split at ht
    · exact h e' k' a t ht
    · rename_i t0 ht0
      obtain ⟨a1, a2, a3⟩ := h _ _ _ t0 ht0
      have hnew : okN e' k' (pv + t0.1, wh * 40 ^ (e' - e) + t0.2.1, to + 1) := by
        refine ⟨?_, ?_, by show to + 1 ≤ 40; omega⟩
        · show pv + t0.1 ≤ _
          have : (k' - 1) * 53429314570632000000000000000 + 53429314570632000000000000000 = k' * 53429314570632000000000000000 := by
            have e1 : k' = k' - 1 + 1 := by omega
            conv => rhs; rw [e1, Nat.add_mul, Nat.one_mul]
          omega
        · show wh * 40 ^ (e' - e) + t0.2.1 < _
          have h1 : (wh + 1) * 40 ^ (e' - e) ≤ 40 ^ e * 40 ^ (e' - e) := Nat.mul_le_mul_right _ hwh
          rw [← Nat.pow_add, show e + (e' - e) = e' by omega, Nat.add_mul, Nat.one_mul] at h1
          omega
      have e2 : keepE (T e' k' a) (pv + t0.1, wh * 40 ^ (e' - e) + t0.2.1, to + 1) = t := Option.some.inj ht
      rw [← e2]
      cases ho : T e' k' a with
      | none => exact hnew
      | some o =>
        simp only [keepE]
        split
        · exact hnew
        · exact h _ _ _ o ho
  · exact h e' k' a t ht
section
variable {G : GC} {d : Nat} {P : PT} {I : MI} {J : MJ}
theorem sc_div {n b : Nat} (hb : 0 < b) (hd : b ∣ 5342931457063200) : n * (5342931457063200 / b) / 5342931457063200 = n / b ∧ n * (5342931457063200 / b) % 5342931457063200 = n % b * (5342931457063200 / b) := by
  obtain ⟨m, hm⟩ := hd
  have hm0 : 0 < m := Nat.pos_of_ne_zero fun h => by rw [h] at hm; omega
  have e : 5342931457063200 / b = m := by rw [hm]; exact Nat.mul_div_cancel_left _ hb
  rw [e]
  constructor
  · conv => lhs; rw [hm]
    exact Nat.mul_div_mul_right _ _ hm0
  · conv => lhs; rw [hm]
    exact Nat.mul_mod_mul_right _ _ _
theorem dvNN {n : Nat} (h1 : 1 ≤ n) (h2 : n ≤ 40) : n ∣ 5342931457063200 := by
  have h : ∀ n : Nat, n < 41 → 1 ≤ n → n ∣ 5342931457063200 := by decide +kernel
  exact h n (by omega) h1
theorem offk_loop {q most frm to e pv wh b : Nat} {T : TB} {I0 : MI} {J0 : MJ} (hq2 : q ≤ 2) (hm6 : most ≤ 6) (hfr : frm ≤ to) (hto : to < 40) (hbe : b + e ≤ q) (hok : okTB T) (hpv : pv ≤ 53429314570632000000000000000) (hwh : wh < 40 ^ e) (hq : ∀ I' J', FO I0 J0 I' J' → TT q (offD q most frm to e pv wh (fun b' _ => decide (b' < b + 1)) T) I' J' → Go G (fr G m_CU_offer (d + 2) P) 56 [some (.ref 33), some (.int (nI frm)), some (.int (nI to)), some (.int (nI e)), none, none, none, some (.int (nI wh)), some (.long (lI ((pv / 5342931457063200 : Nat) : Int))), none, some (.long (lI ((pv % 5342931457063200 : Nat) : Int))), none, some (.int (nI most)), some (.int (nI (40 ^ (b + 1)))), some (.int (nI (b + 1))), none, none] [] I' J') : ∀ (r k : Nat) (I : MI) (J : MJ), k + r = most + 1 → 1 ≤ k → FO I0 J0 I J → TT q (offD q most frm to e pv wh (fun b' k' => decide (b' < b ∨ (b' = b ∧ k' < k))) T) I J → Go G (fr G m_CU_offer (d + 2) P) 70 [some (.ref 33), some (.int (nI frm)), some (.int (nI to)), some (.int (nI e)), none, none, none, some (.int (nI wh)), some (.long (lI ((pv / 5342931457063200 : Nat) : Int))), none, some (.long (lI ((pv % 5342931457063200 : Nat) : Int))), none, some (.int (nI most)), some (.int (nI (40 ^ b))), some (.int (nI b)), some (.int (nI k)), none] [] I J := by
  have hpb := pow40 (show b ≤ 2 by omega)
  have hpe := pow40 (show e ≤ 2 by omega)
  intro r
  induction r with
  | zero =>
    intro k I J hr hk hF hT
    have hlt : nI most < nI k := nI_lt (by omega) (by omega)
    refine w_CU_offer_70 (fun _ => ?_) (fun c => absurd hlt c) (fun c => absurd hlt c) (fun c => absurd hlt c)
    rw [nI_1, show nI (40 ^ b) * 40 = nI (40 ^ (b + 1)) from by rw [Nat.pow_succ]; exact (Int32.ofNat_mul _ _).symm]
    refine hq I J hF ?_
    have : (offD q most frm to e pv wh (fun b' k' => decide (b' < b ∨ (b' = b ∧ k' < k))) T) = (offD q most frm to e pv wh (fun b' _ => decide (b' < b + 1)) T) := by
      funext e' k' a
      unfold offD
      by_cases c : a = frm ∧ 1 ≤ k' ∧ k' ≤ most ∧ e ≤ e' ∧ e' ≤ q ∧ decide (e' - e < b + 1) = true
      · rw [if_pos c, if_pos ⟨c.1, c.2.1, c.2.2.1, c.2.2.2.1, c.2.2.2.2.1, by have := c.2.2.2.2.2; simp only [decide_eq_true_eq] at this ⊢; have := c.2.2.1; omega⟩]
      · rw [if_neg c, if_neg (fun c' => c ⟨c'.1, c'.2.1, c'.2.2.1, c'.2.2.2.1, c'.2.2.2.2.1, by have := c'.2.2.2.2.2; simp only [decide_eq_true_eq] at this ⊢; omega⟩)]
    rw [this] at hT; exact hT
  | succ r ih =>
    intro k I J hr hk hF hT
    have hc : ¬ nI most < nI k := nI_nlt (by omega) (by omega)
    have ek : nI k - 1 = nI (k - 1) := by rw [show k = k - 1 + 1 by omega]; exact nI_pred _
    have eat : f_CU_at (nI b) (nI k - 1) (nI to + 1) = nI (ix b (k - 1) (to + 1)) := by rw [ek, nI_1, at_ix]
    have hxl := ix_lt (e := b) (k := k - 1) (a := to + 1) (by omega) (by omega) (by omega)
    have ex : (nI (ix b (k - 1) (to + 1))).toNatClampNeg = ix b (k - 1) (to + 1) := nI_clamp (by omega)
    have etail : offD q most frm to e pv wh (fun b' k' => decide (b' < b ∨ (b' = b ∧ k' < k))) T b (k - 1) (to + 1) = T b (k - 1) (to + 1) := offD_o (by omega)
    have ehere : offD q most frm to e pv wh (fun b' k' => decide (b' < b ∨ (b' = b ∧ k' < k))) T (b + e) k frm = T (b + e) k frm := offD_n (by simp)
    have htl := hT b (k - 1) (to + 1) (by omega) (by omega) (by omega)
    rw [etail] at htl
    have hokT : okTB (offD q most frm to e pv wh (fun b' k' => decide (b' < b ∨ (b' = b ∧ k' < k))) T) := okTB_off hok hpv hwh hto
    have cong : ∀ (o : TB), (∀ e' k' a, ¬ (e' = b + e ∧ k' = k ∧ a = frm) → o e' k' a = offD q most frm to e pv wh (fun b' k' => decide (b' < b ∨ (b' = b ∧ k' < k))) T e' k' a) → o (b + e) k frm = offD q most frm to e pv wh (fun b' k' => decide (b' < b ∨ (b' = b ∧ k' < k + 1))) T (b + e) k frm → o = offD q most frm to e pv wh (fun b' k' => decide (b' < b ∨ (b' = b ∧ k' < k + 1))) T := by
      intro o h1 h2
      funext e' k' a
      by_cases c : e' = b + e ∧ k' = k ∧ a = frm
      · obtain ⟨rfl, rfl, rfl⟩ := c; exact h2
      · rw [h1 e' k' a c]
        unfold offD
        by_cases c2 : a = frm ∧ 1 ≤ k' ∧ k' ≤ most ∧ e ≤ e' ∧ e' ≤ q ∧ decide (e' - e < b ∨ (e' - e = b ∧ k' < k)) = true
        · rw [if_pos c2, if_pos ⟨c2.1, c2.2.1, c2.2.2.1, c2.2.2.2.1, c2.2.2.2.2.1, by have := c2.2.2.2.2.2; simp only [decide_eq_true_eq] at this ⊢; omega⟩]
        · rw [if_neg c2, if_neg (fun c' => c2 ⟨c'.1, c'.2.1, c'.2.2.1, c'.2.2.2.1, c'.2.2.2.2.1, by have := c'.2.2.2.2.2; simp only [decide_eq_true_eq] at this ⊢; have := c'.1; have := c'.2.2.2.1; omega⟩)]
    have hcond : frm = frm ∧ 1 ≤ k ∧ k ≤ most ∧ e ≤ b + e ∧ b + e ≤ q ∧ decide (b + e - e < b ∨ (b + e - e = b ∧ k < k + 1)) = true := ⟨rfl, hk, by omega, by omega, hbe, by simp⟩
    refine w_CU_offer_70 (fun c => absurd c hc) (fun _ => by rw [eat]; exact vp_in_nI (by omega) (by omega)) (fun _ c => ?_) (fun _ c => ?_)
    · rw [eat, ex] at c
      refine w_CU_offer_133 ?_
      rw [nI_1]
      refine ih (k + 1) I J (by omega) (by omega) hF ?_
      have hnone : T b (k - 1) (to + 1) = none := by
        cases ht : T b (k - 1) (to + 1) with
        | none => rfl
        | some t =>
          rw [ht] at htl
          rw [htl.1] at c
          obtain ⟨o1, -, -⟩ := hok _ _ _ t ht
          have hkk : (k - 1) * 53429314570632000000000000000 ≤ 6 * 53429314570632000000000000000 := Nat.mul_le_mul_right _ (by omega)
          rw [show (-1 : Int64) = lI (-1) from rfl, lI_inj (by omega) (by omega)] at c
          omega
      have := cong _ (fun _ _ _ _ => rfl) (by
        rw [ehere]
        unfold offD
        rw [if_pos hcond, Nat.add_sub_cancel, hnone])
      rw [this] at hT; exact hT
    · rw [eat, ex] at c
      cases ht : T b (k - 1) (to + 1) with
      | none => rw [ht] at htl; exact absurd htl c
      | some t =>
        rw [eat, nI_add, at_ix, nI_1, show nI wh * nI (40 ^ b) = nI (wh * 40 ^ b) from (Int32.ofNat_mul _ _).symm]
        have hw2 : wh * 40 ^ b ≤ 100000 := by
          have h1 : (wh + 1) * 40 ^ b ≤ 40 ^ e * 40 ^ b := Nat.mul_le_mul_right _ hwh
          rw [← Nat.pow_add, Nat.add_mul, Nat.one_mul] at h1
          have := pow40 (show e + b ≤ 2 by omega)
          exact Nat.le_trans (Nat.le_trans (Nat.le_add_right _ _) h1) (by omega)
        refine sp_keepIfBetter hq2 hT hokT hbe (by omega) (by omega) (by omega) (by omega) (by omega) (etail.trans ht) hpv hw2 (by omega) (fun I' J' g1 g2 => w_CU_offer_133 ?_)
        rw [nI_1]
        refine ih (k + 1) I' J' (by omega) (by omega) (hF.tr g1) ?_
        rw [ehere] at g2
        have := cong (updT (offD q most frm to e pv wh (fun b' k' => decide (b' < b ∨ (b' = b ∧ k' < k))) T) (b + e) k frm (keepE (T (b + e) k frm) (pv + t.1, wh * 40 ^ b + t.2.1, to + 1))) (fun e' k' a hn => by unfold updT; rw [if_neg hn]) (by
          unfold updT
          rw [if_pos ⟨rfl, rfl, rfl⟩]
          unfold offD
          rw [if_pos hcond, Nat.add_sub_cancel, ht])
        rw [this] at g2; exact g2
theorem offb_loop {q most frm to e pv wh : Nat} {T : TB} {I0 : MI} {J0 : MJ} (hq2 : q ≤ 2) (hm6 : most ≤ 6) (hfr : frm ≤ to) (hto : to < 40) (heq : e ≤ q) (h9 : I0 33 9 = nI q) (hok : okTB T) (hpv : pv ≤ 53429314570632000000000000000) (hwh : wh < 40 ^ e) (hq : ∀ I' J', FO I0 J0 I' J' → TT q (offT q most frm to e pv wh T) I' J' → P none I' J') : ∀ (r b : Nat) (I : MI) (J : MJ), b + e + r = q + 1 → FO I0 J0 I J → TT q (offD q most frm to e pv wh (fun b' _ => decide (b' < b)) T) I J → Go G (fr G m_CU_offer (d + 2) P) 56 [some (.ref 33), some (.int (nI frm)), some (.int (nI to)), some (.int (nI e)), none, none, none, some (.int (nI wh)), some (.long (lI ((pv / 5342931457063200 : Nat) : Int))), none, some (.long (lI ((pv % 5342931457063200 : Nat) : Int))), none, some (.int (nI most)), some (.int (nI (40 ^ b))), some (.int (nI b)), none, none] [] I J := by
  intro r
  induction r with
  | zero =>
    intro b I J hr hF hT
    have hlt : I 33 9 < nI b + nI e := by rw [hF.1 33 (by decide) (by decide), h9, nI_add]; exact nI_lt (by omega) (by omega)
    refine w_CU_offer_56 (fun _ => hq I J hF ?_) (fun c => absurd hlt c)
    have : (offD q most frm to e pv wh (fun b' _ => decide (b' < b)) T) = offT q most frm to e pv wh T := by
      funext e' k' a
      unfold offT offD
      by_cases c : a = frm ∧ 1 ≤ k' ∧ k' ≤ most ∧ e ≤ e' ∧ e' ≤ q ∧ true = true
      · rw [if_pos c, if_pos ⟨c.1, c.2.1, c.2.2.1, c.2.2.2.1, c.2.2.2.2.1, by simp only [decide_eq_true_eq]; have := c.2.2.2.1; have := c.2.2.2.2.1; omega⟩]
      · rw [if_neg c, if_neg (fun c' => c ⟨c'.1, c'.2.1, c'.2.2.1, c'.2.2.2.1, c'.2.2.2.2.1, rfl⟩)]
    rw [this] at hT; exact hT
  | succ r ih =>
    intro b I J hr hF hT
    have hc : ¬ I 33 9 < nI b + nI e := by rw [hF.1 33 (by decide) (by decide), h9, nI_add]; exact nI_nlt (by omega) (by omega)
    refine w_CU_offer_56 (fun c => absurd c hc) (fun _ => ?_)
    have hgo := offk_loop (G := G) (d := d) (P := P) (q := q) (most := most) (frm := frm) (to := to) (e := e) (pv := pv) (wh := wh) (b := b) (T := T) (I0 := I0) (J0 := J0) hq2 hm6 hfr hto (by omega) hok hpv hwh (fun I' J' g1 g2 => ih (b + 1) I' J' (by omega) g1 g2) most 1 I J (by omega) (by omega) hF
    refine hgo ?_
    have : (offD q most frm to e pv wh (fun b' k' => decide (b' < b ∨ (b' = b ∧ k' < 1))) T) = offD q most frm to e pv wh (fun b' _ => decide (b' < b)) T := by
      funext e' k' a
      unfold offD
      by_cases c : a = frm ∧ 1 ≤ k' ∧ k' ≤ most ∧ e ≤ e' ∧ e' ≤ q ∧ decide (e' - e < b) = true
      · rw [if_pos c, if_pos ⟨c.1, c.2.1, c.2.2.1, c.2.2.2.1, c.2.2.2.2.1, by have := c.2.2.2.2.2; simp only [decide_eq_true_eq] at this ⊢; omega⟩]
      · rw [if_neg c, if_neg (fun c' => c ⟨c'.1, c'.2.1, c'.2.2.1, c'.2.2.2.1, c'.2.2.2.2.1, by have := c'.2.2.2.2.2; simp only [decide_eq_true_eq] at this ⊢; have := c'.2.1; omega⟩)]
    rw [this]; exact hT
/-- a stretch is offered -/
theorem sp_offer {q K frm to e n b wh : Nat} {T : TB} (hq2 : q ≤ 2) (hK : 1 ≤ K) (hK6 : K ≤ 6) (hfr : frm ≤ to) (hto : to < 40) (heq : e ≤ q) (h8 : I 33 8 = nI K) (h9 : I 33 9 = nI q) (hok : okTB T) (hn : n ≤ 1000000000000) (hb : 1 ≤ b ∧ b ≤ 40) (hwh : wh < 40 ^ e) (hT : TT q T I J) (hq : ∀ I' J', FO I J I' J' → TT q (offT q (if frm = 0 then K else K - 1) frm to e (n * (5342931457063200 / b)) wh T) I' J' → P none I' J') : Ct G (d + 2) m_CU_offer [.ref 33, .int (nI frm), .int (nI to), .int (nI e), .long (lI n), .int (nI b), .int (nI wh)] P I J := by
  have hbn : (nI b).toInt64 = lI b := nI_lI (by omega)
  have hge : (1 : Int32) ≤ nI b := nI_le (a := 1) (by omega) (by omega)
  have hne : ¬ lI (b : Int) = 0 := fun c => by have := (ln_0 (by omega)).mp c; omega
  obtain ⟨s1, s2⟩ := sc_div (n := n) (b := b) (by omega) (dvNN hb.1 hb.2)
  have ediv : (5342931457063200 : Int64) / lI b = lI ((5342931457063200 / b : Nat) : Int) := by rw [c_NN]; exact ln_div (by omega) (by omega) (by omega)
  have e8 : lI n / lI b = lI ((n * (5342931457063200 / b) / 5342931457063200 : Nat) : Int) := by rw [ln_div (by omega) (by omega) (by omega), s1]
  have e10 : (lI n - lI n / lI b * lI b) * (5342931457063200 / lI b) = lI ((n * (5342931457063200 / b) % 5342931457063200 : Nat) : Int) := by rw [ln_rem (by omega) (by omega) (by omega), ediv, lI_mul, s2]; congr 1
  have hpv : n * (5342931457063200 / b) ≤ 53429314570632000000000000000 := by
    have : 5342931457063200 / b ≤ 5342931457063200 := Nat.div_le_self _ _
    exact Nat.le_trans (Nat.mul_le_mul hn this) (by decide)
  have go : ∀ most : Nat, most = (if frm = 0 then K else K - 1) → Go G (fr G m_CU_offer (d + 2) P) 48 [some (.ref 33), some (.int (nI frm)), some (.int (nI to)), some (.int (nI e)), none, none, none, some (.int (nI wh)), some (.long (lI n / lI b)), none, some (.long ((lI n - lI n / lI b * lI b) * (5342931457063200 / lI b))), none, none, none, none, none, none] [.int (nI most)] I J := by
    intro most hmo
    rw [← hmo] at hq
    rw [e10, e8]
    refine w_CU_offer_48 ?_
    have hm6 : most ≤ 6 := by rw [hmo]; split <;> omega
    refine offb_loop hq2 hm6 hfr hto heq h9 hok hpv hwh hq (q + 1 - e) 0 I J (by omega) FO.rf ?_
    have : (offD q most frm to e (n * (5342931457063200 / b)) wh (fun b' _ => decide (b' < 0)) T) = T := by
      funext e' k' a
      exact offD_n (by simp)
    rw [this]; exact hT
  refine Ct.ofGo [some (.ref 33), some (.int (nI frm)), some (.int (nI to)), some (.int (nI e)), some (.long (lI n)), none, some (.int (nI b)), some (.int (nI wh)), none, none, none, none, none, none, none, none, none] (by decide +kernel) rfl (Nat.le_of_ble_eq_true rfl) (w_CU_offer_0 (fun _ => by rw [hbn]; exact hne) (fun _ c => ?_) (fun _ c => ?_) (fun c => absurd hge c))
  · have hf0 : ¬ frm = 0 := fun h => c (by rw [h]; rfl)
    rw [hbn, h8, show nI K - 1 = nI (K - 1) from by rw [show K = K - 1 + 1 by omega]; exact nI_pred _]
    exact go (K - 1) (by rw [if_neg hf0])
  · have hf0 : frm = 0 := by
      rw [show (0 : Int32) = nI 0 from rfl] at c
      exact (nI_eq (by omega) (by omega)).mp c
    rw [hbn, h8]
    exact go K (by rw [if_pos hf0])
end
