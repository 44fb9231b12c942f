/-! ===== the best limit ===== -/
def blr (tg sl wy : Int32) (D : Nat) (a : Int32 × Int32 × Int32) (p : Nat × Int32) : Int32 × Int32 × Int32 :=
  if D ≤ p.1 then (f_AL_sumWith a.1 p.2 tg sl wy, a.2.1, f_JM_max_II a.2.2 (f_AL_sumWith a.1 p.2 tg sl wy)) else (f_AL_sumWith a.1 p.2 tg sl wy, f_JM_max_II a.2.1 (f_AL_sumWith a.1 p.2 tg sl wy), a.2.2)
def brn (tg sl wy : Int32) (D : Nat) (l : List (Nat × Int32)) : Int32 × Int32 × Int32 := l.foldl (blr tg sl wy D) (0, 0, 0)
theorem brn_app (tg sl wy : Int32) (D : Nat) (l : List (Nat × Int32)) (p : Nat × Int32) : brn tg sl wy D (l ++ [p]) = blr tg sl wy D (brn tg sl wy D l) p := by simp [brn]
def bestL (a : Int32 × Int32 × Int32) : Int32 := if a.2.2 < a.2.1 + 1 then -1 else if 2000 < a.2.1 + 1 then -1 else a.2.1 + 1
theorem max_lt {a b c : Int32} : f_JM_max_II a b < c ↔ a < c ∧ b < c := by
  unfold f_JM_max_II
  by_cases h : a < b
  · rw [if_pos h]; exact ⟨fun q => ⟨Int32.lt_trans h q, q⟩, fun q => q.2⟩
  · rw [if_neg h]; exact ⟨fun q => ⟨q, Int32.lt_of_le_of_lt (Int32.not_lt.mp h) q⟩, fun q => q.1⟩
theorem max_toInt (a b : Int32) : (f_JM_max_II a b).toInt = max a.toInt b.toInt := by
  unfold f_JM_max_II
  by_cases h : a < b
  · rw [if_pos h]; rw [ti_lt] at h; omega
  · rw [if_neg h]; rw [ti_lt] at h; omega
/-- a row, a target and a slack as they may be -/
def okW (tg sl : Int32) : Prop := -1000 ≤ tg.toInt ∧ tg.toInt ≤ 1000 ∧ 0 ≤ sl.toInt ∧ sl.toInt ≤ 1000
theorem sw_rng {s v tg sl wy : Int32} (hw : okW tg sl) (hv : -1000 ≤ v.toInt ∧ v.toInt ≤ 1000) (hs : 0 ≤ s.toInt ∧ s.toInt ≤ 100000) : 0 ≤ (f_AL_sumWith s v tg sl wy).toInt ∧ (f_AL_sumWith s v tg sl wy).toInt ≤ s.toInt + 2000 := by
  obtain ⟨w1, w2, w3, w4⟩ := hw
  have z0 : (0 : Int32).toInt = 0 := rfl
  by_cases h : wy = 0
  · rw [sw_0 h]
    have e1 : (v - tg).toInt = v.toInt - tg.toInt := ti_sub (by omega) (by omega)
    have e2 : (v - tg - sl).toInt = v.toInt - tg.toInt - sl.toInt := by rw [ti_sub (by omega) (by omega), e1]
    have e3 : (s + (v - tg - sl)).toInt = s.toInt + (v.toInt - tg.toInt - sl.toInt) := by rw [ti_add (by omega) (by omega), e2]
    split
    · rename_i q; rw [ti_le, z0, e3] at q; rw [e3]; omega
    · rw [z0]; omega
  · rw [sw_1 h]
    have e1 : (tg - v).toInt = tg.toInt - v.toInt := ti_sub (by omega) (by omega)
    have e2 : (tg - v - sl).toInt = tg.toInt - v.toInt - sl.toInt := by rw [ti_sub (by omega) (by omega), e1]
    have e3 : (s + (tg - v - sl)).toInt = s.toInt + (tg.toInt - v.toInt - sl.toInt) := by rw [ti_add (by omega) (by omega), e2]
    split
    · rename_i q; rw [ti_le, z0, e3] at q; rw [e3]; omega
    · rw [z0]; omega
theorem brn_rng {tg sl wy : Int32} {D : Nat} (hw : okW tg sl) : ∀ (l : List (Nat × Int32)), l.length ≤ 40 → (∀ p ∈ l, -1000 ≤ p.2.toInt ∧ p.2.toInt ≤ 1000) → (0 ≤ (brn tg sl wy D l).1.toInt ∧ (brn tg sl wy D l).1.toInt ≤ 2000 * l.length) ∧ (0 ≤ (brn tg sl wy D l).2.1.toInt ∧ (brn tg sl wy D l).2.1.toInt ≤ 2000 * l.length) ∧ (0 ≤ (brn tg sl wy D l).2.2.toInt ∧ (brn tg sl wy D l).2.2.toInt ≤ 2000 * l.length) := by
  refine rev_ind ?_ ?_
  · intro _ _
    have z0 : (0 : Int32).toInt = 0 := rfl
    show (0 ≤ (0 : Int32).toInt ∧ (0 : Int32).toInt ≤ _) ∧ (0 ≤ (0 : Int32).toInt ∧ (0 : Int32).toInt ≤ _) ∧ (0 ≤ (0 : Int32).toInt ∧ (0 : Int32).toInt ≤ _)
    rw [z0]; simp
  · intro l p ih h40 hv
    have hl : l.length + 1 ≤ 40 := by simpa using h40
    obtain ⟨a, b, c⟩ := ih (by omega) (fun q hq => hv q (List.mem_append_left _ hq))
    have hs := sw_rng (wy := wy) hw (hv p (by simp)) (s := (brn tg sl wy D l).1) ⟨a.1, by omega⟩
    rw [brn_app, List.length_append]
    unfold blr
    have hln : ([p] : List (Nat × Int32)).length = 1 := rfl
    rw [hln]
    split
    · dsimp only
      refine ⟨by omega, by omega, ?_⟩
      show 0 ≤ (f_JM_max_II (brn tg sl wy D l).2.2 (f_AL_sumWith (brn tg sl wy D l).1 p.2 tg sl wy)).toInt ∧ (f_JM_max_II (brn tg sl wy D l).2.2 (f_AL_sumWith (brn tg sl wy D l).1 p.2 tg sl wy)).toInt ≤ _
      rw [max_toInt]; omega
    · dsimp only
      refine ⟨by omega, ?_, by omega⟩
      show 0 ≤ (f_JM_max_II (brn tg sl wy D l).2.1 (f_AL_sumWith (brn tg sl wy D l).1 p.2 tg sl wy)).toInt ∧ (f_JM_max_II (brn tg sl wy D l).2.1 (f_AL_sumWith (brn tg sl wy D l).1 p.2 tg sl wy)).toInt ≤ _
      rw [max_toInt]; omega
theorem wrn_keep {tg sl li wy : Int32} {l : List (Nat × Int32)} {p : Nat × Int32} {x : Nat} (h : ¬ (wrn tg sl li wy l).2.1 x = 0) : ¬ (wrn tg sl li wy (l ++ [p])).2.1 x = 0 := by
  rw [wrn_app]; unfold stp
  split
  · exact h
  · show ¬ (if x = p.1 then (1 : Int32) else (wrn tg sl li wy l).2.1 x) = 0
    split
    · decide
    · exact h
theorem lim_inv {tg sl wy li : Int32} {D : Nat} (hli : 0 < li) : ∀ (l : List (Nat × Int32)), (∀ p ∈ l, p.1 < 40) → l.Pairwise (fun a b => a.1 < b.1) →
    ((brn tg sl wy D l).2.1 < li → (brn tg sl wy D l).2.2 < li → (wrn tg sl li wy l).1 = (brn tg sl wy D l).1 ∧ ∀ x, (wrn tg sl li wy l).2.1 x = 0) ∧ (li ≤ (brn tg sl wy D l).2.1 → ∃ x, x < D ∧ ¬ (wrn tg sl li wy l).2.1 x = 0) ∧ ((brn tg sl wy D l).2.1 < li → ∀ x, x < D → (wrn tg sl li wy l).2.1 x = 0) ∧ ((brn tg sl wy D l).2.1 < li → li ≤ (brn tg sl wy D l).2.2 → ∃ x, D ≤ x ∧ x < 40 ∧ ¬ (wrn tg sl li wy l).2.1 x = 0) ∧ ((∀ p ∈ l, p.1 < D) → (brn tg sl wy D l).2.2 = 0) := by
  refine rev_ind ?_ ?_
  · intro _ _
    refine ⟨fun _ _ => ⟨rfl, fun _ => rfl⟩, fun h => absurd hli (Int32.not_lt.mpr h), fun _ _ _ => rfl, fun _ h => absurd hli (Int32.not_lt.mpr h), fun _ => rfl⟩
  · intro l p ih h40 hs
    have hs' := (List.pairwise_append.mp hs)
    obtain ⟨ia, ib, ic, id', ie⟩ := ih (fun q hq => h40 q (List.mem_append_left _ hq)) hs'.1
    have hp40 : p.1 < 40 := h40 p (by simp)
    have hlt : ∀ q ∈ l, q.1 < p.1 := fun q hq => hs'.2.2 q hq p (by simp)
    have hw := wrn_app tg sl li wy l p
    by_cases hD : D ≤ p.1
    · have hb : brn tg sl wy D (l ++ [p]) = (f_AL_sumWith (brn tg sl wy D l).1 p.2 tg sl wy, (brn tg sl wy D l).2.1, f_JM_max_II (brn tg sl wy D l).2.2 (f_AL_sumWith (brn tg sl wy D l).1 p.2 tg sl wy)) := by rw [brn_app]; unfold blr; rw [if_pos hD]
      rw [hb]
      refine ⟨fun h1 h2 => ?_, fun h => ?_, fun h x hx => ?_, fun h1 h2 => ?_, fun h => absurd (h p (by simp)) (by omega)⟩
      · obtain ⟨h3, h4⟩ := max_lt.mp h2
        obtain ⟨e1, e2⟩ := ia h1 h3
        rw [hw]; unfold stp
        rw [e1, if_pos h4]; exact ⟨rfl, e2⟩
      · obtain ⟨x, hx, hne⟩ := ib h
        exact ⟨x, hx, wrn_keep hne⟩
      · have h0 := ic h x hx
        rw [hw]; unfold stp
        split
        · exact h0
        · show (if x = p.1 then (1 : Int32) else (wrn tg sl li wy l).2.1 x) = 0
          rw [if_neg (by omega)]; exact h0
      · by_cases q : li ≤ (brn tg sl wy D l).2.2
        · obtain ⟨x, a, b, c⟩ := id' h1 q
          exact ⟨x, a, b, wrn_keep c⟩
        · have h3 := Int32.not_le.mp q
          obtain ⟨e1, -⟩ := ia h1 h3
          have hge : ¬ f_AL_sumWith (brn tg sl wy D l).1 p.2 tg sl wy < li := fun h => absurd (max_lt.mpr ⟨h3, h⟩) (Int32.not_lt.mpr h2)
          refine ⟨p.1, hD, hp40, ?_⟩
          rw [hw]; unfold stp
          rw [e1, if_neg hge]
          show ¬ (if p.1 = p.1 then (1 : Int32) else _) = 0
          rw [if_pos rfl]; decide
    · have hD' : p.1 < D := by omega
      have h0 : (brn tg sl wy D l).2.2 = 0 := ie (fun q hq => by have := hlt q hq; omega)
      have h0l : (brn tg sl wy D l).2.2 < li := by rw [h0]; exact hli
      have hb : brn tg sl wy D (l ++ [p]) = (f_AL_sumWith (brn tg sl wy D l).1 p.2 tg sl wy, f_JM_max_II (brn tg sl wy D l).2.1 (f_AL_sumWith (brn tg sl wy D l).1 p.2 tg sl wy), (brn tg sl wy D l).2.2) := by rw [brn_app]; unfold blr; rw [if_neg hD]
      rw [hb]
      have hz : ∀ {x}, f_JM_max_II (brn tg sl wy D l).2.1 (f_AL_sumWith (brn tg sl wy D l).1 p.2 tg sl wy) < li → (wrn tg sl li wy (l ++ [p])).1 = f_AL_sumWith (brn tg sl wy D l).1 p.2 tg sl wy ∧ (wrn tg sl li wy (l ++ [p])).2.1 x = 0 := fun {x} h1 => by
        obtain ⟨h3, h4⟩ := max_lt.mp h1
        obtain ⟨e1, e2⟩ := ia h3 h0l
        rw [hw]; unfold stp
        rw [e1, if_pos h4]; exact ⟨rfl, e2 x⟩
      refine ⟨fun h1 _ => ⟨(hz (x := 0) h1).1, fun x => (hz h1).2⟩, fun h => ?_, fun h x _ => (hz h).2, fun _ h2 => absurd h0l (Int32.not_lt.mpr h2), fun _ => h0⟩
      by_cases q : li ≤ (brn tg sl wy D l).2.1
      · obtain ⟨x, hx, hne⟩ := ib q
        exact ⟨x, hx, wrn_keep hne⟩
      · have h3 := Int32.not_le.mp q
        obtain ⟨e1, -⟩ := ia h3 h0l
        have hge : ¬ f_AL_sumWith (brn tg sl wy D l).1 p.2 tg sl wy < li := fun h' => absurd (max_lt.mpr ⟨h3, h'⟩) (Int32.not_lt.mpr h)
        refine ⟨p.1, hD', ?_⟩
        rw [hw]; unfold stp
        rw [e1, if_neg hge]
        show ¬ (if p.1 = p.1 then (1 : Int32) else _) = 0
        rw [if_pos rfl]; decide
theorem ffr_iff {f : Nat → Int32} : ∀ (m i : Nat), i + m ≤ 40 → (¬ ffr f i m = -1 ↔ ∃ x, i ≤ x ∧ x < i + m ∧ ¬ f x = 0) := by
  intro m
  induction m with
  | zero => intro i _; exact ⟨fun h => absurd rfl h, fun ⟨x, h1, h2, _⟩ => by omega⟩
  | succ m ih =>
    intro i hi
    simp only [ffr]
    by_cases q : f i = 0
    · rw [if_pos q, ih (i + 1) (by omega)]
      constructor
      · rintro ⟨x, h1, h2, h3⟩; exact ⟨x, by omega, by omega, h3⟩
      · rintro ⟨x, h1, h2, h3⟩
        exact ⟨x, by rcases Nat.eq_or_lt_of_le h1 with e | e; (· subst e; exact absurd q h3); (· omega), by omega, h3⟩
    · rw [if_neg q]
      exact ⟨fun _ => ⟨i, by omega, by omega, q⟩, fun _ => nI_ne1 (by omega)⟩
theorem sum0 {f : Nat → Int32} (h01 : is01 f) : ∀ n, n ≤ 40 → ∃ c, c ≤ n ∧ sumTo f n = nI c ∧ (c = 0 ↔ ∀ x, x < n → f x = 0) := by
  intro n
  induction n with
  | zero => intro _; exact ⟨0, by omega, rfl, by simp⟩
  | succ n ih =>
    intro hn
    obtain ⟨c, h1, h2, h3⟩ := ih (by omega)
    rcases h01 n with q | q
    · refine ⟨c, by omega, by simp only [sumTo, q, h2]; simp, ?_⟩
      rw [h3]
      exact ⟨fun h x hx => by rcases Nat.lt_or_ge x n with e | e; (· exact h x e); (· rw [show x = n by omega]; exact q), fun h x hx => h x (by omega)⟩
    · refine ⟨c + 1, by omega, by simp only [sumTo, q, h2]; exact nI_1 c, ?_⟩
      exact ⟨fun h => by omega, fun h => by have := h n (by omega); rw [q] at this; exact absurd this (by decide)⟩
theorem sum0_iff {f : Nat → Int32} (h01 : is01 f) {n : Nat} (hn : n ≤ 40) : sumTo f n = 0 ↔ ∀ x, x < n → f x = 0 := by
  obtain ⟨c, h1, h2, h3⟩ := sum0 h01 n hn
  rw [h2, ← h3, show (0 : Int32) = nI 0 from rfl, nI_eq (by omega) (by omega)]
def limits (st : ST) (r tg sl wy dy : Int32) : Int32 :=
  if f_LB_isWatch r tg sl wy = 0 ∨ f_LB_isDay dy = 0 then -2 else bestL (brn tg sl wy dy.toNatClampNeg (ptl st.1 r.toNatClampNeg st.2.1))
theorem watch_w {r tg sl wy : Int32} (h : ¬ f_LB_isWatch r tg sl wy = 0) : okW tg sl := by
  have h1 : ¬ f_LB_isRow r = 0 := watch_row h
  unfold f_LB_isWatch at h
  rw [if_neg h1] at h
  by_cases h2 : f_LB_isWithin tg (-1000) 1000 = 0
  · rw [if_pos h2] at h; exact absurd rfl h
  rw [if_neg h2] at h
  by_cases h3 : f_LB_isWithin sl 0 1000 = 0
  · rw [if_pos h3] at h; exact absurd rfl h
  obtain ⟨a, b⟩ := isW1.mp h2
  obtain ⟨c, e⟩ := isW1.mp h3
  rw [ti_le] at a b c e
  have z1 : (-1000 : Int32).toInt = -1000 := rfl
  have z2 : (1000 : Int32).toInt = 1000 := rfl
  have z0 : (0 : Int32).toInt = 0 := rfl
  exact ⟨by omega, by omega, by omega, by omega⟩
section
variable {G : GC} {d : Nat} {P : PT} {I : MI} {J : MJ}
theorem bl_loop {o D : Nat} {l : List (Nat × Int32)} {tg sl wy : Int32} (h0 : PtsAt o) (hD : D < 40) (hok : okP l) (hP : PL o l I) (hq : P (some (.int (bestL (brn tg sl wy D l)))) I J) : ∀ (m i : Nat) (x5 x6 x7 x8 : Int32), i + m = l.length → x8 = nI i → (x5, x6, x7) = brn tg sl wy D (l.take i) → Go G (fr G m_AL_bestLimit (d + 2) P) 12 [some (.ref o), some (.int tg), some (.int sl), some (.int wy), some (.int (nI D)), some (.int x5), some (.int x6), some (.int x7), some (.int x8)] [] I J := by
  have hl := hok.1
  intro m
  induction m with
  | zero =>
    intro i x5 x6 x7 x8 hi hx8 hb
    subst hx8
    have hle : I o 4 ≤ nI i := by rw [hP.1]; exact nI_le (by omega) (by omega)
    rw [List.take_of_length_le (by omega)] at hb
    rw [← hb] at hq
    unfold bestL at hq
    refine w_AL_bestLimit_12 h0 (fun _ c => w_AL_bestLimit_103 ?_) (fun _ c1 c2 => w_AL_bestLimit_103 ?_) (fun _ c1 c2 => ?_) (fun c => absurd hle c) (fun c => absurd hle c) (fun c => absurd hle c)
    · rw [if_pos c] at hq; exact hq
    · rw [if_neg c1, if_pos c2] at hq; exact hq
    · rw [if_neg c1, if_neg c2] at hq; exact hq
  | succ m ih =>
    intro i x5 x6 x7 x8 hi hx8 hb
    subst hx8
    have hi' : i < l.length := by omega
    have hc : ¬ I o 4 ≤ nI i := by rw [hP.1]; exact nI_ge (by omega) (by omega)
    have e1 : (nI i).toNatClampNeg = i := nI_clamp (by omega)
    have e3 : I (o + 3) (nI i).toNatClampNeg = (l.getD i (0, 0)).2 := by rw [e1]; exact (hP.2 i hi').2
    have e2 : I (o + 2) (nI i).toNatClampNeg = nI (l.getD i (0, 0)).1 := by rw [e1]; exact (hP.2 i hi').1
    have hd : (l.getD i (0, 0)).1 < 40 := (hok.2.1 _ (by rw [getD_lt hi']; exact List.getElem_mem hi')).1
    have hst := brn_app tg sl wy D (l.take i) (l.getD i (0, 0))
    rw [← takeP_ext hi', ← hb] at hst
    have hcmp : (nI D ≤ nI (l.getD i (0, 0)).1) ↔ D ≤ (l.getD i (0, 0)).1 := nI_leI (by omega) (by omega)
    refine w_AL_bestLimit_12 h0 (fun c => absurd c hc) (fun c => absurd c hc) (fun c => absurd c hc) (fun _ => vp_in_nI (by omega) (by omega)) (fun _ c => ?_) (fun _ c => ?_)
    · rw [e2] at c
      rw [e3]
      refine w_AL_bestLimit_71 h0 (ih (i + 1) _ _ _ _ (by omega) (nI_1 i) ?_)
      rw [hst]; unfold blr; rw [if_pos (hcmp.mp c)]
    · rw [e2] at c
      rw [e3]
      refine w_AL_bestLimit_71 h0 (ih (i + 1) _ _ _ _ (by omega) (nI_1 i) ?_)
      rw [hst]; unfold blr; rw [if_neg (fun q => c (hcmp.mpr q))]
theorem cl_limit {st : ST} {r tg sl wy dy : Int32} (hR : RC st I J) (hS : okS st) (hq : P (some (.int (limits st r tg sl wy dy))) I J) : Ct G (d + 3) m_LB_limit [.ref 0, .int r, .int tg, .int sl, .int wy, .int dy] P I J := by
  have hbad : (f_LB_isWatch r tg sl wy = 0 ∨ f_LB_isDay dy = 0) → Go G (fr G m_LB_limit (d + 3) P) 19 [none, none, none, none, none, none] [] I J := fun hb => by
    refine w_LB_limit_19 ?_
    have e : limits st r tg sl wy dy = -2 := by unfold limits; rw [if_pos hb]
    rw [e] at hq; exact hq
  refine Ct.ofGo [some (.ref 0), some (.int r), some (.int tg), some (.int sl), some (.int wy), some (.int dy)] (by decide +kernel) rfl (Nat.le_of_ble_eq_true rfl) (w_LB_limit_0 (fun c => hbad (Or.inl c)) (fun c _ => vin_row (isRow1 (watch_row c))) (fun c1 c2 => ?_) (fun _ c => hbad (Or.inr c)))
  have hnb : ¬ (f_LB_isWatch r tg sl wy = 0 ∨ f_LB_isDay dy = 0) := by
    rintro (h | h)
    · exact c1 h
    · exact c2 h
  have e : limits st r tg sl wy dy = bestL (brn tg sl wy dy.toNatClampNeg (ptl st.1 r.toNatClampNeg st.2.1)) := by unfold limits; rw [if_neg hnb]
  rw [e] at hq
  obtain ⟨r, hr, rfl⟩ := isRow1 (watch_row c1)
  obtain ⟨j, hj, rfl⟩ := isDay1 c2
  have e1 : (nI r).toNatClampNeg = r := nI_clamp (by omega)
  rw [e1, nI_clamp (show j < 2 ^ 31 by omega)] at hq
  rw [e1]
  refine Ct.ofGo [some (.ref (7 + 5 * r)), some (.int tg), some (.int sl), some (.int wy), some (.int (nI j)), none, none, none, none] (by decide +kernel) rfl (Nat.le_of_ble_eq_true rfl) (w_AL_bestLimit_0 (pts_lt r hr) ?_)
  exact bl_loop (pts_lt r hr) hj (ptl_ok hS.1 r st.2.1) (hR.2.2.1 r hr).2.pl (w_LB_limit_37 hq) (ptl st.1 r st.2.1).length 0 0 0 0 0 (by omega) nI_0.symm rfl
theorem rlim_loop {l : List (Nat × Int32)} {D : Nat} {tg sl wy : Int32} {I0 : MI} (hD : D < 40) (hw : okW tg sl) (hok : okP l) (hQ : QL l I0) (hq : ∀ I', FW I0 I' → P (some (.int (bestL (brn tg sl wy D l)))) I' J) : ∀ (m L : Nat) (x6 : Int32) (I : MI), L + m = 2001 → 1 ≤ L → x6 = nI L → FW I0 I → (∀ L', 1 ≤ L' → L' < L → ¬ ((brn tg sl wy D l).2.1.toInt < L' ∧ L' ≤ (brn tg sl wy D l).2.2.toInt)) → Go G (fr G m_RM_limit (d + 3) P) 35 [some (.ref 67), none, some (.int tg), some (.int sl), some (.int wy), some (.int (nI D)), some (.int x6)] [] I J := by
  obtain ⟨-, r2, r3⟩ := brn_rng (wy := wy) (D := D) hw l hok.1 (fun p hp => (hok.2.1 p hp).2)
  have hl := hok.1
  have z1 : (1 : Int32).toInt = 1 := rfl
  have z2 : (2000 : Int32).toInt = 2000 := rfl
  have hb1 : ((brn tg sl wy D l).2.1 + 1).toInt = (brn tg sl wy D l).2.1.toInt + 1 := by rw [ti_add (by omega) (by omega), z1]
  intro m
  induction m with
  | zero =>
    intro L x6 I hL h1 hx hF hno
    subst hx
    obtain rfl : L = 2001 := by omega
    have hlt : (2000 : Int32) < nI 2001 := by decide
    refine w_RM_limit_35 (fun _ => ?_) (fun c => absurd hlt c)
    have e : bestL (brn tg sl wy D l) = -1 := by
      unfold bestL
      by_cases q1 : (brn tg sl wy D l).2.2 < (brn tg sl wy D l).2.1 + 1
      · rw [if_pos q1]
      · rw [if_neg q1]
        by_cases q2 : 2000 < (brn tg sl wy D l).2.1 + 1
        · rw [if_pos q2]
        · rw [ti_lt, hb1] at q1
          rw [ti_lt, hb1, z2] at q2
          exact absurd ⟨by omega, by omega⟩ (hno ((brn tg sl wy D l).2.1.toInt + 1).toNat (by omega) (by omega))
    rw [← e]; exact hq I hF
  | succ m ih =>
    intro L x6 I hL h1 hx hF hno
    subst hx
    have hc : ¬ (2000 : Int32) < nI L := nI_nlt (a := 2000) (b := L) (by omega) (by omega)
    have tL : (nI L).toInt = L := nI_ti (by omega)
    have hpos : (0 : Int32) < nI L := by rw [ti_lt, tL]; have : (0 : Int32).toInt = 0 := rfl; omega
    obtain ⟨ia, ib, ic, id', ie⟩ := lim_inv (tg := tg) (sl := sl) (wy := wy) (D := D) hpos l (fun p hp => (hok.2.1 p hp).1) hok.2.2
    refine w_RM_limit_35 (fun c => absurd c hc) (fun _ => md_watches hok (hQ.of hF) (fun I2 g1 g2 g3 => w_RM_limit_53 (md_firstFrom hD g2 ?_)))
    have hF2 : FW I0 I2 := ⟨fun a h1 h2 => (g1.1 a h1 h2).trans (hF.1 a h1 h2), fun k hk => (g1.2 k hk).trans (hF.2 k hk)⟩
    have hnext : ¬ ((brn tg sl wy D l).2.1.toInt < L ∧ L ≤ (brn tg sl wy D l).2.2.toInt) → Go G (fr G m_RM_limit (d + 3) P) 75 [some (.ref 67), none, some (.int tg), some (.int sl), some (.int wy), some (.int (nI D)), some (.int (nI L))] [] I2 J := fun hn => by
      refine w_RM_limit_75 (ih (L + 1) _ I2 (by omega) (by omega) (nI_1 L) hF2 (fun L' g4 g5 => ?_))
      rcases Nat.lt_or_ge L' L with q | q
      · exact hno L' g4 q
      · rw [show L' = L by omega]; exact hn
    by_cases q : ffr (wrn tg sl (nI L) wy l).2.1 D (40 - D) = -1
    · refine w_RM_limit_59 (fun _ => hnext (fun hh => ?_)) (fun c => absurd q c)
      have := id' (by rw [ti_lt, tL]; omega) (by rw [ti_le, tL]; omega)
      obtain ⟨x, a, b, c⟩ := this
      exact (ffr_iff (40 - D) D (by omega)).mpr ⟨x, a, by omega, c⟩ q
    · refine w_RM_limit_59 (fun c => absurd c q) (fun _ => md_before (by omega) (wrn_01 _ _ _ _ _) g2 ?_)
      refine w_RM_limit_69 (fun c => hnext (fun hh => ?_)) (fun c => ?_)
      · exact c ((sum0_iff (wrn_01 _ _ _ _ _) (by omega)).mpr (ic (by rw [ti_lt, tL]; omega)))
      · have hall := (sum0_iff (wrn_01 tg sl (nI L) wy l) (show D ≤ 40 by omega)).mp c
        have hb : (brn tg sl wy D l).2.1 < nI L := by
          refine Int32.not_le.mp fun hle => ?_
          obtain ⟨x, hx, hne⟩ := ib hle
          exact hne (hall x hx)
        obtain ⟨x, hx1, hx2, hne⟩ := (ffr_iff (40 - D) D (by omega)).mp q
        have hs : nI L ≤ (brn tg sl wy D l).2.2 := by
          refine Int32.not_lt.mp fun hlt => ?_
          exact hne ((ia hb hlt).2 x)
        rw [ti_lt, tL] at hb
        rw [ti_le, tL] at hs
        have hprev : ¬ ((brn tg sl wy D l).2.1.toInt < (L - 1 : Nat) ∧ ((L - 1 : Nat) : Int) ≤ (brn tg sl wy D l).2.2.toInt) ∨ L = 1 := by
          rcases Nat.lt_or_ge 1 L with e | e
          · exact Or.inl (hno (L - 1) (by omega) (by omega))
          · exact Or.inr (by omega)
        have hL1 : ((brn tg sl wy D l).2.1.toInt : Int) + 1 = L := by
          rcases hprev with e | e
          · omega
          · omega
        have e : bestL (brn tg sl wy D l) = nI L := by
          unfold bestL
          rw [if_neg (by rw [ti_lt, hb1]; omega), if_neg (by rw [ti_lt, hb1, z2]; omega), ti_eq, hb1, tL]
          exact hL1
        rw [← e]; exact hq I2 hF2
theorem md_limit {st : ST} {r tg sl wy dy : Int32} (hR : RM st I J) (hS : okS st) (hq : ∀ I', KM I J I' J → P (some (.int (limits st r tg sl wy dy))) I' J) : Ct G (d + 3) m_RM_limit [.ref 67, .int r, .int tg, .int sl, .int wy, .int dy] P I J := by
  have h1ok : ¬ f_LB_isLimit 1 = 0 := by decide
  have hbad : (f_LB_isWatch r tg sl wy = 0 ∨ f_LB_isDay dy = 0) → Go G (fr G m_RM_limit (d + 3) P) 20 [none, none, none, none, none, none, none] [] I J := fun hb => by
    refine w_RM_limit_20 ?_
    have e : limits st r tg sl wy dy = -2 := by unfold limits; rw [if_pos hb]
    rw [e] at hq; exact hq I KM.rf
  refine Ct.ofGo [some (.ref 67), some (.int r), some (.int tg), some (.int sl), some (.int wy), some (.int dy), none] (by decide +kernel) rfl (Nat.le_of_ble_eq_true rfl) (w_RM_limit_0 (fun c => hbad ((rwatch0.mp c).elim Or.inl (fun h => absurd h h1ok))) (fun c1 c2 => ?_) (fun _ c => hbad (Or.inr c)))
  have c2 : ¬ f_LB_isDay dy = 0 := c2
  have c1' : ¬ f_LB_isWatch r tg sl wy = 0 := fun h => c1 (rwatch0.mpr (Or.inl h))
  have hnb : ¬ (f_LB_isWatch r tg sl wy = 0 ∨ f_LB_isDay dy = 0) := by
    rintro (h | h)
    · exact c1' h
    · exact c2 h
  have e : limits st r tg sl wy dy = bestL (brn tg sl wy dy.toNatClampNeg (ptl st.1 r.toNatClampNeg st.2.1)) := by unfold limits; rw [if_neg hnb]
  rw [e] at hq
  have hw := watch_w c1'
  obtain ⟨r, hr, rfl⟩ := isRow1 (watch_row c1')
  obtain ⟨j, hj, rfl⟩ := isDay1 c2
  have e1 : (nI r).toNatClampNeg = r := nI_clamp (by omega)
  rw [e1, nI_clamp (show j < 2 ^ 31 by omega)] at hq
  rw [hR.2.1]
  have hok := ptl_ok hS.1 r st.2.1
  refine md_pointsBy hR.1 hS.1 (fun I1 h1 _ h3 => w_RM_limit_32 ?_)
  exact rlim_loop hj hw hok h3.ql (fun I2 g => hq I2 ((h1.km (J := J)).tr g.km)) 2000 1 1 I1 (by omega) (by omega) rfl ⟨fun _ _ _ => rfl, fun _ _ => rfl⟩ (fun L' h4 h5 => by omega)
end
