/-! ===== one without points ===== -/
theorem cp_s (p : Nat → Bool) (n : Nat) : (List.range (n + 1)).countP p = (List.range n).countP p + if p n = true then 1 else 0 := by
  rw [List.range_succ, List.countP_append]
  simp [List.countP_cons]
theorem cp_z {p : Nat → Bool} : ∀ n, (∀ j, j < n → ¬ p j = true) → (List.range n).countP p = 0 := by
  intro n
  induction n with
  | zero => intro _; rfl
  | succ n ih => intro h; rw [cp_s, ih (fun j hj => h j (by omega)), if_neg (h n (by omega))]
theorem cp_le1 {p : Nat → Bool} {j0 : Nat} : ∀ n, (∀ j, j < n → p j = true → j = j0) → (List.range n).countP p ≤ 1 := by
  intro n
  induction n with
  | zero => intro _; exact Nat.zero_le _
  | succ n ih =>
    intro h
    rw [cp_s]
    by_cases q : p n = true
    · rw [if_pos q, cp_z n (fun j hj c => by have := h j (by omega) c; have := h n (by omega) q; omega)]; omega
    · rw [if_neg q]; have := ih (fun j hj => h j (by omega)); omega
theorem cp_le2 {p : Nat → Bool} {j0 j1 : Nat} : ∀ n, (∀ j, j < n → p j = true → j = j0 ∨ j = j1) → (List.range n).countP p ≤ 2 := by
  intro n
  induction n with
  | zero => intro _; exact Nat.zero_le _
  | succ n ih =>
    intro h
    rw [cp_s]
    by_cases q : p n = true
    · rw [if_pos q]
      have : (List.range n).countP p ≤ 1 := by
        rcases h n (by omega) q with c | c
        · exact cp_le1 (j0 := j1) n (fun j hj hp => by have := h j (by omega) hp; omega)
        · exact cp_le1 (j0 := j0) n (fun j hj hp => by have := h j (by omega) hp; omega)
      omega
    · rw [if_neg q]; have := ih (fun j hj => h j (by omega)); omega
theorem cp_ge1 {p : Nat → Bool} {j0 : Nat} (h0 : p j0 = true) : ∀ n, j0 < n → 1 ≤ (List.range n).countP p := by
  intro n
  induction n with
  | zero => intro h; omega
  | succ n ih =>
    intro h
    rw [cp_s]
    by_cases q : j0 = n
    · rw [← q, if_pos h0]; omega
    · have := ih (by omega); omega
theorem cp_ge2 {p : Nat → Bool} {j0 j1 : Nat} (h0 : p j0 = true) (h1 : p j1 = true) (hne : j0 ≠ j1) : ∀ n, j0 < n → j1 < n → 2 ≤ (List.range n).countP p := by
  intro n
  induction n with
  | zero => intro h; omega
  | succ n ih =>
    intro a b
    rw [cp_s]
    by_cases q : j0 = n
    · have := cp_ge1 h1 n (by omega); rw [← q, if_pos h0]; rw [q]; omega
    · by_cases q1 : j1 = n
      · have := cp_ge1 h0 n (by omega); rw [← q1, if_pos h1]; rw [q1]; omega
      · have := ih (by omega) (by omega); omega
theorem cp_ge3 {p : Nat → Bool} {j0 j1 j2 : Nat} (h0 : p j0 = true) (h1 : p j1 = true) (h2 : p j2 = true) (n1 : j0 ≠ j1) (n2 : j0 ≠ j2) (n3 : j1 ≠ j2) : ∀ n, j0 < n → j1 < n → j2 < n → 3 ≤ (List.range n).countP p := by
  intro n
  induction n with
  | zero => intro h; omega
  | succ n ih =>
    intro a b c
    rw [cp_s]
    by_cases q : j0 = n
    · have := cp_ge2 h1 h2 n3 n (by omega) (by omega); rw [← q, if_pos h0]; rw [q]; omega
    · by_cases q1 : j1 = n
      · have := cp_ge2 h0 h2 n2 n (by omega) (by omega); rw [← q1, if_pos h1]; rw [q1]; omega
      · by_cases q2 : j2 = n
        · have := cp_ge2 h0 h1 n1 n (by omega) (by omega); rw [← q2, if_pos h2]; rw [q2]; omega
        · have := ih (by omega) (by omega) (by omega); omega
theorem cp_exn {p : Nat → Bool} {n : Nat} (h : 0 < (List.range n).countP p) : ∃ j, j < n ∧ p j = true := by
  refine Classical.byContradiction fun c => ?_
  rw [cp_z n (fun j hj hp => c ⟨j, hj, hp⟩)] at h
  omega
theorem cp_ex1 {p : Nat → Bool} {n j0 : Nat} (h : 1 < (List.range n).countP p) : ∃ j, j < n ∧ p j = true ∧ j ≠ j0 := by
  refine Classical.byContradiction fun c => ?_
  have := cp_le1 (p := p) (j0 := j0) n (fun j hj hp => Classical.byContradiction fun hne => c ⟨j, hj, hp, hne⟩)
  omega
theorem cp_ex2 {p : Nat → Bool} {n j0 j1 : Nat} (h : 2 < (List.range n).countP p) : ∃ j, j < n ∧ p j = true ∧ j ≠ j0 ∧ j ≠ j1 := by
  refine Classical.byContradiction fun c => ?_
  have := cp_le2 (p := p) (j0 := j0) (j1 := j1) n (fun j hj hp => Classical.byContradiction fun hne => c ⟨j, hj, hp, fun q => hne (Or.inl q), fun q => hne (Or.inr q)⟩)
  omega
theorem cnt_p {l l1 : List Pt} {p : Pt} (h : l.Perm (p :: l1)) (v : Int32) : cnt v l = cnt v l1 + if p.2 = v then 1 else 0 := by
  rw [cnt_perm h, show p :: l1 = [p] ++ l1 from rfl, cnt_app, cnt_1, Nat.add_comm]
/-- an index with t like it stands for a value t times there -/
theorem oft_val {L : List Pt} {a m j t : Nat} (ha : a + m ≤ L.length) (ht : 1 ≤ t) (h : oft L a m j = t) : ∃ i, i < L.length ∧ lk L i = j ∧ cnt (L.getD i (0, 0)).2 (seg L a m) = t := by
  have hpos : 0 < (List.range m).countP fun i => decide (lk L (a + i) = j) := by
    have : oft L a m j = (List.range m).countP fun i => decide (lk L (a + i) = j) := rfl
    omega
  obtain ⟨i, hi, hp⟩ := cp_exn hpos
  have hp : lk L (a + i) = j := of_decide_eq_true hp
  refine ⟨a + i, by omega, hp, ?_⟩
  rw [← oft_cnt (show a + i < L.length by omega) m ha, hp]; exact h
theorem cnt_val {l : List Pt} {v : Int32} (h : 1 ≤ cnt v l) : ∃ p ∈ l, p.2 = v := by
  refine Classical.byContradiction fun c => ?_
  have := cnt_0 (v := v) (l := l) (fun p hp e => c ⟨p, hp, e⟩)
  omega
theorem val_ix {L : List Pt} {a m : Nat} (ha : a + m ≤ L.length) {v : Int32} (h : 1 ≤ cnt v (seg L a m)) : ∃ i, i < L.length ∧ (L.getD i (0, 0)).2 = v := by
  obtain ⟨p, hp, e⟩ := cnt_val h
  obtain ⟨i, hi, hpe⟩ := List.mem_iff_getElem.mp (seg_mem hp)
  exact ⟨i, hi, by rw [getD_lt hi, hpe]; exact e⟩
def pT (L : List Pt) (a m t : Nat) : Nat → Bool := fun j => decide (oft L a m j = t)
theorem pT_lk {L : List Pt} (hok : okP L) {a m t i : Nat} (ha : a + m ≤ L.length) (hi : i < L.length) : (pT L a m t (lk L i) = true ↔ cnt (L.getD i (0, 0)).2 (seg L a m) = t) ∧ lk L i < 40 := by
  have h1 := (lk_in hi).1
  have h2 := hok.1
  unfold pT
  rw [decide_eq_true_eq, oft_cnt hi m ha]
  exact ⟨Iff.rfl, by omega⟩
/-- how often the most frequent one is there without x -/
theorem mx_one {L : List Pt} (hok : okP L) {a m x : Nat} {l1 : List Pt} (ha : a + m ≤ L.length) (hx : x < L.length) (hp : (seg L a m).Perm (L.getD x (0, 0) :: l1)) : mxc l1 = if vso L a m (mxc (seg L a m)) > (if oft L a m (lk L x) = mxc (seg L a m) then 1 else 0) then mxc (seg L a m) else mxc (seg L a m) - 1 := by
  have hcx : 1 ≤ cnt (L.getD x (0, 0)).2 (seg L a m) := by rw [cnt_p hp, if_pos rfl]; omega
  have hge : ∀ v, cnt v (seg L a m) ≤ mxc (seg L a m) := fun v => mxc_ge v _
  have hmx : 1 ≤ mxc (seg L a m) := Nat.le_trans hcx (hge _)
  have hc1 : ∀ v, cnt v l1 = cnt v (seg L a m) - if (L.getD x (0, 0)).2 = v then 1 else 0 := fun v => by have := cnt_p hp v; omega
  rw [oft_cnt hx m ha]
  have hV : vso L a m (mxc (seg L a m)) = (List.range 40).countP (pT L a m (mxc (seg L a m))) := rfl
  rw [hV]
  generalize hM : mxc (seg L a m) = M at *
  by_cases c : (List.range 40).countP (pT L a m M) > (if cnt (L.getD x (0, 0)).2 (seg L a m) = M then 1 else 0)
  · rw [if_pos c]
    refine mxc_of (fun v => by rw [hc1]; have := hge v; omega) (Or.inr ?_)
    have hex : ∃ j, j < 40 ∧ pT L a m M j = true ∧ (cnt (L.getD x (0, 0)).2 (seg L a m) = M → j ≠ lk L x) := by
      by_cases q : cnt (L.getD x (0, 0)).2 (seg L a m) = M
      · rw [if_pos q] at c
        obtain ⟨j, j1, j2, j3⟩ := cp_ex1 (j0 := lk L x) c
        exact ⟨j, j1, j2, fun _ => j3⟩
      · rw [if_neg q] at c
        obtain ⟨j, j1, j2⟩ := cp_exn c
        exact ⟨j, j1, j2, fun h => absurd h q⟩
    obtain ⟨j, j1, j2, j3⟩ := hex
    obtain ⟨i, i1, i2, i3⟩ := oft_val ha hmx (of_decide_eq_true j2)
    refine ⟨(L.getD i (0, 0)).2, ?_⟩
    rw [hc1, i3, if_neg, Nat.sub_zero]
    intro e
    have hl : lk L x = lk L i := (lk_eq hx i1).mpr e
    rw [← e] at i3
    exact j3 i3 (by rw [← i2, hl])
  · rw [if_neg c]
    have hex : ∃ v, cnt v (seg L a m) = M := by
      rcases mxc_at (l := seg L a m) with h | h
      · omega
      · rw [hM] at h; exact h
    obtain ⟨v, hv⟩ := hex
    obtain ⟨i, hi, ei⟩ := val_ix ha (show 1 ≤ cnt v (seg L a m) by omega)
    have hpi := pT_lk (t := M) hok ha hi
    have hpx := pT_lk (t := M) hok ha hx
    have g1 := cp_ge1 (hpi.1.mpr (by rw [ei]; exact hv)) 40 hpi.2
    have hxM : cnt (L.getD x (0, 0)).2 (seg L a m) = M := Classical.byContradiction fun q => by rw [if_neg q] at c; omega
    rw [if_pos hxM] at c
    have huniq : ∀ w, cnt w (seg L a m) = M → w = (L.getD x (0, 0)).2 := fun w hw => by
      obtain ⟨i', hi', ei'⟩ := val_ix ha (show 1 ≤ cnt w (seg L a m) by omega)
      refine Classical.byContradiction fun q => ?_
      have hpi' := pT_lk (t := M) hok ha hi'
      have := cp_ge2 (hpi'.1.mpr (by rw [ei']; exact hw)) (hpx.1.mpr hxM) (fun e => q (by rw [← ei']; exact (lk_eq hi' hx).mp e)) 40 hpi'.2 hpx.2
      omega
    refine mxc_of (fun w => ?_) (Or.inr ⟨(L.getD x (0, 0)).2, by rw [hc1, if_pos rfl, hxM]⟩)
    rw [hc1]
    by_cases q : (L.getD x (0, 0)).2 = w
    · rw [if_pos q]; have := hge w; omega
    · rw [if_neg q]
      have := hge w
      have : cnt w (seg L a m) ≠ M := fun h => q (huniq w h).symm
      omega
theorem mx_two {L : List Pt} (hok : okP L) {a m x y : Nat} {l1 l2 : List Pt} (ha : a + m ≤ L.length) (hx : x < L.length) (hy : y < L.length) (hne : ¬ (L.getD x (0, 0)).2 = (L.getD y (0, 0)).2) (hp : (seg L a m).Perm (L.getD x (0, 0) :: l1)) (hp2 : l1.Perm (L.getD y (0, 0) :: l2)) : mxc l2 = if vso L a m (mxc (seg L a m)) > (if oft L a m (lk L x) = mxc (seg L a m) then 1 else 0) + (if oft L a m (lk L y) = mxc (seg L a m) then 1 else 0) then mxc (seg L a m) else mxc (seg L a m) - 1 := by
  have hc2 : ∀ v, cnt v (seg L a m) = cnt v l2 + (if (L.getD y (0, 0)).2 = v then 1 else 0) + (if (L.getD x (0, 0)).2 = v then 1 else 0) := fun v => by rw [cnt_p hp, cnt_p hp2]
  have hcx : 1 ≤ cnt (L.getD x (0, 0)).2 (seg L a m) := by rw [hc2, if_pos (rfl : (L.getD x (0, 0)).2 = _)]; omega
  have hge : ∀ v, cnt v (seg L a m) ≤ mxc (seg L a m) := fun v => mxc_ge v _
  have hmx : 1 ≤ mxc (seg L a m) := Nat.le_trans hcx (hge _)
  rw [oft_cnt hx m ha, oft_cnt hy m ha]
  have hV : vso L a m (mxc (seg L a m)) = (List.range 40).countP (pT L a m (mxc (seg L a m))) := rfl
  rw [hV]
  generalize hM : mxc (seg L a m) = M at *
  have hpx := pT_lk (t := M) hok ha hx
  have hpy := pT_lk (t := M) hok ha hy
  have hlxy : lk L x ≠ lk L y := fun e => hne ((lk_eq hx hy).mp e)
  by_cases c : (List.range 40).countP (pT L a m M) > (if cnt (L.getD x (0, 0)).2 (seg L a m) = M then 1 else 0) + (if cnt (L.getD y (0, 0)).2 (seg L a m) = M then 1 else 0)
  · rw [if_pos c]
    refine mxc_of (fun v => by have := hc2 v; have := hge v; omega) (Or.inr ?_)
    have hex : ∃ j, j < 40 ∧ pT L a m M j = true ∧ (cnt (L.getD x (0, 0)).2 (seg L a m) = M → j ≠ lk L x) ∧ (cnt (L.getD y (0, 0)).2 (seg L a m) = M → j ≠ lk L y) := by
      by_cases q : cnt (L.getD x (0, 0)).2 (seg L a m) = M
      · by_cases q2 : cnt (L.getD y (0, 0)).2 (seg L a m) = M
        · rw [if_pos q, if_pos q2] at c
          obtain ⟨j, j1, j2, j3, j4⟩ := cp_ex2 (j0 := lk L x) (j1 := lk L y) c
          exact ⟨j, j1, j2, fun _ => j3, fun _ => j4⟩
        · rw [if_pos q, if_neg q2] at c
          obtain ⟨j, j1, j2, j3⟩ := cp_ex1 (j0 := lk L x) c
          exact ⟨j, j1, j2, fun _ => j3, fun h => absurd h q2⟩
      · by_cases q2 : cnt (L.getD y (0, 0)).2 (seg L a m) = M
        · rw [if_neg q, if_pos q2] at c
          obtain ⟨j, j1, j2, j3⟩ := cp_ex1 (j0 := lk L y) c
          exact ⟨j, j1, j2, fun h => absurd h q, fun _ => j3⟩
        · rw [if_neg q, if_neg q2] at c
          obtain ⟨j, j1, j2⟩ := cp_exn c
          exact ⟨j, j1, j2, fun h => absurd h q, fun h => absurd h q2⟩
    obtain ⟨j, j1, j2, j3, j4⟩ := hex
    obtain ⟨i, i1, i2, i3⟩ := oft_val ha hmx (of_decide_eq_true j2)
    refine ⟨(L.getD i (0, 0)).2, ?_⟩
    have n1 : ¬ (L.getD x (0, 0)).2 = (L.getD i (0, 0)).2 := fun e => by
      have hl : lk L x = lk L i := (lk_eq hx i1).mpr e
      rw [← e] at i3
      exact j3 i3 (by rw [← i2, hl])
    have n2 : ¬ (L.getD y (0, 0)).2 = (L.getD i (0, 0)).2 := fun e => by
      have hl : lk L y = lk L i := (lk_eq hy i1).mpr e
      rw [← e] at i3
      exact j4 i3 (by rw [← i2, hl])
    have := hc2 (L.getD i (0, 0)).2
    rw [if_neg n1, if_neg n2, i3] at this
    omega
  · rw [if_neg c]
    obtain ⟨v, hv⟩ : ∃ v, cnt v (seg L a m) = M := by
      rcases mxc_at (l := seg L a m) with h | h
      · omega
      · rw [hM] at h; exact h
    obtain ⟨i, hi, ei⟩ := val_ix ha (show 1 ≤ cnt v (seg L a m) by omega)
    have hpi := pT_lk (t := M) hok ha hi
    have g1 := cp_ge1 (hpi.1.mpr (by rw [ei]; exact hv)) 40 hpi.2
    have huniq : ∀ w, cnt w (seg L a m) = M → w = (L.getD x (0, 0)).2 ∨ w = (L.getD y (0, 0)).2 := fun w hw => by
      obtain ⟨i', hi', ei'⟩ := val_ix ha (show 1 ≤ cnt w (seg L a m) by omega)
      refine Classical.byContradiction fun q => ?_
      have hpi' := pT_lk (t := M) hok ha hi'
      have hp1 := hpi'.1.mpr (by rw [ei']; exact hw)
      have e1 : lk L i' ≠ lk L x := fun e => q (Or.inl (by rw [← ei']; exact (lk_eq hi' hx).mp e))
      have e2 : lk L i' ≠ lk L y := fun e => q (Or.inr (by rw [← ei']; exact (lk_eq hi' hy).mp e))
      by_cases q1 : cnt (L.getD x (0, 0)).2 (seg L a m) = M
      · by_cases q2 : cnt (L.getD y (0, 0)).2 (seg L a m) = M
        · rw [if_pos q1, if_pos q2] at c
          have := cp_ge3 hp1 (hpx.1.mpr q1) (hpy.1.mpr q2) e1 e2 hlxy 40 hpi'.2 hpx.2 hpy.2
          omega
        · rw [if_pos q1, if_neg q2] at c
          have := cp_ge2 hp1 (hpx.1.mpr q1) e1 40 hpi'.2 hpx.2
          omega
      · by_cases q2 : cnt (L.getD y (0, 0)).2 (seg L a m) = M
        · rw [if_neg q1, if_pos q2] at c
          have := cp_ge2 hp1 (hpy.1.mpr q2) e2 40 hpi'.2 hpy.2
          omega
        · rw [if_neg q1, if_neg q2] at c
          omega
    have hyx : ¬ (L.getD y (0, 0)).2 = (L.getD x (0, 0)).2 := fun e => hne e.symm
    refine mxc_of (fun w => ?_) (Or.inr ?_)
    · have h1 := hc2 w
      have h2 := hge w
      by_cases q1 : (L.getD x (0, 0)).2 = w
      · rw [if_pos q1] at h1; omega
      · by_cases q2 : (L.getD y (0, 0)).2 = w
        · rw [if_pos q2] at h1; omega
        · have : cnt w (seg L a m) ≠ M := fun h => (huniq w h).elim (fun e => q1 e.symm) (fun e => q2 e.symm)
          omega
    · rcases huniq v hv with e | e
      · refine ⟨(L.getD x (0, 0)).2, ?_⟩
        have := hc2 (L.getD x (0, 0)).2
        rw [if_pos rfl, if_neg hyx, ← e, hv] at this
        rw [← e]; omega
      · refine ⟨(L.getD y (0, 0)).2, ?_⟩
        have := hc2 (L.getD y (0, 0)).2
        rw [if_pos rfl, if_neg hne, ← e, hv] at this
        rw [← e]; omega
theorem mx_same {L : List Pt} (hok : okP L) {a m x y : Nat} {l1 l2 : List Pt} (ha : a + m ≤ L.length) (hx : x < L.length) (he : (L.getD x (0, 0)).2 = (L.getD y (0, 0)).2) (hp : (seg L a m).Perm (L.getD x (0, 0) :: l1)) (hp2 : l1.Perm (L.getD y (0, 0) :: l2)) : 2 ≤ mxc (seg L a m) ∧ mxc l2 = if oft L a m (lk L x) < mxc (seg L a m) ∨ 1 < vso L a m (mxc (seg L a m)) then mxc (seg L a m) else if 0 < vso L a m (mxc (seg L a m) - 1) then mxc (seg L a m) - 1 else mxc (seg L a m) - 2 := by
  have hc2 : ∀ v, cnt v (seg L a m) = cnt v l2 + (if (L.getD x (0, 0)).2 = v then 2 else 0) := fun v => by
    rw [cnt_p hp, cnt_p hp2, ← he]; split <;> omega
  have hcx : 2 ≤ cnt (L.getD x (0, 0)).2 (seg L a m) := by rw [hc2, if_pos (rfl : (L.getD x (0, 0)).2 = _)]; omega
  have hge : ∀ v, cnt v (seg L a m) ≤ mxc (seg L a m) := fun v => mxc_ge v _
  have hmx : 2 ≤ mxc (seg L a m) := Nat.le_trans hcx (hge _)
  refine ⟨hmx, ?_⟩
  rw [oft_cnt hx m ha]
  have hV : ∀ t, vso L a m t = (List.range 40).countP (pT L a m t) := fun t => rfl
  rw [hV, hV]
  obtain ⟨v, hv⟩ : ∃ v, cnt v (seg L a m) = mxc (seg L a m) := by
    rcases mxc_at (l := seg L a m) with h | h
    · omega
    · exact h
  generalize hM : mxc (seg L a m) = M at *
  have hpx := pT_lk (t := M) hok ha hx
  split
  · rename_i c
    refine mxc_of (fun w => by have := hc2 w; have := hge w; omega) (Or.inr ?_)
    have hex : ∃ w, cnt w (seg L a m) = M ∧ ¬ (L.getD x (0, 0)).2 = w := by
      rcases c with c | c
      · exact ⟨v, hv, fun e => by rw [← e] at hv; omega⟩
      · obtain ⟨j, j1, j2, j3⟩ := cp_ex1 (j0 := lk L x) c
        obtain ⟨i, i1, i2, i3⟩ := oft_val ha (show 1 ≤ M by omega) (of_decide_eq_true j2)
        refine ⟨(L.getD i (0, 0)).2, i3, fun e => j3 ?_⟩
        rw [← i2]; exact ((lk_eq hx i1).mpr e).symm
    obtain ⟨w, w1, w2⟩ := hex
    refine ⟨w, ?_⟩
    have := hc2 w
    rw [if_neg w2] at this; omega
  · rename_i c
    have c1 : ¬ cnt (L.getD x (0, 0)).2 (seg L a m) < M := fun h => c (Or.inl h)
    have c2 : ¬ 1 < (List.range 40).countP (pT L a m M) := fun h => c (Or.inr h)
    have hxM : cnt (L.getD x (0, 0)).2 (seg L a m) = M := by have := hge (L.getD x (0, 0)).2; omega
    have huniq : ∀ w, cnt w (seg L a m) = M → w = (L.getD x (0, 0)).2 := fun w hw => by
      obtain ⟨i', hi', ei'⟩ := val_ix ha (show 1 ≤ cnt w (seg L a m) by omega)
      refine Classical.byContradiction fun q => ?_
      have hpi' := pT_lk (t := M) hok ha hi'
      have := cp_ge2 (hpi'.1.mpr (by rw [ei']; exact hw)) (hpx.1.mpr hxM) (fun e => q (by rw [← ei']; exact (lk_eq hi' hx).mp e)) 40 hpi'.2 hpx.2
      omega
    have hx2 : cnt (L.getD x (0, 0)).2 l2 = M - 2 := by have := hc2 (L.getD x (0, 0)).2; rw [if_pos rfl] at this; omega
    have hlt : ∀ w, ¬ (L.getD x (0, 0)).2 = w → cnt w l2 ≤ M - 1 := fun w hw => by
      have h1 := hc2 w
      rw [if_neg hw] at h1
      have := hge w
      have : cnt w (seg L a m) ≠ M := fun h => hw (huniq w h).symm
      omega
    split
    · rename_i c3
      refine mxc_of (fun w => ?_) (Or.inr ?_)
      · by_cases q : (L.getD x (0, 0)).2 = w
        · rw [← q, hx2]; omega
        · exact hlt w q
      · obtain ⟨j, j1, j2⟩ := cp_exn c3
        obtain ⟨i, i1, i2, i3⟩ := oft_val ha (show 1 ≤ M - 1 by omega) (of_decide_eq_true j2)
        refine ⟨(L.getD i (0, 0)).2, ?_⟩
        have hn : ¬ (L.getD x (0, 0)).2 = (L.getD i (0, 0)).2 := fun e => by rw [← e, hxM] at i3; omega
        have := hc2 (L.getD i (0, 0)).2
        rw [if_neg hn] at this; omega
    · rename_i c3
      refine mxc_of (fun w => ?_) (Or.inr ⟨_, hx2⟩)
      by_cases q : (L.getD x (0, 0)).2 = w
      · rw [← q, hx2]; exact Nat.le_refl _
      · have h1 := hlt w q
        have h2 : cnt w l2 ≠ M - 1 := fun h => by
          have h3 := hc2 w
          rw [if_neg q] at h3
          obtain ⟨i', hi', ei'⟩ := val_ix ha (show 1 ≤ cnt w (seg L a m) by omega)
          have hpi' := pT_lk (t := M - 1) hok ha hi'
          have := cp_ge1 (hpi'.1.mpr (by rw [ei']; omega)) 40 hpi'.2
          omega
        omega
