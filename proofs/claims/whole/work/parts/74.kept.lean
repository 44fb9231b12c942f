/-! ===== the points that are kept ===== -/
def kp (L : List Pt) (D : List Nat) (a m : Nat) : List Pt := ((List.range' a m).filter fun i => decide (i ∉ D)).map fun i => L.getD i (0, 0)
theorem kp_0 (L : List Pt) (D : List Nat) (a : Nat) : kp L D a 0 = [] := rfl
theorem range'_sn (a m : Nat) : List.range' a (m + 1) = List.range' a m ++ [a + m] := by
  have := List.range'_concat (s := a) (n := m) (step := 1)
  rw [Nat.one_mul] at this
  exact this
theorem kp_s (L : List Pt) (D : List Nat) (a m : Nat) : kp L D a (m + 1) = kp L D a m ++ (if a + m ∈ D then [] else [L.getD (a + m) (0, 0)]) := by
  unfold kp
  rw [range'_sn, List.filter_append, List.map_append]
  congr 1
  by_cases q : a + m ∈ D
  · rw [if_pos q]; simp [q]
  · rw [if_neg q]; simp [q]
theorem kp_app (L : List Pt) (D : List Nat) (a m1 : Nat) : ∀ m2, kp L D a (m1 + m2) = kp L D a m1 ++ kp L D (a + m1) m2 := by
  intro m2
  induction m2 with
  | zero => rw [kp_0, List.append_nil]; rfl
  | succ m2 ih =>
    rw [show m1 + (m2 + 1) = m1 + m2 + 1 by omega, kp_s, ih, kp_s, List.append_assoc, show a + (m1 + m2) = a + m1 + m2 by omega]
theorem kp_congr {L : List Pt} {D D' : List Nat} {a : Nat} : ∀ m, (∀ i, a ≤ i → i < a + m → (i ∈ D ↔ i ∈ D')) → kp L D a m = kp L D' a m := by
  intro m
  induction m with
  | zero => intro _; rfl
  | succ m ih =>
    intro h
    rw [kp_s, kp_s, ih (fun i h1 h2 => h i h1 (by omega))]
    congr 1
    have := h (a + m) (by omega) (by omega)
    by_cases q : a + m ∈ D
    · rw [if_pos q, if_pos (this.mp q)]
    · rw [if_neg q, if_neg (fun c => q (this.mpr c))]
theorem kp_nil {L : List Pt} {a : Nat} : ∀ m, a + m ≤ L.length → kp L [] a m = seg L a m := by
  intro m
  induction m with
  | zero => intro _; rw [kp_0, seg_0]
  | succ m ih =>
    intro h
    rw [kp_s, seg_ext (by omega), ih (by omega), if_neg (by simp)]
theorem kp_sub {L : List Pt} {D : List Nat} {a : Nat} : ∀ m, a + m ≤ L.length → (kp L D a m).Sublist (seg L a m) := by
  intro m
  induction m with
  | zero => intro _; rw [kp_0, seg_0]; exact List.Sublist.refl _
  | succ m ih =>
    intro h
    rw [kp_s, seg_ext (by omega)]
    refine List.Sublist.append (ih (by omega)) ?_
    split
    · exact List.nil_sublist _
    · exact List.Sublist.refl _
def DS (D : List Nat) (a n : Nat) : Prop := D.Pairwise (fun x y => x < y) ∧ ∀ i ∈ D, a ≤ i ∧ i < n
theorem DS.nil (a n : Nat) : DS [] a n := ⟨List.Pairwise.nil, fun i h => absurd h (by simp)⟩
theorem kp_len {L : List Pt} {a : Nat} : ∀ (m : Nat) (D : List Nat), DS D a (a + m) → (kp L D a m).length + D.length = m := by
  intro m
  induction m with
  | zero =>
    intro D h
    cases D with
    | nil => rfl
    | cons x D => have := h.2 x (by simp); omega
  | succ m ih =>
    intro D h
    rw [kp_s, List.length_append]
    rcases List.eq_nil_or_concat D with rfl | ⟨D', z, rfl⟩
    · have := ih [] (DS.nil _ _)
      rw [if_neg (by simp)]
      simp only [List.length_nil, List.length_singleton] at this ⊢; omega
    · simp only [List.concat_eq_append] at h ⊢
      have hp := List.pairwise_append.mp h.1
      have hz := h.2 z (by simp)
      by_cases q : z = a + m
      · rw [if_pos (by simp [q])]
        have hc : kp L (D' ++ [z]) a m = kp L D' a m := kp_congr m (fun i h1 h2 => by
          rw [List.mem_append]
          constructor
          · rintro (c | c)
            · exact c
            · have : i = z := by simpa using c
              omega
          · exact Or.inl)
        have := ih D' ⟨hp.1, fun i hi => ⟨(h.2 i (by simp [hi])).1, by have := hp.2.2 i hi z (by simp); omega⟩⟩
        rw [hc]
        simp only [List.length_nil, List.length_append, List.length_singleton]; omega
      · have hni : ¬ a + m ∈ D' ++ [z] := by
          rw [List.mem_append]
          rintro (c | c)
          · have := hp.2.2 _ c z (by simp); omega
          · have : a + m = z := by simpa using c
            omega
        rw [if_neg hni]
        have := ih (D' ++ [z]) ⟨h.1, fun i hi => ⟨(h.2 i hi).1, by
          rcases List.mem_append.mp hi with c | c
          · have := hp.2.2 i c z (by simp); omega
          · have : i = z := by simpa using c
            omega⟩⟩
        simp only [List.length_singleton]; omega
def cdn (D : List Nat) : Nat := D.foldl (fun acc x => acc * 40 + x) 0
theorem cdn_f : ∀ (D : List Nat) (c : Nat), D.foldl (fun acc x => acc * 40 + x) c = c * 40 ^ D.length + cdn D := by
  intro D
  induction D with
  | nil => intro c; simp [cdn]
  | cons x D ih =>
    intro c
    show D.foldl (fun acc x => acc * 40 + x) (c * 40 + x) = _
    have e : cdn (x :: D) = x * 40 ^ D.length + cdn D := by
      show D.foldl (fun acc x => acc * 40 + x) (0 * 40 + x) = _
      rw [ih]; congr 2; omega
    rw [ih, e, List.length_cons, Nat.pow_succ, Nat.add_mul, Nat.mul_assoc, Nat.mul_comm 40]
    omega
theorem cdn_app (D1 D2 : List Nat) : cdn (D1 ++ D2) = cdn D1 * 40 ^ D2.length + cdn D2 := by
  show (D1 ++ D2).foldl _ 0 = _
  rw [List.foldl_append, cdn_f]; rfl
/-- a list's cost, times NN -/
def cs (kd : Nat) (M : List Pt) : Nat := nK kd M * (5342931457063200 / denK kd M)
def Ach (kd ls : Nat) : Nat → List Pt → Nat → Prop
  | 0, M, v => M = [] ∧ v = 0
  | k + 1, M, v => ∃ M1 M2 u, M = M1 ++ M2 ∧ ls ≤ M1.length ∧ Ach kd ls k M2 u ∧ v = cs kd M1 + u
def StD (kd ls : Nat) (L : List Pt) : SP := fun e a b v w => ∃ D, DS D a (b + 1) ∧ D.length = e ∧ cdn D = w ∧ ls + e ≤ b + 1 - a ∧ v = cs kd (kp L D a (b + 1 - a))
theorem AD_Ach {kd ls : Nat} {L : List Pt} {n : Nat} : ∀ k e a v w, a ≤ n → AD (StD kd ls L) n k e a v w → ∃ D, DS D a n ∧ D.length = e ∧ cdn D = w ∧ Ach kd ls k (kp L D a (n - a)) v := by
  intro k
  induction k with
  | zero =>
    rintro e a v w ha ⟨rfl, rfl, rfl, rfl⟩
    refine ⟨[], DS.nil _ _, rfl, rfl, ?_, rfl⟩
    rw [Nat.sub_self, kp_0]
  | succ k ih =>
    rintro e a v w ha ⟨b, e1, v1, w1, v2, w2, h1, h2, h3, ⟨D1, d1, d2, d3, d4, d5⟩, h5, h6, h7⟩
    obtain ⟨D2, f1, f2, f3, f4⟩ := ih (e - e1) (b + 1) v2 w2 (by omega) h5
    have c1 : kp L (D1 ++ D2) a (b + 1 - a) = kp L D1 a (b + 1 - a) := kp_congr _ (fun i g1 g2 => by
      rw [List.mem_append]
      exact ⟨fun c => c.elim id (fun c => by have := f1.2 i c; omega), Or.inl⟩)
    have c2 : kp L (D1 ++ D2) (b + 1) (n - (b + 1)) = kp L D2 (b + 1) (n - (b + 1)) := kp_congr _ (fun i g1 g2 => by
      rw [List.mem_append]
      exact ⟨fun c => c.elim (fun c => by have := d1.2 i c; omega) id, Or.inr⟩)
    have hsp : kp L (D1 ++ D2) a (n - a) = kp L D1 a (b + 1 - a) ++ kp L D2 (b + 1) (n - (b + 1)) := by
      rw [show n - a = (b + 1 - a) + (n - (b + 1)) by omega, kp_app, c1, show a + (b + 1 - a) = b + 1 by omega, c2]
    have hlen := kp_len (L := L) (a := a) (b + 1 - a) D1 (by rw [show a + (b + 1 - a) = b + 1 by omega]; exact d1)
    refine ⟨D1 ++ D2, ⟨List.pairwise_append.mpr ⟨d1.1, f1.1, fun x hx y hy => ?_⟩, fun i hi => ?_⟩, ?_, ?_, ?_⟩
    · have := d1.2 x hx; have := f1.2 y hy; omega
    · rcases List.mem_append.mp hi with c | c
      · have := d1.2 i c; omega
      · have := f1.2 i c; omega
    · rw [List.length_append]; omega
    · rw [cdn_app, d3, f3, f2]; exact h7.symm
    · exact ⟨_, _, v2, hsp, by omega, f4, by rw [h6, d5]⟩
theorem kp_split {L : List Pt} {D : List Nat} {a : Nat} : ∀ (m : Nat) (M1 M2 : List Pt), kp L D a m = M1 ++ M2 → 1 ≤ M1.length → ∃ m1, m1 ≤ m ∧ 1 ≤ m1 ∧ kp L D a m1 = M1 ∧ kp L D (a + m1) (m - m1) = M2 := by
  intro m
  induction m with
  | zero =>
    intro M1 M2 h h1
    rw [kp_0] at h
    have : M1 = [] := (List.append_eq_nil_iff.mp h.symm).1
    subst this; simp at h1
  | succ m ih =>
    intro M1 M2 h h1
    rcases List.eq_nil_or_concat M2 with rfl | ⟨M2', z, rfl⟩
    · rw [List.append_nil] at h
      exact ⟨m + 1, Nat.le_refl _, by omega, h, by rw [Nat.sub_self, kp_0]⟩
    · simp only [List.concat_eq_append] at h ⊢
      have h0 := h
      rw [kp_s] at h
      by_cases q : a + m ∈ D
      · rw [if_pos q, List.append_nil] at h
        obtain ⟨m1, g1, g2, g3, g4⟩ := ih M1 (M2' ++ [z]) h h1
        refine ⟨m1, by omega, g2, g3, ?_⟩
        rw [show m + 1 - m1 = m - m1 + 1 by omega, kp_s, g4, show a + m1 + (m - m1) = a + m by omega, if_pos q, List.append_nil]
      · rw [if_neg q, ← List.append_assoc] at h
        have hi := List.append_inj' h rfl
        obtain ⟨m1, g1, g2, g3, g4⟩ := ih M1 M2' hi.1 h1
        refine ⟨m1, by omega, g2, g3, ?_⟩
        rw [show m + 1 - m1 = m - m1 + 1 by omega, kp_s, g4, show a + m1 + (m - m1) = a + m by omega, if_neg q, hi.2]
theorem sort_split {D : List Nat} (h : D.Pairwise (fun x y => x < y)) (c : Nat) : D = D.filter (fun i => decide (i < c)) ++ D.filter (fun i => decide (¬ i < c)) := by
  induction D with
  | nil => rfl
  | cons x D ih =>
    have hp := List.pairwise_cons.mp h
    have ih := ih hp.2
    by_cases q : x < c
    · rw [List.filter_cons_of_pos (by simpa using q), List.filter_cons_of_neg (by simpa using q), List.cons_append, ← ih]
    · have e : D.filter (fun i => decide (i < c)) = [] := by
        rw [List.filter_eq_nil_iff]
        intro y hy
        have := hp.1 y hy
        simp; omega
      rw [List.filter_cons_of_neg (by simpa using q), List.filter_cons_of_pos (by simpa using q), e, List.nil_append]
      rw [e, List.nil_append] at ih
      rw [← ih]
theorem Ach_AD {kd ls : Nat} {L : List Pt} {n : Nat} (hls : 1 ≤ ls) : ∀ k a v D, a ≤ n → DS D a n → Ach kd ls (k + 1) (kp L D a (n - a)) v → AD (StD kd ls L) n (k + 1) D.length a v (cdn D) := by
  intro k
  induction k with
  | zero =>
    rintro a v D ha hD ⟨M1, M2, u, h1, h2, ⟨rfl, rfl⟩, h4⟩
    rw [List.append_nil] at h1
    have han : a < n := by
      rcases Nat.lt_or_ge a n with q | q
      · exact q
      · rw [show n - a = 0 by omega, kp_0] at h1; subst h1; simp at h2; omega
    have hlen := kp_len (L := L) (a := a) (n - a) D (by rw [show a + (n - a) = n by omega]; exact hD)
    rw [h1] at hlen
    refine ⟨n - 1, D.length, v, cdn D, 0, 0, by omega, by omega, Nat.le_refl _, ⟨D, by rw [show n - 1 + 1 = n by omega]; exact hD, rfl, rfl, by omega, ?_⟩, ⟨by omega, by omega, rfl, rfl⟩, by omega, by rw [Nat.sub_self, Nat.pow_zero]; omega⟩
    rw [show n - 1 + 1 - a = n - a by omega, h1]; omega
  | succ k ih =>
    rintro a v D ha hD ⟨M1, M2, u, h1, h2, h3, h4⟩
    obtain ⟨m1, g1, g2, g3, g4⟩ := kp_split (n - a) M1 M2 h1 (by omega)
    have hs := sort_split hD.1 (a + m1)
    generalize hD1 : D.filter (fun i => decide (i < a + m1)) = D1 at hs
    generalize hD2 : D.filter (fun i => decide (¬ i < a + m1)) = D2 at hs
    have m1' : ∀ i, i ∈ D1 ↔ i ∈ D ∧ i < a + m1 := fun i => by rw [← hD1, List.mem_filter]; simp
    have m2' : ∀ i, i ∈ D2 ↔ i ∈ D ∧ ¬ i < a + m1 := fun i => by rw [← hD2, List.mem_filter]; simp
    have s1 : DS D1 a (a + m1) := ⟨by rw [← hD1]; exact hD.1.filter _, fun i hi => by have := (m1' i).mp hi; have := hD.2 i this.1; omega⟩
    have s2 : DS D2 (a + m1) n := ⟨by rw [← hD2]; exact hD.1.filter _, fun i hi => by have := (m2' i).mp hi; have := hD.2 i this.1; omega⟩
    have k1 : kp L D1 a m1 = M1 := by
      rw [← g3]
      exact kp_congr _ (fun i i1 i2 => by rw [m1' i]; exact ⟨fun c => c.1, fun c => ⟨c, i2⟩⟩)
    have k2 : kp L D2 (a + m1) (n - (a + m1)) = M2 := by
      rw [← g4, show n - (a + m1) = n - a - m1 by omega]
      exact kp_congr _ (fun i i1 i2 => by rw [m2' i]; exact ⟨fun c => c.1, fun c => ⟨c, by omega⟩⟩)
    have hlen := kp_len (L := L) (a := a) m1 D1 s1
    rw [k1] at hlen
    have hrec := ih (a + m1) u D2 (by omega) s2 (by rw [k2]; exact h3)
    have hl : D.length = D1.length + D2.length := by rw [hs, List.length_append]
    refine ⟨a + m1 - 1, D1.length, cs kd M1, cdn D1, u, cdn D2, by omega, by omega, by omega, ⟨D1, by rw [show a + m1 - 1 + 1 = a + m1 by omega]; exact s1, rfl, rfl, by omega, ?_⟩, ?_, h4, ?_⟩
    · rw [show a + m1 - 1 + 1 - a = m1 by omega, k1]
    · rw [show a + m1 - 1 + 1 = a + m1 by omega, show D.length - D1.length = D2.length by omega]; exact hrec
    · rw [show D.length - D1.length = D2.length by omega, ← cdn_app, ← hs]
/-- the best cuts of a list are its least way -/
theorem Dp_Ach {kd ls : Nat} {M : List Pt} (hls : 1 ≤ ls) : ∀ k a, a ≤ M.length → match Dp (cP kd M ls) M.length k a with
    | none => ∀ v, ¬ Ach kd ls k (M.drop a) v
    | some t => Ach kd ls k (M.drop a) t.1 ∧ ∀ v, Ach kd ls k (M.drop a) v → t.1 ≤ v := by
  intro k
  induction k with
  | zero =>
    intro a ha
    show match (if a = M.length then some ((0, 0) : Nat × Nat) else none) with | none => _ | some t => _
    by_cases q : a = M.length
    · rw [if_pos q]
      refine ⟨⟨by rw [q, List.drop_length], rfl⟩, fun v h => ?_⟩
      exact Nat.zero_le _
    · rw [if_neg q]
      rintro v ⟨h, -⟩
      have := List.drop_eq_nil_iff.mp h
      omega
  | succ k ih =>
    intro a ha
    have key : ∀ v, Ach kd ls (k + 1) (M.drop a) v → ∃ b x u, a ≤ b ∧ b < M.length ∧ cP kd M ls a b = some x ∧ Ach kd ls k (M.drop (b + 1)) u ∧ v = x + u := by
      rintro v ⟨M1, M2, u, h1, h2, h3, h4⟩
      have hl : (M.drop a).length = M1.length + M2.length := by rw [h1, List.length_append]
      rw [List.length_drop] at hl
      refine ⟨a + M1.length - 1, cs kd M1, u, by omega, by omega, ?_, ?_, h4⟩
      · have e : seg M a M1.length = M1 := by unfold seg; rw [h1, List.take_left']; rfl
        have := cP_at (k := kd) (L := M) (ls := ls) (a := a) (m := M1.length - 1) (by omega)
        rw [show a + (M1.length - 1) = a + M1.length - 1 by omega, show M1.length - 1 + 1 = M1.length by omega, e] at this
        exact this
      · have e : M.drop (a + M1.length - 1 + 1) = M2 := by
          rw [show a + M1.length - 1 + 1 = a + M1.length by omega, ← List.drop_drop, h1, List.drop_left']
          rfl
        rw [e]; exact h3
    have mk : ∀ b x u, a ≤ b → b < M.length → cP kd M ls a b = some x → Ach kd ls k (M.drop (b + 1)) u → Ach kd ls (k + 1) (M.drop a) (x + u) := by
      intro b x u h1 h2 h3 h4
      obtain ⟨m, rfl⟩ : ∃ m, b = a + m := ⟨b - a, by omega⟩
      by_cases q : ls ≤ m + 1
      · rw [cP_at q] at h3
        have h3 := Option.some.inj h3
        refine ⟨seg M a (m + 1), M.drop (a + m + 1), u, ?_, by rw [seg_len (by omega)]; exact q, h4, by rw [← h3]; rfl⟩
        unfold seg
        rw [show a + m + 1 = a + (m + 1) by omega, ← List.drop_drop, List.take_append_drop]
      · rw [cP_no q] at h3; exact absurd h3 (by simp)
    rw [Dp_s]
    have spec := bst_spec (fD (cP kd M ls) M.length k a) a (M.length - a)
    cases hb : bst (fD (cP kd M ls) M.length k a) a (M.length - a) with
    | none =>
      intro v hv
      obtain ⟨b, x, u, g1, g2, g3, g4, g5⟩ := key v hv
      have hno := spec.1 hb b g1 (by omega)
      unfold fD at hno
      rw [g3] at hno
      have i := ih (b + 1) (by omega)
      cases hd : Dp (cP kd M ls) M.length k (b + 1) with
      | none => rw [hd] at i; exact i u g4
      | some t => rw [hd] at hno; exact absurd hno (by simp)
    | some t =>
      obtain ⟨⟨s1, s2, s3⟩, s4, -⟩ := spec.2 t hb
      refine ⟨?_, fun v hv => ?_⟩
      · unfold fD at s3
        cases hx : cP kd M ls a (t.2 - 1) with
        | none => rw [hx] at s3; exact absurd s3 (by simp)
        | some x =>
          rw [hx] at s3
          have i := ih (t.2 - 1 + 1) (by omega)
          cases hd : Dp (cP kd M ls) M.length k (t.2 - 1 + 1) with
          | none => rw [hd] at s3; exact absurd s3 (by simp)
          | some t' =>
            rw [hd] at s3 i
            have s3 : some (x + t'.1) = some t.1 := s3
            rw [← Option.some.inj s3]
            exact mk (t.2 - 1) x t'.1 (by omega) (by omega) hx i.1
      · obtain ⟨b, x, u, g1, g2, g3, g4, g5⟩ := key v hv
        have i := ih (b + 1) (by omega)
        cases hd : Dp (cP kd M ls) M.length k (b + 1) with
        | none => rw [hd] at i; exact absurd g4 (i u)
        | some t' =>
          rw [hd] at i
          have h1 := s4 b (x + t'.1) g1 (by omega) (by unfold fD; rw [g3, hd]; rfl)
          have h2 := i.2 u g4
          omega
/-- all ways without q points -/
def WS (kd ls : Nat) (L : List Pt) (K q : Nat) : Nat → Nat → Prop := fun v w => ∃ D, DS D 0 L.length ∧ D.length = q ∧ cdn D = w ∧ Ach kd ls K (kp L D 0 L.length) v
theorem AD_WS {kd ls : Nat} {L : List Pt} {K q : Nat} (hls : 1 ≤ ls) (hK : 1 ≤ K) (v w : Nat) : AD (StD kd ls L) L.length K q 0 v w ↔ WS kd ls L K q v w := by
  constructor
  · intro h
    obtain ⟨D, h1, h2, h3, h4⟩ := AD_Ach K q 0 v w (Nat.zero_le _) h
    exact ⟨D, h1, h2, h3, h4⟩
  · rintro ⟨D, h1, h2, h3, h4⟩
    obtain ⟨k, rfl⟩ : ∃ k, K = k + 1 := ⟨K - 1, by omega⟩
    have := Ach_AD hls k 0 v D (Nat.zero_le _) h1 (by rw [Nat.sub_zero]; exact h4)
    rw [h2, h3] at this
    exact this
