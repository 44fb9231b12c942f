/-! ===== what both sides stand for: told, as of, least sizes, the text, the finding, the sheets ===== -/
abbrev TE : Type := Int32 × Int32 × Int32 × Int32
abbrev ST : Type := List TE × Int32 × List Int32 × List Int32 × Int32 × List (Option (Int32 × List Int32))
def teD : TE := (0, 0, 0, 0)
theorem isW0 {x a b : Int32} : f_LB_isWithin x a b = 0 ↔ ¬ (a ≤ x ∧ x ≤ b) := by
  unfold f_LB_isWithin
  by_cases h1 : x < a
  · rw [if_pos h1]; simp only [true_iff]; exact fun h => absurd h1 (Int32.not_lt.mpr h.1)
  · rw [if_neg h1]
    by_cases h2 : b < x
    · rw [if_pos h2]; simp only [true_iff]; exact fun h => absurd h2 (Int32.not_lt.mpr h.2)
    · rw [if_neg h2]
      constructor
      · intro h; exact absurd h (by decide)
      · intro h; exact absurd ⟨Int32.not_lt.mp h1, Int32.not_lt.mp h2⟩ h
theorem isW1 {x a b : Int32} : ¬ f_LB_isWithin x a b = 0 ↔ (a ≤ x ∧ x ≤ b) := by rw [isW0]; exact Decidable.not_not
theorem isRow1 {x : Int32} (h : ¬ f_LB_isRow x = 0) : ∃ r, r < 4 ∧ x = nI r := by
  obtain ⟨h1, h2⟩ := isW1.mp (show ¬ f_LB_isWithin x 0 3 = 0 from h)
  obtain ⟨j, hj, e⟩ := nI_of2 (n := 3) (by decide) (Int32.not_lt.mpr h1) h2
  exact ⟨j, by omega, e⟩
theorem isRow0 {r : Nat} (h : r < 4) : ¬ f_LB_isRow (nI r) = 0 := by
  match r, h with
  | 0, _ => decide
  | 1, _ => decide
  | 2, _ => decide
  | 3, _ => decide
theorem isDay1 {x : Int32} (h : ¬ f_LB_isDay x = 0) : ∃ r, r < 40 ∧ x = nI r := by
  obtain ⟨h1, h2⟩ := isW1.mp (show ¬ f_LB_isWithin x 0 39 = 0 from h)
  obtain ⟨j, hj, e⟩ := nI_of2 (n := 39) (by decide) (Int32.not_lt.mpr h1) h2
  exact ⟨j, by omega, e⟩
theorem isSht1 {x : Int32} (h : ¬ f_LB_isSheet x = 0) : ∃ r, r < 4 ∧ x = nI r := by
  obtain ⟨h1, h2⟩ := isW1.mp (show ¬ f_LB_isWithin x 0 3 = 0 from h)
  obtain ⟨j, hj, e⟩ := nI_of2 (n := 3) (by decide) (Int32.not_lt.mpr h1) h2
  exact ⟨j, by omega, e⟩
theorem vin_row {x : Int32} (h : ∃ r, r < 4 ∧ x = nI r) : vp_in x 4 := by obtain ⟨r, hr, rfl⟩ := h; exact vp_in_nI hr (by omega)
theorem vin_day {x : Int32} (h : ∃ r, r < 40 ∧ x = nI r) : vp_in x 40 := by obtain ⟨r, hr, rfl⟩ := h; exact vp_in_nI hr (by omega)
/-- the value that a row has on a day as of a time -/
def vwl (told : List TE) (r dy t : Int32) : Int32 := told.foldl (fun v e => if e.1 = r ∧ e.2.1 = dy ∧ e.2.2.2 ≤ t then e.2.2.1 else v) (-9999)
theorem vwl_app (told : List TE) (e : TE) (r dy t : Int32) : vwl (told ++ [e]) r dy t = if e.1 = r ∧ e.2.1 = dy ∧ e.2.2.2 ≤ t then e.2.2.1 else vwl told r dy t := by simp [vwl]
def pdd (told : List TE) (r : Nat) (t : Int32) : List Nat := dys (fun dd => vwl told (nI r) (nI dd) t) 40
def pvv (told : List TE) (r : Nat) (t : Int32) : List Int32 := (pdd told r t).map fun dd => vwl told (nI r) (nI dd) t
theorem dys_congr {f g : Nat → Int32} {n : Nat} (h : ∀ k, k < n → f k = g k) : dys f n = dys g n := by
  unfold dys
  refine List.filter_congr fun k hk => ?_
  rw [h k (List.mem_range.mp hk)]
theorem map_congr_dys {f g : Nat → Int32} {n : Nat} (h : ∀ k, k < n → f k = g k) : (dys f n).map f = (dys g n).map g := by
  rw [dys_congr h]
  exact List.map_congr_left fun k hk => h k (dys_mem.mp hk).1
theorem pdd_len (told : List TE) (r : Nat) (t : Int32) : (pdd told r t).length ≤ 40 := dys_len _ 40
theorem pvv_len (told : List TE) (r : Nat) (t : Int32) : (pvv told r t).length = (pdd told r t).length := by simp [pvv]
/-- the class's ledger -/
def TC (told : List TE) (I : MI) : Prop := told.length ≤ 200 ∧ I 1 4 = nI told.length ∧ ∀ k, k < told.length → I 2 k = (told.getD k teD).1 ∧ I 3 k = (told.getD k teD).2.1 ∧ I 4 k = (told.getD k teD).2.2.1 ∧ I 5 k = (told.getD k teD).2.2.2
def okE (e : TE) : Prop := (∃ r, r < 4 ∧ e.1 = nI r) ∧ (∃ j, j < 40 ∧ e.2.1 = nI j) ∧ ¬ f_LB_isValue e.2.2.1 = 0 ∧ 0 ≤ e.2.2.2 ∧ e.2.2.2 ≤ 999
def okT (told : List TE) : Prop := (∀ e ∈ told, okE e) ∧ told.Pairwise fun a b => a.2.2.2 ≤ b.2.2.2
/-- a row of the class as it is known -/
def VC (told : List TE) (kn : Int32) (r : Nat) (I : MI) : Prop := (∀ k, k < 40 → I (8 + 5 * r) k = vwl told (nI r) (nI k) kn) ∧ PH (7 + 5 * r) (pdd told r kn) (pvv told r kn) I
def SC (q : Option (Int32 × List Int32)) (s : Nat) (I : MI) : Prop := match q with
  | none => I (59 + 2 * s) 2 = -1
  | some (ty, it) => I (59 + 2 * s) 1 = ty ∧ I (59 + 2 * s) 2 = nI it.length ∧ ∀ j, j < it.length → I (60 + 2 * s) j = it.getD j 0
def okQ (q : Option (Int32 × List Int32)) : Prop := match q with
  | none => True
  | some (ty, it) => ¬ f_LB_isType ty = 0 ∧ it.length ≤ 60
def okS (st : ST) : Prop := okT st.1 ∧ (0 ≤ st.2.1 ∧ st.2.1 ≤ 999) ∧ (st.2.2.1.length = 4 ∧ ∀ m ∈ st.2.2.1, 1 ≤ m ∧ m ≤ 10) ∧ (st.2.2.2.1.length ≤ 100 ∧ ∀ b ∈ st.2.2.2.1, 0 ≤ b ∧ b ≤ 255) ∧ st.2.2.2.2.2.length = 4 ∧ ∀ q ∈ st.2.2.2.2.2, okQ q
/-- the class stands for st -/
def RC (st : ST) (I : MI) (J : MJ) : Prop := TC st.1 I ∧ I 0 9 = st.2.1 ∧ (∀ r, r < 4 → VC st.1 st.2.1 r I) ∧ (∀ r, r < 4 → I 32 r = st.2.2.1.getD r 0) ∧ (I 53 1 = nI st.2.2.2.1.length ∧ ∀ k, k < st.2.2.2.1.length → I 54 k = st.2.2.2.1.getD k 0) ∧ I 0 10 = st.2.2.2.2.1 ∧ (∀ s, s < 4 → SC (st.2.2.2.2.2.getD s none) s I) ∧ J 35 1 = 0 ∧ J 38 1 = 20
def SM (q : Option (Int32 × List Int32)) (s : Nat) (I : MI) : Prop := match q with
  | none => I 95 s = 0
  | some (ty, it) => I 95 s = 1 ∧ I 96 s = ty ∧ I 97 s = nI it.length ∧ ∀ j, j < it.length → I 98 (60 * s + j) = it.getD j 0
/-- the reference stands for st -/
def RM (st : ST) (I : MI) (J : MJ) : Prop := (st.1.length ≤ 200 ∧ I 67 0 = nI st.1.length ∧ ∀ k, k < st.1.length → I 68 k = (st.1.getD k teD).1 ∧ I 69 k = (st.1.getD k teD).2.1 ∧ I 70 k = (st.1.getD k teD).2.2.1 ∧ I 71 k = (st.1.getD k teD).2.2.2) ∧ I 67 5 = st.2.1 ∧ (∀ r, r < 4 → I 72 r = st.2.2.1.getD r 0) ∧ (I 67 31 = nI st.2.2.2.1.length ∧ ∀ k, k < st.2.2.2.1.length → I 91 k = st.2.2.2.1.getD k 0) ∧ I 67 44 = st.2.2.2.2.1 ∧ ∀ s, s < 4 → SM (st.2.2.2.2.2.getD s none) s I
/-- cells of the class that hold what lasts -/
def lasts (a : Nat) : Prop := a ≤ 26 ∨ a = 32 ∨ a = 54 ∨ (58 ≤ a ∧ a ≤ 66)
/-- a call of the class that only asks: what lasts stays -/
def KC (I : MI) (J : MJ) (I' : MI) (J' : MJ) : Prop := (∀ a, lasts a ∨ 67 ≤ a → I' a = I a) ∧ I' 53 1 = I 53 1 ∧ J' 35 1 = J 35 1 ∧ J' 38 1 = J 38 1 ∧ ∀ a, 67 ≤ a → J' a = J a
theorem KC.rf {I : MI} {J : MJ} : KC I J I J := ⟨fun _ _ => rfl, rfl, rfl, rfl, fun _ _ => rfl⟩
theorem KC.tr {I I' I'' : MI} {J J' J'' : MJ} (h : KC I J I' J') (g : KC I' J' I'' J'') : KC I J I'' J'' :=
  ⟨fun a ha => (g.1 a ha).trans (h.1 a ha), g.2.1.trans h.2.1, g.2.2.1.trans h.2.2.1, g.2.2.2.1.trans h.2.2.2.1, fun a ha => (g.2.2.2.2 a ha).trans (h.2.2.2.2 a ha)⟩
theorem TC.of {told : List TE} {I I' : MI} (h : TC told I) (hk : ∀ a, 1 ≤ a → a ≤ 5 → I' a = I a) : TC told I' := by
  refine ⟨h.1, by rw [hk 1 (by omega) (by omega)]; exact h.2.1, fun k hk' => ?_⟩
  rw [hk 2 (by omega) (by omega), hk 3 (by omega) (by omega), hk 4 (by omega) (by omega), hk 5 (by omega) (by omega)]
  exact h.2.2 k hk'
theorem PH.of {o : Nat} {ds : List Nat} {vs : List Int32} {I I' : MI} (h : PH o ds vs I) (h0 : I' o = I o) (h2 : I' (o + 2) = I (o + 2)) (h3 : I' (o + 3) = I (o + 3)) (h4 : I' (o + 4) = I (o + 4)) : PH o ds vs I' := by
  refine ⟨by rw [h0]; exact h.1, h.2.1, fun k hk => ?_⟩
  rw [h2, h3, h4]; exact h.2.2 k hk
theorem VC.of {told : List TE} {kn : Int32} {r : Nat} {I I' : MI} (h : VC told kn r I) (hk : ∀ a, 7 + 5 * r ≤ a → a ≤ 11 + 5 * r → I' a = I a) : VC told kn r I' := by
  refine ⟨fun k hk' => ?_, h.2.of (hk _ (by omega) (by omega)) (hk _ (by omega) (by omega)) (hk _ (by omega) (by omega)) (hk _ (by omega) (by omega))⟩
  rw [hk _ (by omega) (by omega)]; exact h.1 k hk'
theorem SC.of {q : Option (Int32 × List Int32)} {s : Nat} {I I' : MI} (h : SC q s I) (h1 : I' (59 + 2 * s) = I (59 + 2 * s)) (h2 : I' (60 + 2 * s) = I (60 + 2 * s)) : SC q s I' := by
  cases q with
  | none => show I' (59 + 2 * s) 2 = -1; rw [h1]; exact h
  | some q =>
    obtain ⟨ty, it⟩ := q
    show I' (59 + 2 * s) 1 = ty ∧ I' (59 + 2 * s) 2 = nI it.length ∧ ∀ j, j < it.length → I' (60 + 2 * s) j = it.getD j 0
    rw [h1, h2]; exact h
theorem RC.keep {st : ST} {I I' : MI} {J J' : MJ} (h : RC st I J) (k : KC I J I' J') : RC st I' J' := by
  have hk : ∀ a, lasts a → I' a = I a := fun a ha => k.1 a (Or.inl ha)
  obtain ⟨h1, h2, h3, h4, h5, h6, h7, h8, h9⟩ := h
  refine ⟨h1.of fun a _ _ => hk a (Or.inl (by omega)), by rw [hk 0 (Or.inl (by omega))]; exact h2, fun r hr => (h3 r hr).of fun a _ _ => hk a (Or.inl (by omega)), fun r hr => by rw [hk 32 (Or.inr (Or.inl rfl))]; exact h4 r hr, ⟨by rw [k.2.1]; exact h5.1, fun j hj => by rw [hk 54 (Or.inr (Or.inr (Or.inl rfl)))]; exact h5.2 j hj⟩, by rw [hk 0 (Or.inl (by omega))]; exact h6, fun s hs => (h7 s hs).of (hk _ (Or.inr (Or.inr (Or.inr ⟨by omega, by omega⟩)))) (hk _ (Or.inr (Or.inr (Or.inr ⟨by omega, by omega⟩)))), by rw [k.2.2.1]; exact h8, by rw [k.2.2.2.1]; exact h9⟩
theorem SM.of {q : Option (Int32 × List Int32)} {s : Nat} {I I' : MI} (h : SM q s I) (h5 : I' 95 = I 95) (h6 : I' 96 = I 96) (h7 : I' 97 = I 97) (h8 : I' 98 = I 98) : SM q s I' := by
  cases q with
  | none => show I' 95 s = 0; rw [h5]; exact h
  | some q =>
    obtain ⟨ty, it⟩ := q
    show I' 95 s = 1 ∧ I' 96 s = ty ∧ I' 97 s = nI it.length ∧ ∀ j, j < it.length → I' 98 (60 * s + j) = it.getD j 0
    rw [h5, h6, h7, h8]; exact h
theorem RM.of {st : ST} {I I' : MI} {J J' : MJ} (h : RM st I J) (ha : ∀ a, 68 ≤ a → a ≤ 72 → I' a = I a) (h91 : I' 91 = I 91) (hb : ∀ a, 95 ≤ a → a ≤ 98 → I' a = I a) (h0 : I' 67 0 = I 67 0) (h5 : I' 67 5 = I 67 5) (h31 : I' 67 31 = I 67 31) (h44 : I' 67 44 = I 67 44) : RM st I' J' := by
  obtain ⟨⟨e1, e2, e3⟩, e4, e5, e6, e7, e8⟩ := h
  refine ⟨⟨e1, by rw [h0]; exact e2, fun k hk => ?_⟩, by rw [h5]; exact e4, fun r hr => by rw [ha 72 (by omega) (by omega)]; exact e5 r hr, ⟨by rw [h31]; exact e6.1, fun k hk => by rw [h91]; exact e6.2 k hk⟩, by rw [h44]; exact e7, fun s hs => (e8 s hs).of (hb _ (by omega) (by omega)) (hb _ (by omega) (by omega)) (hb _ (by omega) (by omega)) (hb _ (by omega) (by omega))⟩
  rw [ha 68 (by omega) (by omega), ha 69 (by omega) (by omega), ha 70 (by omega) (by omega), ha 71 (by omega) (by omega)]
  exact e3 k hk
theorem RM.hi {st : ST} {I I' : MI} {J J' : MJ} (h : RM st I J) (k : ∀ a, 67 ≤ a → I' a = I a) : RM st I' J' :=
  h.of (fun a _ _ => k a (by omega)) (k 91 (by omega)) (fun a _ _ => k a (by omega)) (by rw [k 67 (by omega)]) (by rw [k 67 (by omega)]) (by rw [k 67 (by omega)]) (by rw [k 67 (by omega)])
/-- a call of the reference that only asks -/
def KM (I : MI) (J : MJ) (I' : MI) (J' : MJ) : Prop := (∀ a, a < 67 → I' a = I a ∧ J' a = J a) ∧ (∀ a, 68 ≤ a → a ≤ 72 → I' a = I a) ∧ I' 91 = I 91 ∧ (∀ a, 95 ≤ a → a ≤ 98 → I' a = I a) ∧ I' 67 0 = I 67 0 ∧ I' 67 5 = I 67 5 ∧ I' 67 31 = I 67 31 ∧ I' 67 44 = I 67 44
theorem KM.rf {I : MI} {J : MJ} : KM I J I J := ⟨fun _ _ => ⟨rfl, rfl⟩, fun _ _ _ => rfl, rfl, fun _ _ _ => rfl, rfl, rfl, rfl, rfl⟩
theorem KM.tr {I I' I'' : MI} {J J' J'' : MJ} (h : KM I J I' J') (g : KM I' J' I'' J'') : KM I J I'' J'' :=
  ⟨fun a ha => ⟨(g.1 a ha).1.trans (h.1 a ha).1, (g.1 a ha).2.trans (h.1 a ha).2⟩, fun a h1 h2 => (g.2.1 a h1 h2).trans (h.2.1 a h1 h2), g.2.2.1.trans h.2.2.1, fun a h1 h2 => (g.2.2.2.1 a h1 h2).trans (h.2.2.2.1 a h1 h2), g.2.2.2.2.1.trans h.2.2.2.2.1, g.2.2.2.2.2.1.trans h.2.2.2.2.2.1, g.2.2.2.2.2.2.1.trans h.2.2.2.2.2.2.1, g.2.2.2.2.2.2.2.trans h.2.2.2.2.2.2.2⟩
theorem RM.keep {st : ST} {I I' : MI} {J J' : MJ} (h : RM st I J) (k : KM I J I' J') : RM st I' J' := h.of k.2.1 k.2.2.1 k.2.2.2.1 k.2.2.2.2.1 k.2.2.2.2.2.1 k.2.2.2.2.2.2.1 k.2.2.2.2.2.2.2
theorem RC.lo {st : ST} {I I' : MI} {J J' : MJ} (h : RC st I J) (k : ∀ a, a < 67 → I' a = I a ∧ J' a = J a) : RC st I' J' := by
  obtain ⟨h1, h2, h3, h4, h5, h6, h7, h8, h9⟩ := h
  refine ⟨h1.of fun a _ _ => (k a (by omega)).1, by rw [(k 0 (by omega)).1]; exact h2, fun r hr => (h3 r hr).of fun a _ _ => (k a (by omega)).1, fun r hr => by rw [(k 32 (by omega)).1]; exact h4 r hr, ⟨by rw [(k 53 (by omega)).1]; exact h5.1, fun j hj => by rw [(k 54 (by omega)).1]; exact h5.2 j hj⟩, by rw [(k 0 (by omega)).1]; exact h6, fun s hs => (h7 s hs).of (k _ (by omega)).1 (k _ (by omega)).1, by rw [(k 35 (by omega)).2]; exact h8, by rw [(k 38 (by omega)).2]; exact h9⟩
