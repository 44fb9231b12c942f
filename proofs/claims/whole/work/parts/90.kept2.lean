/-! ===== every call keeps okS ===== -/
theorem okS_tells {st : ST} {r dy v t : Int32} (hS : okS st) : okS (tells st r dy v t).2 := by
  unfold tells
  by_cases h : f_LB_isRow r = 0 ∨ f_LB_isDay dy = 0 ∨ f_LB_isValue v = 0 ∨ f_LB_isWithin t (lastL st.1) 999 = 0
  · rw [if_pos h]; exact hS
  · rw [if_neg h]
    simp only [not_or] at h
    by_cases h2 : 200 ≤ st.1.length
    · rw [if_pos h2]; exact hS
    · rw [if_neg h2]; exact ⟨okT_push hS.1 h.1 h.2.1 h.2.2.1 h.2.2.2, hS.2⟩
theorem lastL_app {told : List TE} {e : TE} : lastL (told ++ [e]) = e.2.2.2 := by simp [lastL]
theorem okT_rdL {r t : Int32} {dy : Nat} (hr : ¬ f_LB_isRow r = 0) (hd : dy < 40) (h2 : t ≤ 999) : ∀ (vs : List Int32) (told : List TE) (k : Nat), okT told → lastL told ≤ t → okT (rdL told r (nI dy) t vs k).1 := by
  intro vs
  induction vs with
  | nil => intro told k h _; exact h
  | cons v rest ih =>
    intro told k h hl
    unfold rdL
    by_cases q : (nI dy).toInt + k < 40 ∧ ¬ f_LB_isValue v = 0 ∧ told.length < 200
    · rw [if_pos q]
      have tdy : (nI dy).toInt = dy := nI_ti (by omega)
      have hk : dy + k < 40 := by have := q.1; rw [tdy] at this; omega
      have hday : ¬ f_LB_isDay (nI dy + nI k) = 0 := by
        rw [nI_add]
        show ¬ f_LB_isWithin (nI (dy + k)) 0 39 = 0
        have z : (nI (dy + k) ≤ 39) ↔ dy + k ≤ 39 := nI_leI (b := 39) (by omega) (by omega)
        exact isW1.mpr ⟨nI_pos' (by omega), z.mpr (by omega)⟩
      refine ih _ _ (okT_push h hr hday q.2.1 (isW1.mpr ⟨hl, h2⟩)) ?_
      rw [lastL_app]; exact Int32.le_refl _
    · rw [if_neg q]; exact h
theorem okS_fd {st : ST} {n : Int32} (hS : okS st) : okS (sFd st n) := hS
theorem okS_founds {st : ST} {n : Int32} (hS : okS st) : okS (founds st n).2 := hS
theorem okS_setQ {st : ST} {s : Int32} {q : QT} (hS : okS st) (hq : okQ q) : okS (setQ st s q) := by
  refine ⟨hS.1, hS.2.1, hS.2.2.1, hS.2.2.2.1, ?_, fun x hx => ?_⟩
  · show (st.2.2.2.2.2.set s.toNatClampNeg q).length = 4
    rw [List.length_set]; exact hS.2.2.2.2.1
  · rcases List.mem_or_eq_of_mem_set (show x ∈ st.2.2.2.2.2.set s.toNatClampNeg q from hx) with h | h
    · exact hS.2.2.2.2.2 x h
    · rw [h]; exact hq
theorem okS_shO {st : ST} {s : Int32} (hS : okS st) (hs : ¬ f_LB_isSheet s = 0) : okQ (shO st s) := by
  obtain ⟨j, hj, rfl⟩ := isSht1 hs
  unfold shO
  rw [nI_clamp (by omega)]
  exact okS_sh hS hj
theorem okS_reads {st : ST} {s r dy t : Int32} (hS : okS st) : okS (reads st s r dy t).2 := by
  unfold reads
  by_cases h : f_LB_isSheet s = 0 ∨ f_LB_isRow r = 0 ∨ f_LB_isDay dy = 0 ∨ f_LB_isWithin t (lastL st.1) 999 = 0
  · rw [if_pos h]; exact hS
  · rw [if_neg h]
    simp only [not_or] at h
    obtain ⟨h1, h2, h3, h4⟩ := h
    obtain ⟨j, hj, rfl⟩ := isDay1 h3
    obtain ⟨q1, q2⟩ := isW1.mp h4
    cases shO st s with
    | none => exact okS_founds hS
    | some x => exact ⟨okT_rdL h2 hj q2 _ _ _ hS.1 q1, hS.2⟩
theorem okS_asOfs {st : ST} {t : Int32} (hS : okS st) : okS (asOfs st t).2 := by
  unfold asOfs
  by_cases h : f_LB_isWithin t 0 999 = 0
  · rw [if_pos h]; exact hS
  · rw [if_neg h]; exact ⟨hS.1, isW1.mp h, hS.2.2⟩
theorem okS_leasts {st : ST} {r m : Int32} (hS : okS st) : okS (leasts st r m).2 := by
  unfold leasts
  by_cases h : f_LB_isRow r = 0 ∨ f_LB_isWithin m 1 10 = 0
  · rw [if_pos h]; exact hS
  · rw [if_neg h]
    simp only [not_or] at h
    refine ⟨hS.1, hS.2.1, ⟨?_, fun x hx => ?_⟩, hS.2.2.2⟩
    · show (st.2.2.1.set r.toNatClampNeg m).length = 4
      rw [List.length_set]; exact hS.2.2.1.1
    · rcases List.mem_or_eq_of_mem_set (show x ∈ st.2.2.1.set r.toNatClampNeg m from hx) with q | q
      · exact hS.2.2.1.2 x q
      · rw [q]; exact isW1.mp h.2
theorem okS_types {st : ST} {b : Int32} (hS : okS st) : okS (types st b).2 := by
  unfold types
  by_cases h : f_LB_isWithin b 0 255 = 0
  · rw [if_pos h]; exact hS
  · rw [if_neg h]
    by_cases h2 : 100 ≤ st.2.2.2.1.length
    · rw [if_pos h2]; exact hS
    · rw [if_neg h2]
      refine ⟨hS.1, hS.2.1, hS.2.2.1, ⟨?_, fun x hx => ?_⟩, hS.2.2.2.2⟩
      · show (st.2.2.2.1 ++ [b]).length ≤ 100
        rw [List.length_append]; show _ + 1 ≤ 100; omega
      · rcases List.mem_append.mp (show x ∈ st.2.2.2.1 ++ [b] from hx) with q | q
        · exact hS.2.2.2.1.2 x q
        · rw [List.mem_singleton.mp q]; exact isW1.mp h
theorem okS_wipes {st : ST} (hS : okS st) : okS (wipes st).2 := ⟨hS.1, hS.2.1, hS.2.2.1, ⟨Nat.zero_le _, fun _ h => absurd h List.not_mem_nil⟩, hS.2.2.2.2⟩
theorem okS_sheets {st : ST} {s ty n : Int32} (hS : okS st) : okS (sheets st s ty n).2 := by
  unfold sheets
  by_cases h : f_LB_isSheet s = 0 ∨ f_LB_isType ty = 0 ∨ ¬ n ≤ 60
  · rw [if_pos h]; exact hS
  · rw [if_neg h]
    simp only [not_or, Decidable.not_not] at h
    by_cases h2 : ¬ 0 ≤ n
    · rw [if_pos h2]; exact okS_founds hS
    · rw [if_neg h2]
      refine okS_setQ hS ⟨h.2.1, ?_⟩
      rw [List.length_replicate]
      obtain ⟨j, hj, rfl⟩ := nI_of2 (n := 60) (by decide) (Int32.not_lt.mpr (Decidable.not_not.mp h2)) h.2.2
      rw [nI_clamp (by omega)]; omega
theorem okS_loses {st : ST} {s : Int32} (hS : okS st) : okS (loses st s).2 := by
  unfold loses
  by_cases h : f_LB_isSheet s = 0
  · rw [if_pos h]; exact hS
  · rw [if_neg h]
    cases shO st s with
    | none => exact okS_founds hS
    | some x => exact okS_setQ hS trivial
theorem okS_puts {st : ST} {s ty i v : Int32} (hS : okS st) : okS (puts st s ty i v).2 := by
  unfold puts
  by_cases h : f_LB_isSheet s = 0 ∨ f_LB_isType ty = 0
  · rw [if_pos h]; exact hS
  · rw [if_neg h]
    simp only [not_or] at h
    by_cases h2 : lacksQ (shO st s) ty i = 0
    · rw [if_pos h2]
      have hq := okS_shO hS h.1
      revert h2 hq
      cases shO st s with
      | none => intro h2; exact absurd (show (1 : Int32) = 0 from h2) (by decide)
      | some x => exact fun _ hq => okS_setQ hS ⟨hq.1, by show (List.set _ _ _).length ≤ 60; rw [List.length_set]; exact hq.2⟩
    · rw [if_neg h2]; exact okS_founds hS
theorem okS_gets {st : ST} {s ty i : Int32} (hS : okS st) : okS (gets st s ty i).2 := by
  unfold gets
  by_cases h : f_LB_isSheet s = 0 ∨ f_LB_isType ty = 0
  · rw [if_pos h]; exact hS
  · rw [if_neg h]
    by_cases h2 : lacksQ (shO st s) ty i = 0
    · rw [if_pos h2]; exact hS
    · rw [if_neg h2]; exact okS_fd hS
theorem okS_copys {st : ST} {s i t j n : Int32} (hS : okS st) : okS (copys st s i t j n).2 := by
  unfold copys
  by_cases h : f_LB_isSheet s = 0 ∨ f_LB_isSheet t = 0
  · rw [if_pos h]; exact hS
  · rw [if_neg h]
    simp only [not_or] at h
    by_cases h2 : shO st s = none ∨ shO st t = none
    · rw [if_pos h2]; exact okS_founds hS
    · rw [if_neg h2]
      simp only [not_or] at h2
      by_cases h3 : ¬ typeQ (shO st s) = typeQ (shO st t)
      · rw [if_pos h3]; exact okS_founds hS
      · rw [if_neg h3]
        by_cases h4 : wthn i n (itemsQ (shO st s)).length ∧ wthn j n (itemsQ (shO st t)).length
        · rw [if_pos h4]
          have hq := okS_shO hS h.2
          have h5 := h2.2
          refine okS_setQ hS ?_
          generalize shO st t = qt at hq h5 ⊢
          cases qt with
          | none => exact absurd rfl h5
          | some x => exact ⟨hq.1, by show (cpL _ _ _ _ _).length ≤ 60; unfold cpL; rw [List.length_map, List.length_range]; exact hq.2⟩
        · rw [if_neg h4]; exact okS_founds hS
theorem okS_writes {st : ST} {r s : Int32} (hS : okS st) : okS (writes st r s).2 := by
  unfold writes
  by_cases h : f_LB_isRow r = 0 ∨ f_LB_isSheet s = 0
  · rw [if_pos h]; exact hS
  · rw [if_neg h]
    simp only [not_or] at h
    have hq := okS_shO hS h.2
    generalize shO st s = qt at hq ⊢
    cases qt with
    | none => exact okS_founds hS
    | some x => exact okS_setQ hS ⟨hq.1, by show (wrL _ _ _ _ _ _).length ≤ 60; unfold wrL; rw [List.length_map, List.length_range]; exact hq.2⟩
theorem KC.hi {I I' : MI} {J J' : MJ} (h : KC I J I' J') : ∀ a, 67 ≤ a → I' a = I a := fun a ha => h.1 a (Or.inr ha)
