/-! ===== the class: as of, least, value, many, type, wipe ===== -/
def sKn (st : ST) (t : Int32) : ST := (st.1, t, st.2.2)
def sLst (st : ST) (l : List Int32) : ST := (st.1, st.2.1, l, st.2.2.2)
def sTxt (st : ST) (l : List Int32) : ST := (st.1, st.2.1, st.2.2.1, l, st.2.2.2.2)
def sFd (st : ST) (n : Int32) : ST := (st.1, st.2.1, st.2.2.1, st.2.2.2.1, n, st.2.2.2.2.2)
def sShs (st : ST) (l : List (Option (Int32 × List Int32))) : ST := (st.1, st.2.1, st.2.2.1, st.2.2.2.1, st.2.2.2.2.1, l)
def asOfs (st : ST) (t : Int32) : Int32 × ST := if f_LB_isWithin t 0 999 = 0 then (-2, st) else (st.2.1, sKn st t)
def leasts (st : ST) (r m : Int32) : Int32 × ST := if f_LB_isRow r = 0 ∨ f_LB_isWithin m 1 10 = 0 then (-2, st) else (st.2.2.1.getD r.toNatClampNeg 0, sLst st (st.2.2.1.set r.toNatClampNeg m))
def values (st : ST) (r dy : Int32) : Int32 := if f_LB_isRow r = 0 ∨ f_LB_isDay dy = 0 then -10000 else vwl st.1 r dy st.2.1
def manys (st : ST) (r : Int32) : Int32 := if f_LB_isRow r = 0 then -2 else nI (pdd st.1 r.toNatClampNeg st.2.1).length
def types (st : ST) (b : Int32) : Int32 × ST := if f_LB_isWithin b 0 255 = 0 then (-2, st) else if 100 ≤ st.2.2.2.1.length then (-4, st) else (nI (st.2.2.2.1.length + 1), sTxt st (st.2.2.2.1 ++ [b]))
def wipes (st : ST) : Int32 × ST := (nI st.2.2.2.1.length, sTxt st [])
theorem getD_set_eq {α : Type} {l : List α} {i : Nat} {x z : α} (h : i < l.length) : (l.set i x).getD i z = x := by simp [List.getD_eq_getElem?_getD, h]
theorem getD_set_ne {α : Type} {l : List α} {i j : Nat} {x z : α} (h : i ≠ j) : (l.set i x).getD j z = l.getD j z := by simp [List.getD_eq_getElem?_getD, List.getElem?_set_ne h]
section
variable {G : GC} {d : Nat} {P : PT} {I : MI} {J : MJ}
theorem asof_loop {st : ST} {t x2 : Int32} (hS : okS st) (h0 : RC st I J) (hq : ∀ I', Hi I J I' J → RC (sKn st t) I' J → P (some (.int x2)) I' J) : ∀ (m i : Nat) (x3 : Int32) (I1 : MI), i + m = 4 → x3 = nI i → (∀ a, 27 ≤ a → I1 a = I a) → TC st.1 I1 → I1 0 9 = t → I1 0 10 = I 0 10 → (∀ r, r < i → VC st.1 t r I1) → Go G (fr G m_LB_asOf (d + 4) P) 26 [some (.ref 0), none, some (.int x2), some (.int x3)] [] I1 J := by
  intro m
  induction m with
  | zero =>
    intro i x3 I1 hi hx hF hT ht h10 hV
    subst hx
    obtain rfl : i = 4 := by omega
    have hle : (4 : Int32) ≤ nI 4 := by decide
    obtain ⟨h1, h2, h3, h4, h5, h6, h7, h8, h9⟩ := h0
    refine w_LB_asOf_26 (fun _ => hq I1 (fun a ha => ⟨hF a (by omega), rfl⟩) ?_) (fun c => absurd hle c)
    exact ⟨hT, ht, hV, fun r hr => by rw [hF 32 (by omega)]; exact h4 r hr, ⟨by rw [hF 53 (by omega)]; exact h5.1, fun k hk => by rw [hF 54 (by omega)]; exact h5.2 k hk⟩, by rw [h10]; exact h6, fun s hs => (h7 s hs).of (hF _ (by omega)) (hF _ (by omega)), h8, h9⟩
  | succ m ih =>
    intro i x3 I1 hi hx hF hT ht h10 hV
    subst hx
    have hc : ¬ (4 : Int32) ≤ nI i := nI_ge (b := 4) (by omega) (by omega)
    refine w_LB_asOf_26 (fun c => absurd c hc) (fun _ => sp_refresh (told := st.1) (by omega) hT hS.1 (fun I2 hF2 hV2 => w_LB_asOf_36 ?_))
    have h0' : I2 0 = I1 0 := hF2 0 (by simp; omega)
    refine ih (i + 1) _ I2 (by omega) (nI_1 i) (fun a ha => ?_) (hT.of fun a _ _ => hF2 a (by simp; omega)) (by rw [h0']; exact ht) (by rw [h0']; exact h10) (fun r hr => ?_)
    · rw [hF2 a (by simp; omega)]; exact hF a ha
    · rcases Nat.lt_or_ge r i with q | q
      · exact (hV r q).of fun a _ _ => hF2 a (by simp; omega)
      · obtain rfl : r = i := by omega
        rw [ht] at hV2; exact hV2
theorem cl_asOf {st : ST} {t : Int32} (hR : RC st I J) (hS : okS st) (hq : ∀ I', Hi I J I' J → RC (asOfs st t).2 I' J → P (some (.int (asOfs st t).1)) I' J) : Ct G (d + 4) m_LB_asOf [.ref 0, .int t] P I J := by
  refine Ct.ofGo [some (.ref 0), some (.int t), none, none] (by decide +kernel) rfl (Nat.le_of_ble_eq_true rfl) (w_LB_asOf_0 (fun c => ?_) (fun c => ?_))
  · have e : asOfs st t = (st.2.1, sKn st t) := by simp only [asOfs, if_neg c]
    rw [e] at hq
    have h9 := hR.2.1
    rw [h9]
    refine asof_loop hS hR hq 4 0 0 _ (by omega) nI_0.symm (fun a ha => u2_o (by omega)) (hR.1.of fun a _ _ => u2_o (by omega)) u2_s (u2_k (by decide)) (fun r hr => by omega)
  · have e : asOfs st t = (-2, st) := by simp only [asOfs, if_pos c]
    rw [e] at hq
    exact hq I (fun _ _ => ⟨rfl, rfl⟩) hR
theorem cl_least {st : ST} {r m : Int32} (hR : RC st I J) (hS : okS st) (hq : ∀ I', Hi I J I' J → RC (leasts st r m).2 I' J → P (some (.int (leasts st r m).1)) I' J) : Ct G (d + 2) m_LB_least [.ref 0, .int r, .int m] P I J := by
  have hbad : (f_LB_isRow r = 0 ∨ f_LB_isWithin m 1 10 = 0) → Go G (fr G m_LB_least (d + 2) P) 17 [none, none, none, none] [] I J := fun hb => by
    refine w_LB_least_17 ?_
    have e : leasts st r m = (-2, st) := by simp only [leasts, if_pos hb]
    rw [e] at hq
    exact hq I (fun _ _ => ⟨rfl, rfl⟩) hR
  refine Ct.ofGo [some (.ref 0), some (.int r), some (.int m), none] (by decide +kernel) rfl (Nat.le_of_ble_eq_true rfl) (w_LB_least_0 (fun c => hbad (Or.inl c)) (fun c _ => vin_row (isRow1 c)) (fun c1 c2 => ?_) (fun _ c => hbad (Or.inr c)))
  have hnb : ¬ (f_LB_isRow r = 0 ∨ f_LB_isWithin m 1 10 = 0) := by
    rintro (h | h)
    · exact c1 h
    · exact c2 h
  have e : leasts st r m = (st.2.2.1.getD r.toNatClampNeg 0, sLst st (st.2.2.1.set r.toNatClampNeg m)) := by simp only [leasts, if_neg hnb]
  rw [e] at hq
  obtain ⟨r, hr, rfl⟩ := isRow1 c1
  rw [nI_clamp (show r < 2 ^ 31 by omega)] at hq ⊢
  obtain ⟨h1, h2, h3, h4, h5, h6, h7, h8, h9⟩ := hR
  rw [h4 r hr]
  have hk : ∀ a, a ≠ 32 → u2 I 32 r m a = I a := fun a ha => u2_o ha
  refine hq _ (fun a ha => ⟨hk a (by omega), rfl⟩) ⟨h1.of fun a _ _ => hk a (by omega), by rw [hk 0 (by omega)]; exact h2, fun q hq' => (h3 q hq').of fun a _ _ => hk a (by omega), fun q hq' => ?_, ⟨by rw [hk 53 (by omega)]; exact h5.1, fun k hk' => by rw [hk 54 (by omega)]; exact h5.2 k hk'⟩, by rw [hk 0 (by omega)]; exact h6, fun s hs => (h7 s hs).of (hk _ (by omega)) (hk _ (by omega)), h8, h9⟩
  by_cases q1 : q = r
  · subst q1
    show u2 I 32 q m 32 q = (st.2.2.1.set q m).getD q 0
    rw [u2_s, getD_set_eq (by have := hS.2.2.1.1; omega)]
  · show u2 I 32 r m 32 q = (st.2.2.1.set r m).getD q 0
    rw [u2_k q1, getD_set_ne (Ne.symm q1)]
    exact h4 q hq'
theorem cl_value {st : ST} {r dy : Int32} (hR : RC st I J) (hq : P (some (.int (values st r dy))) I J) : Ct G (d + 2) m_LB_value [.ref 0, .int r, .int dy] P I J := by
  have hbad : (f_LB_isRow r = 0 ∨ f_LB_isDay dy = 0) → Go G (fr G m_LB_value (d + 2) P) 28 [none, none, none] [] I J := fun hb => by
    refine w_LB_value_28 ?_
    have e : values st r dy = -10000 := by simp only [values, if_pos hb]
    rw [e] at hq; exact hq
  refine Ct.ofGo [some (.ref 0), some (.int r), some (.int dy)] (by decide +kernel) rfl (Nat.le_of_ble_eq_true rfl) (w_LB_value_0 (fun c => hbad (Or.inl c)) (fun _ c => hbad (Or.inr c)) (fun c _ => vin_row (isRow1 c)) (fun _ c => vin_day (isDay1 c)) (fun c1 c2 => ?_))
  have hnb : ¬ (f_LB_isRow r = 0 ∨ f_LB_isDay dy = 0) := by
    rintro (h | h)
    · exact c1 h
    · exact c2 h
  have e : values st r dy = vwl st.1 r dy st.2.1 := by simp only [values, if_neg hnb]
  rw [e] at hq
  obtain ⟨r, hr, rfl⟩ := isRow1 c1
  obtain ⟨j, hj, rfl⟩ := isDay1 c2
  rw [nI_clamp (show r < 2 ^ 31 by omega), nI_clamp (show j < 2 ^ 31 by omega), show 7 + 5 * r + 1 = 8 + 5 * r by omega, (hR.2.2.1 r hr).1 j hj]
  exact hq
theorem cl_many {st : ST} {r : Int32} (hR : RC st I J) (hq : P (some (.int (manys st r))) I J) : Ct G (d + 2) m_LB_many [.ref 0, .int r] P I J := by
  refine Ct.ofGo [some (.ref 0), some (.int r)] (by decide +kernel) rfl (Nat.le_of_ble_eq_true rfl) (w_LB_many_0 (fun c => ?_) (fun c => vin_row (isRow1 c)) (fun c => ?_))
  · have e : manys st r = -2 := by simp only [manys, if_pos c]
    rw [e] at hq; exact hq
  · have e : manys st r = nI (pdd st.1 r.toNatClampNeg st.2.1).length := by simp only [manys, if_neg c]
    rw [e] at hq
    obtain ⟨r, hr, rfl⟩ := isRow1 c
    rw [nI_clamp (show r < 2 ^ 31 by omega)] at hq ⊢
    rw [(hR.2.2.1 r hr).2.1]; exact hq
theorem RC.txt {st : ST} {l : List Int32} {I' : MI} (h : RC st I J) (h1 : I' 53 1 = nI l.length) (h2 : ∀ k, k < l.length → I' 54 k = l.getD k 0) (hk : ∀ a, a ≠ 53 → a ≠ 54 → I' a = I a) : RC (sTxt st l) I' J := by
  obtain ⟨q1, q2, q3, q4, q5, q6, q7, q8, q9⟩ := h
  exact ⟨q1.of fun a _ _ => hk a (by omega) (by omega), by rw [hk 0 (by omega) (by omega)]; exact q2, fun r hr => (q3 r hr).of fun a _ _ => hk a (by omega) (by omega), fun r hr => by rw [hk 32 (by omega) (by omega)]; exact q4 r hr, ⟨h1, h2⟩, by rw [hk 0 (by omega) (by omega)]; exact q6, fun s hs => (q7 s hs).of (hk _ (by omega) (by omega)) (hk _ (by omega) (by omega)), q8, q9⟩
theorem cl_type {st : ST} {b : Int32} (hR : RC st I J) (hS : okS st) (hq : ∀ I', Hi I J I' J → RC (types st b).2 I' J → P (some (.int (types st b).1)) I' J) : Ct G (d + 1) m_LB_type [.ref 0, .int b] P I J := by
  have h5 := hR.2.2.2.2.1
  have hlen := hS.2.2.2.1.1
  have hlt : (I 53 1 < 100) ↔ st.2.2.2.1.length < 100 := by rw [h5.1]; exact nI_ltI (b := 100) (by omega) (by omega)
  refine Ct.ofGo [some (.ref 0), some (.int b)] (by decide +kernel) rfl (Nat.le_of_ble_eq_true rfl) (w_LB_type_0 (fun _ c => ?_) (fun c1 c2 => ?_) (fun c1 c2 => ?_) (fun c => ?_))
  · rw [h5.1]; exact vp_in_nI (hlt.mp c) (by omega)
  · have e : types st b = (nI (st.2.2.2.1.length + 1), sTxt st (st.2.2.2.1 ++ [b])) := by simp only [types, if_neg c1, if_neg (Nat.not_le.mpr (hlt.mp c2))]
    rw [e] at hq
    have c3 := hlt.mp c2
    rw [h5.1, nI_clamp (show st.2.2.2.1.length < 2 ^ 31 by omega), nI_1]
    have hk : ∀ a, a ≠ 53 → a ≠ 54 → u2 (u2 I 54 st.2.2.2.1.length b) 53 1 (nI (st.2.2.2.1.length + 1)) a = I a := fun a h1 h2 => by rw [u2_o h1, u2_o h2]
    refine hq _ (fun a ha => ⟨hk a (by omega) (by omega), rfl⟩) (hR.txt (by rw [u2_s]; simp) (fun k hk' => ?_) hk)
    rw [u2_o (by decide)]
    rcases Nat.lt_or_ge k st.2.2.2.1.length with q | q
    · rw [u2_k (by omega), getD_app1 q]; exact h5.2 k q
    · obtain rfl : k = st.2.2.2.1.length := by simp at hk'; omega
      rw [u2_s, getD_app2]
  · have e : types st b = (-4, st) := by simp only [types, if_neg c1, if_pos (Nat.not_lt.mp fun q => c2 (hlt.mpr q))]
    rw [e] at hq
    exact hq I (fun _ _ => ⟨rfl, rfl⟩) hR
  · have e : types st b = (-2, st) := by simp only [types, if_pos c]
    rw [e] at hq
    exact hq I (fun _ _ => ⟨rfl, rfl⟩) hR
theorem cl_wipe {st : ST} (hR : RC st I J) (hq : ∀ I', Hi I J I' J → RC (wipes st).2 I' J → P (some (.int (wipes st).1)) I' J) : Ct G d m_LB_wipe [.ref 0] P I J := by
  refine Ct.ofGo [some (.ref 0), none] (by decide +kernel) rfl (Nat.le_of_ble_eq_true rfl) (w_LB_wipe_0 ?_)
  rw [hR.2.2.2.2.1.1]
  have hk : ∀ a, a ≠ 53 → u2 I 53 1 0 a = I a := fun a h1 => u2_o h1
  exact hq _ (fun a ha => ⟨hk a (by omega), rfl⟩) (hR.txt (by rw [u2_s]; exact nI_0.symm) (fun k hk' => by simp at hk') (fun a h1 _ => hk a h1))
end
