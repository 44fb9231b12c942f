/-! ===== the reference: rows ===== -/
abbrev TM (told : List TE) (I : MI) : Prop := told.length ≤ 200 ∧ I 67 0 = nI told.length ∧ ∀ k, k < told.length → I 68 k = (told.getD k teD).1 ∧ I 69 k = (told.getD k teD).2.1 ∧ I 70 k = (told.getD k teD).2.2.1 ∧ I 71 k = (told.getD k teD).2.2.2
def Lo (I : MI) (J : MJ) (I' : MI) (J' : MJ) : Prop := ∀ a, a < 67 → I' a = I a ∧ J' a = J a
theorem Lo.rf {I : MI} {J : MJ} : Lo I J I J := fun _ _ => ⟨rfl, rfl⟩
theorem isVal0 {v : Int32} : f_LB_isValue v = 0 ↔ (¬ v = -9999 ∧ f_LB_isWithin v (-1000) 1000 = 0) := by
  unfold f_LB_isValue
  by_cases h1 : v = -9999
  · rw [if_pos h1]; constructor
    · intro h; exact absurd h (by decide)
    · intro h; exact absurd h1 h.1
  · rw [if_neg h1]
    by_cases h2 : f_LB_isWithin v (-1000) 1000 = 0
    · rw [if_pos h2]; exact ⟨fun _ => ⟨h1, h2⟩, fun _ => rfl⟩
    · rw [if_neg h2]; constructor
      · intro h; exact absurd h (by decide)
      · intro h; exact absurd h.2 h2
section
variable {G : GC} {d : Nat} {P : PT} {I : MI} {J : MJ}
theorem md_lastTime {told : List TE} (hT : TM told I) (hq : P (some (.int (lastL told))) I J) : Ct G d m_RM_lastTime [.ref 67] P I J := by
  refine Ct.ofGo [some (.ref 67)] (by decide +kernel) rfl (Nat.le_of_ble_eq_true rfl) ?_
  rcases List.eq_nil_or_concat told with rfl | ⟨l, e, rfl⟩
  · have h0 : I 67 0 = 0 := by rw [hT.2.1]; exact nI_0
    exact w_RM_lastTime_0 (fun c => absurd h0 c) (fun c => absurd h0 c) (fun _ => hq)
  · simp only [List.concat_eq_append] at hT hq
    have hl : l.length + 1 ≤ 200 := by simpa using hT.1
    have hs : I 67 0 = nI (l.length + 1) := by simpa using hT.2.1
    have h0 : ¬ I 67 0 = 0 := by rw [hs]; exact nI_ne0 (by omega) (by omega)
    have h1 : I 67 0 - 1 = nI l.length := by rw [hs]; exact nI_pred _
    refine w_RM_lastTime_0 (fun _ => ?_) (fun _ => ?_) (fun c => absurd c h0)
    · rw [h1]; exact vp_in_nI (by omega) (by omega)
    · have h := (hT.2.2 l.length (by simp)).2.2.2
      rw [getD_app2] at h
      rw [h1, nI_clamp (show l.length < 2 ^ 31 by omega), h]
      have : lastL (l ++ [e]) = e.2.2.2 := by simp [lastL]
      rw [this] at hq; exact hq
theorem RM.told {st : ST} {told : List TE} {I' : MI} {J' : MJ} (h : RM st I J) (hT : TM told I') (h67 : ∀ k, k ≠ 0 → I' 67 k = I 67 k) (hk : ∀ a, 72 ≤ a → I' a = I a) : RM (sTold st told) I' J' := by
  obtain ⟨e0, e4, e5, e6, e7, e8⟩ := h
  exact ⟨hT, by rw [h67 5 (by omega)]; exact e4, fun r hr => by rw [hk 72 (by omega)]; exact e5 r hr, ⟨by rw [h67 31 (by omega)]; exact e6.1, fun k hk' => by rw [hk 91 (by omega)]; exact e6.2 k hk'⟩, by rw [h67 44 (by omega)]; exact e7, fun s hs => (e8 s hs).of (hk _ (by omega)) (hk _ (by omega)) (hk _ (by omega)) (hk _ (by omega))⟩
theorem md_tells {st : ST} {r dy v t : Int32} (hR : RM st I J) (hq : ∀ I', Lo I J I' J → RM (tells st r dy v t).2 I' J → P (some (.int (tells st r dy v t).1)) I' J) : Ct G (d + 2) m_RM_tells [.ref 67, .int r, .int dy, .int v, .int t] P I J := by
  have hT : TM st.1 I := hR.1
  have hbad : (f_LB_isRow r = 0 ∨ f_LB_isDay dy = 0 ∨ f_LB_isValue v = 0 ∨ f_LB_isWithin t (lastL st.1) 999 = 0) → Go G (fr G m_RM_tells (d + 2) P) 49 [none, none, none, none, none] [] I J := fun hb => by
    refine w_RM_tells_49 ?_
    have e : tells st r dy v t = (-2, st) := by simp only [tells, if_pos hb]
    rw [e] at hq
    exact hq I Lo.rf hR
  have hgo : ¬ f_LB_isRow r = 0 → ¬ f_LB_isDay dy = 0 → ¬ f_LB_isValue v = 0 → Go G (fr G m_RM_tells (d + 2) P) 34 [some (.ref 67), some (.int r), some (.int dy), some (.int v), some (.int t)] [] I J := fun c1 c2 c3 => by
    refine w_RM_tells_34 (md_lastTime hT ?_)
    have hl := hT.1
    have h200 : (I 67 0 = 200) ↔ st.1.length = 200 := by rw [hT.2.1]; exact nI_eq (b := 200) (by omega) (by omega)
    have e1 : (I 67 0).toNatClampNeg = st.1.length := by rw [hT.2.1]; exact nI_clamp (by omega)
    refine w_RM_tells_40 (fun _ c => ?_) (fun c4 c5 => ?_) (fun c4 c5 => ?_) (fun c => hbad (Or.inr (Or.inr (Or.inr c))))
    · rw [hT.2.1]; exact vp_in_nI (by have : ¬ st.1.length = 200 := fun q => c (h200.mpr q); omega) (by omega)
    · have hnb : ¬ (f_LB_isRow r = 0 ∨ f_LB_isDay dy = 0 ∨ f_LB_isValue v = 0 ∨ f_LB_isWithin t (lastL st.1) 999 = 0) := by
        rintro (h | h | h | h)
        · exact c1 h
        · exact c2 h
        · exact c3 h
        · exact c4 h
      have hlt : st.1.length < 200 := by have : ¬ st.1.length = 200 := fun q => c5 (h200.mpr q); omega
      have e : tells st r dy v t = (nI (st.1.length + 1), sTold st (st.1 ++ [(r, dy, v, t)])) := by simp only [tells, if_neg hnb, if_neg (show ¬ 200 ≤ st.1.length by omega)]
      rw [e] at hq
      rw [e1, hT.2.1, nI_1]
      refine hq _ (fun a ha => ⟨by rw [u2_o (by omega), u2_o (by omega), u2_o (by omega), u2_o (by omega), u2_o (by omega)], rfl⟩) (hR.told ⟨by simp; omega, by rw [u2_s]; simp, fun k hk => ?_⟩ (fun k hk => by rw [u2_k hk, u2_o (by decide), u2_o (by decide), u2_o (by decide), u2_o (by decide)]) (fun a ha => by rw [u2_o (by omega), u2_o (by omega), u2_o (by omega), u2_o (by omega), u2_o (by omega)]))
      rcases Nat.lt_or_ge k st.1.length with q | q
      · rw [getD_app1 q]
        rw [u2_o (by decide), u2_o (by decide), u2_o (by decide), u2_o (by decide), u2_k (by omega), u2_o (by decide), u2_o (by decide), u2_o (by decide), u2_k (by omega), u2_o (by decide), u2_o (by decide), u2_o (by decide), u2_k (by omega), u2_o (by decide), u2_o (by decide), u2_o (by decide), u2_k (by omega), u2_o (by decide), u2_o (by decide), u2_o (by decide)]
        exact hT.2.2 k q
      · obtain rfl : k = st.1.length := by simp at hk; omega
        rw [getD_app2]
        refine ⟨?_, ?_, ?_, ?_⟩
        · rw [u2_o (by decide), u2_o (by decide), u2_o (by decide), u2_o (by decide), u2_s]
        · rw [u2_o (by decide), u2_o (by decide), u2_o (by decide), u2_s]
        · rw [u2_o (by decide), u2_o (by decide), u2_s]
        · rw [u2_o (by decide), u2_s]
    · have hnb : ¬ (f_LB_isRow r = 0 ∨ f_LB_isDay dy = 0 ∨ f_LB_isValue v = 0 ∨ f_LB_isWithin t (lastL st.1) 999 = 0) := by
        rintro (h | h | h | h)
        · exact c1 h
        · exact c2 h
        · exact c3 h
        · exact c4 h
      have e : tells st r dy v t = (-4, st) := by simp only [tells, if_neg hnb, if_pos (show 200 ≤ st.1.length by have := h200.mp c5; omega)]
      rw [e] at hq
      exact hq I Lo.rf hR
  refine Ct.ofGo [some (.ref 67), some (.int r), some (.int dy), some (.int v), some (.int t)] (by decide +kernel) rfl (Nat.le_of_ble_eq_true rfl) ?_
  refine w_RM_tells_0 (fun c => hbad (Or.inl c)) (fun _ c => hbad (Or.inr (Or.inl c))) (fun c1 c2 c => hgo c1 c2 (fun h => (isVal0.mp h).1 c)) (fun _ _ c1 c2 => hbad (Or.inr (Or.inr (Or.inl (isVal0.mpr ⟨c1, c2⟩))))) (fun c1 c2 _ c4 => hgo c1 c2 (fun h => c4 (isVal0.mp h).2))
theorem md_tell {st : ST} {r dy v t : Int32} (hR : RM st I J) (hq : ∀ I', Lo I J I' J → RM (tells st r dy v t).2 I' J → P (some (.int (tells st r dy v t).1)) I' J) : Ct G (d + 3) m_RM_tell [.ref 67, .int r, .int dy, .int v, .int t] P I J :=
  Ct.ofGo [some (.ref 67), some (.int r), some (.int dy), some (.int v), some (.int t)] (by decide +kernel) rfl (Nat.le_of_ble_eq_true rfl) (w_RM_tell_0 (md_tells hR fun I' h1 h2 => w_RM_tell_9 (hq I' h1 h2)))
theorem md_asOf {st : ST} {t : Int32} (hR : RM st I J) (hq : ∀ I', Lo I J I' J → RM (asOfs st t).2 I' J → P (some (.int (asOfs st t).1)) I' J) : Ct G (d + 1) m_RM_asOf [.ref 67, .int t] P I J := by
  refine Ct.ofGo [some (.ref 67), some (.int t), none] (by decide +kernel) rfl (Nat.le_of_ble_eq_true rfl) (w_RM_asOf_0 (fun c => ?_) (fun c => ?_))
  · have c : ¬ f_LB_isWithin t 0 999 = 0 := c
    have e : asOfs st t = (st.2.1, sKn st t) := by unfold asOfs; rw [if_neg c]
    rw [e] at hq
    rw [hR.2.1]
    obtain ⟨e0, e4, e5, e6, e7, e8⟩ := hR
    have hk : ∀ a, a ≠ 67 → u2 I 67 5 t a = I a := fun a ha => u2_o ha
    refine hq _ (fun a ha => ⟨hk a (by omega), rfl⟩) ⟨⟨e0.1, by rw [u2_k (by decide)]; exact e0.2.1, fun k hk' => ?_⟩, u2_s, fun r hr => by rw [hk 72 (by omega)]; exact e5 r hr, ⟨by rw [u2_k (by decide)]; exact e6.1, fun k hk' => by rw [hk 91 (by omega)]; exact e6.2 k hk'⟩, by rw [u2_k (by decide)]; exact e7, fun s hs => (e8 s hs).of (hk _ (by omega)) (hk _ (by omega)) (hk _ (by omega)) (hk _ (by omega))⟩
    rw [hk 68 (by omega), hk 69 (by omega), hk 70 (by omega), hk 71 (by omega)]
    exact e0.2.2 k hk'
  · have c : f_LB_isWithin t 0 999 = 0 := c
    have e : asOfs st t = (-2, st) := by unfold asOfs; rw [if_pos c]
    rw [e] at hq
    exact hq I Lo.rf hR
theorem md_least {st : ST} {r m : Int32} (hR : RM st I J) (hS : okS st) (hq : ∀ I', Lo I J I' J → RM (leasts st r m).2 I' J → P (some (.int (leasts st r m).1)) I' J) : Ct G (d + 2) m_RM_least [.ref 67, .int r, .int m] P I J := by
  have hbad : (f_LB_isRow r = 0 ∨ f_LB_isWithin m 1 10 = 0) → Go G (fr G m_RM_least (d + 2) P) 17 [none, none, none, none] [] I J := fun hb => by
    refine w_RM_least_17 ?_
    have e : leasts st r m = (-2, st) := by simp only [leasts, if_pos hb]
    rw [e] at hq
    exact hq I Lo.rf hR
  refine Ct.ofGo [some (.ref 67), some (.int r), some (.int m), none] (by decide +kernel) rfl (Nat.le_of_ble_eq_true rfl) (w_RM_least_0 (fun c => hbad (Or.inl c)) (fun c _ => vin_row (isRow1 c)) (fun c1 c2 => ?_) (fun _ c => hbad (Or.inr c)))
  have hnb : ¬ (f_LB_isRow r = 0 ∨ f_LB_isWithin m 1 10 = 0) := by
    rintro (h | h)
    · exact c1 h
    · exact c2 h
  have e : leasts st r m = (st.2.2.1.getD r.toNatClampNeg 0, sLst st (st.2.2.1.set r.toNatClampNeg m)) := by simp only [leasts, if_neg hnb]
  rw [e] at hq
  obtain ⟨r, hr, rfl⟩ := isRow1 c1
  rw [nI_clamp (show r < 2 ^ 31 by omega)] at hq ⊢
  obtain ⟨e0, e4, e5, e6, e7, e8⟩ := hR
  rw [e5 r hr]
  have hk : ∀ a, a ≠ 72 → u2 I 72 r m a = I a := fun a ha => u2_o ha
  refine hq _ (fun a ha => ⟨hk a (by omega), rfl⟩) ⟨⟨e0.1, by rw [hk 67 (by omega)]; exact e0.2.1, fun k hk' => by rw [hk 68 (by omega), hk 69 (by omega), hk 70 (by omega), hk 71 (by omega)]; exact e0.2.2 k hk'⟩, by rw [hk 67 (by omega)]; exact e4, fun q hq' => ?_, ⟨by rw [hk 67 (by omega)]; exact e6.1, fun k hk' => by rw [hk 91 (by omega)]; exact e6.2 k hk'⟩, by rw [hk 67 (by omega)]; exact e7, fun s hs => (e8 s hs).of (hk _ (by omega)) (hk _ (by omega)) (hk _ (by omega)) (hk _ (by omega))⟩
  show u2 I 72 r m 72 q = (st.2.2.1.set r m).getD q 0
  by_cases q1 : q = r
  · subst q1
    rw [u2_s, getD_set_eq (by have := hS.2.2.1.1; omega)]
  · rw [u2_k q1, getD_set_ne (Ne.symm q1)]
    exact e5 q hq'
theorem take_ext {told : List TE} {n : Nat} (h : n < told.length) : told.take (n + 1) = told.take n ++ [told.getD n teD] := by
  rw [getD_lt h, List.take_succ_eq_append_getElem h]
theorem valat_loop {told : List TE} {r dy t : Int32} (hT : TM told I) (hq : P (some (.int (vwl told r dy t))) I J) : ∀ (m i : Nat) (x4 x5 : Int32), i + m = told.length → x5 = nI i → x4 = vwl (told.take i) r dy t → Go G (fr G m_RM_valueAt d P) 8 [some (.ref 67), some (.int r), some (.int dy), some (.int t), some (.int x4), some (.int x5)] [] I J := by
  have hl := hT.1
  intro m
  induction m with
  | zero =>
    intro i x4 x5 hi hx5 hx4
    subst hx5; subst hx4
    have hle : I 67 0 ≤ nI i := by rw [hT.2.1]; exact nI_le (by omega) (by omega)
    refine w_RM_valueAt_8 (fun _ => ?_) (fun c => absurd hle c) (fun c => absurd hle c) (fun c => absurd hle c) (fun c => absurd hle c) (fun c => absurd hle c)
    rw [List.take_of_length_le (by omega)]; exact hq
  | succ m ih =>
    intro i x4 x5 hi hx5 hx4
    subst hx5; subst hx4
    have hi' : i < told.length := by omega
    have hc : ¬ I 67 0 ≤ nI i := by rw [hT.2.1]; exact nI_ge (by omega) (by omega)
    have e1 : (nI i).toNatClampNeg = i := nI_clamp (by omega)
    obtain ⟨q1, q2, q3, q4⟩ := hT.2.2 i hi'
    have hno : ¬ ((told.getD i teD).1 = r ∧ (told.getD i teD).2.1 = dy ∧ (told.getD i teD).2.2.2 ≤ t) → Go G (fr G m_RM_valueAt d P) 60 [some (.ref 67), some (.int r), some (.int dy), some (.int t), some (.int (vwl (told.take i) r dy t)), some (.int (nI i))] [] I J := fun hb => by
      refine w_RM_valueAt_60 (w_RM_valueAt_62 (ih (i + 1) _ _ (by omega) (nI_1 i) ?_))
      rw [take_ext hi', vwl_app, if_neg hb]
    refine w_RM_valueAt_8 (fun c => absurd c hc) (fun _ => vp_in_nI (by omega) (by omega)) (fun _ c => hno (fun h => ?_)) (fun _ _ c => hno (fun h => ?_)) (fun _ _ _ c => hno (fun h => ?_)) (fun _ c1 c2 c3 => ?_)
    · rw [e1, q1] at c; exact c h.1
    · rw [e1, q2] at c; exact c h.2.1
    · rw [e1, q4] at c; exact absurd h.2.2 (Int32.not_le.mpr c)
    · rw [e1, q1] at c1
      rw [e1, q2] at c2
      rw [e1, q4] at c3
      rw [e1, q3]
      refine w_RM_valueAt_62 (ih (i + 1) _ _ (by omega) (nI_1 i) ?_)
      rw [take_ext hi', vwl_app, if_pos ⟨c1, c2, Int32.not_lt.mp c3⟩]
theorem md_valueAt {told : List TE} {r dy t : Int32} (hT : TM told I) (hq : P (some (.int (vwl told r dy t))) I J) : Ct G d m_RM_valueAt [.ref 67, .int r, .int dy, .int t] P I J := by
  refine Ct.ofGo [some (.ref 67), some (.int r), some (.int dy), some (.int t), none, none] (by decide +kernel) rfl (Nat.le_of_ble_eq_true rfl) (w_RM_valueAt_0 ?_)
  exact valat_loop hT hq told.length 0 _ _ (by omega) nI_0.symm (by simp [vwl])
theorem md_value {st : ST} {r dy : Int32} (hR : RM st I J) (hq : P (some (.int (values st r dy))) I J) : Ct G (d + 2) m_RM_value [.ref 67, .int r, .int dy] P I J := by
  have hbad : (f_LB_isRow r = 0 ∨ f_LB_isDay dy = 0) → Go G (fr G m_RM_value (d + 2) P) 27 [none, none, none] [] I J := fun hb => by
    refine w_RM_value_27 ?_
    have e : values st r dy = -10000 := by simp only [values, if_pos hb]
    rw [e] at hq; exact hq
  refine Ct.ofGo [some (.ref 67), some (.int r), some (.int dy)] (by decide +kernel) rfl (Nat.le_of_ble_eq_true rfl) (w_RM_value_0 (fun c => hbad (Or.inl c)) (fun _ c => hbad (Or.inr c)) (fun c1 c2 => md_valueAt hR.1 (w_RM_value_24 ?_)))
  have hnb : ¬ (f_LB_isRow r = 0 ∨ f_LB_isDay dy = 0) := by
    rintro (h | h)
    · exact c1 h
    · exact c2 h
  have e : values st r dy = vwl st.1 r dy st.2.1 := by simp only [values, if_neg hnb]
  rw [e] at hq
  rw [hR.2.1]; exact hq
/-- what the reference's row of points holds -/
def PM (ds : List Nat) (vs : List Int32) (I : MI) : Prop := I 67 7 = nI ds.length ∧ vs.length = ds.length ∧ ∀ k, k < ds.length → I 73 k = vs.getD k 0 ∧ I 74 k = nI (ds.getD k 0)
/-- what pointsBy may touch -/
def FP (I I' : MI) : Prop := (∀ a, a ≠ 67 → a ≠ 73 → a ≠ 74 → a ≠ 75 → I' a = I a) ∧ ∀ k, k ≠ 7 → I' 67 k = I 67 k
theorem FP.km {I' : MI} (h : FP I I') : KM I J I' J := ⟨fun a ha => ⟨h.1 a (by omega) (by omega) (by omega) (by omega), rfl⟩, fun a _ _ => h.1 a (by omega) (by omega) (by omega) (by omega), h.1 91 (by omega) (by omega) (by omega) (by omega), fun a _ _ => h.1 a (by omega) (by omega) (by omega) (by omega), h.2 0 (by omega), h.2 5 (by omega), h.2 31 (by omega), h.2 44 (by omega)⟩
theorem pby3 {f : Nat → Int32} {I0 : MI} (hq : ∀ I', FP I0 I' → I' 75 = f → PM (dys f 40) ((dys f 40).map f) I' → P none I' J) : ∀ (m i : Nat) (x3 : Int32) (I : MI), i + m = 40 → x3 = nI i → FP I0 I → I 75 = f → PM (dys f i) ((dys f i).map f) I → Go G (fr G m_RM_pointsBy d P) 83 [some (.ref 67), none, none, some (.int x3)] [] I J := by
  intro m
  induction m with
  | zero =>
    intro i x3 I hi hx hF hf hP
    subst hx
    obtain rfl : i = 40 := by omega
    have hle : (40 : Int32) ≤ nI 40 := by decide
    exact w_RM_pointsBy_83 (fun _ => hq I hF hf hP) (fun c => absurd hle c) (fun c => absurd hle c) (fun c => absurd hle c) (fun c => absurd hle c)
  | succ m ih =>
    intro i x3 I hi hx hF hf hP
    subst hx
    have hc : ¬ (40 : Int32) ≤ nI i := nI_ge (a := i) (b := 40) (by omega) (by omega)
    have e1 : (nI i).toNatClampNeg = i := nI_clamp (by omega)
    have hlen := dys_len f i
    have hs := hP.1
    have es : (I 67 7).toNatClampNeg = (dys f i).length := by rw [hs]; exact nI_clamp (by omega)
    refine w_RM_pointsBy_83 (fun c => absurd c hc) (fun _ => vp_in_nI (by omega) (by omega)) (fun _ c => ?_) (fun _ _ => by rw [hs]; exact vp_in_nI (by omega) (by omega)) (fun _ c => ?_)
    · rw [e1, hf] at c
      refine w_RM_pointsBy_136 (ih (i + 1) _ I (by omega) (nI_1 i) hF hf ?_)
      rw [dys_gap c]; exact hP
    · rw [e1, hf] at c
      rw [e1, es, hs, hf, nI_1]
      refine w_RM_pointsBy_136 (ih (i + 1) _ _ (by omega) (nI_1 i) ⟨fun a h1 h2 h3 h4 => ?_, fun k hk => ?_⟩ ?_ ?_)
      · rw [u2_o h1, u2_o h3, u2_o h2]; exact hF.1 a h1 h2 h3 h4
      · rw [u2_k hk, u2_o (by decide), u2_o (by decide)]; exact hF.2 k hk
      · rw [u2_o (by decide), u2_o (by decide), u2_o (by decide)]; exact hf
      · rw [dys_day c, List.map_append]
        refine ⟨by rw [u2_s]; simp, by simp, fun k hk => ?_⟩
        rcases Nat.lt_or_ge k (dys f i).length with q | q
        · rw [u2_o (by decide), u2_o (by decide), u2_k (by omega), u2_o (by decide), u2_k (by omega), u2_o (by decide)]
          rw [show (dys f i).map f ++ [i].map f = (dys f i).map f ++ [f i] from rfl, getD_app1 (by simpa using q), getD_app1 q]
          exact hP.2.2 k q
        · obtain rfl : k = (dys f i).length := by simp at hk; omega
          rw [u2_o (by decide), u2_o (by decide), u2_s, u2_o (by decide), u2_s, getD_app2]
          refine ⟨?_, rfl⟩
          have := getD_app2 (l := (dys f i).map f) (x := f i) (z := (0 : Int32))
          rw [List.length_map] at this
          exact this.symm
theorem FP.rf : FP I I := ⟨fun _ _ _ _ _ => rfl, fun _ _ => rfl⟩
theorem pby2 {told : List TE} {r : Nat} {t : Int32} {I0 : MI} (hT : TM told I0) (hok : okT told) (hq : ∀ I', FP I0 I' → (∀ k, k < 40 → I' 75 k = vwl told (nI r) (nI k) t) → PM (pdd told r t) (pvv told r t) I' → P none I' J) : ∀ (m i : Nat) (x3 : Int32) (I : MI), i + m = told.length → x3 = nI i → FP I0 I → (∀ k, k < 40 → I 75 k = vwl (told.take i) (nI r) (nI k) t) → Go G (fr G m_RM_pointsBy d P) 25 [some (.ref 67), some (.int (nI r)), some (.int t), some (.int x3)] [] I J := by
  have hl := hT.1
  intro m
  induction m with
  | zero =>
    intro i x3 I hi hx hF hv
    subst hx
    have h0 : I 67 0 = nI told.length := by rw [hF.2 0 (by omega)]; exact hT.2.1
    have hle : I 67 0 ≤ nI i := by rw [h0]; exact nI_le (by omega) (by omega)
    refine w_RM_pointsBy_25 (fun _ => ?_) (fun c => absurd hle c) (fun c => absurd hle c) (fun c => absurd hle c) (fun c => absurd hle c) (fun c => absurd hle c)
    rw [List.take_of_length_le (by omega)] at hv
    refine pby3 (f := I 75) (I0 := I0) (fun I' g1 g2 g3 => ?_) 40 0 0 _ (by omega) nI_0.symm ⟨fun a h1 h2 h3 h4 => ?_, fun k hk => ?_⟩ ?_ ?_
    · rw [map_congr_dys hv, dys_congr hv] at g3
      exact hq I' g1 (fun k hk => by rw [g2]; exact hv k hk) g3
    · rw [u2_o h1]; exact hF.1 a h1 h2 h3 h4
    · rw [u2_k hk]; exact hF.2 k hk
    · rw [u2_o (by decide)]
    · exact ⟨by rw [u2_s, dys_0]; exact nI_0.symm, by simp, fun k hk => by simp [dys_0] at hk⟩
  | succ m ih =>
    intro i x3 I hi hx hF hv
    subst hx
    have hi' : i < told.length := by omega
    have h0 : I 67 0 = nI told.length := by rw [hF.2 0 (by omega)]; exact hT.2.1
    have hc : ¬ I 67 0 ≤ nI i := by rw [h0]; exact nI_ge (by omega) (by omega)
    have e1 : (nI i).toNatClampNeg = i := nI_clamp (by omega)
    have hA : ∀ a, 68 ≤ a → a ≤ 71 → I a = I0 a := fun a h1 h2 => hF.1 a (by omega) (by omega) (by omega) (by omega)
    obtain ⟨q1, q2, q3, q4⟩ := hT.2.2 i hi'
    rw [← hA 68 (by omega) (by omega)] at q1
    rw [← hA 69 (by omega) (by omega)] at q2
    rw [← hA 70 (by omega) (by omega)] at q3
    rw [← hA 71 (by omega) (by omega)] at q4
    have hno : (∀ dy, ¬ ((told.getD i teD).1 = nI r ∧ (told.getD i teD).2.1 = dy ∧ (told.getD i teD).2.2.2 ≤ t)) → Go G (fr G m_RM_pointsBy d P) 70 [some (.ref 67), some (.int (nI r)), some (.int t), some (.int (nI i))] [] I J := fun hb => by
      refine w_RM_pointsBy_70 (ih (i + 1) _ I (by omega) (nI_1 i) hF (fun k hk => ?_))
      rw [take_ext hi', vwl_app, if_neg (hb _)]; exact hv k hk
    obtain ⟨j, hj, ej⟩ := (hok.1 _ (List.getElem_mem hi')).2.1
    rw [← getD_lt (z := teD) hi'] at ej
    refine w_RM_pointsBy_25 (fun c => absurd c hc) (fun _ => vp_in_nI (by omega) (by omega)) (fun _ c => hno (fun dy h => ?_)) (fun _ _ c => hno (fun dy h => ?_)) (fun _ _ _ => ?_) (fun _ c1 c2 => ?_)
    · rw [e1, q1] at c; exact c h.1
    · rw [e1, q4] at c; exact absurd h.2.2 (Int32.not_le.mpr c)
    · rw [e1, q2, ej]; exact vp_in_nI hj (by omega)
    · rw [e1, q1] at c1
      rw [e1, q4] at c2
      rw [e1, q2, q3, ej, nI_clamp (show j < 2 ^ 31 by omega)]
      refine w_RM_pointsBy_70 (ih (i + 1) _ _ (by omega) (nI_1 i) ⟨fun a h1 h2 h3 h4 => ?_, fun k hk => ?_⟩ (fun k hk => ?_))
      · rw [u2_o h4]; exact hF.1 a h1 h2 h3 h4
      · rw [u2_o (by decide)]; exact hF.2 k hk
      · rw [take_ext hi', vwl_app]
        by_cases q : k = j
        · subst q
          rw [u2_s, if_pos ⟨c1, ej, Int32.not_lt.mp c2⟩]
        · have hne : ¬ nI j = nI k := by rw [nI_eq (by omega) (by omega)]; omega
          rw [u2_k q, if_neg (fun h => hne (ej.symm.trans h.2.1))]; exact hv k hk
theorem pby1 {told : List TE} {r : Nat} {t : Int32} {I0 : MI} (hT : TM told I0) (hok : okT told) (hq : ∀ I', FP I0 I' → (∀ k, k < 40 → I' 75 k = vwl told (nI r) (nI k) t) → PM (pdd told r t) (pvv told r t) I' → P none I' J) : ∀ (m i : Nat) (x3 : Int32) (I : MI), i + m = 40 → x3 = nI i → FP I0 I → (∀ k, k < i → I 75 k = -9999) → Go G (fr G m_RM_pointsBy d P) 2 [some (.ref 67), some (.int (nI r)), some (.int t), some (.int x3)] [] I J := by
  intro m
  induction m with
  | zero =>
    intro i x3 I hi hx hF hv
    subst hx
    obtain rfl : i = 40 := by omega
    have hle : (40 : Int32) ≤ nI 40 := by decide
    refine w_RM_pointsBy_2 (fun _ => ?_) (fun c => absurd hle c) (fun c => absurd hle c)
    exact pby2 hT hok hq told.length 0 0 I (by omega) nI_0.symm hF (fun k hk => by simpa [vwl] using hv k hk)
  | succ m ih =>
    intro i x3 I hi hx hF hv
    subst hx
    have hc : ¬ (40 : Int32) ≤ nI i := nI_ge (a := i) (b := 40) (by omega) (by omega)
    have e1 : (nI i).toNatClampNeg = i := nI_clamp (by omega)
    refine w_RM_pointsBy_2 (fun c => absurd c hc) (fun _ => vp_in_nI (by omega) (by omega)) (fun _ => ?_)
    rw [e1]
    refine ih (i + 1) _ _ (by omega) (nI_1 i) ⟨fun a h1 h2 h3 h4 => ?_, fun k hk => ?_⟩ (fun k hk => ?_)
    · rw [u2_o h4]; exact hF.1 a h1 h2 h3 h4
    · rw [u2_o (by decide)]; exact hF.2 k hk
    · by_cases q : k = i
      · subst q; exact u2_s
      · rw [u2_k q]; exact hv k (by omega)
theorem md_pointsBy {told : List TE} {r : Nat} {t : Int32} (hT : TM told I) (hok : okT told) (hq : ∀ I', FP I I' → (∀ k, k < 40 → I' 75 k = vwl told (nI r) (nI k) t) → PM (pdd told r t) (pvv told r t) I' → P none I' J) : Ct G d m_RM_pointsBy [.ref 67, .int (nI r), .int t] P I J :=
  Ct.ofGo [some (.ref 67), some (.int (nI r)), some (.int t), none] (by decide +kernel) rfl (Nat.le_of_ble_eq_true rfl) (w_RM_pointsBy_0 (pby1 hT hok hq 40 0 0 I (by omega) nI_0.symm FP.rf (fun k hk => by omega)))
theorem md_manyOf {st : ST} {r : Nat} (hR : RM st I J) (hS : okS st) (hq : ∀ I', KM I J I' J → P (some (.int (nI (pdd st.1 r st.2.1).length))) I' J) : Ct G (d + 1) m_RM_manyOf [.ref 67, .int (nI r)] P I J := by
  refine Ct.ofGo [some (.ref 67), some (.int (nI r))] (by decide +kernel) rfl (Nat.le_of_ble_eq_true rfl) (w_RM_manyOf_0 ?_)
  rw [hR.2.1]
  refine md_pointsBy hR.1 hS.1 (fun I' h1 _ h3 => w_RM_manyOf_9 ?_)
  rw [h3.1]; exact hq I' h1.km
theorem md_many {st : ST} {r : Int32} (hR : RM st I J) (hS : okS st) (hq : ∀ I', KM I J I' J → P (some (.int (manys st r))) I' J) : Ct G (d + 2) m_RM_many [.ref 67, .int r] P I J := by
  refine Ct.ofGo [some (.ref 67), some (.int r)] (by decide +kernel) rfl (Nat.le_of_ble_eq_true rfl) (w_RM_many_0 (fun c => ?_) (fun c => ?_))
  · have c : f_LB_isRow r = 0 := c
    have e : manys st r = -2 := by unfold manys; rw [if_pos c]
    rw [e] at hq; exact hq I KM.rf
  · have c : ¬ f_LB_isRow r = 0 := c
    have e : manys st r = nI (pdd st.1 r.toNatClampNeg st.2.1).length := by unfold manys; rw [if_neg c]
    rw [e] at hq
    obtain ⟨r, hr, rfl⟩ := isRow1 c
    rw [nI_clamp (show r < 2 ^ 31 by omega)] at hq
    exact md_manyOf hR hS (fun I' h => w_RM_many_12 (hq I' h))
end
