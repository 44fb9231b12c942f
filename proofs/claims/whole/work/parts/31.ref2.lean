/-! ===== the reference: type, wipe, sheets ===== -/
theorem at60 (s j : Nat) : (60 : Int32) * nI s + nI j = nI (60 * s + j) := by
  rw [show (60 : Int32) = nI 60 from rfl, pk_mul, nI_add]
section
variable {G : GC} {d : Nat} {P : PT} {I : MI} {J : MJ}
theorem RM.txt {st : ST} {l : List Int32} {I' : MI} (h : RM st I J) (h1 : I' 67 31 = nI l.length) (h2 : ∀ k, k < l.length → I' 91 k = l.getD k 0) (h67 : ∀ k, k ≠ 31 → I' 67 k = I 67 k) (hk : ∀ a, a ≠ 67 → a ≠ 91 → I' a = I a) : RM (sTxt st l) I' J := by
  obtain ⟨e0, e4, e5, e6, e7, e8⟩ := h
  exact ⟨⟨e0.1, by rw [h67 0 (by omega)]; exact e0.2.1, fun k hk' => by rw [hk 68 (by omega) (by omega), hk 69 (by omega) (by omega), hk 70 (by omega) (by omega), hk 71 (by omega) (by omega)]; exact e0.2.2 k hk'⟩, by rw [h67 5 (by omega)]; exact e4, fun r hr => by rw [hk 72 (by omega) (by omega)]; exact e5 r hr, ⟨h1, h2⟩, by rw [h67 44 (by omega)]; exact e7, fun s hs => (e8 s hs).of (hk _ (by omega) (by omega)) (hk _ (by omega) (by omega)) (hk _ (by omega) (by omega)) (hk _ (by omega) (by omega))⟩
theorem md_type {st : ST} {b : Int32} (hR : RM st I J) (hS : okS st) (hq : ∀ I', Lo I J I' J → RM (types st b).2 I' J → P (some (.int (types st b).1)) I' J) : Ct G (d + 1) m_RM_type [.ref 67, .int b] P I J := by
  have h5 := hR.2.2.2.1
  have hlen := hS.2.2.2.1.1
  have h100 : (I 67 31 = 100) ↔ st.2.2.2.1.length = 100 := by rw [h5.1]; exact nI_eq (b := 100) (by omega) (by omega)
  refine Ct.ofGo [some (.ref 67), some (.int b)] (by decide +kernel) rfl (Nat.le_of_ble_eq_true rfl) (w_RM_type_0 (fun _ c => ?_) (fun c1 c2 => ?_) (fun c1 c2 => ?_) (fun c => ?_))
  · have : ¬ st.2.2.2.1.length = 100 := fun q => c (h100.mpr q)
    rw [h5.1]; exact vp_in_nI (by omega) (by omega)
  · have c3 : ¬ st.2.2.2.1.length = 100 := fun q => c2 (h100.mpr q)
    have c1 : ¬ f_LB_isWithin b 0 255 = 0 := c1
    have e : types st b = (nI (st.2.2.2.1.length + 1), sTxt st (st.2.2.2.1 ++ [b])) := by unfold types; rw [if_neg c1, if_neg (by omega)]
    rw [e] at hq
    rw [h5.1, nI_clamp (show st.2.2.2.1.length < 2 ^ 31 by omega), nI_1]
    have hk : ∀ a, a ≠ 67 → a ≠ 91 → u2 (u2 I 91 st.2.2.2.1.length b) 67 31 (nI (st.2.2.2.1.length + 1)) a = I a := fun a h1 h2 => by rw [u2_o h1, u2_o h2]
    refine hq _ (fun a ha => ⟨hk a (by omega) (by omega), rfl⟩) (hR.txt (by rw [u2_s]; simp) (fun k hk' => ?_) (fun k hk' => by rw [u2_k hk', u2_o (by decide)]) hk)
    rw [u2_o (by decide)]
    rcases Nat.lt_or_ge k st.2.2.2.1.length with q | q
    · rw [u2_k (by omega), getD_app1 q]; exact h5.2 k q
    · obtain rfl : k = st.2.2.2.1.length := by simp at hk'; omega
      rw [u2_s, getD_app2]
  · have c1 : ¬ f_LB_isWithin b 0 255 = 0 := c1
    have e : types st b = (-4, st) := by unfold types; rw [if_neg c1, if_pos (by have := h100.mp c2; omega)]
    rw [e] at hq
    exact hq I Lo.rf hR
  · have c : f_LB_isWithin b 0 255 = 0 := c
    have e : types st b = (-2, st) := by unfold types; rw [if_pos c]
    rw [e] at hq
    exact hq I Lo.rf hR
theorem md_wipe {st : ST} (hR : RM st I J) (hq : ∀ I', Lo I J I' J → RM (wipes st).2 I' J → P (some (.int (wipes st).1)) I' J) : Ct G d m_RM_wipe [.ref 67] P I J := by
  refine Ct.ofGo [some (.ref 67), none] (by decide +kernel) rfl (Nat.le_of_ble_eq_true rfl) (w_RM_wipe_0 ?_)
  rw [hR.2.2.2.1.1]
  exact hq _ (fun a ha => ⟨u2_o (by omega), rfl⟩) (hR.txt (by rw [u2_s]; exact nI_0.symm) (fun k hk' => by simp at hk') (fun k hk => u2_k hk) (fun a h1 _ => u2_o h1))
theorem RM.fd {st : ST} {n : Int32} (h : RM st I J) : RM (sFd st n) (u2 I 67 44 n) J := by
  obtain ⟨e0, e4, e5, e6, e7, e8⟩ := h
  have hk : ∀ a, a ≠ 67 → u2 I 67 44 n a = I a := fun a ha => u2_o ha
  exact ⟨⟨e0.1, by rw [u2_k (by decide)]; exact e0.2.1, fun k hk' => by rw [hk 68 (by omega), hk 69 (by omega), hk 70 (by omega), hk 71 (by omega)]; exact e0.2.2 k hk'⟩, by rw [u2_k (by decide)]; exact e4, fun r hr => by rw [hk 72 (by omega)]; exact e5 r hr, ⟨by rw [u2_k (by decide)]; exact e6.1, fun k hk' => by rw [hk 91 (by omega)]; exact e6.2 k hk'⟩, u2_s, fun s hs => (e8 s hs).of (hk _ (by omega)) (hk _ (by omega)) (hk _ (by omega)) (hk _ (by omega))⟩
theorem md_meets {st : ST} {n : Int32} (hR : RM st I J) (hq : ∀ I', Lo I J I' J → RM (founds st n).2 I' J → P (some (.int (founds st n).1)) I' J) : Ct G d m_RM_meets [.ref 67, .int n] P I J :=
  Ct.ofGo [some (.ref 67), some (.int n)] (by decide +kernel) rfl (Nat.le_of_ble_eq_true rfl) (w_RM_meets_0 (hq _ (fun a ha => ⟨u2_o (by omega), rfl⟩) hR.fd))
/-- one sheet of the reference anew: other sheets' places stay -/
theorem RM.sht {st : ST} {s : Nat} {q : QT} {I' : MI} {J' : MJ} (h : RM st I J) (hS : okS st) (hs : s < 4) (hM : SM q s I') (hk : ∀ a, a ≠ 95 → a ≠ 96 → a ≠ 97 → a ≠ 98 → a ≠ 99 → I' a = I a) (ho : ∀ s', s' < 4 → s' ≠ s → I' 95 s' = I 95 s' ∧ I' 96 s' = I 96 s' ∧ I' 97 s' = I 97 s' ∧ ∀ j, j < 60 → I' 98 (60 * s' + j) = I 98 (60 * s' + j)) : RM (setQ st (nI s) q) I' J' := by
  obtain ⟨e0, e4, e5, e6, e7, e8⟩ := h
  have h67 : I' 67 = I 67 := hk 67 (by omega) (by omega) (by omega) (by omega) (by omega)
  refine ⟨⟨e0.1, by rw [h67]; exact e0.2.1, fun k hk' => by rw [hk 68 (by omega) (by omega) (by omega) (by omega) (by omega), hk 69 (by omega) (by omega) (by omega) (by omega) (by omega), hk 70 (by omega) (by omega) (by omega) (by omega) (by omega), hk 71 (by omega) (by omega) (by omega) (by omega) (by omega)]; exact e0.2.2 k hk'⟩, by rw [h67]; exact e4, fun r hr => by rw [hk 72 (by omega) (by omega) (by omega) (by omega) (by omega)]; exact e5 r hr, ⟨by rw [h67]; exact e6.1, fun k hk' => by rw [hk 91 (by omega) (by omega) (by omega) (by omega) (by omega)]; exact e6.2 k hk'⟩, by rw [h67]; exact e7, fun s' hs' => ?_⟩
  show SM ((st.2.2.2.2.2.set (nI s).toNatClampNeg q).getD s' none) s' I'
  rw [nI_clamp (show s < 2 ^ 31 by omega)]
  by_cases e : s = s'
  · subst e
    rw [getD_set_eq (by have := hS.2.2.2.2.1; omega)]; exact hM
  · rw [getD_set_ne e]
    have h1 := e8 s' hs'
    have hok := okS_sh hS hs'
    obtain ⟨g1, g2, g3, g4⟩ := ho s' hs' (Ne.symm e)
    cases hq' : st.2.2.2.2.2.getD s' none with
    | none => rw [hq'] at h1; show I' 95 s' = 0; rw [g1]; exact h1
    | some a =>
      obtain ⟨ty, it⟩ := a
      rw [hq'] at h1 hok
      have hl : it.length ≤ 60 := hok.2
      exact ⟨by rw [g1]; exact h1.1, by rw [g2]; exact h1.2.1, by rw [g3]; exact h1.2.2.1, fun j hj => by rw [g4 j (by omega)]; exact h1.2.2.2 j hj⟩
theorem there_iff {q : QT} {s : Nat} (hM : SM q s I) : I 95 s = 0 ↔ q = none := by
  cases q with
  | none => exact ⟨fun _ => rfl, fun _ => hM⟩
  | some q =>
    obtain ⟨t, it⟩ := q
    constructor
    · intro h
      have h1 : I 95 s = 1 := hM.1
      rw [h1] at h; exact absurd h (by decide)
    · intro h; cases h
theorem rsheet_loop {s x1 : Nat} {x3 : Int32} {I0 : MI} (hs : s < 4) (hq : ∀ I', (∀ a, a ≠ 98 → I' a = I0 a) → (∀ j, j < 60 → I' 98 (60 * s + j) = 0) → (∀ s' j, s' < 4 → s' ≠ s → j < 60 → I' 98 (60 * s' + j) = I0 98 (60 * s' + j)) → P (some (.int x3)) I' J) : ∀ (m i : Nat) (x4 : Int32) (I : MI), i + m = 60 → x4 = nI i → (∀ a, a ≠ 98 → I a = I0 a) → (∀ j, j < i → I 98 (60 * s + j) = 0) → (∀ s' j, s' < 4 → s' ≠ s → j < 60 → I 98 (60 * s' + j) = I0 98 (60 * s' + j)) → Go G (fr G m_RM_sheet (d + 2) P) 59 [some (.ref 67), some (.int (nI s)), none, some (.int x3), some (.int x4)] [] I J := by
  intro m
  induction m with
  | zero =>
    intro i x4 I hi hx h1 h2 h3
    subst hx
    obtain rfl : i = 60 := by omega
    have hle : (60 : Int32) ≤ nI 60 := by decide
    exact w_RM_sheet_59 (fun _ => hq I h1 h2 h3) (fun c => absurd hle c) (fun c => absurd hle c)
  | succ m ih =>
    intro i x4 I hi hx h1 h2 h3
    subst hx
    have hc : ¬ (60 : Int32) ≤ nI i := nI_ge (a := i) (b := 60) (by omega) (by omega)
    refine w_RM_sheet_59 (fun c => absurd c hc) (fun _ => ?_) (fun _ => ?_)
    · rw [at60]; exact vp_in_nI (by omega) (by omega)
    · rw [at60, nI_clamp (show 60 * s + i < 2 ^ 31 by omega)]
      refine ih (i + 1) _ _ (by omega) (nI_1 i) (fun a ha => by rw [u2_o ha]; exact h1 a ha) (fun j hj => ?_) (fun s' j hs' hne hj => ?_)
      · by_cases q : j = i
        · subst q; exact u2_s
        · rw [u2_k (by omega)]; exact h2 j (by omega)
      · rw [u2_k (by omega)]; exact h3 s' j hs' hne hj
theorem md_sheet {st : ST} {s ty n : Int32} (hR : RM st I J) (hS : okS st) (hq : ∀ I', Lo I J I' J → RM (sheets st s ty n).2 I' J → P (some (.int (sheets st s ty n).1)) I' J) : Ct G (d + 2) m_RM_sheet [.ref 67, .int s, .int ty, .int n] P I J := by
  have hbad : (f_LB_isSheet s = 0 ∨ f_LB_isType ty = 0 ∨ ¬ n ≤ 60) → Go G (fr G m_RM_sheet (d + 2) P) 22 [none, none, none, none, none] [] I J := fun hb => by
    refine w_RM_sheet_22 ?_
    have e : sheets st s ty n = (-2, st) := by simp only [sheets, if_pos hb]
    rw [e] at hq
    exact hq I Lo.rf hR
  refine Ct.ofGo [some (.ref 67), some (.int s), some (.int ty), some (.int n), none] (by decide +kernel) rfl (Nat.le_of_ble_eq_true rfl) (w_RM_sheet_0 (fun c => hbad (Or.inl c)) (fun _ c => hbad (Or.inr (Or.inl c))) (fun c _ _ _ => vin_row (isSht1 c)) (fun c1 c2 c3 c4 => ?_) (fun c1 c2 c3 c4 => ?_) (fun _ _ c => hbad (Or.inr (Or.inr c))))
  · have hnb : ¬ (f_LB_isSheet s = 0 ∨ f_LB_isType ty = 0 ∨ ¬ n ≤ 60) := by
      rintro (h | h | h)
      · exact c1 h
      · exact c2 h
      · exact h c3
    have e : sheets st s ty n = (n, setQ st s (some (ty, List.replicate n.toNatClampNeg 0))) := by simp only [sheets, if_neg hnb, if_neg (not_not_intro c4)]
    rw [e] at hq
    obtain ⟨s, hs, rfl⟩ := isSht1 c1
    obtain ⟨n, hn, rfl⟩ := nI_of2 (n := 60) (by decide) (Int32.not_lt.mpr c4) c3
    have e1 : (nI s).toNatClampNeg = s := nI_clamp (by omega)
    have e2 : (nI n).toNatClampNeg = n := nI_clamp (by omega)
    rw [e1]
    rw [e2] at hq
    refine rsheet_loop (x1 := 0) hs (fun I' g1 g2 g3 => ?_) 60 0 0 _ (by omega) nI_0.symm (fun _ _ => rfl) (fun j hj => by omega) (fun _ _ _ _ _ => rfl)
    have hk : ∀ a, a ≠ 95 → a ≠ 96 → a ≠ 97 → a ≠ 98 → I' a = I a := fun a h1 h2 h3 h4 => by rw [g1 a h4, u2_o h3, u2_o h2, u2_o h1]
    refine hq I' (fun a ha => ⟨hk a (by omega) (by omega) (by omega) (by omega), rfl⟩) (hR.sht hS hs ⟨?_, ?_, ?_, fun j hj => ?_⟩ (fun a h1 h2 h3 h4 _ => hk a h1 h2 h3 h4) (fun s' hs' hne => ⟨?_, ?_, ?_, fun j hj => ?_⟩))
    · rw [g1 95 (by decide), u2_o (by decide), u2_o (by decide), u2_s]
    · rw [g1 96 (by decide), u2_o (by decide), u2_s]
    · rw [g1 97 (by decide), u2_s]; simp
    · simp at hj
      rw [g2 j (by omega)]
      simp [List.getD_eq_getElem?_getD, hj]
    · rw [g1 95 (by decide), u2_o (by decide), u2_o (by decide), u2_k hne]
    · rw [g1 96 (by decide), u2_o (by decide), u2_k hne, u2_o (by decide)]
    · rw [g1 97 (by decide), u2_k hne, u2_o (by decide), u2_o (by decide)]
    · rw [g3 s' j hs' hne hj, u2_o (by decide), u2_o (by decide), u2_o (by decide)]
  · have hnb : ¬ (f_LB_isSheet s = 0 ∨ f_LB_isType ty = 0 ∨ ¬ n ≤ 60) := by
      rintro (h | h | h)
      · exact c1 h
      · exact c2 h
      · exact h c3
    have e : sheets st s ty n = founds st 5 := by simp only [sheets, if_neg hnb, if_pos c4]
    rw [e] at hq
    exact md_meets hR (fun I' h1 h2 => w_RM_sheet_34 (hq I' h1 h2))
theorem md_lose {st : ST} {s : Int32} (hR : RM st I J) (hS : okS st) (hq : ∀ I', Lo I J I' J → RM (loses st s).2 I' J → P (some (.int (loses st s).1)) I' J) : Ct G (d + 2) m_RM_lose [.ref 67, .int s] P I J := by
  refine Ct.ofGo [some (.ref 67), some (.int s)] (by decide +kernel) rfl (Nat.le_of_ble_eq_true rfl) (w_RM_lose_0 (fun c => vin_row (isSht1 c)) (fun c c2 => ?_) (fun c c2 => ?_) (fun c => ?_))
  · have c : ¬ f_LB_isSheet s = 0 := c
    obtain ⟨s, hs, rfl⟩ := isSht1 c
    have e1 : (nI s).toNatClampNeg = s := nI_clamp (by omega)
    rw [e1] at c2 ⊢
    have hM := hR.2.2.2.2.2 s hs
    have eq : shO st (nI s) = st.2.2.2.2.2.getD s none := by rw [shO, e1]
    cases hsh : st.2.2.2.2.2.getD s none with
    | none => exact absurd ((there_iff hM).mpr hsh) c2
    | some a =>
      obtain ⟨ty, it⟩ := a
      rw [hsh] at hM
      have e : loses st (nI s) = (nI it.length, setQ st (nI s) none) := by unfold loses; rw [if_neg c, eq, hsh]
      rw [e] at hq
      rw [hM.2.2.1]
      exact hq _ (fun a ha => ⟨u2_o (by omega), rfl⟩) (hR.sht hS hs (show u2 I 95 s 0 95 s = 0 from u2_s) (fun a h1 _ _ _ _ => u2_o h1) (fun s' hs' hne => ⟨u2_k hne, by rw [u2_o (by decide)], by rw [u2_o (by decide)], fun j hj => by rw [u2_o (by decide)]⟩))
  · have c : ¬ f_LB_isSheet s = 0 := c
    obtain ⟨s, hs, rfl⟩ := isSht1 c
    have e1 : (nI s).toNatClampNeg = s := nI_clamp (by omega)
    rw [e1] at c2
    have hM := hR.2.2.2.2.2 s hs
    have eq : shO st (nI s) = st.2.2.2.2.2.getD s none := by rw [shO, e1]
    have hn := (there_iff hM).mp c2
    have e : loses st (nI s) = founds st 1 := by unfold loses; rw [if_neg c, eq, hn]
    rw [e] at hq
    exact md_meets hR (fun I' h1 h2 => w_RM_lose_24 (hq I' h1 h2))
  · have c : f_LB_isSheet s = 0 := c
    have e : loses st s = (-2, st) := by unfold loses; rw [if_pos c]
    rw [e] at hq
    exact hq I Lo.rf hR
theorem in_wthn {i : Int32} {L : Nat} (hL : L ≤ 60) : f_LB_isWithin i 0 (nI L - 1) = 0 ↔ ¬ wthn i 1 L := by
  have z0 : (0 : Int32).toInt = 0 := rfl
  have z1 : (1 : Int32).toInt = 1 := rfl
  have hn : (nI L).toInt = L := nI_ti (by omega)
  have hs : (nI L - 1).toInt = (L : Int) - 1 := by rw [ti_sub (by rw [hn, z1]; omega) (by rw [hn, z1]; omega), hn, z1]
  rw [isW0, ti_le, ti_le, hs, z0]
  constructor
  · rintro h ⟨a, b, c⟩
    exact h ⟨a, by rw [z1] at c; omega⟩
  · rintro h ⟨a, b⟩
    exact h ⟨a, by rw [z1]; omega, by rw [z1]; omega⟩
theorem md_lacks {q : QT} {s : Nat} {ty i : Int32} (hs : s < 4) (hM : SM q s I) (hok : okQ q) (hq : P (some (.int (lacksQ q ty i))) I J) : Ct G (d + 1) m_RM_lacks [.ref 67, .int (nI s), .int ty, .int i] P I J := by
  have e1 : (nI s).toNatClampNeg = s := nI_clamp (by omega)
  refine Ct.ofGo [some (.ref 67), some (.int (nI s)), some (.int ty), some (.int i)] (by decide +kernel) rfl (Nat.le_of_ble_eq_true rfl) (w_RM_lacks_0 (vp_in_nI hs (by omega)) (fun c1 c2 c3 => ?_) (fun c1 c2 c3 => ?_) (fun c1 c2 => ?_) (fun c1 => ?_))
  · rw [e1] at c1 c2 c3
    cases q with
    | none => exact absurd hM c1
    | some a =>
      obtain ⟨t, it⟩ := a
      rw [hM.2.1] at c2
      rw [hM.2.2.1] at c3
      have hw := (in_wthn hok.2).mp c3
      simpa only [lacksQ, if_pos c2.symm, if_neg hw] using hq
  · rw [e1] at c1 c2 c3
    cases q with
    | none => exact absurd hM c1
    | some a =>
      obtain ⟨t, it⟩ := a
      rw [hM.2.1] at c2
      rw [hM.2.2.1] at c3
      have hw : wthn i 1 it.length := Decidable.not_not.mp fun q => c3 ((in_wthn hok.2).mpr q)
      simpa only [lacksQ, if_pos c2.symm, if_pos hw] using hq
  · rw [e1] at c1 c2
    cases q with
    | none => exact absurd hM c1
    | some a =>
      obtain ⟨t, it⟩ := a
      rw [hM.2.1] at c2
      simpa only [lacksQ, if_neg (fun h => c2 (Eq.symm h))] using hq
  · rw [e1] at c1
    have hn := (there_iff hM).mp c1
    subst hn
    exact hq
theorem md_lay {s j : Nat} {ty v : Int32} (hs : s < 4) (hj : j < 60) (h6 : I 96 s = ty) (hq : P none (u2 I 98 (60 * s + j) (nar ty v)) J) : Ct G d m_RM_lay [.ref 67, .int (nI s), .int (nI j), .int v] P I J := by
  have e1 : (nI s).toNatClampNeg = s := nI_clamp (by omega)
  have hv : vp_in (60 * nI s + nI j) 240 := by rw [at60]; exact vp_in_nI (by omega) (by omega)
  have e2 : (60 * nI s + nI j).toNatClampNeg = 60 * s + j := by rw [at60]; exact nI_clamp (by omega)
  refine Ct.ofGo [some (.ref 67), some (.int (nI s)), some (.int (nI j)), some (.int v)] (by decide +kernel) rfl (Nat.le_of_ble_eq_true rfl) (w_RM_lay_0 (vp_in_nI hs (by omega)) (fun c1 c2 => ?_) (fun c1 c2 => ?_) (fun c1 => ?_))
  · rw [e1, h6] at c1 c2
    refine w_RM_lay_40 hv ?_
    rw [e2]
    simpa only [nar, if_neg c1, if_neg c2] using hq
  · rw [e1, h6] at c1 c2
    refine w_RM_lay_40 hv ?_
    rw [e2]
    simpa only [nar, if_neg c1, if_pos c2] using hq
  · rw [e1, h6] at c1
    refine w_RM_lay_40 hv ?_
    rw [e2]
    simpa only [nar, if_pos c1] using hq
theorem lacks_cases {q : QT} {ty i : Int32} : lacksQ q ty i = 0 ∨ 0 < lacksQ q ty i := by
  cases q with
  | none => exact Or.inr (show (0 : Int32) < 1 from by decide)
  | some a =>
    obtain ⟨t, it⟩ := a
    unfold lacksQ
    simp only []
    split
    · split
      · exact Or.inl rfl
      · exact Or.inr (by decide)
    · exact Or.inr (by decide)
theorem wthn_nat {i : Int32} {L : Nat} (h : wthn i 1 L) : i = nI i.toNatClampNeg := by
  have h1 := h.1
  rw [ti_eq, nI_ti (by rw [ti_cl]; have := ti_hi i; omega), ti_cl]
  omega
theorem RM.item {st : ST} {s j : Nat} {ty v : Int32} {it : List Int32} (h : RM st I J) (hS : okS st) (hs : s < 4) (hsh : st.2.2.2.2.2.getD s none = some (ty, it)) (hj : j < it.length) : RM (setQ st (nI s) (some (ty, it.set j v))) (u2 I 98 (60 * s + j) v) J := by
  have hM := h.2.2.2.2.2 s hs
  have hok := okS_sh hS hs
  rw [hsh] at hM hok
  have hl : it.length ≤ 60 := hok.2
  refine h.sht hS hs ⟨by rw [u2_o (by decide)]; exact hM.1, by rw [u2_o (by decide)]; exact hM.2.1, by rw [u2_o (by decide)]; simpa using hM.2.2.1, fun k hk => ?_⟩ (fun a _ _ _ h4 _ => u2_o h4) (fun s' hs' hne => ⟨by rw [u2_o (by decide)], by rw [u2_o (by decide)], by rw [u2_o (by decide)], fun k hk => u2_k (by omega)⟩)
  simp at hk
  by_cases q : k = j
  · subst q
    rw [u2_s, getD_set_eq hk]
  · rw [u2_k (by omega), getD_set_ne (Ne.symm q)]; exact hM.2.2.2 k hk
theorem md_put {st : ST} {s ty i v : Int32} (hR : RM st I J) (hS : okS st) (hq : ∀ I', Lo I J I' J → RM (puts st s ty i v).2 I' J → P (some (.int (puts st s ty i v).1)) I' J) : Ct G (d + 2) m_RM_put [.ref 67, .int s, .int ty, .int i, .int v] P I J := by
  have hbad : (f_LB_isSheet s = 0 ∨ f_LB_isType ty = 0) → Go G (fr G m_RM_put (d + 2) P) 16 [none, none, none, none, none, none] [] I J := fun hb => by
    refine w_RM_put_16 ?_
    have e : puts st s ty i v = (-2, st) := by simp only [puts, if_pos hb]
    rw [e] at hq
    exact hq I Lo.rf hR
  refine Ct.ofGo [some (.ref 67), some (.int s), some (.int ty), some (.int i), some (.int v), none] (by decide +kernel) rfl (Nat.le_of_ble_eq_true rfl) (w_RM_put_0 (fun c => hbad (Or.inl c)) (fun c1 c2 => ?_) (fun _ c => hbad (Or.inr c)))
  have c1 : ¬ f_LB_isSheet s = 0 := c1
  have c2 : ¬ f_LB_isType ty = 0 := c2
  have hnb : ¬ (f_LB_isSheet s = 0 ∨ f_LB_isType ty = 0) := by
    rintro (h | h)
    · exact c1 h
    · exact c2 h
  obtain ⟨s, hs, rfl⟩ := isSht1 c1
  have e1 : (nI s).toNatClampNeg = s := nI_clamp (by omega)
  have hM := hR.2.2.2.2.2 s hs
  have hok := okS_sh hS hs
  have eq : shO st (nI s) = st.2.2.2.2.2.getD s none := by rw [shO, e1]
  refine md_lacks hs hM hok ?_
  rcases lacks_cases (q := st.2.2.2.2.2.getD s none) (ty := ty) (i := i) with c | c
  · obtain ⟨t, it, h1, h2, h3⟩ := lacks0 c
    have e : puts st (nI s) ty i v = (1, setQ st (nI s) (some (t, it.set i.toNatClampNeg (nar t v)))) := by unfold puts; rw [if_neg hnb, eq, if_pos c, h1]; rfl
    rw [e] at hq
    rw [h1] at hM hok
    have hl : it.length ≤ 60 := hok.2
    have hi := wthn_in h3
    refine w_RM_put_26 (fun _ => ?_) (fun c' => absurd (by rw [c]; decide) c')
    rw [wthn_nat h3]
    refine md_lay hs (by omega) hM.2.1 (w_RM_put_48 ?_)
    exact hq _ (fun a ha => ⟨u2_o (by omega), rfl⟩) (hR.item hS hs h1 hi)
  · have hne : ¬ lacksQ (st.2.2.2.2.2.getD s none) ty i = 0 := fun h => by rw [h] at c; exact absurd c (by decide)
    have e : puts st (nI s) ty i v = founds st (lacksQ (st.2.2.2.2.2.getD s none) ty i) := by unfold puts; rw [if_neg hnb, eq, if_neg hne]
    rw [e] at hq
    exact w_RM_put_26 (fun c' => absurd c' (Int32.not_le.mpr c)) (fun _ => md_meets hR (fun I' h1 h2 => w_RM_put_39 (hq I' h1 h2)))
theorem md_get {st : ST} {s ty i : Int32} (hR : RM st I J) (hS : okS st) (hq : ∀ I', Lo I J I' J → RM (gets st s ty i).2 I' J → P (some (.int (gets st s ty i).1)) I' J) : Ct G (d + 2) m_RM_get [.ref 67, .int s, .int ty, .int i] P I J := by
  have hbad : (f_LB_isSheet s = 0 ∨ f_LB_isType ty = 0) → Go G (fr G m_RM_get (d + 2) P) 16 [none, none, none, none, none] [] I J := fun hb => by
    refine w_RM_get_16 ?_
    have e : gets st s ty i = (-2147483648, st) := by simp only [gets, if_pos hb]
    rw [e] at hq
    exact hq I Lo.rf hR
  refine Ct.ofGo [some (.ref 67), some (.int s), some (.int ty), some (.int i), none] (by decide +kernel) rfl (Nat.le_of_ble_eq_true rfl) (w_RM_get_0 (fun c => hbad (Or.inl c)) (fun c1 c2 => ?_) (fun _ c => hbad (Or.inr c)))
  have c1 : ¬ f_LB_isSheet s = 0 := c1
  have c2 : ¬ f_LB_isType ty = 0 := c2
  have hnb : ¬ (f_LB_isSheet s = 0 ∨ f_LB_isType ty = 0) := by
    rintro (h | h)
    · exact c1 h
    · exact c2 h
  obtain ⟨s, hs, rfl⟩ := isSht1 c1
  have e1 : (nI s).toNatClampNeg = s := nI_clamp (by omega)
  have hM := hR.2.2.2.2.2 s hs
  have hok := okS_sh hS hs
  have eq : shO st (nI s) = st.2.2.2.2.2.getD s none := by rw [shO, e1]
  refine md_lacks hs hM hok ?_
  rcases lacks_cases (q := st.2.2.2.2.2.getD s none) (ty := ty) (i := i) with c | c
  · obtain ⟨t, it, h1, h2, h3⟩ := lacks0 c
    have e : gets st (nI s) ty i = (it.getD i.toNatClampNeg 0, st) := by unfold gets; rw [if_neg hnb, eq, if_pos c, h1]; rfl
    rw [e] at hq
    rw [h1] at hM hok
    have hl : it.length ≤ 60 := hok.2
    have hi := wthn_in h3
    have ei : 60 * nI s + i = nI (60 * s + i.toNatClampNeg) := by
      have := at60 s i.toNatClampNeg
      rw [← wthn_nat h3] at this; exact this
    refine w_RM_get_27 (fun _ => ?_) (fun _ => ?_) (fun c' => absurd (by rw [c]; decide) c')
    · rw [ei]; exact vp_in_nI (by omega) (by omega)
    · rw [ei, nI_clamp (by omega), hM.2.2.2 _ hi]
      exact hq I Lo.rf hR
  · have hne : ¬ lacksQ (st.2.2.2.2.2.getD s none) ty i = 0 := fun h => by rw [h] at c; exact absurd c (by decide)
    have e : gets st (nI s) ty i = (-2147483648, sFd st (lacksQ (st.2.2.2.2.2.getD s none) ty i)) := by unfold gets; rw [if_neg hnb, eq, if_neg hne]
    rw [e] at hq
    exact w_RM_get_27 (fun c' => absurd c' (Int32.not_le.mpr c)) (fun c' => absurd c' (Int32.not_le.mpr c)) (fun _ => hq _ (fun a ha => ⟨u2_o (by omega), rfl⟩) hR.fd)
end
