/-! ===== since, the reference ===== -/
section
variable {G : GC} {d : Nat} {P : PT} {I : MI} {J : MJ}
theorem rsm_loop {L : List Pt} {K : Nat} {f : Nat → Nat} {g : Nat → Int32} (hl : L.length ≤ 40) (hK6 : K ≤ 6) (hQ : QL L I) (hf : ∀ i, i < K → f i < L.length ∧ I 83 i = nI (f i)) (hg : ∀ i, i < K → I 86 i = g i) (hq1 : (∀ i, i < K → dayAt L (f i) = g i) → P (some (.int 1)) I J) (hq0 : (∃ i, i < K ∧ ¬ dayAt L (f i) = g i) → P (some (.int 0)) I J) : ∀ (r i : Nat), i + r = K → (∀ j, j < i → dayAt L (f j) = g j) → Go G (fr G m_RM_isSame (d + 5) P) 17 [some (.ref 67), none, none, some (.int (nI K)), none, some (.int (nI i))] [] I J := by
  intro r
  induction r with
  | zero =>
    intro i hi hv
    obtain rfl : i = K := by omega
    have hle : nI i ≤ nI i := nI_le (Nat.le_refl _) (by omega)
    exact w_RM_isSame_17 (fun _ => hq1 hv) (fun c => absurd hle c) (fun c => absurd hle c) (fun c => absurd hle c) (fun c => absurd hle c) (fun c => absurd hle c)
  | succ r ih =>
    intro i hi hv
    have hc : ¬ nI K ≤ nI i := nI_ge (by omega) (by omega)
    obtain ⟨f1, f2⟩ := hf i (by omega)
    have ei : (nI i).toNatClampNeg = i := nI_clamp (by omega)
    have ef : (nI (f i)).toNatClampNeg = f i := nI_clamp (by omega)
    refine w_RM_isSame_17 (fun c => absurd c hc) (fun _ => vp_in_nI (by omega) (by omega)) (fun _ => by rw [ei, f2]; exact vp_in_nI (by omega) (by omega)) (fun _ => vp_in_nI (by omega) (by omega)) (fun _ c => ?_) (fun _ c => ?_)
    · rw [ei, f2, ef, (hQ.2 _ f1).2, hg i (by omega)] at c
      rw [nI_1]
      refine ih (i + 1) (by omega) (fun j hj => ?_)
      by_cases q : j = i
      · rw [q]; exact c
      · exact hv j (by omega)
    · rw [ei, f2, ef, (hQ.2 _ f1).2, hg i (by omega)] at c
      exact hq0 ⟨i, by omega, c⟩
theorem md_isSame {st : ST} {r k K : Nat} {t : Int32} (hR : RM st I J) (hS : okS st) (hr : r < 4) (hk : k < 4) (hK : 1 ≤ K) (hK6 : K ≤ 6) (hg : ∀ i, i < K → I 86 i = dysT st r k K st.2.1 i) (hq : ∀ I' J', KM I J I' J' → Hg I I' → P (some (.int (if sameT st r k K t = true then 1 else 0))) I' J') : Ct G (d + 5) m_RM_isSame [.ref 67, .int (nI r), .int (nI k), .int (nI K), .int t] P I J := by
  refine Ct.ofGo [some (.ref 67), some (.int (nI r)), some (.int (nI k)), some (.int (nI K)), some (.int t), none] (by decide +kernel) rfl (Nat.le_of_ble_eq_true rfl) (w_RM_isSame_0 (md_finds hR hS hr hk hK hK6 (fun I' g1 gg g2 => ?_) (fun I' J' g1 gg g2 => ?_)))
  · have hno : ¬ sameT st r k K t = true := fun h => by
      unfold sameT at h
      rw [Bool.and_eq_true] at h
      have h1 : (Dp (cP k (ptl st.1 r t) (lsr st r)) (ptl st.1 r t).length K 0).isSome = true := h.1
      rw [g2] at h1; exact absurd h1 (by decide)
    have := hq I' J g1 gg
    rw [if_neg hno] at this
    exact w_RM_isSame_9 (fun c => absurd rfl c) (fun _ => this)
  · have hd : (Dp (cT st r k t) (ptl st.1 r t).length K 0).isSome = true := g2.2.2.2.1
    have hfin := hq I' J' g1 gg
    refine w_RM_isSame_9 (fun _ => ?_) (fun c => absurd c (by decide))
    refine rsm_loop (L := ptl st.1 r t) (f := plc (cT st r k t) (ptl st.1 r t).length K) (g := dysT st r k K st.2.1) (ptl_ok hS.1 r t).1 hK6 g2.1 (fun i hi => ⟨plc_lt hd hi, g2.2.2.2.2 i (by omega)⟩) (fun i hi => by rw [gg 86 (by omega)]; exact hg i hi) (fun hall => ?_) (fun hex => ?_) K 0 (by omega) (fun j hj => by omega)
    · have hsm : sameT st r k K t = true := by
        unfold sameT
        rw [Bool.and_eq_true]
        refine ⟨hd, ?_⟩
        rw [List.all_eq_true]
        intro i hi
        simp only [decide_eq_true_eq]
        exact hall i (List.mem_range.mp hi)
      rw [if_pos hsm] at hfin; exact hfin
    · have hsm : ¬ sameT st r k K t = true := fun h => by
        obtain ⟨i, hi, hne⟩ := hex
        unfold sameT at h
        rw [Bool.and_eq_true, List.all_eq_true] at h
        have := h.2 i (List.mem_range.mpr hi)
        simp only [decide_eq_true_eq] at this
        exact hne this
      rw [if_neg hsm] at hfin; exact hfin
theorem rdays_loop {L : List Pt} {K : Nat} {f : Nat → Nat} {x1 x2 : Int32} {I0 : MI} (hl : L.length ≤ 40) (hK6 : K ≤ 6) (hQ : QL L I0) (hf : ∀ i, i < K → f i < L.length ∧ I0 83 i = nI (f i)) (hq : ∀ I', (∀ a, a ≠ 86 → I' a = I0 a) → (∀ i, i < K → I' 86 i = dayAt L (f i)) → Go G (fr G m_RM_since (d + 6) P) 80 [some (.ref 67), some (.int x1), some (.int x2), some (.int (nI K)), some (.int (I' 67 5)), some (.int 1), some (.int ((I' 67 0) - 1))] [] I' J) : ∀ (r i : Nat) (I : MI), i + r = K → (∀ a, a ≠ 86 → I a = I0 a) → (∀ j, j < i → I 86 j = dayAt L (f j)) → Go G (fr G m_RM_since (d + 6) P) 32 [some (.ref 67), some (.int x1), some (.int x2), some (.int (nI K)), some (.int (nI i)), none, none] [] I J := by
  intro r
  induction r with
  | zero =>
    intro i I hi hF hv
    obtain rfl : i = K := by omega
    have hle : nI i ≤ nI i := nI_le (Nat.le_refl _) (by omega)
    exact w_RM_since_32 (fun _ => hq I hF hv) (fun c => absurd hle c) (fun c => absurd hle c) (fun c => absurd hle c) (fun c => absurd hle c)
  | succ r ih =>
    intro i I hi hF hv
    have hc : ¬ nI K ≤ nI i := nI_ge (by omega) (by omega)
    obtain ⟨f1, f2⟩ := hf i (by omega)
    have ei : (nI i).toNatClampNeg = i := nI_clamp (by omega)
    have ef : (nI (f i)).toNatClampNeg = f i := nI_clamp (by omega)
    have e83 : I 83 i = nI (f i) := by rw [hF 83 (by decide)]; exact f2
    refine w_RM_since_32 (fun c => absurd c hc) (fun _ => vp_in_nI (by omega) (by omega)) (fun _ => by rw [ei, e83]; exact vp_in_nI (by omega) (by omega)) (fun _ => vp_in_nI (by omega) (by omega)) (fun _ => ?_)
    rw [ei, e83, ef, hF 74 (by decide), (hQ.2 _ f1).2, nI_1]
    refine ih (i + 1) _ (by omega) (fun a ha => by rw [u2_o ha]; exact hF a ha) (fun j hj => ?_)
    by_cases q : j = i
    · rw [q, u2_s]; rfl
    · rw [u2_k q]; exact hv j (by omega)
theorem rsn_loop {st : ST} {r k K : Nat} {I0 : MI} {J0 : MJ} (hR : RM st I0 J0) (hS : okS st) (hr : r < 4) (hk : k < 4) (hK : 1 ≤ K) (hK6 : K ≤ 6) : ∀ (n : Nat) (x4 x6 : Int32) (res : Int32) (I : MI) (J : MJ), (∀ I' J', KM I0 J0 I' J' → P (some (.int res)) I' J') → n ≤ st.1.length → x6 = nI n - 1 → goM (sameT st r k K) st.1 (nI r) st.2.1 n = res → KM I0 J0 I J → (∀ i, i < K → I 86 i = dysT st r k K st.2.1 i) → Go G (fr G m_RM_since (d + 6) P) 80 [some (.ref 67), some (.int (nI r)), some (.int (nI k)), some (.int (nI K)), some (.int x4), some (.int 1), some (.int x6)] [] I J := by
  have hl := hR.1.1
  have z1 : ¬ (1 : Int32) = 0 := by decide
  intro n
  induction n with
  | zero =>
    intro x4 x6 res I J hq hn hx hgo hK2 h86
    subst hx
    have hlt : nI 0 - 1 < 0 := by decide
    have hgo : 0 = res := hgo
    subst hgo
    exact w_RM_since_80 (fun _ => w_RM_since_148 (fun c => absurd c z1) (fun _ => hq I J hK2)) (fun c => absurd hlt c) (fun c => absurd hlt c) (fun c => absurd hlt c) (fun c => absurd hlt c) (fun c => absurd hlt c)
  | succ n ih =>
    intro x4 x6 res I J hq hn hx hgo hK2 h86
    rw [nI_pred] at hx
    subst hx
    have hlt : ¬ nI n < 0 := nI_pos (by omega)
    have en : (nI n).toNatClampNeg = n := nI_clamp (by omega)
    have hR1 := hR.keep hK2
    obtain ⟨e1, e2, e3, e4⟩ := hR1.1.2.2 n (by omega)
    have e1 : I 68 n = rwOf st.1 n := e1
    have e4 : I 71 n = tmOf st.1 n := e4
    have h5 : I 67 5 = st.2.1 := hR1.2.1
    rw [goM_s] at hgo
    have skip : ¬ (rwOf st.1 n = nI r ∧ tmOf st.1 n ≤ st.2.1) → Go G (fr G m_RM_since (d + 6) P) 142 [some (.ref 67), some (.int (nI r)), some (.int (nI k)), some (.int (nI K)), some (.int x4), some (.int 1), some (.int (nI n))] [] I J := fun hc => by
      rw [if_neg hc] at hgo
      exact w_RM_since_142 (ih _ _ res I J hq (by omega) (by rw [Int32.sub_eq_add_neg]) hgo hK2 h86)
    refine w_RM_since_80 (fun c => absurd c hlt) (fun _ c => absurd c z1) (fun _ _ => vp_in_nI (by omega) (by omega)) (fun _ _ c => skip (fun h => c (by rw [en, e1]; exact h.1))) (fun _ _ _ c => skip (fun h => by rw [en, e4, h5] at c; exact absurd c (Int32.not_lt.mpr h.2))) (fun _ _ c1 c2 => ?_)
    rw [en, e1] at c1
    rw [en, e4, h5] at c2
    rw [if_pos ⟨c1, Int32.not_lt.mp c2⟩] at hgo
    rw [en, e4]
    refine md_isSame hR1 hS hr hk hK hK6 h86 (fun I2 J2 g1 gg => w_RM_since_140 (w_RM_since_142 ?_))
    have hK3 := hK2.tr g1
    have h86' : ∀ i, i < K → I2 86 i = dysT st r k K st.2.1 i := fun i hi => by rw [gg 86 (by omega)]; exact h86 i hi
    by_cases hsm : sameT st r k K (tmOf st.1 n - 1) = true
    · rw [if_pos hsm] at hgo ⊢
      exact ih _ _ res I2 J2 hq (by omega) (by rw [Int32.sub_eq_add_neg]) hgo hK3 h86'
    · rw [if_neg hsm] at hgo ⊢
      subst hgo
      have fin : Go G (fr G m_RM_since (d + 6) P) 148 [none, none, none, none, some (.int (tmOf st.1 n)), some (.int 0), none] [] I2 J2 := w_RM_since_148 (fun _ => hq I2 J2 hK3) (fun c => absurd rfl c)
      exact w_RM_since_80 (fun _ => fin) (fun _ _ => fin) (fun _ c => absurd rfl c) (fun _ c => absurd rfl c) (fun _ c => absurd rfl c) (fun _ c => absurd rfl c)
theorem md_since {st : ST} {r kd K : Int32} (hR : RM st I J) (hS : okS st) (hq : ∀ I' J', KM I J I' J' → P (some (.int (sinceA st r kd K))) I' J') : Ct G (d + 6) m_RM_since [.ref 67, .int r, .int kd, .int K] P I J := by
  refine Ct.ofGo [some (.ref 67), some (.int r), some (.int kd), some (.int K), none, none, none] (by decide +kernel) rfl (Nat.le_of_ble_eq_true rfl) (w_RM_since_0 (fun c1 => ?_) (fun c => ?_))
  · have a1 : ¬ f_LB_isRow r = 0 := fun h => c1 (isCut0.mpr (Or.inl h))
    have a2 : ¬ f_LB_isKind kd = 0 := fun h => c1 (isCut0.mpr (Or.inr (Or.inl h)))
    have a3 : ¬ f_LB_isStretches K = 0 := fun h => c1 (isCut0.mpr (Or.inr (Or.inr h)))
    have hnb : ¬ (f_LB_isRow r = 0 ∨ f_LB_isKind kd = 0 ∨ f_LB_isStretches K = 0) := by
      rintro (h | h | h)
      · exact a1 h
      · exact a2 h
      · exact a3 h
    unfold sinceA at hq
    rw [if_neg hnb] at hq
    obtain ⟨r, hr, rfl⟩ := isRow1 a1
    obtain ⟨k, hk, rfl⟩ := isKind1 a2
    obtain ⟨K, hK, hK6, rfl⟩ := isStr1 a3
    rw [nI_clamp (show r < 2 ^ 31 by omega), nI_clamp (show k < 2 ^ 31 by omega), nI_clamp (show K < 2 ^ 31 by omega)] at hq
    rw [hR.2.1]
    refine md_finds hR hS hr hk hK hK6 (fun I' g1 _ g2 => ?_) (fun I' J' g1 _ g2 => ?_)
    · have g2 : (Dp (cR st r k) (nR st r) K 0).isSome = false := g2
      rw [g2, if_neg (by decide)] at hq
      exact w_RM_since_23 (fun c => absurd rfl c) (fun _ => hq I' J g1)
    · have hd : (Dp (cR st r k) (nR st r) K 0).isSome = true := g2.2.2.2.1
      rw [if_pos hd] at hq
      refine w_RM_since_23 (fun _ => ?_) (fun c => absurd c (by decide))
      refine rdays_loop (L := pts st r) (f := plc (cR st r k) (nR st r) K) (pts_ok hS r).1 hK6 g2.1 (fun i hi => ⟨plc_lt hd hi, g2.2.2.2.2 i (by omega)⟩) (fun I2 f1 f2 => ?_) K 0 I' (by omega) (fun _ _ => rfl) (fun j hj => by omega)
      have hK2 : KM I' J' I2 J' := ⟨fun a ha => ⟨f1 a (by omega), rfl⟩, fun a _ _ => f1 a (by omega), f1 91 (by decide), fun a _ _ => f1 a (by omega), by rw [f1 67 (by decide)], by rw [f1 67 (by decide)], by rw [f1 67 (by decide)], by rw [f1 67 (by decide)]⟩
      have hK3 := g1.tr hK2
      have hR2 := hR.keep hK3
      rw [hR2.1.2.1]
      exact rsn_loop hR hS hr hk hK hK6 st.1.length _ _ _ I2 J' hq (Nat.le_refl _) rfl rfl hK3 f2
  · have e : sinceA st r kd K = -2 := by unfold sinceA; rw [if_pos (isCut0.mp c)]
    have := hq I J KM.rf
    rw [e] at this; exact this
end
