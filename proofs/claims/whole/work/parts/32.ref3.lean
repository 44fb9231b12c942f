/-! ===== the reference: copy, write, read, count ===== -/
section
variable {G : GC} {d : Nat} {P : PT} {I : MI} {J : MJ}
theorem at60b (s i k : Nat) : (60 : Int32) * nI s + nI i + nI k = nI (60 * s + i + k) := by rw [at60, nI_add]
theorem rcopy2 {t j n : Nat} {I0 : MI} (hs : t < 4) (hn : j + n ≤ 60) (hq : ∀ I', (∀ a, a ≠ 98 → I' a = I0 a) → (∀ k, I' 98 k = if 60 * t + j ≤ k ∧ k < 60 * t + j + n then I0 99 (k - (60 * t + j)) else I0 98 k) → P (some (.int 1)) I' J) : ∀ (m i : Nat) (x6 : Int32) (I : MI), i + m = n → x6 = nI i → (∀ a, a ≠ 98 → I a = I0 a) → (∀ k, I 98 k = if 60 * t + j ≤ k ∧ k < 60 * t + j + i then I0 99 (k - (60 * t + j)) else I0 98 k) → Go G (fr G m_RM_copy (d + 2) P) 157 [some (.ref 67), none, none, some (.int (nI t)), some (.int (nI j)), some (.int (nI n)), some (.int x6)] [] I J := by
  intro m
  induction m with
  | zero =>
    intro i x6 I hi hx h1 h2
    subst hx
    obtain rfl : i = n := by omega
    have hle : nI i ≤ nI i := nI_le (Nat.le_refl _) (by omega)
    exact w_RM_copy_157 (fun _ => hq I h1 h2) (fun c => absurd hle c) (fun c => absurd hle c) (fun c => absurd hle c)
  | succ m ih =>
    intro i x6 I hi hx h1 h2
    subst hx
    have hc : ¬ nI n ≤ nI i := nI_ge (by omega) (by omega)
    have e1 : (nI i).toNatClampNeg = i := nI_clamp (by omega)
    refine w_RM_copy_157 (fun c => absurd c hc) (fun _ => vp_in_nI (by omega) (by omega)) (fun _ => ?_) (fun _ => ?_)
    · rw [at60b]; exact vp_in_nI (by omega) (by omega)
    · rw [at60b, nI_clamp (show 60 * t + j + i < 2 ^ 31 by omega), e1, h1 99 (by decide)]
      refine ih (i + 1) _ _ (by omega) (nI_1 i) (fun a ha => by rw [u2_o ha]; exact h1 a ha) (fun k => ?_)
      by_cases q : k = 60 * t + j + i
      · subst q
        rw [u2_s, if_pos (by omega)]
        congr 1; omega
      · rw [u2_k q, h2 k]
        by_cases q2 : 60 * t + j ≤ k ∧ k < 60 * t + j + i
        · rw [if_pos q2, if_pos (by omega)]
        · rw [if_neg q2, if_neg (by omega)]
theorem rcopy1 {s i0 n : Nat} {x3 x4 : Int32} {I0 : MI} (hs : s < 4) (hn : i0 + n ≤ 60) (hq : ∀ I', (∀ a, a ≠ 99 → I' a = I0 a) → (∀ k, k < n → I' 99 k = I0 98 (60 * s + i0 + k)) → Go G (fr G m_RM_copy (d + 2) P) 157 [some (.ref 67), none, none, some (.int x3), some (.int x4), some (.int (nI n)), some (.int 0)] [] I' J) : ∀ (m i : Nat) (x6 : Int32) (I : MI), i + m = n → x6 = nI i → (∀ a, a ≠ 99 → I a = I0 a) → (∀ k, k < i → I 99 k = I0 98 (60 * s + i0 + k)) → Go G (fr G m_RM_copy (d + 2) P) 120 [some (.ref 67), some (.int (nI s)), some (.int (nI i0)), some (.int x3), some (.int x4), some (.int (nI n)), some (.int x6)] [] I J := by
  intro m
  induction m with
  | zero =>
    intro i x6 I hi hx h1 h2
    subst hx
    obtain rfl : i = n := by omega
    have hle : nI i ≤ nI i := nI_le (Nat.le_refl _) (by omega)
    exact w_RM_copy_120 (fun _ => hq I h1 h2) (fun c => absurd hle c) (fun c => absurd hle c) (fun c => absurd hle c)
  | succ m ih =>
    intro i x6 I hi hx h1 h2
    subst hx
    have hc : ¬ nI n ≤ nI i := nI_ge (by omega) (by omega)
    have e1 : (nI i).toNatClampNeg = i := nI_clamp (by omega)
    refine w_RM_copy_120 (fun c => absurd c hc) (fun _ => ?_) (fun _ => vp_in_nI (by omega) (by omega)) (fun _ => ?_)
    · rw [at60b]; exact vp_in_nI (by omega) (by omega)
    · rw [at60b, nI_clamp (show 60 * s + i0 + i < 2 ^ 31 by omega), e1, h1 98 (by decide)]
      refine ih (i + 1) _ _ (by omega) (nI_1 i) (fun a ha => by rw [u2_o ha]; exact h1 a ha) (fun k hk => ?_)
      by_cases q : k = i
      · subst q; exact u2_s
      · rw [u2_k q]; exact h2 k (by omega)
theorem md_copy {st : ST} {s i t j n : Int32} (hR : RM st I J) (hS : okS st) (hq : ∀ I', Lo I J I' J → RM (copys st s i t j n).2 I' J → P (some (.int (copys st s i t j n).1)) I' J) : Ct G (d + 2) m_RM_copy [.ref 67, .int s, .int i, .int t, .int j, .int n] P I J := by
  have hbad : (f_LB_isSheet s = 0 ∨ f_LB_isSheet t = 0) → Go G (fr G m_RM_copy (d + 2) P) 14 [none, none, none, none, none, none, none] [] I J := fun hb => by
    refine w_RM_copy_14 ?_
    have e : copys st s i t j n = (-2, st) := by simp only [copys, if_pos hb]
    rw [e] at hq
    exact hq I Lo.rf hR
  refine Ct.ofGo [some (.ref 67), some (.int s), some (.int i), some (.int t), some (.int j), some (.int n), none] (by decide +kernel) rfl (Nat.le_of_ble_eq_true rfl) ?_
  by_cases c1 : f_LB_isSheet s = 0
  · exact w_RM_copy_0 (fun _ => hbad (Or.inl c1)) (fun c => absurd c1 c) (fun c => absurd c1 c) (fun c => absurd c1 c) (fun c => absurd c1 c) (fun c => absurd c1 c) (fun c => absurd c1 c) (fun c => absurd c1 c) (fun c => absurd c1 c) (fun c => absurd c1 c) (fun c => absurd c1 c) (fun c => absurd c1 c) (fun c => absurd c1 c)
  by_cases c2 : f_LB_isSheet t = 0
  · exact w_RM_copy_0 (fun c => absurd c c1) (fun _ c => absurd c2 c) (fun _ c => absurd c2 c) (fun _ c => absurd c2 c) (fun _ c => absurd c2 c) (fun _ c => absurd c2 c) (fun _ c => absurd c2 c) (fun _ c => absurd c2 c) (fun _ c => absurd c2 c) (fun _ c => absurd c2 c) (fun _ c => absurd c2 c) (fun _ c => absurd c2 c) (fun _ _ => hbad (Or.inr c2))
  have hnb : ¬ (f_LB_isSheet s = 0 ∨ f_LB_isSheet t = 0) := by
    rintro (h | h)
    · exact c1 h
    · exact c2 h
  obtain ⟨s, hs, rfl⟩ := isSht1 c1
  obtain ⟨t, ht, rfl⟩ := isSht1 c2
  have e1 : (nI s).toNatClampNeg = s := nI_clamp (by omega)
  have e2 : (nI t).toNatClampNeg = t := nI_clamp (by omega)
  have hM := hR.2.2.2.2.2 s hs
  have hok := okS_sh hS hs
  have hD := hR.2.2.2.2.2 t ht
  have hok2 := okS_sh hS ht
  have eqs : shO st (nI s) = st.2.2.2.2.2.getD s none := by rw [shO, e1]
  have eqt : shO st (nI t) = st.2.2.2.2.2.getD t none := by rw [shO, e2]
  have hlost : (shO st (nI s) = none ∨ shO st (nI t) = none) → Go G (fr G m_RM_copy (d + 2) P) 35 [some (.ref 67), none, none, none, none, none, none] [] I J := fun hb => by
    have e : copys st (nI s) i (nI t) j n = founds st 1 := by unfold copys; rw [if_neg hnb, if_pos hb]
    rw [e] at hq
    exact w_RM_copy_35 (md_meets hR (fun I' g1 g2 => w_RM_copy_40 (hq I' g1 g2)))
  have vs : vp_in (nI s) 4 := vp_in_nI hs (by omega)
  have vt : vp_in (nI t) 4 := vp_in_nI ht (by omega)
  have z0 : (0 : Int32).toInt = 0 := rfl
  refine w_RM_copy_0 (fun c => absurd c c1) (fun _ _ => vs) (fun _ _ c => ?_) (fun _ _ _ => vt) (fun _ _ a1 a2 a3 a4 => ?_) (fun _ _ a1 a2 a3 a4 a5 => ?_) (fun _ _ a1 a2 a3 a4 a5 a6 => ?_) (fun _ _ a1 a2 a3 a4 a5 a6 a7 => ?_) (fun _ _ a1 a2 a3 a4 a5 a6 a7 a8 => ?_) (fun _ _ a1 a2 a3 a4 a5 a6 a7 a8 => ?_) (fun _ _ a1 a2 a3 => ?_) (fun _ _ _ c => ?_) (fun _ c => absurd c c2)
  · rw [e1] at c
    exact hlost (Or.inl (by rw [eqs]; exact (there_iff hM).mp c))
  all_goals first
    | (rw [e1] at a1; rw [e2] at a2; rw [e1, e2] at a3
       cases hqs : st.2.2.2.2.2.getD s none with
       | none => exact absurd ((there_iff hM).mpr hqs) a1
       | some a =>
         cases hqt : st.2.2.2.2.2.getD t none with
         | none => exact absurd ((there_iff hD).mpr hqt) a2
         | some b =>
           obtain ⟨ts, is⟩ := a
           obtain ⟨tt, it⟩ := b
           rw [hqs] at hM hok
           rw [hqt] at hD hok2
           have hls : is.length ≤ 60 := hok.2
           have hlt : it.length ≤ 60 := hok2.2
           have hnn : ¬ (shO st (nI s) = none ∨ shO st (nI t) = none) := by rw [eqs, eqt, hqs, hqt]; simp
           rw [hM.2.1, hD.2.1] at a3
           have n97s : (Int32.toInt64 (I 97 (nI s).toNatClampNeg)).toInt = is.length := by rw [ti_64, e1, hM.2.2.1]; exact nI_ti (by omega)
           have n97t : (Int32.toInt64 (I 97 (nI t).toNatClampNeg)).toInt = it.length := by rw [ti_64, e2, hD.2.2.1]; exact nI_ti (by omega)
           have b1 := ti_hi i; have b2 := ti_hi j; have b3 := ti_hi n; have b4 := ti_lo i; have b5 := ti_lo j; have b6 := ti_lo n
           have sin : (Int32.toInt64 i + Int32.toInt64 n).toInt = i.toInt + n.toInt := by rw [tl_add (by rw [ti_64, ti_64]; omega) (by rw [ti_64, ti_64]; omega), ti_64, ti_64]
           have sjn : (Int32.toInt64 j + Int32.toInt64 n).toInt = j.toInt + n.toInt := by rw [tl_add (by rw [ti_64, ti_64]; omega) (by rw [ti_64, ti_64]; omega), ti_64, ti_64]
           have hidx : ts = tt → ¬ (wthn i n is.length ∧ wthn j n it.length) → Go G (fr G m_RM_copy (d + 2) P) 111 [some (.ref 67), none, none, none, none, none, none] [] I J := fun c hb => by
             have e : copys st (nI s) i (nI t) j n = founds st 2 := by
               unfold copys
               rw [if_neg hnb, if_neg hnn, eqs, eqt, hqs, hqt]
               rw [if_neg (show ¬ ¬ typeQ (some (ts, is)) = typeQ (some (tt, it)) from not_not_intro c), if_neg (show ¬ (wthn i n (itemsQ (some (ts, is))).length ∧ wthn j n (itemsQ (some (tt, it))).length) from hb)]
             rw [e] at hq
             exact w_RM_copy_111 (md_meets hR (fun I' g1 g2 => w_RM_copy_116 (hq I' g1 g2)))
           first
             | (refine hidx a3 (fun h => ?_); rw [ti_lt, z0] at a4; have := h.1.1; omega)
             | (refine hidx a3 (fun h => ?_); rw [ti_lt, z0] at a5; have := h.2.1; omega)
             | (refine hidx a3 (fun h => ?_); rw [ti_lt, z0] at a6; have := h.1.2.1; omega)
             | (refine hidx a3 (fun h => ?_); rw [tl_lt, n97s, sin] at a7; have := h.1.2.2; omega)
             | (refine hidx a3 (fun h => ?_); rw [tl_le, n97t, sjn] at a8; have := h.2.2.2; omega)
             | (have e : copys st (nI s) i (nI t) j n = founds st 4 := by
                  unfold copys
                  rw [if_neg hnb, if_neg hnn, eqs, eqt, hqs, hqt]
                  rw [if_pos (show ¬ typeQ (some (ts, is)) = typeQ (some (tt, it)) from a3)]
                rw [e] at hq
                exact md_meets hR (fun I' g1 g2 => w_RM_copy_61 (hq I' g1 g2)))
             | (rw [ti_lt, z0] at a4 a5 a6
                rw [tl_lt, n97s, sin] at a7
                rw [tl_le, n97t, sjn] at a8
                have w1 : wthn i n is.length := ⟨by omega, by omega, by omega⟩
                have w2 : wthn j n it.length := ⟨by omega, by omega, by omega⟩
                have e : copys st (nI s) i (nI t) j n = (1, setQ st (nI t) (some (tt, cpL is it i.toNatClampNeg j.toNatClampNeg n.toNatClampNeg))) := by
                  unfold copys
                  rw [if_neg hnb, if_neg hnn, eqs, eqt, hqs, hqt]
                  rw [if_neg (show ¬ ¬ typeQ (some (ts, is)) = typeQ (some (tt, it)) from not_not_intro a3), if_pos (show wthn i n (itemsQ (some (ts, is))).length ∧ wthn j n (itemsQ (some (tt, it))).length from ⟨w1, w2⟩)]
                  rfl
                rw [e] at hq
                obtain ⟨i, hi, rfl⟩ := nI_of (x := i) (by rw [ti_lt, z0]; omega)
                obtain ⟨j, hj, rfl⟩ := nI_of (x := j) (by rw [ti_lt, z0]; omega)
                obtain ⟨n, hn, rfl⟩ := nI_of (x := n) (by rw [ti_lt, z0]; omega)
                rw [nI_clamp hi, nI_clamp hj, nI_clamp hn] at hq
                have ti := nI_ti (show i < 2147483648 by omega)
                have tj := nI_ti (show j < 2147483648 by omega)
                have tn := nI_ti (show n < 2147483648 by omega)
                rw [ti, tn] at a7
                rw [tj, tn] at a8
                refine rcopy1 hs (by omega) (fun I1 g1 g2 => ?_) n 0 0 I (by omega) nI_0.symm (fun _ _ => rfl) (fun k hk => by omega)
                refine rcopy2 ht (by omega) (fun I2 g3 g4 => ?_) n 0 0 I1 (by omega) nI_0.symm (fun _ _ => rfl) (fun k => by rw [if_neg (by omega)])
                have hk : ∀ a, a ≠ 98 → a ≠ 99 → I2 a = I a := fun a h1 h2 => by rw [g3 a h1, g1 a h2]
                refine hq I2 (fun a ha => ⟨hk a (by omega) (by omega), rfl⟩) (hR.sht hS ht ⟨by rw [hk 95 (by decide) (by decide)]; exact hD.1, by rw [hk 96 (by decide) (by decide)]; exact hD.2.1, by rw [hk 97 (by decide) (by decide)]; simpa [cpL] using hD.2.2.1, fun k hk' => ?_⟩ (fun a _ _ _ h4 h5 => hk a h4 h5) (fun s' hs' hne => ⟨by rw [hk 95 (by decide) (by decide)], by rw [hk 96 (by decide) (by decide)], by rw [hk 97 (by decide) (by decide)], fun k hk' => ?_⟩))
                · simp [cpL] at hk'
                  rw [cpL, getD_map_range hk', g4]
                  by_cases hin : j ≤ k ∧ k < j + n
                  · rw [if_pos (by omega), if_pos hin, g2 _ (by omega), show 60 * s + i + (60 * t + k - (60 * t + j)) = 60 * s + (i + (k - j)) by omega]
                    exact hM.2.2.2 _ (by omega)
                  · rw [if_neg (by omega), if_neg hin, g1 98 (by decide)]
                    exact hD.2.2.2 k hk'
                · rw [g4, if_neg (by omega), g1 98 (by decide)]))
    | (rw [e2] at c
       exact hlost (Or.inr (by rw [eqt]; exact (there_iff hD).mp c)))
theorem rwrite_loop {st : ST} {r s n : Nat} {ty : Int32} {it : List Int32} (hr : r < 4) (hs : s < 4) (hR : RM st I J) (hS : okS st) (hsh : st.2.2.2.2.2.getD s none = some (ty, it)) (hn : n = min it.length 40) (hq : ∀ I', Lo I J I' J → RM (setQ st (nI s) (some (ty, wrL st.1 (nI r) st.2.1 ty it n))) I' J → P (some (.int (nI n))) I' J) : ∀ (m i : Nat) (x3 : Int32) (I1 : MI), i + m = n → x3 = nI i → (∀ a, a ≠ 98 → I1 a = I a) → (∀ k, k < it.length → I1 98 (60 * s + k) = if k < i then nar ty (vwl st.1 (nI r) (nI k) st.2.1) else it.getD k 0) → (∀ s' j, s' < 4 → s' ≠ s → j < 60 → I1 98 (60 * s' + j) = I 98 (60 * s' + j)) → Go G (fr G m_RM_write (d + 2) P) 34 [some (.ref 67), some (.int (nI r)), some (.int (nI s)), some (.int x3)] [] I1 J := by
  have hok := okS_sh hS hs
  have hM := hR.2.2.2.2.2 s hs
  rw [hsh] at hok hM
  have hl : it.length ≤ 60 := hok.2
  have es : (nI s).toNatClampNeg = s := nI_clamp (by omega)
  intro m
  induction m with
  | zero =>
    intro i x3 I1 hi hx hF hv ho
    subst hx
    obtain rfl : i = n := by omega
    have hend : Go G (fr G m_RM_write (d + 2) P) 72 [none, none, none, some (.int (nI i))] [] I1 J := by
      refine w_RM_write_72 (hq I1 (fun a ha => ⟨hF a (by omega), rfl⟩) (hR.sht hS hs ⟨by rw [hF 95 (by decide)]; exact hM.1, by rw [hF 96 (by decide)]; exact hM.2.1, by rw [hF 97 (by decide)]; simpa [wrL] using hM.2.2.1, fun k hk => ?_⟩ (fun a _ _ _ h4 _ => hF a h4) (fun s' hs' hne => ⟨by rw [hF 95 (by decide)], by rw [hF 96 (by decide)], by rw [hF 97 (by decide)], fun k hk => ho s' k hs' hne hk⟩)))
      simp [wrL] at hk
      rw [wrL, getD_map_range hk, hv k hk]
    by_cases q : 40 ≤ i
    · have h40 : (40 : Int32) ≤ nI i := nI_le (a := 40) q (by omega)
      exact w_RM_write_34 (fun _ => hend) (fun c => absurd h40 c) (fun c => absurd h40 c) (fun c => absurd h40 c)
    · have h97 : I1 97 (nI s).toNatClampNeg ≤ nI i := by rw [es, hF 97 (by decide), hM.2.2.1]; exact nI_le (by omega) (by omega)
      exact w_RM_write_34 (fun _ => hend) (fun _ => vp_in_nI hs (by omega)) (fun _ _ => hend) (fun _ c => absurd h97 c)
  | succ m ih =>
    intro i x3 I1 hi hx hF hv ho
    subst hx
    have hc : ¬ (40 : Int32) ≤ nI i := nI_ge (a := i) (b := 40) (by omega) (by omega)
    have h97 : ¬ I1 97 (nI s).toNatClampNeg ≤ nI i := by rw [es, hF 97 (by decide), hM.2.2.1]; exact nI_ge (by omega) (by omega)
    have hT1 : TM st.1 I1 := ⟨hR.1.1, by rw [hF 67 (by decide)]; exact hR.1.2.1, fun k hk => by rw [hF 68 (by decide), hF 69 (by decide), hF 70 (by decide), hF 71 (by decide)]; exact hR.1.2.2 k hk⟩
    refine w_RM_write_34 (fun c => absurd c hc) (fun _ => vp_in_nI hs (by omega)) (fun _ c => absurd c h97) (fun _ _ => ?_)
    rw [hF 67 (by decide), hR.2.1]
    refine md_valueAt hT1 (w_RM_write_63 ?_)
    refine md_lay (ty := ty) hs (show i < 60 by omega) (by rw [hF 96 (by decide)]; exact hM.2.1) (w_RM_write_66 ?_)
    refine ih (i + 1) _ _ (by omega) (nI_1 i) (fun a ha => by rw [u2_o ha]; exact hF a ha) (fun k hk => ?_) (fun s' j hs' hne hj => by rw [u2_k (by omega)]; exact ho s' j hs' hne hj)
    by_cases q : k = i
    · subst q
      rw [u2_s, if_pos (by omega)]
    · rw [u2_k (by omega), hv k hk]
      by_cases q2 : k < i
      · rw [if_pos q2, if_pos (by omega)]
      · rw [if_neg q2, if_neg (by omega)]
theorem md_write {st : ST} {r s : Int32} (hR : RM st I J) (hS : okS st) (hq : ∀ I', Lo I J I' J → RM (writes st r s).2 I' J → P (some (.int (writes st r s).1)) I' J) : Ct G (d + 2) m_RM_write [.ref 67, .int r, .int s] P I J := by
  have hbad : (f_LB_isRow r = 0 ∨ f_LB_isSheet s = 0) → Go G (fr G m_RM_write (d + 2) P) 14 [none, none, none, none] [] I J := fun hb => by
    refine w_RM_write_14 ?_
    have e : writes st r s = (-2, st) := by unfold writes; rw [if_pos hb]
    rw [e] at hq
    exact hq I Lo.rf hR
  refine Ct.ofGo [some (.ref 67), some (.int r), some (.int s), none] (by decide +kernel) rfl (Nat.le_of_ble_eq_true rfl) ?_
  by_cases c1 : f_LB_isRow r = 0
  · exact w_RM_write_0 (fun _ => hbad (Or.inl c1)) (fun c => absurd c1 c) (fun c => absurd c1 c) (fun c => absurd c1 c) (fun c => absurd c1 c)
  by_cases c2 : f_LB_isSheet s = 0
  · exact w_RM_write_0 (fun c => absurd c c1) (fun _ c => absurd c2 c) (fun _ c => absurd c2 c) (fun _ c => absurd c2 c) (fun _ _ => hbad (Or.inr c2))
  have hnb : ¬ (f_LB_isRow r = 0 ∨ f_LB_isSheet s = 0) := by
    rintro (h | h)
    · exact c1 h
    · exact c2 h
  obtain ⟨r, hr, rfl⟩ := isRow1 c1
  obtain ⟨s, hs, rfl⟩ := isSht1 c2
  have e1 : (nI s).toNatClampNeg = s := nI_clamp (by omega)
  have hM := hR.2.2.2.2.2 s hs
  have eq : shO st (nI s) = st.2.2.2.2.2.getD s none := by rw [shO, e1]
  cases hsh : st.2.2.2.2.2.getD s none with
  | none =>
    have h0 : I 95 (nI s).toNatClampNeg = 0 := by rw [e1]; exact (there_iff hM).mpr hsh
    have e : writes st (nI r) (nI s) = founds st 1 := by unfold writes; rw [if_neg hnb, eq, hsh]
    rw [e] at hq
    exact w_RM_write_0 (fun c => absurd c c1) (fun _ _ => vp_in_nI hs (by omega)) (fun _ _ c => absurd h0 c) (fun _ _ _ => md_meets hR (fun I' g1 g2 => w_RM_write_31 (hq I' g1 g2))) (fun _ c => absurd c c2)
  | some a =>
    obtain ⟨ty, it⟩ := a
    have h0 : ¬ I 95 (nI s).toNatClampNeg = 0 := by rw [e1]; exact fun h => by have := (there_iff hM).mp h; rw [hsh] at this; cases this
    have e : writes st (nI r) (nI s) = (nI (min it.length 40), setQ st (nI s) (some (ty, wrL st.1 (nI r) st.2.1 ty it (min it.length 40)))) := by unfold writes; rw [if_neg hnb, eq, hsh]
    rw [e] at hq
    refine w_RM_write_0 (fun c => absurd c c1) (fun _ _ => vp_in_nI hs (by omega)) (fun _ _ _ => ?_) (fun _ _ c => absurd c h0) (fun _ c => absurd c c2)
    have hM' := hM
    rw [hsh] at hM'
    exact rwrite_loop hr hs hR hS hsh rfl hq (min it.length 40) 0 0 I (by omega) nI_0.symm (fun _ _ => rfl) (fun k hk => by rw [if_neg (by omega)]; exact hM'.2.2.2 k hk) (fun _ _ _ _ _ => rfl)
theorem md_count {st : ST} {w : Int32} (hR : RM st I J) (hS : okS st) (hq : ∀ I', KM I J I' J → P (some (.int (counts st w))) I' J) : Ct G (d + 2) m_RM_count [.ref 67, .int w] P I J := by
  have hrow : ∀ r : Nat, r < 4 → w = nI r → Ct G (d + 1) m_RM_manyOf [.ref 67, .int w] (fun q I' J' => Go G (fr G m_RM_count (d + 2) P) 57 [none, none] (q.toList ++ []) I' J') I J := fun r hr hw => by
    subst hw
    have e : counts st (nI r) = nI (pdd st.1 (nI r).toNatClampNeg st.2.1).length := by
      unfold counts
      rw [if_pos]
      match r, hr with
      | 0, _ => exact Or.inl rfl
      | 1, _ => exact Or.inr (Or.inl rfl)
      | 2, _ => exact Or.inr (Or.inr (Or.inl rfl))
      | 3, _ => exact Or.inr (Or.inr (Or.inr rfl))
    rw [e, nI_clamp (show r < 2 ^ 31 by omega)] at hq
    exact md_manyOf hR hS (fun I' h => w_RM_count_57 (hq I' h))
  refine Ct.ofGo [some (.ref 67), some (.int w)] (by decide +kernel) rfl (Nat.le_of_ble_eq_true rfl) (w_RM_count_0 (fun c => hrow 0 (by omega) c) (fun c => hrow 1 (by omega) c) (fun c => hrow 2 (by omega) c) (fun c => hrow 3 (by omega) c) (fun c => ?_) (fun c => ?_) (fun c => ?_) (fun c => ?_) (fun c => ?_) (fun c0 c1 c2 c3 c4 c5 c6 c7 c8 => ?_))
  · subst c
    rw [hR.1.2.1]; exact hq I KM.rf
  · subst c
    rw [hR.2.1]; exact hq I KM.rf
  · subst c
    exact md_lastTime hR.1 (w_RM_count_72 (hq I KM.rf))
  · subst c
    rw [hR.2.2.2.1.1]; exact hq I KM.rf
  · subst c
    rw [hR.2.2.2.2.1]; exact hq I KM.rf
  · have e : counts st w = -2 := by simp only [counts, c0, c1, c2, c3, c4, c5, c6, c7, c8, or_self, if_false]
    rw [e] at hq; exact hq I KM.rf
theorem tells_read {st : ST} {told : List TE} {r dy k : Nat} {t v : Int32} (hr : r < 4) (hd : dy < 40) (hk : k ≤ 60) (h1 : lastL told ≤ t) (h2 : t ≤ 999) : tells (sTold st told) (nI r) (nI dy + nI k) v t = if (nI dy).toInt + k < 40 ∧ ¬ f_LB_isValue v = 0 ∧ told.length < 200 then (nI (told.length + 1), sTold st (told ++ [(nI r, nI dy + nI k, v, t)])) else if (nI dy).toInt + k < 40 ∧ ¬ f_LB_isValue v = 0 then (-4, sTold st told) else (-2, sTold st told) := by
  have tdy : (nI dy).toInt = dy := nI_ti (by omega)
  have hday : f_LB_isDay (nI dy + nI k) = 0 ↔ ¬ (dy + k < 40) := by
    rw [nI_add]
    show f_LB_isWithin (nI (dy + k)) 0 39 = 0 ↔ _
    rw [isW0]
    have z : (nI (dy + k) ≤ 39) ↔ dy + k ≤ 39 := nI_leI (b := 39) (by omega) (by omega)
    constructor
    · intro h q; exact h ⟨nI_pos' (by omega), z.mpr (by omega)⟩
    · rintro h ⟨_, q⟩; exact h (by have := z.mp q; omega)
  have hw : ¬ f_LB_isWithin t (lastL told) 999 = 0 := isW1.mpr ⟨h1, h2⟩
  unfold tells
  show (if f_LB_isRow (nI r) = 0 ∨ f_LB_isDay (nI dy + nI k) = 0 ∨ f_LB_isValue v = 0 ∨ f_LB_isWithin t (lastL told) 999 = 0 then (-2, sTold st told) else if 200 ≤ told.length then (-4, sTold st told) else (nI (told.length + 1), sTold st (told ++ [(nI r, nI dy + nI k, v, t)]))) = _
  by_cases q1 : dy + k < 40
  · by_cases q2 : f_LB_isValue v = 0
    · rw [if_pos (Or.inr (Or.inr (Or.inl q2))), if_neg (fun h => h.2.1 q2), if_neg (fun h => h.2 q2)]
    · have hnb : ¬ (f_LB_isRow (nI r) = 0 ∨ f_LB_isDay (nI dy + nI k) = 0 ∨ f_LB_isValue v = 0 ∨ f_LB_isWithin t (lastL told) 999 = 0) := by
        rintro (h | h | h | h)
        · exact isRow0 hr h
        · exact (hday.mp h) q1
        · exact q2 h
        · exact hw h
      rw [if_neg hnb]
      by_cases q3 : told.length < 200
      · rw [if_neg (by omega), if_pos ⟨by rw [tdy]; omega, q2, q3⟩]
      · rw [if_pos (by omega), if_neg (fun h => q3 h.2.2), if_pos ⟨by rw [tdy]; omega, q2⟩]
  · rw [if_pos (Or.inr (Or.inl (hday.mpr q1))), if_neg (fun h => q1 (by have := h.1; rw [tdy] at this; omega)), if_neg (fun h => q1 (by have := h.1; rw [tdy] at this; omega))]
theorem rread_loop {st : ST} {s r dy : Nat} {ty t : Int32} {it : List Int32} (hs : s < 4) (hr : r < 4) (hd : dy < 40) (hS : okS st) (hsh : st.2.2.2.2.2.getD s none = some (ty, it)) (ht2 : t ≤ 999) (res : List TE × Nat) {I0 : MI} (hq : ∀ I', Lo I0 J I' J → RM (sTold st res.1) I' J → P (some (.int (nI res.2))) I' J) : ∀ (rest : List Int32) (k : Nat) (x5 : Int32) (told : List TE) (I1 : MI), it = it.take k ++ rest → k + rest.length = it.length → x5 = nI k → rdL told (nI r) (nI dy) t rest k = res → RM (sTold st told) I1 J → lastL told ≤ t → Lo I0 J I1 J → Go G (fr G m_RM_read (d + 3) P) 57 [some (.ref 67), some (.int (nI s)), some (.int (nI r)), some (.int (nI dy)), some (.int t), some (.int x5)] [] I1 J := by
  have hok := okS_sh hS hs
  rw [hsh] at hok
  have hl : it.length ≤ 60 := hok.2
  have es : (nI s).toNatClampNeg = s := nI_clamp (by omega)
  intro rest
  induction rest with
  | nil =>
    intro k x5 told I1 hsplit hk hx hres hR1 hlt hF
    subst hx
    have hk' : k = it.length := by simpa using hk
    have hM : SM (st.2.2.2.2.2.getD s none) s I1 := hR1.2.2.2.2.2 s hs
    rw [hsh] at hM
    have hle : I1 97 (nI s).toNatClampNeg ≤ nI k := by rw [es, hM.2.2.1]; exact nI_le (by omega) (by omega)
    simp only [rdL] at hres
    subst hres
    exact w_RM_read_57 (vp_in_nI hs (by omega)) (fun _ => w_RM_read_100 (hq I1 hF hR1)) (fun c => absurd hle c) (fun c => absurd hle c)
  | cons v rest ih =>
    intro k x5 told I1 hsplit hk hx hres hR1 hlt hF
    subst hx
    have hk' : k < it.length := by simp at hk; omega
    have hM : SM (st.2.2.2.2.2.getD s none) s I1 := hR1.2.2.2.2.2 s hs
    rw [hsh] at hM
    have hc : ¬ I1 97 (nI s).toNatClampNeg ≤ nI k := by rw [es, hM.2.2.1]; exact nI_ge (by omega) (by omega)
    have hv : it.getD k 0 = v := by
      have h1 : (it.take k).length = k := by simp; omega
      rw [hsplit]
      rw [List.getD_eq_getElem?_getD, List.getElem?_append_right (by omega), h1]
      simp
    have ev : I1 98 (60 * nI s + nI k).toNatClampNeg = v := by
      rw [at60, nI_clamp (by omega), hM.2.2.2 k hk', hv]
    refine w_RM_read_57 (vp_in_nI hs (by omega)) (fun c => absurd c hc) (fun _ => by rw [at60]; exact vp_in_nI (by omega) (by omega)) (fun _ => ?_)
    rw [ev]
    refine md_tells hR1 (fun I2 hF2 hR2 => ?_)
    have hF3 : Lo I0 J I2 J := fun a ha => ⟨(hF2 a ha).1.trans (hF a ha).1, rfl⟩
    rw [tells_read hr hd (by omega) hlt ht2] at hR2 ⊢
    by_cases hcond : (nI dy).toInt + k < 40 ∧ ¬ f_LB_isValue v = 0 ∧ told.length < 200
    · rw [if_pos hcond] at hR2 ⊢
      simp only [rdL, if_pos hcond] at hres
      have hpos : ¬ nI (told.length + 1) ≤ 0 := nI_nle (by omega) (by have := hcond.2.2; omega)
      refine w_RM_read_91 (fun c => absurd c hpos) (fun _ => ih (k + 1) _ _ I2 ?_ (by simp at hk; omega) (nI_1 k) hres hR2 ?_ hF3)
      · have : it.take (k + 1) = it.take k ++ [v] := by rw [List.take_succ_eq_append_getElem hk', ← getD_lt (z := 0) hk', hv]
        rw [this, List.append_assoc]; exact hsplit
      · have : lastL (told ++ [(nI r, nI dy + nI k, v, t)]) = t := by simp [lastL]
        rw [this]; exact Int32.le_refl _
    · rw [if_neg hcond] at hR2 ⊢
      simp only [rdL, if_neg hcond] at hres
      subst hres
      by_cases h4 : (nI dy).toInt + k < 40 ∧ ¬ f_LB_isValue v = 0
      · rw [if_pos h4] at hR2 ⊢
        exact w_RM_read_91 (fun _ => w_RM_read_100 (hq I2 hF3 hR2)) (fun c => absurd (show (-4 : Int32) ≤ 0 by decide) c)
      · rw [if_neg h4] at hR2 ⊢
        exact w_RM_read_91 (fun _ => w_RM_read_100 (hq I2 hF3 hR2)) (fun c => absurd (show (-2 : Int32) ≤ 0 by decide) c)
theorem md_read {st : ST} {s r dy t : Int32} (hR : RM st I J) (hS : okS st) (hq : ∀ I', Lo I J I' J → RM (reads st s r dy t).2 I' J → P (some (.int (reads st s r dy t).1)) I' J) : Ct G (d + 3) m_RM_read [.ref 67, .int s, .int r, .int dy, .int t] P I J := by
  have hbad : (f_LB_isSheet s = 0 ∨ f_LB_isRow r = 0 ∨ f_LB_isDay dy = 0 ∨ f_LB_isWithin t (lastL st.1) 999 = 0) → Go G (fr G m_RM_read (d + 3) P) 36 [none, none, none, none, none, none] [] I J := fun hb => by
    refine w_RM_read_36 ?_
    have e : reads st s r dy t = (-2, st) := by unfold reads; rw [if_pos hb]
    rw [e] at hq
    exact hq I Lo.rf hR
  refine Ct.ofGo [some (.ref 67), some (.int s), some (.int r), some (.int dy), some (.int t), none] (by decide +kernel) rfl (Nat.le_of_ble_eq_true rfl) ?_
  refine w_RM_read_0 (fun c => hbad (Or.inl c)) (fun _ c => hbad (Or.inr (Or.inl c))) (fun _ _ c => hbad (Or.inr (Or.inr (Or.inl c)))) (fun c1 c2 c3 => md_lastTime hR.1 ?_)
  by_cases c4 : f_LB_isWithin t (lastL st.1) 999 = 0
  · exact w_RM_read_27 (fun c => absurd c4 c) (fun c => absurd c4 c) (fun c => absurd c4 c) (fun _ => hbad (Or.inr (Or.inr (Or.inr c4))))
  have hnb : ¬ (f_LB_isSheet s = 0 ∨ f_LB_isRow r = 0 ∨ f_LB_isDay dy = 0 ∨ f_LB_isWithin t (lastL st.1) 999 = 0) := by
    rintro (h | h | h | h)
    · exact c1 h
    · exact c2 h
    · exact c3 h
    · exact c4 h
  obtain ⟨s, hs, rfl⟩ := isSht1 c1
  obtain ⟨r, hr, rfl⟩ := isRow1 c2
  obtain ⟨dy, hd, rfl⟩ := isDay1 c3
  have e1 : (nI s).toNatClampNeg = s := nI_clamp (by omega)
  have hM := hR.2.2.2.2.2 s hs
  have eq : shO st (nI s) = st.2.2.2.2.2.getD s none := by rw [shO, e1]
  cases hsh : st.2.2.2.2.2.getD s none with
  | none =>
    have h0 : I 95 (nI s).toNatClampNeg = 0 := by rw [e1]; exact (there_iff hM).mpr hsh
    have e : reads st (nI s) (nI r) (nI dy) t = founds st 1 := by unfold reads; rw [if_neg hnb, eq, hsh]
    rw [e] at hq
    exact w_RM_read_27 (fun _ => vp_in_nI hs (by omega)) (fun _ c => absurd h0 c) (fun _ _ => md_meets hR (fun I' g1 g2 => w_RM_read_53 (hq I' g1 g2))) (fun c => absurd c c4)
  | some a =>
    obtain ⟨ty, it⟩ := a
    have h0 : ¬ I 95 (nI s).toNatClampNeg = 0 := by rw [e1]; exact fun h => by have := (there_iff hM).mp h; rw [hsh] at this; cases this
    have e : reads st (nI s) (nI r) (nI dy) t = (nI (rdL st.1 (nI r) (nI dy) t it 0).2, sTold st (rdL st.1 (nI r) (nI dy) t it 0).1) := by unfold reads; rw [if_neg hnb, eq, hsh]
    rw [e] at hq
    have hw := isW1.mp c4
    exact w_RM_read_27 (fun _ => vp_in_nI hs (by omega)) (fun _ _ => rread_loop hs hr hd hS hsh hw.2 (rdL st.1 (nI r) (nI dy) t it 0) hq it 0 0 st.1 I (by simp) (by simp) nI_0.symm rfl hR hw.1 Lo.rf) (fun _ c => absurd c h0) (fun c => absurd c c4)
end
