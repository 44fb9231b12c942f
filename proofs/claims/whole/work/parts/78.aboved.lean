/-! ===== every measure without points ===== -/
section
variable {G : GC} {d : Nat} {P : PT} {I : MI} {J : MJ}
theorem on_mw {L : List Pt} {a m x : Nat} {x2 : Int32} (hok : okP L) (ha : a + m ≤ L.length) (hM : MS 3 L a m I J) (hmx : 1 ≤ mxc (seg L a m)) (hx : x < L.length) (fy : Nat) (hy : (x2 = -1 ∧ fy = 0) ∨ ∃ y, y < L.length ∧ x2 = nI (lk L y) ∧ fy = if oft L a m (lk L y) = mxc (seg L a m) then 1 else 0) (hq : P (some (.int (nI (if vso L a m (mxc (seg L a m)) > (if oft L a m (lk L x) = mxc (seg L a m) then 1 else 0) + fy then mxc (seg L a m) else mxc (seg L a m) - 1)))) I J) : Ct G d m_ON_mostWithout [.ref 39, .int (nI (lk L x)), .int x2] P I J := by
  have hl := hok.1
  obtain ⟨f0, f1, f2, f3⟩ := hM
  have hlen := seg_len ha
  have hml := mxc_le (seg L a m)
  have hlx := (lk_in hx).1
  have elx : (nI (lk L x)).toNatClampNeg = lk L x := nI_clamp (by omega)
  have hox := oft_le L a m (lk L x)
  have ecx : (I 40 (nI (lk L x)).toNatClampNeg = I 39 3) ↔ oft L a m (lk L x) = mxc (seg L a m) := by
    rw [elx, f2 _ (by omega), f1]; exact nI_eq (by omega) (by omega)
  generalize hM' : mxc (seg L a m) = M at *
  have eM : (nI M).toNatClampNeg = M := nI_clamp (by omega)
  have hvl := vso_le L a m M
  have fin : ∀ g : Nat, g ≤ 2 → g = (if oft L a m (lk L x) = M then 1 else 0) + fy → Go G (fr G m_ON_mostWithout d P) 40 [some (.ref 39), none, none, some (.int (nI g))] [] I J := fun g hg eg => by
    rw [← eg] at hq
    have hc : (I 41 (I 39 3).toNatClampNeg ≤ nI g) ↔ ¬ vso L a m M > g := by rw [f1, eM, f3 M hmx (by omega), nI_leI (by omega) (by omega)]; omega
    refine w_ON_mostWithout_40 (by rw [f1]; exact vp_in_nI (by omega) (by omega)) (fun c => ?_) (fun c => ?_)
    · rw [if_neg (hc.mp c)] at hq
      rw [f1, show nI M - 1 = nI (M - 1) by rw [show M = M - 1 + 1 by omega]; exact nI_pred _]; exact hq
    · rw [if_pos (Decidable.not_not.mp (fun h => c (hc.mpr h)))] at hq
      rw [f1]; exact hq
  have mid : ∀ g : Nat, g ≤ 1 → g = (if oft L a m (lk L x) = M then 1 else 0) → Go G (fr G m_ON_mostWithout d P) 18 [some (.ref 39), none, some (.int x2), none] [.int (nI g)] I J := fun g hg eg => by
    rcases hy with ⟨h, hf⟩ | ⟨y, hy', h, hf⟩
    · subst h
      exact w_ON_mostWithout_18 (fun _ => fin g (by omega) (by omega)) (fun c => absurd rfl c) (fun c => absurd rfl c) (fun c => absurd rfl c)
    · subst h
      have hly := (lk_in hy').1
      have ely : (nI (lk L y)).toNatClampNeg = lk L y := nI_clamp (by omega)
      have hoy := oft_le L a m (lk L y)
      have hn := nI_ne1 (n := lk L y) (by omega)
      have ecy : (I 40 (nI (lk L y)).toNatClampNeg = I 39 3) ↔ oft L a m (lk L y) = M := by
        rw [ely, f2 _ (by omega), f1]; exact nI_eq (by omega) (by omega)
      refine w_ON_mostWithout_18 (fun c => absurd c hn) (fun _ => vp_in_nI (by omega) (by omega)) (fun _ c => ?_) (fun _ c => ?_)
      · rw [if_neg (fun h => c (ecy.mpr h))] at hf
        exact fin g (by omega) (by omega)
      · rw [if_pos (ecy.mp c)] at hf
        rw [nI_1]
        exact fin (g + 1) (by omega) (by omega)
  refine Ct.ofGo [some (.ref 39), some (.int (nI (lk L x))), some (.int x2), none] (by decide +kernel) rfl (Nat.le_of_ble_eq_true rfl) (w_ON_mostWithout_0 (vp_in_nI (by omega) (by omega)) (fun c => ?_) (fun c => ?_))
  · exact mid 0 (by omega) (by rw [if_neg (fun h => c (ecx.mpr h))])
  · exact mid 1 (by omega) (by rw [if_pos (ecx.mp c)])
theorem on_m2 {L : List Pt} {a m x : Nat} (hok : okP L) (ha : a + m ≤ L.length) (hM : MS 3 L a m I J) (hmx : 2 ≤ mxc (seg L a m)) (hx : x < L.length) (hq : P (some (.int (nI (if oft L a m (lk L x) < mxc (seg L a m) ∨ 1 < vso L a m (mxc (seg L a m)) then mxc (seg L a m) else if 0 < vso L a m (mxc (seg L a m) - 1) then mxc (seg L a m) - 1 else mxc (seg L a m) - 2)))) I J) : Ct G d m_ON_mostWithoutTwoOf [.ref 39, .int (nI (lk L x))] P I J := by
  have hl := hok.1
  obtain ⟨f0, f1, f2, f3⟩ := hM
  have hlen := seg_len ha
  have hml := mxc_le (seg L a m)
  have hlx := (lk_in hx).1
  have elx : (nI (lk L x)).toNatClampNeg = lk L x := nI_clamp (by omega)
  have hox := oft_le L a m (lk L x)
  generalize hM' : mxc (seg L a m) = M at *
  have eM : (nI M).toNatClampNeg = M := nI_clamp (by omega)
  have eM1 : nI M - 1 = nI (M - 1) := by rw [show M = M - 1 + 1 by omega]; exact nI_pred _
  have eM1c : (nI (M - 1)).toNatClampNeg = M - 1 := nI_clamp (by omega)
  have eM2 : nI M - 2 = nI (M - 2) := nI_sub (b := 2) hmx
  have hvl := vso_le L a m M
  have hvl1 := vso_le L a m (M - 1)
  have c2 : ¬ I 39 3 < 2 := by rw [f1]; exact nI_nlt (b := 2) hmx (by omega)
  have cx : (I 40 (nI (lk L x)).toNatClampNeg < I 39 3) ↔ oft L a m (lk L x) < M := by rw [elx, f2 _ (by omega), f1]; exact nI_ltI (by omega) (by omega)
  have cv : (I 41 (I 39 3).toNatClampNeg ≤ 1) ↔ ¬ 1 < vso L a m M := by
    rw [f1, eM, f3 M (by omega) (by omega)]
    have h : (nI (vso L a m M) ≤ nI 1) ↔ vso L a m M ≤ 1 := nI_leI (by omega) (by omega)
    exact h.trans (by omega)
  have cw : (I 41 (I 39 3 - 1).toNatClampNeg ≤ 0) ↔ ¬ 0 < vso L a m (M - 1) := by
    rw [f1, eM1, eM1c, f3 (M - 1) (by omega) (by omega)]
    have h : (nI (vso L a m (M - 1)) ≤ nI 0) ↔ vso L a m (M - 1) ≤ 0 := nI_leI (by omega) (by omega)
    exact h.trans (by omega)
  have h34 : (oft L a m (lk L x) < M ∨ 1 < vso L a m M) → Go G (fr G m_ON_mostWithoutTwoOf d P) 34 [some (.ref 39), none] [] I J := fun h => by
    refine w_ON_mostWithoutTwoOf_34 ?_
    rw [if_pos h] at hq
    rw [f1]; exact hq
  refine Ct.ofGo [some (.ref 39), some (.int (nI (lk L x)))] (by decide +kernel) rfl (Nat.le_of_ble_eq_true rfl) (w_ON_mostWithoutTwoOf_0 (fun c => absurd c c2) (fun _ => vp_in_nI (by omega) (by omega)) (fun _ c => h34 (Or.inl (cx.mp c))) (fun _ _ => by rw [f1]; exact vp_in_nI (by omega) (by omega)) (fun _ _ _ => by rw [f1, eM1]; exact vp_in_nI (by omega) (by omega)) (fun _ q1 q2 q3 => ?_) (fun _ q1 q2 q3 => ?_) (fun _ _ q => h34 (Or.inr (Decidable.not_not.mp (fun h => q (cv.mpr h))))))
  · rw [if_neg (fun h => h.elim (fun h => q1 (cx.mpr h)) (cv.mp q2)), if_neg (cw.mp q3)] at hq
    rw [f1, eM2]; exact hq
  · rw [if_neg (fun h => h.elim (fun h => q1 (cx.mpr h)) (cv.mp q2)), if_pos (Decidable.not_not.mp (fun h => q3 (cw.mpr h)))] at hq
    rw [f1, eM1]; exact hq
theorem on_res {m e r : Nat} {l : List Pt} (h : l.length + e = m) (hm : m ≤ 40) (hr : mxc l = r) : Int32.toInt64 (nI m - nI e - nI r) = lI (numK 3 l) := by
  have hle := mxc_le l
  rw [nI_sub (by omega), nI_sub (by omega), nI_lI (by omega)]
  show lI _ = lI ((l.length : Int) - mxc l)
  congr 1
  omega
theorem on_aboveD {L : List Pt} {a m o1 x : Nat} {l1 : List Pt} (hok : okP L) (h1 : PtsAt o1) (hP : PF o1 L I) (ha : a + m ≤ L.length) (hM : MS 3 L a m I J) (hx : x < L.length) (hp : (seg L a m).Perm (L.getD x (0, 0) :: l1)) (hq : P (some (.long (lI (numK 3 l1)))) I J) : Ct G (d + 1) m_ON_above [.ref 39, .ref o1, .int (nI x), .int (-1)] P I J := by
  have hl := hok.1
  have hlen := seg_len ha
  have hn := nI_ne1 (n := x) (by omega)
  have ex : (nI x).toNatClampNeg = x := nI_clamp (by omega)
  have hlx := (lk_in hx).1
  have hnl := nI_ne1 (n := lk L x) (by omega)
  have hl1 : l1.length + 1 = m := by have := hp.length_eq; simp only [List.length_cons] at this; omega
  have hmx : 1 ≤ mxc (seg L a m) := by
    have h1 := mxc_ge (L.getD x (0, 0)).2 (seg L a m)
    have h2 := cnt_p hp (L.getD x (0, 0)).2
    rw [if_pos rfl] at h2; omega
  refine Ct.ofGo [some (.ref 39), some (.ref o1), some (.int (nI x)), some (.int (-1)), none, none, none] (by decide +kernel) rfl (Nat.le_of_ble_eq_true rfl) (w_ON_above_0 h1 (fun _ => vp_in_nI (by omega) (by omega)) (fun _ c => absurd rfl c) (fun _ c => absurd rfl c) (fun _ _ => ?_) (fun c => absurd c hn))
  rw [ex, hP.2 x hx]
  refine w_ON_above_39 (fun c => absurd rfl c) (fun _ => w_ON_above_55 (fun _ => ?_) (fun c => absurd c hnl))
  refine on_mw hok ha hM hmx hx 0 (Or.inl ⟨rfl, rfl⟩) (w_ON_above_84 ?_)
  have hr := mx_one hok ha hx hp
  rw [hM.1, Nat.add_zero, ← hr, show (1 : Int32) = nI 1 from rfl, on_res hl1 (by omega) rfl]
  exact hq
theorem on_aboveE {L : List Pt} {a m o1 x y : Nat} {l1 l2 : List Pt} (hok : okP L) (h1 : PtsAt o1) (hP : PF o1 L I) (ha : a + m ≤ L.length) (hM : MS 3 L a m I J) (hx : x < L.length) (hy : y < L.length) (hp : (seg L a m).Perm (L.getD x (0, 0) :: l1)) (hp2 : l1.Perm (L.getD y (0, 0) :: l2)) (hq : P (some (.long (lI (numK 3 l2)))) I J) : Ct G (d + 1) m_ON_above [.ref 39, .ref o1, .int (nI x), .int (nI y)] P I J := by
  have hl := hok.1
  have hlen := seg_len ha
  have hn := nI_ne1 (n := x) (by omega)
  have hn2 := nI_ne1 (n := y) (by omega)
  have ex : (nI x).toNatClampNeg = x := nI_clamp (by omega)
  have ey : (nI y).toNatClampNeg = y := nI_clamp (by omega)
  have hlx := (lk_in hx).1
  have hly := (lk_in hy).1
  have hl1 : l1.length + 1 = m := by have := hp.length_eq; simp only [List.length_cons] at this; omega
  have hl2 : l2.length + 2 = m := by have := hp2.length_eq; simp only [List.length_cons] at this; omega
  have hmx : 1 ≤ mxc (seg L a m) := by
    have h1 := mxc_ge (L.getD x (0, 0)).2 (seg L a m)
    have h2 := cnt_p hp (L.getD x (0, 0)).2
    rw [if_pos rfl] at h2; omega
  refine Ct.ofGo [some (.ref 39), some (.ref o1), some (.int (nI x)), some (.int (nI y)), none, none, none] (by decide +kernel) rfl (Nat.le_of_ble_eq_true rfl) (w_ON_above_0 h1 (fun _ => vp_in_nI (by omega) (by omega)) (fun _ _ => vp_in_nI (by omega) (by omega)) (fun _ _ => ?_) (fun _ c => absurd c hn2) (fun c => absurd c hn))
  rw [ex, ey, hP.2 x hx, hP.2 y hy]
  have hcm : (nI (lk L x) = nI (lk L y)) ↔ (L.getD x (0, 0)).2 = (L.getD y (0, 0)).2 := by rw [nI_eq (by omega) (by omega)]; exact lk_eq hx hy
  refine w_ON_above_39 (fun _ => w_ON_above_55 (fun c => ?_) (fun c => ?_)) (fun c => absurd c hn2)
  · refine on_mw hok ha hM hmx hx _ (Or.inr ⟨y, hy, rfl, rfl⟩) (w_ON_above_84 ?_)
    have hr := mx_two hok ha hx hy (fun h => c (hcm.mpr h)) hp hp2
    rw [hM.1, ← hr, show (2 : Int32) = nI 2 from rfl, on_res hl2 (by omega) rfl]
    exact hq
  · have hr := mx_same hok ha hx (hcm.mp c) hp hp2
    refine on_m2 hok ha hM hr.1 hx (w_ON_above_73 (w_ON_above_84 ?_))
    rw [hM.1, ← hr.2, show (2 : Int32) = nI 2 from rfl, on_res hl2 (by omega) rfl]
    exact hq
theorem ms_aboveD {k : Nat} (hk : k < 4) {L : List Pt} {a m o1 x : Nat} {l1 : List Pt} (hok : okP L) (h35 : J 35 1 = 0) (h38 : J 38 1 = 20) (h1 : PtsAt o1) (hP : PF o1 L I) (ha : a + m ≤ L.length) (hM : MS k L a m I J) (hx : x < L.length) (hp : (seg L a m).Perm (L.getD x (0, 0) :: l1)) (hs : l1.Pairwise fun a b => a.1 < b.1) (hq : P (some (.long (lI (numK k l1)))) I J) : Ct G (d + 2) (mesM (mcl k) m_SU_above m_MI_above m_ON_above) [.ref (mcl k), .ref o1, .int (nI x), .int (-1)] P I J := by
  rcases (show k = 0 ∨ k = 1 ∨ k = 2 ∨ k = 3 by omega) with rfl | rfl | rfl | rfl
  · exact su_aboveD (Or.inl rfl) hok h35 h38 h1 hP ha hM hx hp hs hq
  · exact mi_aboveD (y := 0) hok h1 hP ha hM hx hp (Or.inl ⟨rfl, hq⟩)
  · exact su_aboveD (Or.inr rfl) hok h35 h38 h1 hP ha hM hx hp hs hq
  · exact on_aboveD (d := d + 1) hok h1 hP ha hM hx hp hq
theorem ms_aboveE {k : Nat} (hk : k < 4) {L : List Pt} {a m o1 x y : Nat} {l1 l2 : List Pt} (hok : okP L) (h35 : J 35 1 = 0) (h38 : J 38 1 = 20) (h1 : PtsAt o1) (hP : PF o1 L I) (ha : a + m ≤ L.length) (hM : MS k L a m I J) (hx : x < L.length) (hy : y < L.length) (hp : (seg L a m).Perm (L.getD x (0, 0) :: l1)) (hp2 : l1.Perm (L.getD y (0, 0) :: l2)) (hs : l2.Pairwise fun a b => a.1 < b.1) (hq : P (some (.long (lI (numK k l2)))) I J) : Ct G (d + 2) (mesM (mcl k) m_SU_above m_MI_above m_ON_above) [.ref (mcl k), .ref o1, .int (nI x), .int (nI y)] P I J := by
  rcases (show k = 0 ∨ k = 1 ∨ k = 2 ∨ k = 3 by omega) with rfl | rfl | rfl | rfl
  · exact su_aboveE (Or.inl rfl) hok h35 h38 h1 hP ha hM hx hy hp hp2 hs hq
  · exact mi_aboveD (y := y) hok h1 hP ha hM hx hp (Or.inr ⟨l2, rfl, hy, hp2, hq⟩)
  · exact su_aboveE (Or.inr rfl) hok h35 h38 h1 hP ha hM hx hy hp hp2 hs hq
  · exact on_aboveE (d := d + 1) hok h1 hP ha hM hx hy hp hp2 hq
def denN (k n : Nat) : Nat := if k % 2 = 0 then n else 1
theorem denK_N (k : Nat) (l : List Pt) : denK k l = denN k l.length := rfl
theorem ms_belowD {k : Nat} (hk : k < 4) {L : List Pt} {a m e : Nat} (ha : a + m ≤ L.length) (he : e ≤ m) (hM : MS k L a m I J) (hq : P (some (.int (nI (denN k (m - e))))) I J) : Ct G (d + 2) (mesM (mcl k) m_SU_below m_MI_below m_ON_below) [.ref (mcl k), .int (nI e)] P I J := by
  rcases (show k = 0 ∨ k = 1 ∨ k = 2 ∨ k = 3 by omega) with rfl | rfl | rfl | rfl
  · refine Ct.ofGo [some (.ref 35), some (.int (nI e))] (by decide +kernel) rfl (Nat.le_of_ble_eq_true rfl) (w_SU_below_0 (Or.inl rfl) ?_)
    have e1 : I 35 0 - nI e = nI (m - e) := by rw [show I 35 0 = nI m from hM.1]; exact nI_sub he
    rw [e1]; exact hq
  · exact Ct.ofGo [some (.ref 36), some (.int (nI e))] (by decide +kernel) rfl (Nat.le_of_ble_eq_true rfl) (g_weak [none, none] trivial (w_MI_below_0 hq))
  · refine Ct.ofGo [some (.ref 38), some (.int (nI e))] (by decide +kernel) rfl (Nat.le_of_ble_eq_true rfl) (w_SU_below_0 (Or.inr rfl) ?_)
    have e1 : I 38 0 - nI e = nI (m - e) := by rw [show I 38 0 = nI m from hM.1]; exact nI_sub he
    rw [e1]; exact hq
  · exact Ct.ofGo [some (.ref 39), some (.int (nI e))] (by decide +kernel) rfl (Nat.le_of_ble_eq_true rfl) (g_weak [none, none] trivial (w_ON_below_0 hq))
end
