/-! ===== the middle without points ===== -/
abbrev vals (l : List Pt) : List Int32 := l.map fun p => p.2
theorem min_toInt (a b : Int32) : (f_JM_min_II a b).toInt = min a.toInt b.toInt := by
  unfold f_JM_min_II
  split <;> rename_i h <;> simp only [ti_le, ti_lt] at h <;> omega
def smv (g : Int32 → Int) : List Int32 → Int
  | [] => 0
  | v :: l => g v + smv g l
theorem smv_perm {g : Int32 → Int} {l l' : List Int32} (h : l.Perm l') : smv g l = smv g l' := by
  induction h with
  | nil => rfl
  | cons x _ ih => show g x + _ = g x + _; rw [ih]
  | swap x y l => show g y + (g x + smv g l) = g x + (g y + smv g l); omega
  | trans _ _ ih1 ih2 => rw [ih1, ih2]
theorem sm_vals (g : Int32 → Int) : ∀ l : List Pt, sm (fun p => g p.2) l = smv g (vals l) := by
  intro l
  induction l with
  | nil => rfl
  | cons p l ih => rw [sm_c, ih]; rfl
theorem far_vals {l l' : List Pt} (h : (vals l).Perm (vals l')) (t : Int) : far t l = far t l' := by
  unfold far
  rw [sm_vals (fun v => ((v.toInt - t).natAbs : Int)), sm_vals (fun v => ((v.toInt - t).natAbs : Int)), smv_perm h]
theorem cp_vals {l l' : List Pt} (h : (vals l).Perm (vals l')) (f : Int32 → Bool) : l.countP (fun p => f p.2) = l'.countP (fun p => f p.2) := by
  have := h.countP_eq f
  rw [List.countP_map, List.countP_map] at this
  exact this
theorem med_vals {l l' : List Pt} (h : (vals l).Perm (vals l')) {t : Int} (hm : isMed l t) : isMed l' t := by
  have hl : l.length = l'.length := by have := h.length_eq; simpa using this
  unfold isMed lw gt at *
  have e1 := cp_vals h (fun v => decide (v.toInt < t))
  have e2 := cp_vals h (fun v => decide (t < v.toInt))
  rw [e1, e2, hl] at hm
  exact hm
theorem medc_vals {l l' : List Pt} (h : (vals l).Perm (vals l')) : medc l = medc l' := by
  have hl : l.length = l'.length := by have := h.length_eq; simpa using this
  rcases Nat.eq_zero_or_pos l.length with h0 | h0
  · have e1 := List.length_eq_zero_iff.mp h0
    have e2 := List.length_eq_zero_iff.mp (show l'.length = 0 by omega)
    rw [e1, e2]
  · have h1 := mdl_med h0
    rw [medc_of (med_vals h h1) (by omega), ← far_vals h]
    rfl
theorem rm_ex {v : Int32} : ∀ s : List Pt, isUp s → (∃ p ∈ s, p.2 = v) → ∃ p' s', s.Perm (p' :: s') ∧ p'.2 = v ∧ isUp s' ∧ (∀ x ∈ s', x ∈ s) ∧ ∀ i, i < s'.length → (s'.getD i (0, 0)).2 = if (s.getD i (0, 0)).2 < v then (s.getD i (0, 0)).2 else (s.getD (i + 1) (0, 0)).2 := by
  intro s
  induction s with
  | nil => rintro _ ⟨p, h, -⟩; exact absurd h (by simp)
  | cons h t ih =>
    intro hu hex
    have hu' := List.pairwise_cons.mp hu
    by_cases q : h.2 = v
    · refine ⟨h, t, List.Perm.refl _, q, hu'.2, fun x hx => List.mem_cons_of_mem _ hx, fun i hi => ?_⟩
      have hge : ¬ ((h :: t).getD i (0, 0)).2 < v := by
        rw [ti_lt]
        cases i with
        | zero => rw [← q]; simp
        | succ i =>
          have := hu'.1 (t.getD i (0, 0)) (by rw [getD_lt (by omega)]; exact List.getElem_mem _)
          rw [q] at this
          show ¬ (t.getD i (0, 0)).2.toInt < v.toInt
          omega
      rw [if_neg hge]; rfl
    · obtain ⟨p, hp, hpv⟩ := hex
      have hpt : p ∈ t := by
        rcases List.mem_cons.mp hp with c | c
        · rw [c] at hpv; exact absurd hpv q
        · exact c
      obtain ⟨p', t', g1, g2, g3, g5, g4⟩ := ih hu'.2 ⟨p, hpt, hpv⟩
      refine ⟨p', h :: t', (g1.cons h).trans (List.Perm.swap _ _ _), g2, List.pairwise_cons.mpr ⟨fun x hx => hu'.1 x (g5 x hx), g3⟩, fun x hx => ?_, fun i hi => ?_⟩
      · rcases List.mem_cons.mp hx with c | c
        · rw [c]; exact List.mem_cons_self
        · exact List.mem_cons_of_mem _ (g5 x c)
      · cases i with
        | zero =>
          have h1 := hu'.1 p hpt
          rw [hpv] at h1
          have hne : h.2.toInt ≠ v.toInt := fun c => q (ti_eq.mpr c)
          have hlt : h.2 < v := by rw [ti_lt]; omega
          show h.2 = if h.2 < v then h.2 else _
          rw [if_pos hlt]
        | succ i => exact g4 i (by simpa using hi)
section
variable {G : GC} {d : Nat} {P : PT} {I : MI} {J : MJ}
theorem mi_ordG {pl n : Nat} {lo hi : Int32} (h1 : pl < n) (hn : n ≤ 40) (h2 : ¬ I 37 pl < lo → pl + 1 < n) (hq : ∀ t, t < n → (t = (if I 37 (if I 37 pl < lo then pl else pl + 1) < hi then (if I 37 pl < lo then pl else pl + 1) else (if I 37 pl < lo then pl else pl + 1) + 1)) → P (some (.int (I 37 t))) I J) (h3 : ¬ I 37 (if I 37 pl < lo then pl else pl + 1) < hi → (if I 37 pl < lo then pl else pl + 1) + 1 < n) : Ct G d m_MI_orderedWithout [.ref 36, .int (nI pl), .int lo, .int hi] P I J := by
  have ep : (nI pl).toNatClampNeg = pl := nI_clamp (by omega)
  have fin : ∀ t, t < n → P (some (.int (I 37 t))) I J → Go G (fr G m_MI_orderedWithout d P) 38 [some (.ref 36), none, some (.int lo), none, some (.int (nI t))] [] I J := fun t ht hp => by
    have et : (nI t).toNatClampNeg = t := nI_clamp (by omega)
    have h40 : ¬ (40 : Int32) ≤ nI t := nI_ge (b := 40) (by omega) (by omega)
    refine w_MI_orderedWithout_38 (fun c => absurd c h40) (fun _ => vp_in_nI (by omega) (by omega)) (fun _ => ?_)
    rw [et]; exact hp
  have mid : ∀ t, t < n → t = (if I 37 pl < lo then pl else pl + 1) → Go G (fr G m_MI_orderedWithout d P) 17 [some (.ref 36), none, some (.int lo), some (.int hi), some (.int (nI t))] [] I J := fun t ht he => by
    have et : (nI t).toNatClampNeg = t := nI_clamp (by omega)
    have h40 : ¬ (40 : Int32) ≤ nI t := nI_ge (b := 40) (by omega) (by omega)
    rw [← he] at hq h3
    refine w_MI_orderedWithout_17 (fun c => absurd c h40) (fun _ => vp_in_nI (by omega) (by omega)) (fun _ c => ?_) (fun _ c => ?_)
    · rw [et] at c
      exact fin t ht (hq t ht (by rw [if_pos c]))
    · rw [et] at c
      rw [nI_1]
      exact fin (t + 1) (h3 c) (hq (t + 1) (h3 c) (by rw [if_neg c]))
  refine Ct.ofGo [some (.ref 36), some (.int (nI pl)), some (.int lo), some (.int hi), none] (by decide +kernel) rfl (Nat.le_of_ble_eq_true rfl) (w_MI_orderedWithout_0 (vp_in_nI (by omega) (by omega)) (fun c => ?_) (fun c => ?_))
  · rw [ep] at c
    exact mid pl h1 (by rw [if_pos c])
  · rw [ep] at c
    rw [nI_1]
    exact mid (pl + 1) (h2 c) (by rw [if_neg c])
/-- outside of what is left: s' is the order without lower and higher -/
theorem mi_outsG {s' : List Pt} {v lo hi : Int32} (hs : s'.length ≤ 40) (hu : okU s') (hv : -1000 ≤ v.toInt ∧ v.toInt ≤ 1000) (hO : ∀ pl, pl < s'.length → ∀ (Q : PT), Q (some (.int (s'.getD pl (0, 0)).2)) I J → Ct G d m_MI_orderedWithout [.ref 36, .int (nI pl), .int lo, .int hi] Q I J) (hq : ∀ w : Int32, w.toInt = outs s' v.toInt → P (some (.int w)) I J) : Ct G (d + 1) m_MI_outside [.ref 36, .int v, .int (nI s'.length), .int lo, .int hi] P I J := by
  refine Ct.ofGo [some (.ref 36), some (.int v), some (.int (nI s'.length)), some (.int lo), some (.int hi), none, none] (by decide +kernel) rfl (Nat.le_of_ble_eq_true rfl) (w_MI_outside_0 (fun c => ?_) (fun c => ?_))
  · have h0 : 0 < s'.length := by rw [ti_le, nI_ti (by omega)] at c; have : (1 : Int32).toInt = 1 := rfl; omega
    rw [nI_half1 (by omega) h0]
    have k1 : (s'.length - 1) / 2 < s'.length := by omega
    have k2 : s'.length / 2 < s'.length := by omega
    have r1 := okU_get hu k1
    have r2 := okU_get hu k2
    refine hO _ k1 _ (w_MI_outside_19 ?_)
    rw [nI_half (by omega)]
    refine hO _ k2 _ (w_MI_outside_31 (hq _ ?_))
    have z0 : (0 : Int32).toInt = 0 := rfl
    rw [max_toInt, max_toInt, ti_sub (by omega) (by omega), ti_sub (by omega) (by omega), z0]
    unfold outs
    rw [if_neg (by omega)]
  · have h0 : s'.length = 0 := by
      rw [ti_le, nI_ti (by omega)] at c; have : (1 : Int32).toInt = 1 := rfl; omega
    refine hq 0 ?_
    unfold outs; rw [if_pos h0]; rfl
theorem okU_sub {s s' : List Pt} (h : okU s) (hs : ∀ x ∈ s', x ∈ s) : okU s' := fun p hp => h p (hs p hp)
theorem vals_cons_inv {l l' : List Pt} {p p' : Pt} (h : (p :: l).Perm (p' :: l') ∨ (vals (p :: l)).Perm (vals (p' :: l'))) (e : p.2 = p'.2) : (vals l).Perm (vals l') := by
  have h2 : (vals (p :: l)).Perm (vals (p' :: l')) := h.elim (fun h => h.map _) id
  have h3 : (p.2 :: vals l).Perm (p'.2 :: vals l') := h2
  rw [e] at h3
  exact List.Perm.cons_inv h3
theorem mi_aboveD {L : List Pt} {a m o1 x y : Nat} {l1 : List Pt} {x3 : Int32} (hok : okP L) (h1 : PtsAt o1) (hP : PF o1 L I) (ha : a + m ≤ L.length) (hM : MS 1 L a m I J) (hx : x < L.length) (hp : (seg L a m).Perm (L.getD x (0, 0) :: l1)) (hq : (x3 = -1 ∧ P (some (.long (lI (medc l1)))) I J) ∨ (∃ l2, x3 = nI y ∧ y < L.length ∧ l1.Perm (L.getD y (0, 0) :: l2) ∧ P (some (.long (lI (medc l2)))) I J)) : Ct G (d + 2) m_MI_above [.ref 36, .ref o1, .int (nI x), .int x3] P I J := by
  have hl := hok.1
  obtain ⟨f0, fA, fJ⟩ := hM
  have hlen := seg_len ha
  have hsl := srt_len (seg L a m)
  have hsu := srt_up (seg L a m)
  have hsp := srt_perm (seg L a m)
  have hn := nI_ne1 (n := x) (by omega)
  have ex : (nI x).toNatClampNeg = x := nI_clamp (by omega)
  have hvx := val_b hok hx
  have okUs : okU (srt (seg L a m)) := fun p hp => (seg_okV hok p (hsp.mem_iff.mp hp)).2
  have hl1 : l1.length + 1 = m := by have := hp.length_eq; simp only [List.length_cons] at this; omega
  generalize hvx' : (L.getD x (0, 0)).2 = vx at *
  have evx : I (o1 + 3) x = vx := by rw [(hP.1.2 x hx).2, hvx']
  -- without x
  have hin : ∃ p ∈ srt (seg L a m), p.2 = vx := ⟨L.getD x (0, 0), hsp.mem_iff.mpr (hp.mem_iff.mpr List.mem_cons_self), hvx'⟩
  obtain ⟨p', s1, g1, g2, g3, g5, g4⟩ := rm_ex (srt (seg L a m)) hsu hin
  have hs1 : s1.length + 1 = m := by have := g1.length_eq; simp only [List.length_cons] at this; omega
  have hv1 : (vals s1).Perm (vals l1) := vals_cons_inv (Or.inl ((g1.symm.trans hsp).trans hp)) (by rw [g2, hvx'])
  have hm1 : medc (seg L a m) = medc l1 + outs s1 vx.toInt := by
    have e1 : medc (seg L a m) = medc (srt (seg L a m)) := medc_vals ((hsp.symm).map _)
    rw [e1, medc_more g1 (List.Perm.refl s1) g3, medc_vals hv1, g2]
  have hO1 : ∀ pl, pl < s1.length → ∀ (Q : PT), Q (some (.int (s1.getD pl (0, 0)).2)) I J → Ct G d m_MI_orderedWithout [.ref 36, .int (nI pl), .int vx, .int 1001] Q I J := fun pl hpl Q hQ => by
    have hA : ∀ i, i < m → I 37 i < 1001 := fun i hi => by
      rw [fA i hi, ti_lt]
      have := okU_get okUs (show i < (srt (seg L a m)).length by omega)
      have z : (1001 : Int32).toInt = 1001 := rfl
      omega
    have hle : (if I 37 pl < vx then pl else pl + 1) < m := by split <;> omega
    refine mi_ordG (n := m) (by omega) (by omega) (fun _ => by omega) (fun t ht he => ?_) (fun c => absurd (hA _ hle) c)
    rw [if_pos (hA _ hle)] at he
    have hval := g4 pl hpl
    rw [← fA pl (by omega), ← fA (pl + 1) (by omega)] at hval
    have : I 37 t = (s1.getD pl (0, 0)).2 := by
      rw [hval, he]; split <;> rfl
    rw [this]; exact hQ
  refine Ct.ofGo [some (.ref 36), some (.ref o1), some (.int (nI x)), some (.int x3), none, none, none, none] (by decide +kernel) rfl (Nat.le_of_ble_eq_true rfl) (w_MI_above_0 h1 (fun _ => vp_in_nI (by omega) (by omega)) (fun _ => ?_) (fun c => absurd c hn))
  rw [ex, evx, f0, show nI m - 1 = nI s1.length by rw [show m = s1.length + 1 by omega]; exact nI_pred _]
  refine mi_outsG (by omega) (okU_sub okUs g5) hvx hO1 (fun w hw => ?_)
  have eres : J 36 2 - Int32.toInt64 w = lI (medc l1) := by
    rw [fJ, lI_32, lI_sub, hw, hm1]; congr 1; omega
  rcases hq with ⟨h3, hq⟩ | ⟨l2, h3, hy, hp2, hq⟩
  · subst h3
    refine w_MI_above_39 h1 (fun c => absurd rfl c) (fun c => absurd rfl c) (fun _ => ?_)
    rw [eres]; exact hq
  · subst h3
    have hn2 := nI_ne1 (n := y) (by omega)
    have ey : (nI y).toNatClampNeg = y := nI_clamp (by omega)
    have hvy := val_b hok hy
    have hl2 : l2.length + 1 = l1.length := by have := hp2.length_eq; simp only [List.length_cons] at this; omega
    generalize hvy' : (L.getD y (0, 0)).2 = vy at *
    have evy : I (o1 + 3) y = vy := by rw [(hP.1.2 y hy).2, hvy']
    refine w_MI_above_39 h1 (fun _ => vp_in_nI (by omega) (by omega)) (fun _ => ?_) (fun c => absurd c hn2)
    rw [ey, evy, eres, f0]
    -- the lesser first, then the greater
    have hmm : ∃ lo hi : Int32, f_JM_min_II vx vy = lo ∧ f_JM_max_II vx vy = hi ∧ lo.toInt ≤ hi.toInt ∧ ((lo = vx ∧ hi = vy) ∨ (lo = vy ∧ hi = vx)) := by
      rcases Int.le_total vx.toInt vy.toInt with c | c
      · refine ⟨vx, vy, ti_eq.mpr ?_, ti_eq.mpr ?_, c, Or.inl ⟨rfl, rfl⟩⟩
        · rw [min_toInt]; omega
        · rw [max_toInt]; omega
      · refine ⟨vy, vx, ti_eq.mpr ?_, ti_eq.mpr ?_, c, Or.inr ⟨rfl, rfl⟩⟩
        · rw [min_toInt]; omega
        · rw [max_toInt]; omega
    obtain ⟨lo, hi, elo, ehi, hlh, hcase⟩ := hmm
    rw [elo, ehi]
    have hvals : (vals (srt (seg L a m))).Perm (vx :: vy :: vals l2) := by
      have e1 : (vals (srt (seg L a m))).Perm (vals (L.getD x (0, 0) :: l1)) := (hsp.trans hp).map _
      have e2 : (vals l1).Perm (vals (L.getD y (0, 0) :: l2)) := hp2.map _
      have e3 : (vals (L.getD x (0, 0) :: l1)) = vx :: vals l1 := by rw [← hvx']; rfl
      have e4 : (vals (L.getD y (0, 0) :: l2)) = vy :: vals l2 := by rw [← hvy']; rfl
      rw [e3] at e1; rw [e4] at e2
      exact e1.trans (e2.cons vx)
    have hvals2 : (vals (srt (seg L a m))).Perm (lo :: hi :: vals l2) := by
      rcases hcase with ⟨a1, a2⟩ | ⟨a1, a2⟩
      · rw [a1, a2]; exact hvals
      · rw [a1, a2]; exact hvals.trans (List.Perm.swap _ _ _)
    have hin1 : ∃ p ∈ srt (seg L a m), p.2 = lo := by
      have : lo ∈ vals (srt (seg L a m)) := hvals2.mem_iff.mpr List.mem_cons_self
      obtain ⟨p, hp, he⟩ := List.mem_map.mp this
      exact ⟨p, hp, he⟩
    obtain ⟨q1, t1, b1, b2, b3, b5, b4⟩ := rm_ex (srt (seg L a m)) hsu hin1
    have ht1 : t1.length + 1 = m := by have := b1.length_eq; simp only [List.length_cons] at this; omega
    have hvt : (vals t1).Perm (hi :: vals l2) := by
      have e1 : (vals (q1 :: t1)).Perm (lo :: hi :: vals l2) := (b1.symm.map _).trans hvals2
      have e2 : (q1.2 :: vals t1).Perm (lo :: hi :: vals l2) := e1
      rw [b2] at e2
      exact List.Perm.cons_inv e2
    have hin2 : ∃ p ∈ t1, p.2 = hi := by
      have : hi ∈ vals t1 := hvt.mem_iff.mpr List.mem_cons_self
      obtain ⟨p, hp, he⟩ := List.mem_map.mp this
      exact ⟨p, hp, he⟩
    obtain ⟨q2, t2, c1, c2, c3, c5, c4⟩ := rm_ex t1 b3 hin2
    have ht2 : t2.length + 2 = m := by have := c1.length_eq; simp only [List.length_cons] at this; omega
    have hvt2 : (vals t2).Perm (vals l2) := by
      have e2 : (q2.2 :: vals t2).Perm (hi :: vals l2) := (c1.symm.map _).trans hvt
      rw [c2] at e2
      exact List.Perm.cons_inv e2
    have okt2 : okU t2 := okU_sub (okU_sub okUs b5) c5
    have hm2 : medc l1 = medc l2 + outs t2 vy.toInt := by
      have e1 : medc l1 = medc (L.getD y (0, 0) :: t2) := medc_vals (by
        have e2 : (vals l1).Perm (vals (L.getD y (0, 0) :: l2)) := hp2.map _
        exact e2.trans ((hvt2.symm).cons _))
      rw [e1, medc_more (List.Perm.refl (L.getD y (0, 0) :: t2)) (List.Perm.refl t2) c3, medc_vals hvt2, hvy']
    have hO2 : ∀ pl, pl < t2.length → ∀ (Q : PT), Q (some (.int (t2.getD pl (0, 0)).2)) I J → Ct G d m_MI_orderedWithout [.ref 36, .int (nI pl), .int lo, .int hi] Q I J := fun pl hpl Q hQ => by
      have v1 := b4 pl (by omega)
      have v1' := b4 (pl + 1) (by omega)
      have v2 := c4 pl hpl
      rw [← fA pl (by omega), ← fA (pl + 1) (by omega)] at v1
      rw [← fA (pl + 1) (by omega), ← fA (pl + 1 + 1) (by omega)] at v1'
      have hup : (I 37 pl).toInt ≤ (I 37 (pl + 1)).toInt := by
        rw [fA pl (by omega), fA (pl + 1) (by omega)]
        exact up_get hsu (by omega) (by omega)
      have e1 : (if I 37 pl < lo then pl else pl + 1) < m := by split <;> omega
      refine mi_ordG (n := m) (by omega) (by omega) (fun _ => by omega) (fun t ht he => ?_) (fun c => by split <;> omega)
      have : I 37 t = (t2.getD pl (0, 0)).2 := by
        rw [v2, he]
        by_cases k1 : I 37 pl < lo
        · rw [if_pos k1] at v1
          rw [if_pos k1, v1]
          have k2 : I 37 pl < hi := by rw [ti_lt] at k1 ⊢; omega
          rw [if_pos k2, if_pos k2]
        · rw [if_neg k1] at v1
          rw [if_neg k1, v1]
          have k3 : ¬ I 37 (pl + 1) < lo := by rw [ti_lt] at k1 ⊢; omega
          rw [if_neg k3] at v1'
          rw [v1']
          by_cases k4 : I 37 (pl + 1) < hi
          · rw [if_pos k4, if_pos k4]
          · rw [if_neg k4, if_neg k4]
      rw [this]; exact hQ
    rw [show nI m - 2 = nI t2.length by rw [show m = t2.length + 2 by omega]; exact nI_sub (a := t2.length + 2) (b := 2) (by omega)]
    refine mi_outsG (by omega) okt2 hvy hO2 (fun w2 hw2 => w_MI_above_87 ?_)
    have : lI (medc l1) - Int32.toInt64 w2 = lI (medc l2) := by rw [lI_32, lI_sub, hw2, hm2]; congr 1; omega
    rw [this]; exact hq
end
