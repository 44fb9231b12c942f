/-! ===== the class's measures, part 2: the middle, one number; every kind ===== -/
theorem nI_half {n : Nat} (h : n < 1000000) : nI n / 2 = nI (n / 2) := by
  have z2 : (2 : Int32).toInt = 2 := rfl
  have t := nI_ti (n := n) (by omega)
  rw [ti_eq, ti_div (by rw [t]; omega) (by rw [z2]; omega), t, z2, nI_ti (by omega)]
  omega
theorem nI_half1 {n : Nat} (h : n < 1000000) (h0 : 0 < n) : (nI n - 1) / 2 = nI ((n - 1) / 2) := by
  have : nI n - 1 = nI (n - 1) := by rw [show n = n - 1 + 1 by omega]; exact nI_pred _
  rw [this, nI_half (by omega)]
theorem ins_len (p : Pt) (s : List Pt) : (ins p s).length = s.length + 1 := (ins_perm p s).length_eq
theorem ins_get {p : Pt} {s : List Pt} {i : Nat} (hi : i ≤ s.length) : (ins p s).getD i (0, 0) = if i < pos p s s.length then s.getD i (0, 0) else if i = pos p s s.length then p else s.getD (i - 1) (0, 0) := by
  have hl := pos_le p s s.length
  have hlen : i < (s.take (pos p s s.length) ++ p :: s.drop (pos p s s.length)).length := by
    have := ins_len p s
    unfold ins at this
    rw [this]; omega
  show (s.take (pos p s s.length) ++ p :: s.drop (pos p s s.length)).getD i (0, 0) = _
  rw [getD_lt hlen]
  have ht : (s.take (pos p s s.length)).length = pos p s s.length := by rw [List.length_take]; omega
  by_cases q : i < pos p s s.length
  · rw [if_pos q, List.getElem_append_left (by omega), List.getElem_take, getD_lt (by omega)]
  · rw [if_neg q, List.getElem_append_right (by omega)]
    by_cases q2 : i = pos p s s.length
    · rw [if_pos q2]
      simp [ht, q2]
    · rw [if_neg q2, getD_lt (show i - 1 < s.length by omega)]
      have e : i - (s.take (pos p s s.length)).length = (i - 1 - pos p s s.length) + 1 := by omega
      simp only [e, List.getElem_cons_succ, List.getElem_drop]
      congr 1; omega
/-- the array while a place is made at k -/
def shf (s : List Pt) (k : Nat) (A : Nat → Int32) : Prop := (∀ i, i < k → A i = (s.getD i (0, 0)).2) ∧ ∀ i, k < i → i ≤ s.length → A i = (s.getD (i - 1) (0, 0)).2
theorem shf_0 {s : List Pt} {A : Nat → Int32} (h : ∀ i, i < s.length → A i = (s.getD i (0, 0)).2) : shf s s.length A := ⟨h, fun i h1 h2 => by omega⟩
theorem shf_step {s : List Pt} {k : Nat} {F : MI} {c : Nat} (h : shf s (k + 1) (F c)) (hk : k + 1 ≤ s.length) : shf s k (u2 F c (k + 1) (F c k) c) := by
  refine ⟨fun i hi => ?_, fun i h1 h2 => ?_⟩
  · rw [u2_k (by omega)]; exact h.1 i (by omega)
  · by_cases q : i = k + 1
    · subst q; rw [u2_s]; exact h.1 k (by omega)
    · rw [u2_k q]; exact h.2 i (by omega) h2
theorem shf_end {s : List Pt} {p : Pt} {F : MI} {c : Nat} (h : shf s (pos p s s.length) (F c)) : ∀ i, i < s.length + 1 → u2 F c (pos p s s.length) p.2 c i = ((ins p s).getD i (0, 0)).2 := by
  intro i hi
  rw [ins_get (by omega)]
  by_cases q : i < pos p s s.length
  · rw [if_pos q, u2_k (by omega)]; exact h.1 i q
  · rw [if_neg q]
    by_cases q2 : i = pos p s s.length
    · rw [if_pos q2, q2, u2_s]
    · rw [if_neg q2, u2_k q2]; exact h.2 i (by omega) (by omega)
section
variable {G : GC} {d : Nat} {P : PT} {I : MI} {J : MJ}
theorem mi_ordW0 {k : Nat} {v : Int32} (hk : k < 40) (hv : I 37 k = v) (hr : v.toInt ≤ 1000) (hq : P (some (.int v)) I J) : Ct G d m_MI_orderedWithout [.ref 36, .int (nI k), .int 1001, .int 1001] P I J := by
  have ek : (nI k).toNatClampNeg = k := nI_clamp (by omega)
  have hlt : v < 1001 := by rw [ti_lt]; have : (1001 : Int32).toInt = 1001 := rfl; omega
  have h40 : ¬ (40 : Int32) ≤ nI k := nI_ge (b := 40) hk (by omega)
  refine Ct.ofGo [some (.ref 36), some (.int (nI k)), some (.int 1001), some (.int 1001), none] (by decide +kernel) rfl (Nat.le_of_ble_eq_true rfl) (w_MI_orderedWithout_0 (vp_in_nI hk (by omega)) (fun _ => w_MI_orderedWithout_17 (fun c => absurd c h40) (fun _ => vp_in_nI hk (by omega)) (fun _ _ => w_MI_orderedWithout_38 (fun c => absurd c h40) (fun _ => vp_in_nI hk (by omega)) (fun _ => ?_)) (fun _ c => absurd (by rw [ek, hv]; exact hlt) c)) (fun c => absurd (by rw [ek, hv]; exact hlt) c))
  rw [ek, hv]; exact hq
def okU (s : List Pt) : Prop := ∀ p ∈ s, -1000 ≤ p.2.toInt ∧ p.2.toInt ≤ 1000
theorem okU_get {s : List Pt} (h : okU s) {i : Nat} (hi : i < s.length) : -1000 ≤ (s.getD i (0, 0)).2.toInt ∧ (s.getD i (0, 0)).2.toInt ≤ 1000 := h _ (by rw [getD_lt hi]; exact List.getElem_mem hi)
theorem mi_outs0 {s : List Pt} {v : Int32} (hs : s.length ≤ 40) (hu : okU s) (hv : -1000 ≤ v.toInt ∧ v.toInt ≤ 1000) (hA : ∀ i, i < s.length → I 37 i = (s.getD i (0, 0)).2) (hq : ∀ w : Int32, w.toInt = outs s v.toInt → P (some (.int w)) I J) : Ct G (d + 1) m_MI_outside [.ref 36, .int v, .int (nI s.length), .int 1001, .int 1001] P I J := by
  refine Ct.ofGo [some (.ref 36), some (.int v), some (.int (nI s.length)), some (.int 1001), some (.int 1001), none, none] (by decide +kernel) rfl (Nat.le_of_ble_eq_true rfl) (w_MI_outside_0 (fun c => ?_) (fun c => ?_))
  · have h0 : 0 < s.length := by rw [ti_le, nI_ti (by omega)] at c; have : (1 : Int32).toInt = 1 := rfl; omega
    rw [nI_half1 (by omega) h0]
    have k1 : (s.length - 1) / 2 < s.length := by omega
    have k2 : s.length / 2 < s.length := by omega
    have r1 := okU_get hu k1
    have r2 := okU_get hu k2
    refine mi_ordW0 (by omega) (hA _ k1) r1.2 (w_MI_outside_19 ?_)
    rw [nI_half (by omega)]
    refine mi_ordW0 (by omega) (hA _ k2) r2.2 (w_MI_outside_31 (hq _ ?_))
    have z0 : (0 : Int32).toInt = 0 := rfl
    rw [max_toInt, max_toInt, ti_sub (by omega) (by omega), ti_sub (by omega) (by omega), z0]
    unfold outs
    rw [if_neg (by omega)]
  · have h0 : s.length = 0 := by
      rw [ti_le, nI_ti (by omega)] at c; have : (1 : Int32).toInt = 1 := rfl; omega
    refine hq 0 ?_
    unfold outs; rw [if_pos h0]; rfl
theorem mi_ins {s : List Pt} {p : Pt} (hs : s.length < 40) (h0 : I 36 0 = nI s.length) (hq : ∀ I', (∀ a, a ≠ 36 → a ≠ 37 → I' a = I a) → I' 36 0 = nI (s.length + 1) → (∀ i, i < s.length + 1 → I' 37 i = ((ins p s).getD i (0, 0)).2) → P none I' J) : ∀ (k : Nat) (x4 : Int32) (I1 : MI), k ≤ s.length → x4 = nI k → pos p s k = pos p s s.length → (∀ a, a ≠ 37 → I1 a = I a) → shf s k (I1 37) → Go G (fr G m_MI_extend (d + 2) P) 48 [some (.ref 36), none, none, some (.int p.2), some (.int x4)] [] I1 J := by
  have fin : ∀ (I1 : MI), (∀ a, a ≠ 37 → I1 a = I a) → ∀ k, k = pos p s s.length → shf s k (I1 37) → Go G (fr G m_MI_extend (d + 2) P) 88 [some (.ref 36), none, none, some (.int p.2), some (.int (nI k))] [] I1 J := by
    intro I1 hF k hk hsf
    have hpl := pos_le p s s.length
    have ek : (nI k).toNatClampNeg = k := nI_clamp (by omega)
    refine w_MI_extend_88 (vp_in_nI (by omega) (by omega)) (hq _ (fun a h1 h2 => by rw [u2_o h1, u2_o h2]; exact hF a h2) ?_ (fun i hi => ?_))
    · rw [u2_s, hF 36 (by decide), h0, nI_1]
    · rw [u2_o (by decide), ek, hk]
      rw [hk] at hsf
      exact shf_end hsf i hi
  intro k
  induction k with
  | zero =>
    intro x4 I1 hk hx hp hF hsf
    subst hx
    have hle : nI 0 ≤ 0 := by decide
    exact w_MI_extend_48 (fun _ => fin I1 hF 0 hp hsf) (fun c => absurd hle c) (fun c => absurd hle c) (fun c => absurd hle c) (fun c => absurd hle c)
  | succ k ih =>
    intro x4 I1 hk hx hp hF hsf
    subst hx
    have hle : ¬ nI (k + 1) ≤ 0 := nI_nle (by omega) (by omega)
    have e1 : nI (k + 1) - 1 = nI k := nI_pred k
    have ek : (nI k).toNatClampNeg = k := nI_clamp (by omega)
    have ek1 : (nI (k + 1)).toNatClampNeg = k + 1 := nI_clamp (by omega)
    have ev : I1 37 k = (s.getD k (0, 0)).2 := hsf.1 k (by omega)
    have hu : pos p s (k + 1) = if (s.getD k (0, 0)).2 ≤ p.2 then k + 1 else pos p s k := rfl
    refine w_MI_extend_48 (fun c => absurd c hle) (fun _ => by rw [e1]; exact vp_in_nI (by omega) (by omega)) (fun _ c => ?_) (fun _ _ => vp_in_nI (by omega) (by omega)) (fun _ c => ?_)
    · rw [e1, ek, ev] at c
      rw [hu, if_pos c] at hp
      exact fin I1 hF (k + 1) hp hsf
    · rw [e1, ek, ev] at c
      rw [hu, if_neg c] at hp
      rw [e1, ek, ek1]
      exact ih _ _ (by omega) (pk_m1 k) hp (fun a ha => by rw [u2_o ha]; exact hF a ha) (shf_step hsf hk)
theorem mi_ext {L : List Pt} {a m o1 : Nat} (hok : okP L) (h1 : PtsAt o1) (hP : PF o1 L I) (ha : a + m < L.length) (hM : MS 1 L a m I J) (hq : ∀ I' J', FM I J I' J' → MS 1 L a (m + 1) I' J' → P none I' J') : Ct G (d + 2) m_MI_extend [.ref 36, .ref o1, .int (nI (a + m))] P I J := by
  have hl := hok.1
  obtain ⟨f0, f1, f2⟩ := hM
  have hlen : (seg L a m).length = m := seg_len (by omega)
  have hsl : (srt (seg L a m)).length = m := by rw [srt_len, hlen]
  have hm : L.getD (a + m) (0, 0) ∈ L := by rw [getD_lt ha]; exact List.getElem_mem ha
  have hv := hok.2.1 _ hm
  have ex : (nI (a + m)).toNatClampNeg = a + m := nI_clamp (by omega)
  have ev : I (o1 + 3) (a + m) = (L.getD (a + m) (0, 0)).2 := (hP.1.2 (a + m) ha).2
  have hlt : I 36 0 < 40 := by rw [f0]; exact nI_lt (b := 40) (by omega) (by omega)
  have hu : okU (srt (seg L a m)) := fun p hp => by
    have := seg_okV hok p ((srt_perm _).mem_iff.mp hp); exact ⟨this.2.1, this.2.2⟩
  refine Ct.ofGo [some (.ref 36), some (.ref o1), some (.int (nI (a + m))), none, none] (by decide +kernel) rfl (Nat.le_of_ble_eq_true rfl) (w_MI_extend_0 h1 (fun _ => vp_in_nI (by omega) (by omega)) (fun _ => ?_) (fun c => absurd hlt c))
  rw [ex, ev, f0]
  have hout := mi_outs0 (G := G) (d := d) (P := fun r I' J' => Go G (fr G m_MI_extend (d + 2) P) 37 [some (.ref 36), none, none, some (.int (L.getD (a + m) (0, 0)).2), none] (r.toList ++ [.long (J 36 2), .ref 36]) I' J') (I := I) (J := J) (s := srt (seg L a m)) (v := (L.getD (a + m) (0, 0)).2) (by omega) hu ⟨hv.2.1, hv.2.2⟩ (by rw [hsl]; exact f1)
  rw [hsl] at hout
  refine hout (fun w hw => w_MI_extend_37 ?_)
  rw [f2, lI_32, hw, lI_add, f0]
  have hmore : medc (seg L a (m + 1)) = medc (seg L a m) + outs (srt (seg L a m)) (L.getD (a + m) (0, 0)).2.toInt := by
    rw [seg_ext ha]
    exact medc_more (List.perm_append_singleton _ _) (srt_perm _) (srt_up _)
  rw [← hmore]
  refine mi_ins (s := srt (seg L a m)) (p := L.getD (a + m) (0, 0)) (I := I) (by omega) (by rw [hsl]; exact f0) (fun I' g1 g2 g3 => hq I' _ ⟨fun b hb => ⟨g1 b (by omega) (by omega), u2_o (by omega)⟩, by rw [u2_o (by decide)], by rw [u2_o (by decide)]⟩ ⟨by rw [hsl] at g2; exact g2, fun i hi => ?_, u2_s⟩) m _ I (by omega) rfl (by rw [hsl]) (fun _ _ => rfl) (by have := shf_0 (s := srt (seg L a m)) (A := I 37) (by rw [hsl]; exact f1); rw [hsl] at this; exact this)
  rw [seg_ext ha, srt_app]
  exact g3 i (by omega)
theorem on_restart {L : List Pt} {a : Nat} (hq : ∀ I' J', FM I J I' J' → MS 3 L a 0 I' J' → P none I' J') : Ct G (d + 1) m_ON_restart [.ref 39] P I J := by
  refine Ct.ofGo [some (.ref 39)] (by decide +kernel) rfl (Nat.le_of_ble_eq_true rfl) (w_ON_restart_0 (sp_fillI sh_40 (by decide) (w_ON_restart_18 (sp_fillI sh_41 (by decide) (w_ON_restart_26 (hq _ _ ⟨fun b hb => ⟨?_, rfl⟩, rfl, rfl⟩ ⟨?_, ?_, fun j hj => ?_, fun t h1 h2 => ?_⟩))))))
  · rw [fl_o (by omega), fl_o (by omega), u2_o (by omega), u2_o (by omega)]
  · rw [fl_o (by decide), fl_o (by decide), u2_k (by decide), u2_s]; rfl
  · rw [fl_o (by decide), fl_o (by decide), u2_s, seg_0]; rfl
  · rw [fl_o (by decide), fl_at (by omega)]; rfl
  · rw [fl_at (by omega)]
    have : vso L a 0 t = 0 := by
      unfold vso; rw [List.countP_eq_zero]
      intro j _
      simp only [decide_eq_true_eq]
      show ¬ 0 = t; omega
    rw [this]; rfl
theorem on_ext {L : List Pt} {a m o1 : Nat} (hok : okP L) (h1 : PtsAt o1) (hP : PF o1 L I) (ha : a + m < L.length) (hM : MS 3 L a m I J) (hq : ∀ I' J', FM I J I' J' → MS 3 L a (m + 1) I' J' → P none I' J') : Ct G (d + 1) m_ON_extend [.ref 39, .ref o1, .int (nI (a + m))] P I J := by
  have hl := hok.1
  obtain ⟨f0, f1, f2, f3⟩ := hM
  have hlen : (seg L a m).length = m := seg_len (by omega)
  have ex : (nI (a + m)).toNatClampNeg = a + m := nI_clamp (by omega)
  have ev : I (o1 + 4) (a + m) = nI (lk L (a + m)) := hP.2 (a + m) ha
  have hlk := (lk_in ha).1
  have hlt : I 39 0 < 40 := by rw [f0]; exact nI_lt (b := 40) (by omega) (by omega)
  have el : (nI (lk L (a + m))).toNatClampNeg = lk L (a + m) := nI_clamp (by omega)
  have eo := f2 (lk L (a + m)) (by omega)
  have hoc := oft_cnt (L := L) (a := a) ha m (by omega)
  have hol := oft_le L a m (lk L (a + m))
  have hmxl := mxc_le (seg L a m)
  generalize hj : lk L (a + m) = j at *
  have e1 : nI (oft L a m j) + 1 = nI (oft L a m j + 1) := nI_1 _
  have e2 : nI (oft L a m j + 1) - 1 = nI (oft L a m j) := nI_pred _
  have c1 : (nI (oft L a m j)).toNatClampNeg = oft L a m j := nI_clamp (by omega)
  have c2 : (nI (oft L a m j + 1)).toNatClampNeg = oft L a m j + 1 := nI_clamp (by omega)
  refine Ct.ofGo [some (.ref 39), some (.ref o1), some (.int (nI (a + m))), none, none] (by decide +kernel) rfl (Nat.le_of_ble_eq_true rfl) (w_ON_extend_0 h1 (fun _ => show vp_in (nI (a + m)) 40 from vp_in_nI (by omega) (by omega)) (fun _ => by rw [ex, ev]; exact vp_in_nI (by omega) (by omega)) (fun _ => by rw [ex, ev, el, eo, e1, e2]; exact vp_in_nI (by omega) (by omega)) (fun _ => by rw [ex, ev, el, eo, e1]; exact vp_in_nI (by omega) (by omega)) (fun _ => ?_) (fun c => absurd hlt c))
  rw [ex, ev, el, eo, e1, e2, c1, c2]
  have hne : oft L a m j + 1 ≠ oft L a m j := by omega
  rw [u2_k hne]
  refine hq _ _ ⟨fun b hb => ⟨?_, rfl⟩, rfl, rfl⟩ ⟨?_, ?_, fun i hi => ?_, fun t h1 h2 => ?_⟩
  · rw [u2_o (by omega), u2_o (by omega), u2_o (by omega), u2_o (by omega), u2_o (by omega)]
  · rw [u2_s, f0, nI_1]
  · rw [u2_k (by decide), u2_s, f1, seg_ext ha, mxc_app, hoc]
    rw [ti_eq, max_toInt, nI_ti (by omega), nI_ti (by omega), nI_ti (by omega)]
    omega
  · rw [u2_o (by decide), u2_o (by decide), u2_at, oft_succ, hj]
    by_cases q : i = j
    · rw [if_pos q, if_pos q.symm, q]
    · rw [if_neg q, if_neg (fun e => q e.symm), Nat.add_zero, u2_o (by decide), u2_o (by decide)]; exact f2 i hi
  · rw [u2_o (by decide), u2_o (by decide), u2_o (by decide), u2_at, u2_at]
    have hcu := cp_upd (f := oft L a m) (f' := oft L a (m + 1)) (j0 := j) (t := t) (by rw [oft_succ, hj, if_pos rfl]) (fun i hi => by rw [oft_succ, hj, if_neg (fun e => hi e.symm), Nat.add_zero]) 40 (by omega)
    have hv1 : vso L a (m + 1) t + (if oft L a m j = t then 1 else 0) = vso L a m t + (if oft L a m j + 1 = t then 1 else 0) := hcu
    have hvl := vso_le L a m t
    by_cases q1 : t = oft L a m j + 1
    · rw [if_neg (show ¬ oft L a m j = t by omega), if_pos (show oft L a m j + 1 = t by omega)] at hv1
      rw [if_pos q1, f3 _ (by omega) (by omega), nI_1]
      rw [← q1]
      congr 1; omega
    · rw [if_neg q1]
      rw [if_neg (show ¬ oft L a m j + 1 = t by omega)] at hv1
      by_cases q2 : t = oft L a m j
      · rw [if_pos (show oft L a m j = t by omega)] at hv1
        rw [if_pos q2, ← q2, f3 t h1 h2]
        rw [show vso L a m t = vso L a (m + 1) t + 1 by omega]; exact nI_pred _
      · rw [if_neg (show ¬ oft L a m j = t by omega)] at hv1
        rw [if_neg q2, f3 t h1 h2]
        congr 1; omega
/-- every measure begins anew -/
theorem ms_restart {k : Nat} (hk : k < 4) {L : List Pt} {a : Nat} (hq : ∀ I' J', FM I J I' J' → MS k L a 0 I' J' → P none I' J') : Ct G (d + 2) (mesM (mcl k) m_SU_restart m_MI_restart m_ON_restart) [.ref (mcl k)] P I J := by
  rcases (show k = 0 ∨ k = 1 ∨ k = 2 ∨ k = 3 by omega) with rfl | rfl | rfl | rfl
  · exact su_restart (Or.inl rfl) (fun I' J' g1 g2 => hq I' J' g1 ((su_ms (Or.inl rfl)).mpr (by rw [seg_0]; exact g2)))
  · exact Ct.ofGo [some (.ref 36)] (by decide +kernel) rfl (Nat.le_of_ble_eq_true rfl) (w_MI_restart_0 (hq _ _ ⟨fun b hb => ⟨u2_o (by omega), u2_o (by omega)⟩, by rw [u2_o (by decide)], by rw [u2_o (by decide)]⟩ ⟨u2_s, fun i hi => absurd hi (by omega), by rw [u2_s, seg_0]; rfl⟩))
  · exact su_restart (Or.inr rfl) (fun I' J' g1 g2 => hq I' J' g1 ((su_ms (Or.inr rfl)).mpr (by rw [seg_0]; exact g2)))
  · exact on_restart hq
theorem ms_extend {k : Nat} (hk : k < 4) {L : List Pt} {a m o1 : Nat} (hok : okP L) (h1 : PtsAt o1) (hP : PF o1 L I) (ha : a + m < L.length) (hM : MS k L a m I J) (hq : ∀ I' J', FM I J I' J' → MS k L a (m + 1) I' J' → P none I' J') : Ct G (d + 2) (mesM (mcl k) m_SU_extend m_MI_extend m_ON_extend) [.ref (mcl k), .ref o1, .int (nI (a + m))] P I J := by
  rcases (show k = 0 ∨ k = 1 ∨ k = 2 ∨ k = 3 by omega) with rfl | rfl | rfl | rfl
  · exact su_ext (Or.inl rfl) hok h1 hP ha hM hq
  · exact mi_ext hok h1 hP ha hM hq
  · exact su_ext (Or.inr rfl) hok h1 hP ha hM hq
  · exact on_ext hok h1 hP ha hM hq
theorem ms_above {k : Nat} (hk : k < 4) {L : List Pt} {a m o1 : Nat} (hok : okP L) (h35 : J 35 1 = 0) (h38 : J 38 1 = 20) (h1 : PtsAt o1) (ha : a + m ≤ L.length) (hM : MS k L a m I J) (hq : P (some (.long (lI (numK k (seg L a m))))) I J) : Ct G (d + 2) (mesM (mcl k) m_SU_above m_MI_above m_ON_above) [.ref (mcl k), .ref o1, .int (-1), .int (-1)] P I J := by
  have hl := hok.1
  rcases (show k = 0 ∨ k = 1 ∨ k = 2 ∨ k = 3 by omega) with rfl | rfl | rfl | rfl
  · exact su_above0 (Or.inl rfl) hok h35 h38 h1 ha hM hq
  · refine Ct.ofGo [some (.ref 36), some (.ref o1), some (.int (-1)), some (.int (-1)), none, none, none, none] (by decide +kernel) rfl (Nat.le_of_ble_eq_true rfl) (w_MI_above_0 h1 (fun c => absurd rfl c) (fun c => absurd rfl c) (fun _ => ?_))
    rw [hM.2.2]; exact hq
  · exact su_above0 (Or.inr rfl) hok h35 h38 h1 ha hM hq
  · refine Ct.ofGo [some (.ref 39), some (.ref o1), some (.int (-1)), some (.int (-1)), none, none, none] (by decide +kernel) rfl (Nat.le_of_ble_eq_true rfl) (w_ON_above_0 h1 (fun c => absurd rfl c) (fun c => absurd rfl c) (fun c => absurd rfl c) (fun c => absurd rfl c) (fun _ => ?_))
    have hlen : (seg L a m).length = m := seg_len ha
    have hmx := mxc_le (seg L a m)
    have e : ((I 39 0) - (I 39 3)).toInt64 = lI (numK 3 (seg L a m)) := by
      rw [hM.1, hM.2.1, lI_32, ti_sub (by rw [nI_ti (by omega), nI_ti (by omega)]; omega) (by rw [nI_ti (by omega), nI_ti (by omega)]; omega), nI_ti (by omega), nI_ti (by omega)]
      show lI _ = lI (((seg L a m).length : Int) - mxc (seg L a m))
      rw [hlen]
    rw [e]; exact hq
theorem ms_below {k : Nat} (hk : k < 4) {L : List Pt} {a m : Nat} (ha : a + m ≤ L.length) (hM : MS k L a m I J) (hq : P (some (.int (nI (denK k (seg L a m))))) I J) : Ct G (d + 2) (mesM (mcl k) m_SU_below m_MI_below m_ON_below) [.ref (mcl k), .int 0] P I J := by
  have hlen : (seg L a m).length = m := seg_len ha
  rcases (show k = 0 ∨ k = 1 ∨ k = 2 ∨ k = 3 by omega) with rfl | rfl | rfl | rfl
  · refine Ct.ofGo [some (.ref 35), some (.int 0)] (by decide +kernel) rfl (Nat.le_of_ble_eq_true rfl) (w_SU_below_0 (Or.inl rfl) ?_)
    have e : I 35 0 - 0 = nI (denK 0 (seg L a m)) := by rw [Int32.sub_zero]; show I 35 0 = nI (seg L a m).length; rw [hlen]; exact hM.1
    rw [e]; exact hq
  · exact Ct.ofGo [some (.ref 36), some (.int 0)] (by decide +kernel) rfl (Nat.le_of_ble_eq_true rfl) (g_weak [none, none] trivial (w_MI_below_0 hq))
  · refine Ct.ofGo [some (.ref 38), some (.int 0)] (by decide +kernel) rfl (Nat.le_of_ble_eq_true rfl) (w_SU_below_0 (Or.inr rfl) ?_)
    have e : I 38 0 - 0 = nI (denK 2 (seg L a m)) := by rw [Int32.sub_zero]; show I 38 0 = nI (seg L a m).length; rw [hlen]; exact hM.1
    rw [e]; exact hq
  · exact Ct.ofGo [some (.ref 39), some (.int 0)] (by decide +kernel) rfl (Nat.le_of_ble_eq_true rfl) (g_weak [none, none] trivial (w_ON_below_0 hq))
theorem MS.size {k : Nat} (hk : k < 4) {L : List Pt} {a m : Nat} (hM : MS k L a m I J) : I (mcl k) 0 = nI m := by
  rcases (show k = 0 ∨ k = 1 ∨ k = 2 ∨ k = 3 by omega) with rfl | rfl | rfl | rfl
  · exact hM.1
  · exact hM.1
  · exact hM.1
  · exact hM.1
end
