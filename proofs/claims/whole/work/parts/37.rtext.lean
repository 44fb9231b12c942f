/-! ===== the text that is told beforehand: the reference ===== -/
def TN (t : List Int32) (I : MI) : Prop := t.length ≤ 100 ∧ I 67 31 = nI t.length ∧ ∀ k, k < t.length → I 91 k = t.getD k 0
def BPm (ps : List BP) (I : MI) : Prop := I 67 35 = nI ps.length ∧ ∀ k, k < ps.length → I 92 k = (ps.getD k (0, 0, 0)).1 ∧ I 93 k = (ps.getD k (0, 0, 0)).2.1 ∧ I 94 k = (ps.getD k (0, 0, 0)).2.2
def M2 (I I' : MI) : Prop := (∀ a, a ≠ 67 → I' a = I a) ∧ ∀ k, k ≠ 33 → k ≠ 34 → I' 67 k = I 67 k
theorem M2.rf {I : MI} : M2 I I := ⟨fun _ _ => rfl, fun _ _ _ => rfl⟩
theorem M2.tr {I I' I'' : MI} (h : M2 I I') (g : M2 I' I'') : M2 I I'' := ⟨fun a ha => (g.1 a ha).trans (h.1 a ha), fun k h6 h7 => (g.2 k h6 h7).trans (h.2 k h6 h7)⟩
theorem M2.u6 {I : MI} {v : Int32} : M2 I (u2 I 67 33 v) := ⟨fun a ha => u2_o ha, fun k h6 _ => u2_k h6⟩
theorem M2.u7 {I : MI} {v : Int32} : M2 I (u2 I 67 34 v) := ⟨fun a ha => u2_o ha, fun k _ h7 => u2_k h7⟩
theorem TN.of {t : List Int32} {I I' : MI} (h : TN t I) (hb : M2 I I') : TN t I' := ⟨h.1, by rw [hb.2 31 (by omega) (by omega)]; exact h.2.1, fun k hk => by rw [hb.1 91 (by decide)]; exact h.2.2 k hk⟩
theorem BPm.of {ps : List BP} {I I' : MI} (h : BPm ps I) (hb : M2 I I') : BPm ps I' := ⟨by rw [hb.2 35 (by omega) (by omega)]; exact h.1, fun k hk => by rw [hb.1 92 (by decide), hb.1 93 (by decide), hb.1 94 (by decide)]; exact h.2 k hk⟩
def M3 (I I' : MI) : Prop := (∀ a, a ≠ 67 → a ≠ 92 → a ≠ 93 → a ≠ 94 → I' a = I a) ∧ ∀ k, k ≠ 33 → k ≠ 34 → k ≠ 35 → I' 67 k = I 67 k
theorem M3.rf {I : MI} : M3 I I := ⟨fun _ _ _ _ _ => rfl, fun _ _ _ _ => rfl⟩
theorem M3.tr {I I' I'' : MI} (h : M3 I I') (g : M3 I' I'') : M3 I I'' := ⟨fun a h1 h2 h3 h4 => (g.1 a h1 h2 h3 h4).trans (h.1 a h1 h2 h3 h4), fun k h5 h6 h7 => (g.2 k h5 h6 h7).trans (h.2 k h5 h6 h7)⟩
theorem M2.b3 {I I' : MI} (h : M2 I I') : M3 I I' := ⟨fun a h1 _ _ _ => h.1 a h1, fun k h6 h7 _ => h.2 k h6 h7⟩
theorem TN.b3 {t : List Int32} {I I' : MI} (h : TN t I) (hb : M3 I I') : TN t I' := ⟨h.1, by rw [hb.2 31 (by omega) (by omega) (by omega)]; exact h.2.1, fun k hk => by rw [hb.1 91 (by decide) (by decide) (by decide) (by decide)]; exact h.2.2 k hk⟩
theorem BPm.push {ps : List BP} {I : MI} {x y z : Int32} (h : BPm ps I) (hl : ps.length < 40) : BPm (ps ++ [(x, y, z)]) (u2 (u2 (u2 (u2 I 92 ps.length x) 93 ps.length y) 94 ps.length z) 67 35 (nI ps.length + 1)) := by
  refine ⟨by rw [u2_s, List.length_append]; exact nI_1 _, fun k hk => ?_⟩
  rw [List.length_append] at hk
  have hk' : k < ps.length + 1 := hk
  rw [getD_appB]
  rw [u2_o (show (92 : Nat) ≠ 67 by decide), u2_o (show (92 : Nat) ≠ 94 by decide), u2_o (show (92 : Nat) ≠ 93 by decide), u2_o (show (93 : Nat) ≠ 67 by decide), u2_o (show (93 : Nat) ≠ 94 by decide), u2_o (show (94 : Nat) ≠ 67 by decide)]
  by_cases q : k = ps.length
  · subst q; rw [u2_s, u2_s, u2_s, if_neg (Nat.lt_irrefl _), if_pos rfl]; exact ⟨rfl, rfl, rfl⟩
  · rw [u2_k q, u2_k q, u2_k q, if_pos (by omega), u2_o (show (94 : Nat) ≠ 93 by decide), u2_o (show (93 : Nat) ≠ 92 by decide), u2_o (show (94 : Nat) ≠ 92 by decide)]
    exact h.2 k (by omega)
theorem within_not {x a b : Int32} : f_LB_isWithin x a b = 0 ↔ (x < a ∨ b < x) := by
  unfold f_LB_isWithin
  by_cases h1 : x < a
  · simp [h1]
  · by_cases h2 : b < x
    · simp [h1, h2]
    · simp [h1, h2]
section
variable {G : GC} {d : Nat} {P : PT} {I : MI} {J : MJ}
theorem md_byteAt {t : List Int32} {a : Nat} (hT : TN t I) (ha : a ≤ 200) (hq : P (some (.int (byt t a))) I J) : Ct G d m_RM_byteAt [.ref 67, .int (nI a)] P I J := by
  have hl := hT.1
  have hcmp : (I 67 31 ≤ nI a) ↔ t.length ≤ a := by rw [hT.2.1]; exact nI_leI (by omega) (by omega)
  have ea : (nI a).toNatClampNeg = a := nI_clamp (by omega)
  refine Ct.ofGo [some (.ref 67), some (.int (nI a))] (by decide +kernel) rfl (Nat.le_of_ble_eq_true rfl) (w_RM_byteAt_0 (fun c => ?_) (fun c => ?_) (fun c => ?_))
  · unfold byt at hq; rw [if_neg (Nat.not_lt.mpr (hcmp.mp c))] at hq; exact hq
  · have : a < t.length := Nat.not_le.mp fun q => c (hcmp.mpr q)
    exact vp_in_nI (by omega) (by omega)
  · have : a < t.length := Nat.not_le.mp fun q => c (hcmp.mpr q)
    unfold byt at hq; rw [if_pos this] at hq
    rw [ea, hT.2.2 a this]; exact hq
theorem mfig_loop {t : List Int32} {k a0 : Nat} {x3 x4 x5 x6 : Int32} {I0 : MI} (hk : k ≤ 4) (h0 : a0 ≤ 101) (res : Nat × Int32) (hend : ∀ (I' : MI), M2 I0 I' → I' 67 33 = nI res.1 → I' 67 34 = I0 67 34 → Go G (fr G m_RM_figures (d + 1) P) 127 [some (.ref 67), none, none, some (.int x3), some (.int x4), some (.int x5), some (.int x6), some (.int (nI a0)), some (.int res.2)] [] I' J) : ∀ (m a : Nat) (x8 : Int32) (I : MI), a - a0 + m = k → a0 ≤ a → a ≤ 101 → dg t m a x8 = res → TN t I → M2 I0 I → I 67 33 = nI a → I 67 34 = I0 67 34 → Go G (fr G m_RM_figures (d + 1) P) 58 [some (.ref 67), some (.int (nI k)), none, some (.int x3), some (.int x4), some (.int x5), some (.int x6), some (.int (nI a0)), some (.int x8)] [] I J := by
  intro m
  induction m with
  | zero =>
    intro a x8 I h1 h2 h3 hres hT hB h6 h7
    have hle : nI a0 + nI k ≤ I 67 33 := by rw [h6, nI_add]; exact nI_le (by omega) (by omega)
    have hres : (a, x8) = res := hres
    subst hres
    exact w_RM_figures_58 (fun _ => hend I hB h6 h7) (fun c => absurd hle c)
  | succ m ih =>
    intro a x8 I h1 h2 h3 hres hT hB h6 h7
    have hc : ¬ nI a0 + nI k ≤ I 67 33 := by rw [h6, nI_add]; exact nI_ge (by omega) (by omega)
    refine w_RM_figures_58 (fun c => absurd c hc) (fun _ => ?_)
    have hb : ∀ {P : PT}, P (some (.int (byt t a))) I J → Ct G d m_RM_byteAt [.ref 67, .int (I 67 33)] P I J := fun h => by rw [h6]; exact md_byteAt hT (by omega) h
    have hu : dg t (m + 1) a x8 = if f_LB_isWithin (byt t a) 48 57 = 0 then (a, x8) else dg t m (a + 1) (10 * x8 + byt t a - 48) := rfl
    rw [hu] at hres
    refine hb (w_RM_figures_77 (fun c => ?_) (fun c1 => hb (w_RM_figures_90 (fun c => ?_) (fun c2 => hb (w_RM_figures_108 ?_)))))
    · rw [if_pos (within_not.mpr (Or.inl c))] at hres
      subst hres
      exact hend I hB h6 h7
    · rw [if_pos (within_not.mpr (Or.inr c))] at hres
      subst hres
      exact hend I hB h6 h7
    · have hw : ¬ f_LB_isWithin (byt t a) 48 57 = 0 := fun h => by rcases within_not.mp h with q | q; (· exact c1 q); (· exact c2 q)
      rw [if_neg hw] at hres
      have hal := dig_lt hw
      have hl := hT.1
      exact ih (a + 1) _ _ (by omega) (by omega) (by omega) hres (hT.of M2.u6) (hB.tr M2.u6) (by rw [u2_s, h6, nI_1]) (by rw [u2_k (by decide)]; exact h7)
theorem md_figures {t : List Int32} {mn : Bool} {k a : Nat} {lo hi : Int32} (hk : k ≤ 4) (ha : a ≤ 100) (hT : TN t I) (h6 : I 67 33 = nI a) (h7 : I 67 34 = -1) (hq : ∀ I', M2 I I' → I' 67 33 = nI (nm t mn k lo hi a).1 → I' 67 34 = (nm t mn k lo hi a).2.2 → P (some (.int (nm t mn k lo hi a).2.1)) I' J) : Ct G (d + 1) m_RM_figures [.ref 67, .int (nI k), .int (if mn then 1 else 0), .int lo, .int hi] P I J := by
  refine Ct.ofGo [some (.ref 67), some (.int (nI k)), some (.int (if mn then 1 else 0)), some (.int lo), some (.int hi), none, none, none, none] (by decide +kernel) rfl (Nat.le_of_ble_eq_true rfl) ?_
  have key : ∀ (tn : Prop) [Decidable tn] (y : Int32), (y = 0 ↔ ¬ tn) → (tn ↔ mn = true ∧ byt t a = 45) → Go G (fr G m_RM_figures (d + 1) P) 28 [some (.ref 67), some (.int (nI k)), none, some (.int lo), some (.int hi), some (.int (nI a)), none, none, none] [.int y] I J := by
    intro tn _ y hy htn
    have enm : nm t mn k lo hi a = ((dg t k (if tn then a + 1 else a) 0).1, (if tn then 0 - (dg t k (if tn then a + 1 else a) 0).2 else (dg t k (if tn then a + 1 else a) 0).2), if (dg t k (if tn then a + 1 else a) 0).1 = (if tn then a + 1 else a) then nI (dg t k (if tn then a + 1 else a) 0).1 else if f_LB_isWithin (if tn then 0 - (dg t k (if tn then a + 1 else a) 0).2 else (dg t k (if tn then a + 1 else a) 0).2) lo hi = 0 then nI a else -1) := by
      unfold nm
      by_cases q : tn
      · simp only [if_pos q, if_pos (htn.mp q)]
      · simp only [if_neg q, if_neg (fun h => q (htn.mpr h))]
    rw [enm] at hq
    dsimp only at hq
    have hff : (if tn then a + 1 else a) ≤ 101 := by split <;> omega
    have hsum : ∀ z : Int32, z = (if tn then 1 else 0) → I 67 33 + z = nI (if tn then a + 1 else a) := by
      intro z hz
      rw [hz, h6]
      by_cases q : tn
      · rw [if_pos q, if_pos q, nI_1]
      · rw [if_neg q, if_neg q]; exact Int32.add_zero _
    have go45 : ∀ z : Int32, z = (if tn then 1 else 0) → Go G (fr G m_RM_figures (d + 1) P) 45 [some (.ref 67), some (.int (nI k)), none, some (.int lo), some (.int hi), some (.int (nI a)), some (.int y), none, none] [.int z, .int (I 67 33), .ref 67] I J := by
      intro z hz
      refine w_RM_figures_45 ?_
      rw [hsum z hz]
      generalize (if tn then a + 1 else a) = f at hq hff
      have hr := dg_rng t k f 0
      have hl := hT.1
      refine mfig_loop (t := t) hk hff (dg t k f 0) (fun I2 g1 g2 g3 => ?_) k f 0 _ (by omega) (by omega) hff rfl (hT.of M2.u6) M2.rf u2_s rfl
      rw [u2_k (by decide), h7] at g3
      have hM : M2 I I2 := M2.u6.tr g1
      have hfin : ∀ v : Int32, v = (if tn then 0 - (dg t k f 0).2 else (dg t k f 0).2) → Go G (fr G m_RM_figures (d + 1) P) 140 [some (.ref 67), none, none, some (.int lo), some (.int hi), some (.int (nI a)), none, some (.int (nI f)), none] [.int v] I2 J := by
        intro v hv
        rw [← hv] at hq
        have heq : (I2 67 33 = nI f) ↔ (dg t k f 0).1 = f := by rw [g2]; exact nI_eq (by omega) (by omega)
        by_cases qe : (dg t k f 0).1 = f
        · rw [if_pos qe] at hq
          refine w_RM_figures_140 (fun c => absurd (heq.mpr qe) c) (fun c => absurd (heq.mpr qe) c) (fun _ => w_RM_figures_179 (hq _ (hM.tr M2.u7) ?_ (by rw [u2_s, g2])))
          rw [u2_k (by decide)]; exact g2
        · rw [if_neg qe] at hq
          by_cases qw : f_LB_isWithin v lo hi = 0
          · rw [if_pos qw] at hq
            refine w_RM_figures_140 (fun _ c => absurd qw c) (fun _ _ => w_RM_figures_179 (hq _ (hM.tr M2.u7) ?_ u2_s)) (fun c => absurd (heq.mp c) qe)
            rw [u2_k (by decide)]; exact g2
          · rw [if_neg qw] at hq
            exact w_RM_figures_140 (fun _ _ => w_RM_figures_179 (hq I2 hM g2 g3)) (fun _ c => absurd c qw) (fun c => absurd (heq.mp c) qe)
      refine w_RM_figures_127 (fun c => hfin _ ?_) (fun c => hfin _ ?_)
      · rw [if_neg (hy.mp c)]
      · rw [if_pos (Decidable.not_not.mp fun q => c (hy.mpr q))]
    refine w_RM_figures_28 (fun c => go45 0 ?_) (fun c => go45 1 ?_)
    · rw [if_neg (hy.mp c)]
    · rw [if_pos (Decidable.not_not.mp fun q => c (hy.mpr q))]
  have hno : ¬ (mn = true ∧ byt t a = 45) → Go G (fr G m_RM_figures (d + 1) P) 27 [some (.ref 67), some (.int (nI k)), none, some (.int lo), some (.int hi), some (.int (I 67 33)), none, none, none] [] I J := fun h => by
    rw [h6]
    exact w_RM_figures_27 (key (mn = true ∧ byt t a = 45) 0 ⟨fun _ => h, fun _ => rfl⟩ Iff.rfl)
  cases mn with
  | false => exact w_RM_figures_0 (fun _ => hno (by simp)) (fun c => absurd rfl c)
  | true =>
    refine w_RM_figures_0 (fun c => absurd c (by decide)) (fun _ => ?_)
    have hb : ∀ {P : PT}, P (some (.int (byt t a))) I J → Ct G d m_RM_byteAt [.ref 67, .int (I 67 33)] P I J := fun h => by rw [h6]; exact md_byteAt hT (by omega) h
    refine hb (w_RM_figures_18 (fun c => hno (fun h => c h.2)) (fun c => ?_))
    rw [h6]
    exact key (true = true ∧ byt t a = 45) 1 ⟨fun h => absurd h (by decide), fun h => absurd ⟨rfl, c⟩ h⟩ Iff.rfl
theorem md_part {t : List Int32} {ps : List BP} {a : Nat} (ha : a ≤ 100) (hT : TN t I) (hb : okB ps) (hB : BPm ps I) (h6 : I 67 33 = nI a) (h7 : I 67 34 = -1) (hq : ∀ I', M3 I I' → I' 67 34 = (prt t ps a).1 → ((prt t ps a).1 = -1 → I' 67 33 = nI (prt t ps a).2.1) → BPm (prt t ps a).2.2 I' → P none I' J) : Ct G (d + 2) m_RM_part [.ref 67] P I J := by
  have hl := hT.1
  have hpl : (ps.length : Int) ≤ 40 := by have := hb.1; have := hb.2; omega
  have hr1 := dg_rng t 2 a 0
  have e1 : (nm t false 2 (loD ps) 39 a).1 = (dg t 2 a 0).1 := by simp [nm]
  have hn1 : (nm t false 2 (loD ps) 39 a).1 ≤ 100 := by rw [e1]; omega
  have hin := nm_in (t := t) (mn := false) (k := 2) (lo := loD ps) (hi := 39) (a := a) (by omega) hl
  unfold prt at hq
  dsimp only at hq
  have main : ∀ y : Int32, y + 1 = loD ps → Go G (fr G m_RM_part (d + 2) P) 22 [some (.ref 67), none, none, none, none, none] [.int y] I J := by
    intro y hy
    refine w_RM_part_22 ?_
    rw [hy]
    refine md_figures (mn := false) (k := 2) (by omega) ha hT h6 h7 (fun I1 g1 g2 g3 => w_RM_part_34 ?_)
    generalize nm t false 2 (loD ps) 39 a = r1 at *
    rw [g2]
    refine md_byteAt (hT.of g1) (by omega) ?_
    have e33 : ∀ (I1 : MI), I1 67 33 = nI r1.1 → (u2 I1 67 33 (I1 67 33 + 1)) 67 33 = nI (r1.1 + 1) := fun I1 h => by rw [u2_s, h, nI_1]
    by_cases c1 : r1.2.2 = -1
    · rw [if_neg (not_not_intro c1)] at hq
      obtain ⟨hin1, hin2⟩ := hin c1
      have hlt : ps.length < 40 := by
        rw [ti_le] at hin1 hin2
        have z : (39 : Int32).toInt = 39 := rfl
        have := hb.1; omega
      rw [c1] at g3
      by_cases c2 : ¬ byt t r1.1 = 61 ∧ ¬ byt t r1.1 = 126
      · rw [if_pos c2] at hq
        refine w_RM_part_43 (fun c => absurd g3 c) (fun _ c => absurd c c2.1) (fun _ _ c => absurd c c2.2) (fun _ _ _ => ?_)
        have hf : (u2 I1 67 34 (I1 67 33)) 67 34 = nI r1.1 := by rw [u2_s, g2]
        have hne : ¬ (u2 I1 67 34 (I1 67 33)) 67 34 = -1 := by rw [hf]; exact nI_ne1 (by omega)
        refine w_RM_part_72 (fun _ => ?_) (fun c => absurd c hne)
        generalize hI2 : u2 (u2 I1 67 34 (I1 67 33)) 67 33 (u2 I1 67 34 (I1 67 33) 67 33 + 1) = I2
        have hM : M2 I I2 := by rw [← hI2]; exact (g1.tr M2.u7).tr M2.u6
        have h2 : I2 67 34 = nI r1.1 := by rw [← hI2, u2_k (by decide)]; exact hf
        have hne2 : ¬ I2 67 34 = -1 := by rw [h2]; exact nI_ne1 (by omega)
        exact w_RM_part_106 (fun _ => w_RM_part_171 (fun _ => hq I2 hM.b3 h2 (fun h => absurd h (nI_ne1 (by omega))) (hB.of hM)) (fun c => absurd c hne2) (fun c => absurd c hne2)) (fun c => absurd c hne2) (fun c => absurd c hne2)
      · rw [if_neg c2] at hq
        have hsl : r1.1 < t.length := by
          by_cases q : byt t r1.1 = 61
          · exact byt_lt q (by decide)
          · exact byt_lt (Decidable.not_not.mp fun q2 => c2 ⟨q, q2⟩) (by decide)
        have go72 : Go G (fr G m_RM_part (d + 2) P) 72 [some (.ref 67), none, some (.int r1.2.1), some (.int (byt t r1.1)), none, none] [] I1 J := by
          refine w_RM_part_72 (fun c => absurd g3 c) (fun _ => ?_)
          refine md_figures (mn := true) (k := 4) (a := r1.1 + 1) (by omega) (by omega) ((hT.of g1).of M2.u6) (e33 I1 g2) (by rw [u2_k (by decide)]; exact g3) (fun I2 k1 k2 k3 => w_RM_part_102 ?_)
          have hM2 : M2 I I2 := (g1.tr M2.u6).tr k1
          have hok2 := nm_ok (t := t) (mn := true) (k := 4) (lo := -1000) (hi := 1000) (a := r1.1 + 1) (by omega) hl
          generalize nm t true 4 (-1000) 1000 (r1.1 + 1) = r2 at *
          by_cases c3 : r2.2.2 = -1
          · rw [if_neg (not_not_intro c3)] at hq
            rw [c3] at k3
            obtain ⟨hk1, hk2⟩ := hok2 c3
            have fin : ∀ (z : Int32) (I3 : MI), M2 I I3 → I3 67 34 = -1 → (∀ I', M3 I I' → I' 67 34 = -1 → I' 67 33 = I3 67 33 → BPm (ps ++ [(r1.2.1, r2.2.1, z)]) I' → P none I' J) → Go G (fr G m_RM_part (d + 2) P) 171 [some (.ref 67), none, some (.int r1.2.1), none, some (.int r2.2.1), some (.int z)] [] I3 J := by
              intro z I3 hb3 h73 hfin
              have hB3 := hB.of hb3
              have e5 : I3 67 35 = nI ps.length := hB3.1
              refine w_RM_part_171 (fun c => absurd h73 c) (fun _ => by rw [e5]; exact vp_in_nI hlt (by omega)) (fun _ => ?_)
              rw [e5, nI_clamp (show ps.length < 2 ^ 31 by omega)]
              refine hfin _ ⟨fun a h1 h2 h3 h4 => by rw [u2_o h1, u2_o h4, u2_o h3, u2_o h2]; exact hb3.1 a h1, fun k h1 h2 h3 => ?_⟩ ?_ ?_ (hB3.push hlt)
              · rw [u2_k h3, u2_o (show (67 : Nat) ≠ 94 by decide), u2_o (show (67 : Nat) ≠ 93 by decide), u2_o (show (67 : Nat) ≠ 92 by decide)]; exact hb3.2 k h1 h2
              · rw [u2_k (by decide), u2_o (show (67 : Nat) ≠ 94 by decide), u2_o (show (67 : Nat) ≠ 93 by decide), u2_o (show (67 : Nat) ≠ 92 by decide)]; exact h73
              · rw [u2_k (by decide), u2_o (show (67 : Nat) ≠ 94 by decide), u2_o (show (67 : Nat) ≠ 93 by decide), u2_o (show (67 : Nat) ≠ 92 by decide)]
            by_cases c4 : byt t r1.1 = 126
            · rw [if_pos c4] at hq
              refine w_RM_part_106 (fun c => absurd k3 c) (fun _ c => absurd c4 c) (fun _ _ => ?_)
              rw [k2]
              refine md_byteAt (hT.of hM2) (by omega) (w_RM_part_133 (fun c5 => ?_) (fun c5 => ?_))
              · rw [if_pos c5] at hq
                have m2 : (u2 I2 67 34 (I2 67 33)) 67 34 = nI r2.1 := by rw [u2_s, k2]
                have hne : ¬ (u2 I2 67 34 (I2 67 33)) 67 34 = -1 := by rw [m2]; exact nI_ne1 (by omega)
                exact w_RM_part_171 (fun _ => hq _ (hM2.tr M2.u7).b3 m2 (fun h => absurd h (nI_ne1 (by omega))) (hB.of (hM2.tr M2.u7))) (fun c => absurd c hne) (fun c => absurd c hne)
              · rw [if_neg (not_not_intro c5)] at hq
                have h2l := byt_lt c5 (by decide)
                refine md_figures (mn := true) (k := 4) (a := r2.1 + 1) (by omega) (by omega) ((hT.of hM2).of M2.u6) (by rw [u2_s, k2, nI_1]) (by rw [u2_k (by decide)]; exact k3) (fun I3 m1 m2 m3 => w_RM_part_158 ?_)
                have hM3 := (hM2.tr M2.u6).tr m1
                generalize nm t true 4 0 1000 (r2.1 + 1) = r3 at *
                by_cases c6 : r3.2.2 = -1
                · rw [if_neg (not_not_intro c6)] at hq
                  rw [c6] at m3
                  exact fin _ I3 hM3 m3 (fun I' n1 n2 n3 n4 => hq I' n1 n2 (fun _ => n3.trans m2) n4)
                · rw [if_pos c6] at hq
                  have hne : ¬ I3 67 34 = -1 := by rw [m3]; exact c6
                  exact w_RM_part_171 (fun _ => hq I3 hM3.b3 m3 (fun h => absurd h c6) (hB.of hM3)) (fun c => absurd c hne) (fun c => absurd c hne)
            · rw [if_neg c4] at hq
              exact w_RM_part_106 (fun c => absurd k3 c) (fun _ _ => fin 0 I2 hM2 k3 (fun I' n1 n2 n3 n4 => hq I' n1 n2 (fun _ => n3.trans k2) n4)) (fun _ c => absurd c c4)
          · rw [if_pos c3] at hq
            have hne : ¬ I2 67 34 = -1 := by rw [k3]; exact c3
            exact w_RM_part_106 (fun _ => w_RM_part_171 (fun _ => hq I2 hM2.b3 k3 (fun h => absurd h c3) (hB.of hM2)) (fun c => absurd c hne) (fun c => absurd c hne)) (fun c => absurd c hne) (fun c => absurd c hne)
        exact w_RM_part_43 (fun c => absurd g3 c) (fun _ _ => go72) (fun _ _ _ => go72) (fun _ q1 q2 => absurd ⟨q1, q2⟩ c2)
    · rw [if_pos c1] at hq
      have hne : ¬ I1 67 34 = -1 := by rw [g3]; exact c1
      refine w_RM_part_43 (fun _ => w_RM_part_72 (fun _ => ?_) (fun c => absurd c hne)) (fun c => absurd c hne) (fun c => absurd c hne) (fun c => absurd c hne)
      generalize hI2 : u2 I1 67 33 (I1 67 33 + 1) = I2
      have hM : M2 I I2 := by rw [← hI2]; exact g1.tr M2.u6
      have h2 : I2 67 34 = r1.2.2 := by rw [← hI2, u2_k (by decide)]; exact g3
      have hne2 : ¬ I2 67 34 = -1 := by rw [h2]; exact c1
      exact w_RM_part_106 (fun _ => w_RM_part_171 (fun _ => hq I2 hM.b3 h2 (fun h => absurd h c1) (hB.of hM)) (fun c => absurd c hne2) (fun c => absurd c hne2)) (fun c => absurd c hne2) (fun c => absurd c hne2)
  refine Ct.ofGo [some (.ref 67), none, none, none, none, none] (by decide +kernel) rfl (Nat.le_of_ble_eq_true rfl) ?_
  by_cases hz : ps.length = 0
  · have h5 : I 67 35 = 0 := by rw [hB.1, hz]; rfl
    have hl0 : loD ps = 0 := by rw [List.length_eq_zero_iff.mp hz]; rfl
    exact w_RM_part_0 (fun c => absurd h5 c) (fun c => absurd h5 c) (fun _ => main (-1) (by rw [hl0]; decide))
  · have h5 : ¬ I 67 35 = 0 := by rw [hB.1]; exact nI_ne0 (by omega) (by omega)
    have hp : I 67 35 - 1 = nI (ps.length - 1) := by rw [hB.1, show ps.length = ps.length - 1 + 1 by omega]; exact nI_pred _
    refine w_RM_part_0 (fun _ => ?_) (fun _ => main _ ?_) (fun c => absurd c h5)
    · rw [hp]; exact vp_in_nI (by omega) (by omega)
    · rw [hp, nI_clamp (show ps.length - 1 < 2 ^ 31 by omega), (hB.2 _ (by omega)).1, ← loD_ne (by omega)]
theorem fnow_loop {t : List Int32} {I0 : MI} (res : Int32 × List BP) (hq : ∀ I', M3 I0 I' → (res.1 = -1 → BPm res.2 I') → P (some (.int res.1)) I' J) : ∀ (n a : Nat) (ps : List BP) (I : MI), ps.length + n = 40 → a ≤ 100 → prs t (n + 1) ps a = res → okB ps → TN t I → M3 I0 I → I 67 34 = (prt t ps a).1 → ((prt t ps a).1 = -1 → I 67 33 = nI (prt t ps a).2.1) → BPm (prt t ps a).2.2 I → Go G (fr G m_RM_faultNow (d + 3) P) 19 [some (.ref 67)] [] I J := by
  intro n
  induction n with
  | zero =>
    intro a ps I h1 h2 hres hb hT hF g2 g3 g4
    have hl := hT.1
    have hne : ¬ (prt t ps a).1 = -1 := by
      intro c1
      have hbo := prt_okB (t := t) (a := a) hb (by omega) hl
      have hn : a ≤ t.length := by
        refine Decidable.byContradiction fun hal => ?_
        unfold prt at c1
        dsimp only at c1
        have hn : ¬ (nm t false 2 (loD ps) 39 a).2.2 = -1 := by
          intro hh
          have := nm_ok (by omega) hl hh
          omega
        rw [if_pos hn] at c1
        exact hn c1
      have := (prt_ok hn hl c1).2.2
      have := hbo.1; have := hbo.2; omega
    unfold prs at hres
    dsimp only at hres
    rw [if_pos hne] at hres
    have hne' : ¬ I 67 34 = -1 := by rw [g2]; exact hne
    refine w_RM_faultNow_19 (fun _ => w_RM_faultNow_81 ?_) (fun c => absurd c hne') (fun c => absurd c hne')
    rw [g2]; subst hres
    exact hq I hF (fun h => absurd h hne)
  | succ n ih =>
    intro a ps I h1 h2 hres hb hT hF g2 g3 g4
    have hl := hT.1
    have hbo := prt_okB (t := t) (a := a) hb (by omega) hl
    unfold prs at hres
    dsimp only at hres
    by_cases c1 : (prt t ps a).1 = -1
    · rw [if_neg (not_not_intro c1)] at hres
      have h61 := g3 c1
      have hokp : (prt t ps a).2.1 ≤ t.length ∧ (prt t ps a).2.2.length = ps.length + 1 := by
        by_cases hal : a ≤ t.length
        · exact (prt_ok hal hl c1).2
        · exfalso
          unfold prt at c1
          dsimp only at c1
          have hn : ¬ (nm t false 2 (loD ps) 39 a).2.2 = -1 := by
            intro hh
            have := nm_ok (by omega) hl hh
            omega
          rw [if_pos hn] at c1
          exact hn c1
      rw [c1] at g2
      generalize prt t ps a = r at *
      have hcmp : (I 67 31 ≤ I 67 33) ↔ t.length ≤ r.2.1 := by rw [h61, hT.2.1]; exact nI_leI (by omega) (by omega)
      by_cases c2 : t.length ≤ r.2.1
      · rw [if_pos c2] at hres
        refine w_RM_faultNow_19 (fun c => absurd g2 c) (fun _ _ => w_RM_faultNow_81 ?_) (fun _ c => absurd (hcmp.mpr c2) c)
        rw [g2]; subst hres
        exact hq I hF (fun _ => g4)
      · rw [if_neg c2] at hres
        refine w_RM_faultNow_19 (fun c => absurd g2 c) (fun _ c => absurd (hcmp.mp c) c2) (fun _ _ => ?_)
        rw [h61]
        refine md_byteAt hT (by omega) ?_
        by_cases c3 : byt t r.2.1 = 59
        · rw [if_neg (not_not_intro c3)] at hres
          refine w_RM_faultNow_46 (fun _ => ?_) (fun c => absurd c3 c)
          refine md_part (t := t) (ps := r.2.2) (a := r.2.1 + 1) (by omega) (hT.of M2.u6) hbo (g4.of M2.u6) (by rw [u2_s, h61, nI_1]) (by rw [u2_k (by decide)]; exact g2) (fun I2 k1 k2 k3 k4 => w_RM_faultNow_78 ?_)
          exact ih (r.2.1 + 1) r.2.2 I2 (by omega) (by omega) hres hbo ((hT.of M2.u6).b3 k1) ((hF.tr M2.u6.b3).tr k1) k2 k3 k4
        · rw [if_pos c3] at hres
          refine w_RM_faultNow_46 (fun c => absurd c c3) (fun _ => ?_)
          rw [h61]; subst hres
          exact hq _ (hF.tr M2.u7.b3) (fun h => absurd h (nI_ne1 (by omega)))
    · rw [if_pos c1] at hres
      have hne : ¬ I 67 34 = -1 := by rw [g2]; exact c1
      refine w_RM_faultNow_19 (fun _ => w_RM_faultNow_81 ?_) (fun c => absurd c hne) (fun c => absurd c hne)
      rw [g2]; subst hres
      exact hq I hF (fun h => absurd h c1)
theorem md_faultNow {t : List Int32} (hT : TN t I) (hq : ∀ I', M3 I I' → ((prs t 41 [] 0).1 = -1 → BPm (prs t 41 [] 0).2 I') → P (some (.int (prs t 41 [] 0).1)) I' J) : Ct G (d + 3) m_RM_faultNow [.ref 67] P I J := by
  refine Ct.ofGo [some (.ref 67)] (by decide +kernel) rfl (Nat.le_of_ble_eq_true rfl) (w_RM_faultNow_0 ?_)
  have hb : M3 I (u2 (u2 (u2 I 67 33 0) 67 34 (-1)) 67 35 0) := ⟨fun a h1 _ _ _ => by rw [u2_o h1, u2_o h1, u2_o h1], fun k h1 h2 h3 => by rw [u2_k h3, u2_k h2, u2_k h1]⟩
  refine md_part (t := t) (ps := []) (a := 0) (by omega) (hT.b3 hb) ⟨by decide, by decide⟩ ⟨by rw [u2_s]; rfl, fun k hk => absurd hk (by simp)⟩ (by rw [u2_k (by decide), u2_k (by decide), u2_s]; rfl) (by rw [u2_k (by decide), u2_s]) (fun I1 g1 g2 g3 g4 => ?_)
  exact fnow_loop (t := t) (prs t 41 [] 0) hq 40 0 [] I1 rfl (by omega) rfl ⟨by decide, by decide⟩ ((hT.b3 hb).b3 g1) (hb.tr g1) g2 g3 g4
theorem RM.tn {st : ST} (h : RM st I J) (hS : okS st) : TN st.2.2.2.1 I := ⟨hS.2.2.2.1.1, h.2.2.2.1.1, h.2.2.2.1.2⟩
theorem M3.km {I I' : MI} {J : MJ} (h : M3 I I') : KM I J I' J := 
  ⟨fun a ha => ⟨h.1 a (by omega) (by omega) (by omega) (by omega), rfl⟩, fun a _ _ => h.1 a (by omega) (by omega) (by omega) (by omega), h.1 91 (by omega) (by omega) (by omega) (by omega), fun a _ _ => h.1 a (by omega) (by omega) (by omega) (by omega), h.2 0 (by omega) (by omega) (by omega), h.2 5 (by omega) (by omega) (by omega), h.2 31 (by omega) (by omega) (by omega), h.2 44 (by omega) (by omega) (by omega)⟩
theorem md_fault {st : ST} (hR : RM st I J) (hS : okS st) (hq : ∀ I', KM I J I' J → P (some (.int (faults st))) I' J) : Ct G (d + 4) m_RM_fault [.ref 67] P I J :=
  Ct.ofGo [some (.ref 67)] (by decide +kernel) rfl (Nat.le_of_ble_eq_true rfl) (w_RM_fault_0 (md_faultNow (hR.tn hS) (fun I' g _ => w_RM_fault_4 (hq I' g.km))))
theorem amt_abs (z : Int32) : Int64.toInt32 (f_RM_amount (Int32.toInt64 z)) = f_JM_abs_I z := by
  unfold f_RM_amount f_JM_abs_I
  have h : (0 : Int64) ≤ z.toInt64 ↔ (0 : Int32) ≤ z := by rw [tl_le, ti_le, ti_64]; exact Iff.rfl
  by_cases q : (0 : Int32) ≤ z
  · rw [if_pos q, if_pos (h.mpr q)]; simp
  · rw [if_neg q, if_neg (fun c => q (h.mp c))]; simp
theorem offon_loop {ps : List BP} {i : Nat} {p : Nat × Int32} (hi : i < 40) (hp40 : ps.length ≤ 40) (hB : BPm ps I) (e2 : I 74 i = nI p.1) (e3 : I 73 i = p.2) (hq : P (some (.int (offV ps p))) I J) : ∀ (m n : Nat) (x2 x3 : Int32), n + m = ps.length → x3 = nI n → x2 = lix ps (nI p.1) n → Go G (fr G m_RM_offOn (d + 1) P) 4 [some (.ref 67), some (.int (nI i)), some (.int x2), some (.int x3)] [] I J := by
  have ei : (nI i).toNatClampNeg = i := nI_clamp (by omega)
  intro m
  induction m with
  | zero =>
    intro n x2 x3 hn hx3 hx2
    subst hx3
    obtain rfl : n = ps.length := by omega
    have hle : I 67 35 ≤ nI ps.length := by rw [hB.1]; exact nI_le (by omega) (by omega)
    unfold offV at hq
    rw [← hx2] at hq
    have hr := lix_rng (ps := ps) (dd := nI p.1) ps.length hp40
    rw [← hx2] at hr
    have hval : ¬ x2 = -1 → ∃ k, k < ps.length ∧ x2 = nI k := fun h => by
      rcases hr with q | q
      · exact absurd q h
      · exact q
    have hmx : ∀ z : Int32, f_JM_max_II 0 z = if 0 ≤ z then z else 0 := by
      intro z
      unfold f_JM_max_II
      by_cases q : (0 : Int32) < z
      · rw [if_pos q, if_pos (Int32.le_of_lt q)]
      · rw [if_neg q]
        by_cases q2 : (0 : Int32) ≤ z
        · rw [if_pos q2]; exact Int32.le_antisymm q2 (Int32.not_lt.mp q)
        · rw [if_neg q2]
    have hv : ¬ x2 = -1 → I 93 x2.toNatClampNeg = (ps.getD x2.toNatClampNeg (0, 0, 0)).2.1 ∧ I 94 x2.toNatClampNeg = (ps.getD x2.toNatClampNeg (0, 0, 0)).2.2 := fun h => by
      obtain ⟨k, hk, e⟩ := hval h
      subst e
      rw [nI_clamp (show k < 2 ^ 31 by omega)]
      exact (hB.2 k hk).2
    refine w_RM_offOn_4 (fun _ _ => vp_in_nI hi (by omega)) (fun _ c => ?_) (fun _ c c2 => ?_) (fun _ c c2 => ?_) (fun _ c => ?_) (fun c => absurd hle c) (fun c => absurd hle c) (fun c => absurd hle c) (fun c => absurd hle c)
    · obtain ⟨k, hk, e⟩ := hval c
      subst e
      exact vp_in_nI (by omega) (by omega)
    · rw [if_neg c, hmx] at hq
      rw [ei, e3, (hv c).1, (hv c).2, amt_abs] at c2 ⊢
      rw [if_pos c2] at hq; exact hq
    · rw [if_neg c, hmx] at hq
      rw [ei, e3, (hv c).1, (hv c).2, amt_abs] at c2
      rw [if_neg c2] at hq; exact hq
    · rw [if_pos c] at hq; exact hq
  | succ m ih =>
    intro n x2 x3 hn hx3 hx2
    subst hx3
    have hc : ¬ I 67 35 ≤ nI n := by rw [hB.1]; exact nI_ge (by omega) (by omega)
    have en : (nI n).toNatClampNeg = n := nI_clamp (by omega)
    have hb := (hB.2 n (by omega)).1
    have hu : lix ps (nI p.1) (n + 1) = if (ps.getD n (0, 0, 0)).1 ≤ nI p.1 then nI n else lix ps (nI p.1) n := rfl
    refine w_RM_offOn_4 (fun c => absurd c hc) (fun c => absurd c hc) (fun c => absurd c hc) (fun c => absurd c hc) (fun c => absurd c hc) (fun _ => vp_in_nI (by omega) (by omega)) (fun _ => vp_in_nI hi (by omega)) (fun _ c => w_RM_offOn_32 (ih (n + 1) _ _ (by omega) (nI_1 n) ?_)) (fun _ c => w_RM_offOn_32 (ih (n + 1) _ _ (by omega) (nI_1 n) ?_))
    · rw [ei, en, e2, hb] at c
      rw [hu, if_neg (Int32.not_le.mpr c)]; exact hx2
    · rw [ei, en, e2, hb] at c
      rw [hu, if_pos (Int32.not_lt.mp c)]
theorem mmiss_loop {ps : List BP} {l : List (Nat × Int32)} {w : Int32} (h40 : l.length ≤ 40) (hp40 : ps.length ≤ 40) (hB : BPm ps I) (hP : QL l I) (hq : P (some (.int (if w = 0 then offS ps l else (offW ps l).1))) I J) : ∀ (m i : Nat) (x3 x4 x5 x6 : Int32), i + m = l.length → x6 = nI i → x3 = offS ps (l.take i) → (x5, x4) = offW ps (l.take i) → Go G (fr G m_RM_missed (d + 4) P) 50 [some (.ref 67), none, some (.int w), some (.int x3), some (.int x4), some (.int x5), some (.int x6), none] [] I J := by
  intro m
  induction m with
  | zero =>
    intro i x3 x4 x5 x6 hi hx6 hx3 hw
    subst hx6; subst hx3
    have hle : I 67 7 ≤ nI i := by rw [hP.1]; exact nI_le (by omega) (by omega)
    rw [List.take_of_length_le (by omega)] at hw ⊢
    rw [← hw] at hq
    refine w_RM_missed_50 (fun _ c => ?_) (fun _ c => ?_) (fun c => absurd hle c)
    · rw [if_neg c] at hq; exact hq
    · rw [if_pos c] at hq; exact hq
  | succ m ih =>
    intro i x3 x4 x5 x6 hi hx6 hx3 hw
    subst hx6; subst hx3
    have hi' : i < l.length := by omega
    have hc : ¬ I 67 7 ≤ nI i := by rw [hP.1]; exact nI_ge (by omega) (by omega)
    have e1 : (nI i).toNatClampNeg = i := nI_clamp (by omega)
    have hst : offW ps (l.take (i + 1)) = (if offV ps (l.getD i (0, 0)) ≤ x4 then (x5, x4) else (nI (l.getD i (0, 0)).1, offV ps (l.getD i (0, 0)))) := by
      rw [takeP_ext hi']
      unfold offW at hw ⊢
      rw [List.foldl_append, ← hw]; rfl
    have hss : offS ps (l.take i) + offV ps (l.getD i (0, 0)) = offS ps (l.take (i + 1)) := by rw [takeP_ext hi']; simp [offS]
    refine w_RM_missed_50 (fun c => absurd c hc) (fun c => absurd c hc) (fun _ => ?_)
    refine Ct.ofGo [some (.ref 67), some (.int (nI i)), none, none] (by decide +kernel) rfl (Nat.le_of_ble_eq_true rfl) (w_RM_offOn_0 (offon_loop (by omega) hp40 hB (hP.2 i hi').2 (hP.2 i hi').1 ?_ ps.length 0 _ _ (Nat.zero_add _) rfl rfl))
    refine w_RM_missed_65 (fun c => w_RM_missed_91 (fun _ => w_RM_missed_107 (ih (i + 1) _ _ _ _ (by omega) (nI_1 i) hss ?_)) (fun c2 => absurd c c2)) (fun _ => vp_in_nI (by omega) (by omega)) (fun c => w_RM_missed_91 (fun c2 => absurd c2 c) (fun _ => w_RM_missed_107 (ih (i + 1) _ _ _ _ (by omega) (nI_1 i) hss ?_)))
    · rw [hst, if_pos c]
    · rw [hst, if_neg c, e1, (hP.2 i hi').2]
theorem md_missed {st : ST} {r w : Int32} (hR : RM st I J) (hS : okS st) (hq : ∀ I', KM I J I' J → P (some (.int (misses st r w))) I' J) : Ct G (d + 4) m_RM_missed [.ref 67, .int r, .int w] P I J := by
  have hbad : (f_LB_isRow r = 0 ∨ f_LB_isWithin w 0 1 = 0) → Go G (fr G m_RM_missed (d + 4) P) 16 [none, none, none, none, none, none, none, none] [] I J := fun hb => by
    refine w_RM_missed_16 ?_
    have e : misses st r w = -2 := by unfold misses; rw [if_pos hb]
    rw [e] at hq; exact hq I KM.rf
  refine Ct.ofGo [some (.ref 67), some (.int r), some (.int w), none, none, none, none, none] (by decide +kernel) rfl (Nat.le_of_ble_eq_true rfl) (w_RM_missed_0 (fun c => hbad (Or.inl c)) (fun c1 c2 => md_faultNow (hR.tn hS) (fun I1 g1 g2 => ?_)) (fun _ c => hbad (Or.inr c)))
  have c1 : ¬ f_LB_isRow r = 0 := c1
  have hnb : ¬ (f_LB_isRow r = 0 ∨ f_LB_isWithin w 0 1 = 0) := by
    rintro (h | h)
    · exact c1 h
    · exact c2 h
  unfold misses at hq
  rw [if_neg hnb] at hq
  obtain ⟨r, hr, rfl⟩ := isRow1 c1
  have e1 : (nI r).toNatClampNeg = r := nI_clamp (by omega)
  rw [e1] at hq
  have hk := g1.km (J := J)
  have hR1 := hR.keep hk
  have hok := ptl_ok hS.1 r st.2.1
  by_cases c3 : (prs st.2.2.2.1 41 [] 0).1 = -1
  · rw [if_neg (show ¬ ¬ faults st = -1 from not_not_intro c3)] at hq
    refine w_RM_missed_23 (fun _ => ?_) (fun c => absurd c3 c)
    rw [hR1.2.1]
    refine md_pointsBy hR1.1 hS.1 (fun I2 k1 _ k3 => w_RM_missed_39 ?_)
    have hb := g2 c3
    have hb2 : BPm (prs st.2.2.2.1 41 [] 0).2 I2 := ⟨by rw [k1.2 35 (by omega)]; exact hb.1, fun k hk => by rw [k1.1 92 (by omega) (by omega) (by omega) (by omega), k1.1 93 (by omega) (by omega) (by omega) (by omega), k1.1 94 (by omega) (by omega) (by omega) (by omega)]; exact hb.2 k hk⟩
    exact mmiss_loop hok.1 (prs_len hS) hb2 k3.ql (hq I2 (hk.tr (k1.km (J := J)))) _ 0 0 0 (-1) 0 (Nat.zero_add _) rfl rfl rfl
  · rw [if_pos (show ¬ faults st = -1 from c3)] at hq
    exact w_RM_missed_23 (fun c => absurd c c3) (fun _ => hq I1 hk)
end
