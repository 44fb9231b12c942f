/-! ===== the text that is told beforehand: how it is read; the class ===== -/
abbrev BP : Type := Int32 × Int32 × Int32
def byt (t : List Int32) (a : Nat) : Int32 := if a < t.length then t.getD a 0 else -1
def dg (t : List Int32) (m a : Nat) (v : Int32) : Nat × Int32 := match m with
  | 0 => (a, v)
  | m + 1 => if f_LB_isWithin (byt t a) 48 57 = 0 then (a, v) else dg t m (a + 1) (10 * v + byt t a - 48)
theorem dig_lt {t : List Int32} {a : Nat} (h : ¬ f_LB_isWithin (byt t a) 48 57 = 0) : a < t.length := by
  refine Decidable.byContradiction fun q => h ?_
  unfold byt; rw [if_neg q]; decide
theorem dg_rng (t : List Int32) : ∀ (m a : Nat) (v : Int32), a ≤ (dg t m a v).1 ∧ ((dg t m a v).1 = a ∨ (dg t m a v).1 ≤ t.length) := by
  intro m
  induction m with
  | zero => intro a v; exact ⟨Nat.le_refl _, Or.inl rfl⟩
  | succ m ih =>
    intro a v
    unfold dg
    split
    · exact ⟨Nat.le_refl _, Or.inl rfl⟩
    · rename_i h
      have hl := dig_lt h
      obtain ⟨h1, h2⟩ := ih (a + 1) (10 * v + byt t a - 48)
      refine ⟨by omega, Or.inr ?_⟩
      rcases h2 with q | q
      · omega
      · exact q
/-- a number from place a on: whether a minus may stand, how many figures, from, to; where it ends, its value, its fault or -1 -/
def nm (t : List Int32) (mn : Bool) (k : Nat) (lo hi : Int32) (a : Nat) : Nat × Int32 × Int32 :=
  let tn := mn = true ∧ byt t a = 45
  let f := if tn then a + 1 else a
  let r := dg t k f 0
  let v := if tn then 0 - r.2 else r.2
  (r.1, v, if r.1 = f then nI r.1 else if f_LB_isWithin v lo hi = 0 then nI a else -1)
def loD (ps : List BP) : Int32 := match ps.getLast? with
  | none => 0
  | some p => p.1 + 1
/-- one part from place a on: its fault or -1, where it ends, the parts -/
def prt (t : List Int32) (ps : List BP) (a : Nat) : Int32 × Nat × List BP :=
  let r1 := nm t false 2 (loD ps) 39 a
  if ¬ r1.2.2 = -1 then (r1.2.2, 0, ps) else
  let sg := byt t r1.1
  if ¬ sg = 61 ∧ ¬ sg = 126 then (nI r1.1, 0, ps) else
  let r2 := nm t true 4 (-1000) 1000 (r1.1 + 1)
  if ¬ r2.2.2 = -1 then (r2.2.2, 0, ps) else
  if sg = 126 then
    (if ¬ byt t r2.1 = 44 then (nI r2.1, 0, ps) else
      let r3 := nm t true 4 0 1000 (r2.1 + 1)
      if ¬ r3.2.2 = -1 then (r3.2.2, 0, ps) else (-1, r3.1, ps ++ [(r1.2.1, r2.2.1, r3.2.1)]))
  else (-1, r2.1, ps ++ [(r1.2.1, r2.2.1, 0)])
def prs (t : List Int32) (n : Nat) (ps : List BP) (a : Nat) : Int32 × List BP := match n with
  | 0 => (-1, ps)
  | n + 1 =>
    let r := prt t ps a
    if ¬ r.1 = -1 then (r.1, r.2.2) else if t.length ≤ r.2.1 then (-1, r.2.2) else if ¬ byt t r.2.1 = 59 then (nI r.2.1, r.2.2) else prs t n r.2.2 (r.2.1 + 1)
theorem nm_ok {t : List Int32} {mn : Bool} {k : Nat} {lo hi : Int32} {a : Nat} (ha : a ≤ 200) (ht : t.length ≤ 100) (h : (nm t mn k lo hi a).2.2 = -1) : a + 1 ≤ (nm t mn k lo hi a).1 ∧ (nm t mn k lo hi a).1 ≤ t.length := by
  unfold nm at h ⊢
  dsimp only at h ⊢
  generalize hf : (if mn = true ∧ byt t a = 45 then a + 1 else a) = f at h ⊢
  have hfa : a ≤ f ∧ f ≤ a + 1 := by rw [← hf]; split <;> omega
  obtain ⟨h1, h2⟩ := dg_rng t k f 0
  by_cases q : (dg t k f 0).1 = f
  · rw [if_pos q] at h
    exact absurd h (nI_ne1 (by omega))
  · rcases h2 with e | e
    · exact absurd e q
    · exact ⟨by omega, e⟩
theorem prt_ok {t : List Int32} {ps : List BP} {a : Nat} (ha : a ≤ t.length) (ht : t.length ≤ 100) (h : (prt t ps a).1 = -1) : a + 3 ≤ (prt t ps a).2.1 ∧ (prt t ps a).2.1 ≤ t.length ∧ (prt t ps a).2.2.length = ps.length + 1 := by
  unfold prt at h ⊢
  dsimp only at h ⊢
  by_cases c1 : (nm t false 2 (loD ps) 39 a).2.2 = -1
  · obtain ⟨g1, g2⟩ := nm_ok (by omega) ht c1
    rw [if_neg (not_not_intro c1)] at h ⊢
    by_cases c2 : ¬ byt t (nm t false 2 (loD ps) 39 a).1 = 61 ∧ ¬ byt t (nm t false 2 (loD ps) 39 a).1 = 126
    · rw [if_pos c2] at h; exact absurd h (nI_ne1 (by omega))
    · rw [if_neg c2] at h ⊢
      by_cases c3 : (nm t true 4 (-1000) 1000 ((nm t false 2 (loD ps) 39 a).1 + 1)).2.2 = -1
      · obtain ⟨g3, g4⟩ := nm_ok (by omega) ht c3
        rw [if_neg (not_not_intro c3)] at h ⊢
        by_cases c4 : byt t (nm t false 2 (loD ps) 39 a).1 = 126
        · rw [if_pos c4] at h ⊢
          by_cases c5 : byt t (nm t true 4 (-1000) 1000 ((nm t false 2 (loD ps) 39 a).1 + 1)).1 = 44
          · rw [if_neg (not_not_intro c5)] at h ⊢
            by_cases c6 : (nm t true 4 0 1000 ((nm t true 4 (-1000) 1000 ((nm t false 2 (loD ps) 39 a).1 + 1)).1 + 1)).2.2 = -1
            · obtain ⟨g5, g6⟩ := nm_ok (by omega) ht c6
              rw [if_neg (not_not_intro c6)] at h ⊢
              exact ⟨by dsimp only; omega, g6, by simp⟩
            · rw [if_pos c6] at h; exact absurd h c6
          · rw [if_pos c5] at h; exact absurd h (nI_ne1 (by omega))
        · rw [if_neg c4] at h ⊢
          exact ⟨by dsimp only; omega, g4, by simp⟩
      · rw [if_pos c3] at h; exact absurd h c3
  · rw [if_pos c1] at h; exact absurd h c1
/-- the class's text, and what it has read -/
def TX (t : List Int32) (I : MI) : Prop := t.length ≤ 100 ∧ I 53 1 = nI t.length ∧ ∀ k, k < t.length → I 54 k = t.getD k 0
def BPs (ps : List BP) (I : MI) : Prop := I 53 5 = nI ps.length ∧ ∀ k, k < ps.length → I 55 k = (ps.getD k (0, 0, 0)).1 ∧ I 56 k = (ps.getD k (0, 0, 0)).2.1 ∧ I 57 k = (ps.getD k (0, 0, 0)).2.2
/-- place and fault alone have changed -/
def B2 (I I' : MI) : Prop := (∀ a, a ≠ 53 → I' a = I a) ∧ ∀ k, k ≠ 6 → k ≠ 7 → I' 53 k = I 53 k
theorem B2.rf {I : MI} : B2 I I := ⟨fun _ _ => rfl, fun _ _ _ => rfl⟩
theorem B2.tr {I I' I'' : MI} (h : B2 I I') (g : B2 I' I'') : B2 I I'' := ⟨fun a ha => (g.1 a ha).trans (h.1 a ha), fun k h6 h7 => (g.2 k h6 h7).trans (h.2 k h6 h7)⟩
theorem B2.u6 {I : MI} {v : Int32} : B2 I (u2 I 53 6 v) := ⟨fun a ha => u2_o ha, fun k h6 _ => u2_k h6⟩
theorem B2.u7 {I : MI} {v : Int32} : B2 I (u2 I 53 7 v) := ⟨fun a ha => u2_o ha, fun k _ h7 => u2_k h7⟩
theorem TX.of {t : List Int32} {I I' : MI} (h : TX t I) (hb : B2 I I') : TX t I' := ⟨h.1, by rw [hb.2 1 (by omega) (by omega)]; exact h.2.1, fun k hk => by rw [hb.1 54 (by decide)]; exact h.2.2 k hk⟩
theorem BPs.of {ps : List BP} {I I' : MI} (h : BPs ps I) (hb : B2 I I') : BPs ps I' := ⟨by rw [hb.2 5 (by omega) (by omega)]; exact h.1, fun k hk => by rw [hb.1 55 (by decide), hb.1 56 (by decide), hb.1 57 (by decide)]; exact h.2 k hk⟩
section
variable {G : GC} {d : Nat} {P : PT} {I : MI} {J : MJ}
theorem sp_byteHere {t : List Int32} {a : Nat} (hT : TX t I) (ha : a ≤ 200) (h6 : I 53 6 = nI a) (hq : P (some (.int (byt t a))) I J) : Ct G d m_BF_byteHere [.ref 53] P I J := by
  have hl := hT.1
  have hcmp : (I 53 1 ≤ I 53 6) ↔ t.length ≤ a := by rw [hT.2.1, h6]; exact nI_leI (by omega) (by omega)
  have ea : (I 53 6).toNatClampNeg = a := by rw [h6]; exact nI_clamp (by omega)
  refine Ct.ofGo [some (.ref 53)] (by decide +kernel) rfl (Nat.le_of_ble_eq_true rfl) (w_BF_byteHere_0 (fun c => ?_) (fun c => ?_) (fun c => ?_))
  · unfold byt at hq; rw [if_neg (Nat.not_lt.mpr (hcmp.mp c))] at hq; exact hq
  · have : a < t.length := Nat.not_le.mp fun q => c (hcmp.mpr q)
    rw [h6]; exact vp_in_nI (by omega) (by omega)
  · have : a < t.length := Nat.not_le.mp fun q => c (hcmp.mpr q)
    unfold byt at hq; rw [if_pos this] at hq
    rw [ea, hT.2.2 a this]; exact hq
theorem fig_loop {t : List Int32} {k : Nat} {I0 : MI} (hk : k ≤ 4) (res : Nat × Int32) (a0 : Nat) (h0 : a0 ≤ 101) (hq : ∀ I', B2 I0 I' → I' 53 6 = nI res.1 → I' 53 7 = (if res.1 = a0 then nI res.1 else I0 53 7) → P (some (.int res.2)) I' J) : ∀ (m a : Nat) (x2 x3 : Int32) (I : MI), a - a0 + m = k → a0 ≤ a → a ≤ 101 → x3 = nI (a - a0) → dg t m a x2 = res → TX t I → B2 I0 I → I 53 6 = nI a → I 53 7 = I0 53 7 → Go G (fr G m_BF_readFigures (d + 1) P) 4 [some (.ref 53), some (.int (nI k)), some (.int x2), some (.int x3)] [] I J := by
  intro m
  have hend : ∀ (a : Nat) (x2 : Int32) (I : MI), a0 ≤ a → a ≤ 101 → (a, x2) = res → B2 I0 I → I 53 6 = nI a → I 53 7 = I0 53 7 → Go G (fr G m_BF_readFigures (d + 1) P) 52 [some (.ref 53), none, some (.int x2), some (.int (nI (a - a0)))] [] I J := by
    intro a x2 I h1 h2 hres hB h6 h7
    subst hres
    dsimp only at hq
    have hz : (nI (a - a0) = 0) ↔ a = a0 := by rw [show (0 : Int32) = nI 0 from rfl, nI_eq (by omega) (by omega)]; omega
    refine w_BF_readFigures_52 (fun c => w_BF_readFigures_64 (hq I hB h6 ?_)) (fun c => w_BF_readFigures_64 (hq _ (hB.tr B2.u7) ?_ ?_))
    · rw [if_neg (fun q => c (hz.mpr q)), h7]
    · rw [u2_k (by decide)]; exact h6
    · rw [u2_s, if_pos (hz.mp c), h6]
  induction m with
  | zero =>
    intro a x2 x3 I h1 h2 h3 hx hres hT hB h6 h7
    subst hx
    have hle : nI k ≤ nI (a - a0) := nI_le (by omega) (by omega)
    exact w_BF_readFigures_4 (fun _ => hend a x2 I h2 h3 hres hB h6 h7) (fun c => absurd hle c)
  | succ m ih =>
    intro a x2 x3 I h1 h2 h3 hx hres hT hB h6 h7
    subst hx
    have hc : ¬ nI k ≤ nI (a - a0) := nI_ge (by omega) (by omega)
    refine w_BF_readFigures_4 (fun c => absurd c hc) (fun _ => sp_byteHere hT (by omega) h6 ?_)
    unfold dg at hres
    refine w_BF_readFigures_13 (fun c => ?_) (fun c => ?_)
    · rw [if_pos c] at hres
      exact hend a x2 I h2 h3 hres hB h6 h7
    · rw [if_neg c] at hres
      have hal := dig_lt c
      have hl := hT.1
      refine sp_byteHere hT (by omega) h6 (w_BF_readFigures_31 ?_)
      refine ih (a + 1) _ _ _ (by omega) (by omega) (by omega) ?_ hres (hT.of B2.u6) (hB.tr B2.u6) (by rw [u2_s, h6, nI_1]) (by rw [u2_k (by decide)]; exact h7)
      rw [nI_1]; congr 1; omega
theorem sp_figs {t : List Int32} {k a : Nat} (hk : k ≤ 4) (ha : a ≤ 101) (hT : TX t I) (h6 : I 53 6 = nI a) (hq : ∀ I', B2 I I' → I' 53 6 = nI (dg t k a 0).1 → I' 53 7 = (if (dg t k a 0).1 = a then nI (dg t k a 0).1 else I 53 7) → P (some (.int (dg t k a 0).2)) I' J) : Ct G (d + 1) m_BF_readFigures [.ref 53, .int (nI k)] P I J :=
  Ct.ofGo [some (.ref 53), some (.int (nI k)), none, none] (by decide +kernel) rfl (Nat.le_of_ble_eq_true rfl) (w_BF_readFigures_0 (fig_loop hk (dg t k a 0) a ha hq k a 0 0 I (by omega) (by omega) (by omega) (by rw [Nat.sub_self]; exact nI_0.symm) rfl hT B2.rf h6 rfl))
theorem sp_number {t : List Int32} {a : Nat} {lo : Int32} (ha : a ≤ 100) (hT : TX t I) (h6 : I 53 6 = nI a) (h7 : I 53 7 = -1) (hq : ∀ I', B2 I I' → I' 53 6 = nI (nm t true 4 lo 1000 a).1 → I' 53 7 = (nm t true 4 lo 1000 a).2.2 → P (some (.int (nm t true 4 lo 1000 a).2.1)) I' J) : Ct G (d + 2) m_BF_readNumber [.ref 53, .int lo] P I J := by
  refine Ct.ofGo [some (.ref 53), some (.int lo), none, none, none, none] (by decide +kernel) rfl (Nat.le_of_ble_eq_true rfl) (w_BF_readNumber_0 (sp_byteHere hT (by omega) h6 ?_))
  rw [h6]
  have key : ∀ (tn : Prop) [Decidable tn] (x3 : Int32) (I1 : MI), (x3 = 0 ↔ ¬ tn) → (tn ↔ byt t a = 45) → B2 I I1 → I1 53 6 = nI (if tn then a + 1 else a) → I1 53 7 = -1 → Go G (fr G m_BF_readNumber (d + 2) P) 34 [some (.ref 53), some (.int lo), some (.int (nI a)), some (.int x3), none, none] [] I1 J := by
    intro tn _ x3 I1 hx htn hB h6' h7'
    have enm : nm t true 4 lo 1000 a = ((dg t 4 (if tn then a + 1 else a) 0).1, (if tn then 0 - (dg t 4 (if tn then a + 1 else a) 0).2 else (dg t 4 (if tn then a + 1 else a) 0).2), if (dg t 4 (if tn then a + 1 else a) 0).1 = (if tn then a + 1 else a) then nI (dg t 4 (if tn then a + 1 else a) 0).1 else if f_LB_isWithin (if tn then 0 - (dg t 4 (if tn then a + 1 else a) 0).2 else (dg t 4 (if tn then a + 1 else a) 0).2) lo 1000 = 0 then nI a else -1) := by
      unfold nm
      by_cases q : tn
      · simp only [true_and, if_pos q, if_pos (htn.mp q)]
      · simp only [true_and, if_neg q, if_neg (fun h => q (htn.mpr h))]
    rw [enm] at hq
    dsimp only at hq
    have hff : (if tn then a + 1 else a) ≤ 101 := by split <;> omega
    generalize (if tn then a + 1 else a) = f at hq h6' hff
    refine w_BF_readNumber_34 (sp_figs (k := 4) (by omega) hff (hT.of hB) h6' (fun I2 g1 g2 g3 => ?_))
    rw [h7'] at g3
    have hB2 := hB.tr g1
    have hfin : ∀ v : Int32, v = (if tn then 0 - (dg t 4 f 0).2 else (dg t 4 f 0).2) → Go G (fr G m_BF_readNumber (d + 2) P) 53 [some (.ref 53), some (.int lo), some (.int (nI a)), none, none, none] [.int v] I2 J := by
      intro v hv
      rw [← hv] at hq
      by_cases qe : (dg t 4 f 0).1 = f
      · rw [if_pos qe] at hq g3
        have hne : ¬ I2 53 7 = -1 := by
          rw [g3]
          refine nI_ne1 ?_
          omega
        exact w_BF_readNumber_53 (fun _ => w_BF_readNumber_80 (hq I2 hB2 g2 g3)) (fun c => absurd c hne) (fun c => absurd c hne)
      · rw [if_neg qe] at hq g3
        by_cases qw : f_LB_isWithin v lo 1000 = 0
        · rw [if_pos qw] at hq
          refine w_BF_readNumber_53 (fun c => absurd g3 c) (fun _ c => absurd qw c) (fun _ _ => w_BF_readNumber_80 (hq _ (hB2.tr B2.u7) ?_ u2_s))
          rw [u2_k (by decide)]; exact g2
        · rw [if_neg qw] at hq
          exact w_BF_readNumber_53 (fun c => absurd g3 c) (fun _ _ => w_BF_readNumber_80 (hq I2 hB2 g2 g3)) (fun _ c => absurd c qw)
    refine w_BF_readNumber_39 (fun c => hfin _ ?_) (fun c => hfin _ ?_)
    · rw [if_neg (hx.mp c)]
    · rw [if_pos (Decidable.not_not.mp fun q => c (hx.mpr q))]
  by_cases q : byt t a = 45
  · refine w_BF_readNumber_9 (fun c => absurd q c) (fun _ => w_BF_readNumber_19 (fun c => absurd c (by decide)) (fun _ => ?_))
    refine key (byt t a = 45) 1 _ ⟨fun h => absurd h (by decide), fun h => absurd q h⟩ Iff.rfl B2.u6 ?_ (by rw [u2_k (by decide)]; exact h7)
    rw [u2_s, h6, nI_1, if_pos q]
  · refine w_BF_readNumber_9 (fun _ => w_BF_readNumber_19 (fun _ => ?_) (fun c => absurd rfl c)) (fun c => absurd c q)
    refine key (byt t a = 45) 0 _ ⟨fun _ => q, fun _ => rfl⟩ Iff.rfl B2.rf ?_ h7
    rw [h6, if_neg q]

theorem nm_in {t : List Int32} {mn : Bool} {k : Nat} {lo hi : Int32} {a : Nat} (ha : a ≤ 200) (ht : t.length ≤ 100) (h : (nm t mn k lo hi a).2.2 = -1) : lo ≤ (nm t mn k lo hi a).2.1 ∧ (nm t mn k lo hi a).2.1 ≤ hi := by
  unfold nm at h ⊢
  dsimp only at h ⊢
  generalize hf : (if mn = true ∧ byt t a = 45 then a + 1 else a) = f at h ⊢
  have hfa : a ≤ f ∧ f ≤ a + 1 := by rw [← hf]; split <;> omega
  by_cases q : (dg t k f 0).1 = f
  · rw [if_pos q] at h
    exact absurd h (nI_ne1 (by omega))
  · rw [if_neg q] at h
    by_cases q2 : f_LB_isWithin (if mn = true ∧ byt t a = 45 then 0 - (dg t k f 0).2 else (dg t k f 0).2) lo hi = 0
    · rw [if_pos q2] at h; exact absurd h (nI_ne1 (by omega))
    · exact isW1.mp q2
def okB (ps : List BP) : Prop := (ps.length : Int) ≤ (loD ps).toInt ∧ (loD ps).toInt ≤ 40
theorem loD_ne {ps : List BP} (h : 0 < ps.length) : loD ps = (ps.getD (ps.length - 1) (0, 0, 0)).1 + 1 := by
  rcases List.eq_nil_or_concat ps with rfl | ⟨l, e, rfl⟩
  · exact absurd h (by decide)
  · simp only [List.concat_eq_append] at h ⊢
    simp [loD]
theorem loD_app (ps : List BP) (p : BP) : loD (ps ++ [p]) = p.1 + 1 := by simp [loD]
theorem okB_app {ps : List BP} {p : BP} (h : okB ps) (h1 : loD ps ≤ p.1) (h2 : p.1 ≤ 39) : okB (ps ++ [p]) := by
  unfold okB at h ⊢
  rw [loD_app, List.length_append]
  rw [ti_le] at h1 h2
  have z : (39 : Int32).toInt = 39 := rfl
  have z1 : (1 : Int32).toInt = 1 := rfl
  have e : (p.1 + 1).toInt = p.1.toInt + 1 := by rw [ti_add (by omega) (by omega), z1]
  rw [e]
  have e2 : ([p] : List BP).length = 1 := rfl
  omega
theorem prt_okB {t : List Int32} {ps : List BP} {a : Nat} (hb : okB ps) (ha : a ≤ 200) (ht : t.length ≤ 100) : okB (prt t ps a).2.2 := by
  unfold prt
  dsimp only
  by_cases c1 : (nm t false 2 (loD ps) 39 a).2.2 = -1
  · obtain ⟨g1, g2⟩ := nm_in (by omega) ht c1
    rw [if_neg (not_not_intro c1)]
    split
    · exact hb
    split
    · exact hb
    split
    · split
      · exact hb
      split
      · exact hb
      · exact okB_app hb g1 g2
    · exact okB_app hb g1 g2
  · rw [if_pos c1]; exact hb
theorem sp_readDay {t : List Int32} {ps : List BP} {a : Nat} (ha : a ≤ 100) (hT : TX t I) (hb : okB ps) (hB : BPs ps I) (h6 : I 53 6 = nI a) (h7 : I 53 7 = -1) (hq : ∀ I', B2 I I' → I' 53 6 = nI (nm t false 2 (loD ps) 39 a).1 → I' 53 7 = (nm t false 2 (loD ps) 39 a).2.2 → P (some (.int (nm t false 2 (loD ps) 39 a).2.1)) I' J) : Ct G (d + 2) m_BF_readDay [.ref 53] P I J := by
  have e : nm t false 2 (loD ps) 39 a = ((dg t 2 a 0).1, (dg t 2 a 0).2, if (dg t 2 a 0).1 = a then nI (dg t 2 a 0).1 else if f_LB_isWithin (dg t 2 a 0).2 (loD ps) 39 = 0 then nI a else -1) := by simp [nm]
  rw [e] at hq
  dsimp only at hq
  have hpl : (ps.length : Int) ≤ 40 := by have := hb.1; have := hb.2; omega
  refine Ct.ofGo [some (.ref 53), none, none, none] (by decide +kernel) rfl (Nat.le_of_ble_eq_true rfl) (w_BF_readDay_0 (sp_figs (k := 2) (by omega) (by omega) hT h6 (fun I1 g1 g2 g3 => ?_)))
  rw [h6]
  rw [h7] at g3
  have hB1 := hB.of g1
  have hfin : Go G (fr G m_BF_readDay (d + 2) P) 35 [some (.ref 53), some (.int (nI a)), some (.int (dg t 2 a 0).2), none] [.int (loD ps)] I1 J := by
    by_cases qe : (dg t 2 a 0).1 = a
    · rw [if_pos qe] at hq g3
      have hne : ¬ I1 53 7 = -1 := by rw [g3]; exact nI_ne1 (by omega)
      exact w_BF_readDay_35 (fun _ => w_BF_readDay_59 (hq I1 g1 g2 g3)) (fun c => absurd c hne) (fun c => absurd c hne)
    · rw [if_neg qe] at hq g3
      by_cases qw : f_LB_isWithin (dg t 2 a 0).2 (loD ps) 39 = 0
      · rw [if_pos qw] at hq
        refine w_BF_readDay_35 (fun c => absurd g3 c) (fun _ c => absurd qw c) (fun _ _ => w_BF_readDay_59 (hq _ (g1.tr B2.u7) ?_ u2_s))
        rw [u2_k (by decide)]; exact g2
      · rw [if_neg qw] at hq
        exact w_BF_readDay_35 (fun c => absurd g3 c) (fun _ _ => w_BF_readDay_59 (hq I1 g1 g2 g3)) (fun _ c => absurd c qw)
  by_cases hz : ps.length = 0
  · have h5 : I1 53 5 = 0 := by rw [hB1.1, hz]; rfl
    have hl : loD ps = 0 := by rw [List.length_eq_zero_iff.mp hz]; rfl
    rw [hl] at hfin
    exact w_BF_readDay_10 (fun c => absurd h5 c) (fun c => absurd h5 c) (fun _ => hfin)
  · have h5 : ¬ I1 53 5 = 0 := by rw [hB1.1]; exact nI_ne0 (by omega) (by omega)
    have hp : I1 53 5 - 1 = nI (ps.length - 1) := by rw [hB1.1, show ps.length = ps.length - 1 + 1 by omega]; exact nI_pred _
    refine w_BF_readDay_10 (fun _ => ?_) (fun _ => ?_) (fun c => absurd c h5)
    · rw [hp]; exact vp_in_nI (by omega) (by omega)
    · rw [hp, nI_clamp (show ps.length - 1 < 2 ^ 31 by omega), (hB1.2 _ (by omega)).1, ← loD_ne (by omega)]; exact hfin
/-- what reading parts may change -/
def B3 (I I' : MI) : Prop := (∀ a, a ≠ 53 → a ≠ 55 → a ≠ 56 → a ≠ 57 → I' a = I a) ∧ ∀ k, k ≠ 5 → k ≠ 6 → k ≠ 7 → I' 53 k = I 53 k
theorem B3.rf {I : MI} : B3 I I := ⟨fun _ _ _ _ _ => rfl, fun _ _ _ _ => rfl⟩
theorem B3.tr {I I' I'' : MI} (h : B3 I I') (g : B3 I' I'') : B3 I I'' := ⟨fun a h1 h2 h3 h4 => (g.1 a h1 h2 h3 h4).trans (h.1 a h1 h2 h3 h4), fun k h5 h6 h7 => (g.2 k h5 h6 h7).trans (h.2 k h5 h6 h7)⟩
theorem B2.b3 {I I' : MI} (h : B2 I I') : B3 I I' := ⟨fun a h1 _ _ _ => h.1 a h1, fun k _ h6 h7 => h.2 k h6 h7⟩
theorem TX.b3 {t : List Int32} {I I' : MI} (h : TX t I) (hb : B3 I I') : TX t I' := ⟨h.1, by rw [hb.2 1 (by omega) (by omega) (by omega)]; exact h.2.1, fun k hk => by rw [hb.1 54 (by decide) (by decide) (by decide) (by decide)]; exact h.2.2 k hk⟩
theorem getD_appB {ps : List BP} {p : BP} {k : Nat} : (ps ++ [p]).getD k (0, 0, 0) = if k < ps.length then ps.getD k (0, 0, 0) else if k = ps.length then p else (0, 0, 0) := by
  by_cases h : k < ps.length
  · rw [if_pos h, getD_app1 h]
  · rw [if_neg h]
    by_cases h2 : k = ps.length
    · rw [if_pos h2, h2, getD_app2]
    · rw [if_neg h2]
      simp [List.getD_eq_getElem?_getD, List.getElem?_append_right (Nat.le_of_not_lt h), show k - ps.length ≠ 0 by omega]
theorem BPs.push {ps : List BP} {I : MI} {x y z : Int32} (h : BPs ps I) (hl : ps.length < 40) : BPs (ps ++ [(x, y, z)]) (u2 (u2 (u2 (u2 I 55 ps.length x) 56 ps.length y) 57 ps.length z) 53 5 (nI ps.length + 1)) := by
  refine ⟨by rw [u2_s, List.length_append]; exact nI_1 _, fun k hk => ?_⟩
  rw [List.length_append] at hk
  have hk' : k < ps.length + 1 := hk
  rw [getD_appB]
  rw [u2_o (show (55 : Nat) ≠ 53 by decide), u2_o (show (55 : Nat) ≠ 57 by decide), u2_o (show (55 : Nat) ≠ 56 by decide), u2_o (show (56 : Nat) ≠ 53 by decide), u2_o (show (56 : Nat) ≠ 57 by decide), u2_o (show (57 : Nat) ≠ 53 by decide)]
  by_cases q : k = ps.length
  · subst q; rw [u2_s, u2_s, u2_s, if_neg (Nat.lt_irrefl _), if_pos rfl]; exact ⟨rfl, rfl, rfl⟩
  · rw [u2_k q, u2_k q, u2_k q, if_pos (by omega), u2_o (show (57 : Nat) ≠ 56 by decide), u2_o (show (56 : Nat) ≠ 55 by decide), u2_o (show (57 : Nat) ≠ 55 by decide)]
    exact h.2 k (by omega)
theorem byt_lt {t : List Int32} {a : Nat} {b : Int32} (h : byt t a = b) (hb : ¬ b = -1) : a < t.length := by
  refine Decidable.byContradiction fun q => hb ?_
  rw [← h]; unfold byt; rw [if_neg q]
theorem sp_readSpread {t : List Int32} {a : Nat} (ha : a ≤ 100) (hT : TX t I) (h6 : I 53 6 = nI a) (h7 : I 53 7 = -1) (hq1 : ¬ byt t a = 44 → ∀ I', B2 I I' → I' 53 7 = nI a → P (some (.int 0)) I' J) (hq2 : byt t a = 44 → ∀ I', B2 I I' → I' 53 6 = nI (nm t true 4 0 1000 (a + 1)).1 → I' 53 7 = (nm t true 4 0 1000 (a + 1)).2.2 → P (some (.int (nm t true 4 0 1000 (a + 1)).2.1)) I' J) : Ct G (d + 3) m_BF_readSpread [.ref 53] P I J := by
  refine Ct.ofGo [some (.ref 53)] (by decide +kernel) rfl (Nat.le_of_ble_eq_true rfl) (w_BF_readSpread_0 (fun c => absurd h7 c) (fun _ => sp_byteHere hT (by omega) h6 ?_))
  refine w_BF_readSpread_12 (fun c => ?_) (fun c => ?_)
  · have hlt := byt_lt c (by decide)
    have hl := hT.1
    refine w_BF_readSpread_25 (fun _ => ?_) (fun c => absurd h7 c)
    refine sp_number (by omega) (hT.of B2.u6) (by rw [u2_s, h6, nI_1]) (by rw [u2_k (by decide)]; exact h7) (fun I' g1 g2 g3 => w_BF_readSpread_50 (hq2 c I' (B2.u6.tr g1) g2 g3))
  · have hne : ¬ (u2 I 53 7 (I 53 6)) 53 7 = -1 := by rw [u2_s, h6]; exact nI_ne1 (by omega)
    exact w_BF_readSpread_25 (fun c => absurd c hne) (fun _ => hq1 c _ B2.u7 (by rw [u2_s, h6]))
theorem sp_readPart {t : List Int32} {ps : List BP} {a : Nat} (ha : a ≤ 100) (hT : TX t I) (hb : okB ps) (hB : BPs ps I) (h6 : I 53 6 = nI a) (h7 : I 53 7 = -1) (hq : ∀ I', B3 I I' → I' 53 7 = (prt t ps a).1 → ((prt t ps a).1 = -1 → I' 53 6 = nI (prt t ps a).2.1) → BPs (prt t ps a).2.2 I' → P none I' J) : Ct G (d + 4) m_BF_readPart [.ref 53] P I J := by
  have hl := hT.1
  have hpl : (ps.length : Int) ≤ 40 := by have := hb.1; have := hb.2; omega
  refine Ct.ofGo [some (.ref 53), none, none, none, none] (by decide +kernel) rfl (Nat.le_of_ble_eq_true rfl) (w_BF_readPart_0 (sp_readDay ha hT hb hB h6 h7 (fun I1 g1 g2 g3 => w_BF_readPart_4 ?_)))
  have hr1 := dg_rng t 2 a 0
  have e1 : (nm t false 2 (loD ps) 39 a).1 = (dg t 2 a 0).1 := by simp [nm]
  have hn1 : (nm t false 2 (loD ps) 39 a).1 ≤ 100 := by rw [e1]; omega
  have hin := nm_in (t := t) (mn := false) (k := 2) (lo := loD ps) (hi := 39) (a := a) (by omega) hl
  unfold prt at hq
  dsimp only at hq
  generalize nm t false 2 (loD ps) 39 a = r1 at *
  refine sp_byteHere (hT.of g1) (by omega) g2 ?_
  by_cases c1 : r1.2.2 = -1
  · rw [if_neg (not_not_intro c1)] at hq
    obtain ⟨hin1, hin2⟩ := hin c1
    have hlt : ps.length < 40 := by
      rw [ti_le] at hin1 hin2
      have z : (39 : Int32).toInt = 39 := rfl
      have := hb.1; omega
    rw [c1] at g3
    by_cases c2 : ¬ byt t r1.1 = 61 ∧ ¬ byt t r1.1 = 126
    · rw [if_pos c2] at hq
      refine w_BF_readPart_9 (fun c => absurd g3 c) (fun _ c => absurd c c2.1) (fun _ _ c => absurd c c2.2) (fun _ _ _ => ?_)
      have hne : ¬ (u2 I1 53 7 (I1 53 6)) 53 7 = -1 := by rw [u2_s, g2]; exact nI_ne1 (by omega)
      exact w_BF_readPart_38 (fun c => absurd c hne) (fun _ => hq _ (g1.tr B2.u7).b3 (by rw [u2_s, g2]) (fun h => absurd h (nI_ne1 (by omega))) (hB.of (g1.tr B2.u7)))
    · rw [if_neg c2] at hq
      have hsl : r1.1 < t.length := by
        by_cases q : byt t r1.1 = 61
        · exact byt_lt q (by decide)
        · exact byt_lt (Decidable.not_not.mp fun q2 => c2 ⟨q, q2⟩) (by decide)
      have go38 : Go G (fr G m_BF_readPart (d + 4) P) 38 [some (.ref 53), some (.int r1.2.1), some (.int (byt t r1.1)), none, none] [] I1 J := by
        refine w_BF_readPart_38 (fun _ => ?_) (fun c => absurd g3 c)
        refine sp_number (a := r1.1 + 1) (by omega) ((hT.of g1).of B2.u6) (by rw [u2_s, g2, nI_1]) (by rw [u2_k (by decide)]; exact g3) (fun I2 k1 k2 k3 => ?_)
        have hB2 : B2 I I2 := (g1.tr B2.u6).tr k1
        have hok2 := nm_ok (t := t) (mn := true) (k := 4) (lo := -1000) (hi := 1000) (a := r1.1 + 1) (by omega) hl
        generalize nm t true 4 (-1000) 1000 (r1.1 + 1) = r2 at *
        by_cases c3 : r2.2.2 = -1
        · rw [if_neg (not_not_intro c3)] at hq
          rw [c3] at k3
          obtain ⟨hk1, hk2⟩ := hok2 c3
          have fin : ∀ (z : Int32) (I3 : MI), B2 I I3 → I3 53 7 = -1 → (∀ I', B3 I I' → I' 53 7 = -1 → I' 53 6 = I3 53 6 → BPs (ps ++ [(r1.2.1, r2.2.1, z)]) I' → P none I' J) → Go G (fr G m_BF_readPart (d + 4) P) 79 [some (.ref 53), some (.int r1.2.1), none, some (.int r2.2.1), none] [.int z] I3 J := by
            intro z I3 hb3 h73 hfin
            have hB3 := hB.of hb3
            have e5 : I3 53 5 = nI ps.length := hB3.1
            have hlt5 : I3 53 5 < 40 := by rw [e5]; exact nI_lt (b := 40) hlt (by omega)
            refine w_BF_readPart_79 (fun c => absurd h73 c) (fun _ _ => by rw [e5]; exact vp_in_nI hlt (by omega)) (fun _ _ => ?_) (fun _ c => absurd hlt5 c)
            rw [e5, nI_clamp (show ps.length < 2 ^ 31 by omega)]
            refine hfin _ ⟨fun a h1 h2 h3 h4 => by rw [u2_o h1, u2_o h4, u2_o h3, u2_o h2]; exact hb3.1 a h1, fun k h1 h2 h3 => ?_⟩ ?_ ?_ (hB3.push hlt)
            · rw [u2_k h1, u2_o (show (53 : Nat) ≠ 57 by decide), u2_o (show (53 : Nat) ≠ 56 by decide), u2_o (show (53 : Nat) ≠ 55 by decide)]; exact hb3.2 k h2 h3
            · rw [u2_k (by decide), u2_o (show (53 : Nat) ≠ 57 by decide), u2_o (show (53 : Nat) ≠ 56 by decide), u2_o (show (53 : Nat) ≠ 55 by decide)]; exact h73
            · rw [u2_k (by decide), u2_o (show (53 : Nat) ≠ 57 by decide), u2_o (show (53 : Nat) ≠ 56 by decide), u2_o (show (53 : Nat) ≠ 55 by decide)]
          by_cases c4 : byt t r1.1 = 126
          · rw [if_pos c4] at hq
            refine w_BF_readPart_64 (fun c => absurd c4 c) (fun _ => sp_readSpread (by omega) (hT.of hB2) k2 k3 (fun c5 I3 m1 m2 => ?_) (fun c5 I3 m1 m2 m3 => ?_))
            · rw [if_pos c5] at hq
              have hne : ¬ I3 53 7 = -1 := by rw [m2]; exact nI_ne1 (by omega)
              exact w_BF_readPart_75 (w_BF_readPart_79 (fun _ => hq I3 (hB2.tr m1).b3 m2 (fun h => absurd h (nI_ne1 (by omega))) (hB.of (hB2.tr m1))) (fun c => absurd c hne) (fun c => absurd c hne) (fun c => absurd c hne))
            · rw [if_neg (not_not_intro c5)] at hq
              generalize nm t true 4 0 1000 (r2.1 + 1) = r3 at *
              by_cases c6 : r3.2.2 = -1
              · rw [if_neg (not_not_intro c6)] at hq
                rw [c6] at m3
                exact w_BF_readPart_75 (fin _ I3 (hB2.tr m1) m3 (fun I' n1 n2 n3 n4 => hq I' n1 n2 (fun _ => n3.trans m2) n4))
              · rw [if_pos c6] at hq
                have hne : ¬ I3 53 7 = -1 := by rw [m3]; exact c6
                exact w_BF_readPart_75 (w_BF_readPart_79 (fun _ => hq I3 (hB2.tr m1).b3 m3 (fun h => absurd h c6) (hB.of (hB2.tr m1))) (fun c => absurd c hne) (fun c => absurd c hne) (fun c => absurd c hne))
          · rw [if_neg c4] at hq
            exact w_BF_readPart_64 (fun _ => fin 0 I2 hB2 k3 (fun I' n1 n2 n3 n4 => hq I' n1 n2 (fun _ => n3.trans k2) n4)) (fun c => absurd c c4)
        · rw [if_pos c3] at hq
          have hne : ¬ I2 53 7 = -1 := by rw [k3]; exact c3
          have hend : ∀ (z : Int32) (I3 : MI), I3 = I2 → Go G (fr G m_BF_readPart (d + 4) P) 79 [some (.ref 53), some (.int r1.2.1), none, some (.int r2.2.1), none] [.int z] I3 J := by
            intro z I3 e3
            subst e3
            exact w_BF_readPart_79 (fun _ => hq I3 hB2.b3 k3 (fun h => absurd h c3) (hB.of hB2)) (fun c => absurd c hne) (fun c => absurd c hne) (fun c => absurd c hne)
          refine w_BF_readPart_64 (fun _ => hend 0 I2 rfl) (fun _ => Ct.ofGo [some (.ref 53)] (by decide +kernel) rfl (Nat.le_of_ble_eq_true rfl) (w_BF_readSpread_0 (fun _ => w_BF_readSpread_25 (fun c => absurd c hne) (fun _ => ?_)) (fun c => absurd c hne)))
          exact w_BF_readPart_75 (hend 0 I2 rfl)
      exact w_BF_readPart_9 (fun c => absurd g3 c) (fun _ _ => go38) (fun _ _ _ => go38) (fun _ q1 q2 => absurd ⟨q1, q2⟩ c2)
  · rw [if_pos c1] at hq
    have hne : ¬ I1 53 7 = -1 := by rw [g3]; exact c1
    exact w_BF_readPart_9 (fun _ => w_BF_readPart_38 (fun c => absurd c hne) (fun _ => hq I1 g1.b3 g3 (fun h => absurd h c1) (hB.of g1))) (fun c => absurd c hne) (fun c => absurd c hne) (fun c => absurd c hne)
theorem text_loop {t : List Int32} {I0 : MI} (res : Int32 × List BP) (hq : ∀ I', B3 I0 I' → (res.1 = -1 → BPs res.2 I') → P (some (.int res.1)) I' J) : ∀ (n a : Nat) (ps : List BP) (x1 : Int32) (I : MI), ps.length + n = 41 → a ≤ 100 → prs t n ps a = res → okB ps → TX t I → BPs ps I → B3 I0 I → I 53 6 = nI a → I 53 7 = -1 → x1 = nI ps.length → Go G (fr G m_BF_readText (d + 5) P) 17 [some (.ref 53), some (.int x1)] [] I J := by
  intro n
  induction n with
  | zero =>
    intro a ps x1 I h1 _ _ hb
    have := hb.1; have := hb.2; omega
  | succ n ih =>
    intro a ps x1 I h1 h2 hres hb hT hB hF h6 h7 hx
    subst hx
    have hl := hT.1
    have hpl : (ps.length : Int) ≤ 40 := by have := hb.1; have := hb.2; omega
    have hc : ¬ (40 : Int32) < nI ps.length := nI_nlt (a := 40) (by omega) (by omega)
    refine w_BF_readText_17 (fun c => absurd c hc) (fun _ => sp_readPart h2 hT hb hB h6 h7 (fun I1 g1 g2 g3 g4 => ?_))
    unfold prs at hres
    dsimp only at hres
    have hbo := prt_okB (t := t) (a := a) hb (by omega) hl
    have hF1 := hF.tr g1
    have hT1 := hT.b3 g1
    by_cases c1 : (prt t ps a).1 = -1
    · rw [if_neg (not_not_intro c1)] at hres
      have g3 := g3 c1
      have h61 : I1 53 6 = nI (prt t ps a).2.1 := g3
      have hokp : (prt t ps a).2.1 ≤ t.length ∧ (prt t ps a).2.2.length = ps.length + 1 := by
        by_cases hal : a ≤ t.length
        · exact (prt_ok hal hl c1).2
        · exfalso
          unfold prt at c1
          dsimp only at c1
          have hn : ¬ (nm t false 2 (loD ps) 39 a).2.2 = -1 := by
            intro hh
            have := nm_ok (by omega) hl hh
            omega
          rw [if_pos hn] at c1
          exact hn c1
      rw [c1] at g2
      generalize prt t ps a = r at *
      have hcmp : (I1 53 6 < I1 53 1) ↔ r.2.1 < t.length := by rw [h61, hT1.2.1]; exact nI_ltI (by omega) (by omega)
      by_cases c2 : t.length ≤ r.2.1
      · rw [if_pos c2] at hres
        refine w_BF_readText_27 (fun c => absurd g2 c) (fun _ c => absurd (hcmp.mp c) (by omega)) (fun _ _ => w_BF_readText_46 ?_)
        rw [g2]; subst hres
        exact hq I1 hF1 (fun _ => g4)
      · rw [if_neg c2] at hres
        refine w_BF_readText_27 (fun c => absurd g2 c) (fun _ _ => sp_byteHere hT1 (by omega) h61 ?_) (fun _ c => absurd (hcmp.mpr (by omega)) c)
        by_cases c3 : byt t r.2.1 = 59
        · rw [if_neg (not_not_intro c3)] at hres
          refine w_BF_readText_55 (fun _ => ?_) (fun c => absurd c3 c)
          refine ih (r.2.1 + 1) r.2.2 _ _ (by omega) (by omega) hres hbo (hT1.of B2.u6) (g4.of B2.u6) (hF1.tr B2.u6.b3) (by rw [u2_s, h61, nI_1]) (by rw [u2_k (by decide)]; exact g2) (by rw [hokp.2]; exact nI_1 _)
        · rw [if_pos c3] at hres
          refine w_BF_readText_55 (fun c => absurd c c3) (fun _ => ?_)
          rw [h61]; subst hres
          exact hq I1 hF1 (fun h => absurd h (nI_ne1 (by omega)))
    · rw [if_pos c1] at hres
      have hne : ¬ I1 53 7 = -1 := by rw [g2]; exact c1
      refine w_BF_readText_27 (fun _ => w_BF_readText_46 ?_) (fun c => absurd c hne) (fun c => absurd c hne)
      rw [g2]; subst hres
      exact hq I1 hF1 (fun h => absurd h c1)
theorem sp_readText {t : List Int32} (hT : TX t I) (hq : ∀ I', B3 I I' → ((prs t 41 [] 0).1 = -1 → BPs (prs t 41 [] 0).2 I') → P (some (.int (prs t 41 [] 0).1)) I' J) : Ct G (d + 5) m_BF_readText [.ref 53] P I J := by
  refine Ct.ofGo [some (.ref 53), none] (by decide +kernel) rfl (Nat.le_of_ble_eq_true rfl) (w_BF_readText_0 ?_)
  have hb : B3 I (u2 (u2 (u2 I 53 6 0) 53 5 0) 53 7 (-1)) := ⟨fun a h1 _ _ _ => by rw [u2_o h1, u2_o h1, u2_o h1], fun k h1 h2 h3 => by rw [u2_k h3, u2_k h1, u2_k h2]⟩
  refine text_loop (t := t) (prs t 41 [] 0) hq 41 0 [] 0 _ rfl (by omega) rfl ⟨by decide, by decide⟩ (hT.b3 hb) ⟨by rw [u2_k (by decide), u2_s]; rfl, fun k hk => absurd hk (by simp)⟩ hb (by rw [u2_k (by decide), u2_k (by decide), u2_s]; rfl) u2_s rfl
theorem RC.tx {st : ST} (h : RC st I J) (hS : okS st) : TX st.2.2.2.1 I := ⟨hS.2.2.2.1.1, h.2.2.2.2.1.1, h.2.2.2.2.1.2⟩
theorem B3.kc {I I' : MI} {J : MJ} (h : B3 I I') : KC I J I' J := by
  refine ⟨fun a ha => ?_, h.2 1 (by omega) (by omega) (by omega), rfl, rfl, fun _ _ => rfl⟩
  unfold lasts at ha
  exact h.1 a (by omega) (by omega) (by omega) (by omega)
def faults (st : ST) : Int32 := (prs st.2.2.2.1 41 [] 0).1
theorem cl_fault {st : ST} (hR : RC st I J) (hS : okS st) (hq : ∀ I', KC I J I' J → P (some (.int (faults st))) I' J) : Ct G (d + 6) m_LB_fault [.ref 0] P I J :=
  Ct.ofGo [some (.ref 0)] (by decide +kernel) rfl (Nat.le_of_ble_eq_true rfl) (w_LB_fault_0 (sp_readText (hR.tx hS) (fun I' g _ => w_LB_fault_7 (hq I' g.kc))))
/-- the last of the first n parts whose day has come -/
def lix (ps : List BP) (dd : Int32) (n : Nat) : Int32 := match n with
  | 0 => -1
  | n + 1 => if (ps.getD n (0, 0, 0)).1 ≤ dd then nI n else lix ps dd n
theorem lix_rng {ps : List BP} {dd : Int32} : ∀ n, n ≤ 40 → lix ps dd n = -1 ∨ ∃ k, k < n ∧ lix ps dd n = nI k := by
  intro n
  induction n with
  | zero => intro _; exact Or.inl rfl
  | succ n ih =>
    intro hn
    unfold lix
    split
    · exact Or.inr ⟨n, by omega, rfl⟩
    · rcases ih (by omega) with h | ⟨k, h1, h2⟩
      · exact Or.inl h
      · exact Or.inr ⟨k, by omega, h2⟩
def offV (ps : List BP) (p : Nat × Int32) : Int32 :=
  if lix ps (nI p.1) ps.length = -1 then 0 else f_JM_max_II 0 (f_JM_abs_I (p.2 - (ps.getD (lix ps (nI p.1) ps.length).toNatClampNeg (0, 0, 0)).2.1) - (ps.getD (lix ps (nI p.1) ps.length).toNatClampNeg (0, 0, 0)).2.2)
def offS (ps : List BP) (l : List (Nat × Int32)) : Int32 := l.foldl (fun s p => s + offV ps p) 0
def offW (ps : List BP) (l : List (Nat × Int32)) : Int32 × Int32 := l.foldl (fun s p => if offV ps p ≤ s.2 then s else (nI p.1, offV ps p)) (-1, 0)
theorem offat_loop {ps : List BP} {o i : Nat} {p : Nat × Int32} (h0 : PtsAt o) (hi : i < 40) (hp40 : ps.length ≤ 40) (hB : BPs ps I) (e2 : I (o + 2) i = nI p.1) (e3 : I (o + 3) i = p.2) (hq : P (some (.int (offV ps p))) I J) : ∀ (n : Nat) (x3 : Int32), n ≤ ps.length → x3 = nI n - 1 → lix ps (nI p.1) n = lix ps (nI p.1) ps.length → Go G (fr G m_BF_offAt (d + 1) P) 7 [some (.ref 53), some (.ref o), some (.int (nI i)), some (.int x3)] [] I J := by
  have ei : (nI i).toNatClampNeg = i := nI_clamp (by omega)
  intro n
  induction n with
  | zero =>
    intro x3 hn hx hl
    have h0' : nI 0 - 1 < 0 := by decide
    have h1' : ¬ 0 ≤ nI 0 - 1 := by decide
    subst hx
    have e : offV ps p = 0 := by unfold offV; rw [← hl]; exact if_pos rfl
    rw [e] at hq
    exact w_BF_offAt_7 h0 (fun _ => w_BF_offAt_32 h0 (fun c => absurd c h1') (fun c => absurd c h1') (fun c => absurd c h1') (fun _ => hq)) (fun c => absurd h0' c) (fun c => absurd h0' c) (fun c => absurd h0' c) (fun c => absurd h0' c)
  | succ n ih =>
    intro x3 hn hx hl
    rw [nI_pred n] at hx
    subst hx
    have h9 : ¬ nI n < 0 := nI_pos (by omega)
    have h10 : 0 ≤ nI n := Int32.not_lt.mp h9
    have en : (nI n).toNatClampNeg = n := nI_clamp (by omega)
    have hb := hB.2 n (by omega)
    have hu : lix ps (nI p.1) (n + 1) = if (ps.getD n (0, 0, 0)).1 ≤ nI p.1 then nI n else lix ps (nI p.1) n := rfl
    rw [hu] at hl
    refine w_BF_offAt_7 h0 (fun c => absurd c h9) (fun _ => vp_in_nI (by omega) (by omega)) (fun _ => vp_in_nI hi (by omega)) (fun _ c => ?_) (fun _ c => ?_)
    · rw [en, ei, e2, hb.1] at c
      rw [if_pos c] at hl
      refine w_BF_offAt_32 h0 (fun _ => vp_in_nI hi (by omega)) (fun _ => vp_in_nI (by omega) (by omega)) (fun _ => ?_) (fun c => absurd h10 c)
      have e : offV ps p = f_JM_max_II 0 (f_JM_abs_I (p.2 - (ps.getD n (0, 0, 0)).2.1) - (ps.getD n (0, 0, 0)).2.2) := by
        unfold offV; rw [← hl, if_neg (nI_ne1 (by omega)), en]
      rw [en, ei, e3, hb.2.1, hb.2.2, ← e]; exact hq
    · rw [en, ei, e2, hb.1] at c
      rw [if_neg c] at hl
      exact ih _ (by omega) (by rw [Int32.sub_eq_add_neg]) hl
theorem sp_offAt {ps : List BP} {o i : Nat} {p : Nat × Int32} (h0 : PtsAt o) (hi : i < 40) (hp40 : ps.length ≤ 40) (hB : BPs ps I) (e2 : I (o + 2) i = nI p.1) (e3 : I (o + 3) i = p.2) (hq : P (some (.int (offV ps p))) I J) : Ct G (d + 1) m_BF_offAt [.ref 53, .ref o, .int (nI i)] P I J :=
  Ct.ofGo [some (.ref 53), some (.ref o), some (.int (nI i)), none] (by decide +kernel) rfl (Nat.le_of_ble_eq_true rfl) (w_BF_offAt_0 h0 (offat_loop h0 hi hp40 hB e2 e3 hq ps.length _ (Nat.le_refl _) (by rw [hB.1]) rfl))
theorem offs_loop {ps : List BP} {o : Nat} {l : List (Nat × Int32)} (h0 : PtsAt o) (h40 : l.length ≤ 40) (hp40 : ps.length ≤ 40) (hB : BPs ps I) (hP : PL o l I) (hq : P (some (.int (offS ps l))) I J) : ∀ (m i : Nat) (x2 x3 : Int32), i + m = l.length → x3 = nI i → x2 = offS ps (l.take i) → Go G (fr G m_BF_offTogether (d + 2) P) 4 [some (.ref 53), some (.ref o), some (.int x2), some (.int x3)] [] I J := by
  intro m
  induction m with
  | zero =>
    intro i x2 x3 hi hx3 hx2
    subst hx3; subst hx2
    have hle : I o 4 ≤ nI i := by rw [hP.1]; exact nI_le (by omega) (by omega)
    rw [List.take_of_length_le (by omega)]
    exact w_BF_offTogether_4 h0 (fun _ => hq) (fun c => absurd hle c)
  | succ m ih =>
    intro i x2 x3 hi hx3 hx2
    subst hx3; subst hx2
    have hi' : i < l.length := by omega
    have hc : ¬ I o 4 ≤ nI i := by rw [hP.1]; exact nI_ge (by omega) (by omega)
    refine w_BF_offTogether_4 h0 (fun c => absurd c hc) (fun _ => sp_offAt h0 (by omega) hp40 hB (hP.2 i hi').1 (hP.2 i hi').2 (w_BF_offTogether_19 h0 (ih (i + 1) _ _ (by omega) (nI_1 i) ?_)))
    rw [takeP_ext hi']; simp [offS]
theorem offw_loop {ps : List BP} {o : Nat} {l : List (Nat × Int32)} (h0 : PtsAt o) (h40 : l.length ≤ 40) (hp40 : ps.length ≤ 40) (hB : BPs ps I) (hP : PL o l I) (hq : P (some (.int (offW ps l).1)) I J) : ∀ (m i : Nat) (x2 x3 x4 : Int32), i + m = l.length → x4 = nI i → (x2, x3) = offW ps (l.take i) → Go G (fr G m_BF_worstDay (d + 2) P) 7 [some (.ref 53), some (.ref o), some (.int x2), some (.int x3), some (.int x4), none] [] I J := by
  intro m
  induction m with
  | zero =>
    intro i x2 x3 x4 hi hx4 hw
    subst hx4
    have hle : I o 4 ≤ nI i := by rw [hP.1]; exact nI_le (by omega) (by omega)
    rw [List.take_of_length_le (by omega)] at hw
    rw [← hw] at hq
    exact w_BF_worstDay_7 h0 (fun _ => hq) (fun c => absurd hle c)
  | succ m ih =>
    intro i x2 x3 x4 hi hx4 hw
    subst hx4
    have hi' : i < l.length := by omega
    have hc : ¬ I o 4 ≤ nI i := by rw [hP.1]; exact nI_ge (by omega) (by omega)
    have e1 : (nI i).toNatClampNeg = i := nI_clamp (by omega)
    have hst : offW ps (l.take (i + 1)) = (if offV ps (l.getD i (0, 0)) ≤ x3 then (x2, x3) else (nI (l.getD i (0, 0)).1, offV ps (l.getD i (0, 0)))) := by
      rw [takeP_ext hi']
      unfold offW at hw ⊢
      rw [List.foldl_append, ← hw]; rfl
    refine w_BF_worstDay_7 h0 (fun c => absurd c hc) (fun _ => sp_offAt h0 (by omega) hp40 hB (hP.2 i hi').1 (hP.2 i hi').2 (w_BF_worstDay_23 h0 (fun c => w_BF_worstDay_42 h0 (ih (i + 1) _ _ _ (by omega) (nI_1 i) ?_)) (fun _ => vp_in_nI (by omega) (by omega)) (fun c => w_BF_worstDay_42 h0 (ih (i + 1) _ _ _ (by omega) (nI_1 i) ?_))))
    · rw [hst, if_pos c]
    · rw [hst, if_neg c, e1, (hP.2 i hi').1]
theorem prs_okB {t : List Int32} (ht : t.length ≤ 100) : ∀ (n a : Nat) (ps : List BP), okB ps → a ≤ 101 → okB (prs t n ps a).2 := by
  intro n
  induction n with
  | zero => intro a ps h _; exact h
  | succ n ih =>
    intro a ps h ha
    have hb := prt_okB (t := t) (a := a) h (by omega) ht
    unfold prs
    dsimp only
    split
    · exact hb
    split
    · exact hb
    split
    · exact hb
    · exact ih _ _ hb (by omega)
def misses (st : ST) (r w : Int32) : Int32 :=
  if f_LB_isRow r = 0 ∨ f_LB_isWithin w 0 1 = 0 then -2 else if ¬ faults st = -1 then -3 else if w = 0 then offS (prs st.2.2.2.1 41 [] 0).2 (ptl st.1 r.toNatClampNeg st.2.1) else (offW (prs st.2.2.2.1 41 [] 0).2 (ptl st.1 r.toNatClampNeg st.2.1)).1
theorem prs_len {st : ST} (hS : okS st) : (prs st.2.2.2.1 41 [] 0).2.length ≤ 40 := by
  have := prs_okB hS.2.2.2.1.1 41 0 [] ⟨by decide, by decide⟩ (by omega)
  have := this.1; have := (prs_okB hS.2.2.2.1.1 41 0 [] ⟨by decide, by decide⟩ (by omega)).2; omega
theorem cl_missed {st : ST} {r w : Int32} (hR : RC st I J) (hS : okS st) (hq : ∀ I', KC I J I' J → P (some (.int (misses st r w))) I' J) : Ct G (d + 6) m_LB_missed [.ref 0, .int r, .int w] P I J := by
  have hbad : (f_LB_isRow r = 0 ∨ f_LB_isWithin w 0 1 = 0) → Go G (fr G m_LB_missed (d + 6) P) 16 [none, none, none] [] I J := fun hb => by
    refine w_LB_missed_16 ?_
    have e : misses st r w = -2 := by unfold misses; rw [if_pos hb]
    rw [e] at hq; exact hq I KC.rf
  refine Ct.ofGo [some (.ref 0), some (.int r), some (.int w)] (by decide +kernel) rfl (Nat.le_of_ble_eq_true rfl) (w_LB_missed_0 (fun c => hbad (Or.inl c)) (fun c1 c2 => sp_readText (hR.tx hS) (fun I1 g1 g2 => ?_)) (fun _ c => hbad (Or.inr c)))
  have hnb : ¬ (f_LB_isRow r = 0 ∨ f_LB_isWithin w 0 1 = 0) := by
    rintro (h | h)
    · exact c1 h
    · exact c2 h
  unfold misses at hq
  rw [if_neg hnb] at hq
  obtain ⟨r, hr, rfl⟩ := isRow1 c1
  have e1 : (nI r).toNatClampNeg = r := nI_clamp (by omega)
  rw [e1] at hq
  have hk := g1.kc (J := J)
  have hR1 := hR.keep hk
  have hok := ptl_ok hS.1 r st.2.1
  have hP := (hR1.2.2.1 r hr).2.pl
  by_cases c3 : (prs st.2.2.2.1 41 [] 0).1 = -1
  · have hb := g2 c3
    rw [if_neg (show ¬ ¬ faults st = -1 from not_not_intro c3)] at hq
    refine w_LB_missed_26 (fun _ _ => vp_in_nI hr (by omega)) (fun _ c => ?_) (fun _ _ => vp_in_nI hr (by omega)) (fun _ c => ?_) (fun c => absurd c3 c)
    · rw [if_neg c] at hq
      rw [e1]
      refine Ct.ofGo [some (.ref 53), some (.ref (7 + 5 * r)), none, none, none, none] (by decide +kernel) rfl (Nat.le_of_ble_eq_true rfl) (w_BF_worstDay_0 (pts_lt r hr) ?_)
      exact offw_loop (pts_lt r hr) hok.1 (prs_len hS) hb hP (w_LB_missed_66 (hq I1 hk)) _ 0 (-1) 0 0 (Nat.zero_add _) rfl rfl
    · rw [if_pos c] at hq
      rw [e1]
      refine Ct.ofGo [some (.ref 53), some (.ref (7 + 5 * r)), none, none] (by decide +kernel) rfl (Nat.le_of_ble_eq_true rfl) (w_BF_offTogether_0 (pts_lt r hr) ?_)
      exact offs_loop (pts_lt r hr) hok.1 (prs_len hS) hb hP (w_LB_missed_50 (w_LB_missed_66 (hq I1 hk))) _ 0 0 0 (Nat.zero_add _) rfl rfl
  · rw [if_pos (show ¬ faults st = -1 from c3)] at hq
    exact w_LB_missed_26 (fun c => absurd c c3) (fun c => absurd c c3) (fun c => absurd c c3) (fun c => absurd c c3) (fun _ => hq I1 hk)
end
