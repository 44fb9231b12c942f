/-! ===== the class's cuts: all stretches offered ===== -/
abbrev PCS : Type := Nat → Nat → Nat → Option (Nat × Nat)
def offO (q most frm to e : Nat) (p : Option (Nat × Nat)) (T : TB) : TB := match p with
  | none => T
  | some p => offT q most frm to e p.1 p.2 T
def stepT (pc : PCS) (q most frm to : Nat) (T : TB) : TB := offO q most frm to 2 (pc 2 frm to) (offO q most frm to 1 (pc 1 frm to) (offO q most frm to 0 (pc 0 frm to) T))
def rowT (pc : PCS) (q most frm : Nat) : Nat → TB → TB
  | 0, T => T
  | m + 1, T => stepT pc q most frm (frm + m) (rowT pc q most frm m T)
def initT (n : Nat) : TB := fun e k a => if e = 0 ∧ k = 0 ∧ a = n then some (0, 0, 0) else none
def mostOf (K frm : Nat) : Nat := if frm = 0 then K else K - 1
def allT (pc : PCS) (q K n : Nat) : Nat → TB
  | 0 => initT n
  | j + 1 => rowT pc q (mostOf K (n - 1 - j)) (n - 1 - j) (j + 1) (allT pc q K n j)
/-- the ends alone stand for no stretch -/
def ZT (n : Nat) (T : TB) : Prop := ∀ e a, T e 0 a = if e = 0 ∧ a = n then some (0, 0, 0) else none
theorem ZT_off {n q most frm to e pv wh : Nat} {T : TB} (h : ZT n T) : ZT n (offT q most frm to e pv wh T) := by
  intro e' a
  unfold offT offD
  rw [if_neg (fun c => by omega)]
  exact h e' a
theorem ZT_offO {n q most frm to e : Nat} {p : Option (Nat × Nat)} {T : TB} (h : ZT n T) : ZT n (offO q most frm to e p T) := by
  cases p with
  | none => exact h
  | some p => exact ZT_off h
theorem ZT_step {pc : PCS} {n q most frm to : Nat} {T : TB} (h : ZT n T) : ZT n (stepT pc q most frm to T) := ZT_offO (ZT_offO (ZT_offO h))
theorem ZT_row {pc : PCS} {n q most frm : Nat} {T : TB} (h : ZT n T) : ∀ m, ZT n (rowT pc q most frm m T) := by
  intro m
  induction m with
  | zero => exact h
  | succ m ih => exact ZT_step ih
theorem ZT_init (n : Nat) : ZT n (initT n) := by
  intro e a
  unfold initT
  by_cases c : e = 0 ∧ a = n
  · rw [if_pos c, if_pos ⟨c.1, rfl, c.2⟩]
  · rw [if_neg c, if_neg (fun h => c ⟨h.1, h.2.2⟩)]
theorem ZT_all {pc : PCS} {q K n : Nat} : ∀ j, ZT n (allT pc q K n j) := by
  intro j
  induction j with
  | zero => exact ZT_init n
  | succ j ih => exact ZT_row ih _
theorem off_skip {n q most frm to e pv wh : Nat} {T : TB} (h : ZT n T) (hm : most ≤ 1) (hto : to + 1 ≠ n) : offT q most frm to e pv wh T = T := by
  funext e' k' a
  unfold offT offD
  by_cases c : a = frm ∧ 1 ≤ k' ∧ k' ≤ most ∧ e ≤ e' ∧ e' ≤ q ∧ true = true
  · rw [if_pos c, show k' - 1 = 0 by omega, h, if_neg (fun c => hto c.2)]
  · rw [if_neg c]
theorem offO_skip {n q most frm to e : Nat} {p : Option (Nat × Nat)} {T : TB} (h : ZT n T) (hm : most ≤ 1) (hto : to + 1 ≠ n) : offO q most frm to e p T = T := by
  cases p with
  | none => rfl
  | some p => exact off_skip h hm hto
theorem step_skip {pc : PCS} {n q most frm to : Nat} {T : TB} (h : ZT n T) (hm : most ≤ 1) (hto : to + 1 ≠ n) : stepT pc q most frm to T = T := by
  unfold stepT
  rw [offO_skip (p := pc 0 frm to) h hm hto, offO_skip (p := pc 1 frm to) h hm hto, offO_skip (p := pc 2 frm to) h hm hto]
/-- pieces as they may be -/
def okPC (pc : PCS) : Prop := ∀ e a b p, pc e a b = some p → p.1 ≤ 53429314570632000000000000000 ∧ p.2 < 40 ^ e
theorem ok_offO {q most frm to e : Nat} {p : Option (Nat × Nat)} {T : TB} (h : okTB T) (hp : ∀ x, p = some x → x.1 ≤ 53429314570632000000000000000 ∧ x.2 < 40 ^ e) (hto : to < 40) : okTB (offO q most frm to e p T) := by
  cases p with
  | none => exact h
  | some p =>
    show okTB (offD q most frm to e p.1 p.2 (fun _ _ => true) T)
    exact okTB_off h (hp p rfl).1 (hp p rfl).2 hto
theorem ok_step {pc : PCS} {q most frm to : Nat} {T : TB} (h : okTB T) (hp : okPC pc) (hto : to < 40) : okTB (stepT pc q most frm to T) := ok_offO (ok_offO (ok_offO h (hp 0 frm to) hto) (hp 1 frm to) hto) (hp 2 frm to) hto
theorem ok_row {pc : PCS} {q most frm : Nat} {T : TB} (h : okTB T) (hp : okPC pc) : ∀ m, frm + m ≤ 40 → okTB (rowT pc q most frm m T) := by
  intro m
  induction m with
  | zero => intro _; exact h
  | succ m ih => intro hm; exact ok_step (ih (by omega)) hp (by omega)
theorem ok_init (n : Nat) : okTB (initT n) := by
  intro e k a t ht
  unfold initT at ht
  split at ht
  · obtain rfl := Option.some.inj ht
    exact ⟨Nat.zero_le _, Nat.pow_pos (by decide), Nat.zero_le _⟩
  · exact absurd ht (by simp)
theorem ok_all {pc : PCS} {q K n : Nat} (hp : okPC pc) (hn : n ≤ 40) : ∀ j, j ≤ n → okTB (allT pc q K n j) := by
  intro j
  induction j with
  | zero => intro _; exact ok_init n
  | succ j ih => intro hj; exact ok_row (ih (by omega)) hp _ (by omega)
/-- a stretch without points left out -/
def pc0 (k : Nat) (L : List Pt) (ls a b : Nat) : Option (Nat × Nat) := if ls ≤ b - a + 1 then some (nK k (seg L a (b - a + 1)) * (5342931457063200 / denK k (seg L a (b - a + 1))), 0) else none
theorem MS.of {k : Nat} {L : List Pt} {a m : Nat} {I I' : MI} {J J' : MJ} (h : MS k L a m I J) (hk : k < 4) (hI : ∀ c, 35 ≤ c → c ≤ 41 → I' c = I c) (hJ : ∀ c, 35 ≤ c → c ≤ 41 → J' c = J c) : MS k L a m I' J' := by
  rcases (show k = 0 ∨ k = 1 ∨ k = 2 ∨ k = 3 by omega) with rfl | rfl | rfl | rfl
  · refine (su_ms (Or.inl rfl)).mpr ?_
    show I' 35 0 = _ ∧ J' 35 2 = _ ∧ J' 35 3 = _ ∧ J' 35 4 = _ ∧ J' 35 5 = _ ∧ J' 35 6 = _
    rw [hI 35 (by omega) (by omega), hJ 35 (by omega) (by omega)]; exact (su_ms (Or.inl rfl)).mp h
  · refine ⟨by rw [hI 36 (by omega) (by omega)]; exact h.1, fun i hi => by rw [hI 37 (by omega) (by omega)]; exact h.2.1 i hi, by rw [hJ 36 (by omega) (by omega)]; exact h.2.2⟩
  · refine (su_ms (Or.inr rfl)).mpr ?_
    show I' 38 0 = _ ∧ J' 38 2 = _ ∧ J' 38 3 = _ ∧ J' 38 4 = _ ∧ J' 38 5 = _ ∧ J' 38 6 = _
    rw [hI 38 (by omega) (by omega), hJ 38 (by omega) (by omega)]; exact (su_ms (Or.inr rfl)).mp h
  · refine ⟨by rw [hI 39 (by omega) (by omega)]; exact h.1, by rw [hI 39 (by omega) (by omega)]; exact h.2.1, fun i hi => by rw [hI 40 (by omega) (by omega)]; exact h.2.2.1 i hi, fun t h1 h2 => by rw [hI 41 (by omega) (by omega)]; exact h.2.2.2 t h1 h2⟩
/-- what cuts may change -/
def FQ (I : MI) (J : MJ) (I' : MI) (J' : MJ) : Prop := (∀ a, a < 33 ∨ a = 34 ∨ (41 < a ∧ a ≠ 44 ∧ a ≠ 45 ∧ a ≠ 49) → I' a = I a) ∧ (∀ a, a < 35 ∨ 43 < a → J' a = J a) ∧ J' 35 1 = J 35 1 ∧ J' 38 1 = J 38 1
theorem FQ.rf {I : MI} {J : MJ} : FQ I J I J := ⟨fun _ _ => rfl, fun _ _ => rfl, rfl, rfl⟩
theorem FQ.tr {I I' I'' : MI} {J J' J'' : MJ} (h : FQ I J I' J') (g : FQ I' J' I'' J'') : FQ I J I'' J'' := ⟨fun a ha => (g.1 a ha).trans (h.1 a ha), fun a ha => (g.2.1 a ha).trans (h.2.1 a ha), g.2.2.1.trans h.2.2.1, g.2.2.2.trans h.2.2.2⟩
theorem FO.q {I I' : MI} {J J' : MJ} (h : FO I J I' J') : FQ I J I' J' := ⟨fun a ha => h.1 a (by omega) (by omega), fun a ha => h.2 a (by omega) (by omega), by rw [h.2 35 (by decide) (by decide)], by rw [h.2 38 (by decide) (by decide)]⟩
theorem FM.q {I I' : MI} {J J' : MJ} (h : FM I J I' J') : FQ I J I' J' := ⟨fun a ha => (h.1 a (by omega)).1, fun a ha => (h.1 a (by omega)).2, h.2.1, h.2.2⟩
theorem FQ.kc {I I' : MI} {J J' : MJ} (h : FQ I J I' J') : KC I J I' J' := by
  refine ⟨fun a ha => h.1 a ?_, by rw [h.1 53 (by omega)], h.2.2.1, h.2.2.2, fun a ha => h.2.1 a (by omega)⟩
  unfold lasts at ha; omega
theorem PF.fq {o : Nat} {L : List Pt} {I I' : MI} {J J' : MJ} (h : PF o L I) (hf : FQ I J I' J') (ho : PtsAt o) : PF o L I' := by
  have hr := pts_rng ho
  refine ⟨⟨by rw [hf.1 o (by omega)]; exact h.1.1, fun k hk => ?_⟩, fun k hk => ?_⟩
  · rw [hf.1 (o + 2) (by omega), hf.1 (o + 3) (by omega)]; exact h.1.2 k hk
  · rw [hf.1 (o + 4) (by omega)]; exact h.2 k hk
/-- the state in which stretches are offered -/
def OS (k : Nat) (L : List Pt) (o1 q K : Nat) (I : MI) (J : MJ) : Prop := PF o1 L I ∧ J 35 1 = 0 ∧ J 38 1 = 20 ∧ I 33 8 = nI K ∧ I 33 9 = nI q
theorem OS.fo {k : Nat} {L : List Pt} {o1 q K : Nat} {I I' : MI} {J J' : MJ} (h : OS k L o1 q K I J) (hf : FO I J I' J') (ho : PtsAt o1) : OS k L o1 q K I' J' :=
  ⟨h.1.fq hf.q ho, by rw [hf.2 35 (by decide) (by decide)]; exact h.2.1, by rw [hf.2 38 (by decide) (by decide)]; exact h.2.2.1, by rw [hf.1 33 (by decide) (by decide)]; exact h.2.2.2.1, by rw [hf.1 33 (by decide) (by decide)]; exact h.2.2.2.2⟩
theorem OS.fm {k : Nat} {L : List Pt} {o1 q K : Nat} {I I' : MI} {J J' : MJ} (h : OS k L o1 q K I J) (hf : FM I J I' J') (ho : PtsAt o1) : OS k L o1 q K I' J' :=
  ⟨h.1.fq hf.q ho, by rw [hf.2.1]; exact h.2.1, by rw [hf.2.2]; exact h.2.2.1, by rw [(hf.1 33 (by decide)).1]; exact h.2.2.2.1, by rw [(hf.1 33 (by decide)).1]; exact h.2.2.2.2⟩
/-- a method that offers stretches without e points does so -/
def OfC (G : GC) (M : MT) (k : Nat) (L : List Pt) (o1 q K ls e : Nat) (pc : PCS) : Prop := ∀ (d : Nat) (P : PT) (I : MI) (J : MJ) (T : TB) (frm to : Nat), frm ≤ to → to < L.length → MS k L frm (to - frm + 1) I J → OS k L o1 q K I J → okTB T → TT q T I J → (∀ I' J', FO I J I' J' → TT q (offO q (mostOf K frm) frm to e (pc e frm to) T) I' J' → P none I' J') → Ct G (d + 3) M [.ref 33, .ref o1, .ref (mcl k), .int (nI frm), .int (nI to), .int (nI ls)] P I J
section
variable {G : GC} {d : Nat} {P : PT} {I : MI} {J : MJ}
theorem of_whole {k : Nat} (hk : k < 4) {L : List Pt} {o1 q K ls : Nat} {pc : PCS} (hok : okP L) (h1 : PtsAt o1) (hq2 : q ≤ 2) (hK : 1 ≤ K) (hK6 : K ≤ 6) (hls : ls ≤ 100) (hpc : ∀ a b, pc 0 a b = pc0 k L ls a b) : OfC G m_CU_offerWhole k L o1 q K ls 0 pc := by
  intro d P I J T frm to hft hto hM hO hokT hT hq
  have hl := hok.1
  have hsz := hM.size hk
  have hcmp : (I (mcl k) 0 < nI ls) ↔ to - frm + 1 < ls := by rw [hsz]; exact nI_ltI (by omega) (by omega)
  rw [hpc] at hq
  unfold pc0 at hq
  refine Ct.ofGo [some (.ref 33), some (.ref o1), some (.ref (mcl k)), some (.int (nI frm)), some (.int (nI to)), some (.int (nI ls))] (by decide +kernel) rfl (Nat.le_of_ble_eq_true rfl) (w_CU_offerWhole_0 h1 (mes_lt hk) (fun c => w_CU_offerWhole_30 ?_) (fun c => ?_))
  · rw [if_neg (by rw [hcmp] at c; omega)] at hq
    exact hq I J FO.rf hT
  · rw [if_pos (by rw [hcmp] at c; omega)] at hq
    have hseg : frm + (to - frm + 1) ≤ L.length := by omega
    have hlen := seg_len hseg
    have hnb := nK_b (k := k) (seg_okV (a := frm) (m := to - frm + 1) hok) (by omega)
    have hdb := denK_b (k := k) (l := seg L frm (to - frm + 1)) (by omega) (by omega)
    refine ms_above hk hok hO.2.1 hO.2.2.1 h1 hseg hM (w_CU_offerWhole_21 (mes_lt hk) (ms_below hk hseg hM (w_CU_offerWhole_26 ?_)))
    rw [← nK_eq]
    exact sp_offer (wh := 0) (e := 0) hq2 hK hK6 hft (by omega) (by omega) hO.2.2.2.1 hO.2.2.2.2 hokT hnb hdb (by decide) hT (fun I' J' g1 g2 => w_CU_offerWhole_30 (hq I' J' g1 g2))
theorem cp_to {k : Nat} (hk : k < 4) {L : List Pt} {o1 q K ls frm : Nat} {pc : PCS} {T0 : TB} {I0 : MI} {J0 : MJ} (hok : okP L) (h1 : PtsAt o1) (hK : 1 ≤ K) (hK6 : K ≤ 6) (hfrm : frm < L.length) (hpc : okPC pc) (hW : OfC G m_CU_offerWhole k L o1 q K ls 0 pc) (hO1 : OfC G m_CU_offerWithoutOne k L o1 q K ls 1 pc) (hO2 : OfC G m_CU_offerWithoutTwo k L o1 q K ls 2 pc) (hT0 : okTB T0) (hZ : ZT L.length T0) (hq : ∀ I' J', FQ I0 J0 I' J' → OS k L o1 q K I' J' → TT q (rowT pc q (mostOf K frm) frm (L.length - frm) T0) I' J' → Go G (fr G m_CU_cutPoints (d + 4) P) 31 [some (.ref 33), some (.ref o1), none, some (.int (nI K)), some (.int (nI ls)), none, some (.ref (mcl k)), some (.int (nI (L.length - 1))), some (.int (nI frm + -1)), none] [] I' J') : ∀ (r m : Nat) (I : MI) (J : MJ), frm + m + r = L.length → FQ I0 J0 I J → OS k L o1 q K I J → MS k L frm m I J → TT q (rowT pc q (mostOf K frm) frm m T0) I J → Go G (fr G m_CU_cutPoints (d + 4) P) 45 [some (.ref 33), some (.ref o1), none, some (.int (nI K)), some (.int (nI ls)), none, some (.ref (mcl k)), some (.int (nI (L.length - 1))), some (.int (nI frm)), some (.int (nI (frm + m)))] [] I J := by
  have hl := hok.1
  intro r
  induction r with
  | zero =>
    intro m I J hr hF hO hM hT
    have hlt : nI (L.length - 1) < nI (frm + m) := nI_lt (by omega) (by omega)
    rw [show m = L.length - frm by omega] at hT
    exact w_CU_cutPoints_45 h1 (mes_lt hk) (fun _ => hq I J hF hO hT) (fun c => absurd hlt c)
  | succ r ih =>
    intro m I J hr hF hO hM hT
    have hc : ¬ nI (L.length - 1) < nI (frm + m) := nI_nlt (by omega) (by omega)
    have hZm := ZT_row (pc := pc) (q := q) (most := mostOf K frm) (frm := frm) hZ m
    have hokm := ok_row (q := q) (most := mostOf K frm) (frm := frm) hT0 hpc m (by omega)
    refine w_CU_cutPoints_45 h1 (mes_lt hk) (fun c => absurd c hc) (fun _ => ms_extend hk hok h1 hO.1 (by omega) hM (fun I1 J1 g1 g2 => ?_))
    have hO1' := hO.fm g1 h1
    have hT1 : TT q (rowT pc q (mostOf K frm) frm m T0) I1 J1 := hT.of (g1.1 44 (by omega)).1 (g1.1 45 (by omega)).1 (g1.1 42 (by omega)).2 (g1.1 43 (by omega)).2
    have nxt : ∀ I2 J2, FQ I1 J1 I2 J2 → OS k L o1 q K I2 J2 → MS k L frm (m + 1) I2 J2 → TT q (rowT pc q (mostOf K frm) frm (m + 1) T0) I2 J2 → Go G (fr G m_CU_cutPoints (d + 4) P) 116 [some (.ref 33), some (.ref o1), none, some (.int (nI K)), some (.int (nI ls)), none, some (.ref (mcl k)), some (.int (nI (L.length - 1))), some (.int (nI frm)), some (.int (nI (frm + m)))] [] I2 J2 := by
      intro I2 J2 k1 k2 k3 k4
      refine w_CU_cutPoints_116 h1 (mes_lt hk) ?_
      rw [nI_1]
      exact ih (m + 1) I2 J2 (by omega) ((hF.tr g1.q).tr k1) k2 k3 k4
    have offer : Go G (fr G m_CU_cutPoints (d + 4) P) 77 [some (.ref 33), some (.ref o1), none, some (.int (nI K)), some (.int (nI ls)), none, some (.ref (mcl k)), some (.int (nI (L.length - 1))), some (.int (nI frm)), some (.int (nI (frm + m)))] [] I1 J1 := by
      have hmm : frm + m - frm + 1 = m + 1 := by omega
      have g2' : MS k L frm (frm + m - frm + 1) I1 J1 := by rw [hmm]; exact g2
      refine w_CU_cutPoints_77 h1 (mes_lt hk) (hW _ _ _ _ _ _ _ (by omega) (by omega) g2' hO1' hokm hT1 (fun I2 J2 a1 a2 => w_CU_cutPoints_90 h1 (mes_lt hk) ?_))
      have hM2 := g2'.of hk (fun c _ _ => a1.1 c (by omega) (by omega)) (fun c _ _ => a1.2 c (by omega) (by omega))
      have ok2 := ok_offO (q := q) (most := mostOf K frm) (frm := frm) (to := frm + m) hokm (hpc 0 frm (frm + m)) (by omega)
      refine hO1 _ _ _ _ _ _ _ (by omega) (by omega) hM2 (hO1'.fo a1 h1) ok2 a2 (fun I3 J3 b1 b2 => w_CU_cutPoints_103 h1 (mes_lt hk) ?_)
      have hM3 := hM2.of hk (fun c _ _ => b1.1 c (by omega) (by omega)) (fun c _ _ => b1.2 c (by omega) (by omega))
      have ok3 := ok_offO (q := q) (most := mostOf K frm) (frm := frm) (to := frm + m) ok2 (hpc 1 frm (frm + m)) (by omega)
      refine hO2 _ _ _ _ _ _ _ (by omega) (by omega) hM3 ((hO1'.fo a1 h1).fo b1 h1) ok3 b2 (fun I4 J4 c1 c2 => nxt I4 J4 ((a1.tr b1).tr c1).q (((hO1'.fo a1 h1).fo b1 h1).fo c1 h1) ?_ c2)
      have := hM3.of hk (fun c _ _ => c1.1 c (by omega) (by omega)) (fun c _ _ => c1.2 c (by omega) (by omega))
      rw [hmm] at this; exact this
    refine w_CU_cutPoints_60 h1 (mes_lt hk) (fun _ => offer) (fun _ _ => offer) (fun c1 c2 c3 => ?_) (fun _ _ _ => offer)
    have hK2 : K ≤ 2 := by
      have : ¬ 2 < K := fun h => c1 (nI_lt (a := 2) h (by omega))
      omega
    have hf0 : ¬ frm = 0 := fun h => c2 (by rw [h]; rfl)
    have hne : frm + m + 1 ≠ L.length := by
      intro h
      exact c3 (by congr 1; omega)
    refine nxt I1 J1 FQ.rf hO1' g2 ?_
    show TT q (stepT pc q (mostOf K frm) frm (frm + m) (rowT pc q (mostOf K frm) frm m T0)) I1 J1
    rw [step_skip hZm (by unfold mostOf; rw [if_neg hf0]; omega) hne]
    exact hT1
theorem cp_from {k : Nat} (hk : k < 4) {L : List Pt} {o1 q K ls : Nat} {pc : PCS} {I0 : MI} {J0 : MJ} (hok : okP L) (h1 : PtsAt o1) (hK : 1 ≤ K) (hK6 : K ≤ 6) (hpc : okPC pc) (hW : OfC G m_CU_offerWhole k L o1 q K ls 0 pc) (hO1 : OfC G m_CU_offerWithoutOne k L o1 q K ls 1 pc) (hO2 : OfC G m_CU_offerWithoutTwo k L o1 q K ls 2 pc) (hq : ∀ I' J', FQ I0 J0 I' J' → OS k L o1 q K I' J' → TT q (allT pc q K L.length L.length) I' J' → Ct G (d + 3) m_CU_trace [.ref 33, .int (nI K)] (fun r I' J' => Go G (fr G m_CU_cutPoints (d + 4) P) 133 [none, none, none, none, none, none, none, none, none, none] (r.toList ++ []) I' J') I' J') : ∀ (r j : Nat) (x8 : Int32) (I : MI) (J : MJ), j + r = L.length → x8 = nI (L.length - j) - 1 → FQ I0 J0 I J → OS k L o1 q K I J → TT q (allT pc q K L.length j) I J → Go G (fr G m_CU_cutPoints (d + 4) P) 31 [some (.ref 33), some (.ref o1), none, some (.int (nI K)), some (.int (nI ls)), none, some (.ref (mcl k)), some (.int (nI (L.length - 1))), some (.int x8), none] [] I J := by
  have hl := hok.1
  intro r
  induction r with
  | zero =>
    intro j x8 I J hr hx hF hO hT
    subst hx
    rw [show L.length - j = 0 by omega] at *
    rw [show j = L.length by omega] at hT
    have hlt : nI 0 - 1 < 0 := by decide
    exact w_CU_cutPoints_31 h1 (mes_lt hk) (fun _ => hq I J hF hO hT) (fun c => absurd hlt c)
  | succ r ih =>
    intro j x8 I J hr hx hF hO hT
    have hx2 : x8 = nI (L.length - 1 - j) := by rw [hx, show L.length - j = L.length - 1 - j + 1 by omega]; exact nI_pred _
    subst hx2
    have hlt : ¬ nI (L.length - 1 - j) < 0 := nI_pos (by omega)
    refine w_CU_cutPoints_31 h1 (mes_lt hk) (fun c => absurd c hlt) (fun _ => ms_restart hk (L := L) (a := L.length - 1 - j) (fun I1 J1 g1 g2 => w_CU_cutPoints_41 h1 (mes_lt hk) ?_))
    refine cp_to hk (T0 := allT pc q K L.length j) hok h1 hK hK6 (by omega) hpc hW hO1 hO2 (ok_all hpc hl j (by omega)) (ZT_all j) (fun I2 J2 a1 a2 a3 => ih (j + 1) _ I2 J2 (by omega) ?_ ((hF.tr g1.q).tr a1) a2 ?_) (j + 1) 0 I1 J1 (by omega) FQ.rf (hO.fm g1 h1) g2 (hT.of (g1.1 44 (by omega)).1 (g1.1 45 (by omega)).1 (g1.1 42 (by omega)).2 (g1.1 43 (by omega)).2)
    · rw [show L.length - 1 - j = L.length - (j + 1) by omega, Int32.sub_eq_add_neg]
    · rw [show L.length - (L.length - 1 - j) = j + 1 by omega] at a3
      exact a3
theorem sp_begin {n K q : Nat} (hn : n ≤ 40) (hq2 : q ≤ 2) (hq : ∀ I' J', FQ I J I' J' → I' 33 8 = nI K → I' 33 9 = nI q → TT q (initT n) I' J' → P none I' J') : Ct G (d + 2) m_CU_begin [.ref 33, .int (nI n), .int (nI K), .int (nI q)] P I J := by
  have e0 : f_CU_at 0 0 (nI n) = nI (ix 0 0 n) := at_ix 0 0 n
  have ex : (nI (ix 0 0 n)).toNatClampNeg = ix 0 0 n := nI_clamp (by unfold ix; omega)
  refine Ct.ofGo [some (.ref 33), some (.int (nI n)), some (.int (nI K)), some (.int (nI q)), none] (by decide +kernel) rfl (Nat.le_of_ble_eq_true rfl) (w_CU_begin_0 ?_)
  rw [nI_1, show (287 : Int32) = nI 287 from rfl, show nI (q + 1) * nI 287 = nI ((q + 1) * 287) from (Int32.ofNat_mul _ _).symm]
  refine sp_fillR sh_42 (by decide) (by omega) (w_CU_begin_28 (by rw [e0]; exact vp_in_nI (by unfold ix; omega) (by omega)) ?_)
  rw [e0, ex]
  refine hq _ _ ⟨fun a ha => by rw [u2_o (by omega), u2_o (by omega), u2_o (by omega)], fun a ha => by rw [u2_o (by omega), u2_o (by omega), fl_o (by omega)], by rw [u2_o (by decide), u2_o (by decide), fl_o (by decide)], by rw [u2_o (by decide), u2_o (by decide), fl_o (by decide)]⟩ ?_ ?_ ?_
  · rw [u2_o (by decide), u2_k (by decide), u2_s]
  · rw [u2_o (by decide), u2_s]
  · intro e k a he hk ha
    unfold initT
    by_cases c : e = 0 ∧ k = 0 ∧ a = n
    · obtain ⟨rfl, rfl, rfl⟩ := c
      rw [if_pos ⟨rfl, rfl, rfl⟩]
      refine ⟨?_, ?_, ?_, fun h => by omega⟩
      · rw [u2_o (by decide), u2_s]; rfl
      · rw [u2_s]; rfl
      · rw [u2_s]; rfl
    · rw [if_neg c]
      have hne : ix e k a ≠ ix 0 0 n := fun h => c (by have := ix_inj hk ha (by omega) (by omega) h; omega)
      show u2 (u2 (fl J 42 ((q + 1) * 287) (-1)) 42 (ix 0 0 n) 0) 43 (ix 0 0 n) 0 42 (ix e k a) = -1
      rw [u2_o (by decide), u2_k hne, fl_at (by unfold ix; omega)]
/-- the cuts are made; what is left is the trace -/
theorem sp_cutPoints {k : Nat} (hk : k < 4) {L : List Pt} {o1 q K ls : Nat} {pc : PCS} (hok : okP L) (h1 : PtsAt o1) (hq2 : q ≤ 2) (hK : 1 ≤ K) (hK6 : K ≤ 6) (hpc : okPC pc) (hP : PF o1 L I) (h35 : J 35 1 = 0) (h38 : J 38 1 = 20) (hW : OfC G m_CU_offerWhole k L o1 q K ls 0 pc) (hO1 : OfC G m_CU_offerWithoutOne k L o1 q K ls 1 pc) (hO2 : OfC G m_CU_offerWithoutTwo k L o1 q K ls 2 pc) (hq : ∀ I' J', FQ I J I' J' → OS k L o1 q K I' J' → TT q (allT pc q K L.length L.length) I' J' → Ct G (d + 3) m_CU_trace [.ref 33, .int (nI K)] (fun r I' J' => Go G (fr G m_CU_cutPoints (d + 4) P) 133 [none, none, none, none, none, none, none, none, none, none] (r.toList ++ []) I' J') I' J') : Ct G (d + 4) m_CU_cutPoints [.ref 33, .ref o1, .int (nI k), .int (nI K), .int (nI ls), .int (nI q)] P I J := by
  have hl := hok.1
  have ek : (nI k).toNatClampNeg = k := nI_clamp (by omega)
  refine Ct.ofGo [some (.ref 33), some (.ref o1), some (.int (nI k)), some (.int (nI K)), some (.int (nI ls)), some (.int (nI q)), none, none, none, none] (by decide +kernel) rfl (Nat.le_of_ble_eq_true rfl) (w_CU_cutPoints_0 h1 ?_)
  rw [hP.1.1]
  refine sp_begin (by omega) hq2 (fun I1 J1 g1 g2 g3 g4 => w_CU_cutPoints_11 h1 (vp_in_nI hk (by omega)) ?_)
  have hP1 := hP.fq g1 h1
  rw [ek, hP1.1.1]
  have hO : OS k L o1 q K I1 J1 := ⟨hP1, by rw [g1.2.2.1]; exact h35, by rw [g1.2.2.2]; exact h38, g2, g3⟩
  rcases Nat.eq_zero_or_pos L.length with h0 | h0
  · have hlt : nI L.length - 1 < 0 := by rw [h0]; decide
    refine w_CU_cutPoints_31 h1 (mes_lt hk) (fun _ => hq I1 J1 g1 hO ?_) (fun c => absurd hlt c)
    rw [h0] at g4 ⊢; exact g4
  · have e1 : nI L.length - 1 = nI (L.length - 1) := by rw [show L.length = L.length - 1 + 1 by omega]; exact nI_pred _
    rw [e1]
    refine cp_from hk hok h1 hK hK6 hpc hW hO1 hO2 (fun I2 J2 a1 a2 a3 => hq I2 J2 (g1.tr a1) a2 a3) L.length 0 _ I1 J1 (by omega) ?_ FQ.rf hO g4
    rw [Nat.sub_zero, e1]
end
