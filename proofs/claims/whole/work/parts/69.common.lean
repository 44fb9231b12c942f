/-! ===== common cuts: pure, and the class ===== -/
def pf (L : List Pt) (x : Nat) : Nat := (L.takeWhile fun p => decide (p.1 < x)).length
theorem pf_spec (x : Nat) : ∀ L : List Pt, pf L x ≤ L.length ∧ (∀ i, i < pf L x → dN L i < x) ∧ (pf L x < L.length → x ≤ dN L (pf L x)) := by
  intro L
  induction L with
  | nil => exact ⟨Nat.le_refl _, fun i h => absurd h (by simp [pf]), fun h => absurd h (by simp)⟩
  | cons p L ih =>
    by_cases q : p.1 < x
    · have e : pf (p :: L) x = pf L x + 1 := by simp [pf, List.takeWhile_cons, q]
      rw [e]
      refine ⟨by simp only [List.length_cons]; omega, fun i hi => ?_, fun h => ?_⟩
      · cases i with
        | zero => simpa [dN] using q
        | succ i => have := ih.2.1 i (by omega); simpa [dN] using this
      · have := ih.2.2 (by simp only [List.length_cons] at h; omega)
        simpa [dN] using this
    · have e : pf (p :: L) x = 0 := by simp [pf, List.takeWhile_cons, q]
      rw [e]
      exact ⟨Nat.zero_le _, fun i hi => by omega, fun _ => by simpa [dN] using (Nat.not_lt.mp q)⟩
theorem pf_uniq {L : List Pt} {x i : Nat} (h1 : i ≤ L.length) (h2 : ∀ j, j < i → dN L j < x) (h3 : i < L.length → x ≤ dN L i) : pf L x = i := by
  obtain ⟨g1, g2, g3⟩ := pf_spec x L
  rcases Nat.lt_trichotomy (pf L x) i with q | q | q
  · have := h2 _ q; have := g3 (by omega); omega
  · exact q
  · have := g2 _ q; have := h3 (by omega); omega
theorem pf_mono {L : List Pt} {x y : Nat} (h : x ≤ y) : pf L x ≤ pf L y := by
  obtain ⟨g1, g2, g3⟩ := pf_spec x L
  obtain ⟨k1, k2, k3⟩ := pf_spec y L
  rcases Nat.lt_or_ge (pf L y) (pf L x) with q | q
  · have := g2 _ q; have := k3 (by omega); omega
  · exact q
theorem pf_stepY {L : List Pt} (hok : okP L) {x : Nat} (h1 : pf L x < L.length) (h2 : dN L (pf L x) = x) : pf L (x + 1) = pf L x + 1 := by
  obtain ⟨g1, g2, g3⟩ := pf_spec x L
  refine pf_uniq (by omega) (fun j hj => ?_) (fun h => ?_)
  · by_cases q : j = pf L x
    · rw [q, h2]; omega
    · have := g2 j (by omega); omega
  · have hp := List.pairwise_iff_getElem.mp hok.2.2 (pf L x) (pf L x + 1) h1 h (by omega)
    have e1 : dN L (pf L x) = L[pf L x].1 := by unfold dN; rw [getD_lt h1]
    have e2 : dN L (pf L x + 1) = L[pf L x + 1].1 := by unfold dN; rw [getD_lt h]
    omega
theorem pf_stepN {L : List Pt} {x : Nat} (h : ¬ (pf L x < L.length ∧ dN L (pf L x) = x)) : pf L (x + 1) = pf L x := by
  obtain ⟨g1, g2, g3⟩ := pf_spec x L
  refine pf_uniq g1 (fun j hj => by have := g2 j hj; omega) (fun h1 => ?_)
  have := g3 h1
  have : dN L (pf L x) ≠ x := fun h2 => h ⟨h1, h2⟩
  omega
def rC (L : List Pt) (ls k a b : Nat) : Option Nat := if pf L (b + 1) - pf L a < ls then none else some (nK k (seg L (pf L a) (pf L (b + 1) - pf L a)))
def oadd (o o' : Option Nat) : Option Nat := match o, o' with
  | some x, some y => some (x + y)
  | _, _ => none
def dcR (st : ST) (S k a b : Nat) : Nat → Option Nat
  | 0 => some 0
  | r + 1 => if bit S r = 1 then oadd (dcR st S k a b r) (rC (pts st r) (lsr st r) k a b) else dcR st S k a b r
def eO (o : Option Nat) : Int64 := match o with
  | none => -1
  | some x => lI (x : Int)
theorem eO_none {o : Option Nat} (h : ∀ x, o = some x → x < 9223372036854775808) : eO o = -1 ↔ o = none := by
  cases o with
  | none => exact ⟨fun _ => rfl, fun _ => rfl⟩
  | some x =>
    refine ⟨fun c => ?_, fun c => by cases c⟩
    have := h x rfl
    have c : lI (x : Int) = lI (-1) := c
    rw [lI_inj (by omega) (by omega)] at c; omega
theorem seg_le40 {L : List Pt} (hok : okP L) (a m : Nat) : (seg L a m).length ≤ 40 := by
  have h1 := hok.1
  have : (seg L a m).length ≤ L.length := by simp [seg]; omega
  omega
theorem nK_odd {k : Nat} (hk : k = 1 ∨ k = 3) {L : List Pt} (hok : okP L) (a m : Nat) : nK k (seg L a m) ≤ 80000 := by
  have h40 := seg_le40 hok a m
  have he := nK_eq k (seg L a m)
  rcases hk with h | h
  · subst h
    have : numK 1 (seg L a m) ≤ 80000 := medc_b (seg_okV hok) h40
    omega
  · subst h
    have : numK 3 (seg L a m) ≤ 80000 := by show ((seg L a m).length : Int) - mxc (seg L a m) ≤ _; omega
    omega
theorem dcR_b {st : ST} (hS : okS st) {S k a b : Nat} (hk : k = 1 ∨ k = 3) : ∀ r x, dcR st S k a b r = some x → x ≤ r * 80000 := by
  intro r
  induction r with
  | zero => intro x h; have : (0 : Nat) = x := Option.some.inj h; omega
  | succ r ih =>
    intro x h
    unfold dcR at h
    split at h
    · cases hd : dcR st S k a b r with
      | none => rw [hd] at h; exact absurd h (by simp [oadd])
      | some y =>
        rw [hd] at h
        unfold rC at h
        split at h
        · exact absurd h (by simp [oadd])
        · have h : some (y + nK k (seg (pts st r) (pf (pts st r) a) (pf (pts st r) (b + 1) - pf (pts st r) a))) = some x := h
          have h := Option.some.inj h
          have := ih y hd
          have := nK_odd hk (pts_ok hS r) (pf (pts st r) a) (pf (pts st r) (b + 1) - pf (pts st r) a)
          omega
    · exact Nat.le_trans (ih x h) (Nat.mul_le_mul_right _ (Nat.le_succ r))
def cU (st : ST) (S k : Nat) : CC := fun a b => dcR st S k a b 4
def cD (st : ST) (S k : Nat) : CC := fun a b => (dcR st S k a b 4).map fun x => x * 5342931457063200
def pcD (st : ST) (S k : Nat) : PCS := fun e a b => if e = 0 then ((dcR st S k a b 4).map fun x => (x * 5342931457063200, 0)) else none
theorem pcD_c (st : ST) (S k : Nat) : okC0 (pcD st S k) (cD st S k) := by
  intro a b
  unfold pcD cD
  rw [if_pos rfl]
  cases dcR st S k a b 4 <;> rfl
theorem pcD_ok {st : ST} (hS : okS st) {S k : Nat} (hk : k = 1 ∨ k = 3) : okPC (pcD st S k) := by
  intro e a b p h
  unfold pcD at h
  split at h
  · rename_i he
    cases hd : dcR st S k a b 4 with
    | none => rw [hd] at h; exact absurd h (by simp)
    | some x =>
      rw [hd] at h
      have h : some (x * 5342931457063200, 0) = some p := h
      have h := Option.some.inj h
      have hb := dcR_b hS hk 4 x hd
      subst h
      have h2 : x * 5342931457063200 ≤ (4 * 80000) * 5342931457063200 := Nat.mul_le_mul_right _ hb
      refine ⟨Nat.le_trans h2 (by decide), ?_⟩
      rw [he]; show 0 < 40 ^ 0; decide
  · exact absurd h (by simp)
/-! scaled costs, the same cuts -/
theorem bst_sc {f : Nat → Option Nat} {N : Nat} (hN : 0 < N) {lo : Nat} : ∀ m, bst (fun b => (f b).map fun x => x * N) lo m = (bst f lo m).map fun t => (t.1 * N, t.2) := by
  intro m
  induction m with
  | zero => rfl
  | succ m ih =>
    unfold bst
    rw [ih]
    cases f (lo + m) with
    | none => rfl
    | some v =>
      cases bst f lo m with
      | none => rfl
      | some w =>
        show some (if v * N < w.1 * N then (v * N, lo + m + 1) else (w.1 * N, w.2)) = some (((if v < w.1 then (v, lo + m + 1) else w) : Nat × Nat).1 * N, ((if v < w.1 then (v, lo + m + 1) else w) : Nat × Nat).2)
        by_cases q : v < w.1
        · rw [if_pos (Nat.mul_lt_mul_of_pos_right q hN), if_pos q]
        · rw [if_neg (fun h => q (Nat.lt_of_mul_lt_mul_right h)), if_neg q]
theorem Dp_sc {c : CC} {N n : Nat} (hN : 0 < N) : ∀ k a, Dp (fun a b => (c a b).map fun x => x * N) n k a = (Dp c n k a).map fun t => (t.1 * N, t.2) := by
  intro k
  induction k with
  | zero =>
    intro a
    show (if a = n then some ((0, 0) : Nat × Nat) else none) = (if a = n then some ((0, 0) : Nat × Nat) else none).map _
    by_cases q : a = n
    · rw [if_pos q]; simp
    · rw [if_neg q]; rfl
  | succ k ih =>
    intro a
    rw [Dp_s, Dp_s, ← bst_sc hN]
    refine bst_congr _ (fun b _ _ => ?_)
    show ((c a b).map fun x => x * N).bind (fun x => (Dp (fun a b => (c a b).map fun x => x * N) n k (b + 1)).map fun t => x + t.1) = ((c a b).bind fun x => (Dp c n k (b + 1)).map fun t => x + t.1).map fun x => x * N
    rw [ih (b + 1)]
    cases c a b with
    | none => rfl
    | some x =>
      cases Dp c n k (b + 1) with
      | none => rfl
      | some t => show some (x * N + t.1 * N) = some ((x + t.1) * N); rw [Nat.add_mul]
theorem plc_sc {c : CC} {N n K : Nat} (hN : 0 < N) : ∀ i, plc (fun a b => (c a b).map fun x => x * N) n K i = plc c n K i := by
  intro i
  induction i with
  | zero => rfl
  | succ i ih =>
    show (match Dp (fun a b => (c a b).map fun x => x * N) n (K - i) (plc (fun a b => (c a b).map fun x => x * N) n K i) with | none => 0 | some t => t.2) = (match Dp c n (K - i) (plc c n K i) with | none => 0 | some t => t.2)
    rw [ih, Dp_sc hN]
    cases Dp c n (K - i) (plc c n K i) <;> rfl
theorem Dp_DU (st : ST) (S k n j a : Nat) : Dp (cD st S k) n j a = (Dp (cU st S k) n j a).map fun t => (t.1 * 5342931457063200, t.2) := Dp_sc (c := cU st S k) (by decide) j a
theorem plc_DU (st : ST) (S k n K i : Nat) : plc (cD st S k) n K i = plc (cU st S k) n K i := plc_sc (c := cU st S k) (by decide) i
theorem topV_sc (x : Nat) : topV (x * 5342931457063200) = x := by
  have h := topV_vB (x * 5342931457063200)
  have hB : vB (x * 5342931457063200) = 1 := by
    unfold vB vG
    rw [Nat.mul_mod_left, Nat.gcd_zero_left]
  rw [hB, Nat.mul_one] at h
  exact Nat.eq_of_mul_eq_mul_right (by decide) h
def FG (I : MI) (J : MJ) (I' : MI) (J' : MJ) : Prop := (∀ a, a < 33 ∨ a = 34 ∨ (41 < a ∧ a ≠ 44 ∧ a ≠ 45 ∧ a ≠ 49) → I' a = I a) ∧ (∀ a, (a < 35 ∨ 43 < a) → a ≠ 48 → J' a = J a) ∧ J' 35 1 = J 35 1 ∧ J' 38 1 = J 38 1
theorem FG.rf {I : MI} {J : MJ} : FG I J I J := ⟨fun _ _ => rfl, fun _ _ _ => rfl, rfl, rfl⟩
theorem FG.tr {I I' I'' : MI} {J J' J'' : MJ} (h : FG I J I' J') (g : FG I' J' I'' J'') : FG I J I'' J'' := ⟨fun a ha => (g.1 a ha).trans (h.1 a ha), fun a ha h1 => (g.2.1 a ha h1).trans (h.2.1 a ha h1), g.2.2.1.trans h.2.2.1, g.2.2.2.trans h.2.2.2⟩
theorem FQ.g {I I' : MI} {J J' : MJ} (h : FQ I J I' J') : FG I J I' J' := ⟨h.1, fun a ha _ => h.2.1 a ha, h.2.2.1, h.2.2.2⟩
theorem FG.kc {I I' : MI} {J J' : MJ} (h : FG I J I' J') : KC I J I' J' := by
  refine ⟨fun a ha => h.1 a ?_, by rw [h.1 53 (by omega)], h.2.2.1, h.2.2.2, fun a ha => h.2.1 a (by omega) (by omega)⟩
  unfold lasts at ha; omega
def FA (I : MI) (J : MJ) (I' : MI) (J' : MJ) : Prop := (∀ a, a < 35 ∨ 41 < a → I' a = I a) ∧ (∀ a, (a < 35 ∨ 41 < a) → a ≠ 48 → J' a = J a) ∧ J' 35 1 = J 35 1 ∧ J' 38 1 = J 38 1
theorem FA.rf {I : MI} {J : MJ} : FA I J I J := ⟨fun _ _ => rfl, fun _ _ _ => rfl, rfl, rfl⟩
theorem FA.tr {I I' I'' : MI} {J J' J'' : MJ} (h : FA I J I' J') (g : FA I' J' I'' J'') : FA I J I'' J'' := ⟨fun a ha => (g.1 a ha).trans (h.1 a ha), fun a ha h1 => (g.2.1 a ha h1).trans (h.2.1 a ha h1), g.2.2.1.trans h.2.2.1, g.2.2.2.trans h.2.2.2⟩
theorem FM.a {I I' : MI} {J J' : MJ} (h : FM I J I' J') : FA I J I' J' := ⟨fun a ha => (h.1 a ha).1, fun a ha _ => (h.1 a ha).2, h.2.1, h.2.2⟩
theorem FA.g {I I' : MI} {J J' : MJ} (h : FA I J I' J') : FG I J I' J' := ⟨fun a ha => h.1 a (by omega), fun a ha h1 => h.2.1 a (by omega) h1, h.2.2.1, h.2.2.2⟩
theorem PF.fa {o : Nat} {L : List Pt} {I I' : MI} {J J' : MJ} (h : PF o L I) (hf : FA I J I' J') (ho : PtsAt o) : PF o L I' := by
  have hr := pts_rng ho
  have hk : ∀ a, a ≤ 31 → I' a = I a := fun a ha => hf.1 a (by omega)
  exact ⟨⟨by rw [hk o (by omega)]; exact h.1.1, fun k hk' => by rw [hk (o + 2) (by omega), hk (o + 3) (by omega)]; exact h.1.2 k hk'⟩, fun k hk' => by rw [hk (o + 4) (by omega)]; exact h.2 k hk'⟩
section
variable {G : GC} {d : Nat} {P : PT} {I : MI} {J : MJ}
theorem pff_loop {o : Nat} {L : List Pt} {x : Nat} (h0 : PtsAt o) (hok : okP L) (hP : PF o L I) (hx : x ≤ 40) (hq : P (some (.int (nI (pf L x)))) I J) : ∀ (m i : Nat), i + m = L.length → (∀ j, j < i → dN L j < x) → Go G (fr G m_PO_firstFrom d P) 2 [some (.ref o), some (.int (nI x)), some (.int (nI i))] [] I J := by
  have hl := hok.1
  intro m
  induction m with
  | zero =>
    intro i hi hb
    have hle : I o 4 ≤ nI i := by rw [hP.1.1]; exact nI_le (by omega) (by omega)
    refine w_PO_firstFrom_2 h0 (fun _ => w_PO_firstFrom_26 ?_) (fun c => absurd hle c) (fun c => absurd hle c) (fun c => absurd hle c)
    rw [← pf_uniq (show i ≤ L.length by omega) hb (fun h => by omega)]; exact hq
  | succ m ih =>
    intro i hi hb
    have hc : ¬ I o 4 ≤ nI i := by rw [hP.1.1]; exact nI_ge (by omega) (by omega)
    have e1 : (nI i).toNatClampNeg = i := nI_clamp (by omega)
    have hd : dN L i < 40 := dN_lt hok (by omega)
    have ed : I (o + 2) i = nI (dN L i) := (hP.1.2 i (by omega)).1
    refine w_PO_firstFrom_2 h0 (fun c => absurd c hc) (fun _ => vp_in_nI (by omega) (by omega)) (fun _ c => w_PO_firstFrom_26 ?_) (fun _ c => ?_)
    · rw [e1, ed, nI_leI (by omega) (by omega)] at c
      rw [← pf_uniq (show i ≤ L.length by omega) hb (fun h => c)]; exact hq
    · rw [e1, ed, nI_leI (by omega) (by omega)] at c
      rw [nI_1]
      exact ih (i + 1) (by omega) (fun j hj => by
        by_cases q : j = i
        · rw [q]; omega
        · exact hb j (by omega))
theorem sp_ffrom {o : Nat} {L : List Pt} {x : Nat} (h0 : PtsAt o) (hok : okP L) (hP : PF o L I) (hx : x ≤ 40) (hq : P (some (.int (nI (pf L x)))) I J) : Ct G d m_PO_firstFrom [.ref o, .int (nI x)] P I J :=
  Ct.ofGo [some (.ref o), some (.int (nI x)), none] (by decide +kernel) rfl (Nat.le_of_ble_eq_true rfl) (w_PO_firstFrom_0 h0 (pff_loop h0 hok hP hx hq L.length 0 (by omega) (fun j hj => by omega)))
theorem ad_loop {k : Nat} (hk : k = 1 ∨ k = 3) {L : List Pt} {o ls frm : Nat} {I0 : MI} {J0 : MJ} (f : Nat → Option Nat) (hok : okP L) (h1 : PtsAt o) (hP : PF o L I0) (h35 : J0 35 1 = 0) (h38 : J0 38 1 = 20) (hls : ls ≤ 100) (hf : ∀ t x, f t = some x → x ≤ 1000000000) (hq : ∀ I' J', FA I0 J0 I' J' → (∀ t, frm ≤ t → t < 40 → J' 48 t = eO (oadd (f t) (rC L ls k frm t))) → P none I' J') : ∀ (r to m : Nat) (I : MI) (J : MJ), to + r = 40 → frm ≤ to → pf L to = pf L frm + m → FA I0 J0 I J → MS k L (pf L frm) m I J → (∀ t, frm ≤ t → t < to → J 48 t = eO (oadd (f t) (rC L ls k frm t))) → (∀ t, to ≤ t → t < 40 → J 48 t = eO (f t)) → Go G (fr G m_CU_addDaysCost (d + 3) P) 14 [some (.ref 33), some (.ref o), some (.ref (mcl k)), none, some (.int (nI ls)), some (.int (nI (pf L frm + m))), some (.int (nI to)), none] [] I J := by
  have hl := hok.1
  have hk4 : k < 4 := by omega
  intro r
  induction r with
  | zero =>
    intro to m I J hr hft hpf hF hM hA hB
    obtain rfl : to = 40 := by omega
    have hle : (40 : Int32) ≤ nI 40 := by decide
    exact w_CU_addDaysCost_14 h1 (mes_lt hk4) (fun _ => hq I J hF hA) (fun c => absurd hle c) (fun c => absurd hle c) (fun c => absurd hle c) (fun c => absurd hle c)
  | succ r ih =>
    intro to m I J hr hft hpf hF hM hA hB
    have hc : ¬ (40 : Int32) ≤ nI to := nI_ge (a := to) (b := 40) (by omega) (by omega)
    have et : (nI to).toNatClampNeg = to := nI_clamp (by omega)
    have hsp := pf_spec to L
    have C52 : ∀ (m' : Nat) (I' : MI) (J' : MJ), FM I J I' J' → MS k L (pf L frm) m' I' J' → pf L (to + 1) = pf L frm + m' → Go G (fr G m_CU_addDaysCost (d + 3) P) 52 [some (.ref 33), some (.ref o), some (.ref (mcl k)), none, some (.int (nI ls)), some (.int (nI (pf L frm + m'))), some (.int (nI to)), none] [] I' J' := by
      intro m' I' J' g1 g2 hp'
      have hF' := hF.tr g1.a
      have h48 : J' 48 = J 48 := (g1.1 48 (by omega)).2
      have hv : J' 48 to = eO (f to) := by rw [h48]; exact hB to (Nat.le_refl _) (by omega)
      have hsz := g2.size hk4
      have hsp' := pf_spec (to + 1) L
      have hcmp : (I' (mcl k) 0 < nI ls) ↔ m' < ls := by rw [hsz]; exact nI_ltI (by omega) (by omega)
      have hrc : rC L ls k frm to = if m' < ls then none else some (nK k (seg L (pf L frm) m')) := by
        unfold rC; rw [hp', show pf L frm + m' - pf L frm = m' by omega]
      have nxt : ∀ z : Int64, z = eO (oadd (f to) (rC L ls k frm to)) → Go G (fr G m_CU_addDaysCost (d + 3) P) 114 [some (.ref 33), some (.ref o), some (.ref (mcl k)), none, some (.int (nI ls)), some (.int (nI (pf L frm + m'))), some (.int (nI to)), none] [.long z, .int (nI to), .ref 48] I' J' := by
        intro z hz
        refine w_CU_addDaysCost_114 h1 (mes_lt hk4) (vp_in_nI (by omega) (by omega)) ?_
        rw [nI_1, et]
        refine ih (to + 1) m' I' _ (by omega) (by omega) hp' (hF'.tr ⟨fun _ _ => rfl, fun a _ h => by rw [u2_o h], by rw [u2_o (by decide)], by rw [u2_o (by decide)]⟩) (g2.of hk4 (fun _ _ _ => rfl) (fun c h1 h2 => by rw [u2_o (by omega)])) (fun t t1 t2 => ?_) (fun t t1 t2 => ?_)
        · by_cases q : t = to
          · rw [q, u2_s]; exact hz
          · rw [u2_k q, h48]; exact hA t t1 (by omega)
        · rw [u2_k (by omega), h48]; exact hB t (by omega) t2
      have no : oadd (f to) (rC L ls k frm to) = none → Go G (fr G m_CU_addDaysCost (d + 3) P) 79 [some (.ref 33), some (.ref o), some (.ref (mcl k)), none, some (.int (nI ls)), some (.int (nI (pf L frm + m'))), some (.int (nI to)), none] [] I' J' := fun h =>
        w_CU_addDaysCost_79 h1 (mes_lt hk4) (w_CU_addDaysCost_80 h1 (mes_lt hk4) (fun _ => nxt (-1) (by rw [h]; rfl)) (fun c => absurd rfl c) (fun c => absurd rfl c))
      cases hfx : f to with
      | none =>
        rw [hfx] at hv no
        have hm1 : J' 48 (nI to).toNatClampNeg = -1 := by rw [et]; exact hv
        refine w_CU_addDaysCost_52 h1 (mes_lt hk4) (vp_in_nI (by omega) (by omega)) (fun _ => no ?_) (fun c => absurd hm1 c) (fun c => absurd hm1 c)
        unfold oadd; rfl
      | some x =>
        have hxb := hf to x hfx
        rw [hfx] at hv no nxt
        have hv : J' 48 to = lI (x : Int) := hv
        have hm1 : ¬ J' 48 (nI to).toNatClampNeg = -1 := by rw [et, hv, show (-1 : Int64) = lI (-1) from rfl, lI_inj (by omega) (by omega)]; omega
        refine w_CU_addDaysCost_52 h1 (mes_lt hk4) (vp_in_nI (by omega) (by omega)) (fun c => absurd c hm1) (fun _ c => no ?_) (fun _ c => ?_)
        · rw [hrc, if_pos (hcmp.mp c)]; rfl
        · have hge : ¬ m' < ls := fun h => c (hcmp.mpr h)
          refine w_CU_addDaysCost_80 h1 (mes_lt hk4) (fun c => absurd c (by decide)) (fun _ => vp_in_nI (by omega) (by omega)) (fun _ => ?_)
          refine ms_above hk4 hok (by rw [hF'.2.2.1]; exact h35) (by rw [hF'.2.2.2]; exact h38) h1 (by omega) g2 (w_CU_addDaysCost_107 h1 (mes_lt hk4) (nxt _ ?_))
          rw [hrc, if_neg hge, et, hv, ← nK_eq, lI_add]
          rfl
    by_cases hy : pf L to < L.length ∧ dN L (pf L to) = to
    · have e5 : (nI (pf L frm + m)).toNatClampNeg = pf L frm + m := nI_clamp (by omega)
      have hP' := hP.fa hF h1
      have hlt : ¬ I o 4 ≤ nI (pf L frm + m) := by rw [hP'.1.1]; exact nI_ge (by omega) (by omega)
      have ed : I (o + 2) (nI (pf L frm + m)).toNatClampNeg = nI to := by
        rw [e5, (hP'.1.2 _ (by omega)).1, ← hpf]
        show nI (dN L (pf L to)) = nI to
        rw [hy.2]
      have hst := pf_stepY hok hy.1 hy.2
      refine w_CU_addDaysCost_14 h1 (mes_lt hk4) (fun c => absurd c hc) (fun _ c => absurd c hlt) (fun _ _ => vp_in_nI (by omega) (by omega)) (fun _ _ c => absurd ed c) (fun _ _ _ => ?_)
      refine ms_extend hk4 hok h1 hP' (by omega) hM (fun I' J' g1 g2 => w_CU_addDaysCost_49 h1 (mes_lt hk4) ?_)
      rw [nI_1]
      exact C52 (m + 1) I' J' g1 g2 (by omega)
    · have e5 : (nI (pf L frm + m)).toNatClampNeg = pf L frm + m := nI_clamp (by omega)
      have hP' := hP.fa hF h1
      have hst := pf_stepN hy
      have hgo := C52 m I J FM.rf hM (by omega)
      refine w_CU_addDaysCost_14 h1 (mes_lt hk4) (fun c => absurd c hc) (fun _ _ => hgo) (fun _ c => ?_) (fun _ _ _ => hgo) (fun _ c1 c2 => ?_)
      · have : ¬ L.length ≤ pf L frm + m := fun h => c (by rw [hP'.1.1]; exact nI_le h (by omega))
        exact vp_in_nI (by omega) (by omega)
      · exfalso
        have hlt : pf L frm + m < L.length := by
          have : ¬ L.length ≤ pf L frm + m := fun h => c1 (by rw [hP'.1.1]; exact nI_le h (by omega))
          omega
        rw [e5, (hP'.1.2 _ hlt).1, ← hpf] at c2
        have c2 : nI (dN L (pf L to)) = nI to := c2
        have hd := dN_lt hok (show pf L to < L.length by omega)
        rw [nI_eq (by omega) (by omega)] at c2
        exact hy ⟨by omega, c2⟩
theorem sp_addDays {k : Nat} (hk : k = 1 ∨ k = 3) {L : List Pt} {o ls frm : Nat} (f : Nat → Option Nat) (hok : okP L) (h1 : PtsAt o) (hP : PF o L I) (h35 : J 35 1 = 0) (h38 : J 38 1 = 20) (hls : ls ≤ 100) (hfr : frm < 40) (hf : ∀ t x, f t = some x → x ≤ 1000000000) (hc : ∀ t, frm ≤ t → t < 40 → J 48 t = eO (f t)) (hq : ∀ I' J', FA I J I' J' → (∀ t, frm ≤ t → t < 40 → J' 48 t = eO (oadd (f t) (rC L ls k frm t))) → P none I' J') : Ct G (d + 3) m_CU_addDaysCost [.ref 33, .ref o, .ref (mcl k), .int (nI frm), .int (nI ls)] P I J := by
  have hk4 : k < 4 := by omega
  refine Ct.ofGo [some (.ref 33), some (.ref o), some (.ref (mcl k)), some (.int (nI frm)), some (.int (nI ls)), none, none, none] (by decide +kernel) rfl (Nat.le_of_ble_eq_true rfl) (w_CU_addDaysCost_0 h1 (mes_lt hk4) (ms_restart hk4 (L := L) (a := pf L frm) (fun I' J' g1 g2 => w_CU_addDaysCost_4 h1 (mes_lt hk4) ?_)))
  refine sp_ffrom h1 hok (hP.of g1 h1) (by omega) (w_CU_addDaysCost_9 h1 (mes_lt hk4) ?_)
  exact ad_loop hk f hok h1 hP h35 h38 hls hf hq (40 - frm) frm 0 I' J' (by omega) (Nat.le_refl _) rfl g1.a g2 (fun t t1 t2 => by omega) (fun t t1 t2 => by rw [(g1.1 48 (by omega)).2]; exact hc t t1 t2)
end
