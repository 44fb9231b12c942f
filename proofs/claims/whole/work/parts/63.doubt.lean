/-! ===== doubt ===== -/
def vl (L : List Pt) (a m : Nat) : List Int := (seg L a m).map fun p => p.2.toInt
theorem vl_len {L : List Pt} {a m : Nat} (h : a + m ≤ L.length) : (vl L a m).length = m := by unfold vl; rw [List.length_map, seg_len h]
theorem seg_cons {L : List Pt} {a m : Nat} (h : a + (m + 1) ≤ L.length) : seg L a (m + 1) = L.getD a (0, 0) :: seg L (a + 1) m := by
  have ha : a < L.length := by omega
  unfold seg
  rw [List.drop_eq_getElem_cons ha, List.take_succ_cons, getD_lt ha]
theorem vl_cons {L : List Pt} {a m : Nat} (h : a + (m + 1) ≤ L.length) : vl L a (m + 1) = (L.getD a (0, 0)).2.toInt :: vl L (a + 1) m := by
  unfold vl; rw [seg_cons h, List.map_cons]
theorem seg_get {L : List Pt} {a m p : Nat} (h : a + m ≤ L.length) (hp : p < m) : (seg L a m).getD p (0, 0) = L.getD (a + p) (0, 0) := by
  unfold seg
  rw [List.getD_eq_getElem?_getD, List.getD_eq_getElem?_getD, List.getElem?_take_of_lt hp, List.getElem?_drop]
theorem vl_get {L : List Pt} {a m p : Nat} (h : a + m ≤ L.length) (hp : p < m) : (vl L a m).getD p 0 = (L.getD (a + p) (0, 0)).2.toInt := by
  have hl := seg_len h
  rw [← seg_get h hp, getD_lt (show p < (vl L a m).length by rw [vl_len h]; exact hp), getD_lt (show p < (seg L a m).length by omega)]
  simp [vl]
theorem sV_ext {L : List Pt} {a m : Nat} (h : a + m < L.length) : sV (seg L a (m + 1)) = sV (seg L a m) + (L.getD (a + m) (0, 0)).2.toInt := by
  unfold sV; rw [seg_ext h, sm_app, sm_1]
theorem val_b {L : List Pt} (hok : okP L) {i : Nat} (hi : i < L.length) : -1000 ≤ (L.getD i (0, 0)).2.toInt ∧ (L.getD i (0, 0)).2.toInt ≤ 1000 := by
  have := hok.2.1 (L.getD i (0, 0)) (by rw [getD_lt hi]; exact List.getElem_mem hi)
  exact this.2
theorem sV_b {L : List Pt} (hok : okP L) (a m : Nat) : -40000 ≤ sV (seg L a m) ∧ sV (seg L a m) ≤ 40000 := by
  have h40 : (seg L a m).length ≤ 40 := by
    have h1 := hok.1
    have : (seg L a m).length ≤ L.length := by simp [seg]; omega
    omega
  exact (sums_b (seg_okV hok) h40).1
def dbFar (L : List Pt) (a n c : Nat) : Nat := ((n : Int) * sV (seg L a c) - (c : Int) * sV (seg L a n)).natAbs
def dbP (L : List Pt) (a n c : Nat) : Int → Bool := fun s => decide (dbFar L a n c ≤ s.natAbs)
def dbS (L : List Pt) (a n c : Nat) : Int := -((c : Int) * sV (seg L a n))
def dbGr (L : List Pt) (a n c : Nat) : Nat := cw (dbP L a n c) (n : Int) (vl L a n) c (dbS L a n c)
def dbA (L : List Pt) (a n c : Nat) : Int32 := Int64.toInt32 ((1000000 * lI ((dbGr L a n c : Nat) : Int)) / lI ((cho n c : Nat) : Int))
theorem absJ {z : Int} (h1 : -1000000000000 ≤ z) (h2 : z ≤ 1000000000000) : f_JM_abs_J (lI z) = lI (z.natAbs : Int) := by
  unfold f_JM_abs_J
  have h0 : ((0 : Int64) ≤ lI z) ↔ 0 ≤ z := by rw [show (0 : Int64) = lI 0 from rfl, lI_le (by omega) (by omega)]
  by_cases q : (0 : Int64) ≤ lI z
  · rw [if_pos q]; have := h0.mp q; rw [show (z.natAbs : Int) = z by omega]
  · rw [if_neg q]; have : ¬ 0 ≤ z := fun h => q (h0.mpr h)
    rw [show (0 : Int64) = lI 0 from rfl, lI_sub, show (z.natAbs : Int) = 0 - z by omega]
theorem amtJ {z : Int} (h1 : -1000000000000 ≤ z) (h2 : z ≤ 1000000000000) : f_RM_amount (lI z) = lI (z.natAbs : Int) := absJ h1 h2
theorem mulb {a b A B : Int} (ha : -A ≤ a ∧ a ≤ A) (hb : -B ≤ b ∧ b ≤ B) : -(A * B) ≤ a * b ∧ a * b ≤ A * B := mb ha hb
section
variable {G : GC} {d : Nat} {P : PT} {I : MI} {J : MJ}
theorem sp_waf {L : List Pt} {o sc far e : Nat} (h1 : PtsAt o) (hok : okP L) (hP : PF o L I) (hsc : sc ≤ 16) (hfar : far ≤ 1000000000) (he : e ≤ L.length) : ∀ (m a k : Nat) (s : Int) (P : PT), a + m = e → m ≤ 16 → k ≤ 16 → -(1000000000 : Int) + 16000 * (m : Int) ≤ s → s + 16000 * (m : Int) ≤ 1000000000 → P (some (.long (lI ((cw (fun s => decide (far ≤ s.natAbs)) (sc : Int) (vl L a m) k s : Nat) : Int)))) I J → Ct G (d + (m + 1)) m_CH_waysAsFar [.ref o, .int (nI a), .int (nI e), .int (nI k), .long (lI s), .long (lI (far : Int)), .int (nI sc)] P I J := by
  have hl := hok.1
  intro m
  induction m with
  | zero =>
    intro a k s P ha _ hk16 hs1 hs2 hq
    refine Ct.ofGo [some (.ref o), some (.int (nI a)), some (.int (nI e)), some (.int (nI k)), some (.long (lI s)), none, some (.long (lI (far : Int))), none, some (.int (nI sc)), none, none] (by decide +kernel) rfl (Nat.le_of_ble_eq_true rfl) ?_
    have em : nI e - nI a = nI 0 := by rw [nI_sub (by omega)]; congr 1; omega
    cases k with
    | zero =>
      have h0 : nI 0 = 0 := nI_0
      rw [cw_0] at hq
      have hc : (f_JM_abs_J (lI s) < lI (far : Int)) ↔ ¬ far ≤ s.natAbs := by rw [absJ (by omega) (by omega), lI_lt (by omega) (by omega)]; omega
      refine w_CH_waysAsFar_0 (d := d + 0) h1 (fun c => absurd h0 c) (fun c => absurd h0 c) (fun c => absurd h0 c) (fun c => absurd h0 c) (fun _ c => ?_) (fun _ c => ?_)
      · rw [if_neg (by rw [decide_eq_true_eq]; exact hc.mp c)] at hq; exact hq
      · rw [if_pos (by rw [decide_eq_true_eq]; exact Decidable.not_not.mp (fun h => c (hc.mpr h)))] at hq; exact hq
    | succ k =>
      have h0 : ¬ nI (k + 1) = 0 := nI_ne0 (by omega) (by omega)
      have hlt : nI e - nI a < nI (k + 1) := by rw [em]; exact nI_lt (by omega) (by omega)
      rw [cw_short _ _ _ _ _ (by rw [vl_len (by omega)]; omega)] at hq
      exact w_CH_waysAsFar_0 (d := d + 0) h1 (fun _ _ => w_CH_waysAsFar_36 hq) (fun _ c => absurd hlt c) (fun _ c => absurd hlt c) (fun _ c => absurd hlt c) (fun c => absurd c h0) (fun c => absurd c h0)
  | succ m ih =>
    intro a k s P ha hm16 hk16 hs1 hs2 hq
    refine Ct.ofGo [some (.ref o), some (.int (nI a)), some (.int (nI e)), some (.int (nI k)), some (.long (lI s)), none, some (.long (lI (far : Int))), none, some (.int (nI sc)), none, none] (by decide +kernel) rfl (Nat.le_of_ble_eq_true rfl) ?_
    have em : nI e - nI a = nI (m + 1) := by rw [nI_sub (by omega)]; congr 1; omega
    cases k with
    | zero =>
      have h0 : nI 0 = 0 := nI_0
      rw [cw_0] at hq
      have hc : (f_JM_abs_J (lI s) < lI (far : Int)) ↔ ¬ far ≤ s.natAbs := by rw [absJ (by omega) (by omega), lI_lt (by omega) (by omega)]; omega
      refine w_CH_waysAsFar_0 (d := d + (m + 1)) h1 (fun c => absurd h0 c) (fun c => absurd h0 c) (fun c => absurd h0 c) (fun c => absurd h0 c) (fun _ c => ?_) (fun _ c => ?_)
      · rw [if_neg (by rw [decide_eq_true_eq]; exact hc.mp c)] at hq; exact hq
      · rw [if_pos (by rw [decide_eq_true_eq]; exact Decidable.not_not.mp (fun h => c (hc.mpr h)))] at hq; exact hq
    | succ k =>
      have h0 : ¬ nI (k + 1) = 0 := nI_ne0 (by omega) (by omega)
      by_cases hlt : m + 1 < k + 1
      · have hlt' : nI e - nI a < nI (k + 1) := by rw [em]; exact nI_lt (by omega) (by omega)
        rw [cw_short _ _ _ _ _ (by rw [vl_len (by omega)]; omega)] at hq
        exact w_CH_waysAsFar_0 (d := d + (m + 1)) h1 (fun _ _ => w_CH_waysAsFar_36 hq) (fun _ c => absurd hlt' c) (fun _ c => absurd hlt' c) (fun _ c => absurd hlt' c) (fun c => absurd c h0) (fun c => absurd c h0)
      · have hlt' : ¬ nI e - nI a < nI (k + 1) := by rw [em]; exact nI_nlt (by omega) (by omega)
        have h16 : nI e - nI a ≤ 16 := by rw [em]; exact nI_le (b := 16) (by omega) (by omega)
        have ea : (nI a).toNatClampNeg = a := nI_clamp (by omega)
        have hv := val_b hok (show a < L.length by omega)
        have hm2 := mulb (a := (sc : Int)) (b := (L.getD a (0, 0)).2.toInt) (A := 16) (B := 1000) (by omega) (by omega)
        rw [vl_cons (by omega)] at hq
        refine w_CH_waysAsFar_0 (d := d + (m + 1)) h1 (fun _ c => absurd c hlt') (fun _ _ _ => vp_in_nI (by omega) (by omega)) (fun _ _ _ => ?_) (fun _ _ c => absurd h16 c) (fun c => absurd c h0) (fun c => absurd c h0)
        rw [ea, (hP.1.2 a (by omega)).2, nI_lI (by omega), lI_32, lI_mul, lI_add, nI_1, nI_pred]
        refine ih (a + 1) k _ _ (by omega) (by omega) (by omega) (by omega) (by omega) ?_
        refine w_CH_waysAsFar_71 (d := d + (m + 1)) h1 ?_
        rw [nI_1]
        refine ih (a + 1) (k + 1) _ _ (by omega) (by omega) (by omega) (by omega) (by omega) ?_
        refine w_CH_waysAsFar_86 ?_
        rw [lI_add]
        exact hq
theorem osp_loop {L : List Pt} {o a n c : Nat} (h1 : PtsAt o) (hok : okP L) (hP : PF o L I) (han : a + n ≤ L.length) (hc : c ≤ n) (hq : Go G (fr G m_CH_ofSplit (d + 21) P) 19 [some (.ref o), some (.int (nI a)), some (.int (nI (a + c))), some (.int (nI (a + n))), some (.int (nI n)), some (.int (nI c)), some (.long (lI (sV (seg L a n)))), none, some (.long (lI (sV (seg L a c)))), none, some (.int (nI (a + n))), none] [] I J) : ∀ (r j : Nat), j + r = n → Go G (fr G m_CH_ofSplit (d + 21) P) 19 [some (.ref o), some (.int (nI a)), some (.int (nI (a + c))), some (.int (nI (a + n))), some (.int (nI n)), some (.int (nI c)), some (.long (lI (sV (seg L a j)))), none, some (.long (lI (sV (seg L a (min j c))))), none, some (.int (nI (a + j))), none] [] I J := by
  have hl := hok.1
  intro r
  induction r with
  | zero =>
    intro j hj
    obtain rfl : j = n := by omega
    rw [show min j c = c by omega]
    exact hq
  | succ r ih =>
    intro j hj
    have hlt : ¬ nI (a + n) ≤ nI (a + j) := nI_ge (by omega) (by omega)
    have ej : (nI (a + j)).toNatClampNeg = a + j := nI_clamp (by omega)
    have hnx := ih (j + 1) (by omega)
    rw [sV_ext (show a + j < L.length by omega)] at hnx
    refine w_CH_ofSplit_19 h1 (fun c => absurd c hlt) (fun _ => vp_in_nI (by omega) (by omega)) (fun _ q => ?_) (fun _ q => ?_)
    · have q := (nI_leI (by omega) (by omega)).mp q
      rw [ej, (hP.1.2 _ (show a + j < L.length by omega)).2, lI_32, lI_add]
      refine w_CH_ofSplit_58 h1 ?_
      rw [nI_1, Int64.add_zero]
      rw [show min (j + 1) c = min j c by omega] at hnx
      exact hnx
    · have q : ¬ a + c ≤ a + j := fun h => q ((nI_leI (by omega) (by omega)).mpr h)
      rw [ej, (hP.1.2 _ (show a + j < L.length by omega)).2, lI_32, lI_add]
      refine w_CH_ofSplit_58 h1 ?_
      rw [nI_1, lI_add]
      rw [show min (j + 1) c = j + 1 by omega, sV_ext (show a + j < L.length by omega)] at hnx
      rw [show min j c = j by omega]
      exact hnx
theorem sp_ofSplit {L : List Pt} {o a n c : Nat} (h1 : PtsAt o) (hok : okP L) (hP : PF o L I) (han : a + n ≤ L.length) (hc : c ≤ n) (hn : n ≤ 16) (hq : P (some (.int (dbA L a n c))) I J) : Ct G (d + 21) m_CH_ofSplit [.ref o, .int (nI a), .int (nI (a + c)), .int (nI (a + n))] P I J := by
  have hl := hok.1
  have b1 := sV_b hok a c
  have b2 := sV_b hok a n
  have m1 := mulb (a := (n : Int)) (b := sV (seg L a c)) (A := 16) (B := 40000) (by omega) (by omega)
  have m2 := mulb (a := (c : Int)) (b := sV (seg L a n)) (A := 16) (B := 40000) (by omega) (by omega)
  refine Ct.ofGo [some (.ref o), some (.int (nI a)), some (.int (nI (a + c))), some (.int (nI (a + n))), none, none, none, none, none, none, none, none] (by decide +kernel) rfl (Nat.le_of_ble_eq_true rfl) (w_CH_ofSplit_0 h1 ?_)
  rw [nI_sub (show a ≤ a + n by omega), nI_sub (show a ≤ a + c by omega), show a + n - a = n by omega, show a + c - a = c by omega]
  have hfin : Go G (fr G m_CH_ofSplit (d + 21) P) 19 [some (.ref o), some (.int (nI a)), some (.int (nI (a + c))), some (.int (nI (a + n))), some (.int (nI n)), some (.int (nI c)), some (.long (lI (sV (seg L a n)))), none, some (.long (lI (sV (seg L a c)))), none, some (.int (nI (a + n))), none] [] I J := by
    have hle : nI (a + n) ≤ nI (a + n) := nI_le (Nat.le_refl _) (by omega)
    refine w_CH_ofSplit_19 h1 (fun _ => ?_) (fun c => absurd hle c) (fun c => absurd hle c) (fun c => absurd hle c)
    have e1 : Int32.toInt64 (0 - nI c) = lI (-(c : Int)) := by
      rw [lI_32, ti_sub (by rw [nI_ti (by omega)]; have : (0 : Int32).toInt = 0 := rfl; omega) (by rw [nI_ti (by omega)]; have : (0 : Int32).toInt = 0 := rfl; omega), nI_ti (by omega)]
      congr 1; have : (0 : Int32).toInt = 0 := rfl; omega
    have e2 : -(c : Int) * sV (seg L a n) = dbS L a n c := by unfold dbS; rw [Int.neg_mul]
    rw [e1, nI_lI (by omega), nI_lI (by omega), lI_mul, lI_mul, lI_mul, lI_sub, absJ (by omega) (by omega), e2]
    have hs : dbS L a n c = -((c : Int) * sV (seg L a n)) := rfl
    have hw := sp_waf (G := G) (d := d + (19 - n)) (I := I) (J := J) (L := L) (o := o) (sc := n) (far := dbFar L a n c) (e := a + n) h1 hok hP hn (by unfold dbFar; omega) han n a c (dbS L a n c)
    rw [show d + (19 - n) + (n + 1) = d + 20 by omega] at hw
    refine hw _ rfl hn (by omega) (by omega) (by omega) (w_CH_ofSplit_104 (sp_ways (by omega) (by omega) (w_CH_ofSplit_111 ?_)))
    refine sp_millionths (chs_b (by omega) (by omega) hc) (w_CH_ofSplit_114 ?_)
    rw [chs_cho (by omega) hc]
    exact hq
  have h0 := osp_loop (G := G) (d := d) (P := P) (J := J) h1 hok hP han hc hfin n 0 (by omega)
  rw [Nat.zero_min, seg_0] at h0
  exact h0
end
def doubtN (st : ST) (r K i : Nat) : Int32 :=
  if (Dp (cR st r 0) (nR st r) K 0).isSome = true then
    (if plc (cR st r 0) (nR st r) K (i + 1) - plc (cR st r 0) (nR st r) K (i - 1) ≤ 16 then dbA (pts st r) (plc (cR st r 0) (nR st r) K (i - 1)) (plc (cR st r 0) (nR st r) K (i + 1) - plc (cR st r 0) (nR st r) K (i - 1)) (plc (cR st r 0) (nR st r) K i - plc (cR st r 0) (nR st r) K (i - 1)) else -4)
  else -3
def doubtA (st : ST) (r K i : Int32) : Int32 :=
  if f_LB_isRow r = 0 ∨ f_LB_isWithin K 2 6 = 0 ∨ f_LB_isWithin i 1 (K - 1) = 0 then -2 else doubtN st r.toNatClampNeg K.toNatClampNeg i.toNatClampNeg
theorem plc_up {c : CC} {n K i : Nat} (h : (Dp c n K 0).isSome = true) (hi : i < K) : plc c n K i < plc c n K (i + 1) := by
  obtain ⟨h1, h2, -⟩ := plc_ok h i (by omega)
  obtain ⟨t, ht⟩ := Option.isSome_iff_exists.mp h1
  have e : plc c n K (i + 1) = t.2 := by show (match Dp c n (K - i) (plc c n K i) with | none => _ | some t => _) = _; rw [ht]
  rw [show K - i = (K - i - 1) + 1 by omega] at ht
  obtain ⟨g1, g2, -⟩ := Dp_nx ht
  omega
