/-! ===== together ===== -/
def dN (L : List Pt) (i : Nat) : Nat := (L.getD i (0, 0)).1
theorem dN_lt {L : List Pt} (h : okP L) {i : Nat} (hi : i < L.length) : dN L i < 40 := by
  have := h.2.1 (L.getD i (0, 0)) (by rw [getD_lt hi]; exact List.getElem_mem hi)
  exact this.1
def nrB (D : Nat → Nat) (K r x : Nat) : Bool := (List.range K).any fun i => decide (1 ≤ i ∧ ((D i : Int) - x).natAbs ≤ r)
theorem nrB_t {D : Nat → Nat} {K r x i : Nat} (h1 : 1 ≤ i) (h2 : i < K) (h : ((D i : Int) - x).natAbs ≤ r) : nrB D K r x = true :=
  List.any_eq_true.mpr ⟨i, List.mem_range.mpr h2, decide_eq_true ⟨h1, h⟩⟩
theorem nrB_f {D : Nat → Nat} {K r x : Nat} (h : ∀ i, 1 ≤ i → i < K → ¬ ((D i : Int) - x).natAbs ≤ r) : nrB D K r x = false := by
  rw [← Bool.not_eq_true]
  intro c
  obtain ⟨i, hi, hd⟩ := List.any_eq_true.mp c
  have := of_decide_eq_true hd
  exact h i this.1 (List.mem_range.mp hi) this.2
theorem nrB_congr {D D' : Nat → Nat} {K r x : Nat} (h : ∀ i, i < K → D i = D' i) : nrB D K r x = nrB D' K r x := by
  by_cases q : nrB D K r x = true
  · obtain ⟨i, hi, hd⟩ := List.any_eq_true.mp q
    have := of_decide_eq_true hd
    rw [q, nrB_t this.1 (List.mem_range.mp hi) (by rw [← h i (List.mem_range.mp hi)]; exact this.2)]
  · have q' : nrB D K r x = false := by simpa using q
    rw [q']; symm
    exact nrB_f (fun i h1 h2 c => q (nrB_t h1 h2 (by rw [h i h2]; exact c)))
theorem subI {a b : Nat} (ha : a < 40) (hb : b < 40) : (nI a - nI b).toInt = (a : Int) - b := by
  rw [ti_sub (by rw [nI_ti (by omega), nI_ti (by omega)]; omega) (by rw [nI_ti (by omega), nI_ti (by omega)]; omega), nI_ti (by omega), nI_ti (by omega)]
theorem absI {a b r : Nat} (ha : a < 40) (hb : b < 40) (hr : r ≤ 9) : (nI r < f_JM_abs_I (nI a - nI b)) ↔ r < ((a : Int) - b).natAbs := by
  have hs := subI ha hb
  have z : (0 : Int32).toInt = 0 := rfl
  unfold f_JM_abs_I
  by_cases q : (0 : Int32) ≤ nI a - nI b
  · rw [if_pos q, ti_lt, nI_ti (by omega), hs]
    rw [ti_le, hs, z] at q
    omega
  · rw [if_neg q]
    rw [ti_le, hs, z] at q
    rw [ti_lt, nI_ti (by omega), ti_sub (by rw [hs, z]; omega) (by rw [hs, z]; omega), hs, z]
    omega
theorem absR {a b r : Nat} (ha : a < 40) (hb : b < 40) (hr : r ≤ 9) : (Int32.toInt64 (nI r) < f_RM_amount (Int32.toInt64 (nI a - nI b))) ↔ r < ((b : Int) - a).natAbs := by
  have hs := subI ha hb
  rw [amt_lI (by rw [hs]; omega) (by rw [hs]; omega), nI_lI (by omega), lI_lt (by omega) (by rw [hs]; omega), hs]
  omega
def ndB (D : Nat → Nat) (K r : Nat) : Nat → Nat
  | 0 => 0
  | m + 1 => ndB D K r m + (if nrB D K r (m + 1) = true then 1 else 0)
theorem ndB_le (D : Nat → Nat) (K r : Nat) : ∀ m, ndB D K r m ≤ m := by
  intro m
  induction m with
  | zero => exact Nat.le_refl _
  | succ m ih => show ndB D K r m + _ ≤ _; split <;> omega
def hitN (D1 D2 : Nat → Nat) (K r : Nat) : Nat → Nat
  | 0 => 0
  | m + 1 => hitN D1 D2 K r m + (if nrB D2 K r (D1 (m + 1)) = true then 1 else 0)
theorem hitN_le (D1 D2 : Nat → Nat) (K r : Nat) : ∀ m, hitN D1 D2 K r m ≤ m := by
  intro m
  induction m with
  | zero => exact Nat.le_refl _
  | succ m ih => show hitN D1 D2 K r m + _ ≤ _; split <;> omega
def hsm (nr cd h : Nat) : Nat → Nat
  | 0 => 0
  | m + 1 => hsm nr cd h m + chs nr (h + m) * chs (39 - nr) (cd - (h + m))
def chanceA (nr cd h : Nat) : Int32 := Int64.toInt32 ((1000000 * lI ((hsm nr cd h (cd + 1 - h) : Nat) : Int)) / lI ((chs 39 cd : Nat) : Int))
theorem chs_b {n k : Nat} (hn : n < 40) (hk : k < 17) (hkn : k ≤ n) : 1 ≤ chs n k ∧ chs n k ≤ 100000000000 := by
  unfold chs; rw [if_pos hkn]; exact chi_b hn hk hkn (Nat.le_refl _)
def dyP (st : ST) (r k K i : Nat) : Nat := dN (pts st r) (plc (cR st r k) (nR st r) K i)
def togN (st : ST) (r o k K rr : Nat) (w : Int32) : Int32 :=
  if (Dp (cR st r k) (nR st r) K 0).isSome = true ∧ (Dp (cR st o k) (nR st o) K 0).isSome = true then
    (if w = 0 then nI (hitN (dyP st r k K) (dyP st o k K) K rr (K - 1)) else chanceA (ndB (dyP st o k K) K rr 39) (K - 1) (hitN (dyP st r k K) (dyP st o k K) K rr (K - 1)))
  else -3
def togBad (r o kd K rr w : Int32) : Prop := f_LB_isRow r = 0 ∨ f_LB_isRow o = 0 ∨ r = o ∨ f_LB_isKind kd = 0 ∨ f_LB_isWithin K 2 6 = 0 ∨ f_LB_isWithin rr 0 9 = 0 ∨ f_LB_isWithin w 0 1 = 0
theorem tog_dec (r o kd K rr w : Int32) : togBad r o kd K rr w ∨ ¬ togBad r o kd K rr w := Classical.em _
noncomputable def togA (st : ST) (r o kd K rr w : Int32) : Int32 :=
  @ite _ (togBad r o kd K rr w) (Classical.propDecidable _) (-2) (togN st r.toNatClampNeg o.toNatClampNeg kd.toNatClampNeg K.toNatClampNeg rr.toNatClampNeg w)
theorem togA_b {st : ST} {r o kd K rr w : Int32} (h : togBad r o kd K rr w) : togA st r o kd K rr w = -2 := by unfold togA; rw [if_pos h]
theorem togA_n {st : ST} {r o kd K rr w : Int32} (h : ¬ togBad r o kd K rr w) : togA st r o kd K rr w = togN st r.toNatClampNeg o.toNatClampNeg kd.toNatClampNeg K.toNatClampNeg rr.toNatClampNeg w := by unfold togA; rw [if_neg h]
theorem isW26 {x : Int32} (h : ¬ f_LB_isWithin x 2 6 = 0) : ∃ K, 2 ≤ K ∧ K ≤ 6 ∧ x = nI K := by
  obtain ⟨h1, h2⟩ := isW1.mp h
  rw [ti_le] at h1 h2
  have z1 : (2 : Int32).toInt = 2 := rfl
  have z2 : (6 : Int32).toInt = 6 := rfl
  refine ⟨x.toInt.toNat, by omega, by omega, ?_⟩
  rw [ti_eq, nI_ti (by omega)]; omega
section
variable {G : GC} {d : Nat} {P : PT} {I : MI} {J : MJ}
theorem snr_loop {L : List Pt} {o K : Nat} {f : Nat → Nat} {r x : Nat} (h1 : PtsAt o) (hok : okP L) (hK6 : K ≤ 6) (hP : PF o L I) (hf : ∀ i, i < K → f i < L.length ∧ I 49 i = nI (f i)) (hr : r ≤ 9) (hx : x < 40) (hq : P (some (.int (if nrB (fun i => dN L (f i)) K r x = true then 1 else 0))) I J) : ∀ (m i : Nat), i + m = K → (∀ j, 1 ≤ j → j < i → ¬ ((dN L (f j) : Int) - x).natAbs ≤ r) → 1 ≤ i → Go G (fr G m_CU_startsNear (d + 1) P) 3 [some (.ref 33), some (.ref o), some (.int (nI K)), some (.int (nI x)), some (.int (nI r)), some (.int (nI i))] [] I J := by
  have hl := hok.1
  intro m
  induction m with
  | zero =>
    intro i hi hv _
    obtain rfl : i = K := by omega
    have hle : nI i ≤ nI i := nI_le (Nat.le_refl _) (by omega)
    refine w_CU_startsNear_3 h1 (fun _ => ?_) (fun c => absurd hle c)
    rw [nrB_f hv] at hq
    exact hq
  | succ m ih =>
    intro i hi hv hi1
    have hc : ¬ nI K ≤ nI i := nI_ge (by omega) (by omega)
    obtain ⟨f1, f2⟩ := hf i (by omega)
    have ei : (nI i).toNatClampNeg = i := nI_clamp (by omega)
    refine w_CU_startsNear_3 h1 (fun c => absurd c hc) (fun _ => ?_)
    refine Ct.ofGo [some (.ref 33), some (.ref o), some (.int (nI i))] (by decide +kernel) rfl (Nat.le_of_ble_eq_true rfl) (w_CU_startDay_0 h1 (vp_in_nI (by omega) (by omega)) (by rw [ei, f2]; exact vp_in_nI (by omega) (by omega)) ?_)
    rw [ei, f2, nI_clamp (show f i < 2 ^ 31 by omega), (hP.1.2 _ f1).1]
    have hd : dN L (f i) < 40 := dN_lt hok f1
    refine w_CU_startsNear_16 h1 (fun c => ?_) (fun c => ?_)
    · have c := (absI hd hx hr).mp c
      rw [nI_1]
      refine ih (i + 1) (by omega) (fun j j1 j2 => ?_) (by omega)
      by_cases q : j = i
      · rw [q]; omega
      · exact hv j j1 (by omega)
    · have c : ¬ r < ((dN L (f i) : Int) - x).natAbs := fun h => c ((absI hd hx hr).mpr h)
      rw [nrB_t (D := fun i => dN L (f i)) hi1 (show i < K by omega) (by omega)] at hq
      exact hq
theorem sp_startsNear {L : List Pt} {o K : Nat} {f : Nat → Nat} {r x : Nat} (h1 : PtsAt o) (hok : okP L) (hK1 : 1 ≤ K) (hK6 : K ≤ 6) (hP : PF o L I) (hf : ∀ i, i < K → f i < L.length ∧ I 49 i = nI (f i)) (hr : r ≤ 9) (hx : x < 40) (hq : P (some (.int (if nrB (fun i => dN L (f i)) K r x = true then 1 else 0))) I J) : Ct G (d + 1) m_CU_startsNear [.ref 33, .ref o, .int (nI K), .int (nI x), .int (nI r)] P I J :=
  Ct.ofGo [some (.ref 33), some (.ref o), some (.int (nI K)), some (.int (nI x)), some (.int (nI r)), none] (by decide +kernel) rfl (Nat.le_of_ble_eq_true rfl) (w_CU_startsNear_0 h1 (snr_loop h1 hok hK6 hP hf hr hx hq (K - 1) 1 (by omega) (fun j j1 j2 => by omega) (by omega)))
theorem dnr_loop {L : List Pt} {o K : Nat} {f : Nat → Nat} {r : Nat} (h1 : PtsAt o) (hok : okP L) (hK1 : 1 ≤ K) (hK6 : K ≤ 6) (hP : PF o L I) (hf : ∀ i, i < K → f i < L.length ∧ I 49 i = nI (f i)) (hr : r ≤ 9) (hq : P (some (.int (nI (ndB (fun i => dN L (f i)) K r 39)))) I J) : ∀ (s m : Nat), m + s = 39 → Go G (fr G m_LB_daysNear (d + 2) P) 6 [some (.ref 0), some (.ref o), some (.int (nI K)), some (.int (nI r)), some (.int (nI (ndB (fun i => dN L (f i)) K r m))), some (.int (nI (m + 1)))] [] I J := by
  intro s
  induction s with
  | zero =>
    intro m hm
    obtain rfl : m = 39 := by omega
    have hle : (40 : Int32) ≤ nI (39 + 1) := by decide
    exact w_LB_daysNear_6 h1 (fun _ => hq) (fun c => absurd hle c)
  | succ s ih =>
    intro m hm
    have hc : ¬ (40 : Int32) ≤ nI (m + 1) := nI_ge (a := m + 1) (b := 40) (by omega) (by omega)
    refine w_LB_daysNear_6 h1 (fun c => absurd c hc) (fun _ => sp_startsNear h1 hok hK1 hK6 hP hf hr (show m + 1 < 40 by omega) ?_)
    have hnx := ih (m + 1) (by omega)
    have e : ndB (fun i => dN L (f i)) K r (m + 1) = ndB (fun i => dN L (f i)) K r m + (if nrB (fun i => dN L (f i)) K r (m + 1) = true then 1 else 0) := rfl
    rw [e] at hnx
    by_cases q : nrB (fun i => dN L (f i)) K r (m + 1) = true
    · rw [if_pos q] at hnx ⊢
      refine w_LB_daysNear_25 h1 (fun c => absurd c (by decide)) (fun _ => w_LB_daysNear_31 h1 ?_)
      rw [nI_1, nI_1]; exact hnx
    · rw [if_neg q] at hnx ⊢
      refine w_LB_daysNear_25 h1 (fun _ => w_LB_daysNear_31 h1 ?_) (fun c => absurd rfl c)
      rw [nI_1]; exact hnx
theorem sp_daysNear {L : List Pt} {o K : Nat} {f : Nat → Nat} {r : Nat} (h1 : PtsAt o) (hok : okP L) (hK1 : 1 ≤ K) (hK6 : K ≤ 6) (hP : PF o L I) (hf : ∀ i, i < K → f i < L.length ∧ I 49 i = nI (f i)) (hr : r ≤ 9) (hq : P (some (.int (nI (ndB (fun i => dN L (f i)) K r 39)))) I J) : Ct G (d + 2) m_LB_daysNear [.ref 0, .ref o, .int (nI K), .int (nI r)] P I J :=
  Ct.ofGo [some (.ref 0), some (.ref o), some (.int (nI K)), some (.int (nI r)), none, none] (by decide +kernel) rfl (Nat.le_of_ble_eq_true rfl) (w_LB_daysNear_0 h1 (dnr_loop h1 hok hK1 hK6 hP hf hr hq 39 0 (by omega)))
theorem sp_millionths {a b : Nat} (hb : 1 ≤ b ∧ b ≤ 100000000000) (hq : P (some (.int (Int64.toInt32 ((1000000 * lI (a : Int)) / lI (b : Int))))) I J) : Ct G d m_CH_millionths [.long (lI (a : Int)), .long (lI (b : Int))] P I J := by
  have hge : (1 : Int64) ≤ lI (b : Int) := by rw [show (1 : Int64) = lI 1 from rfl, lI_le (by omega) (by omega)]; omega
  have hne : ¬ lI (b : Int) = 0 := fun c => by have := (ln_0 (by omega)).mp c; omega
  refine Ct.ofGo [some (.long (lI (a : Int))), none, some (.long (lI (b : Int))), none] (by decide +kernel) rfl (Nat.le_of_ble_eq_true rfl) (w_CH_millionths_0 (fun _ => hne) (fun _ => ?_) (fun c => absurd hge c))
  rw [Int64.mul_comm]; exact hq
theorem oh_loop {nr cd h : Nat} (hnr : nr ≤ 39) (hcd : cd ≤ 5) (hh : h ≤ cd) (hq : P (some (.int (chanceA nr cd h))) I J) : ∀ (s m : Nat), m + s = cd + 1 - h → Go G (fr G m_CH_ofHits (d + 1) P) 9 [some (.int (nI nr)), some (.int (nI cd)), none, some (.int 39), some (.long (lI ((hsm nr cd h m : Nat) : Int))), none, some (.int (nI (h + m)))] [] I J := by
  intro s
  induction s with
  | zero =>
    intro m hm
    have hlt : nI cd < nI (h + m) := nI_lt (by omega) (by omega)
    refine w_CH_ofHits_9 (fun _ => ?_) (fun c => absurd hlt c)
    refine sp_ways (n := 39) (k := cd) (by omega) (by omega) (w_CH_ofHits_50 ?_)
    obtain rfl : m = cd + 1 - h := by omega
    exact sp_millionths (chs_b (by omega) (by omega) (by omega)) (w_CH_ofHits_53 hq)
  | succ s ih =>
    intro m hm
    have hlt : ¬ nI cd < nI (h + m) := nI_nlt (by omega) (by omega)
    refine w_CH_ofHits_9 (fun c => absurd c hlt) (fun _ => ?_)
    refine sp_ways (n := nr) (k := h + m) (by omega) (by omega) (w_CH_ofHits_23 ?_)
    rw [show (39 : Int32) - nI nr = nI (39 - nr) from nI_sub (a := 39) (b := nr) hnr, nI_sub (show h + m ≤ cd by omega)]
    refine sp_ways (n := 39 - nr) (k := cd - (h + m)) (by omega) (by omega) (w_CH_ofHits_33 ?_)
    rw [lI_mul, lI_add, nI_1]
    exact ih (m + 1) (by omega)
theorem sp_ofHits {nr cd h : Nat} (hnr : nr ≤ 39) (hcd : cd ≤ 5) (hh : h ≤ cd) (hq : P (some (.int (chanceA nr cd h))) I J) : Ct G (d + 1) m_CH_ofHits [.int (nI nr), .int (nI cd), .int (nI h)] P I J :=
  Ct.ofGo [some (.int (nI nr)), some (.int (nI cd)), some (.int (nI h)), none, none, none, none] (by decide +kernel) rfl (Nat.le_of_ble_eq_true rfl) (w_CH_ofHits_0 (oh_loop hnr hcd hh hq (cd + 1 - h) 0 (by omega)))
theorem tg_loop {L : List Pt} {o K : Nat} {f : Nat → Nat} {rr : Nat} {D1 : Nat → Nat} {w : Int32} (ho : o < 4) (hok : okP L) (hK : 2 ≤ K) (hK6 : K ≤ 6) (hP : PF (7 + 5 * o) L I) (hf : ∀ i, i < K → f i < L.length ∧ I 49 i = nI (f i)) (hr : rr ≤ 9) (hD : ∀ i, i < K → D1 i < 40 ∧ I 50 i = nI (D1 i)) (hq : P (some (.int (if w = 0 then nI (hitN D1 (fun i => dN L (f i)) K rr (K - 1)) else chanceA (ndB (fun i => dN L (f i)) K rr 39) (K - 1) (hitN D1 (fun i => dN L (f i)) K rr (K - 1))))) I J) : ∀ (s m : Nat), m + s = K - 1 → Go G (fr G m_LB_together (d + 6) P) 110 [some (.ref 0), none, some (.int (nI o)), none, some (.int (nI K)), some (.int (nI rr)), some (.int w), some (.int (nI (hitN D1 (fun i => dN L (f i)) K rr m))), some (.int (nI (m + 1)))] [] I J := by
  have h1 := pts_lt o ho
  have eo : (nI o).toNatClampNeg = o := nI_clamp (by omega)
  intro s
  induction s with
  | zero =>
    intro m hm
    obtain rfl : m = K - 1 := by omega
    have hle : nI K ≤ nI (K - 1 + 1) := nI_le (by omega) (by omega)
    refine w_LB_together_110 (fun _ _ => vp_in_nI ho (by omega)) (fun _ c => ?_) (fun _ c => w_LB_together_186 ?_) (fun c => absurd hle c) (fun c => absurd hle c) (fun c => absurd hle c)
    · rw [if_neg c] at hq
      rw [eo]
      refine sp_daysNear h1 hok (by omega) hK6 hP hf hr (w_LB_together_177 ?_)
      rw [show nI K - 1 = nI (K - 1) by rw [show K = K - 1 + 1 by omega]; exact nI_pred _]
      exact sp_ofHits (ndB_le _ _ _ _) (by omega) (hitN_le _ _ _ _ _) (w_LB_together_186 hq)
    · rw [if_pos c] at hq; exact hq
  | succ s ih =>
    intro m hm
    have hc : ¬ nI K ≤ nI (m + 1) := nI_ge (by omega) (by omega)
    have em : (nI (m + 1)).toNatClampNeg = m + 1 := nI_clamp (by omega)
    obtain ⟨d1, d2⟩ := hD (m + 1) (by omega)
    refine w_LB_together_110 (fun c => absurd c hc) (fun c => absurd c hc) (fun c => absurd c hc) (fun _ => vp_in_nI ho (by omega)) (fun _ => vp_in_nI (by omega) (by omega)) (fun _ => ?_)
    rw [eo, em, d2]
    refine sp_startsNear h1 hok (by omega) hK6 hP hf hr d1 ?_
    have hnx := ih (m + 1) (by omega)
    have e : hitN D1 (fun i => dN L (f i)) K rr (m + 1) = hitN D1 (fun i => dN L (f i)) K rr m + (if nrB (fun i => dN L (f i)) K rr (D1 (m + 1)) = true then 1 else 0) := rfl
    rw [e] at hnx
    by_cases q : nrB (fun i => dN L (f i)) K rr (D1 (m + 1)) = true
    · rw [if_pos q] at hnx ⊢
      refine w_LB_together_141 (fun c => absurd c (by decide)) (fun _ => w_LB_together_147 ?_)
      rw [nI_1, nI_1]; exact hnx
    · rw [if_neg q] at hnx ⊢
      refine w_LB_together_141 (fun _ => w_LB_together_147 ?_) (fun c => absurd rfl c)
      rw [nI_1]; exact hnx
theorem cl_together {st : ST} {r o kd K rr w : Int32} (hR : RC st I J) (hS : okS st) (hq : ∀ I' J', KC I J I' J' → P (some (.int (togA st r o kd K rr w))) I' J') : Ct G (d + 6) m_LB_together [.ref 0, .int r, .int o, .int kd, .int K, .int rr, .int w] P I J := by
  have hb26 : togBad r o kd K rr w → Go G (fr G m_LB_together (d + 6) P) 26 [none, none, none, none, none, none, none, none, none] [] I J := fun hb => by
    have := hq I J KC.rf
    rw [togA_b hb] at this; exact w_LB_together_26 this
  have hb61 : togBad r o kd K rr w → Go G (fr G m_LB_together (d + 6) P) 61 [none, none, none, none, none, none, none, none, none] [] I J := fun hb => by
    have := hq I J KC.rf
    rw [togA_b hb] at this; exact w_LB_together_61 this
  refine Ct.ofGo [some (.ref 0), some (.int r), some (.int o), some (.int kd), some (.int K), some (.int rr), some (.int w), none, none] (by decide +kernel) rfl (Nat.le_of_ble_eq_true rfl) (w_LB_together_0 (fun c => hb26 (Or.inl c)) (fun _ c => hb26 (Or.inr (Or.inl c))) (fun _ _ c => hb26 (Or.inr (Or.inr (Or.inl c)))) (fun _ _ _ _ c => hb61 (Or.inr (Or.inr (Or.inr (Or.inr (Or.inl c)))))) (fun _ _ _ _ _ c => hb61 (Or.inr (Or.inr (Or.inr (Or.inr (Or.inr (Or.inl c))))))) (fun c1 c2 c3 c4 c5 c6 c7 => ?_) (fun _ _ _ _ _ _ c => hb61 (Or.inr (Or.inr (Or.inr (Or.inr (Or.inr (Or.inr c))))))) (fun _ _ _ c => hb26 (Or.inr (Or.inr (Or.inr (Or.inl c))))))
  have hnb : ¬ togBad r o kd K rr w := by
    rintro (h | h | h | h | h | h | h)
    · exact c1 h
    · exact c2 h
    · exact c3 h
    · exact c4 h
    · exact c5 h
    · exact c6 h
    · exact c7 h
  rw [togA_n hnb] at hq
  obtain ⟨r, hr, rfl⟩ := isRow1 c1
  obtain ⟨o, ho, rfl⟩ := isRow1 c2
  obtain ⟨k, hk, rfl⟩ := isKind1 c4
  obtain ⟨K, hK, hK6, rfl⟩ := isW26 c5
  obtain ⟨rr, hrr, rfl⟩ := isW_nI (m := 9) (by omega) c6
  have er : (nI r).toNatClampNeg = r := nI_clamp (by omega)
  have eo : (nI o).toNatClampNeg = o := nI_clamp (by omega)
  rw [er, eo, nI_clamp (show k < 2 ^ 31 by omega), nI_clamp (show K < 2 ^ 31 by omega), nI_clamp (show rr < 2 ^ 31 by omega)] at hq
  unfold togN at hq
  refine cl_cutRow hR hS hr hk (by omega) hK6 (fun I1 J1 g1 g2 g3 => ?_)
  by_cases hd : (Dp (cR st r k) (nR st r) K 0).isSome = true
  · rw [if_pos hd]
    have hP1 := ((hR.2.2.1 r hr).2.pf).fq g1 (pts_lt r hr)
    refine w_LB_together_72 (fun _ => vp_in_nI hr (by omega)) (fun _ => ?_) (fun c => absurd c (by decide))
    rw [er]
    refine sp_keepDays (L := pts st r) (f := plc (cR st r k) (nR st r) K) (pts_lt r hr) (pts_ok hS r).1 hK6 hP1 (fun i hi => ⟨plc_lt hd hi, g3 hd i hi⟩) (fun I2 f1 f2 => w_LB_together_90 ?_)
    have hk2 : KC I1 J1 I2 J1 := ⟨fun a ha => f1 a (by unfold lasts at ha; omega), by rw [f1 53 (by decide)], rfl, rfl, fun _ _ => rfl⟩
    have hk3 := g1.kc.tr hk2
    have hR2 := hR.keep hk3
    refine cl_cutRow hR2 hS ho hk (by omega) hK6 (fun I3 J3 e1 e2 e3 => ?_)
    have hfin := hq I3 J3 (hk3.tr e1.kc)
    by_cases hd2 : (Dp (cR st o k) (nR st o) K 0).isSome = true
    · rw [if_pos hd2]
      rw [if_pos ⟨hd, hd2⟩] at hfin
      refine w_LB_together_98 (fun _ => ?_) (fun c => absurd c (by decide))
      have hP3 := ((hR2.2.2.1 o ho).2.pf).fq e1 (pts_lt o ho)
      exact tg_loop (G := G) (d := d) (P := P) (L := pts st o) (f := plc (cR st o k) (nR st o) K) (D1 := dyP st r k K) ho (pts_ok hS o) hK hK6 hP3 (fun i hi => ⟨plc_lt hd2 hi, e3 hd2 i hi⟩) hrr (fun i hi => ⟨dN_lt (pts_ok hS r) (plc_lt hd hi), by rw [e1.1 50 (by omega)]; exact f2 i hi⟩) hfin (K - 1) 0 (by omega)
    · rw [if_neg hd2]
      rw [if_neg (fun h => hd2 h.2)] at hfin
      exact w_LB_together_98 (fun c => absurd rfl c) (fun _ => hfin)
  · rw [if_neg hd]
    have hfin := hq I1 J1 g1.kc
    rw [if_neg (fun h => hd h.1)] at hfin
    exact w_LB_together_72 (fun c => absurd rfl c) (fun c => absurd rfl c) (fun _ => hfin)
/-! the reference -/
theorem rnd_loop {D : Nat → Nat} {K r x : Nat} (hK6 : K ≤ 6) (hr : r ≤ 9) (hx : x < 40) (hD : ∀ i, i < K → D i < 40 ∧ I 89 i = nI (D i)) (hq : P (some (.int (if nrB D K r x = true then 1 else 0))) I J) : ∀ (m i : Nat), i + m = K → (∀ j, 1 ≤ j → j < i → ¬ ((D j : Int) - x).natAbs ≤ r) → 1 ≤ i → Go G (fr G m_RM_isNearDay (d + 1) P) 3 [some (.ref 67), some (.int (nI x)), some (.int (nI K)), some (.int (nI r)), some (.int (nI i))] [] I J := by
  intro m
  induction m with
  | zero =>
    intro i hi hv _
    obtain rfl : i = K := by omega
    have hle : nI i ≤ nI i := nI_le (Nat.le_refl _) (by omega)
    refine w_RM_isNearDay_3 (fun _ => ?_) (fun c => absurd hle c) (fun c => absurd hle c) (fun c => absurd hle c)
    rw [nrB_f hv] at hq
    exact hq
  | succ m ih =>
    intro i hi hv hi1
    have hc : ¬ nI K ≤ nI i := nI_ge (by omega) (by omega)
    obtain ⟨f1, f2⟩ := hD i (by omega)
    have ei : (nI i).toNatClampNeg = i := nI_clamp (by omega)
    refine w_RM_isNearDay_3 (fun c => absurd c hc) (fun _ => vp_in_nI (by omega) (by omega)) (fun _ c => ?_) (fun _ c => ?_)
    · rw [ei, f2] at c
      have c := (absR hx f1 hr).mp c
      rw [nI_1]
      refine ih (i + 1) (by omega) (fun j j1 j2 => ?_) (by omega)
      by_cases q : j = i
      · rw [q]; omega
      · exact hv j j1 (by omega)
    · rw [ei, f2] at c
      have c : ¬ r < ((D i : Int) - x).natAbs := fun h => c ((absR hx f1 hr).mpr h)
      rw [nrB_t hi1 (show i < K by omega) (by omega)] at hq
      exact hq
theorem md_isNearDay {D : Nat → Nat} {K r x : Nat} (hK1 : 1 ≤ K) (hK6 : K ≤ 6) (hr : r ≤ 9) (hx : x < 40) (hD : ∀ i, i < K → D i < 40 ∧ I 89 i = nI (D i)) (hq : P (some (.int (if nrB D K r x = true then 1 else 0))) I J) : Ct G (d + 1) m_RM_isNearDay [.ref 67, .int (nI x), .int (nI K), .int (nI r)] P I J :=
  Ct.ofGo [some (.ref 67), some (.int (nI x)), some (.int (nI K)), some (.int (nI r)), none] (by decide +kernel) rfl (Nat.le_of_ble_eq_true rfl) (w_RM_isNearDay_0 (rnd_loop hK6 hr hx hD hq (K - 1) 1 (by omega) (fun j j1 j2 => by omega) (by omega)))
theorem rch_loop {nr K h : Nat} (hnr : nr ≤ 39) (hK : 2 ≤ K) (hK6 : K ≤ 6) (hh : h ≤ K - 1) (hq : P (some (.int (chanceA nr (K - 1) h))) I J) : ∀ (s m : Nat), m + s = K - h → Go G (fr G m_RM_together (d + 5) P) 241 [none, none, none, none, some (.int (nI K)), none, none, none, some (.int (nI nr)), some (.long (lI ((hsm nr (K - 1) h m : Nat) : Int))), none, some (.int (nI (h + m)))] [] I J := by
  have eK : nI K - 1 = nI (K - 1) := by rw [show K = K - 1 + 1 by omega]; exact nI_pred _
  intro s
  induction s with
  | zero =>
    intro m hm
    have hle : nI K ≤ nI (h + m) := nI_le (by omega) (by omega)
    refine w_RM_together_241 (fun _ => ?_) (fun c => absurd hle c)
    rw [eK]
    have hb := chs_b (n := 39) (k := K - 1) (by omega) (by omega) (by omega)
    refine md_choose (n := 39) (k := K - 1) (by omega) (by omega) (w_RM_together_297 (fun c => by have := (ln_0 (by omega)).mp c; omega) ?_)
    unfold chanceA at hq
    rw [show m = K - 1 + 1 - h by omega]
    exact hq
  | succ s ih =>
    intro m hm
    have hlt : ¬ nI K ≤ nI (h + m) := nI_ge (by omega) (by omega)
    refine w_RM_together_241 (fun c => absurd c hlt) (fun _ => ?_)
    refine md_choose (n := nr) (k := h + m) (by omega) (by omega) (w_RM_together_257 ?_)
    rw [eK, show (39 : Int32) - nI nr = nI (39 - nr) from nI_sub (a := 39) (b := nr) hnr, nI_sub (show h + m ≤ K - 1 by omega)]
    refine md_choose (n := 39 - nr) (k := K - 1 - (h + m)) (by omega) (by omega) (w_RM_together_272 ?_)
    rw [lI_mul, lI_add, nI_1]
    exact ih (m + 1) (by omega)
theorem rnr_loop {D : Nat → Nat} {K rr h : Nat} (hK : 2 ≤ K) (hK6 : K ≤ 6) (hr : rr ≤ 9) (hD : ∀ i, i < K → D i < 40 ∧ I 89 i = nI (D i)) (hq : Go G (fr G m_RM_together (d + 5) P) 241 [none, none, none, none, some (.int (nI K)), none, none, none, some (.int (nI (ndB D K rr 39))), some (.long 0), none, some (.int (nI h))] [] I J) : ∀ (s m : Nat), m + s = 39 → Go G (fr G m_RM_together (d + 5) P) 198 [some (.ref 67), none, none, none, some (.int (nI K)), some (.int (nI rr)), none, some (.int (nI h)), some (.int (nI (ndB D K rr m))), some (.int (nI (m + 1))), none, none] [] I J := by
  intro s
  induction s with
  | zero =>
    intro m hm
    obtain rfl : m = 39 := by omega
    have hle : (40 : Int32) ≤ nI (39 + 1) := by decide
    exact w_RM_together_198 (fun _ => hq) (fun c => absurd hle c)
  | succ s ih =>
    intro m hm
    have hc : ¬ (40 : Int32) ≤ nI (m + 1) := nI_ge (a := m + 1) (b := 40) (by omega) (by omega)
    refine w_RM_together_198 (fun c => absurd c hc) (fun _ => md_isNearDay (by omega) hK6 hr (show m + 1 < 40 by omega) hD ?_)
    have hnx := ih (m + 1) (by omega)
    have e : ndB D K rr (m + 1) = ndB D K rr m + (if nrB D K rr (m + 1) = true then 1 else 0) := rfl
    rw [e] at hnx
    by_cases q : nrB D K rr (m + 1) = true
    · rw [if_pos q] at hnx ⊢
      refine w_RM_together_217 (fun c => absurd c (by decide)) (fun _ => w_RM_together_225 ?_)
      rw [nI_1, nI_1]; exact hnx
    · rw [if_neg q] at hnx ⊢
      refine w_RM_together_217 (fun _ => w_RM_together_225 ?_) (fun c => absurd rfl c)
      rw [nI_1, Int32.add_zero]; exact hnx
theorem rtg_loop {L : List Pt} {K : Nat} {f : Nat → Nat} {rr : Nat} {D : Nat → Nat} {w : Int32} (hok : okP L) (hK : 2 ≤ K) (hK6 : K ≤ 6) (hQ : QL L I) (hf : ∀ i, i < K → f i < L.length ∧ I 83 i = nI (f i)) (hr : rr ≤ 9) (hD : ∀ i, i < K → D i < 40 ∧ I 89 i = nI (D i)) (hq : P (some (.int (if w = 0 then nI (hitN (fun i => dN L (f i)) D K rr (K - 1)) else chanceA (ndB D K rr 39) (K - 1) (hitN (fun i => dN L (f i)) D K rr (K - 1))))) I J) : ∀ (s m : Nat), m + s = K - 1 → Go G (fr G m_RM_together (d + 5) P) 138 [some (.ref 67), none, none, none, some (.int (nI K)), some (.int (nI rr)), some (.int w), some (.int (nI (hitN (fun i => dN L (f i)) D K rr m))), some (.int (nI (m + 1))), none, none, none] [] I J := by
  have hl := hok.1
  intro s
  induction s with
  | zero =>
    intro m hm
    obtain rfl : m = K - 1 := by omega
    have hle : nI K ≤ nI (K - 1 + 1) := nI_le (by omega) (by omega)
    refine w_RM_together_138 (fun _ c => ?_) (fun _ c => ?_) (fun c => absurd hle c) (fun c => absurd hle c) (fun c => absurd hle c)
    · rw [if_neg c] at hq
      refine rnr_loop hK hK6 hr hD ?_ 39 0 (by omega)
      exact rch_loop (ndB_le _ _ _ _) hK hK6 (hitN_le _ _ _ _ _) hq (K - hitN (fun i => dN L (f i)) D K rr (K - 1)) 0 (by omega)
    · rw [if_pos c] at hq; exact hq
  | succ s ih =>
    intro m hm
    have hc : ¬ nI K ≤ nI (m + 1) := nI_ge (by omega) (by omega)
    have em : (nI (m + 1)).toNatClampNeg = m + 1 := nI_clamp (by omega)
    obtain ⟨f1, f2⟩ := hf (m + 1) (by omega)
    refine w_RM_together_138 (fun c => absurd c hc) (fun c => absurd c hc) (fun _ => vp_in_nI (by omega) (by omega)) (fun _ => by rw [em, f2]; exact vp_in_nI (by omega) (by omega)) (fun _ => ?_)
    rw [em, f2, nI_clamp (show f (m + 1) < 2 ^ 31 by omega), (hQ.2 _ f1).2]
    refine md_isNearDay (x := dN L (f (m + 1))) (by omega) hK6 hr (dN_lt hok f1) hD ?_
    have hnx := ih (m + 1) (by omega)
    have e : hitN (fun i => dN L (f i)) D K rr (m + 1) = hitN (fun i => dN L (f i)) D K rr m + (if nrB D K rr (dN L (f (m + 1))) = true then 1 else 0) := rfl
    rw [e] at hnx
    by_cases q : nrB D K rr (dN L (f (m + 1))) = true
    · rw [if_pos q] at hnx ⊢
      refine w_RM_together_167 (fun c => absurd c (by decide)) (fun _ => w_RM_together_175 ?_)
      rw [nI_1, nI_1]; exact hnx
    · rw [if_neg q] at hnx ⊢
      refine w_RM_together_167 (fun _ => w_RM_together_175 ?_) (fun c => absurd rfl c)
      rw [nI_1, Int32.add_zero]; exact hnx
theorem rod_loop {L : List Pt} {K : Nat} {f : Nat → Nat} {x1 x3 x5 x6 : Int32} {I0 : MI} (hl : L.length ≤ 40) (hK6 : K ≤ 6) (hQ : QL L I0) (hf : ∀ i, i < K → f i < L.length ∧ I0 83 i = nI (f i)) (hq : ∀ I', (∀ a, a ≠ 89 → I' a = I0 a) → (∀ i, i < K → I' 89 i = dayAt L (f i)) → Ct G (d + 4) m_RM_finds [.ref 67, .int x1, .int x3, .int (nI K), .int (I' 67 5)] (fun r I' J' => Go G (fr G m_RM_together (d + 5) P) 126 [some (.ref 67), none, none, none, some (.int (nI K)), some (.int x5), some (.int x6), none, none, none, none, none] (r.toList ++ []) I' J') I' J) : ∀ (r i : Nat) (I : MI), i + r = K → (∀ a, a ≠ 89 → I a = I0 a) → (∀ j, j < i → I 89 j = dayAt L (f j)) → Go G (fr G m_RM_together (d + 5) P) 82 [some (.ref 67), some (.int x1), none, some (.int x3), some (.int (nI K)), some (.int x5), some (.int x6), some (.int (nI i)), none, none, none, none] [] I J := by
  intro r
  induction r with
  | zero =>
    intro i I hi hF hv
    obtain rfl : i = K := by omega
    have hle : nI i ≤ nI i := nI_le (Nat.le_refl _) (by omega)
    exact w_RM_together_82 (fun _ => hq I hF hv) (fun c => absurd hle c) (fun c => absurd hle c) (fun c => absurd hle c) (fun c => absurd hle c)
  | succ r ih =>
    intro i I hi hF hv
    have hc : ¬ nI K ≤ nI i := nI_ge (by omega) (by omega)
    obtain ⟨f1, f2⟩ := hf i (by omega)
    have ei : (nI i).toNatClampNeg = i := nI_clamp (by omega)
    have e83 : I 83 i = nI (f i) := by rw [hF 83 (by decide)]; exact f2
    refine w_RM_together_82 (fun c => absurd c hc) (fun _ => vp_in_nI (by omega) (by omega)) (fun _ => by rw [ei, e83]; exact vp_in_nI (by omega) (by omega)) (fun _ => vp_in_nI (by omega) (by omega)) (fun _ => ?_)
    rw [ei, e83, nI_clamp (show f i < 2 ^ 31 by omega), hF 74 (by decide), (hQ.2 _ f1).2, nI_1]
    refine ih (i + 1) _ (by omega) (fun a ha => by rw [u2_o ha]; exact hF a ha) (fun j hj => ?_)
    by_cases q : j = i
    · rw [q, u2_s]; rfl
    · rw [u2_k q]; exact hv j (by omega)
theorem md_together {st : ST} {r o kd K rr w : Int32} (hR : RM st I J) (hS : okS st) (hq : ∀ I' J', KM I J I' J' → P (some (.int (togA st r o kd K rr w))) I' J') : Ct G (d + 5) m_RM_together [.ref 67, .int r, .int o, .int kd, .int K, .int rr, .int w] P I J := by
  have hb : togBad r o kd K rr w → Go G (fr G m_RM_together (d + 5) P) 58 [none, none, none, none, none, none, none, none, none, none, none, none] [] I J := fun hb => by
    have := hq I J KM.rf
    rw [togA_b hb] at this; exact w_RM_together_58 this
  refine Ct.ofGo [some (.ref 67), some (.int r), some (.int o), some (.int kd), some (.int K), some (.int rr), some (.int w), none, none, none, none, none] (by decide +kernel) rfl (Nat.le_of_ble_eq_true rfl) (w_RM_together_0 (fun c => hb (Or.inl c)) (fun _ c => hb (Or.inr (Or.inl c))) (fun _ _ c => hb (Or.inr (Or.inr (Or.inl c)))) (fun _ _ _ c => hb (Or.inr (Or.inr (Or.inr (Or.inl c))))) (fun _ _ _ _ c => hb (Or.inr (Or.inr (Or.inr (Or.inr (Or.inl c)))))) (fun _ _ _ _ _ c => hb (Or.inr (Or.inr (Or.inr (Or.inr (Or.inr (Or.inl c))))))) (fun c1 c2 c3 c4 c5 c6 c7 => ?_) (fun _ _ _ _ _ _ c => hb (Or.inr (Or.inr (Or.inr (Or.inr (Or.inr (Or.inr c))))))))
  have c1 : ¬ f_LB_isRow r = 0 := c1
  have c2 : ¬ f_LB_isRow o = 0 := c2
  have c4 : ¬ f_LB_isKind kd = 0 := c4
  have c5 : ¬ f_LB_isWithin K 2 6 = 0 := c5
  have c6 : ¬ f_LB_isWithin rr 0 9 = 0 := c6
  have c7 : ¬ f_LB_isWithin w 0 1 = 0 := c7
  have hnb : ¬ togBad r o kd K rr w := by
    rintro (h | h | h | h | h | h | h)
    · exact c1 h
    · exact c2 h
    · exact c3 h
    · exact c4 h
    · exact c5 h
    · exact c6 h
    · exact c7 h
  rw [togA_n hnb] at hq
  obtain ⟨r, hr, rfl⟩ := isRow1 c1
  obtain ⟨o, ho, rfl⟩ := isRow1 c2
  obtain ⟨k, hk, rfl⟩ := isKind1 c4
  obtain ⟨K, hK, hK6, rfl⟩ := isW26 c5
  obtain ⟨rr, hrr, rfl⟩ := isW_nI (m := 9) (by omega) c6
  rw [nI_clamp (show r < 2 ^ 31 by omega), nI_clamp (show o < 2 ^ 31 by omega), nI_clamp (show k < 2 ^ 31 by omega), nI_clamp (show K < 2 ^ 31 by omega), nI_clamp (show rr < 2 ^ 31 by omega)] at hq
  unfold togN at hq
  rw [hR.2.1]
  refine md_finds hR hS ho hk (by omega) hK6 (fun I1 g1 _ g2 => ?_) (fun I1 J1 g1 _ g2 => ?_)
  · have g2 : (Dp (cR st o k) (nR st o) K 0).isSome = false := g2
    have hfin := hq I1 J g1
    rw [if_neg (fun h => by rw [g2] at h; exact absurd h.2 (by decide))] at hfin
    exact w_RM_together_73 (fun c => absurd rfl c) (fun _ => hfin)
  · have hd2 : (Dp (cR st o k) (nR st o) K 0).isSome = true := g2.2.2.2.1
    refine w_RM_together_73 (fun _ => ?_) (fun c => absurd c (by decide))
    have h0 := rod_loop (G := G) (d := d) (P := P) (J := J1) (L := pts st o) (K := K) (f := plc (cR st o k) (nR st o) K) (x1 := nI r) (x3 := nI k) (x5 := nI rr) (x6 := w) (I0 := I1) (pts_ok hS o).1 hK6 g2.1 (fun i hi => ⟨plc_lt hd2 hi, g2.2.2.2.2 i (by omega)⟩) (fun I2 f1 f2 => by
      have hk2 : KM I1 J1 I2 J1 := ⟨fun a ha => ⟨f1 a (by omega), rfl⟩, fun a _ _ => f1 a (by omega), f1 91 (by decide), fun a _ _ => f1 a (by omega), by rw [f1 67 (by decide)], by rw [f1 67 (by decide)], by rw [f1 67 (by decide)], by rw [f1 67 (by decide)]⟩
      have hk3 := g1.tr hk2
      have hR2 := hR.keep hk3
      rw [hR2.2.1]
      refine md_finds hR2 hS hr hk (by omega) hK6 (fun I3 e1 _ e2 => ?_) (fun I3 J3 e1 eH e2 => ?_)
      · have e2 : (Dp (cR st r k) (nR st r) K 0).isSome = false := e2
        have hfin := hq I3 J1 (hk3.tr e1)
        rw [if_neg (fun h => by rw [e2] at h; exact absurd h.1 (by decide))] at hfin
        exact w_RM_together_126 (fun c => absurd rfl c) (fun _ => hfin)
      · have hd : (Dp (cR st r k) (nR st r) K 0).isSome = true := e2.2.2.2.1
        have hfin := hq I3 J3 (hk3.tr e1)
        rw [if_pos ⟨hd, hd2⟩] at hfin
        refine w_RM_together_126 (fun _ => ?_) (fun c => absurd c (by decide))
        exact rtg_loop (G := G) (d := d) (P := P) (L := pts st r) (f := plc (cR st r k) (nR st r) K) (D := dyP st o k K) (pts_ok hS r) hK hK6 e2.1 (fun i hi => ⟨plc_lt hd hi, e2.2.2.2.2 i (by omega)⟩) hrr (fun i hi => ⟨dN_lt (pts_ok hS o) (plc_lt hd2 hi), by rw [eH 89 (by omega)]; exact f2 i hi⟩) hfin (K - 1) 0 (by omega)) K 0 I1 (by omega) (fun _ _ => rfl) (fun j hj => by omega)
    rw [nI_0] at h0
    exact h0
end
