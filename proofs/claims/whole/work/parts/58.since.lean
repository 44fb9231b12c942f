/-! ===== since ===== -/
def cT (st : ST) (r k : Nat) (t : Int32) : CC := cP k (ptl st.1 r t) (lsr st r)
def dysT (st : ST) (r k K : Nat) (t : Int32) (i : Nat) : Int32 := dayAt (ptl st.1 r t) (plc (cT st r k t) (ptl st.1 r t).length K i)
/-- the cuts as they were known at t are those of now -/
def sameT (st : ST) (r k K : Nat) (t : Int32) : Bool := (Dp (cT st r k t) (ptl st.1 r t).length K 0).isSome && (List.range K).all fun i => decide (dysT st r k K t i = dysT st r k K st.2.1 i)
def tmOf (told : List TE) (i : Nat) : Int32 := (told.getD i teD).2.2.2
def rwOf (told : List TE) (i : Nat) : Int32 := (told.getD i teD).1
def goM (S : Int32 → Bool) (told : List TE) (r kn : Int32) : Nat → Int32
  | 0 => 0
  | i + 1 => if rwOf told i = r ∧ tmOf told i ≤ kn then (if S (tmOf told i - 1) = true then goM S told r kn i else tmOf told i) else goM S told r kn i
theorem goM_s (S : Int32 → Bool) (told : List TE) (r kn : Int32) (i : Nat) : goM S told r kn (i + 1) = if rwOf told i = r ∧ tmOf told i ≤ kn then (if S (tmOf told i - 1) = true then goM S told r kn i else tmOf told i) else goM S told r kn i := rfl
theorem goM_up (S : Int32 → Bool) (told : List TE) (r kn : Int32) : ∀ n, goM S told r kn n = goM S told r kn (upTo (tmOf told) kn n) := by
  intro n
  induction n with
  | zero => rfl
  | succ n ih =>
    unfold upTo
    by_cases q : tmOf told n ≤ kn
    · rw [if_pos q]
    · rw [if_neg q, goM_s, if_neg (fun h => q h.2)]; exact ih
theorem goM_last {S : Int32 → Bool} {told : List TE} {r kn : Int32} : ∀ n, n ≤ 200 → (∀ i, i < n → tmOf told i ≤ kn) → (lastIx (rwOf told) r n = -1 ∧ ∀ i, i < n → ¬ rwOf told i = r) ∨ ∃ j, j < n ∧ lastIx (rwOf told) r n = nI j ∧ rwOf told j = r ∧ goM S told r kn n = if S (tmOf told j - 1) = true then goM S told r kn j else tmOf told j := by
  intro n
  induction n with
  | zero => intro _ _; exact Or.inl ⟨rfl, fun i hi => by omega⟩
  | succ n ih =>
    intro hn ht
    unfold lastIx
    by_cases q : rwOf told n = r
    · rw [if_pos q]
      exact Or.inr ⟨n, by omega, rfl, q, by rw [goM_s, if_pos ⟨q, ht n (by omega)⟩]⟩
    · rw [if_neg q]
      rcases ih (by omega) (fun i hi => ht i (by omega)) with ⟨h1, h2⟩ | ⟨j, h1, h2, h3, h4⟩
      · exact Or.inl ⟨h1, fun i hi => by
          by_cases e : i = n
          · rw [e]; exact q
          · exact h2 i (by omega)⟩
      · exact Or.inr ⟨j, by omega, h2, h3, by rw [goM_s, if_neg (fun h => q h.1)]; exact h4⟩
theorem goM_eq {S : Int32 → Bool} {told : List TE} {r kn τ : Int32} (hS : S (τ - 1) = true) : ∀ n, (∀ i, i < n → tmOf told i ≤ τ) → (∀ x : Int32, x ≤ τ → ¬ x ≤ τ - 1 → x = τ) → goM S told r kn n = goM S told r kn (upTo (tmOf told) (τ - 1) n) := by
  intro n
  induction n with
  | zero => intro _ _; rfl
  | succ n ih =>
    intro ht hx
    unfold upTo
    by_cases q : tmOf told n ≤ τ - 1
    · rw [if_pos q]
    · rw [if_neg q]
      have e := hx _ (ht n (by omega)) q
      rw [goM_s, e, if_pos hS]
      have := ih (fun i hi => ht i (by omega)) hx
      split <;> exact this
theorem upTo_congr {f g : Nat → Int32} {t : Int32} : ∀ n, (∀ i, i < n → f i = g i) → upTo f t n = upTo g t n := by
  intro n
  induction n with
  | zero => intro _; rfl
  | succ n ih => intro h; unfold upTo; rw [h n (by omega), ih (fun i hi => h i (by omega))]
theorem lastIx_congr {f g : Nat → Int32} {r : Int32} : ∀ n, (∀ i, i < n → f i = g i) → lastIx f r n = lastIx g r n := by
  intro n
  induction n with
  | zero => intro _; rfl
  | succ n ih => intro h; unfold lastIx; rw [h n (by omega), ih (fun i hi => h i (by omega))]
theorem tm_le {told : List TE} (h : okT told) {i j : Nat} (hij : i ≤ j) (hj : j < told.length) : tmOf told i ≤ tmOf told j := okT_le h hij hj
theorem upTo_in {told : List TE} (h : okT told) {t : Int32} : ∀ n, n ≤ told.length → (∀ i, i < upTo (tmOf told) t n → tmOf told i ≤ t) ∧ ∀ i, i < n → tmOf told i ≤ t → i < upTo (tmOf told) t n := by
  intro n
  induction n with
  | zero => intro _; exact ⟨fun i hi => by simp [upTo] at hi, fun i hi => by omega⟩
  | succ n ih =>
    intro hn
    obtain ⟨i1, i2⟩ := ih (by omega)
    unfold upTo
    by_cases q : tmOf told n ≤ t
    · rw [if_pos q]
      exact ⟨fun i hi => Int32.le_trans (tm_le h (show i ≤ n by omega) (by omega)) q, fun i hi _ => hi⟩
    · rw [if_neg q]
      refine ⟨i1, fun i hi ht => ?_⟩
      by_cases e : i = n
      · rw [e] at ht; exact absurd ht q
      · exact i2 i (by omega) ht
theorem tm_rng {told : List TE} (h : okT told) {i : Nat} (hi : i < told.length) : 0 ≤ (tmOf told i).toInt ∧ (tmOf told i).toInt ≤ 999 := by
  have hm : told.getD i teD ∈ told := by rw [getD_lt hi]; exact List.getElem_mem hi
  obtain ⟨-, -, -, h1, h2⟩ := h.1 _ hm
  rw [ti_le] at h1 h2
  have z0 : (0 : Int32).toInt = 0 := rfl
  have z1 : (999 : Int32).toInt = 999 := rfl
  unfold tmOf; omega
theorem vwl_ex {told : List TE} {r dy t : Int32} (h : ¬ vwl told r dy t = -9999) : ∃ i, i < told.length ∧ rwOf told i = r ∧ tmOf told i ≤ t := by
  refine Decidable.byContradiction fun hn => h ?_
  have key : ∀ (l : List TE) (v : Int32), (∀ e ∈ l, ¬ (e.1 = r ∧ e.2.2.2 ≤ t)) → l.foldl (fun v e => if e.1 = r ∧ e.2.1 = dy ∧ e.2.2.2 ≤ t then e.2.2.1 else v) v = v := by
    intro l
    induction l with
    | nil => intro v _; rfl
    | cons e l ih =>
      intro v hl
      rw [List.foldl_cons, if_neg (fun c => hl e List.mem_cons_self ⟨c.1, c.2.2⟩)]
      exact ih v (fun x hx => hl x (List.mem_cons_of_mem _ hx))
  refine key told (-9999) (fun e he c => hn ?_)
  obtain ⟨i, hi, e2⟩ := List.getElem_of_mem he
  refine ⟨i, hi, ?_, ?_⟩
  · unfold rwOf; rw [getD_lt hi, e2]; exact c.1
  · unfold tmOf; rw [getD_lt hi, e2]; exact c.2
theorem ptl_ex {told : List TE} {r : Nat} {t : Int32} (h : 0 < (ptl told r t).length) : ∃ i, i < told.length ∧ rwOf told i = nI r ∧ tmOf told i ≤ t := by
  rw [ptl_len] at h
  obtain ⟨x, hx⟩ := List.exists_mem_of_length_pos h
  exact vwl_ex (dys_mem.mp hx).2
theorem same_len {st : ST} {r k K : Nat} {t : Int32} (hS : okS st) (hr : r < 4) (hK : 1 ≤ K) (h : sameT st r k K t = true) : 0 < (ptl st.1 r t).length := by
  unfold sameT at h
  rw [Bool.and_eq_true] at h
  obtain ⟨-, l1, -⟩ := lsr_ok hS hr
  have := (Dp_some (c := cT st r k t) (n := (ptl st.1 r t).length) (cP_few _ _ _) l1 (K - 1) 0 (Nat.zero_le _)).mp (by rw [show K - 1 + 1 = K by omega]; exact h.1)
  have h2 : 1 ≤ (K - 1 + 1) * lsr st r := Nat.mul_pos (by omega) (by omega)
  omega
def sinceA (st : ST) (r kd K : Int32) : Int32 :=
  if f_LB_isRow r = 0 ∨ f_LB_isKind kd = 0 ∨ f_LB_isStretches K = 0 then -2
  else if (Dp (cR st r.toNatClampNeg kd.toNatClampNeg) (nR st r.toNatClampNeg) K.toNatClampNeg 0).isSome = true then goM (sameT st r.toNatClampNeg kd.toNatClampNeg K.toNatClampNeg) st.1 r st.2.1 st.1.length else -3
theorem same_now {st : ST} {r k K : Nat} (h : (Dp (cR st r k) (nR st r) K 0).isSome = true) : sameT st r k K st.2.1 = true := by
  unfold sameT
  rw [Bool.and_eq_true]
  refine ⟨h, ?_⟩
  rw [List.all_eq_true]
  intro i _
  simp
section
variable {G : GC} {d : Nat} {P : PT} {I : MI} {J : MJ}
theorem ks_loop {L : List Pt} {o K : Nat} {f : Nat → Nat} {I0 : MI} (h1 : PtsAt o) (hl : L.length ≤ 40) (hK6 : K ≤ 6) (hP : PF o L I0) (hf : ∀ i, i < K → f i < L.length ∧ I0 49 i = nI (f i)) (hq : ∀ I', (∀ a, a ≠ 50 → I' a = I0 a) → (∀ i, i < K → I' 50 i = dayAt L (f i)) → P none I' J) : ∀ (r i : Nat) (I : MI), i + r = K → (∀ a, a ≠ 50 → I a = I0 a) → (∀ j, j < i → I 50 j = dayAt L (f j)) → Go G (fr G m_LB_keepStartDays (d + 1) P) 2 [some (.ref 0), some (.ref o), some (.int (nI K)), some (.int (nI i))] [] I J := by
  have hro := pts_rng h1
  intro r
  induction r with
  | zero =>
    intro i I hi hF hv
    obtain rfl : i = K := by omega
    have hle : nI i ≤ nI i := nI_le (Nat.le_refl _) (by omega)
    exact w_LB_keepStartDays_2 h1 (fun _ => hq I hF hv) (fun c => absurd hle c)
  | succ r ih =>
    intro i I hi hF hv
    have hc : ¬ nI K ≤ nI i := nI_ge (by omega) (by omega)
    obtain ⟨f1, f2⟩ := hf i (by omega)
    have ei : (nI i).toNatClampNeg = i := nI_clamp (by omega)
    have e49 : I 49 i = nI (f i) := by rw [hF 49 (by decide)]; exact f2
    refine w_LB_keepStartDays_2 h1 (fun c => absurd c hc) (fun _ => ?_)
    refine Ct.ofGo [some (.ref 33), some (.ref o), some (.int (nI i))] (by decide +kernel) rfl (Nat.le_of_ble_eq_true rfl) (w_CU_startDay_0 h1 (vp_in_nI (by omega) (by omega)) (by rw [ei, e49]; exact vp_in_nI (by omega) (by omega)) (w_LB_keepStartDays_21 h1 (vp_in_nI (by omega) (by omega)) ?_))
    rw [ei, e49, nI_clamp (show f i < 2 ^ 31 by omega), hF (o + 2) (by omega), (hP.1.2 _ f1).1, nI_1]
    refine ih (i + 1) _ (by omega) (fun a ha => by rw [u2_o ha]; exact hF a ha) (fun j hj => ?_)
    by_cases q : j = i
    · rw [q, u2_s]; rfl
    · rw [u2_k q]; exact hv j (by omega)
/-- the days on which the stretches begin are kept -/
theorem sp_keepDays {L : List Pt} {o K : Nat} {f : Nat → Nat} (h1 : PtsAt o) (hl : L.length ≤ 40) (hK6 : K ≤ 6) (hP : PF o L I) (hf : ∀ i, i < K → f i < L.length ∧ I 49 i = nI (f i)) (hq : ∀ I', (∀ a, a ≠ 50 → I' a = I a) → (∀ i, i < K → I' 50 i = dayAt L (f i)) → P none I' J) : Ct G (d + 1) m_LB_keepStartDays [.ref 0, .ref o, .int (nI K)] P I J :=
  Ct.ofGo [some (.ref 0), some (.ref o), some (.int (nI K)), none] (by decide +kernel) rfl (Nat.le_of_ble_eq_true rfl) (w_LB_keepStartDays_0 h1 (ks_loop h1 hl hK6 hP hf hq K 0 I (by omega) (fun _ _ => rfl) (fun j hj => by omega)))
theorem sk_loop {L : List Pt} {o K : Nat} {f : Nat → Nat} {g : Nat → Int32} (h1 : PtsAt o) (hl : L.length ≤ 40) (hK6 : K ≤ 6) (hP : PF o L I) (hf : ∀ i, i < K → f i < L.length ∧ I 49 i = nI (f i)) (hg : ∀ i, i < K → I 50 i = g i) (hq1 : (∀ i, i < K → dayAt L (f i) = g i) → P (some (.int 1)) I J) (hq0 : (∃ i, i < K ∧ ¬ dayAt L (f i) = g i) → P (some (.int 0)) I J) : ∀ (r i : Nat), i + r = K → (∀ j, j < i → dayAt L (f j) = g j) → Go G (fr G m_LB_startsAsKept (d + 1) P) 2 [some (.ref 0), some (.ref o), some (.int (nI K)), some (.int (nI i))] [] I J := by
  intro r
  induction r with
  | zero =>
    intro i hi hv
    obtain rfl : i = K := by omega
    have hle : nI i ≤ nI i := nI_le (Nat.le_refl _) (by omega)
    exact w_LB_startsAsKept_2 h1 (fun _ => hq1 hv) (fun c => absurd hle c) (fun c => absurd hle c)
  | succ r ih =>
    intro i hi hv
    have hc : ¬ nI K ≤ nI i := nI_ge (by omega) (by omega)
    obtain ⟨f1, f2⟩ := hf i (by omega)
    have ei : (nI i).toNatClampNeg = i := nI_clamp (by omega)
    refine w_LB_startsAsKept_2 h1 (fun c => absurd c hc) (fun _ => vp_in_nI (by omega) (by omega)) (fun _ => ?_)
    refine Ct.ofGo [some (.ref 33), some (.ref o), some (.int (nI i))] (by decide +kernel) rfl (Nat.le_of_ble_eq_true rfl) (w_CU_startDay_0 h1 (vp_in_nI (by omega) (by omega)) (by rw [ei, f2]; exact vp_in_nI (by omega) (by omega)) (w_LB_startsAsKept_22 h1 (fun c => ?_) (fun c => ?_)))
    · rw [ei, hg i (by omega), f2, nI_clamp (show f i < 2 ^ 31 by omega), (hP.1.2 _ f1).1] at c
      rw [nI_1]
      refine ih (i + 1) (by omega) (fun j hj => ?_)
      by_cases q : j = i
      · rw [q]; exact c.symm
      · exact hv j (by omega)
    · rw [ei, hg i (by omega), f2, nI_clamp (show f i < 2 ^ 31 by omega), (hP.1.2 _ f1).1] at c
      exact hq0 ⟨i, by omega, fun h => c h.symm⟩
theorem sn_loop {st : ST} {r k K : Nat} {I0 : MI} {J0 : MJ} (hR : RC st I0 J0) (hS : okS st) (hr : r < 4) (hk : k < 4) (hK : 1 ≤ K) (hK6 : K ≤ 6) (hq : ∀ I' J', KC I0 J0 I' J' → P (some (.int (goM (sameT st r k K) st.1 (nI r) st.2.1 st.1.length))) I' J') : ∀ (m n ch : Nat) (τ x5 : Int32) (I : MI) (J : MJ), n ≤ m → ch + n ≤ 200 → n = upTo (tmOf st.1) τ st.1.length → τ ≤ st.2.1 → sameT st r k K τ = true → goM (sameT st r k K) st.1 (nI r) st.2.1 st.1.length = goM (sameT st r k K) st.1 (nI r) st.2.1 n → KC I0 J0 I J → (∀ i, i < K → I 50 i = dysT st r k K st.2.1 i) → Go G (fr G m_LB_since (d + 6) P) 70 [some (.ref 0), some (.int (nI r)), some (.int (nI k)), some (.int (nI K)), some (.int (nI n)), some (.int x5), some (.int (nI ch)), none] [] I J := by
  have er : (nI r).toNatClampNeg = r := nI_clamp (by omega)
  obtain ⟨e1, l1, l2⟩ := lsr_ok hS hr
  have hlen := hR.1.1
  intro m
  induction m with
  | zero =>
    intro n ch τ x5 I J hn hch hnu hτ hsm hgo hk2 h50
    exfalso
    obtain ⟨i, hi, -, hti⟩ := ptl_ex (same_len hS hr hK hsm)
    have := (upTo_in hS.1 (t := τ) st.1.length (Nat.le_refl _)).2 i hi hti
    omega
  | succ m ih =>
    intro n ch τ x5 I J hn hch hnu hτ hsm hgo hk2 h50
    obtain ⟨i, hi, hri, hti⟩ := ptl_ex (same_len hS hr hK hsm)
    obtain ⟨u1, u2'⟩ := upTo_in hS.1 (t := τ) st.1.length (Nat.le_refl _)
    have hin := u2' i hi hti
    rw [← hnu] at hin u1
    have hnl : n ≤ st.1.length := by rw [hnu]; exact upTo_le _ _ _
    have hR1 := hR.keep hk2
    have hTC := hR1.1
    have h200 : ¬ (200 : Int32) ≤ nI ch := nI_ge (b := 200) (by omega) (by omega)
    have hrw : ∀ x, x < n → I 2 x = rwOf st.1 x := fun x hx => (hTC.2.2 x (by omega)).1
    have htm : ∀ x, x < st.1.length → I 5 x = tmOf st.1 x := fun x hx => (hTC.2.2 x hx).2.2.2
    refine w_LB_since_70 (fun c => absurd c h200) (fun _ => sp_lastOf (by omega) ?_)
    rw [lastIx_congr n hrw]
    rcases goM_last (S := sameT st r k K) (told := st.1) (r := nI r) (kn := st.2.1) n (by omega) (fun x hx => Int32.le_trans (u1 x hx) hτ) with ⟨-, h2⟩ | ⟨j, j1, j2, j3, j4⟩
    · exact absurd hri (h2 i hin)
    · rw [j2]
      have ej : (nI j).toNatClampNeg = j := nI_clamp (by omega)
      have hjr := tm_rng hS.1 (show j < st.1.length by omega)
      refine w_LB_since_88 (fun _ => vp_in_nI (by omega) (by omega)) (fun _ => ?_) (fun c => absurd c (nI_ne1 (by omega)))
      rw [ej, htm j (by omega)]
      generalize hτ' : tmOf st.1 j = τ' at *
      have z1 : (1 : Int32).toInt = 1 := rfl
      have hsub : (τ' - 1).toInt = τ'.toInt - 1 := by rw [ti_sub (by omega) (by omega), z1]
      refine sp_toldUpTo (n := st.1.length) hTC.1 hTC.2.1 ?_
      rw [upTo_congr st.1.length htm]
      have hle := upTo_le (tmOf st.1) (τ' - 1) st.1.length
      have hn' : upTo (tmOf st.1) (τ' - 1) st.1.length ≤ j := by
        refine Nat.not_lt.mp fun q => ?_
        have := (upTo_in hS.1 (t := τ' - 1) st.1.length (Nat.le_refl _)).1 j q
        rw [hτ', ti_le, hsub] at this; omega
      refine w_LB_since_122 (sp_load pts_27 (by omega) (fun x hx => ?_) (fun I2 hF hv hP => w_LB_since_138 (vp_in_nI hr (by omega)) ?_))
      · have hx' : x < st.1.length := by omega
        rw [(hTC.2.2 x hx').2.1, getD_lt hx']
        exact (hS.1.1 _ (List.getElem_mem hx')).2.1
      · have hv' : ∀ x, x < 40 → I2 28 x = vwl st.1 (nI r) (nI x) (τ' - 1) := fun x hx => by
          have h := hv x hx
          rw [← upTo_congr (f := I 5) st.1.length htm, vw_vwl hTC hS.1] at h
          exact h
        have hPH : PH 27 (pdd st.1 r (τ' - 1)) (pvv st.1 r (τ' - 1)) I2 := by
          have hP : PH 27 (dys (I2 28) 40) ((dys (I2 28) 40).map (I2 28)) I2 := hP
          rw [map_congr_dys hv', dys_congr hv'] at hP
          exact hP
        have hk3 : KC I J I2 J := ⟨fun a ha => hF a (by unfold lasts at ha; simp only [List.mem_cons, List.not_mem_nil, or_false, not_or]; omega), by rw [hF 53 (by simp)], rfl, rfl, fun _ _ => rfl⟩
        have hR2 := hR1.keep hk3
        rw [er, hR2.2.2.2.1 r hr, e1]
        have hok := ptl_ok hS.1 r (τ' - 1)
        refine sp_cut0 hk hok pts_27 hK hK6 (by omega) hPH.pf hR2.2.2.2.2.2.2.2.1 hR2.2.2.2.2.2.2.2.2 (fun I3 J3 g1 g2 g3 => ?_)
        have hk4 := (hk2.tr hk3).tr g1.kc
        have h50' : ∀ i, i < K → I3 50 i = dysT st r k K st.2.1 i := fun i hi => by rw [g1.1 50 (by omega), hF 50 (by simp)]; exact h50 i hi
        have fail : ¬ sameT st r k K (τ' - 1) = true → Go G (fr G m_LB_since (d + 6) P) 173 [none, none, none, none, none, some (.int τ'), none, none] [] I3 J3 := fun hno => by
          refine w_LB_since_173 ?_
          have := hq I3 J3 hk4
          rw [hgo, j4, if_neg hno] at this
          exact this
        by_cases hd : (Dp (cT st r k (τ' - 1)) (ptl st.1 r (τ' - 1)).length K 0).isSome = true
        · rw [if_pos (show (Dp (cP k (ptl st.1 r (τ' - 1)) (lsr st r)) (ptl st.1 r (τ' - 1)).length K 0).isSome = true from hd)]
          refine w_LB_since_158 (fun c => absurd c (by decide)) (fun _ => ?_)
          refine Ct.ofGo [some (.ref 0), some (.ref 27), some (.int (nI K)), none] (by decide +kernel) rfl (Nat.le_of_ble_eq_true rfl) (w_LB_startsAsKept_0 pts_27 ?_)
          refine sk_loop (L := ptl st.1 r (τ' - 1)) (f := plc (cT st r k (τ' - 1)) (ptl st.1 r (τ' - 1)).length K) (g := dysT st r k K st.2.1) pts_27 hok.1 hK6 (hPH.pf.fq g1 pts_27) (fun i hi => ⟨plc_lt hd hi, g3 hd i hi⟩) h50' (fun hall => ?_) (fun hex => ?_) K 0 (by omega) (fun j hj => by omega)
          · have hsm' : sameT st r k K (τ' - 1) = true := by
              unfold sameT
              rw [Bool.and_eq_true]
              refine ⟨hd, ?_⟩
              rw [List.all_eq_true]
              intro i hi
              simp only [decide_eq_true_eq]
              exact hall i (List.mem_range.mp hi)
            refine w_LB_since_170 (fun _ => ?_) (fun c => absurd c (by decide))
            rw [nI_1]
            have hxx : ∀ x : Int32, x ≤ τ' → ¬ x ≤ τ' - 1 → x = τ' := fun x h1 h2 => by rw [ti_le] at h1 h2; rw [hsub] at h2; rw [ti_eq]; omega
            have hge := goM_eq (told := st.1) (r := nI r) (kn := st.2.1) hsm' j (fun i hi => by have := tm_le hS.1 (show i ≤ j by omega) (by omega); rw [hτ'] at this; exact this) hxx
            have hup : upTo (tmOf st.1) (τ' - 1) j = upTo (tmOf st.1) (τ' - 1) st.1.length := by
              have hk : ∀ y, j + y ≤ st.1.length → upTo (tmOf st.1) (τ' - 1) (j + y) = upTo (tmOf st.1) (τ' - 1) j := by
                intro y
                induction y with
                | zero => intro _; rfl
                | succ y ihy =>
                  intro hy
                  show upTo (tmOf st.1) (τ' - 1) (j + y + 1) = _
                  have hn : ¬ tmOf st.1 (j + y) ≤ τ' - 1 := fun q => by
                    have := tm_le hS.1 (show j ≤ j + y by omega) (by omega)
                    rw [hτ', ti_le] at this
                    rw [ti_le, hsub] at q; omega
                  rw [show upTo (tmOf st.1) (τ' - 1) (j + y + 1) = if tmOf st.1 (j + y) ≤ τ' - 1 then j + y + 1 else upTo (tmOf st.1) (τ' - 1) (j + y) from rfl, if_neg hn]
                  exact ihy (by omega)
              have := hk (st.1.length - j) (by omega)
              rw [show j + (st.1.length - j) = st.1.length by omega] at this
              exact this.symm
            have hjτ : τ' ≤ τ := by have := u1 j j1; rw [hτ'] at this; exact this
            refine ih (upTo (tmOf st.1) (τ' - 1) st.1.length) (ch + 1) (τ' - 1) τ' I3 J3 (by omega) (by omega) rfl ?_ hsm' ?_ hk4 h50'
            · refine Int32.le_trans ?_ (Int32.le_trans hjτ hτ)
              rw [ti_le, hsub]; omega
            · rw [hgo, j4, if_pos hsm', hge, hup]
          · refine w_LB_since_170 (fun c => absurd rfl c) (fun _ => fail (fun hsm' => ?_))
            obtain ⟨i, hi, hne⟩ := hex
            unfold sameT at hsm'
            rw [Bool.and_eq_true, List.all_eq_true] at hsm'
            have := hsm'.2 i (List.mem_range.mpr hi)
            simp only [decide_eq_true_eq] at this
            exact hne this
        · rw [if_neg (show ¬ (Dp (cP k (ptl st.1 r (τ' - 1)) (lsr st r)) (ptl st.1 r (τ' - 1)).length K 0).isSome = true from hd)]
          refine w_LB_since_158 (fun _ => fail (fun hsm' => ?_)) (fun c => absurd rfl c)
          unfold sameT at hsm'
          rw [Bool.and_eq_true] at hsm'
          exact hd hsm'.1
theorem cl_since {st : ST} {r kd K : Int32} (hR : RC st I J) (hS : okS st) (hq : ∀ I' J', KC I J I' J' → P (some (.int (sinceA st r kd K))) I' J') : Ct G (d + 6) m_LB_since [.ref 0, .int r, .int kd, .int K] P I J := by
  have hbad : (f_LB_isRow r = 0 ∨ f_LB_isKind kd = 0 ∨ f_LB_isStretches K = 0) → Go G (fr G m_LB_since (d + 6) P) 21 [none, none, none, none, none, none, none, none] [] I J := fun hb => by
    have e : sinceA st r kd K = -2 := by unfold sinceA; rw [if_pos hb]
    have := hq I J KC.rf
    rw [e] at this; exact w_LB_since_21 this
  refine Ct.ofGo [some (.ref 0), some (.int r), some (.int kd), some (.int K), none, none, none, none] (by decide +kernel) rfl (Nat.le_of_ble_eq_true rfl) (w_LB_since_0 (fun c => hbad (Or.inl c)) (fun _ c => hbad (Or.inr (Or.inl c))) (fun c1 c2 c3 => ?_) (fun _ _ c => hbad (Or.inr (Or.inr c))))
  have hnb : ¬ (f_LB_isRow r = 0 ∨ f_LB_isKind kd = 0 ∨ f_LB_isStretches K = 0) := by
    rintro (h | h | h)
    · exact c1 h
    · exact c2 h
    · exact c3 h
  unfold sinceA at hq
  rw [if_neg hnb] at hq
  obtain ⟨r, hr, rfl⟩ := isRow1 c1
  obtain ⟨k, hk, rfl⟩ := isKind1 c2
  obtain ⟨K, hK, hK6, rfl⟩ := isStr1 c3
  have er : (nI r).toNatClampNeg = r := nI_clamp (by omega)
  rw [er, nI_clamp (show k < 2 ^ 31 by omega), nI_clamp (show K < 2 ^ 31 by omega)] at hq
  refine cl_cutRow hR hS hr hk hK hK6 (fun I1 J1 g1 g2 g3 => ?_)
  by_cases hd : (Dp (cR st r k) (nR st r) K 0).isSome = true
  · rw [if_pos hd] at hq ⊢
    refine w_LB_since_31 (fun _ => vp_in_nI hr (by omega)) (fun _ => ?_) (fun c => absurd c (by decide))
    rw [er]
    have hP := ((hR.2.2.1 r hr).2.pf).fq g1 (pts_lt r hr)
    refine sp_keepDays (L := pts st r) (f := plc (cR st r k) (nR st r) K) (pts_lt r hr) (pts_ok hS r).1 hK6 hP (fun i hi => ⟨plc_lt hd hi, g3 hd i hi⟩) (fun I2 f1 f2 => w_LB_since_48 ?_)
    have hk2 : KC I1 J1 I2 J1 := ⟨fun a ha => f1 a (by unfold lasts at ha; omega), by rw [f1 53 (by decide)], rfl, rfl, fun _ _ => rfl⟩
    have hk3 := g1.kc.tr hk2
    have hR2 := hR.keep hk3
    have htm : ∀ x, x < st.1.length → I2 5 x = tmOf st.1 x := fun x hx => (hR2.1.2.2 x hx).2.2.2
    refine sp_toldUpTo (n := st.1.length) hR2.1.1 hR2.1.2.1 (w_LB_since_59 ?_)
    rw [hR2.2.1, upTo_congr st.1.length htm]
    have hule := upTo_le (tmOf st.1) st.2.1 st.1.length
    have hl := hR2.1.1
    exact sn_loop hR hS hr hk hK hK6 hq 200 _ 0 st.2.1 st.2.1 I2 J1 (by omega) (by omega) rfl (Int32.le_refl _) (same_now hd) (goM_up _ _ _ _ _) hk3 f2
  · rw [if_neg hd] at hq ⊢
    exact w_LB_since_31 (fun c => absurd rfl c) (fun c => absurd rfl c) (fun _ => hq I1 J1 g1.kc)
end
