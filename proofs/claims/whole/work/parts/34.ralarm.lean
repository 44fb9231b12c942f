/-! ===== the reference: alarms ===== -/
theorem add_sub32 (a b c : Int32) : a + b - c = a + (b - c) := by rw [Int32.sub_eq_add_neg, Int32.sub_eq_add_neg, Int32.add_assoc]
theorem max0 (z : Int32) : f_JM_max_II 0 z = if 0 ≤ z then z else 0 := by
  unfold f_JM_max_II
  by_cases h : 0 < z
  · rw [if_pos h, if_pos (Int32.le_of_lt h)]
  · rw [if_neg h]
    by_cases h2 : 0 ≤ z
    · rw [if_pos h2]; exact Int32.le_antisymm h2 (Int32.not_lt.mp h)
    · rw [if_neg h2]
theorem sw_1 {s v tg sl wy : Int32} (h : ¬ wy = 0) : f_AL_sumWith s v tg sl wy = if 0 ≤ s + (tg - v - sl) then s + (tg - v - sl) else 0 := by
  unfold f_AL_sumWith
  rw [if_pos h, max0, add_sub32]
theorem sw_0 {s v tg sl wy : Int32} (h : wy = 0) : f_AL_sumWith s v tg sl wy = if 0 ≤ s + (v - tg - sl) then s + (v - tg - sl) else 0 := by
  unfold f_AL_sumWith
  rw [if_neg (not_not_intro h), max0, add_sub32]
theorem sumTo_congr {f g : Nat → Int32} : ∀ n, (∀ x, x < n → f x = g x) → sumTo f n = sumTo g n := by
  intro n
  induction n with
  | zero => intro _; rfl
  | succ n ih => intro h; simp only [sumTo]; rw [ih (fun x hx => h x (by omega)), h n (by omega)]
theorem sumTo_set {f : Nat → Int32} {p : Nat} (h0 : f p = 0) : ∀ n, p < n → sumTo (fun x => if x = p then 1 else f x) n = sumTo f n + 1 := by
  intro n
  induction n with
  | zero => intro h; omega
  | succ n ih =>
    intro h
    by_cases q : p = n
    · subst q
      simp only [sumTo, if_true, h0]
      rw [sumTo_congr p (fun x hx => if_neg (by omega))]
      simp
    · simp only [sumTo]
      rw [ih (by omega), if_neg (Ne.symm q)]
      rw [Int32.add_assoc, Int32.add_comm 1 (f n), ← Int32.add_assoc]
theorem rev_ind {α : Type} {C : List α → Prop} (h0 : C []) (h1 : ∀ l a, C l → C (l ++ [a])) : ∀ l, C l := by
  intro l
  have h : ∀ m : List α, C m.reverse := by
    intro m
    induction m with
    | nil => exact h0
    | cons a t ih => rw [List.reverse_cons]; exact h1 _ _ ih
  have := h l.reverse
  rwa [List.reverse_reverse] at this
theorem wrn_sum (tg sl li wy : Int32) : ∀ (l : List (Nat × Int32)), (∀ p ∈ l, p.1 < 40) → l.Pairwise (fun a b => a.1 < b.1) → sumTo (wrn tg sl li wy l).2.1 40 = nI (wrn tg sl li wy l).2.2 ∧ ∀ x, ¬ (wrn tg sl li wy l).2.1 x = 0 → ∃ p ∈ l, p.1 = x := by
  refine rev_ind ?_ ?_
  · intro _ _; exact ⟨show sumTo (fun _ => 0) 40 = nI 0 from by decide, fun x h => absurd rfl h⟩
  · intro l p ih h1 h2
    obtain ⟨a, b⟩ := ih (fun q hq => h1 q (List.mem_append_left _ hq)) (List.pairwise_append.mp h2).1
    rw [wrn_app]
    unfold stp
    split
    · exact ⟨a, fun x hx => by obtain ⟨q, hq, e⟩ := b x hx; exact ⟨q, List.mem_append_left _ hq, e⟩⟩
    · have h0 : (wrn tg sl li wy l).2.1 p.1 = 0 := by
        refine Decidable.byContradiction fun hc => ?_
        obtain ⟨q, hq, e⟩ := b p.1 hc
        have := (List.pairwise_append.mp h2).2.2 q hq p (by simp)
        omega
      refine ⟨?_, fun x hx => ?_⟩
      · show sumTo (fun x => if x = p.1 then 1 else (wrn tg sl li wy l).2.1 x) 40 = nI ((wrn tg sl li wy l).2.2 + 1)
        rw [sumTo_set h0 40 (h1 p (by simp)), a, nI_1]
      · by_cases q : x = p.1
        · exact ⟨p, by simp, q.symm⟩
        · simp only [if_neg q] at hx
          obtain ⟨y, hy, e⟩ := b x hx
          exact ⟨y, List.mem_append_left _ hy, e⟩
section
variable {G : GC} {d : Nat} {P : PT} {I : MI} {J : MJ}
/-- what watches may touch -/
def FW (I I' : MI) : Prop := (∀ a, a ≠ 67 → a ≠ 90 → I' a = I a) ∧ ∀ k, k ≠ 29 → I' 67 k = I 67 k
theorem FW.km {I' : MI} (h : FW I I') : KM I J I' J := ⟨fun a ha => ⟨h.1 a (by omega) (by omega), rfl⟩, fun a _ _ => h.1 a (by omega) (by omega), h.1 91 (by omega) (by omega), fun a _ _ => h.1 a (by omega) (by omega), h.2 0 (by omega), h.2 5 (by omega), h.2 31 (by omega), h.2 44 (by omega)⟩
theorem QL.of {l : List (Nat × Int32)} {I' : MI} (h : QL l I) (hF : FW I I') : QL l I' := by
  refine ⟨by rw [hF.2 7 (by omega)]; exact h.1, fun k hk => ?_⟩
  rw [hF.1 73 (by omega) (by omega), hF.1 74 (by omega) (by omega)]; exact h.2 k hk
theorem rw_loop {l : List (Nat × Int32)} {tg sl li wy : Int32} {I0 : MI} (hok : okP l) (hQ : QL l I0) (hq : ∀ I', FW I0 I' → (∀ x, x < 40 → I' 90 x = (wrn tg sl li wy l).2.1 x) → I' 67 29 = nI (wrn tg sl li wy l).2.2 → P none I' J) : ∀ (m i : Nat) (x5 x6 : Int32) (I : MI), i + m = l.length → x6 = nI i → x5 = (wrn tg sl li wy (l.take i)).1 → FW I0 I → (∀ x, x < 40 → I 90 x = (wrn tg sl li wy (l.take i)).2.1 x) → I 67 29 = nI (wrn tg sl li wy (l.take i)).2.2 → Go G (fr G m_RM_watches d P) 35 [some (.ref 67), some (.int tg), some (.int sl), some (.int li), some (.int wy), some (.int x5), some (.int x6), none] [] I J := by
  have hl := hok.1
  intro m
  induction m with
  | zero =>
    intro i x5 x6 I hi hx6 hx5 hF hv hc
    subst hx6; subst hx5
    have hle : I 67 7 ≤ nI i := by rw [hF.2 7 (by omega), hQ.1]; exact nI_le (by omega) (by omega)
    rw [List.take_of_length_le (by omega)] at hv hc
    exact w_RM_watches_35 (fun _ => hq I hF hv hc) (fun c => absurd hle c) (fun c => absurd hle c) (fun c => absurd hle c) (fun c => absurd hle c)
  | succ m ih =>
    intro i x5 x6 I hi hx6 hx5 hF hv hcnt
    subst hx6; subst hx5
    have hi' : i < l.length := by omega
    have hc : ¬ I 67 7 ≤ nI i := by rw [hF.2 7 (by omega), hQ.1]; exact nI_ge (by omega) (by omega)
    have e1 : (nI i).toNatClampNeg = i := nI_clamp (by omega)
    have e3 : I 73 (nI i).toNatClampNeg = (l.getD i (0, 0)).2 := by rw [e1, hF.1 73 (by omega) (by omega)]; exact (hQ.2 i hi').1
    have e2 : I 74 (nI i).toNatClampNeg = nI (l.getD i (0, 0)).1 := by rw [e1, hF.1 74 (by omega) (by omega)]; exact (hQ.2 i hi').2
    have hd : (l.getD i (0, 0)).1 < 40 := (hok.2.1 _ (by rw [getD_lt hi']; exact List.getElem_mem hi')).1
    have hst := wrn_app tg sl li wy (l.take i) (l.getD i (0, 0))
    rw [← takeP_ext hi'] at hst
    have hin : vp_in (nI i) 40 := vp_in_nI (by omega) (by omega)
    have h92 : Go G (fr G m_RM_watches d P) 92 [some (.ref 67), some (.int tg), some (.int sl), some (.int li), some (.int wy), none, some (.int (nI i)), none] [.int (f_AL_sumWith (wrn tg sl li wy (l.take i)).1 (l.getD i (0, 0)).2 tg sl wy)] I J := by
      refine w_RM_watches_92 (fun c => ?_) (fun _ => hin) (fun _ => by rw [e2]; exact vp_in_nI hd (by omega)) (fun c => ?_)
      · refine w_RM_watches_126 (ih (i + 1) _ _ I (by omega) (nI_1 i) ?_ hF (fun x hx => ?_) ?_)
        · rw [hst]; simp only [stp, if_pos c]
        · rw [hst, hv x hx]; simp only [stp, if_pos c]
        · rw [hst, hcnt]; simp only [stp, if_pos c]
      · rw [e2, nI_clamp (show (l.getD i (0, 0)).1 < 2 ^ 31 by omega), hcnt, nI_1]
        refine w_RM_watches_126 (ih (i + 1) _ _ _ (by omega) (nI_1 i) ?_ ⟨fun a h1 h2 => ?_, fun k hk => ?_⟩ (fun x hx => ?_) ?_)
        · rw [hst]; simp only [stp, if_neg c]
        · rw [u2_o h1, u2_o h2]; exact hF.1 a h1 h2
        · rw [u2_k hk, u2_o (by decide)]; exact hF.2 k hk
        · rw [hst, u2_o (by decide), u2_at]
          simp only [stp, if_neg c]
          by_cases q : x = (l.getD i (0, 0)).1
          · rw [if_pos q, if_pos q]
          · rw [if_neg q, if_neg q]; exact hv x hx
        · rw [u2_s, hst]; simp only [stp, if_neg c]
    refine w_RM_watches_35 (fun c => absurd c hc) (fun _ _ => hin) (fun _ c => ?_) (fun _ _ => hin) (fun _ c => ?_)
    · rw [e3]
      rw [sw_1 c] at h92
      refine w_RM_watches_70 (fun c2 => ?_) (fun c2 => ?_)
      · rw [if_pos c2] at h92; exact h92
      · rw [if_neg c2] at h92; exact h92
    · rw [e3]
      rw [sw_0 c] at h92
      refine w_RM_watches_70 (fun c2 => ?_) (fun c2 => ?_)
      · rw [if_pos c2] at h92; exact h92
      · rw [if_neg c2] at h92; exact h92
theorem rw_clear {l : List (Nat × Int32)} {tg sl li wy : Int32} {I0 : MI} (hok : okP l) (hQ : QL l I0) (hq : ∀ I', FW I0 I' → (∀ x, x < 40 → I' 90 x = (wrn tg sl li wy l).2.1 x) → I' 67 29 = nI (wrn tg sl li wy l).2.2 → P none I' J) : ∀ (m i : Nat) (x6 : Int32) (I : MI), i + m = 40 → x6 = nI i → FW I0 I → (∀ x, x < i → I 90 x = 0) → I 67 29 = 0 → Go G (fr G m_RM_watches d P) 11 [some (.ref 67), some (.int tg), some (.int sl), some (.int li), some (.int wy), some (.int 0), some (.int x6), none] [] I J := by
  intro m
  induction m with
  | zero =>
    intro i x6 I hi hx hF hv hc
    subst hx
    obtain rfl : i = 40 := by omega
    have hle : (40 : Int32) ≤ nI 40 := by decide
    refine w_RM_watches_11 (fun _ => ?_) (fun c => absurd hle c) (fun c => absurd hle c)
    exact rw_loop hok hQ hq l.length 0 0 0 I (by omega) nI_0.symm rfl hF (fun x hx => by rw [hv x hx]; rfl) (by rw [hc]; rfl)
  | succ m ih =>
    intro i x6 I hi hx hF hv hc0
    subst hx
    have hc : ¬ (40 : Int32) ≤ nI i := nI_ge (a := i) (b := 40) (by omega) (by omega)
    have e1 : (nI i).toNatClampNeg = i := nI_clamp (by omega)
    refine w_RM_watches_11 (fun c => absurd c hc) (fun _ => vp_in_nI (by omega) (by omega)) (fun _ => ?_)
    rw [e1]
    refine ih (i + 1) _ _ (by omega) (nI_1 i) ⟨fun a h1 h2 => ?_, fun k hk => ?_⟩ (fun x hx => ?_) ?_
    · rw [u2_o h2]; exact hF.1 a h1 h2
    · rw [u2_o (by decide)]; exact hF.2 k hk
    · by_cases q : x = i
      · subst q; exact u2_s
      · rw [u2_k q]; exact hv x (by omega)
    · rw [u2_o (by decide)]; exact hc0
theorem md_watches {l : List (Nat × Int32)} {tg sl li wy : Int32} (hok : okP l) (hQ : QL l I) (hq : ∀ I', FW I I' → (∀ x, x < 40 → I' 90 x = (wrn tg sl li wy l).2.1 x) → I' 67 29 = nI (wrn tg sl li wy l).2.2 → P none I' J) : Ct G d m_RM_watches [.ref 67, .int tg, .int sl, .int li, .int wy] P I J := by
  refine Ct.ofGo [some (.ref 67), some (.int tg), some (.int sl), some (.int li), some (.int wy), none, none, none] (by decide +kernel) rfl (Nat.le_of_ble_eq_true rfl) (w_RM_watches_0 ?_)
  have hF : FW I (u2 I 67 29 0) := ⟨fun a h1 _ => u2_o h1, fun k hk => u2_k hk⟩
  exact rw_clear hok hQ hq 40 0 0 _ (by omega) nI_0.symm hF (fun x hx => by omega) u2_s
theorem rff_loop {f : Nat → Int32} (hf : ∀ x, x < 40 → I 90 x = f x) : ∀ (m i : Nat) (x2 : Int32), i + m = 40 → x2 = nI i → P (some (.int (ffr f i m))) I J → Go G (fr G m_RM_firstFrom d P) 2 [some (.ref 67), none, some (.int x2)] [] I J := by
  intro m
  induction m with
  | zero =>
    intro i x2 hi hx hq
    subst hx
    obtain rfl : i = 40 := by omega
    have hle : (40 : Int32) ≤ nI 40 := by decide
    exact w_RM_firstFrom_2 (fun _ => w_RM_firstFrom_23 (fun c => absurd rfl c) (fun _ => hq)) (fun c => absurd hle c) (fun c => absurd hle c) (fun c => absurd hle c)
  | succ m ih =>
    intro i x2 hi hx hq
    subst hx
    have hc : ¬ (40 : Int32) ≤ nI i := nI_ge (a := i) (b := 40) (by omega) (by omega)
    have e1 : (nI i).toNatClampNeg = i := nI_clamp (by omega)
    have hn : ¬ nI i = 40 := by rw [show (40 : Int32) = nI 40 from rfl, nI_eq (by omega) (by omega)]; omega
    refine w_RM_firstFrom_2 (fun c => absurd c hc) (fun _ => vp_in_nI (by omega) (by omega)) (fun _ c => w_RM_firstFrom_23 (fun _ => ?_) (fun c => absurd c hn)) (fun _ c => ih (i + 1) _ (by omega) (nI_1 i) ?_)
    · rw [e1, hf i (by omega)] at c
      simpa only [ffr, if_neg c] using hq
    · rw [e1, hf i (by omega)] at c
      simpa only [ffr, if_pos c] using hq
theorem md_firstFrom {f : Nat → Int32} {dy : Nat} (hd : dy < 40) (hf : ∀ x, x < 40 → I 90 x = f x) (hq : P (some (.int (ffr f dy (40 - dy)))) I J) : Ct G d m_RM_firstFrom [.ref 67, .int (nI dy)] P I J :=
  Ct.ofGo [some (.ref 67), some (.int (nI dy)), none] (by decide +kernel) rfl (Nat.le_of_ble_eq_true rfl) (w_RM_firstFrom_0 (g_weak [some (.ref 67), none, some (.int (nI dy))] ⟨rfl, rfl, trivial⟩ (rff_loop hf (40 - dy) dy _ (by omega) rfl hq)))
theorem rbf_loop {f : Nat → Int32} {n : Nat} (hn : n ≤ 40) (h01 : is01 f) (hf : ∀ x, x < 40 → I 90 x = f x) (hq : P (some (.int (sumTo f n))) I J) : ∀ (m i : Nat) (x2 x3 : Int32), i + m = n → x3 = nI i → x2 = sumTo f i → Go G (fr G m_RM_before d P) 4 [some (.ref 67), some (.int (nI n)), some (.int x2), some (.int x3)] [] I J := by
  intro m
  induction m with
  | zero =>
    intro i x2 x3 hi hx3 hx2
    subst hx3; subst hx2
    obtain rfl : i = n := by omega
    have hle : nI i ≤ nI i := nI_le (Nat.le_refl _) (by omega)
    exact w_RM_before_4 (fun _ => hq) (fun c => absurd hle c) (fun c => absurd hle c) (fun c => absurd hle c)
  | succ m ih =>
    intro i x2 x3 hi hx3 hx2
    subst hx3; subst hx2
    have hc : ¬ nI n ≤ nI i := nI_ge (by omega) (by omega)
    have e1 : (nI i).toNatClampNeg = i := nI_clamp (by omega)
    refine w_RM_before_4 (fun c => absurd c hc) (fun _ => vp_in_nI (by omega) (by omega)) (fun _ c => ?_) (fun _ c => ?_)
    · rw [e1, hf i (by omega)] at c
      refine w_RM_before_24 (ih (i + 1) _ _ (by omega) (nI_1 i) ?_)
      simp only [sumTo, c]
    · rw [e1, hf i (by omega)] at c
      refine w_RM_before_24 (ih (i + 1) _ _ (by omega) (nI_1 i) ?_)
      simp only [sumTo, (h01 i).resolve_left c]
theorem md_before {f : Nat → Int32} {n : Nat} (hn : n ≤ 40) (h01 : is01 f) (hf : ∀ x, x < 40 → I 90 x = f x) (hq : P (some (.int (sumTo f n))) I J) : Ct G d m_RM_before [.ref 67, .int (nI n)] P I J :=
  Ct.ofGo [some (.ref 67), some (.int (nI n)), none, none] (by decide +kernel) rfl (Nat.le_of_ble_eq_true rfl) (w_RM_before_0 (rbf_loop hn h01 hf hq n 0 0 0 (by omega) nI_0.symm rfl))
theorem rwatch0 {r tg sl li wy : Int32} : f_RM_isWatch r tg sl li wy = 0 ↔ (f_LB_isWatch r tg sl wy = 0 ∨ f_LB_isLimit li = 0) := by
  unfold f_RM_isWatch f_LB_isWatch
  show (if f_LB_isRow r = 0 then (0 : Int32) else if f_LB_isWithin tg (-1000) 1000 = 0 then 0 else if f_LB_isWithin sl 0 1000 = 0 then 0 else if f_LB_isLimit li = 0 then 0 else if f_LB_isWithin wy 0 1 = 0 then 0 else 1) = 0 ↔ _
  by_cases h1 : f_LB_isRow r = 0
  · simp [h1]
  by_cases h2 : f_LB_isWithin tg (-1000) 1000 = 0
  · simp [h1, h2]
  by_cases h3 : f_LB_isWithin sl 0 1000 = 0
  · simp [h1, h2, h3]
  by_cases h4 : f_LB_isLimit li = 0
  · simp [h1, h2, h3, h4]
  by_cases h5 : f_LB_isWithin wy 0 1 = 0
  · simp [h1, h2, h3, h4, h5]
  simp [h1, h2, h3, h4, h5]
theorem in39 {dy : Int32} : f_LB_isWithin dy (-1) 39 = 0 ↔ (¬ dy = -1 ∧ f_LB_isDay dy = 0) := by
  show _ ↔ (_ ∧ f_LB_isWithin dy 0 39 = 0)
  rw [isW0, isW0, ti_le, ti_le, ti_le, ti_eq]
  have z1 : (-1 : Int32).toInt = -1 := rfl
  have z0 : (0 : Int32).toInt = 0 := rfl
  have z9 : (39 : Int32).toInt = 39 := rfl
  rw [z1, z0, z9]
  omega
theorem md_alarm {st : ST} {r tg sl li wy dy : Int32} (hR : RM st I J) (hS : okS st) (hq : ∀ I', KM I J I' J → P (some (.int (alarms st r tg sl li wy dy))) I' J) : Ct G (d + 3) m_RM_alarm [.ref 67, .int r, .int tg, .int sl, .int li, .int wy, .int dy] P I J := by
  have hbad : (f_LB_isWatch r tg sl wy = 0 ∨ f_LB_isLimit li = 0 ∨ (¬ dy = -1 ∧ f_LB_isDay dy = 0)) → Go G (fr G m_RM_alarm (d + 3) P) 24 [none, none, none, none, none, none, none] [] I J := fun hb => by
    refine w_RM_alarm_24 ?_
    have e : alarms st r tg sl li wy dy = -2 := by unfold alarms; rw [if_pos hb]
    rw [e] at hq; exact hq I KM.rf
  refine Ct.ofGo [some (.ref 67), some (.int r), some (.int tg), some (.int sl), some (.int li), some (.int wy), some (.int dy)] (by decide +kernel) rfl (Nat.le_of_ble_eq_true rfl) (w_RM_alarm_0 (fun c => hbad ((rwatch0.mp c).elim Or.inl (fun h => Or.inr (Or.inl h)))) (fun c1 c2 => ?_) (fun _ c => hbad (Or.inr (Or.inr (in39.mp c)))))
  have c2 : ¬ f_LB_isWithin dy (-1) 39 = 0 := c2
  have hnb : ¬ (f_LB_isWatch r tg sl wy = 0 ∨ f_LB_isLimit li = 0 ∨ (¬ dy = -1 ∧ f_LB_isDay dy = 0)) := by
    rintro (h | h | h)
    · exact c1 (rwatch0.mpr (Or.inl h))
    · exact c1 (rwatch0.mpr (Or.inr h))
    · exact c2 (in39.mpr h)
  have ea : alarms st r tg sl li wy dy = if dy = -1 then sumTo (wrn tg sl li wy (ptl st.1 r.toNatClampNeg st.2.1)).2.1 40 else (wrn tg sl li wy (ptl st.1 r.toNatClampNeg st.2.1)).2.1 dy.toNatClampNeg := by unfold alarms; rw [if_neg hnb]
  rw [ea] at hq
  obtain ⟨r, hr, rfl⟩ := isRow1 (watch_row (fun h => hnb (Or.inl h)))
  have e1 : (nI r).toNatClampNeg = r := nI_clamp (by omega)
  rw [e1] at hq
  rw [hR.2.1]
  have hok := ptl_ok hS.1 r st.2.1
  refine md_pointsBy hR.1 hS.1 (fun I1 h1 _ h3 => w_RM_alarm_36 (md_watches hok h3.ql (fun I2 g1 g2 g3 => ?_)))
  have hkm : KM I J I2 J := (h1.km (J := J)).tr g1.km
  have hcnt := (wrn_sum tg sl li wy (ptl st.1 r st.2.1) (fun p hp => (hok.2.1 p hp).1) hok.2.2).1
  by_cases q : dy = -1
  · rw [if_pos q, hcnt, ← g3] at hq
    exact w_RM_alarm_46 (fun c => absurd q c) (fun c => absurd q c) (fun c => absurd q c) (fun _ => hq I2 hkm)
  · rw [if_neg q] at hq
    have hday : ¬ f_LB_isDay dy = 0 := fun h => hnb (Or.inr (Or.inr ⟨q, h⟩))
    obtain ⟨j, hj, rfl⟩ := isDay1 hday
    have ej : (nI j).toNatClampNeg = j := nI_clamp (by omega)
    rw [ej] at hq
    refine w_RM_alarm_46 (fun _ => vp_in_nI hj (by omega)) (fun _ c => ?_) (fun _ c => ?_) (fun c => absurd c q)
    · rw [ej, g2 j hj] at c
      rw [c] at hq; exact hq I2 hkm
    · rw [ej, g2 j hj] at c
      rw [(wrn_01 tg sl li wy _ j).resolve_left c] at hq; exact hq I2 hkm
theorem in01 {wh : Int32} (h : ¬ f_LB_isWithin wh 0 1 = 0) : wh = 0 ∨ wh = 1 := by
  obtain ⟨a, b⟩ := isW1.mp h
  rw [ti_le] at a b
  have z1 : (1 : Int32).toInt = 1 := rfl
  have z0 : (0 : Int32).toInt = 0 := rfl
  rw [z0] at a; rw [z1] at b
  rcases (show wh.toInt = 0 ∨ wh.toInt = 1 by omega) with q | q
  · exact Or.inl (ti_eq.mpr q)
  · exact Or.inr (ti_eq.mpr q)
theorem md_soon {st : ST} {r tg sl li wy dy wh : Int32} (hR : RM st I J) (hS : okS st) (hq : ∀ I', KM I J I' J → P (some (.int (soons st r tg sl li wy dy wh))) I' J) : Ct G (d + 3) m_RM_soon [.ref 67, .int r, .int tg, .int sl, .int li, .int wy, .int dy, .int wh] P I J := by
  have hbad : (f_LB_isWatch r tg sl wy = 0 ∨ f_LB_isLimit li = 0 ∨ f_LB_isDay dy = 0 ∨ f_LB_isWithin wh 0 1 = 0) → Go G (fr G m_RM_soon (d + 3) P) 31 [none, none, none, none, none, none, none, none, none] [] I J := fun hb => by
    refine w_RM_soon_31 ?_
    have e : soons st r tg sl li wy dy wh = -2 := by unfold soons; rw [if_pos hb]
    rw [e] at hq; exact hq I KM.rf
  refine Ct.ofGo [some (.ref 67), some (.int r), some (.int tg), some (.int sl), some (.int li), some (.int wy), some (.int dy), some (.int wh), none] (by decide +kernel) rfl (Nat.le_of_ble_eq_true rfl) (w_RM_soon_0 (fun c => hbad ((rwatch0.mp c).elim Or.inl (fun h => Or.inr (Or.inl h)))) (fun _ c => hbad (Or.inr (Or.inr (Or.inl c)))) (fun c1 c2 c3 => ?_) (fun _ _ c => hbad (Or.inr (Or.inr (Or.inr c)))))
  have c3 : ¬ f_LB_isWithin wh 0 1 = 0 := c3
  have c2 : ¬ f_LB_isDay dy = 0 := c2
  have hnb : ¬ (f_LB_isWatch r tg sl wy = 0 ∨ f_LB_isLimit li = 0 ∨ f_LB_isDay dy = 0 ∨ f_LB_isWithin wh 0 1 = 0) := by
    rintro (h | h | h | h)
    · exact c1 (rwatch0.mpr (Or.inl h))
    · exact c1 (rwatch0.mpr (Or.inr h))
    · exact c2 h
    · exact c3 h
  have ea : soons st r tg sl li wy dy wh = if wh = 0 then tillD (wrn tg sl li wy (ptl st.1 r.toNatClampNeg st.2.1)).2.1 dy.toNatClampNeg else sumTo (wrn tg sl li wy (ptl st.1 r.toNatClampNeg st.2.1)).2.1 dy.toNatClampNeg := by unfold soons; rw [if_neg hnb]
  rw [ea] at hq
  obtain ⟨r, hr, rfl⟩ := isRow1 (watch_row (fun h => hnb (Or.inl h)))
  obtain ⟨j, hj, rfl⟩ := isDay1 c2
  have e1 : (nI r).toNatClampNeg = r := nI_clamp (by omega)
  have ej : (nI j).toNatClampNeg = j := nI_clamp (by omega)
  rw [e1, ej] at hq
  rw [hR.2.1]
  have hok := ptl_ok hS.1 r st.2.1
  refine md_pointsBy hR.1 hS.1 (fun I1 h1 _ h3 => w_RM_soon_43 (md_watches hok h3.ql (fun I2 g1 g2 g3 => w_RM_soon_53 (md_firstFrom hj g2 ?_))))
  have hkm : KM I J I2 J := (h1.km (J := J)).tr g1.km
  rcases in01 c3 with q | q
  · have hn1 : ¬ wh = 1 := by rw [q]; decide
    rw [if_pos q] at hq
    unfold tillD at hq
    refine w_RM_soon_59 (fun _ c => ?_) (fun _ c => ?_) (fun c => absurd c hn1)
    · rw [if_neg c] at hq; exact hq I2 hkm
    · rw [if_pos c] at hq; exact hq I2 hkm
  · have hn0 : ¬ wh = 0 := by rw [q]; decide
    rw [if_neg hn0] at hq
    exact w_RM_soon_59 (fun c => absurd q c) (fun c => absurd q c) (fun _ => md_before (by omega) (wrn_01 _ _ _ _ _) g2 (w_RM_soon_73 (hq I2 hkm)))
end
