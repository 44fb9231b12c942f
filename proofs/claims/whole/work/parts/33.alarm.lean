/-! ===== alarms ===== -/
/-- a row's points as one list -/
def ptl (told : List TE) (r : Nat) (t : Int32) : List (Nat × Int32) := (pdd told r t).zip (pvv told r t)
def okP (l : List (Nat × Int32)) : Prop := l.length ≤ 40 ∧ (∀ p ∈ l, p.1 < 40 ∧ -1000 ≤ p.2.toInt ∧ p.2.toInt ≤ 1000) ∧ l.Pairwise fun a b => a.1 < b.1
theorem pdd_sorted (told : List TE) (r : Nat) (t : Int32) : (pdd told r t).Pairwise (· < ·) := List.Pairwise.filter _ List.pairwise_lt_range
theorem pdd_lt {told : List TE} {r : Nat} {t : Int32} {x : Nat} (h : x ∈ pdd told r t) : x < 40 := (dys_mem.mp h).1
theorem ptl_len (told : List TE) (r : Nat) (t : Int32) : (ptl told r t).length = (pdd told r t).length := by simp [ptl, pvv_len]
theorem vwl_rng {told : List TE} (h : okT told) {r dy t : Int32} : vwl told r dy t = -9999 ∨ (-1000 ≤ (vwl told r dy t).toInt ∧ (vwl told r dy t).toInt ≤ 1000) := by
  have key : ∀ (l : List TE), (∀ e ∈ l, okE e) → ∀ v : Int32, (v = -9999 ∨ (-1000 ≤ v.toInt ∧ v.toInt ≤ 1000)) → ((l.foldl (fun v e => if e.1 = r ∧ e.2.1 = dy ∧ e.2.2.2 ≤ t then e.2.2.1 else v) v) = -9999 ∨ (-1000 ≤ (l.foldl (fun v e => if e.1 = r ∧ e.2.1 = dy ∧ e.2.2.2 ≤ t then e.2.2.1 else v) v).toInt ∧ (l.foldl (fun v e => if e.1 = r ∧ e.2.1 = dy ∧ e.2.2.2 ≤ t then e.2.2.1 else v) v).toInt ≤ 1000)) := by
    intro l
    induction l with
    | nil => intro _ v hv; exact hv
    | cons e l ih =>
      intro hl v hv
      simp only [List.foldl_cons]
      refine ih (fun x hx => hl x (List.mem_cons_of_mem _ hx)) _ ?_
      split
      · have he := (hl e List.mem_cons_self).2.2.1
        by_cases q : e.2.2.1 = -9999
        · exact Or.inl q
        · right
          have h2 := fun h => he (isVal0.mpr ⟨q, h⟩)
          obtain ⟨a, b⟩ := isW1.mp h2
          rw [ti_le] at a b
          have z1 : (-1000 : Int32).toInt = -1000 := rfl
          have z2 : (1000 : Int32).toInt = 1000 := rfl
          omega
      · exact hv
  exact key told h.1 (-9999) (Or.inl rfl)
theorem zip_map_self {α β : Type} (l : List α) (f : α → β) : l.zip (l.map f) = l.map fun x => (x, f x) := by
  induction l with
  | nil => rfl
  | cons a t ih => simp [ih]
theorem ptl_map (told : List TE) (r : Nat) (t : Int32) : ptl told r t = (pdd told r t).map fun dd => (dd, vwl told (nI r) (nI dd) t) := zip_map_self _ _
theorem ptl_ok {told : List TE} (h : okT told) (r : Nat) (t : Int32) : okP (ptl told r t) := by
  refine ⟨by rw [ptl_len]; exact pdd_len _ _ _, fun p hp => ?_, ?_⟩
  · rw [ptl_map] at hp
    obtain ⟨x, hx, rfl⟩ := List.mem_map.mp hp
    refine ⟨pdd_lt hx, ?_⟩
    rcases vwl_rng h (r := nI r) (dy := nI x) (t := t) with q | q
    · exact absurd q (dys_mem.mp hx).2
    · exact q
  · rw [ptl_map, List.pairwise_map]
    exact (pdd_sorted told r t)
theorem ptl_get {told : List TE} {r : Nat} {t : Int32} {k : Nat} (h : k < (pdd told r t).length) : (ptl told r t).getD k (0, 0) = ((pdd told r t).getD k 0, (pvv told r t).getD k 0) := by
  have hv : k < (pvv told r t).length := by rw [pvv_len]; exact h
  rw [getD_lt (by rw [ptl_len]; exact h), getD_lt h, getD_lt hv]
  simp [ptl]
/-- what a row of points holds, by one list -/
def PL (o : Nat) (l : List (Nat × Int32)) (I : MI) : Prop := I o 4 = nI l.length ∧ ∀ k, k < l.length → I (o + 2) k = nI (l.getD k (0, 0)).1 ∧ I (o + 3) k = (l.getD k (0, 0)).2
theorem PH.pl {o : Nat} {told : List TE} {r : Nat} {t : Int32} {I : MI} (h : PH o (pdd told r t) (pvv told r t) I) : PL o (ptl told r t) I := by
  refine ⟨by rw [ptl_len]; exact h.1, fun k hk => ?_⟩
  rw [ptl_len] at hk
  rw [ptl_get hk]
  exact ⟨(h.2.2 k hk).1, (h.2.2 k hk).2.1⟩
def QL (l : List (Nat × Int32)) (I : MI) : Prop := I 67 7 = nI l.length ∧ ∀ k, k < l.length → I 73 k = (l.getD k (0, 0)).2 ∧ I 74 k = nI (l.getD k (0, 0)).1
theorem PM.ql {told : List TE} {r : Nat} {t : Int32} {I : MI} (h : PM (pdd told r t) (pvv told r t) I) : QL (ptl told r t) I := by
  refine ⟨by rw [ptl_len]; exact h.1, fun k hk => ?_⟩
  rw [ptl_len] at hk
  rw [ptl_get hk]
  exact h.2.2 k hk
theorem takeP_ext {l : List (Nat × Int32)} {n : Nat} (h : n < l.length) : l.take (n + 1) = l.take n ++ [l.getD n (0, 0)] := by
  rw [getD_lt h, List.take_succ_eq_append_getElem h]
def stp (tg sl li wy : Int32) (a : Int32 × (Nat → Int32) × Nat) (p : Nat × Int32) : Int32 × (Nat → Int32) × Nat :=
  if f_AL_sumWith a.1 p.2 tg sl wy < li then (f_AL_sumWith a.1 p.2 tg sl wy, a.2.1, a.2.2) else (0, (fun x => if x = p.1 then 1 else a.2.1 x), a.2.2 + 1)
def wrn (tg sl li wy : Int32) (l : List (Nat × Int32)) : Int32 × (Nat → Int32) × Nat := l.foldl (stp tg sl li wy) (0, fun _ => 0, 0)
theorem wrn_app (tg sl li wy : Int32) (l : List (Nat × Int32)) (p : Nat × Int32) : wrn tg sl li wy (l ++ [p]) = stp tg sl li wy (wrn tg sl li wy l) p := by simp [wrn]
section
variable {G : GC} {d : Nat} {P : PT} {I : MI} {J : MJ}
theorem watch_loop {o : Nat} {l : List (Nat × Int32)} {tg sl li wy : Int32} {I0 : MI} (h1 : PtsAt o) (hok : okP l) (hP : PL o l I0) (hq : ∀ I', Fr [52] I0 I' → (∀ x, x < 40 → I' 52 x = (wrn tg sl li wy l).2.1 x) → P none I' J) : ∀ (m i : Nat) (x6 x7 : Int32) (I : MI), i + m = l.length → x7 = nI i → x6 = (wrn tg sl li wy (l.take i)).1 → Fr [52] I0 I → (∀ x, x < 40 → I 52 x = (wrn tg sl li wy (l.take i)).2.1 x) → Go G (fr G m_AL_watch (d + 2) P) 14 [some (.ref 51), some (.ref o), some (.int tg), some (.int sl), some (.int li), some (.int wy), some (.int x6), some (.int x7)] [] I J := by
  have hr := pts_rng h1
  have hl := hok.1
  intro m
  induction m with
  | zero =>
    intro i x6 x7 I hi hx7 hx6 hF hv
    subst hx7; subst hx6
    have hle : I o 4 ≤ nI i := by rw [hF o (by simp; omega), hP.1]; exact nI_le (by omega) (by omega)
    rw [List.take_of_length_le (by omega)] at hv
    exact w_AL_watch_14 h1 (fun _ => hq I hF hv) (fun c => absurd hle c) (fun c => absurd hle c) (fun c => absurd hle c) (fun c => absurd hle c)
  | succ m ih =>
    intro i x6 x7 I hi hx7 hx6 hF hv
    subst hx7; subst hx6
    have hi' : i < l.length := by omega
    have hc : ¬ I o 4 ≤ nI i := by rw [hF o (by simp; omega), hP.1]; exact nI_ge (by omega) (by omega)
    have e1 : (nI i).toNatClampNeg = i := nI_clamp (by omega)
    have e3 : I (o + 3) (nI i).toNatClampNeg = (l.getD i (0, 0)).2 := by rw [e1, hF (o + 3) (by simp; omega)]; exact (hP.2 i hi').2
    have e2 : I (o + 2) (nI i).toNatClampNeg = nI (l.getD i (0, 0)).1 := by rw [e1, hF (o + 2) (by simp; omega)]; exact (hP.2 i hi').1
    have hd : (l.getD i (0, 0)).1 < 40 := (hok.2.1 _ (by rw [getD_lt hi']; exact List.getElem_mem hi')).1
    have hst := wrn_app tg sl li wy (l.take i) (l.getD i (0, 0))
    rw [← takeP_ext hi'] at hst
    refine w_AL_watch_14 h1 (fun c => absurd c hc) (fun _ => vp_in_nI (by omega) (by omega)) (fun _ c => ?_) (fun _ _ => by rw [e2]; exact vp_in_nI hd (by omega)) (fun _ c => ?_)
    · rw [e3] at c ⊢
      refine w_AL_watch_64 h1 (ih (i + 1) _ _ I (by omega) (nI_1 i) ?_ hF (fun x hx => ?_))
      · rw [hst]; simp only [stp, if_pos c]
      · rw [hst, hv x hx]; simp only [stp, if_pos c]
    · rw [e3] at c
      rw [e2, nI_clamp (show (l.getD i (0, 0)).1 < 2 ^ 31 by omega)]
      refine w_AL_watch_64 h1 (ih (i + 1) _ _ _ (by omega) (nI_1 i) ?_ (fun a ha => by rw [u2_o (by simpa using ha)]; exact hF a ha) (fun x hx => ?_))
      · rw [hst]; simp only [stp, if_neg c]
      · rw [hst, u2_at]
        simp only [stp, if_neg c]
        by_cases q : x = (l.getD i (0, 0)).1
        · rw [if_pos q, if_pos q]
        · rw [if_neg q, if_neg q]; exact hv x hx
theorem sp_watch {o : Nat} {l : List (Nat × Int32)} {tg sl li wy : Int32} (h1 : PtsAt o) (hok : okP l) (hP : PL o l I) (hq : ∀ I', Fr [52] I I' → (∀ x, x < 40 → I' 52 x = (wrn tg sl li wy l).2.1 x) → P none I' J) : Ct G (d + 2) m_AL_watch [.ref 51, .ref o, .int tg, .int sl, .int li, .int wy] P I J := by
  have hr := pts_rng h1
  refine Ct.ofGo [some (.ref 51), some (.ref o), some (.int tg), some (.int sl), some (.int li), some (.int wy), none, none] (by decide +kernel) rfl (Nat.le_of_ble_eq_true rfl) (w_AL_watch_0 h1 (sp_fillI sh_52 (by decide) (w_AL_watch_8 h1 ?_)))
  have hk : ∀ a, a ≠ 52 → fl I 52 40 0 a = I a := fun a ha => fl_o ha
  refine watch_loop h1 hok (I0 := fl I 52 40 0) ⟨by rw [hk _ (by omega)]; exact hP.1, fun k hk' => by rw [hk _ (by omega), hk _ (by omega)]; exact hP.2 k hk'⟩ (fun I' g1 g2 => hq I' (fun a ha => by rw [g1 a ha]; exact hk a (by simpa using ha)) g2) l.length 0 0 0 _ (by omega) nI_0.symm rfl Fr.rf (fun x hx => ?_)
  rw [fl_at hx]; rfl
def sumTo (f : Nat → Int32) (n : Nat) : Int32 := match n with
  | 0 => 0
  | n + 1 => sumTo f n + f n
theorem cb_loop {f : Nat → Int32} {n : Nat} (hn : n ≤ 40) (hf : ∀ x, x < 40 → I 52 x = f x) (hq : P (some (.int (sumTo f n))) I J) : ∀ (m i : Nat) (x2 x3 : Int32), i + m = n → x3 = nI i → x2 = sumTo f i → Go G (fr G m_AL_countBefore d P) 4 [some (.ref 51), some (.int (nI n)), some (.int x2), some (.int x3)] [] I J := by
  intro m
  induction m with
  | zero =>
    intro i x2 x3 hi hx3 hx2
    subst hx3; subst hx2
    obtain rfl : i = n := by omega
    have hle : nI i ≤ nI i := nI_le (Nat.le_refl _) (by omega)
    exact w_AL_countBefore_4 (fun _ => w_AL_countBefore_30 hq) (fun c => absurd hle c) (fun c => absurd hle c) (fun c => absurd hle c)
  | succ m ih =>
    intro i x2 x3 hi hx3 hx2
    subst hx3; subst hx2
    have hc : ¬ nI n ≤ nI i := nI_ge (by omega) (by omega)
    have h40 : ¬ (40 : Int32) ≤ nI i := nI_ge (a := i) (b := 40) (by omega) (by omega)
    have e1 : (nI i).toNatClampNeg = i := nI_clamp (by omega)
    refine w_AL_countBefore_4 (fun c => absurd c hc) (fun _ c => absurd c h40) (fun _ _ => vp_in_nI (by omega) (by omega)) (fun _ _ => ih (i + 1) _ _ (by omega) (nI_1 i) ?_)
    rw [e1, hf i (by omega)]; rfl
theorem sp_countBefore {f : Nat → Int32} {n : Nat} (hn : n ≤ 40) (hf : ∀ x, x < 40 → I 52 x = f x) (hq : P (some (.int (sumTo f n))) I J) : Ct G d m_AL_countBefore [.ref 51, .int (nI n)] P I J :=
  Ct.ofGo [some (.ref 51), some (.int (nI n)), none, none] (by decide +kernel) rfl (Nat.le_of_ble_eq_true rfl) (w_AL_countBefore_0 (cb_loop hn hf hq n 0 0 0 (by omega) nI_0.symm rfl))
/-- the first day from i on that rings, of the m that are left -/
def ffr (f : Nat → Int32) (i m : Nat) : Int32 := match m with
  | 0 => -1
  | m + 1 => if f i = 0 then ffr f (i + 1) m else nI i
def is01 (f : Nat → Int32) : Prop := ∀ x, f x = 0 ∨ f x = 1
def tillD (f : Nat → Int32) (dy : Nat) : Int32 := if ffr f dy (40 - dy) = -1 then -1 else ffr f dy (40 - dy) - nI dy
theorem nI_ne1 {n : Nat} (h : n < 2147483648) : ¬ nI n = -1 := by
  rw [ti_eq, nI_ti h]
  have : (-1 : Int32).toInt = -1 := rfl
  omega
theorem dtf_loop {f : Nat → Int32} {dy : Nat} (hd : dy < 40) (h01 : is01 f) (hf : ∀ x, x < 40 → I 52 x = f x) : ∀ (m i : Nat) (x2 : Int32), i + m = 40 → x2 = nI i → P (some (.int (if ffr f i m = -1 then -1 else ffr f i m - nI dy))) I J → Go G (fr G m_AL_daysTillFirst d P) 2 [some (.ref 51), some (.int (nI dy)), some (.int x2)] [] I J := by
  intro m
  induction m with
  | zero =>
    intro i x2 hi hx hq
    subst hx
    obtain rfl : i = 40 := by omega
    have hle : (40 : Int32) ≤ nI 40 := by decide
    exact w_AL_daysTillFirst_2 (fun _ => hq) (fun c => absurd hle c) (fun c => absurd hle c) (fun c => absurd hle c)
  | succ m ih =>
    intro i x2 hi hx hq
    subst hx
    have hc : ¬ (40 : Int32) ≤ nI i := nI_ge (a := i) (b := 40) (by omega) (by omega)
    have e1 : (nI i).toNatClampNeg = i := nI_clamp (by omega)
    refine w_AL_daysTillFirst_2 (fun c => absurd c hc) (fun _ => vp_in_nI (by omega) (by omega)) (fun _ c => ih (i + 1) _ (by omega) (nI_1 i) ?_) (fun _ c => ?_)
    · rw [e1, hf i (by omega)] at c
      have h0 : f i = 0 := (h01 i).resolve_right c
      simpa only [ffr, if_pos h0] using hq
    · rw [e1, hf i (by omega)] at c
      have h0 : ¬ f i = 0 := by rw [c]; decide
      simp only [ffr, if_neg h0, if_neg (nI_ne1 (show i < 2147483648 by omega))] at hq
      exact hq
theorem sp_daysTill {f : Nat → Int32} {dy : Nat} (hd : dy < 40) (h01 : is01 f) (hf : ∀ x, x < 40 → I 52 x = f x) (hq : P (some (.int (tillD f dy))) I J) : Ct G d m_AL_daysTillFirst [.ref 51, .int (nI dy)] P I J :=
  Ct.ofGo [some (.ref 51), some (.int (nI dy)), none] (by decide +kernel) rfl (Nat.le_of_ble_eq_true rfl) (w_AL_daysTillFirst_0 (dtf_loop hd h01 hf (40 - dy) dy _ (by omega) rfl hq))
theorem wrn_01 (tg sl li wy : Int32) (l : List (Nat × Int32)) : is01 (wrn tg sl li wy l).2.1 := by
  have key : ∀ (l : List (Nat × Int32)) (a : Int32 × (Nat → Int32) × Nat), is01 a.2.1 → is01 (l.foldl (stp tg sl li wy) a).2.1 := by
    intro l
    induction l with
    | nil => intro a h; exact h
    | cons p l ih =>
      intro a h
      refine ih _ ?_
      unfold stp
      split
      · exact h
      · intro x
        by_cases q : x = p.1
        · simp [q]
        · simp only [if_neg q]; exact h x
  exact key l _ (fun _ => Or.inl rfl)
def alarms (st : ST) (r tg sl li wy dy : Int32) : Int32 :=
  if f_LB_isWatch r tg sl wy = 0 ∨ f_LB_isLimit li = 0 ∨ (¬ dy = -1 ∧ f_LB_isDay dy = 0) then -2 else if dy = -1 then sumTo (wrn tg sl li wy (ptl st.1 r.toNatClampNeg st.2.1)).2.1 40 else (wrn tg sl li wy (ptl st.1 r.toNatClampNeg st.2.1)).2.1 dy.toNatClampNeg
def soons (st : ST) (r tg sl li wy dy wh : Int32) : Int32 :=
  if f_LB_isWatch r tg sl wy = 0 ∨ f_LB_isLimit li = 0 ∨ f_LB_isDay dy = 0 ∨ f_LB_isWithin wh 0 1 = 0 then -2 else if wh = 0 then tillD (wrn tg sl li wy (ptl st.1 r.toNatClampNeg st.2.1)).2.1 dy.toNatClampNeg else sumTo (wrn tg sl li wy (ptl st.1 r.toNatClampNeg st.2.1)).2.1 dy.toNatClampNeg
theorem watch_row {r tg sl wy : Int32} (h : ¬ f_LB_isWatch r tg sl wy = 0) : ¬ f_LB_isRow r = 0 := fun q => h (by unfold f_LB_isWatch; rw [if_pos q])
theorem kc52 {I' : MI} (h : Fr [52] I I') : KC I J I' J := ⟨fun a ha => h a (by unfold lasts at ha; simp; omega), by rw [h 53 (by simp)], rfl, rfl, fun _ _ => rfl⟩
theorem cl_alarm {st : ST} {r tg sl li wy dy : Int32} (hR : RC st I J) (hS : okS st) (hq : ∀ I', KC I J I' J → P (some (.int (alarms st r tg sl li wy dy))) I' J) : Ct G (d + 3) m_LB_alarm [.ref 0, .int r, .int tg, .int sl, .int li, .int wy, .int dy] P I J := by
  have hbad : (f_LB_isWatch r tg sl wy = 0 ∨ f_LB_isLimit li = 0 ∨ (¬ dy = -1 ∧ f_LB_isDay dy = 0)) → Go G (fr G m_LB_alarm (d + 3) P) 33 [none, none, none, none, none, none, none] [] I J := fun hb => by
    refine w_LB_alarm_33 ?_
    have e : alarms st r tg sl li wy dy = -2 := by unfold alarms; rw [if_pos hb]
    rw [e] at hq; exact hq I KC.rf
  have hgo : ¬ f_LB_isWatch r tg sl wy = 0 → ¬ f_LB_isLimit li = 0 → (dy = -1 ∨ ¬ f_LB_isDay dy = 0) → Go G (fr G m_LB_alarm (d + 3) P) 36 [some (.ref 0), some (.int r), some (.int tg), some (.int sl), some (.int li), some (.int wy), some (.int dy)] [] I J := fun c1 c2 c3 => by
    have hnb : ¬ (f_LB_isWatch r tg sl wy = 0 ∨ f_LB_isLimit li = 0 ∨ (¬ dy = -1 ∧ f_LB_isDay dy = 0)) := by
      rintro (h | h | h)
      · exact c1 h
      · exact c2 h
      · rcases c3 with q | q
        · exact h.1 q
        · exact q h.2
    have ea : alarms st r tg sl li wy dy = if dy = -1 then sumTo (wrn tg sl li wy (ptl st.1 r.toNatClampNeg st.2.1)).2.1 40 else (wrn tg sl li wy (ptl st.1 r.toNatClampNeg st.2.1)).2.1 dy.toNatClampNeg := by unfold alarms; rw [if_neg hnb]
    rw [ea] at hq
    obtain ⟨r, hr, rfl⟩ := isRow1 (watch_row c1)
    have e1 : (nI r).toNatClampNeg = r := nI_clamp (by omega)
    rw [e1] at hq
    refine w_LB_alarm_36 (vp_in_nI hr (by omega)) ?_
    rw [e1]
    refine sp_watch (pts_lt r hr) (ptl_ok hS.1 r st.2.1) (hR.2.2.1 r hr).2.pl (fun I' g1 g2 => ?_)
    by_cases q : dy = -1
    · rw [if_pos q] at hq
      exact w_LB_alarm_55 (fun c => absurd q c) (fun c => absurd q c) (fun _ => sp_countBefore (n := 40) (by omega) g2 (w_LB_alarm_70 (hq I' (kc52 g1))))
    · rw [if_neg q] at hq
      obtain ⟨j, hj, rfl⟩ := isDay1 (c3.resolve_left q)
      rw [nI_clamp (show j < 2 ^ 31 by omega)] at hq
      refine w_LB_alarm_55 (fun _ => vp_in_nI hj (by omega)) (fun _ => ?_) (fun c => absurd c q)
      rw [nI_clamp (show j < 2 ^ 31 by omega), g2 j hj]
      exact hq I' (kc52 g1)
  exact Ct.ofGo [some (.ref 0), some (.int r), some (.int tg), some (.int sl), some (.int li), some (.int wy), some (.int dy)] (by decide +kernel) rfl (Nat.le_of_ble_eq_true rfl) (w_LB_alarm_0 (fun c => hbad (Or.inl c)) (fun _ c => hbad (Or.inr (Or.inl c))) (fun c1 c2 c3 => hgo c1 c2 (Or.inl c3)) (fun c1 c2 _ c4 => hgo c1 c2 (Or.inr c4)) (fun _ _ c3 c4 => hbad (Or.inr (Or.inr ⟨c3, c4⟩))))
theorem cl_soon {st : ST} {r tg sl li wy dy wh : Int32} (hR : RC st I J) (hS : okS st) (hq : ∀ I', KC I J I' J → P (some (.int (soons st r tg sl li wy dy wh))) I' J) : Ct G (d + 3) m_LB_soon [.ref 0, .int r, .int tg, .int sl, .int li, .int wy, .int dy, .int wh] P I J := by
  have hbad : (f_LB_isWatch r tg sl wy = 0 ∨ f_LB_isLimit li = 0 ∨ f_LB_isDay dy = 0 ∨ f_LB_isWithin wh 0 1 = 0) → Go G (fr G m_LB_soon (d + 3) P) 37 [none, none, none, none, none, none, none, none] [] I J := fun hb => by
    refine w_LB_soon_37 ?_
    have e : soons st r tg sl li wy dy wh = -2 := by unfold soons; rw [if_pos hb]
    rw [e] at hq; exact hq I KC.rf
  refine Ct.ofGo [some (.ref 0), some (.int r), some (.int tg), some (.int sl), some (.int li), some (.int wy), some (.int dy), some (.int wh)] (by decide +kernel) rfl (Nat.le_of_ble_eq_true rfl) (w_LB_soon_0 (fun c => hbad (Or.inl c)) (fun _ c => hbad (Or.inr (Or.inl c))) (fun _ _ c => hbad (Or.inr (Or.inr (Or.inl c)))) (fun c _ _ _ => vin_row (isRow1 (watch_row c))) (fun c1 c2 c3 c4 => ?_) (fun _ _ _ c => hbad (Or.inr (Or.inr (Or.inr c)))))
  have hnb : ¬ (f_LB_isWatch r tg sl wy = 0 ∨ f_LB_isLimit li = 0 ∨ f_LB_isDay dy = 0 ∨ f_LB_isWithin wh 0 1 = 0) := by
    rintro (h | h | h | h)
    · exact c1 h
    · exact c2 h
    · exact c3 h
    · exact c4 h
  have ea : soons st r tg sl li wy dy wh = if wh = 0 then tillD (wrn tg sl li wy (ptl st.1 r.toNatClampNeg st.2.1)).2.1 dy.toNatClampNeg else sumTo (wrn tg sl li wy (ptl st.1 r.toNatClampNeg st.2.1)).2.1 dy.toNatClampNeg := by unfold soons; rw [if_neg hnb]
  rw [ea] at hq
  obtain ⟨r, hr, rfl⟩ := isRow1 (watch_row c1)
  obtain ⟨j, hj, rfl⟩ := isDay1 c3
  have e1 : (nI r).toNatClampNeg = r := nI_clamp (by omega)
  rw [e1, nI_clamp (show j < 2 ^ 31 by omega)] at hq
  rw [e1]
  refine sp_watch (pts_lt r hr) (ptl_ok hS.1 r st.2.1) (hR.2.2.1 r hr).2.pl (fun I' g1 g2 => ?_)
  by_cases q : wh = 0
  · rw [if_pos q] at hq
    exact w_LB_soon_59 (fun c => absurd q c) (fun _ => sp_daysTill hj (wrn_01 _ _ _ _ _) g2 (w_LB_soon_73 (w_LB_soon_85 (hq I' (kc52 g1)))))
  · rw [if_neg q] at hq
    exact w_LB_soon_59 (fun _ => sp_countBefore (by omega) g2 (w_LB_soon_85 (hq I' (kc52 g1)))) (fun c => absurd c q)
end
