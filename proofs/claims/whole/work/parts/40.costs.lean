/-! ===== what a stretch costs ===== -/
abbrev Pt : Type := Nat × Int32
def lI (z : Int) : Int64 := Int64.ofInt z
theorem lI_add (a b : Int) : lI a + lI b = lI (a + b) := (Int64.ofInt_add a b).symm
theorem lI_sub (a b : Int) : lI a - lI b = lI (a - b) := (Int64.ofInt_sub a b).symm
theorem lI_mul (a b : Int) : lI a * lI b = lI (a * b) := (Int64.ofInt_mul a b).symm
theorem lI_ti {z : Int} (h1 : -9223372036854775808 ≤ z) (h2 : z < 9223372036854775808) : (lI z).toInt = z := by
  unfold lI; rw [Int64.toInt_ofInt]; exact bm64 h1 h2
theorem lI_of (x : Int64) : lI x.toInt = x := Int64.ofInt_toInt x
theorem lI_32 (v : Int32) : v.toInt64 = lI v.toInt := by
  rw [tl_eq, ti_64, lI_ti]
  · have := ti_lo v; omega
  · have := ti_hi v; omega
theorem mb {a b A B : Int} (ha : -A ≤ a ∧ a ≤ A) (hb : -B ≤ b ∧ b ≤ B) : -(A * B) ≤ a * b ∧ a * b ≤ A * B := by
  have h : (a * b).natAbs ≤ (A * B).natAbs := by
    rw [Int.natAbs_mul, Int.natAbs_mul]
    exact Nat.mul_le_mul (by omega) (by omega)
  have h2 : 0 ≤ A * B := Int.mul_nonneg (by omega) (by omega)
  omega
def sm (f : Pt → Int) : List Pt → Int
  | [] => 0
  | p :: l => f p + sm f l
theorem sm_app (f : Pt → Int) (l l' : List Pt) : sm f (l ++ l') = sm f l + sm f l' := by
  induction l with
  | nil => simp [sm]
  | cons p l ih => simp only [List.cons_append, sm, ih]; omega
theorem sm_1 (f : Pt → Int) (p : Pt) : sm f [p] = f p := by simp [sm]
theorem sm_b {f : Pt → Int} {B : Int} {l : List Pt} (h : ∀ p ∈ l, -B ≤ f p ∧ f p ≤ B) : -(B * l.length) ≤ sm f l ∧ sm f l ≤ B * l.length := by
  induction l with
  | nil => simp [sm]
  | cons p l ih =>
    have h1 := h p List.mem_cons_self
    have h2 := ih fun q hq => h q (List.mem_cons_of_mem _ hq)
    have e : B * ((p :: l).length : Int) = B * l.length + B := by rw [List.length_cons]; push_cast; rw [Int.mul_add, Int.mul_one]
    rw [e]
    simp only [sm]
    omega
def sV : List Pt → Int := sm fun p => p.2.toInt
def sQ : List Pt → Int := sm fun p => p.2.toInt * p.2.toInt
def sD : List Pt → Int := sm fun p => (p.1 : Int)
def sE : List Pt → Int := sm fun p => (p.1 : Int) * p.1
def sB : List Pt → Int := sm fun p => p.2.toInt * p.1
def okV (l : List Pt) : Prop := ∀ p ∈ l, p.1 < 40 ∧ -1000 ≤ p.2.toInt ∧ p.2.toInt ≤ 1000
theorem sums_b {l : List Pt} (h : okV l) (hn : l.length ≤ 40) : (-40000 ≤ sV l ∧ sV l ≤ 40000) ∧ (-40000000 ≤ sQ l ∧ sQ l ≤ 40000000) ∧ (-1600 ≤ sD l ∧ sD l ≤ 1600) ∧ (-64000 ≤ sE l ∧ sE l ≤ 64000) ∧ (-1600000 ≤ sB l ∧ sB l ≤ 1600000) := by
  have h1 := sm_b (f := fun p => p.2.toInt) (B := 1000) (l := l) fun p hp => by have := h p hp; exact ⟨this.2.1, this.2.2⟩
  have h2 := sm_b (f := fun p => p.2.toInt * p.2.toInt) (B := 1000000) (l := l) fun p hp => by
    have := h p hp
    exact mb (A := 1000) (B := 1000) ⟨this.2.1, this.2.2⟩ ⟨this.2.1, this.2.2⟩
  have h3 := sm_b (f := fun p => (p.1 : Int)) (B := 40) (l := l) fun p hp => by have := h p hp; omega
  have h4 := sm_b (f := fun p => (p.1 : Int) * p.1) (B := 1600) (l := l) fun p hp => by
    have := h p hp
    exact mb (A := 40) (B := 40) (by omega) (by omega)
  have h5 := sm_b (f := fun p => p.2.toInt * p.1) (B := 40000) (l := l) fun p hp => by
    have := h p hp
    exact mb (A := 1000) (B := 40) ⟨this.2.1, this.2.2⟩ (by omega)
  unfold sV sQ sD sE sB
  omega
def spr (l : List Pt) : Int := l.length * sE l - sD l * sD l
def slt (l : List Pt) : Int := l.length * sB l - sV l * sD l
def lvl (l : List Pt) : Int := l.length * sQ l - sV l * sV l
def awy (l : List Pt) (g : Int) : Int := l.length * (sQ l - 2 * g * sB l + g * g * sE l) - (sV l - g * sD l) * (sV l - g * sD l)
theorem awy_eq (l : List Pt) (g : Int) : awy l g = lvl l + (g * g * spr l - 2 * g * slt l) := by
  unfold awy lvl spr slt
  grind
def mnA (f : Int → Int) : Nat → Int
  | 0 => f (-20)
  | k + 1 => if f (-19 + k) < mnA f k then f (-19 + k) else mnA f k
theorem mnA_spec (f : Int → Int) : ∀ k : Nat, (∃ g : Int, -20 ≤ g ∧ g ≤ -20 + (k : Int) ∧ f g = mnA f k) ∧ ∀ g : Int, -20 ≤ g → g ≤ -20 + (k : Int) → mnA f k ≤ f g := by
  intro k
  induction k with
  | zero => exact ⟨⟨-20, by omega, by omega, rfl⟩, fun g h1 h2 => by rw [show g = -20 by omega]; exact Int.le_refl _⟩
  | succ k ih =>
    obtain ⟨⟨g, h1, h2, h3⟩, h4⟩ := ih
    unfold mnA
    by_cases q : f (-19 + k) < mnA f k
    · rw [if_pos q]
      refine ⟨⟨-19 + k, by omega, by push_cast; omega, rfl⟩, fun g' h5 h6 => ?_⟩
      by_cases q2 : g' = -19 + k
      · rw [q2]; exact Int.le_refl _
      · have := h4 g' h5 (by push_cast at h6; omega); omega
    · rw [if_neg q]
      refine ⟨⟨g, h1, by push_cast; omega, h3⟩, fun g' h5 h6 => ?_⟩
      by_cases q2 : g' = -19 + k
      · rw [q2]; omega
      · exact h4 g' h5 (by push_cast at h6; omega)
def slp (l : List Pt) : Int := mnA (awy l) 40
theorem slp_of {l : List Pt} {v : Int} (h1 : ∃ g : Int, -20 ≤ g ∧ g ≤ 20 ∧ awy l g = v) (h2 : ∀ g : Int, -20 ≤ g → g ≤ 20 → v ≤ awy l g) : slp l = v := by
  obtain ⟨⟨g, a, b, c⟩, e⟩ := mnA_spec (awy l) 40
  obtain ⟨g', a', b', c'⟩ := h1
  have i1 := h2 g a (by omega)
  have i2 := e g' a' (by omega)
  unfold slp; omega
theorem spr_app (l : List Pt) (p : Pt) : spr (l ++ [p]) = spr l + sm (fun e => ((p.1 : Int) - e.1) * ((p.1 : Int) - e.1)) l := by
  have key : ∀ l : List Pt, sm (fun e => ((p.1 : Int) - e.1) * ((p.1 : Int) - e.1)) l = l.length * ((p.1 : Int) * p.1) - 2 * p.1 * sD l + sE l := by
    intro l
    induction l with
    | nil => simp [sm, sD, sE]
    | cons q l ih =>
      have e1 : sD (q :: l) = q.1 + sD l := rfl
      have e2 : sE (q :: l) = (q.1 : Int) * q.1 + sE l := rfl
      simp only [sm, ih, e1, e2, List.length_cons]
      push_cast
      grind
  have e1 : sD (l ++ [p]) = sD l + p.1 := by unfold sD; rw [sm_app, sm_1]
  have e2 : sE (l ++ [p]) = sE l + (p.1 : Int) * p.1 := by unfold sE; rw [sm_app, sm_1]
  unfold spr
  rw [key, e1, e2, List.length_append, List.length_singleton]
  push_cast
  grind
theorem sm_nn {f : Pt → Int} {l : List Pt} (h : ∀ p ∈ l, 0 ≤ f p) : 0 ≤ sm f l := by
  induction l with
  | nil => simp [sm]
  | cons p l ih =>
    have := h p List.mem_cons_self
    have := ih fun q hq => h q (List.mem_cons_of_mem _ hq)
    simp only [sm]; omega
theorem sm_mem {f : Pt → Int} {l : List Pt} (h : ∀ p ∈ l, 0 ≤ f p) {p : Pt} (hp : p ∈ l) : f p ≤ sm f l := by
  induction l with
  | nil => exact absurd hp (by simp)
  | cons q l ih =>
    have h1 := h q List.mem_cons_self
    have h2 := sm_nn fun p hp => h p (List.mem_cons_of_mem _ hp)
    simp only [sm]
    rcases List.mem_cons.mp hp with rfl | hp
    · omega
    · have := ih (fun p hp => h p (List.mem_cons_of_mem _ hp)) hp; omega
theorem sq_nn (z : Int) : 0 ≤ z * z := by
  rcases Int.le_total 0 z with h | h
  · exact Int.mul_nonneg h h
  · exact Int.mul_nonneg_of_nonpos_of_nonpos h h
theorem sq_pos {z : Int} (h : z ≠ 0) : 0 < z * z := by
  rcases Int.lt_or_gt_of_ne h with q | q
  · exact Int.mul_pos_of_neg_of_neg q q
  · exact Int.mul_pos q q
theorem spr_nn : ∀ l : List Pt, 0 ≤ spr l := by
  refine rev_ind ?_ ?_
  · decide
  · intro l p ih
    rw [spr_app]
    have := sm_nn (f := fun e => ((p.1 : Int) - e.1) * ((p.1 : Int) - e.1)) (l := l) fun q _ => sq_nn _
    omega
theorem spr_pos {l : List Pt} (hs : l.Pairwise fun a b => a.1 < b.1) (h : 2 ≤ l.length) : 0 < spr l := by
  rcases List.eq_nil_or_concat l with rfl | ⟨l, p, rfl⟩
  · simp at h
  · simp only [List.concat_eq_append] at h hs ⊢
    rw [spr_app]
    have h0 := spr_nn l
    cases l with
    | nil => simp at h
    | cons q l =>
      have hlt := (List.pairwise_append.mp hs).2.2 q List.mem_cons_self p (by simp)
      have := sm_mem (f := fun e => ((p.1 : Int) - e.1) * ((p.1 : Int) - e.1)) (l := q :: l) (fun q _ => sq_nn _) List.mem_cons_self
      have := sq_pos (z := (p.1 : Int) - q.1) (by omega)
      omega
/-- the tilt that the class takes -/
def tlt (sp sl : Int) : Int := if sp ≤ 0 then 0 else
  let g := max (-20) (min 20 ((2 * sl + sp) / (2 * sp)))
  g * g * sp - 2 * g * sl
theorem tilt_best {sp sl : Int} (hp : 0 < sp) {g : Int} (h1 : -20 ≤ g) (h2 : g ≤ 20) : tlt sp sl ≤ g * g * sp - 2 * g * sl := by
  unfold tlt
  rw [if_neg (by omega)]
  dsimp only
  have k1 : (2 * sl + sp) / (2 * sp) * (2 * sp) ≤ 2 * sl + sp := Int.ediv_mul_le _ (by omega)
  have k2 : 2 * sl + sp < ((2 * sl + sp) / (2 * sp) + 1) * (2 * sp) := Int.lt_ediv_add_one_mul_self _ (by omega)
  generalize (2 * sl + sp) / (2 * sp) = g0 at k1 k2 ⊢
  have a1 : (2 * g0 - 1) * sp ≤ 2 * sl := by grind
  have a2 : 2 * sl < (2 * g0 + 1) * sp := by grind
  have key : ∀ c : Int, (g ≤ c → g + c ≤ 2 * g0 - 1 ∨ g = c) → (c ≤ g → 2 * g0 + 1 ≤ g + c ∨ g = c) → c * c * sp - 2 * c * sl ≤ g * g * sp - 2 * g * sl := by
    intro c c1 c2
    have e : g * g * sp - 2 * g * sl - (c * c * sp - 2 * c * sl) = (g - c) * ((g + c) * sp - 2 * sl) := by grind
    have : 0 ≤ (g - c) * ((g + c) * sp - 2 * sl) := by
      rcases Int.le_total g c with q | q
      · rcases c1 q with q2 | q2
        · have := Int.mul_le_mul_of_nonneg_right q2 (Int.le_of_lt hp)
          exact Int.mul_nonneg_of_nonpos_of_nonpos (by omega) (by omega)
        · rw [q2]; simp
      · rcases c2 q with q2 | q2
        · have := Int.mul_le_mul_of_nonneg_right q2 (Int.le_of_lt hp)
          exact Int.mul_nonneg (by omega) (by omega)
        · rw [q2]; simp
    omega
  exact key _ (by omega) (by omega)
theorem slp_tlt {l : List Pt} (hs : l.Pairwise fun a b => a.1 < b.1) : slp l = lvl l + tlt (spr l) (slt l) := by
  rcases Nat.lt_or_ge l.length 2 with h | h
  · have hz : spr l = 0 ∧ slt l = 0 := by
      match l, h with
      | [], _ => exact ⟨rfl, rfl⟩
      | [p], _ =>
        constructor
        · simp [spr, sE, sD, sm]
        · simp [slt, sB, sV, sD, sm]
    have ht : tlt (spr l) (slt l) = 0 := by rw [hz.1]; unfold tlt; exact if_pos (by omega)
    rw [ht]
    have ha : ∀ g, awy l g = lvl l + 0 := fun g => by rw [awy_eq, hz.1, hz.2]; simp
    exact slp_of ⟨0, by omega, by omega, ha 0⟩ fun g _ _ => by rw [ha g]; exact Int.le_refl _
  · have hp := spr_pos hs h
    refine slp_of ⟨max (-20) (min 20 ((2 * slt l + spr l) / (2 * spr l))), by omega, by omega, ?_⟩ fun g h1 h2 => ?_
    · rw [awy_eq]; unfold tlt; rw [if_neg (by omega)]
    · rw [awy_eq]
      have := tilt_best (sl := slt l) hp h1 h2
      omega
/-! the middle -/
def far (t : Int) : List Pt → Int := sm fun p => ((p.2.toInt - t).natAbs : Int)
def lw (t : Int) (l : List Pt) : Nat := l.countP fun p => decide (p.2.toInt < t)
def gt (t : Int) (l : List Pt) : Nat := l.countP fun p => decide (t < p.2.toInt)
def isMed (l : List Pt) (t : Int) : Prop := 2 * lw t l ≤ l.length ∧ 2 * gt t l ≤ l.length
theorem far_up {l : List Pt} {t t' : Int} (h : t ≤ t') : far t' l ≤ far t l + (t' - t) * (2 * lw t' l - l.length) := by
  induction l with
  | nil => simp [far, sm, lw]
  | cons p l ih =>
    have e1 : ∀ t, far t (p :: l) = (p.2.toInt - t).natAbs + far t l := fun t => rfl
    rw [e1, e1]
    unfold lw at ih ⊢
    rw [List.countP_cons, List.length_cons]
    by_cases q : p.2.toInt < t'
    · simp only [q, decide_true, if_true]
      have e : (t' - t) * (2 * ((List.countP (fun p => decide (p.2.toInt < t')) l + 1 : Nat) : Int) - ((l.length + 1 : Nat) : Int)) = (t' - t) * (2 * (List.countP (fun p => decide (p.2.toInt < t')) l : Int) - l.length) + (t' - t) := by push_cast; grind
      rw [e]; omega
    · simp only [q, decide_false, if_false, Nat.add_zero, Bool.false_eq_true]
      have e : (t' - t) * (2 * ((List.countP (fun p => decide (p.2.toInt < t')) l : Nat) : Int) - ((l.length + 1 : Nat) : Int)) = (t' - t) * (2 * (List.countP (fun p => decide (p.2.toInt < t')) l : Int) - l.length) - (t' - t) := by push_cast; grind
      rw [e]; omega
theorem far_dn {l : List Pt} {t t' : Int} (h : t ≤ t') : far t l ≤ far t' l + (t' - t) * (2 * gt t l - l.length) := by
  induction l with
  | nil => simp [far, sm, gt]
  | cons p l ih =>
    have e1 : ∀ t, far t (p :: l) = (p.2.toInt - t).natAbs + far t l := fun t => rfl
    rw [e1, e1]
    unfold gt at ih ⊢
    rw [List.countP_cons, List.length_cons]
    by_cases q : t < p.2.toInt
    · simp only [q, decide_true, if_true]
      have e : (t' - t) * (2 * ((List.countP (fun p => decide (t < p.2.toInt)) l + 1 : Nat) : Int) - ((l.length + 1 : Nat) : Int)) = (t' - t) * (2 * (List.countP (fun p => decide (t < p.2.toInt)) l : Int) - l.length) + (t' - t) := by push_cast; grind
      rw [e]; omega
    · simp only [q, decide_false, if_false, Nat.add_zero, Bool.false_eq_true]
      have e : (t' - t) * (2 * ((List.countP (fun p => decide (t < p.2.toInt)) l : Nat) : Int) - ((l.length + 1 : Nat) : Int)) = (t' - t) * (2 * (List.countP (fun p => decide (t < p.2.toInt)) l : Int) - l.length) - (t' - t) := by push_cast; grind
      rw [e]; omega
theorem med_le {l : List Pt} {t t' : Int} (h1 : isMed l t) (h2 : isMed l t') (h : t ≤ t') : far t l = far t' l := by
  have a := far_up (l := l) h
  have b := far_dn (l := l) h
  have c : (t' - t) * (2 * (lw t' l : Int) - l.length) ≤ 0 := Int.mul_nonpos_of_nonneg_of_nonpos (by omega) (by have := h2.1; omega)
  have d : (t' - t) * (2 * (gt t l : Int) - l.length) ≤ 0 := Int.mul_nonpos_of_nonneg_of_nonpos (by omega) (by have := h1.2; omega)
  omega
theorem med_eq {l : List Pt} {t t' : Int} (h1 : isMed l t) (h2 : isMed l t') : far t l = far t' l := by
  rcases Int.le_total t t' with h | h
  · exact med_le h1 h2 h
  · exact (med_le h2 h1 h).symm
theorem sm_perm {f : Pt → Int} {l l' : List Pt} (h : l.Perm l') : sm f l = sm f l' := by
  induction h with
  | nil => rfl
  | cons x _ ih => simp only [sm, ih]
  | swap x y l => simp only [sm]; omega
  | trans _ _ ih1 ih2 => exact ih1.trans ih2
theorem isMed_perm {l l' : List Pt} (h : l.Perm l') {t : Int} (hm : isMed l t) : isMed l' t := by
  unfold isMed lw gt at hm ⊢
  rw [← h.countP_eq, ← h.countP_eq, ← h.length_eq]; exact hm
def isUp (s : List Pt) : Prop := s.Pairwise fun a b => a.2.toInt ≤ b.2.toInt
theorem lw_up {s : List Pt} (hs : isUp s) {k : Nat} (hk : k < s.length) : lw (s[k].2.toInt) s ≤ k ∧ gt (s[k].2.toInt) s ≤ s.length - 1 - k := by
  have e : s = s.take k ++ s[k] :: s.drop (k + 1) := by rw [← List.drop_eq_getElem_cons hk, List.take_append_drop]
  have h2 := hs
  unfold isUp at h2
  rw [e] at h2
  rw [List.pairwise_append] at h2
  obtain ⟨-, b, c⟩ := h2
  rw [List.pairwise_cons] at b
  generalize hx : s[k] = x at *
  have l1 : (s.take k).length = k := by rw [List.length_take]; omega
  have l2 : (s.drop (k + 1)).length = s.length - 1 - k := by rw [List.length_drop]; omega
  unfold lw gt
  constructor
  · have : s.countP (fun p => decide (p.2.toInt < x.2.toInt)) = (s.take k).countP (fun p => decide (p.2.toInt < x.2.toInt)) + (x :: s.drop (k + 1)).countP (fun p => decide (p.2.toInt < x.2.toInt)) := by rw [← List.countP_append, ← e]
    rw [this]
    have z : (x :: s.drop (k + 1)).countP (fun p => decide (p.2.toInt < x.2.toInt)) = 0 := by
      rw [List.countP_eq_zero]
      intro p hp
      simp only [decide_eq_true_eq]
      rcases List.mem_cons.mp hp with rfl | hp
      · omega
      · have := b.1 p hp; omega
    have := List.countP_le_length (p := fun p : Pt => decide (p.2.toInt < x.2.toInt)) (l := s.take k)
    omega
  · have : s.countP (fun p => decide (x.2.toInt < p.2.toInt)) = (s.take k).countP (fun p => decide (x.2.toInt < p.2.toInt)) + (x :: s.drop (k + 1)).countP (fun p => decide (x.2.toInt < p.2.toInt)) := by rw [← List.countP_append, ← e]
    rw [this]
    have z : (s.take k).countP (fun p => decide (x.2.toInt < p.2.toInt)) = 0 := by
      rw [List.countP_eq_zero]
      intro p hp
      simp only [decide_eq_true_eq]
      have := c p hp x List.mem_cons_self; omega
    have z2 : (x :: s.drop (k + 1)).countP (fun p => decide (x.2.toInt < p.2.toInt)) = (s.drop (k + 1)).countP (fun p => decide (x.2.toInt < p.2.toInt)) := by
      rw [List.countP_cons]; simp
    have := List.countP_le_length (p := fun p : Pt => decide (x.2.toInt < p.2.toInt)) (l := s.drop (k + 1))
    omega
theorem med_at {l s : List Pt} (hp : s.Perm l) (hs : isUp s) {k : Nat} (hk : k < s.length) (h1 : 2 * k ≤ l.length) (h2 : l.length ≤ 2 * k + 2) : isMed l (s[k].2.toInt) := by
  have := lw_up hs hk
  have e := hp.length_eq
  refine isMed_perm hp ⟨by omega, by omega⟩
theorem lw_mono {l : List Pt} {t t' : Int} (h : t ≤ t') : lw t l ≤ lw t' l := List.countP_mono_left fun p _ hp => by simp only [decide_eq_true_eq] at hp ⊢; omega
theorem gt_mono {l : List Pt} {t t' : Int} (h : t ≤ t') : gt t' l ≤ gt t l := List.countP_mono_left fun p _ hp => by simp only [decide_eq_true_eq] at hp ⊢; omega
/-- one value more adds what it lies outside of the middle ones -/
theorem med_more {l l' : List Pt} {p : Pt} (hp : l'.Perm (p :: l)) {a b t : Int} (h1 : isMed l a) (h2 : isMed l b) (ha : 2 * gt b l + 1 ≤ l.length) (hb : 2 * lw a l + 1 ≤ l.length) (hab : a ≤ b) (ht : isMed l' t) : far t l' = far a l + max 0 (max (a - p.2.toInt) (p.2.toInt - b)) := by
  have key : ∀ c : Int, isMed l c → (p.2.toInt < c → 2 * lw c l + 1 ≤ l.length) → (c < p.2.toInt → 2 * gt c l + 1 ≤ l.length) → far t l' = far a l + (p.2.toInt - c).natAbs := by
    intro c hc q1 q2
    have hm : isMed (p :: l) c := by
      unfold isMed at hc ⊢
      unfold lw at hc q1 ⊢
      unfold gt at hc q2 ⊢
      rw [List.countP_cons, List.countP_cons, List.length_cons]
      by_cases e1 : p.2.toInt < c
      · have := q1 e1
        simp only [e1, decide_true, if_true, show ¬ c < p.2.toInt by omega, decide_false, if_false, Bool.false_eq_true]
        omega
      · by_cases e2 : c < p.2.toInt
        · have := q2 e2
          simp only [e1, decide_false, if_false, e2, decide_true, if_true, Bool.false_eq_true]
          omega
        · simp only [e1, decide_false, if_false, e2, Bool.false_eq_true]
          omega
    have e1 : far t l' = far t (p :: l) := sm_perm hp
    have e2 : far t (p :: l) = far c (p :: l) := med_eq (isMed_perm hp ht) hm
    have e3 : far c (p :: l) = (p.2.toInt - c).natAbs + far c l := rfl
    rw [e1, e2, e3, med_eq hc h1]; omega
  rcases Int.lt_or_le p.2.toInt a with q | q
  · have := key a h1 (fun _ => hb) (fun h => by omega); omega
  · rcases Int.lt_or_le b p.2.toInt with q2 | q2
    · have := key b h2 (fun h => by omega) (fun _ => ha); omega
    · have m1 := lw_mono (l := l) q2
      have m2 := gt_mono (l := l) q
      have := key p.2.toInt ⟨by have := h2.1; omega, by have := h1.2; omega⟩ (fun h => by omega) (fun h => by omega); omega
