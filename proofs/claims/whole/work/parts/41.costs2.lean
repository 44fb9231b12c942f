/-! ===== what a stretch costs, part 2: nothing below 0, sorting, counting ===== -/
theorem vr_nn (f : Pt → Int) : ∀ l : List Pt, 0 ≤ l.length * sm (fun p => f p * f p) l - sm f l * sm f l := by
  refine rev_ind ?_ ?_
  · simp [sm]
  · intro l p ih
    have key : ∀ l : List Pt, sm (fun e => (f p - f e) * (f p - f e)) l = l.length * (f p * f p) - 2 * f p * sm f l + sm (fun p => f p * f p) l := by
      intro l
      induction l with
      | nil => simp [sm]
      | cons q l ih =>
        simp only [sm, ih, List.length_cons]
        push_cast
        grind
    have h0 := sm_nn (f := fun e => (f p - f e) * (f p - f e)) (l := l) fun q _ => sq_nn _
    rw [sm_app, sm_app, sm_1, sm_1, List.length_append, List.length_singleton]
    have e : ((l.length + 1 : Nat) : Int) * (sm (fun p => f p * f p) l + f p * f p) - (sm f l + f p) * (sm f l + f p) = (l.length * sm (fun p => f p * f p) l - sm f l * sm f l) + sm (fun e => (f p - f e) * (f p - f e)) l := by
      rw [key]; push_cast; grind
    rw [e]; omega
theorem awy_nn (l : List Pt) (g : Int) : 0 ≤ awy l g := by
  have h := vr_nn (fun p => p.2.toInt - g * p.1) l
  have e1 : ∀ l : List Pt, sm (fun p => p.2.toInt - g * p.1) l = sV l - g * sD l := by
    intro l
    induction l with
    | nil => simp [sm, sV, sD]
    | cons p l ih =>
      have a1 : sV (p :: l) = p.2.toInt + sV l := rfl
      have a2 : sD (p :: l) = p.1 + sD l := rfl
      simp only [sm, ih, a1, a2]; grind
  have e2 : ∀ l : List Pt, sm (fun p => (p.2.toInt - g * p.1) * (p.2.toInt - g * p.1)) l = sQ l - 2 * g * sB l + g * g * sE l := by
    intro l
    induction l with
    | nil => simp [sm, sQ, sB, sE]
    | cons p l ih =>
      have a1 : sQ (p :: l) = p.2.toInt * p.2.toInt + sQ l := rfl
      have a2 : sB (p :: l) = p.2.toInt * p.1 + sB l := rfl
      have a3 : sE (p :: l) = (p.1 : Int) * p.1 + sE l := rfl
      simp only [sm, ih, a1, a2, a3]; grind
  rw [e1, e2] at h
  exact h
theorem lvl_awy (l : List Pt) : lvl l = awy l 0 := by rw [awy_eq]; simp
theorem lvl_nn (l : List Pt) : 0 ≤ lvl l := by rw [lvl_awy]; exact awy_nn l 0
theorem slp_nn (l : List Pt) : 0 ≤ slp l := by
  obtain ⟨⟨g, -, -, h⟩, -⟩ := mnA_spec (awy l) 40
  unfold slp; rw [← h]; exact awy_nn l g
theorem awy_b {l : List Pt} (h : okV l) (hn : l.length ≤ 40) {g : Int} (h1 : -20 ≤ g) (h2 : g ≤ 20) : awy l g ≤ 1000000000000 := by
  obtain ⟨b1, b2, b3, b4, b5⟩ := sums_b h hn
  have c1 : -(20 : Int) ≤ g ∧ g ≤ 20 := ⟨h1, h2⟩
  have d1 := mb c1 b5
  have d2 := mb (mb c1 c1) b4
  have d3 := mb c1 b3
  have d4 : -(841600 : Int) ≤ sV l - g * sD l ∧ sV l - g * sD l ≤ 841600 := by omega
  have d5 := mb d4 d4
  have e1 : 2 * g * sB l = 2 * (g * sB l) := by grind
  have d6 : -(1000000000 : Int) ≤ sQ l - 2 * g * sB l + g * g * sE l ∧ sQ l - 2 * g * sB l + g * g * sE l ≤ 1000000000 := by rw [e1]; omega
  have d7 := mb (A := 40) (a := (l.length : Int)) (by omega) d6
  unfold awy; omega
theorem slp_b {l : List Pt} (h : okV l) (hn : l.length ≤ 40) : slp l ≤ 1000000000000 := by
  obtain ⟨⟨g, a, b, c⟩, -⟩ := mnA_spec (awy l) 40
  unfold slp; rw [← c]; exact awy_b h hn a (by omega)
theorem lvl_b {l : List Pt} (h : okV l) (hn : l.length ≤ 40) : lvl l ≤ 1000000000000 := by rw [lvl_awy]; exact awy_b h hn (by omega) (by omega)
/-! sorting -/
def pos (p : Pt) (s : List Pt) : Nat → Nat
  | 0 => 0
  | n + 1 => if (s.getD n (0, 0)).2 ≤ p.2 then n + 1 else pos p s n
theorem pos_le (p : Pt) (s : List Pt) : ∀ n, pos p s n ≤ n := by
  intro n
  induction n with
  | zero => exact Nat.le_refl _
  | succ n ih => unfold pos; split <;> omega
def ins (p : Pt) (s : List Pt) : List Pt := s.take (pos p s s.length) ++ p :: s.drop (pos p s s.length)
theorem ins_perm (p : Pt) (s : List Pt) : (ins p s).Perm (p :: s) := by
  unfold ins
  have := List.perm_middle (a := p) (l₁ := s.take (pos p s s.length)) (l₂ := s.drop (pos p s s.length))
  rw [List.take_append_drop] at this
  exact this
theorem pos_spec {p : Pt} {s : List Pt} : ∀ n, n ≤ s.length → (0 < pos p s n → (s.getD (pos p s n - 1) (0, 0)).2 ≤ p.2) ∧ ∀ k, pos p s n ≤ k → k < n → p.2 < (s.getD k (0, 0)).2 := by
  intro n
  induction n with
  | zero => intro _; exact ⟨fun h => absurd h (Nat.lt_irrefl 0), fun k _ h => absurd h (by omega)⟩
  | succ n ih =>
    intro hn
    unfold pos
    by_cases q : (s.getD n (0, 0)).2 ≤ p.2
    · rw [if_pos q]; exact ⟨fun _ => q, fun k h1 h2 => by omega⟩
    · rw [if_neg q]
      obtain ⟨h1, h2⟩ := ih (by omega)
      refine ⟨h1, fun k h3 h4 => ?_⟩
      rcases Nat.lt_or_ge k n with e | e
      · exact h2 k h3 e
      · rw [show k = n by omega]; exact Int32.not_le.mp q
theorem up_get {s : List Pt} (hs : isUp s) {i j : Nat} (hij : i ≤ j) (hj : j < s.length) : (s.getD i (0, 0)).2.toInt ≤ (s.getD j (0, 0)).2.toInt := by
  rcases Nat.eq_or_lt_of_le hij with rfl | h
  · exact Int.le_refl _
  · rw [getD_lt hj, getD_lt (show i < s.length by omega)]
    exact List.pairwise_iff_getElem.mp hs i j (by omega) hj h
theorem ins_up {p : Pt} {s : List Pt} (hs : isUp s) : isUp (ins p s) := by
  have hl := pos_le p s s.length
  obtain ⟨h1, h2⟩ := pos_spec (p := p) s.length (Nat.le_refl _)
  generalize hk : pos p s s.length = k at *
  have ht : ∀ a ∈ s.take k, a.2.toInt ≤ p.2.toInt := by
    intro a ha
    obtain ⟨i, hi, e⟩ := List.getElem_of_mem ha
    rw [List.length_take] at hi
    have e2 : a = s.getD i (0, 0) := by rw [getD_lt (show i < s.length by omega), ← e, List.getElem_take]
    have := h1 (by omega)
    rw [ti_le] at this
    have := up_get hs (i := i) (j := k - 1) (by omega) (by omega)
    rw [e2]; omega
  have hd : ∀ a ∈ s.drop k, p.2.toInt ≤ a.2.toInt := by
    intro a ha
    obtain ⟨i, hi, e⟩ := List.getElem_of_mem ha
    rw [List.length_drop] at hi
    have e2 : a = s.getD (k + i) (0, 0) := by rw [getD_lt (show k + i < s.length by omega), ← e, List.getElem_drop]
    have := h2 (k + i) (by omega) (by omega)
    rw [ti_lt] at this
    rw [e2]; omega
  unfold ins isUp
  rw [hk, List.pairwise_append, List.pairwise_cons]
  refine ⟨List.Pairwise.sublist (List.take_sublist k s) hs, ⟨hd, List.Pairwise.sublist (List.drop_sublist k s) hs⟩, fun a ha b hb => ?_⟩
  rcases List.mem_cons.mp hb with rfl | hb
  · exact ht a ha
  · have := ht a ha; have := hd b hb; omega
def srt (l : List Pt) : List Pt := l.foldl (fun s p => ins p s) []
theorem srt_app (l : List Pt) (p : Pt) : srt (l ++ [p]) = ins p (srt l) := by simp [srt]
theorem srt_up : ∀ l : List Pt, isUp (srt l) := by
  refine rev_ind ?_ ?_
  · exact List.Pairwise.nil
  · intro l p ih; rw [srt_app]; exact ins_up ih
theorem srt_perm : ∀ l : List Pt, (srt l).Perm l := by
  refine rev_ind ?_ ?_
  · exact List.Perm.refl _
  · intro l p ih
    rw [srt_app]
    refine (ins_perm p (srt l)).trans ((List.Perm.cons p ih).trans ?_)
    exact (List.perm_append_singleton p l).symm
theorem srt_len (l : List Pt) : (srt l).length = l.length := (srt_perm l).length_eq
def mdl (l : List Pt) : Int := ((srt l).getD ((l.length - 1) / 2) (0, 0)).2.toInt
def medc (l : List Pt) : Int := far (mdl l) l
theorem mdl_med {l : List Pt} (h : 0 < l.length) : isMed l (mdl l) := by
  unfold mdl
  have hk : (l.length - 1) / 2 < (srt l).length := by rw [srt_len]; omega
  rw [getD_lt hk]
  exact med_at (srt_perm l) (srt_up l) hk (by omega) (by omega)
theorem far_nn (t : Int) (l : List Pt) : 0 ≤ far t l := sm_nn fun p _ => by omega
theorem medc_nn (l : List Pt) : 0 ≤ medc l := far_nn _ _
/-- any middle gives the cost -/
theorem medc_of {l : List Pt} {t : Int} (h : isMed l t) (hl : 0 < l.length) : medc l = far t l := med_eq (mdl_med hl) h
theorem medc_0 : medc [] = 0 := rfl
/-- how far v lies outside of the middle ones of s -/
def outs (s : List Pt) (v : Int) : Int := if s.length = 0 then 0 else max 0 (max ((s.getD ((s.length - 1) / 2) (0, 0)).2.toInt - v) (v - (s.getD (s.length / 2) (0, 0)).2.toInt))
theorem medc_more {l l' s : List Pt} {p : Pt} (hp : l'.Perm (p :: l)) (hsp : s.Perm l) (hs : isUp s) : medc l' = medc l + outs s p.2.toInt := by
  have hl' : 0 < l'.length := by rw [hp.length_eq]; simp
  have hsl := hsp.length_eq
  have hm := mdl_med hl'
  by_cases hz : l.length = 0
  · obtain rfl := List.length_eq_zero_iff.mp hz
    have : s = [] := List.length_eq_zero_iff.mp (by rw [hsl]; rfl)
    subst this
    have hone : isMed l' p.2.toInt := by
      refine isMed_perm hp.symm ?_
      simp [isMed, lw, gt]
    rw [medc_of hone hl']
    have : far p.2.toInt l' = far p.2.toInt [p] := sm_perm hp
    rw [this]
    simp [far, sm, medc, outs]
  · have k1 : (s.length - 1) / 2 < s.length := by omega
    have k2 : s.length / 2 < s.length := by omega
    have a1 := med_at hsp hs k1 (by omega) (by omega)
    have a2 := med_at hsp hs k2 (by omega) (by omega)
    have b1 := lw_up hs k1
    have b2 := lw_up hs k2
    have c1 : lw (s[(s.length - 1) / 2].2.toInt) l = lw (s[(s.length - 1) / 2].2.toInt) s := (hsp.countP_eq _).symm
    have c2 : gt (s[s.length / 2].2.toInt) l = gt (s[s.length / 2].2.toInt) s := (hsp.countP_eq _).symm
    have hab : s[(s.length - 1) / 2].2.toInt ≤ s[s.length / 2].2.toInt := by
      have := up_get hs (i := (s.length - 1) / 2) (j := s.length / 2) (by omega) k2
      rw [getD_lt k1, getD_lt k2] at this; exact this
    have := med_more hp a1 a2 (by omega) (by omega) hab hm
    rw [medc_of a1 (by omega)]
    unfold medc outs
    rw [if_neg (by omega), getD_lt k1, getD_lt k2, this]
theorem far_b {l : List Pt} {t : Int} (h : okV l) (ht : -1000 ≤ t ∧ t ≤ 1000) : far t l ≤ 2000 * l.length := by
  have := (sm_b (f := fun p => ((p.2.toInt - t).natAbs : Int)) (B := 2000) (l := l) fun p hp => by have := h p hp; omega).2
  exact this
theorem medc_b {l : List Pt} (h : okV l) (hn : l.length ≤ 40) : medc l ≤ 80000 := by
  by_cases hz : l.length = 0
  · obtain rfl := List.length_eq_zero_iff.mp hz
    rw [medc_0]; omega
  · have hk : (l.length - 1) / 2 < (srt l).length := by rw [srt_len]; omega
    have hm : (srt l)[(l.length - 1) / 2] ∈ l := (srt_perm l).mem_iff.mp (List.getElem_mem hk)
    have := h _ hm
    have e : mdl l = (srt l)[(l.length - 1) / 2].2.toInt := by unfold mdl; rw [getD_lt hk]
    have := far_b (t := mdl l) h (by rw [e]; omega)
    unfold medc; omega
/-! one number -/
def cnt (v : Int32) (l : List Pt) : Nat := l.countP fun p => decide (p.2 = v)
def mxo (l0 : List Pt) : List Pt → Nat
  | [] => 0
  | p :: l => max (cnt p.2 l0) (mxo l0 l)
def mxc (l : List Pt) : Nat := mxo l l
theorem mxo_ge {l0 l : List Pt} {p : Pt} (h : p ∈ l) : cnt p.2 l0 ≤ mxo l0 l := by
  induction l with
  | nil => exact absurd h (by simp)
  | cons q l ih =>
    simp only [mxo]
    rcases List.mem_cons.mp h with rfl | h
    · omega
    · have := ih h; omega
theorem mxo_at {l0 l : List Pt} (h : 0 < mxo l0 l) : ∃ p ∈ l, cnt p.2 l0 = mxo l0 l := by
  induction l with
  | nil => exact absurd h (by simp [mxo])
  | cons q l ih =>
    simp only [mxo] at h ⊢
    rcases Nat.le_total (mxo l0 l) (cnt q.2 l0) with e | e
    · exact ⟨q, List.mem_cons_self, by omega⟩
    · obtain ⟨p, hp, hc⟩ := ih (by omega)
      exact ⟨p, List.mem_cons_of_mem _ hp, by omega⟩
theorem cnt_0 {v : Int32} {l : List Pt} (h : ∀ p ∈ l, ¬ p.2 = v) : cnt v l = 0 := by
  unfold cnt; rw [List.countP_eq_zero]; intro p hp; simpa using h p hp
theorem cnt_le (v : Int32) (l : List Pt) : cnt v l ≤ l.length := List.countP_le_length
theorem mxc_ge (v : Int32) (l : List Pt) : cnt v l ≤ mxc l := by
  by_cases h : ∃ p ∈ l, p.2 = v
  · obtain ⟨p, hp, rfl⟩ := h; exact mxo_ge hp
  · rw [cnt_0 fun p hp e => h ⟨p, hp, e⟩]; omega
theorem mxc_of {l : List Pt} {m : Nat} (h1 : ∀ v, cnt v l ≤ m) (h2 : m = 0 ∨ ∃ v, cnt v l = m) : mxc l = m := by
  have h3 : mxc l ≤ m := by
    rcases Nat.eq_zero_or_pos (mxc l) with e | e
    · omega
    · obtain ⟨p, -, hc⟩ := mxo_at e
      have := h1 p.2
      show mxo l l ≤ m; omega
  rcases h2 with h2 | ⟨v, h2⟩
  · omega
  · have := mxc_ge v l; omega
theorem mxc_le (l : List Pt) : mxc l ≤ l.length := by
  rcases Nat.eq_zero_or_pos (mxc l) with e | e
  · omega
  · obtain ⟨p, -, hc⟩ := mxo_at e
    have := cnt_le p.2 l
    show mxo l l ≤ _; omega
theorem mxc_at {l : List Pt} : mxc l = 0 ∨ ∃ v, cnt v l = mxc l := by
  rcases Nat.eq_zero_or_pos (mxc l) with e | e
  · exact Or.inl e
  · obtain ⟨p, -, hc⟩ := mxo_at e; exact Or.inr ⟨p.2, hc⟩
theorem cnt_app (v : Int32) (l l' : List Pt) : cnt v (l ++ l') = cnt v l + cnt v l' := List.countP_append
theorem cnt_1 (v : Int32) (p : Pt) : cnt v [p] = if p.2 = v then 1 else 0 := by
  unfold cnt
  by_cases h : p.2 = v <;> simp [h]
theorem cnt_perm {v : Int32} {l l' : List Pt} (h : l.Perm l') : cnt v l = cnt v l' := h.countP_eq _
/-! every kind -/
def numK (k : Nat) (l : List Pt) : Int := match k with
  | 0 => lvl l
  | 1 => medc l
  | 2 => slp l
  | _ => l.length - mxc l
def denK (k : Nat) (l : List Pt) : Nat := if k % 2 = 0 then l.length else 1
theorem numK_nn (k : Nat) (l : List Pt) : 0 ≤ numK k l := by
  match k with
  | 0 => exact lvl_nn l
  | 1 => exact medc_nn l
  | 2 => exact slp_nn l
  | (_ + 3) => show 0 ≤ (l.length : Int) - mxc l; have := mxc_le l; omega
theorem numK_b {k : Nat} {l : List Pt} (h : okV l) (hn : l.length ≤ 40) : numK k l ≤ 1000000000000 := by
  match k with
  | 0 => exact lvl_b h hn
  | 1 => have := medc_b h hn; show medc l ≤ _; omega
  | 2 => exact slp_b h hn
  | (_ + 3) => show (l.length : Int) - mxc l ≤ _; omega
theorem denK_b {k : Nat} {l : List Pt} (h : 0 < l.length) (hn : l.length ≤ 40) : 1 ≤ denK k l ∧ denK k l ≤ 40 := by
  unfold denK; split <;> omega
/-- all costs by one divisor -/
def NN : Int := 5342931457063200
theorem dvN {n : Nat} (h1 : 1 ≤ n) (h2 : n ≤ 40) : (n : Int) ∣ NN := by
  have h : ∀ n : Nat, n < 41 → 1 ≤ n → (n : Int) ∣ NN := by decide +kernel
  exact h n (by omega) h1
/-- a stretch's cost, times NN -/
def cst (k : Nat) (l : List Pt) : Int := numK k l * (NN / denK k l)
theorem cst_nn (k : Nat) (l : List Pt) : 0 ≤ cst k l := Int.mul_nonneg (numK_nn k l) (Int.ediv_nonneg (by decide) (by omega))
