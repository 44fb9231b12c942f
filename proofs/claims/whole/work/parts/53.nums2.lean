/-! ===== costs as whole numbers and lowest terms ===== -/
def vW (v : Nat) : Nat := v / 5342931457063200
def vG (v : Nat) : Nat := Nat.gcd (v % 5342931457063200) 5342931457063200
def vA (v : Nat) : Nat := v % 5342931457063200 / vG v
def vB (v : Nat) : Nat := 5342931457063200 / vG v
theorem vG_pos (v : Nat) : 0 < vG v := Nat.gcd_pos_of_pos_right _ (by decide)
theorem vG_dvd (v : Nat) : vG v ∣ 5342931457063200 := Nat.gcd_dvd_right _ _
theorem vB_vG (v : Nat) : vB v * vG v = 5342931457063200 := Nat.div_mul_cancel (vG_dvd v)
theorem vA_vG (v : Nat) : vA v * vG v = v % 5342931457063200 := Nat.div_mul_cancel (Nat.gcd_dvd_left _ _)
theorem vB_pos (v : Nat) : 0 < vB v := Nat.pos_of_ne_zero fun h => by have := vB_vG v; rw [h] at this; omega
theorem vB_dvd (v : Nat) : vB v ∣ 5342931457063200 := ⟨vG v, (vB_vG v).symm⟩
theorem vA_lt (v : Nat) : vA v < vB v := by
  have h1 := vA_vG v
  have h2 := vB_vG v
  have h3 : v % 5342931457063200 < 5342931457063200 := Nat.mod_lt _ (by decide)
  rw [← h1, ← h2] at h3
  exact Nat.lt_of_mul_lt_mul_right h3
theorem v_sc {n b : Nat} (hb : 0 < b) (hd : b ∣ 5342931457063200) : vW (n * (5342931457063200 / b)) = fW n b ∧ vA (n * (5342931457063200 / b)) = fA n b ∧ vB (n * (5342931457063200 / b)) = fB n b := by
  obtain ⟨s1, s2⟩ := sc_div (n := n) hb hd
  have hM : 0 < 5342931457063200 / b := Nat.div_pos (Nat.le_of_dvd (by decide) hd) hb
  have hbM : b * (5342931457063200 / b) = 5342931457063200 := Nat.mul_div_cancel' hd
  have hG : vG (n * (5342931457063200 / b)) = fG n b * (5342931457063200 / b) := by
    unfold vG fG
    rw [s2]
    conv => lhs; rw [← hbM]
    rw [show b * (5342931457063200 / b) / b = 5342931457063200 / b from Nat.mul_div_cancel_left _ hb]
    exact Nat.gcd_mul_right _ _ _
  refine ⟨s1, ?_, ?_⟩
  · unfold vA fA
    rw [s2, hG, Nat.mul_div_mul_right _ _ hM]
  · unfold vB fB
    rw [hG]
    conv => lhs; rw [← hbM]
    rw [show b * (5342931457063200 / b) / b = 5342931457063200 / b from Nat.mul_div_cancel_left _ hb]
    exact Nat.mul_div_mul_right _ _ hM
theorem v_mod {v w : Nat} (h : v % 5342931457063200 = w % 5342931457063200) : vA v = vA w ∧ vB v = vB w := by
  unfold vA vB vG; rw [h]; exact ⟨rfl, rfl⟩
/-- the sum, as the reference makes it -/
theorem v_add (v w : Nat) : let by' := Nat.gcd (vB v) (vB w); let bo := vB v / by' * vB w; let to := vA v * (vB w / by') + vA w * (vB v / by'); (0 < bo ∧ bo ∣ 5342931457063200) ∧ vW (v + w) = vW v + vW w + fW to bo ∧ vA (v + w) = fA to bo ∧ vB (v + w) = fB to bo := by
  intro by' bo to
  have d1 : by' ∣ vB v := Nat.gcd_dvd_left _ _
  have d2 : by' ∣ vB w := Nat.gcd_dvd_right _ _
  have hbp : 0 < by' := Nat.gcd_pos_of_pos_right _ (vB_pos w)
  have hbo : bo = Nat.lcm (vB v) (vB w) := by
    show vB v / by' * vB w = vB v * vB w / by'
    exact Nat.div_mul_right_comm d1 _
  have hbo2 : bo = vB v * (vB w / by') := by rw [hbo]; exact Nat.mul_div_assoc _ d2
  have hdv : bo ∣ 5342931457063200 := by rw [hbo]; exact Nat.lcm_dvd (vB_dvd v) (vB_dvd w)
  have hp : 0 < bo := Nat.pos_of_ne_zero fun h => by rw [h] at hdv; exact absurd (Nat.eq_zero_of_zero_dvd hdv) (by decide)
  have hM : bo * (5342931457063200 / bo) = 5342931457063200 := Nat.mul_div_cancel' hdv
  have g1 : (vB w / by') * (5342931457063200 / bo) = vG v := by
    refine Nat.eq_of_mul_eq_mul_left (vB_pos v) ?_
    rw [vB_vG, ← Nat.mul_assoc, ← hbo2, hM]
  have g2 : (vB v / by') * (5342931457063200 / bo) = vG w := by
    refine Nat.eq_of_mul_eq_mul_left (vB_pos w) ?_
    rw [vB_vG, ← Nat.mul_assoc, Nat.mul_comm (vB w)]
    exact hM
  have hsum : to * (5342931457063200 / bo) = v % 5342931457063200 + w % 5342931457063200 := by
    show (vA v * (vB w / by') + vA w * (vB v / by')) * (5342931457063200 / bo) = _
    rw [Nat.add_mul, Nat.mul_assoc, Nat.mul_assoc, g1, g2, vA_vG, vA_vG]
  obtain ⟨s1, s2, s3⟩ := v_sc (n := to) hp hdv
  rw [hsum] at s1 s2 s3
  have hm := v_mod (v := v + w) (w := v % 5342931457063200 + w % 5342931457063200) (by omega)
  refine ⟨⟨hp, hdv⟩, ?_, hm.1.trans s2, hm.2.trans s3⟩
  rw [← s1]
  unfold vW
  omega
theorem v_cmp (v w : Nat) : v % 5342931457063200 < w % 5342931457063200 ↔ vA v * vB w < vA w * vB v := by
  have h1 := vA_vG v
  have h2 := vA_vG w
  have h3 := vB_vG v
  have h4 := vB_vG w
  have p1 := vB_pos v
  have p2 := vB_pos w
  have p3 := vG_pos v
  have p4 := vG_pos w
  rw [← h1, ← h2]
  have hk : 0 < vG v * vG w := Nat.mul_pos p3 p4
  have e1 : vA v * vB w * (vG v * vG w) = vA v * vG v * 5342931457063200 := by rw [← h4]; simp only [Nat.mul_assoc, Nat.mul_comm, Nat.mul_left_comm]
  have e2 : vA w * vB v * (vG v * vG w) = vA w * vG w * 5342931457063200 := by rw [← h3]; simp only [Nat.mul_assoc, Nat.mul_comm, Nat.mul_left_comm]
  constructor
  · intro h
    refine Nat.lt_of_mul_lt_mul_right (a := vG v * vG w) ?_
    rw [e1, e2]; omega
  · intro h
    have h5 := Nat.mul_lt_mul_of_pos_right h hk
    rw [e1, e2] at h5; omega
/-! which divisors may come -/
def DB (v b : Nat) : Prop := 0 < b ∧ b ∣ 5342931457063200 ∧ (5342931457063200 / b) ∣ v
theorem DB.vB {v b : Nat} (h : DB v b) : vB v ≤ b := by
  obtain ⟨h1, h2, h3⟩ := h
  have hM : b * (5342931457063200 / b) = 5342931457063200 := Nat.mul_div_cancel' h2
  have hMp : 0 < 5342931457063200 / b := Nat.div_pos (Nat.le_of_dvd (by decide) h2) h1
  have h4 : (5342931457063200 / b) ∣ 5342931457063200 := ⟨b, by rw [Nat.mul_comm]; exact hM.symm⟩
  have h5 : (5342931457063200 / b) ∣ vG v := Nat.dvd_gcd ((Nat.dvd_mod_iff h4).mpr h3) h4
  have h6 := Nat.le_of_dvd (vG_pos v) h5
  have h7 := vB_vG v
  refine Nat.le_of_mul_le_mul_right (c := vG v) ?_ (vG_pos v)
  rw [h7]
  calc 5342931457063200 = b * (5342931457063200 / b) := hM.symm
    _ ≤ b * vG v := Nat.mul_le_mul_left _ h6
theorem DB.add {v w b b' : Nat} (h : DB v b) (h' : DB w b') : ∃ x, DB (v + w) x ∧ x ≤ b * b' := by
  obtain ⟨h1, h2, h3⟩ := h
  obtain ⟨g1, g2, g3⟩ := h'
  have hl : Nat.lcm b b' ∣ 5342931457063200 := Nat.lcm_dvd h2 g2
  have hp : 0 < Nat.lcm b b' := Nat.lcm_pos h1 g1
  have key : ∀ c, c ∣ Nat.lcm b b' → 0 < c → c ∣ 5342931457063200 → (5342931457063200 / Nat.lcm b b') ∣ (5342931457063200 / c) := by
    intro c hc hc0 hcd
    obtain ⟨x, hx⟩ := hc
    have hM := Nat.mul_div_cancel' hl
    have hC := Nat.mul_div_cancel' hcd
    refine ⟨x, Nat.eq_of_mul_eq_mul_left hc0 ?_⟩
    rw [hC]
    conv => lhs; rw [← hM]
    rw [hx]
    have : c * x * (5342931457063200 / (c * x)) = c * (5342931457063200 / (c * x) * x) := by simp only [Nat.mul_assoc, Nat.mul_comm, Nat.mul_left_comm]
    exact this
  refine ⟨Nat.lcm b b', ⟨hp, hl, Nat.dvd_add (Nat.dvd_trans (key b (Nat.dvd_lcm_left _ _) h1 h2) h3) (Nat.dvd_trans (key b' (Nat.dvd_lcm_right _ _) g1 g2) g3)⟩, Nat.le_of_dvd (Nat.mul_pos h1 g1) (Nat.lcm_dvd_mul _ _)⟩
theorem cube3 : ∀ n : Nat, n ^ 3 ≤ 3 ^ n := by
  intro n
  induction n using Nat.strongRecOn with
  | ind n ih =>
    rcases Nat.lt_or_ge n 4 with h | h
    · rcases (show n = 0 ∨ n = 1 ∨ n = 2 ∨ n = 3 by omega) with rfl | rfl | rfl | rfl <;> decide
    · obtain ⟨m, rfl⟩ : ∃ m, n = m + 1 := ⟨n - 1, by omega⟩
      have := ih m (by omega)
      rw [Nat.pow_succ 3 m]
      have e1 : (m + 1) ^ 3 = m ^ 3 + 3 * (m * m) + 3 * m + 1 := by grind
      have e2 : m ^ 3 = m * (m * m) := by grind
      have h3 : 3 * (m * m) ≤ m * (m * m) := Nat.mul_le_mul_right _ (by omega)
      have h4 : 3 * m ≤ m * m := Nat.mul_le_mul_right _ (by omega)
      have h5 : 3 * m + 1 ≤ m * (m * m) := by
        have : m * m * 1 ≤ m * m * m := Nat.mul_le_mul_left _ (by omega)
        have e3 : m * (m * m) = m * m * m := by grind
        omega
      omega
/-- how large a divisor k stretches of m points may have -/
def PBd (k m b : Nat) : Prop := b ^ 3 ≤ 3 ^ m ∧ (k = 0 → b = 1) ∧ (k = 1 → b ≤ m) ∧ (k = 2 → 4 * b ≤ m * m) ∧ (k = 3 → 27 * b ≤ m * m * m)
theorem PBd.more {k m b d' n x : Nat} (h : PBd k m b) (hd : d' ≤ n) (hx : x ≤ d' * b) : PBd (k + 1) (n + m) x := by
  obtain ⟨h1, h2, h3, h4, h5⟩ := h
  have hxn : x ≤ n * b := Nat.le_trans hx (Nat.mul_le_mul_right _ hd)
  refine ⟨?_, fun h => by omega, fun hk => ?_, fun hk => ?_, fun hk => ?_⟩
  · have a1 : x ^ 3 ≤ (n * b) ^ 3 := Nat.pow_le_pow_left hxn 3
    rw [Nat.mul_pow] at a1
    rw [Nat.pow_add]
    exact Nat.le_trans a1 (Nat.mul_le_mul (cube3 n) h1)
  · have := h2 (by omega); subst this; omega
  · have h3 := h3 (by omega)
    have a1 : n * b ≤ n * m := Nat.mul_le_mul_left _ h3
    have a2 : 4 * (n * m) ≤ (n + m) * (n + m) := by
      have := sq_nn ((n : Int) - m)
      have e : ((n : Int) + m) * (n + m) = 4 * (n * m) + ((n : Int) - m) * ((n : Int) - m) := by grind
      have : (4 * ((n : Int) * m)) ≤ ((n : Int) + m) * (n + m) := by omega
      exact_mod_cast this
    omega
  · have h4 := h4 (by omega)
    have a1 : n * (4 * b) ≤ n * (m * m) := Nat.mul_le_mul_left _ h4
    have a2 : 27 * (n * (m * m)) ≤ 4 * ((n + m) * (n + m) * (n + m)) := by
      have s1 := sq_nn ((m : Int) - 2 * n)
      have s2 : 0 ≤ ((m : Int) - 2 * n) * ((m : Int) - 2 * n) * (4 * m + n) := Int.mul_nonneg s1 (by omega)
      have e : 4 * (((n : Int) + m) * (n + m) * (n + m)) = 27 * (n * (m * m)) + ((m : Int) - 2 * n) * ((m : Int) - 2 * n) * (4 * m + n) := by grind
      have : 27 * ((n : Int) * (m * m)) ≤ 4 * (((n : Int) + m) * (n + m) * (n + m)) := by omega
      exact_mod_cast this
    have e3 : n * (4 * b) = 4 * (n * b) := by grind
    omega
/-- costs as they may be: few a point, by a divisor no larger than their points are many -/
def okC (c : CC) (n : Nat) : Prop := ∀ a b x, a ≤ b → b < n → c a b = some x → x ≤ (b - a + 1) * 5342931457063200000000 ∧ ∃ d', DB x d' ∧ d' ≤ b - a + 1
theorem Dp_ok {c : CC} {n : Nat} (hc : okC c n) : ∀ k a t, a ≤ n → Dp c n k a = some t → t.1 ≤ (n - a) * 5342931457063200000000 ∧ ∃ b, DB t.1 b ∧ PBd k (n - a) b := by
  intro k
  induction k with
  | zero =>
    intro a t ha h
    have h : (if a = n then some ((0, 0) : Nat × Nat) else none) = some t := h
    split at h
    · obtain rfl := Option.some.inj h
      refine ⟨Nat.zero_le _, 1, ⟨by decide, by decide, Nat.dvd_zero _⟩, ?_, fun _ => rfl, fun h => by omega, fun h => by omega, fun h => by omega⟩
      rw [Nat.one_pow]; exact Nat.pow_pos (by decide)
    · exact absurd h (by simp)
  | succ k ih =>
    intro a t ha h
    obtain ⟨g1, g2, x, t', g3, g4, g5⟩ := Dp_nx h
    obtain ⟨i1, b, i2, i3⟩ := ih t.2 t' g2 g4
    obtain ⟨c1, d', c2, c3⟩ := hc a (t.2 - 1) x (by omega) (by omega) g3
    refine ⟨?_, ?_⟩
    · rw [g5]
      have e : (n - a) * 5342931457063200000000 = (t.2 - 1 - a + 1) * 5342931457063200000000 + (n - t.2) * 5342931457063200000000 := by
        rw [← Nat.add_mul]; congr 1; omega
      omega
    · obtain ⟨y, hy1, hy2⟩ := c2.add i2
      rw [g5]
      refine ⟨y, hy1, ?_⟩
      have := i3.more c3 hy2
      rw [show t.2 - 1 - a + 1 + (n - t.2) = n - a by omega] at this
      exact this
/-- the costs of a row's stretches -/
def cP (k : Nat) (L : List Pt) (ls : Nat) : CC := fun a b => if ls ≤ b - a + 1 then some (nK k (seg L a (b - a + 1)) * (5342931457063200 / denK k (seg L a (b - a + 1)))) else none
theorem sQ_b {l : List Pt} (h : okV l) : sQ l ≤ 1000000 * l.length := by
  have := (sm_b (f := fun p => p.2.toInt * p.2.toInt) (B := 1000000) (l := l) fun p hp => by
    have := h p hp
    exact mb (A := 1000) (B := 1000) ⟨this.2.1, this.2.2⟩ ⟨this.2.1, this.2.2⟩).2
  exact this
theorem lvl_b2 {l : List Pt} (h : okV l) : lvl l ≤ l.length * (1000000 * l.length) := by
  have h1 := sQ_b h
  have h2 := sq_nn (sV l)
  have h3 : (l.length : Int) * sQ l ≤ l.length * (1000000 * l.length) := Int.mul_le_mul_of_nonneg_left h1 (by omega)
  unfold lvl; omega
theorem slp_lvl (l : List Pt) : slp l ≤ lvl l := by
  rw [lvl_awy]
  exact (mnA_spec (awy l) 40).2 0 (by omega) (by omega)
theorem nK_b2 {k : Nat} {l : List Pt} (h : okV l) (hn : l.length ≤ 40) (h0 : 0 < l.length) : nK k l ≤ denK k l * (1000000 * l.length) := by
  have e := nK_eq k l
  unfold denK
  by_cases k0 : k = 0
  · subst k0
    have := lvl_b2 h
    have e : ((nK 0 l : Nat) : Int) = lvl l := e
    rw [← e] at this
    rw [if_pos rfl]
    refine Int.ofNat_le.mp ?_
    rw [Int.natCast_mul, Int.natCast_mul]
    exact this
  by_cases k1 : k = 1
  · subst k1
    have hk : (l.length - 1) / 2 < (srt l).length := by rw [srt_len]; omega
    have hm : (srt l)[(l.length - 1) / 2] ∈ l := (srt_perm l).mem_iff.mp (List.getElem_mem hk)
    have := h _ hm
    have em : mdl l = (srt l)[(l.length - 1) / 2].2.toInt := by unfold mdl; rw [getD_lt hk]
    have := far_b (t := mdl l) h (by rw [em]; omega)
    have e : ((nK 1 l : Nat) : Int) = far (mdl l) l := e
    rw [if_neg (by decide)]
    omega
  by_cases k2 : k = 2
  · subst k2
    have h1 := lvl_b2 h
    have h2 := slp_lvl l
    have e : ((nK 2 l : Nat) : Int) = slp l := e
    have : ((nK 2 l : Nat) : Int) ≤ l.length * (1000000 * l.length) := by omega
    rw [if_pos rfl]
    refine Int.ofNat_le.mp ?_
    rw [Int.natCast_mul, Int.natCast_mul]
    exact this
  · obtain ⟨j, rfl⟩ : ∃ j, k = j + 3 := ⟨k - 3, by omega⟩
    have e : ((nK (j + 3) l : Nat) : Int) = l.length - mxc l := e
    have : nK (j + 3) l ≤ l.length := by omega
    split
    · have h1 : l.length * 1 ≤ l.length * (1000000 * l.length) := Nat.mul_le_mul_left _ (by omega)
      omega
    · omega
theorem cP_ok {k : Nat} {L : List Pt} {ls : Nat} (hok : okP L) : okC (cP k L ls) L.length := by
  intro a b x hab hb h
  unfold cP at h
  split at h
  · obtain rfl := Option.some.inj h
    have hl := hok.1
    have hlen : (seg L a (b - a + 1)).length = b - a + 1 := seg_len (by omega)
    have hd := denK_b (k := k) (l := seg L a (b - a + 1)) (by omega) (by omega)
    have hn := nK_b2 (k := k) (seg_okV (a := a) (m := b - a + 1) hok) (by omega) (by omega)
    have hdv := dvNN hd.1 hd.2
    refine ⟨?_, denK k (seg L a (b - a + 1)), ⟨by omega, hdv, Nat.dvd_mul_left _ _⟩, ?_⟩
    · have hM := Nat.mul_div_cancel' hdv
      rw [hlen] at hn
      have h1 := Nat.mul_le_mul_right (5342931457063200 / denK k (seg L a (b - a + 1))) hn
      have e : denK k (seg L a (b - a + 1)) * (1000000 * (b - a + 1)) * (5342931457063200 / denK k (seg L a (b - a + 1))) = (denK k (seg L a (b - a + 1)) * (5342931457063200 / denK k (seg L a (b - a + 1)))) * (1000000 * (b - a + 1)) := by simp only [Nat.mul_assoc, Nat.mul_comm, Nat.mul_left_comm]
      rw [e, hM] at h1
      have e2 : ∀ m : Nat, 5342931457063200 * (1000000 * m) = m * 5342931457063200000000 := by intro m; omega
      rw [e2] at h1
      exact h1
    · unfold denK; split <;> omega
  · exact absurd h (by simp)
