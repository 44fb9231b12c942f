/-! ===== how many choices ===== -/
def chi (n k : Nat) : Nat → Nat
  | 0 => 1
  | i + 1 => chi n k i * (n - k + (i + 1)) / (i + 1)
def chs (n k : Nat) : Nat := if k ≤ n then chi n k k else 0
theorem chi_b {n k i : Nat} (hn : n < 40) (hk : k < 17) (hkn : k ≤ n) (hi : i ≤ k) : 1 ≤ chi n k i ∧ chi n k i ≤ 100000000000 := by
  have h : ((List.range 40).all fun n => (List.range 17).all fun k => (List.range 17).all fun i => !(decide (k ≤ n) && decide (i ≤ k)) || (decide (1 ≤ chi n k i) && decide (chi n k i ≤ 100000000000))) = true := by decide +kernel
  have h1 := List.all_eq_true.mp h n (List.mem_range.mpr hn)
  have h2 := List.all_eq_true.mp h1 k (List.mem_range.mpr hk)
  have h3 := List.all_eq_true.mp h2 i (List.mem_range.mpr (by omega))
  simp only [hkn, hi, decide_true, Bool.and_self, Bool.not_true, Bool.false_or, Bool.and_eq_true, decide_eq_true_eq] at h3
  exact h3
def cho : Nat → Nat → Nat
  | _, 0 => 1
  | 0, _ + 1 => 0
  | n + 1, k + 1 => cho n k + cho n (k + 1)
theorem chs_cho {n k : Nat} (hn : n < 17) (hk : k ≤ n) : chs n k = cho n k := by
  have h : ∀ n : Nat, n < 17 → ∀ k : Nat, k < 17 → k ≤ n → chs n k = cho n k := by decide +kernel
  exact h n hn k (by omega) hk
section
variable {G : GC} {d : Nat} {P : PT} {I : MI} {J : MJ}
theorem chi_step {n k i : Nat} (hn : n < 40) (hk : k < 17) (hkn : k ≤ n) (hi : i + 1 ≤ k) : lI (chi n k i : Nat) * (nI n - nI k + nI (i + 1)).toInt64 / (nI (i + 1)).toInt64 = lI (chi n k (i + 1) : Nat) := by
  have hb := chi_b hn hk hkn (show i ≤ k by omega)
  have hm : chi n k i * (n - k + (i + 1)) ≤ 100000000000 * 100 := Nat.mul_le_mul hb.2 (by omega)
  rw [nI_sub hkn, nI_add, nI_lI (by omega), nI_lI (by omega), lI_mul]
  have e : ((chi n k i : Nat) : Int) * ((n - k + (i + 1) : Nat) : Int) = ((chi n k i * (n - k + (i + 1)) : Nat) : Int) := rfl
  rw [e, ln_div (by omega) (by omega) (by omega)]
  rfl
theorem ways_loop {n k : Nat} (hn : n < 40) (hk : k < 17) (hkn : k ≤ n) (hq : P (some (.long (lI (chi n k k : Nat)))) I J) : ∀ (r i : Nat), i + r = k → Go G (fr G m_CH_ways d P) 16 [some (.int (nI n)), some (.int (nI k)), some (.long (lI (chi n k i : Nat))), none, some (.int (nI (i + 1)))] [] I J := by
  intro r
  induction r with
  | zero =>
    intro i hi
    obtain rfl : i = k := by omega
    have hlt : nI i < nI (i + 1) := nI_lt (by omega) (by omega)
    exact w_CH_ways_16 (fun _ => hq) (fun c => absurd hlt c) (fun c => absurd hlt c)
  | succ r ih =>
    intro i hi
    have hlt : ¬ nI k < nI (i + 1) := nI_nlt (by omega) (by omega)
    refine w_CH_ways_16 (fun c => absurd c hlt) (fun _ => ?_) (fun _ => ?_)
    · rw [nI_lI (by omega)]; exact fun c => by have := (ln_0 (by omega)).mp c; omega
    · rw [chi_step hn hk hkn (by omega), nI_1]
      exact ih (i + 1) (by omega)
theorem sp_ways {n k : Nat} (hn : n < 40) (hk : k < 17) (hq : P (some (.long (lI (chs n k : Nat)))) I J) : Ct G d m_CH_ways [.int (nI n), .int (nI k)] P I J := by
  have h0 : ¬ nI k < 0 := nI_pos (by omega)
  have hcmp : (nI k ≤ nI n) ↔ k ≤ n := nI_leI (by omega) (by omega)
  unfold chs at hq
  refine Ct.ofGo [some (.int (nI n)), some (.int (nI k)), none, none, none] (by decide +kernel) rfl (Nat.le_of_ble_eq_true rfl) (w_CH_ways_0 (fun c => absurd c h0) (fun _ c => ?_) (fun _ c => w_CH_ways_9 ?_))
  · have hkn := hcmp.mp c
    rw [if_pos hkn] at hq
    exact ways_loop hn hk hkn hq k 0 (by omega)
  · rw [if_neg (fun h => c (hcmp.mpr h))] at hq
    exact hq
theorem cho_loop {n k : Nat} (hn : n < 40) (hk : k < 17) (hkn : k ≤ n) (hq : P (some (.long (lI (chi n k k : Nat)))) I J) : ∀ (r i : Nat), i + r = k → Go G (fr G m_RM_choose d P) 14 [some (.int (nI n)), some (.int (nI k)), some (.long (lI (chi n k i : Nat))), none, some (.int (nI (i + 1)))] [] I J := by
  intro r
  induction r with
  | zero =>
    intro i hi
    obtain rfl : i = k := by omega
    have hlt : nI i < nI (i + 1) := nI_lt (by omega) (by omega)
    exact w_RM_choose_14 (fun _ => w_RM_choose_46 hq) (fun c => absurd hlt c) (fun c => absurd hlt c) (fun c => absurd hlt c)
  | succ r ih =>
    intro i hi
    have hlt : ¬ nI k < nI (i + 1) := nI_nlt (by omega) (by omega)
    have hb := chi_b hn hk hkn (show i ≤ k by omega)
    have hp : ¬ lI (chi n k i : Nat) ≤ 0 := by rw [show (0 : Int64) = lI 0 from rfl, lI_le (by omega) (by omega)]; omega
    refine w_RM_choose_14 (fun c => absurd c hlt) (fun _ c => absurd c hp) (fun _ _ => ?_) (fun _ _ => ?_)
    · rw [nI_lI (by omega)]; exact fun c => by have := (ln_0 (by omega)).mp c; omega
    · rw [chi_step hn hk hkn (by omega), nI_1]
      exact ih (i + 1) (by omega)
theorem md_choose {n k : Nat} (hn : n < 40) (hk : k < 17) (hq : P (some (.long (lI (chs n k : Nat)))) I J) : Ct G d m_RM_choose [.int (nI n), .int (nI k)] P I J := by
  have hcmp : (nI k ≤ nI n) ↔ k ≤ n := nI_leI (by omega) (by omega)
  unfold chs at hq
  refine Ct.ofGo [some (.int (nI n)), some (.int (nI k)), none, none, none] (by decide +kernel) rfl (Nat.le_of_ble_eq_true rfl) (w_RM_choose_0 (fun c => w_RM_choose_10 ?_) (fun c => w_RM_choose_10 ?_))
  · have hkn := hcmp.mp c
    rw [if_pos hkn] at hq
    exact cho_loop hn hk hkn hq k 0 (by omega)
  · rw [if_neg (fun h => c (hcmp.mpr h))] at hq
    exact w_RM_choose_14 (fun _ => w_RM_choose_46 hq) (fun _ _ => w_RM_choose_46 hq) (fun _ c => absurd (by decide) c) (fun _ c => absurd (by decide) c)
end
/-! choices whose sums fulfil p -/
def cw (p : Int → Bool) (sc : Int) : List Int → Nat → Int → Nat
  | _, 0, s => if p s = true then 1 else 0
  | [], _ + 1, _ => 0
  | v :: l, k + 1, s => cw p sc l k (s + sc * v) + cw p sc l (k + 1) s
theorem cw_0 (p : Int → Bool) (sc : Int) (l : List Int) (s : Int) : cw p sc l 0 s = if p s = true then 1 else 0 := by cases l <;> rfl
theorem cw_snoc (p : Int → Bool) (sc v : Int) : ∀ (l : List Int) (k : Nat) (s : Int), cw p sc (l ++ [v]) (k + 1) s = cw p sc l (k + 1) s + cw p sc l k (s + sc * v) := by
  intro l
  induction l with
  | nil => intro k s; show cw p sc [] k (s + sc * v) + cw p sc [] (k + 1) s = cw p sc [] (k + 1) s + cw p sc [] k (s + sc * v); omega
  | cons x l ih =>
    intro k s
    show cw p sc (l ++ [v]) k (s + sc * x) + cw p sc (l ++ [v]) (k + 1) s = (cw p sc l k (s + sc * x) + cw p sc l (k + 1) s) + cw p sc (x :: l) k (s + sc * v)
    rw [ih k s]
    cases k with
    | zero => rw [cw_0, cw_0, cw_0, cw_0]; omega
    | succ k =>
      rw [ih k (s + sc * x)]
      show _ = _ + (cw p sc l k (s + sc * v + sc * x) + cw p sc l (k + 1) (s + sc * v))
      rw [show s + sc * v + sc * x = s + sc * x + sc * v by omega]
      omega
theorem cw_short (p : Int → Bool) (sc : Int) : ∀ (l : List Int) (k : Nat) (s : Int), l.length < k → cw p sc l k s = 0 := by
  intro l
  induction l with
  | nil => intro k s h; cases k with
    | zero => simp at h
    | succ k => rfl
  | cons x l ih =>
    intro k s h
    cases k with
    | zero => simp at h
    | succ k =>
      have h' : l.length < k := by simpa using h
      show cw p sc l k (s + sc * x) + cw p sc l (k + 1) s = 0
      rw [ih k _ h', ih (k + 1) _ (by omega)]
theorem cw_all (sc : Int) : ∀ (l : List Int) (k : Nat) (s : Int), cw (fun _ => true) sc l k s = cho l.length k := by
  intro l
  induction l with
  | nil => intro k s; cases k <;> rfl
  | cons x l ih =>
    intro k s
    cases k with
    | zero => rfl
    | succ k =>
      show cw _ sc l k (s + sc * x) + cw _ sc l (k + 1) s = cho (l.length + 1) (k + 1)
      rw [ih, ih]; rfl
theorem cho_b : ∀ n k, cho n k ≤ 2 ^ n := by
  intro n
  induction n with
  | zero => intro k; cases k with
    | zero => decide
    | succ k => show 0 ≤ 1; omega
  | succ n ih =>
    intro k
    have hp : 0 < 2 ^ n := Nat.pow_pos (by decide)
    rw [Nat.pow_succ]
    cases k with
    | zero => show 1 ≤ _; omega
    | succ k =>
      have := ih k
      have := ih (k + 1)
      show cho n k + cho n (k + 1) ≤ _
      omega
theorem cw_le (p : Int → Bool) (sc : Int) : ∀ (l : List Int) (k : Nat) (s : Int), cw p sc l k s ≤ cho l.length k := by
  intro l
  induction l with
  | nil => intro k s; cases k with
    | zero => rw [cw_0]; show _ ≤ 1; split <;> omega
    | succ k => exact Nat.le_refl _
  | cons x l ih =>
    intro k s
    cases k with
    | zero => rw [cw_0]; show _ ≤ 1; split <;> omega
    | succ k =>
      have := ih k (s + sc * x)
      have := ih (k + 1) s
      show cw p sc l k (s + sc * x) + cw p sc l (k + 1) s ≤ cho l.length k + cho l.length (k + 1)
      omega
theorem cho_pos : ∀ n k, k ≤ n → 0 < cho n k := by
  intro n
  induction n with
  | zero => intro k hk; cases k with
    | zero => exact Nat.zero_lt_one
    | succ k => omega
  | succ n ih =>
    intro k hk
    cases k with
    | zero => exact Nat.zero_lt_one
    | succ k => have := ih k (by omega); show 0 < cho n k + cho n (k + 1); omega
/-! sets as numbers -/
def bit (s i : Nat) : Nat := s / 2 ^ i % 2
def pop (s : Nat) : Nat → Nat
  | 0 => 0
  | i + 1 => pop s i + bit s i
def bsm (l : List Int) (s : Nat) : Nat → Int
  | 0 => 0
  | i + 1 => bsm l s i + if bit s i = 1 then l.getD i 0 else 0
def gs (F : Nat → Nat) : Nat → Nat
  | 0 => 0
  | m + 1 => gs F m + F m
theorem gs_add (F : Nat → Nat) (a : Nat) : ∀ b, gs F (a + b) = gs F a + gs (fun x => F (a + x)) b := by
  intro b
  induction b with
  | zero => rfl
  | succ b ih => show gs F (a + b) + F (a + b) = gs F a + (gs (fun x => F (a + x)) b + F (a + b)); omega
theorem gs_congr {F G : Nat → Nat} : ∀ m, (∀ x, x < m → F x = G x) → gs F m = gs G m := by
  intro m
  induction m with
  | zero => intro _; rfl
  | succ m ih => intro h; show gs F m + F m = gs G m + G m; rw [ih (fun x hx => h x (by omega)), h m (by omega)]
theorem bit_hi {s n i : Nat} (h : s < 2 ^ n) (hi : n ≤ i) : bit s i = 0 := by
  unfold bit
  rw [Nat.div_eq_of_lt (Nat.lt_of_lt_of_le h (Nat.pow_le_pow_right (by decide) hi))]
theorem bit_top {s n : Nat} (h : s < 2 ^ n) : bit (2 ^ n + s) n = 1 := by
  unfold bit
  have hp : 0 < 2 ^ n := Nat.pow_pos (by decide)
  rw [Nat.add_comm, Nat.add_div_right _ hp, Nat.div_eq_of_lt h]
theorem bit_lo {s n i : Nat} (h : i < n) : bit (2 ^ n + s) i = bit s i := by
  unfold bit
  have hp : 0 < 2 ^ i := Nat.pow_pos (by decide)
  have e : 2 ^ n = 2 ^ i * (2 * 2 ^ (n - i - 1)) := by
    rw [← Nat.mul_assoc, ← Nat.pow_succ, ← Nat.pow_add]; congr 1; omega
  rw [e, Nat.mul_add_div hp, Nat.mul_add_mod]
theorem pop_lo {s n : Nat} : ∀ i, i ≤ n → pop (2 ^ n + s) i = pop s i := by
  intro i
  induction i with
  | zero => intro _; rfl
  | succ i ih => intro hi; show pop (2 ^ n + s) i + bit (2 ^ n + s) i = pop s i + bit s i; rw [ih (by omega), bit_lo (by omega)]
theorem bsm_lo {l : List Int} {s n : Nat} : ∀ i, i ≤ n → bsm l (2 ^ n + s) i = bsm l s i := by
  intro i
  induction i with
  | zero => intro _; rfl
  | succ i ih => intro hi; show bsm l (2 ^ n + s) i + (if bit (2 ^ n + s) i = 1 then l.getD i 0 else 0) = bsm l s i + (if bit s i = 1 then l.getD i 0 else 0); rw [ih (by omega), bit_lo (by omega)]
theorem bsm_app {l : List Int} {v : Int} {s : Nat} : ∀ i, i ≤ l.length → bsm (l ++ [v]) s i = bsm l s i := by
  intro i
  induction i with
  | zero => intro _; rfl
  | succ i ih =>
    intro hi
    show bsm (l ++ [v]) s i + (if bit s i = 1 then (l ++ [v]).getD i 0 else 0) = bsm l s i + (if bit s i = 1 then l.getD i 0 else 0)
    rw [ih (by omega), getD_app1 (by omega)]
theorem pop_hi {s n : Nat} (h : s < 2 ^ n) : ∀ i, pop s (n + i) = pop s n := by
  intro i
  induction i with
  | zero => rfl
  | succ i ih => show pop s (n + i) + bit s (n + i) = _; rw [ih, bit_hi h (by omega)]; omega
def ind (p : Int → Bool) (sc : Int) (l : List Int) (k : Nat) (s : Int) (x : Nat) : Nat := if pop x l.length = k ∧ p (s + sc * bsm l x l.length) = true then 1 else 0
/-- all sets counted are all choices counted -/
theorem gs_cw (p : Int → Bool) (sc : Int) : ∀ (l : List Int) (k : Nat) (s : Int), gs (ind p sc l k s) (2 ^ l.length) = cw p sc l k s := by
  intro l
  induction hn : l.length generalizing l with
  | zero =>
    intro k s
    have := List.length_eq_zero_iff.mp hn
    subst this
    show gs (ind p sc [] k s) 0 + ind p sc [] k s 0 = _
    cases k with
    | zero =>
      rw [cw_0]
      show 0 + ind p sc [] 0 s 0 = _
      simp [ind, pop, bsm]
    | succ k =>
      show 0 + ind p sc [] (k + 1) s 0 = 0
      simp [ind, pop]
  | succ n ih =>
    rcases List.eq_nil_or_concat l with rfl | ⟨l', v, rfl⟩
    · simp at hn
    · simp only [List.concat_eq_append] at hn ⊢
      have hl : l'.length = n := by simpa using hn
      intro k s
      have hp : 0 < 2 ^ n := Nat.pow_pos (by decide)
      have hle : (l' ++ [v]).length = n + 1 := hn
      rw [Nat.pow_succ, show 2 ^ n * 2 = 2 ^ n + 2 ^ n by omega, gs_add]
      have lo : gs (ind p sc (l' ++ [v]) k s) (2 ^ n) = cw p sc l' k s := by
        rw [← ih l' hl k s]
        refine gs_congr _ (fun x hx => ?_)
        unfold ind
        rw [hle, hl]
        have e1 : pop x (n + 1) = pop x n := pop_hi hx 1
        have e2 : bsm (l' ++ [v]) x (n + 1) = bsm l' x n := by
          show bsm (l' ++ [v]) x n + (if bit x n = 1 then (l' ++ [v]).getD n 0 else 0) = _
          rw [bit_hi hx (Nat.le_refl _), if_neg (by decide), Int.add_zero, bsm_app n (by omega)]
        rw [e1, e2]
      have he : ∀ x, x < 2 ^ n → pop (2 ^ n + x) (n + 1) = pop x n + 1 ∧ bsm (l' ++ [v]) (2 ^ n + x) (n + 1) = bsm l' x n + v := by
        intro x hx
        constructor
        · show pop (2 ^ n + x) n + bit (2 ^ n + x) n = _
          rw [pop_lo n (Nat.le_refl _), bit_top hx]
        · show bsm (l' ++ [v]) (2 ^ n + x) n + (if bit (2 ^ n + x) n = 1 then (l' ++ [v]).getD n 0 else 0) = _
          rw [bit_top hx, if_pos rfl, bsm_lo n (Nat.le_refl _), bsm_app n (by omega)]
          rw [show n = l'.length from hl.symm, getD_app2]
      rw [lo]
      cases k with
      | zero =>
        rw [cw_0, cw_0, gs_congr (G := fun _ => 0) (2 ^ n) (fun x hx => by
          obtain ⟨e1, e2⟩ := he x hx
          unfold ind
          rw [hle, e1]
          exact if_neg (fun c => by have := c.1; omega))]
        have : ∀ m, gs (fun _ => 0) m = 0 := by
          intro m
          induction m with
          | zero => rfl
          | succ m ih => show gs (fun _ => 0) m + 0 = 0; rw [ih]
        rw [this]; omega
      | succ j =>
        rw [cw_snoc, ← ih l' hl j (s + sc * v), gs_congr (G := ind p sc l' j (s + sc * v)) (2 ^ n) (fun x hx => by
          obtain ⟨e1, e2⟩ := he x hx
          unfold ind
          rw [hle, hl, e1, e2]
          have : s + sc * (bsm l' x n + v) = s + sc * v + sc * bsm l' x n := by rw [Int.mul_add]; omega
          rw [this]
          by_cases q : pop x n = j
          · simp [q]
          · simp [q])]
