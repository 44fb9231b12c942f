/-! ===== the ledger, a row's points ===== -/
def fl {α : Type} (F : Nat → Nat → α) (o n : Nat) (x : α) : Nat → Nat → α := fun a => if a = o then (fun k => if k < n then x else F o k) else F a
theorem fl_0 {α : Type} (F : Nat → Nat → α) (o : Nat) (x : α) : fl F o 0 x = F := by
  funext a; by_cases h : a = o
  · subst h; funext k; simp [fl]
  · simp [fl, h]
theorem fl_step {α : Type} (F : Nat → Nat → α) (o n : Nat) (x : α) : u2 (fl F o n x) o n x = fl F o (n + 1) x := by
  funext a; by_cases h : a = o
  · subst h; funext k
    simp only [u2, fl, if_true]
    by_cases h1 : k = n
    · subst h1; simp
    · by_cases h2 : k < n
      · simp [h1, h2, Nat.lt_succ_of_lt h2]
      · simp [h1, h2, show ¬ k < n + 1 by omega]
  · simp [u2, fl, h]
theorem fl_o {α : Type} {F : Nat → Nat → α} {o n : Nat} {x : α} {a : Nat} (h : a ≠ o) : fl F o n x a = F a := by simp [fl, h]
theorem fl_at {α : Type} {F : Nat → Nat → α} {o n : Nat} {x : α} {k : Nat} (h : k < n) : fl F o n x o k = x := by simp [fl, h]
def Fr {α : Type} (s : List Nat) (F F' : Nat → Nat → α) : Prop := ∀ a, a ∉ s → F' a = F a
theorem Fr.rf {α : Type} {s : List Nat} {F : Nat → Nat → α} : Fr s F F := fun _ _ => rfl
theorem Fr.tr {α : Type} {s t u : List Nat} {F F' F'' : Nat → Nat → α} (h : Fr s F F') (g : Fr t F' F'') (hs : ∀ a ∈ s, a ∈ u) (ht : ∀ a ∈ t, a ∈ u) : Fr u F F'' := fun a ha => (g a fun q => ha (ht a q)).trans (h a fun q => ha (hs a q))
theorem Fr.mono {α : Type} {s u : List Nat} {F F' : Nat → Nat → α} (h : Fr s F F') (hs : ∀ a ∈ s, a ∈ u) : Fr u F F' := fun a ha => h a fun q => ha (hs a q)
section
variable {G : GC} {d : Nat} {P : PT} {I : MI} {J : MJ}
theorem fill_loop {o n : Nat} {x : Int32} (h0 : SHP[o]? = some (20, n, [])) (hn : n < 2147483648) (hq : P none (fl I o n x) J) : ∀ (m i : Nat) (x2 : Int32), i + m = n → x2 = nI i → Go G (fr G m_JA_fill_AII d P) 5 [some (.ref o), some (.int x), some (.int x2), some (.int (Int32.ofNat n))] [] (fl I o i x) J := by
  intro m
  induction m with
  | zero =>
    intro i x2 hi hx
    obtain rfl : i = n := by omega
    subst hx
    exact w_JA_fill_AII_5 h0 (fun _ => hq) (fun c => absurd (nI_le (Nat.le_refl _) hn) c) (fun c => absurd (nI_le (Nat.le_refl _) hn) c)
  | succ m ih =>
    intro i x2 hi hx
    subst hx
    refine w_JA_fill_AII_5 h0 (fun c => absurd c (nI_ge (by omega) hn)) (fun _ => vp_in_nI (by omega) hn) (fun _ => ?_)
    rw [nI_clamp (show i < 2 ^ 31 by omega), fl_step]
    exact ih (i + 1) _ (by omega) (nI_1 i)
theorem sp_fillI {o n : Nat} {x : Int32} (h0 : SHP[o]? = some (20, n, [])) (hn : n < 2147483648) (hq : P none (fl I o n x) J) : Ct G d m_JA_fill_AII [.ref o, .int x] P I J := by
  refine Ct.ofGo [some (.ref o), some (.int x), none, none] (by decide +kernel) rfl (Nat.le_of_ble_eq_true rfl) (w_JA_fill_AII_0 h0 ?_)
  have h := fill_loop (G := G) (d := d) h0 hn hq n 0 0 (by omega) nI_0.symm
  rw [fl_0] at h
  exact h
theorem fillJ_loop {o n : Nat} {x : Int64} (h0 : SHP[o]? = some (21, n, [])) (hn : n < 2147483648) (hq : P none I (fl J o n x)) : ∀ (m i : Nat) (x2 : Int32), i + m = n → x2 = nI i → Go G (fr G m_JA_fill_AJJ d P) 6 [some (.ref o), some (.long x), none, some (.int x2), some (.int (Int32.ofNat n))] [] I (fl J o i x) := by
  intro m
  induction m with
  | zero =>
    intro i x2 hi hx
    obtain rfl : i = n := by omega
    subst hx
    exact w_JA_fill_AJJ_6 h0 (fun _ => hq) (fun c => absurd (nI_le (Nat.le_refl _) hn) c) (fun c => absurd (nI_le (Nat.le_refl _) hn) c)
  | succ m ih =>
    intro i x2 hi hx
    subst hx
    refine w_JA_fill_AJJ_6 h0 (fun c => absurd c (nI_ge (by omega) hn)) (fun _ => vp_in_nI (by omega) hn) (fun _ => ?_)
    rw [nI_clamp (show i < 2 ^ 31 by omega), fl_step]
    exact ih (i + 1) _ (by omega) (nI_1 i)
theorem sp_fillJ {o n : Nat} {x : Int64} (h0 : SHP[o]? = some (21, n, [])) (hn : n < 2147483648) (hq : P none I (fl J o n x)) : Ct G d m_JA_fill_AJJ [.ref o, .long x] P I J := by
  refine Ct.ofGo [some (.ref o), some (.long x), none, none, none] (by decide +kernel) rfl (Nat.le_of_ble_eq_true rfl) (w_JA_fill_AJJ_0 h0 ?_)
  have h := fillJ_loop (G := G) (d := d) h0 hn hq n 0 0 (by omega) nI_0.symm
  rw [fl_0] at h
  exact h
theorem fillR_loop {o n e : Nat} {x : Int64} (h0 : SHP[o]? = some (21, n, [])) (hn : n < 2147483648) (he : e ≤ n) (hq : P none I (fl J o e x)) : ∀ (m i : Nat) (x2 : Int32), i + m = e → x2 = nI i → Go G (fr G m_JA_fill_AJIIJ (d + 1) P) 10 [some (.ref o), none, some (.int (nI e)), some (.long x), none, some (.int x2)] [] I (fl J o i x) := by
  intro m
  induction m with
  | zero =>
    intro i x2 hi hx
    obtain rfl : i = e := by omega
    subst hx
    exact w_JA_fill_AJIIJ_10 h0 (fun _ => hq) (fun c => absurd (nI_le (Nat.le_refl _) (show i < 2 ^ 31 by omega)) c) (fun c => absurd (nI_le (Nat.le_refl _) (show i < 2 ^ 31 by omega)) c)
  | succ m ih =>
    intro i x2 hi hx
    subst hx
    refine w_JA_fill_AJIIJ_10 h0 (fun c => absurd c (nI_ge (show i < e by omega) (show e < 2 ^ 31 by omega))) (fun _ => vp_in_nI (show i < n by omega) hn) (fun _ => ?_)
    rw [nI_clamp (show i < 2 ^ 31 by omega), fl_step]
    exact ih (i + 1) _ (by omega) (nI_1 i)
/-- Arrays.fill(long[], 0, e, x) -/
theorem sp_fillR {o n e : Nat} {x : Int64} (h0 : SHP[o]? = some (21, n, [])) (hn : n < 2147483648) (he : e ≤ n) (hq : P none I (fl J o e x)) : Ct G (d + 1) m_JA_fill_AJIIJ [.ref o, .int 0, .int (nI e), .long x] P I J := by
  refine Ct.ofGo [some (.ref o), some (.int 0), some (.int (nI e)), some (.long x), none, none] (by decide +kernel) rfl (Nat.le_of_ble_eq_true rfl) (w_JA_fill_AJIIJ_0 h0 ?_)
  refine Ct.ofGo [some (.int (Int32.ofNat n)), some (.int 0), some (.int (nI e))] (by decide +kernel) rfl (Nat.le_of_ble_eq_true rfl) (w_JA_rangeCheck_0 (fun _ _ _ => ?_) (fun _ _ c => c (nI_le he hn)) (fun _ c => c (by decide)) (fun c => c (nI_pos' (show e < 2 ^ 31 by omega))))
  refine w_JA_fill_AJIIJ_7 h0 ?_
  have h := fillR_loop (G := G) (d := d) h0 hn he hq e 0 0 (by omega) nI_0.symm
  rw [fl_0] at h
  exact h
/-- how many of the first n were told up to t -/
def upTo (f : Nat → Int32) (t : Int32) (n : Nat) : Nat := match n with
  | 0 => 0
  | n + 1 => if f n ≤ t then n + 1 else upTo f t n
theorem upTo_le (f : Nat → Int32) (t : Int32) : ∀ n, upTo f t n ≤ n := by
  intro n
  induction n with
  | zero => exact Nat.le_refl _
  | succ n ih => unfold upTo; split <;> omega
theorem upto_loop {t : Int32} {n : Nat} : ∀ (m : Nat), m ≤ 200 → P (some (.int (nI (upTo (I 5) t m)))) I J → ∀ (x2 : Int32), x2 = nI m → Go G (fr G m_LE_toldUpTo d P) 5 [some (.ref 1), some (.int t), some (.int x2)] [] I J := by
  intro m
  induction m with
  | zero =>
    intro _ hq x2 hx
    subst hx
    have h0 : (nI 0) ≤ 0 := by decide
    exact w_LE_toldUpTo_5 (fun _ => w_LE_toldUpTo_27 hq) (fun c => absurd h0 c) (fun c => absurd h0 c) (fun c => absurd h0 c)
  | succ m ih =>
    intro hm hq x2 hx
    subst hx
    have h1 : nI (m + 1) - 1 = nI m := nI_pred m
    refine w_LE_toldUpTo_5 (fun c => absurd c (nI_nle (by omega) (by omega))) (fun _ => ?_) (fun _ c => w_LE_toldUpTo_27 ?_) (fun _ c => ?_)
    · rw [h1]; exact vp_in_nI (by omega) (by omega)
    · rw [h1, nI_clamp (show m < 2 ^ 31 by omega)] at c
      have e : upTo (I 5) t (m + 1) = m + 1 := by simp only [upTo, if_pos c]
      rw [e] at hq; exact hq
    · rw [h1, nI_clamp (show m < 2 ^ 31 by omega)] at c
      have e : upTo (I 5) t (m + 1) = upTo (I 5) t m := by simp only [upTo, if_neg c]
      rw [e] at hq
      exact ih (by omega) hq _ (pk_m1 m)
theorem sp_toldUpTo {t : Int32} {n : Nat} (hn : n ≤ 200) (hs : I 1 4 = nI n) (hq : P (some (.int (nI (upTo (I 5) t n)))) I J) : Ct G d m_LE_toldUpTo [.ref 1, .int t] P I J := by
  refine Ct.ofGo [some (.ref 1), some (.int t), none] (by decide +kernel) rfl (Nat.le_of_ble_eq_true rfl) (w_LE_toldUpTo_0 ?_)
  exact upto_loop (n := n) n hn hq _ hs
/-- the last of the first n that is of row r -/
def lastIx (f : Nat → Int32) (r : Int32) (n : Nat) : Int32 := match n with
  | 0 => -1
  | n + 1 => if f n = r then nI n else lastIx f r n
theorem lastof_loop {r : Int32} : ∀ (m : Nat), m ≤ 200 → P (some (.int (lastIx (I 2) r m))) I J → ∀ (x3 : Int32), x3 = nI m - 1 → Go G (fr G m_LE_lastOf d P) 4 [some (.ref 1), some (.int r), none, some (.int x3)] [] I J := by
  intro m
  induction m with
  | zero =>
    intro _ hq x3 hx
    have h0 : nI 0 - 1 < 0 := by decide
    subst hx
    exact w_LE_lastOf_4 (fun _ => w_LE_lastOf_24 (fun _ => hq) (fun c => absurd h0 c)) (fun c => absurd h0 c) (fun c => absurd h0 c) (fun c => absurd h0 c)
  | succ m ih =>
    intro hm hq x3 hx
    rw [nI_pred m] at hx
    subst hx
    have h9 : ¬ nI m < 0 := nI_pos (by omega)
    refine w_LE_lastOf_4 (fun c => absurd c h9) (fun _ => vp_in_nI (by omega) (by omega)) (fun _ c => w_LE_lastOf_24 (fun c => absurd c h9) (fun _ => ?_)) (fun _ c => ?_)
    · rw [nI_clamp (show m < 2 ^ 31 by omega)] at c
      have e : lastIx (I 2) r (m + 1) = nI m := by simp only [lastIx, if_pos c]
      rw [e] at hq; exact hq
    · rw [nI_clamp (show m < 2 ^ 31 by omega)] at c
      have e : lastIx (I 2) r (m + 1) = lastIx (I 2) r m := by simp only [lastIx, if_neg c]
      rw [e] at hq
      exact ih (by omega) hq _ (by rw [Int32.sub_eq_add_neg])
theorem sp_lastOf {r : Int32} {m : Nat} (hm : m ≤ 200) (hq : P (some (.int (lastIx (I 2) r m))) I J) : Ct G d m_LE_lastOf [.ref 1, .int r, .int (nI m)] P I J := by
  refine Ct.ofGo [some (.ref 1), some (.int r), some (.int (nI m)), none] (by decide +kernel) rfl (Nat.le_of_ble_eq_true rfl) (w_LE_lastOf_0 ?_)
  exact lastof_loop m hm hq _ rfl
def lastT (f : Nat → Int32) (n : Nat) : Int32 := match n with
  | 0 => 0
  | n + 1 => f n
theorem sp_lastTime {n : Nat} (hn : n ≤ 200) (hs : I 1 4 = nI n) (hq : P (some (.int (lastT (I 5) n))) I J) : Ct G d m_LE_lastTime [.ref 1] P I J := by
  refine Ct.ofGo [some (.ref 1)] (by decide +kernel) rfl (Nat.le_of_ble_eq_true rfl) ?_
  cases n with
  | zero =>
    have h0 : I 1 4 = 0 := by rw [hs]; exact nI_0
    exact w_LE_lastTime_0 (fun c => absurd h0 c) (fun c => absurd h0 c) (fun _ => hq)
  | succ n =>
    have h0 : ¬ I 1 4 = 0 := by rw [hs]; exact nI_ne0 (by omega) (by omega)
    have h1 : I 1 4 - 1 = nI n := by rw [hs]; exact nI_pred n
    refine w_LE_lastTime_0 (fun _ => ?_) (fun _ => ?_) (fun c => absurd c h0)
    · rw [h1]; exact vp_in_nI (by omega) (by omega)
    · rw [h1, nI_clamp (show n < 2 ^ 31 by omega)]; exact hq
end
