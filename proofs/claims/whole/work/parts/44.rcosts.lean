/-! ===== the reference: what stretches cost ===== -/
theorem lI_inj {a b : Int} (ha : -9223372036854775808 ≤ a ∧ a < 9223372036854775808) (hb : -9223372036854775808 ≤ b ∧ b < 9223372036854775808) : lI a = lI b ↔ a = b := by
  rw [tl_eq, lI_ti ha.1 ha.2, lI_ti hb.1 hb.2]
theorem lI_lt {a b : Int} (ha : -9223372036854775808 ≤ a ∧ a < 9223372036854775808) (hb : -9223372036854775808 ≤ b ∧ b < 9223372036854775808) : lI a < lI b ↔ a < b := by
  rw [tl_lt, lI_ti ha.1 ha.2, lI_ti hb.1 hb.2]
theorem lI_le {a b : Int} (ha : -9223372036854775808 ≤ a ∧ a < 9223372036854775808) (hb : -9223372036854775808 ≤ b ∧ b < 9223372036854775808) : lI a ≤ lI b ↔ a ≤ b := by
  rw [tl_le, lI_ti ha.1 ha.2, lI_ti hb.1 hb.2]
/-- a natural number as a long -/
abbrev lN2 (n : Nat) : Int64 := lI (n : Int)
theorem ln_div {a b : Nat} (ha : a < 9223372036854775808) (hb : b < 9223372036854775808) (h0 : 0 < b) : lI a / lI b = lI ((a / b : Nat) : Int) := by
  have ta : (lI (a : Int)).toInt = a := lI_ti (by omega) (by omega)
  have tb : (lI (b : Int)).toInt = b := lI_ti (by omega) (by omega)
  have h : (lI (a : Int) / lI (b : Int)).toInt = ((a / b : Nat) : Int) := by rw [tl_div (by rw [ta]; omega) (by rw [tb]; omega), ta, tb]; rfl
  rw [← h, lI_of]
theorem ln_rem {a b : Nat} (ha : a < 9223372036854775808) (hb : b < 9223372036854775808) (h0 : 0 < b) : lI a - lI a / lI b * lI b = lI ((a % b : Nat) : Int) := by
  have ta : (lI (a : Int)).toInt = a := lI_ti (by omega) (by omega)
  have tb : (lI (b : Int)).toInt = b := lI_ti (by omega) (by omega)
  have h : (lI (a : Int) - lI (a : Int) / lI (b : Int) * lI (b : Int)).toInt = ((a % b : Nat) : Int) := by rw [tl_rem (by rw [ta]; omega) (by rw [tb]; omega), ta, tb]; rfl
  rw [← h, lI_of]
theorem ln_0 {a : Nat} (ha : a < 9223372036854775808) : lI (a : Int) = 0 ↔ a = 0 := by
  rw [show (0 : Int64) = lI 0 from rfl, lI_inj (by omega) (by omega)]; omega
theorem gcd_step (x y : Nat) : Nat.gcd x y = Nat.gcd y (x % y) := by rw [Nat.gcd_comm x y, Nat.gcd_rec y x, Nat.gcd_comm]
section
variable {G : GC} {d : Nat} {P : PT} {I : MI} {J : MJ}
theorem div_loop : ∀ (y x : Nat), x < 9223372036854775808 → y < 9223372036854775808 → P (some (.long (lI (Nat.gcd x y : Nat)))) I J → Go G (fr G m_RM_divisor d P) 6 [none, none, none, none, some (.long (lI x)), none, some (.long (lI y)), none, none, none] [] I J := by
  intro y
  induction y using Nat.strongRecOn with
  | ind y ih =>
    intro x hx hy hq
    by_cases h : y = 0
    · subst h
      rw [Nat.gcd_zero_right] at hq
      have hz : lI ((0 : Nat) : Int) = 0 := rfl
      exact w_RM_divisor_6 (fun _ => hq) (fun c => absurd hz c) (fun c => absurd hz c)
    · have hn : ¬ lI (y : Int) = 0 := fun c => h ((ln_0 hy).mp c)
      refine w_RM_divisor_6 (fun c => absurd c hn) (fun c => c) (fun _ => ?_)
      rw [ln_rem hx hy (by omega)]
      have hlt := Nat.mod_lt x (Nat.pos_of_ne_zero h)
      refine ih (x % y) hlt y hy (by omega) ?_
      rw [← gcd_step]; exact hq
theorem md_divisor {x y : Nat} (hx : x < 9223372036854775808) (hy : y < 9223372036854775808) (hq : P (some (.long (lI (Nat.gcd x y : Nat)))) I J) : Ct G d m_RM_divisor [.long (lI x), .long (lI y)] P I J :=
  Ct.ofGo [some (.long (lI x)), none, some (.long (lI y)), none, none, none, none, none, none, none] (by decide +kernel) rfl (Nat.le_of_ble_eq_true rfl) (w_RM_divisor_0 (div_loop y x hx hy hq))
theorem cdiv_loop : ∀ (k x y s : Nat), x < 9223372036854775808 → y < 9223372036854775808 → y < 2 ^ k → s + 2 * k + 1 ≤ 200 → P (some (.long (lI (Nat.gcd x y : Nat)))) I J → Go G (fr G m_CU_commonDivisor d P) 9 [none, none, none, none, some (.long (lI x)), none, some (.long (lI y)), none, some (.int (nI s)), none, none] [] I J := by
  intro k
  have hz : lI ((0 : Nat) : Int) = 0 := rfl
  have zero : ∀ (x s : Nat), P (some (.long (lI (Nat.gcd x 0 : Nat)))) I J → Go G (fr G m_CU_commonDivisor d P) 9 [none, none, none, none, some (.long (lI x)), none, some (.long (lI (0 : Nat))), none, some (.int (nI s)), none, none] [] I J := by
    intro x s hq
    rw [Nat.gcd_zero_right] at hq
    exact w_CU_commonDivisor_9 (fun _ => w_CU_commonDivisor_45 hq) (fun _ _ => w_CU_commonDivisor_45 hq) (fun _ c => c) (fun _ c => absurd hz c)
  induction k with
  | zero =>
    intro x y s hx hy hk hs hq
    obtain rfl : y = 0 := by omega
    exact zero x s hq
  | succ k ih =>
    intro x y s hx hy hk hs hq
    by_cases h : y = 0
    · subst h; exact zero x s hq
    · have hn : ¬ lI (y : Int) = 0 := fun c => h ((ln_0 hy).mp c)
      have h200 : ¬ (200 : Int32) ≤ nI s := nI_ge (b := 200) (by omega) (by omega)
      have h201 : ¬ (200 : Int32) ≤ nI (s + 1) := nI_ge (b := 200) (by omega) (by omega)
      refine w_CU_commonDivisor_9 (fun c => absurd c h200) (fun _ c => absurd c hn) (fun _ c => c) (fun _ _ => ?_)
      rw [ln_rem hx hy (by omega), nI_1]
      have hlt := Nat.mod_lt x (Nat.pos_of_ne_zero h)
      rw [gcd_step] at hq
      generalize x % y = z at *
      by_cases hz0 : z = 0
      · subst hz0; exact zero y (s + 1) hq
      · have hn2 : ¬ lI (z : Int) = 0 := fun c => hz0 ((ln_0 (by omega)).mp c)
        refine w_CU_commonDivisor_9 (fun c => absurd c h201) (fun _ c => absurd c hn2) (fun _ c => c) (fun _ _ => ?_)
        rw [ln_rem hy (by omega) (by omega), nI_1]
        have hlt2 := Nat.mod_lt y (Nat.pos_of_ne_zero hz0)
        rw [gcd_step] at hq
        refine ih z (y % z) (s + 1 + 1) (by omega) (by omega) ?_ (by omega) hq
        rw [Nat.pow_succ] at hk
        by_cases q : 2 * z ≤ y
        · omega
        · have : y % z = y - z := by rw [Nat.mod_eq_sub_mod (by omega), Nat.mod_eq_of_lt (by omega)]
          omega
theorem sp_commonDivisor {x y : Nat} (hx : x < 9223372036854775808) (hy : y < 9223372036854775808) (hq : P (some (.long (lI (Nat.gcd x y : Nat)))) I J) : Ct G d m_CU_commonDivisor [.long (lI x), .long (lI y)] P I J :=
  Ct.ofGo [some (.long (lI x)), none, some (.long (lI y)), none, none, none, none, none, none, none, none] (by decide +kernel) rfl (Nat.le_of_ble_eq_true rfl) (w_CU_commonDivisor_0 (cdiv_loop 63 x y 0 hx hy (by omega) (by omega) hq))
end
def nK (k : Nat) (l : List Pt) : Nat := (numK k l).toNat
theorem nK_eq (k : Nat) (l : List Pt) : ((nK k l : Nat) : Int) = numK k l := by unfold nK; have := numK_nn k l; omega
theorem nK_b {k : Nat} {l : List Pt} (h : okV l) (hn : l.length ≤ 40) : nK k l ≤ 1000000000000 := by have := numK_b (k := k) h hn; have := nK_eq k l; omega
def fW (n b : Nat) : Nat := n / b
def fG (n b : Nat) : Nat := Nat.gcd (n % b) b
def fA (n b : Nat) : Nat := n % b / fG n b
def fB (n b : Nat) : Nat := b / fG n b
theorem fG_pos {n b : Nat} (h : 0 < b) : 0 < fG n b := Nat.gcd_pos_of_pos_right _ h
theorem fB_pos {n b : Nat} (h : 0 < b) : 0 < fB n b := Nat.div_pos (Nat.le_of_dvd h (Nat.gcd_dvd_right _ _)) (fG_pos h)
def ent (k : Nat) (l : List Pt) (x : Nat) (J : MJ) : Prop := J 76 x = lI (fW (nK k l) (denK k l) : Nat) ∧ J 77 x = lI (fA (nK k l) (denK k l) : Nat) ∧ J 78 x = lI (fB (nK k l) (denK k l) : Nat)
/-- the table of costs, rows up to a, of row a the ends up to b -/
def CTx (k : Nat) (L : List Pt) (a b : Nat) (J : MJ) : Prop := ∀ a' m', a' + m' < L.length → (a' < a ∨ (a' = a ∧ a' + m' < b)) → ent k (seg L a' (m' + 1)) (40 * a' + (a' + m')) J
/-- what the costs may change -/
def FC (I : MI) (J : MJ) (I' : MI) (J' : MJ) : Prop := (∀ a, a ≠ 79 → I' a = I a) ∧ ∀ a, a ≠ 76 → a ≠ 77 → a ≠ 78 → J' a = J a
theorem FC.rf {I : MI} {J : MJ} : FC I J I J := ⟨fun _ _ => rfl, fun _ _ _ _ => rfl⟩
theorem FC.tr {I I' I'' : MI} {J J' J'' : MJ} (h : FC I J I' J') (g : FC I' J' I'' J'') : FC I J I'' J'' := ⟨fun a ha => (g.1 a ha).trans (h.1 a ha), fun a h1 h2 h3 => (g.2 a h1 h2 h3).trans (h.2 a h1 h2 h3)⟩
theorem QL.fc {l : List Pt} {I I' : MI} {J J' : MJ} (h : QL l I) (g : FC I J I' J') : QL l I' := ⟨by rw [g.1 67 (by decide)]; exact h.1, fun k hk => by rw [g.1 73 (by decide), g.1 74 (by decide)]; exact h.2 k hk⟩
section
variable {G : GC} {d : Nat} {P : PT} {I : MI} {J : MJ}
theorem md_keeps {x n b : Nat} (hx : x < 1600) (hn : n < 9223372036854775808) (hb : b < 9223372036854775808) (h0 : 0 < b) (hq : ∀ J', (∀ a, a ≠ 76 → a ≠ 77 → a ≠ 78 → J' a = J a) → (∀ a y, y ≠ x → J' a y = J a y) → J' 76 x = lI (fW n b : Nat) → J' 77 x = lI (fA n b : Nat) → J' 78 x = lI (fB n b : Nat) → P none I J') : Ct G (d + 1) m_RM_keeps [.ref 67, .int (nI x), .long (lI n), .long (lI b)] P I J := by
  have ex : (nI x).toNatClampNeg = x := nI_clamp (by omega)
  have hne : ¬ lI (b : Int) = 0 := fun c => by have := (ln_0 hb).mp c; omega
  have hlt := Nat.mod_lt n h0
  have hgp : 0 < fG n b := fG_pos h0
  have hgb : fG n b ≤ b := Nat.le_of_dvd h0 (Nat.gcd_dvd_right _ _)
  refine Ct.ofGo [some (.ref 67), some (.int (nI x)), some (.long (lI n)), none, some (.long (lI b)), none, none, none, none, none] (by decide +kernel) rfl (Nat.le_of_ble_eq_true rfl) (w_RM_keeps_0 hne (vp_in_nI hx (by omega)) ?_)
  rw [ln_rem hn hb h0, ln_div hn hb h0, ex]
  refine md_divisor (by omega) hb (w_RM_keeps_23 ?_ (vp_in_nI hx (by omega)) ?_)
  · exact fun c => by have := (ln_0 (show fG n b < 9223372036854775808 by omega)).mp c; omega
  · rw [ex]
    rw [ln_div (b := (n % b).gcd b) (by omega) (show fG n b < _ by omega) hgp, ln_div (b := (n % b).gcd b) hb (show fG n b < _ by omega) hgp]
    refine hq _ (fun a h1 h2 h3 => by rw [u2_o h3, u2_o h2, u2_o h1]) (fun a y hy => ?_) ?_ ?_ ?_
    · by_cases q1 : a = 78
      · subst q1; rw [u2_k hy, u2_o (by decide), u2_o (by decide)]
      · rw [u2_o q1]
        by_cases q2 : a = 77
        · subst q2; rw [u2_k hy, u2_o (by decide)]
        · rw [u2_o q2]
          by_cases q3 : a = 76
          · subst q3; rw [u2_k hy]
          · rw [u2_o q3]
    · rw [u2_o (by decide), u2_o (by decide), u2_s]; rfl
    · rw [u2_o (by decide), u2_s]; rfl
    · rw [u2_s]; rfl
theorem CTx.put {k : Nat} {L : List Pt} {a m : Nat} {J J' : MJ} (hL : L.length ≤ 40) (h : CTx k L a (a + m) J) (hm : a + m < L.length) (hy : ∀ c y, y ≠ 40 * a + (a + m) → J' c y = J c y) (he : ent k (seg L a (m + 1)) (40 * a + (a + m)) J') : CTx k L a (a + m + 1) J' := by
  intro a' m' h1 h2
  by_cases q : a' = a ∧ m' = m
  · obtain ⟨rfl, rfl⟩ := q; exact he
  · have := h a' m' h1 (by omega)
    have hne : 40 * a' + (a' + m') ≠ 40 * a + (a + m) := by
      intro e
      have : a' = a := by omega
      omega
    unfold ent at this ⊢
    rw [hy _ _ hne, hy _ _ hne, hy _ _ hne]; exact this
theorem CTx.nxt {k : Nat} {L : List Pt} {a : Nat} (h : CTx k L a L.length J) : CTx k L (a + 1) (a + 1) J := fun a' m' h1 h2 => h a' m' h1 (by omega)
theorem mn_loop {l : List Pt} (hv : okV l) (hl : l.length ≤ 40) {x1 x15 : Int32} (k : Nat) (hk : k = 2) (hq : Go G (fr G m_RM_costsBySums (d + 2) P) 186 [some (.ref 67), some (.int x1), some (.int 1), some (.long (lI l.length)), none, some (.long (lI (sV l))), none, some (.long (lI (sQ l))), none, some (.long (lI (sD l))), none, some (.long (lI (sE l))), none, some (.long (lI (sB l))), none, some (.int x15), none, none, none, none, some (.long (lI (slp l))), none, none, none, none, none] [] I J) : ∀ (m i : Nat), i + m = 40 → Go G (fr G m_RM_costsBySums (d + 2) P) 129 [some (.ref 67), some (.int x1), some (.int 1), some (.long (lI l.length)), none, some (.long (lI (sV l))), none, some (.long (lI (sQ l))), none, some (.long (lI (sD l))), none, some (.long (lI (sE l))), none, some (.long (lI (sB l))), none, some (.int x15), none, none, none, none, some (.long (lI (mnA (awy l) i))), none, some (.long (lI (-19 + i))), none, none, none] [] I J := by
  have hrng : ∀ i, i ≤ 40 → -9223372036854775808 ≤ mnA (awy l) i ∧ mnA (awy l) i < 9223372036854775808 := by
    intro i hi
    obtain ⟨⟨g, a, b, c⟩, -⟩ := mnA_spec (awy l) i
    rw [← c]
    have := awy_nn l g
    have := awy_b hv hl a (by omega)
    omega
  have h21 : (21 : Int64) = lI 21 := rfl
  intro m
  induction m with
  | zero =>
    intro i hi
    obtain rfl : i = 40 := by omega
    refine w_RM_costsBySums_129 (fun _ => hq) (fun c => absurd (show (21 : Int64) ≤ lI (-19 + ((40 : Nat) : Int)) by decide) c) (fun c => absurd (show (21 : Int64) ≤ lI (-19 + ((40 : Nat) : Int)) by decide) c) (fun c => absurd (show (21 : Int64) ≤ lI (-19 + ((40 : Nat) : Int)) by decide) c)
  | succ m ih =>
    intro i hi
    have hc : ¬ (21 : Int64) ≤ lI (-19 + (i : Int)) := by rw [h21, lI_le (by omega) (by omega)]; omega
    have ha : f_RM_away (lI l.length) (lI (sV l)) (lI (sQ l)) (lI (sD l)) (lI (sE l)) (lI (sB l)) (lI (-19 + (i : Int))) = lI (awy l (-19 + i)) := by
      unfold f_RM_away
      rw [show (2 : Int64) = lI 2 from rfl, lI_mul, lI_mul, lI_sub, lI_mul, lI_mul, lI_add, lI_mul, lI_mul, lI_sub, lI_mul, lI_sub]
      rfl
    have hx : lI (-19 + (i : Int)) + 1 = lI (-19 + ((i + 1 : Nat) : Int)) := by rw [show (1 : Int64) = lI 1 from rfl, lI_add]; congr 1; omega
    have hu : mnA (awy l) (i + 1) = if awy l (-19 + i) < mnA (awy l) i then awy l (-19 + i) else mnA (awy l) i := rfl
    have b1 := awy_nn l (-19 + i)
    have b2 := awy_b hv hl (g := -19 + i) (by omega) (by omega)
    have hcmp : (lI (mnA (awy l) i) ≤ lI (awy l (-19 + i))) ↔ mnA (awy l) i ≤ awy l (-19 + i) := lI_le (hrng i (by omega)) (by omega)
    refine w_RM_costsBySums_129 (fun c => absurd c hc) (fun _ c => absurd c (by decide)) (fun _ _ c => w_RM_costsBySums_175 ?_) (fun _ _ c => w_RM_costsBySums_175 ?_)
    · rw [ha, hcmp] at c
      rw [if_neg (by omega)] at hu
      rw [hx, ← hu]; exact ih (i + 1) (by omega)
    · rw [ha, hcmp] at c
      rw [if_pos (by omega)] at hu
      rw [hx, ha, ← hu]; exact ih (i + 1) (by omega)
theorem bys_loop {k : Nat} (hk : k = 0 ∨ k = 2) {L : List Pt} {a : Nat} {I0 : MI} {J0 : MJ} (hok : okP L) (hQ : QL L I) (ha : a ≤ L.length) (hq : ∀ J', FC I0 J0 I J' → CTx k L a L.length J' → P none I J') : ∀ (r m : Nat) (J : MJ), a + m + r = L.length → FC I0 J0 I J → CTx k L a (a + m) J → Go G (fr G m_RM_costsBySums (d + 2) P) 20 [some (.ref 67), some (.int (nI a)), some (.int (if k = 2 then 1 else 0)), some (.long (lI m)), none, some (.long (lI (sV (seg L a m)))), none, some (.long (lI (sQ (seg L a m)))), none, some (.long (lI (sD (seg L a m)))), none, some (.long (lI (sE (seg L a m)))), none, some (.long (lI (sB (seg L a m)))), none, some (.int (nI (a + m))), none, none, none, none, none, none, none, none, none, none] [] I J := by
  have hl := hok.1
  intro r
  induction r with
  | zero =>
    intro m J hr hF hT
    have hle : I 67 7 ≤ nI (a + m) := by rw [hQ.1]; exact nI_le (by omega) (by omega)
    rw [show a + m = L.length by omega] at hT
    exact w_RM_costsBySums_20 (fun _ => hq J hF hT) (fun c => absurd hle c) (fun c => absurd hle c) (fun c => absurd hle c)
  | succ r ih =>
    intro m J hr hF hT
    have hc : ¬ I 67 7 ≤ nI (a + m) := by rw [hQ.1]; exact nI_ge (by omega) (by omega)
    have hm : a + m < L.length := by omega
    have ex : (nI (a + m)).toNatClampNeg = a + m := nI_clamp (by omega)
    obtain ⟨e3, e4⟩ := hQ.2 (a + m) hm
    have hmem : L.getD (a + m) (0, 0) ∈ L := by rw [getD_lt hm]; exact List.getElem_mem hm
    have hpv := hok.2.1 _ hmem
    have hseg := seg_ext hm
    have hlen : (seg L a (m + 1)).length = m + 1 := seg_len (by omega)
    have hov := seg_okV (a := a) (m := m + 1) hok
    have s3 : (I 73 (a + m)).toInt64 = lI (L.getD (a + m) (0, 0)).2.toInt := by rw [e3, lI_32]
    have s4 : (I 74 (a + m)).toInt64 = lI ((L.getD (a + m) (0, 0)).1 : Int) := by rw [e4, nI_lI (by omega)]
    have n1 : lI (m : Int) + 1 = lI (((seg L a (m + 1)).length : Nat) : Int) := by rw [hlen, show (1 : Int64) = lI 1 from rfl, lI_add]; rfl
    have nV : lI (sV (seg L a m)) + (I 73 (a + m)).toInt64 = lI (sV (seg L a (m + 1))) := by rw [s3, lI_add, hseg]; unfold sV; rw [sm_app, sm_1]
    have nQ : lI (sQ (seg L a m)) + (I 73 (a + m)).toInt64 * (I 73 (a + m)).toInt64 = lI (sQ (seg L a (m + 1))) := by rw [s3, lI_mul, lI_add, hseg]; unfold sQ; rw [sm_app, sm_1]
    have nD : lI (sD (seg L a m)) + (I 74 (a + m)).toInt64 = lI (sD (seg L a (m + 1))) := by rw [s4, lI_add, hseg]; unfold sD; rw [sm_app, sm_1]
    have nE : lI (sE (seg L a m)) + (I 74 (a + m)).toInt64 * (I 74 (a + m)).toInt64 = lI (sE (seg L a (m + 1))) := by rw [s4, lI_mul, lI_add, hseg]; unfold sE; rw [sm_app, sm_1]
    have nB : lI (sB (seg L a m)) + (I 73 (a + m)).toInt64 * (I 74 (a + m)).toInt64 = lI (sB (seg L a (m + 1))) := by rw [s3, s4, lI_mul, lI_add, hseg]; unfold sB; rw [sm_app, sm_1]
    have eidx : 40 * nI a + nI (a + m) = nI (40 * a + (a + m)) := by
      rw [show (40 : Int32) = nI 40 from rfl, show nI 40 * nI a = nI (40 * a) from (Int32.ofNat_mul 40 a).symm, nI_add]
    have fin : ∀ z : Int, z = numK k (seg L a (m + 1)) → Go G (fr G m_RM_costsBySums (d + 2) P) 186 [some (.ref 67), some (.int (nI a)), some (.int (if k = 2 then 1 else 0)), some (.long (lI (seg L a (m + 1)).length)), none, some (.long (lI (sV (seg L a (m + 1))))), none, some (.long (lI (sQ (seg L a (m + 1))))), none, some (.long (lI (sD (seg L a (m + 1))))), none, some (.long (lI (sE (seg L a (m + 1))))), none, some (.long (lI (sB (seg L a (m + 1))))), none, some (.int (nI (a + m))), none, none, none, none, some (.long (lI z)), none, none, none, none, none] [] I J := by
      intro z hz
      refine w_RM_costsBySums_186 ?_
      rw [eidx, hz, ← nK_eq]
      have hb := nK_b (k := k) hov (by omega)
      refine md_keeps (by omega) (by omega) (by omega) (by omega) (fun J' g1 g2 g3 g4 g5 => w_RM_costsBySums_200 ?_)
      rw [nI_1, hlen]
      have hden : denK k (seg L a (m + 1)) = m + 1 := by rcases hk with rfl | rfl <;> exact hlen
      exact ih (m + 1) J' (by omega) (hF.tr ⟨fun _ _ => rfl, g1⟩) (CTx.put (by omega) hT hm g2 ⟨by rw [g3, hden, hlen], by rw [g4, hden, hlen], by rw [g5, hden, hlen]⟩)
    refine w_RM_costsBySums_20 (fun c => absurd c hc) (fun _ => vp_in_nI (by omega) (by omega)) (fun _ c => ?_) (fun _ c => ?_)
    · rw [ex, n1, nV, nQ, nD, nE, nB]
      refine w_RM_costsBySums_119 ?_
      have hk0 : k = 0 := by rcases hk with h | h; (· exact h); (· subst h; exact absurd c (by decide))
      subst hk0
      have ha0 : f_RM_away (lI (seg L a (m + 1)).length) (lI (sV (seg L a (m + 1)))) (lI (sQ (seg L a (m + 1)))) (lI (sD (seg L a (m + 1)))) (lI (sE (seg L a (m + 1)))) (lI (sB (seg L a (m + 1)))) 0 = lI (lvl (seg L a (m + 1))) := by
        unfold f_RM_away
        rw [show (2 : Int64) = lI 2 from rfl, show (0 : Int64) = lI 0 from rfl, lI_mul, lI_mul, lI_sub, lI_mul, lI_mul, lI_add, lI_mul, lI_mul, lI_sub, lI_mul, lI_sub, lvl_awy]
        rfl
      rw [ha0]
      have hlt : ¬ (21 : Int64) ≤ -19 := by decide
      exact w_RM_costsBySums_129 (fun c => absurd c hlt) (fun _ _ => fin _ rfl) (fun _ c => absurd rfl c) (fun _ c => absurd rfl c)
    · rw [ex, n1, nV, nQ, nD, nE, nB]
      refine w_RM_costsBySums_119 ?_
      have hk2 : k = 2 := by rcases hk with h | h; (· subst h; exact absurd rfl c); (· exact h)
      subst hk2
      have ha0 : f_RM_away (lI (seg L a (m + 1)).length) (lI (sV (seg L a (m + 1)))) (lI (sQ (seg L a (m + 1)))) (lI (sD (seg L a (m + 1)))) (lI (sE (seg L a (m + 1)))) (lI (sB (seg L a (m + 1)))) (-20) = lI (mnA (awy (seg L a (m + 1))) 0) := by
        unfold f_RM_away
        rw [show (2 : Int64) = lI 2 from rfl, show (-20 : Int64) = lI (-20) from rfl, lI_mul, lI_mul, lI_sub, lI_mul, lI_mul, lI_add, lI_mul, lI_mul, lI_sub, lI_mul, lI_sub]
        rfl
      rw [ha0]
      exact mn_loop hov (by omega) 2 rfl (fin _ rfl) 40 0 rfl
end
