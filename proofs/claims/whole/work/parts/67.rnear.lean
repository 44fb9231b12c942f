/-! ===== near: the reference ===== -/
theorem topV_vG (x : Nat) : topV x * vG x = x := by
  unfold topV
  rw [Nat.add_mul, Nat.mul_assoc, vB_vG, vA_vG]
  exact Nat.div_add_mod' x 5342931457063200
theorem tot_eq {x bo : Nat} (h : vB x ∣ bo) : topV x * (bo / vB x) * 5342931457063200 = x * bo := by
  obtain ⟨q, rfl⟩ := h
  rw [Nat.mul_div_cancel_left _ (vB_pos x)]
  have h1 := topV_vG x
  have h2 := vB_vG x
  calc topV x * q * 5342931457063200 = topV x * q * (vB x * vG x) := by rw [h2]
    _ = (topV x * vG x) * (vB x * q) := by ac_rfl
    _ = x * (vB x * q) := by rw [h1]
theorem topV_vB (x : Nat) : topV x * 5342931457063200 = x * vB x := by
  have := tot_eq (x := x) (bo := vB x) (Nat.dvd_refl _)
  rw [Nat.div_self (vB_pos x), Nat.mul_one] at this
  exact this
theorem near_iff {top bo s B p : Nat} (h : top * 5342931457063200 = s * bo) (hbo : 0 < bo) : (100 * top * vB B ≤ (100 + p) * topV B * bo) ↔ 100 * s ≤ (100 + p) * B := by
  have h1 := topV_vB B
  have hv := vB_pos B
  have e1 : 100 * top * vB B * 5342931457063200 = 100 * s * (bo * vB B) := by
    calc 100 * top * vB B * 5342931457063200 = 100 * (top * 5342931457063200) * vB B := by ac_rfl
      _ = 100 * (s * bo) * vB B := by rw [h]
      _ = 100 * s * (bo * vB B) := by ac_rfl
  have e2 : (100 + p) * topV B * bo * 5342931457063200 = (100 + p) * B * (bo * vB B) := by
    calc (100 + p) * topV B * bo * 5342931457063200 = (100 + p) * (topV B * 5342931457063200) * bo := by ac_rfl
      _ = (100 + p) * (B * vB B) * bo := by rw [h1]
      _ = (100 + p) * B * (bo * vB B) := by ac_rfl
  have hpos : 0 < bo * vB B := Nat.mul_pos hbo hv
  constructor
  · intro q
    have := Nat.mul_le_mul_right 5342931457063200 q
    rw [e1, e2] at this
    exact Nat.le_of_mul_le_mul_right this hpos
  · intro q
    have := Nat.mul_le_mul_right (bo * vB B) q
    rw [← e1, ← e2] at this
    exact Nat.le_of_mul_le_mul_right this (by decide)
theorem lcm_l {u v : Nat} (hu : 0 < u) (hv : 0 < v) : u ∣ u / Nat.gcd u v * v ∧ v ∣ u / Nat.gcd u v * v ∧ 0 < u / Nat.gcd u v * v ∧ u / Nat.gcd u v * v ≤ u * v := by
  have hg : 0 < Nat.gcd u v := Nat.gcd_pos_of_pos_left _ hu
  refine ⟨?_, Nat.dvd_mul_left _ _, Nat.mul_pos (Nat.div_pos (Nat.le_of_dvd hu (Nat.gcd_dvd_left _ _)) hg) hv, Nat.mul_le_mul_right _ (Nat.div_le_self _ _)⟩
  obtain ⟨q, hq⟩ := Nat.gcd_dvd_right u v
  refine ⟨q, ?_⟩
  have h1 : u / Nat.gcd u v * Nat.gcd u v = u := Nat.div_mul_cancel (Nat.gcd_dvd_left _ _)
  calc u / Nat.gcd u v * v = u / Nat.gcd u v * (Nat.gcd u v * q) := by rw [← hq]
    _ = u / Nat.gcd u v * Nat.gcd u v * q := by rw [Nat.mul_assoc]
    _ = u * q := by rw [h1]
def eC (x i : Nat) (J : MJ) : Prop := J 76 i = lI ((vW x : Nat) : Int) ∧ J 77 i = lI ((vA x : Nat) : Int) ∧ J 78 i = lI ((vB x : Nat) : Int)
section
variable {G : GC} {d : Nat} {P : PT} {I : MI} {J : MJ}
theorem md_total {x i bo : Nat} (hi : i < 1600) (he : eC x i J) (hb : vB x ≤ 40) (hbo : bo < 1000000) (hq : P (some (.long (lI ((topV x * (bo / vB x) : Nat) : Int)))) I J) : Ct G d m_RM_total [.ref 67, .int (nI i), .long (lI (bo : Int))] P I J := by
  have ei : (nI i).toNatClampNeg = i := nI_clamp (by omega)
  have hv := vB_pos x
  refine Ct.ofGo [some (.ref 67), some (.int (nI i)), some (.long (lI (bo : Int))), none] (by decide +kernel) rfl (Nat.le_of_ble_eq_true rfl) (w_RM_total_0 (vp_in_nI hi (by omega)) (by rw [ei, he.2.2]; exact fun c => by have := (ln_0 (by omega)).mp c; omega) ?_)
  rw [ei, he.1, he.2.1, he.2.2, ln_div (by omega) (by omega) hv, lI_mul, lI_add, lI_mul]
  exact hq
theorem md_isNear {c : CC} {n K p top bo : Nat} {t : Nat × Nat} (hM : BM c n K J) (hK6 : K ≤ 6) (ht : Dp c n K 0 = some t) (hp : p ≤ 1000) (htop : top ≤ 7680000000000) (hbo : bo ≤ 64000) (hvB : vB t.1 ≤ 2370) (htv : topV t.1 ≤ 94800000000) (hq : P (some (.int (if 100 * top * vB t.1 ≤ (100 + p) * topV t.1 * bo then 1 else 0))) I J) : Ct G (d + 1) m_RM_isNear [.ref 67, .long (lI (top : Int)), .long (lI (bo : Int)), .int (nI K), .int (nI p)] P I J := by
  have h := hM K 0 (Nat.le_refl _) (Nat.zero_le _)
  rw [ht] at h
  have h3 := h.2.2
  rw [Nat.add_zero] at h3
  have e41 : 41 * nI K = nI (41 * K) := (Int32.ofNat_mul 41 K).symm
  have ex : (nI (41 * K)).toNatClampNeg = 41 * K := nI_clamp (by omega)
  have eb : bestT (some t) 0 = lI ((topV t.1 : Nat) : Int) := by unfold bestT; exact if_pos rfl
  have b1 : 100 * top * vB t.1 ≤ 100 * 7680000000000 * 2370 := Nat.mul_le_mul (Nat.mul_le_mul_left _ htop) hvB
  have b2 : (100 + p) * topV t.1 * bo ≤ 1100 * 94800000000 * 64000 := Nat.mul_le_mul (Nat.mul_le_mul (by omega) htv) hbo
  have e1 : (100 : Int64) + Int32.toInt64 (nI p) = lI ((100 + p : Nat) : Int) := by rw [nI_lI (by omega), show (100 : Int64) = lI 100 from rfl, lI_add]; rfl
  have eL : (100 + Int32.toInt64 (nI p)) * lI ((topV t.1 : Nat) : Int) * lI (bo : Int) = lI (((100 + p) * topV t.1 * bo : Nat) : Int) := by rw [e1, lI_mul, lI_mul]; rfl
  have eR : (100 : Int64) * lI (top : Int) * lI ((vB t.1 : Nat) : Int) = lI ((100 * top * vB t.1 : Nat) : Int) := by rw [show (100 : Int64) = lI 100 from rfl, lI_mul, lI_mul]; rfl
  refine Ct.ofGo [some (.ref 67), some (.long (lI (top : Int))), none, some (.long (lI (bo : Int))), none, some (.int (nI K)), some (.int (nI p)), none, none] (by decide +kernel) rfl (Nat.le_of_ble_eq_true rfl) (w_RM_isNear_0 (md_bestTold (w := 0) hM hK6 ht ?_))
  rw [eb]
  have hcm : (lI (((100 + p) * topV t.1 * bo : Nat) : Int) < lI ((100 * top * vB t.1 : Nat) : Int)) ↔ ¬ 100 * top * vB t.1 ≤ (100 + p) * topV t.1 * bo := by
    generalize (100 + p) * topV t.1 * bo = X at *
    generalize 100 * top * vB t.1 = Y at *
    rw [lI_lt (by omega) (by omega)]; omega
  refine w_RM_isNear_7 (by rw [e41]; exact vp_in_nI (by omega) (by omega)) (fun c => ?_) (fun c => ?_)
  · rw [e41, ex, h3, eL, eR] at c
    rw [if_neg (hcm.mp c)] at hq; exact hq
  · rw [e41, ex, h3, eL, eR] at c
    rw [if_pos (Decidable.not_not.mp (fun h => c (hcm.mpr h)))] at hq; exact hq
/-- one more pair, or three, of stretches -/
theorem rn_step {c : CC} {n K p ls a b acc x y : Nat} {t : Nat × Nat} {y2 y1 : Int32} (hc : okC c n) (hn : n ≤ 40) (hK : K = 2 ∨ K = 3) (hM : BM c n K J) (hC : CTc c n J) (ht : Dp c n K 0 = some t) (hp : p ≤ 1000) (h7 : I 67 7 = nI n) (ha : 1 ≤ a) (hab : a < b) (hbn : b ≤ n) (hx : c 0 (a - 1) = some x) (hy : c a (b - 1) = some y) (hKb : K = 3 → b < n) (hno : ¬ (y1 - y2) < nI b) (s : Nat) (hs : (K = 2 → s = x + y) ∧ (K = 3 → ∀ z, c b (n - 1) = some z → s = x + y + z) ∧ (K = 3 → ∃ z, c b (n - 1) = some z)) (hq : Go G (fr G m_RM_near (d + 5) P) 107 [some (.ref 67), none, none, some (.int (nI K)), some (.int (nI p)), some (.int (nI ls)), some (.int (nI (acc + (if 100 * s ≤ (100 + p) * t.1 then 1 else 0)))), some (.int (nI a)), some (.int (nI (a - 1))), some (.int (nI (b + 1))), none, none, none, none, none, none, none, none] [] I J) : Go G (fr G m_RM_near (d + 5) P) 124 [some (.ref 67), none, none, some (.int (nI K)), some (.int (nI p)), some (.int (nI ls)), some (.int (nI acc)), some (.int (nI a)), some (.int (nI (a - 1))), some (.int (nI b)), none, none, none, none, none, none, none, none] [.int y2, .int y1, .int (nI b)] I J := by
  have ea : (nI (a - 1)).toNatClampNeg = a - 1 := nI_clamp (by omega)
  have e2 : 40 * nI a + nI b - 1 = nI (40 * a + (b - 1)) := by rw [i40, show 40 * a + b = 40 * a + (b - 1) + 1 by omega]; exact nI_pred _
  have e2c : (nI (40 * a + (b - 1))).toNatClampNeg = 40 * a + (b - 1) := nI_clamp (by omega)
  have hex : eC x (a - 1) J := by
    have := hC 0 (a - 1) x (by omega) (by omega) hx
    rw [Nat.mul_zero, Nat.zero_add] at this; exact this
  have hey : eC y (40 * a + (b - 1)) J := hC a (b - 1) y (by omega) (by omega) hy
  have bx := (c_bd hc hn (by omega) (by omega) hx).1
  have by' := (c_bd hc hn (by omega) (by omega) hy).1
  have cx := (hc 0 (a - 1) x (by omega) (by omega) hx).1
  have cy := (hc a (b - 1) y (by omega) (by omega) hy).1
  have hxp := vB_pos x
  have hyp := vB_pos y
  have hxb : x ≤ 40000000 * 5342931457063200 := Nat.le_trans cx (Nat.le_trans (Nat.mul_le_mul_right _ (show a - 1 - 0 + 1 ≤ 40 by omega)) (by decide))
  have hyb : y ≤ 40000000 * 5342931457063200 := Nat.le_trans cy (Nat.le_trans (Nat.mul_le_mul_right _ (show b - 1 - a + 1 ≤ 40 by omega)) (by decide))
  obtain ⟨l1, l2, l3, l4⟩ := lcm_l hxp hyp
  have hbo16 : vB x / Nat.gcd (vB x) (vB y) * vB y ≤ 1600 := Nat.le_trans l4 (Nat.mul_le_mul bx by')
  obtain ⟨-, bb, bdb, bpb⟩ := Dp_ok hc K 0 t (Nat.zero_le _) ht
  have hvBt : vB t.1 ≤ 2370 := by
    have h1 := bdb.vB
    have hn2 : (n - 0) * (n - 0) ≤ 40 * 40 := Nat.mul_le_mul (by omega) (by omega)
    have hn3 : (n - 0) * (n - 0) * (n - 0) ≤ 40 * 40 * 40 := Nat.mul_le_mul hn2 (by omega)
    rcases hK with h | h
    · have := bpb.2.2.2.1 h; omega
    · have := bpb.2.2.2.2 h; omega
  have htw : vW t.1 ≤ 40000000 := (D_bd hc hn (Nat.zero_le _) ht).2
  have htv : topV t.1 ≤ 94800000000 := by
    unfold topV
    have h1 : vA t.1 < vB t.1 := vA_lt t.1
    have h2 : vW t.1 * vB t.1 ≤ 40000000 * 2369 ∨ vB t.1 = 2370 := by
      rcases Nat.lt_or_ge (vB t.1) 2370 with q | q
      · exact Or.inl (Nat.mul_le_mul htw (by omega))
      · exact Or.inr (by omega)
    rcases h2 with h2 | h2
    · omega
    · exfalso
      have hd := vB_dvd t.1
      rw [h2] at hd
      revert hd; decide
  refine w_RM_near_124 (fun c => absurd c hno) (fun _ => vp_in_nI (by omega) (by omega)) (fun _ => by rw [e2]; exact vp_in_nI (by omega) (by omega)) (fun _ => ?_)
  rw [e2, ea, e2c, hex.2.2, hey.2.2]
  refine md_divisor (by omega) (by omega) ?_
  have hg : 0 < Nat.gcd (vB x) (vB y) := Nat.gcd_pos_of_pos_left _ hxp
  have hgl : Nat.gcd (vB x) (vB y) ≤ 40 := Nat.le_trans (Nat.le_of_dvd hxp (Nat.gcd_dvd_left _ _)) bx
  refine w_RM_near_164 (fun c => by have := (ln_0 (by omega)).mp c; omega) (vp_in_nI (by omega) (by omega)) ?_
  rw [e2c, hey.2.2, ln_div (by omega) (by omega) hg, lI_mul]
  rw [show ((vB x / Nat.gcd (vB x) (vB y) : Nat) : Int) * ((vB y : Nat) : Int) = ((vB x / Nat.gcd (vB x) (vB y) * vB y : Nat) : Int) from (Int.natCast_mul _ _).symm]
  generalize hbo : vB x / Nat.gcd (vB x) (vB y) * vB y = bo at *
  have tx := tot_eq l1
  have ty := tot_eq l2
  refine md_total (by omega) hex bx (by omega) (w_RM_near_183 (md_total (by omega) hey by' (by omega) ?_))
  have hsum : (topV x * (bo / vB x) + topV y * (bo / vB y)) * 5342931457063200 = (x + y) * bo := by rw [Nat.add_mul, tx, ty, Nat.add_mul]
  have ht1 : topV x * (bo / vB x) + topV y * (bo / vB y) ≤ 80000000 * 1600 := by
    have h1 : (x + y) * bo ≤ (80000000 * 5342931457063200) * 1600 := Nat.mul_le_mul (by omega) hbo16
    rw [← hsum] at h1
    have h2 : (80000000 * 5342931457063200) * 1600 = (80000000 * 1600) * 5342931457063200 := by decide
    rw [h2] at h1
    exact Nat.le_of_mul_le_mul_right h1 (by decide)
  have hfin : ∀ (top bo' : Nat), top * 5342931457063200 = s * bo' → 0 < bo' → bo' ≤ 64000 → top ≤ 7680000000000 → Go G (fr G m_RM_near (d + 5) P) 261 [some (.ref 67), none, none, some (.int (nI K)), some (.int (nI p)), some (.int (nI ls)), some (.int (nI acc)), some (.int (nI a)), some (.int (nI (a - 1))), some (.int (nI b)), none, some (.long (lI (bo' : Int))), none, some (.long (lI (top : Int))), none, none, none, none] [] I J := fun top bo' e1 e2 e3 e4 => by
    refine w_RM_near_261 (md_isNear hM (by omega) ht hp e4 e3 hvBt htv ?_)
    have hi := near_iff (B := t.1) (p := p) e1 e2
    by_cases q : 100 * s ≤ (100 + p) * t.1
    · rw [if_pos (hi.mpr q)]
      rw [if_pos q] at hq
      refine w_RM_near_274 (fun c => absurd c (by decide)) (fun _ => w_RM_near_282 ?_)
      rw [nI_1, nI_1]; exact hq
    · rw [if_neg (fun h => q (hi.mp h))]
      rw [if_neg q] at hq
      refine w_RM_near_274 (fun _ => w_RM_near_282 ?_) (fun c => absurd rfl c)
      rw [nI_1, Int32.add_zero]; exact hq
  rcases hK with hK2 | hK3
  · have hne : ¬ nI K = 3 := by rw [hK2]; decide
    refine w_RM_near_191 (fun _ => ?_) (fun c => absurd c hne) (fun c => absurd c hne)
    rw [lI_add, show ((topV x * (bo / vB x) : Nat) : Int) + ((topV y * (bo / vB y) : Nat) : Int) = ((topV x * (bo / vB x) + topV y * (bo / vB y) : Nat) : Int) from rfl]
    exact hfin _ bo (by rw [hs.1 hK2]; exact hsum) l3 (by omega) (by omega)
  · have heq : nI K = 3 := by rw [hK3]; rfl
    have hbn' := hKb hK3
    obtain ⟨z, hz⟩ := hs.2.2 hK3
    have hsz := hs.2.1 hK3 z hz
    have e3 : 40 * nI b + I 67 7 - 1 = nI (40 * b + (n - 1)) := by rw [h7, i40, show 40 * b + n = 40 * b + (n - 1) + 1 by omega]; exact nI_pred _
    have e3c : (nI (40 * b + (n - 1))).toNatClampNeg = 40 * b + (n - 1) := nI_clamp (by omega)
    have hez : eC z (40 * b + (n - 1)) J := hC b (n - 1) z (by omega) (by omega) hz
    have bz := (c_bd hc hn (by omega) (by omega) hz).1
    have cz := (hc b (n - 1) z (by omega) (by omega) hz).1
    have hzb : z ≤ 40000000 * 5342931457063200 := Nat.le_trans cz (Nat.le_trans (Nat.mul_le_mul_right _ (show n - 1 - b + 1 ≤ 40 by omega)) (by decide))
    have hzp := vB_pos z
    obtain ⟨z1, z2, z3, z4⟩ := lcm_l hzp l3
    have hg2 : 0 < Nat.gcd (vB z) bo := Nat.gcd_pos_of_pos_left _ hzp
    have hgl2 : Nat.gcd (vB z) bo ≤ 40 := Nat.le_trans (Nat.le_of_dvd hzp (Nat.gcd_dvd_left _ _)) bz
    refine w_RM_near_191 (fun c => absurd heq c) (fun _ => by rw [e3]; exact vp_in_nI (by omega) (by omega)) (fun _ => ?_)
    rw [e3, e3c, hez.2.2, lI_add, show ((topV x * (bo / vB x) : Nat) : Int) + ((topV y * (bo / vB y) : Nat) : Int) = ((topV x * (bo / vB x) + topV y * (bo / vB y) : Nat) : Int) from rfl]
    generalize topV x * (bo / vB x) + topV y * (bo / vB y) = top at *
    refine md_divisor (by omega) (by omega) (w_RM_near_232 (fun c => by have := (ln_0 (by omega)).mp c; omega) ?_)
    rw [ln_div (by omega) (by omega) hg2, lI_mul, lI_mul]
    rw [show ((bo : Nat) : Int) * ((vB z / Nat.gcd (vB z) bo : Nat) : Int) = ((bo * (vB z / Nat.gcd (vB z) bo) : Nat) : Int) from (Int.natCast_mul _ _).symm]
    rw [show ((top : Nat) : Int) * ((vB z / Nat.gcd (vB z) bo : Nat) : Int) = ((top * (vB z / Nat.gcd (vB z) bo) : Nat) : Int) from (Int.natCast_mul _ _).symm]
    rw [Nat.mul_comm] at z1 z2 z3 z4
    have hbo2 : bo * (vB z / Nat.gcd (vB z) bo) ≤ 64000 := Nat.le_trans z4 (by have := Nat.mul_le_mul bz hbo16; omega)
    have tz := tot_eq z1
    refine md_total (by omega) hez bz (by omega) (w_RM_near_251 ?_)
    rw [lI_mul, lI_add]
    rw [show ((bo : Nat) : Int) * ((vB z / Nat.gcd (vB z) bo : Nat) : Int) = ((bo * (vB z / Nat.gcd (vB z) bo) : Nat) : Int) from (Int.natCast_mul _ _).symm]
    generalize hmo : vB z / Nat.gcd (vB z) bo = mo at *
    rw [show ((top * mo : Nat) : Int) + ((topV z * (bo * mo / vB z) : Nat) : Int) = ((top * mo + topV z * (bo * mo / vB z) : Nat) : Int) from rfl]
    have hsum2 : (top * mo + topV z * (bo * mo / vB z)) * 5342931457063200 = s * (bo * mo) := by
      have e : top * mo * 5342931457063200 = (x + y) * (bo * mo) := by
        calc top * mo * 5342931457063200 = top * 5342931457063200 * mo := by ac_rfl
          _ = (x + y) * bo * mo := by rw [hsum]
          _ = (x + y) * (bo * mo) := by rw [Nat.mul_assoc]
      rw [Nat.add_mul, tz, hsz, Nat.add_mul (x + y) z, e]
    refine hfin _ _ hsum2 z3 hbo2 ?_
    have h1 : s * (bo * mo) ≤ (120000000 * 5342931457063200) * 64000 := Nat.mul_le_mul (by omega) hbo2
    rw [← hsum2] at h1
    have h2 : (120000000 * 5342931457063200) * 64000 = 7680000000000 * 5342931457063200 := by decide
    rw [h2] at h1
    exact Nat.le_of_mul_le_mul_right h1 (by decide)
end
