/-! ===== doubt on both sides ===== -/
theorem sh31 : ∀ i, i < 32 → (((nI i) &&& 31).toBitVec.smod 32).toNat = i := by decide +kernel
theorem one_shl : ∀ n, n < 17 → (1 : Int32) <<< ((nI n) &&& 31) = nI (2 ^ n) := by decide +kernel
theorem bitI {s i : Nat} (hs : s < 2 ^ 31) (hi : i < 32) : ((nI s) >>> ((nI i) &&& 31)) &&& 1 = nI (bit s i) := by
  rw [pk_shrN hs _ i (sh31 i hi)]
  have h2 : s / 2 ^ i < 2 ^ 32 := Nat.lt_of_le_of_lt (Nat.div_le_self _ _) (by omega)
  rw [pk_andN h2 1 (by decide)]
  rfl
theorem bit_01 (s i : Nat) : bit s i = 0 ∨ bit s i = 1 := by unfold bit; omega
theorem pop_le (s : Nat) : ∀ i, pop s i ≤ i := by
  intro i
  induction i with
  | zero => exact Nat.le_refl _
  | succ i ih => show pop s i + bit s i ≤ _; rcases bit_01 s i with h | h <;> omega
theorem bsm_b {l : List Int} {s : Nat} (h : ∀ i, i < l.length → -1000 ≤ l.getD i 0 ∧ l.getD i 0 ≤ 1000) : ∀ i, i ≤ l.length → -(1000 * (i : Int)) ≤ bsm l s i ∧ bsm l s i ≤ 1000 * (i : Int) := by
  intro i
  induction i with
  | zero => intro _; show -(1000 * ((0 : Nat) : Int)) ≤ 0 ∧ 0 ≤ 1000 * ((0 : Nat) : Int); omega
  | succ i ih =>
    intro hi
    have h1 := ih (by omega)
    have h2 := h i (by omega)
    show _ ≤ bsm l s i + (if bit s i = 1 then l.getD i 0 else 0) ∧ bsm l s i + (if bit s i = 1 then l.getD i 0 else 0) ≤ _
    split <;> omega
section
variable {G : GC} {d : Nat} {P : PT} {I : MI} {J : MJ}
theorem ones_loop {s : Nat} (hs : s < 2 ^ 31) (hq : P (some (.int (nI (pop s 16)))) I J) : ∀ (r i : Nat), i + r = 16 → Go G (fr G m_RM_ones d P) 4 [some (.int (nI s)), some (.int (nI (pop s i))), some (.int (nI i))] [] I J := by
  intro r
  induction r with
  | zero =>
    intro i hi
    obtain rfl : i = 16 := by omega
    have hle : (16 : Int32) ≤ nI 16 := by decide
    exact w_RM_ones_4 (fun _ => hq) (fun c => absurd hle c)
  | succ r ih =>
    intro i hi
    have hc : ¬ (16 : Int32) ≤ nI i := nI_ge (a := i) (b := 16) (by omega) (by omega)
    refine w_RM_ones_4 (fun c => absurd c hc) (fun _ => ?_)
    rw [bitI hs (by omega), nI_add, nI_1]
    exact ih (i + 1) (by omega)
theorem md_ones {s : Nat} (hs : s < 2 ^ 31) (hq : P (some (.int (nI (pop s 16)))) I J) : Ct G d m_RM_ones [.int (nI s)] P I J :=
  Ct.ofGo [some (.int (nI s)), none, none] (by decide +kernel) rfl (Nat.le_of_ble_eq_true rfl) (w_RM_ones_0 (ones_loop hs hq 16 0 (by omega)))
theorem rdb1 {L : List Pt} {a n c : Nat} (hok : okP L) (hQ : QL L I) (han : a + n ≤ L.length) (hc : c ≤ n) (hq : Go G (fr G m_RM_doubt (d + 5) P) 101 [some (.ref 67), none, none, none, some (.int (nI a)), some (.int (nI c)), some (.int (nI n)), some (.long (lI (sV (seg L a n)))), none, some (.long (lI (sV (seg L a c)))), none, some (.int (nI n)), none, none, none, none, none, none, none, none, none] [] I J) : ∀ (r j : Nat), j + r = n → Go G (fr G m_RM_doubt (d + 5) P) 101 [some (.ref 67), none, none, none, some (.int (nI a)), some (.int (nI c)), some (.int (nI n)), some (.long (lI (sV (seg L a j)))), none, some (.long (lI (sV (seg L a (min j c))))), none, some (.int (nI j)), none, none, none, none, none, none, none, none, none] [] I J := by
  have hl := hok.1
  intro r
  induction r with
  | zero =>
    intro j hj
    obtain rfl : j = n := by omega
    rw [show min j c = c by omega]
    exact hq
  | succ r ih =>
    intro j hj
    have hlt : ¬ nI n ≤ nI j := nI_ge (by omega) (by omega)
    have ej : (nI a + nI j).toNatClampNeg = a + j := by rw [nI_add]; exact nI_clamp (by omega)
    have hnx := ih (j + 1) (by omega)
    rw [sV_ext (show a + j < L.length by omega)] at hnx
    refine w_RM_doubt_101 (fun c => absurd c hlt) (fun _ => by rw [nI_add]; exact vp_in_nI (by omega) (by omega)) (fun _ q => ?_) (fun _ q => ?_)
    · have q := (nI_leI (by omega) (by omega)).mp q
      rw [ej, (hQ.2 _ (show a + j < L.length by omega)).1, lI_32, lI_add]
      refine w_RM_doubt_148 ?_
      rw [nI_1, Int64.add_zero]
      rw [show min (j + 1) c = min j c by omega] at hnx
      exact hnx
    · have q : ¬ c ≤ j := fun h => q ((nI_leI (by omega) (by omega)).mpr h)
      rw [ej, (hQ.2 _ (show a + j < L.length by omega)).1, lI_32, lI_add]
      refine w_RM_doubt_148 ?_
      rw [nI_1, lI_add]
      rw [show min (j + 1) c = j + 1 by omega, sV_ext (show a + j < L.length by omega)] at hnx
      rw [show min j c = j by omega]
      exact hnx
theorem rdb3 {L : List Pt} {a n c s : Nat} {l13 l15 : Int64} (hok : okP L) (hQ : QL L I) (han : a + n ≤ L.length) (hc : c ≤ n) (hn : n ≤ 16) (hs : s < 2 ^ 16) (hq : Go G (fr G m_RM_doubt (d + 5) P) 184 [some (.ref 67), none, none, none, some (.int (nI a)), some (.int (nI c)), some (.int (nI n)), some (.long (lI (sV (seg L a n)))), none, none, none, some (.long (lI ((dbFar L a n c : Nat) : Int))), none, some (.long (l13 + 1)), none, some (.long (l15 + (if dbP L a n c (dbS L a n c + (n : Int) * bsm (vl L a n) s n) = true then 1 else 0))), none, some (.int (nI (s + 1))), none, none, none] [] I J) : ∀ (r p : Nat), p + r = n → Go G (fr G m_RM_doubt (d + 5) P) 209 [some (.ref 67), none, none, none, some (.int (nI a)), some (.int (nI c)), some (.int (nI n)), some (.long (lI (sV (seg L a n)))), none, none, none, some (.long (lI ((dbFar L a n c : Nat) : Int))), none, some (.long l13), none, some (.long l15), none, some (.int (nI s)), some (.long (lI (bsm (vl L a n) s p))), none, some (.int (nI p))] [] I J := by
  have hl := hok.1
  have b1 := sV_b hok a c
  have b2 := sV_b hok a n
  have m1 := mulb (a := (n : Int)) (b := sV (seg L a c)) (A := 16) (B := 40000) (by omega) (by omega)
  have m2 := mulb (a := (c : Int)) (b := sV (seg L a n)) (A := 16) (B := 40000) (by omega) (by omega)
  have hvl : (vl L a n).length = n := vl_len han
  have hb : ∀ p, p ≤ n → -16000 ≤ bsm (vl L a n) s p ∧ bsm (vl L a n) s p ≤ 16000 := fun p hp => by
    have := bsm_b (l := vl L a n) (s := s) (fun i hi => by rw [vl_get han (by omega)]; exact val_b hok (by omega)) p (by omega)
    omega
  intro r
  induction r with
  | zero =>
    intro p hp
    obtain rfl : p = n := by omega
    have hle : nI p ≤ nI p := nI_le (Nat.le_refl _) (by omega)
    have m3 := mulb (a := (p : Int)) (b := bsm (vl L a p) s p) (A := 16) (B := 16000) (by omega) (hb p (by omega))
    have hfb : dbFar L a p c ≤ 2000000 := by unfold dbFar; omega
    have e1 : f_RM_amount (Int32.toInt64 (nI p) * lI (bsm (vl L a p) s p) - lI (sV (seg L a p)) * Int32.toInt64 (nI c)) = lI ((dbS L a p c + (p : Int) * bsm (vl L a p) s p).natAbs : Int) := by
      rw [nI_lI (by omega), nI_lI (by omega), lI_mul, lI_mul, lI_sub, Int.mul_comm (sV (seg L a p)) (c : Int), amtJ (by omega) (by omega)]
      congr 2
      unfold dbS; omega
    have hds : dbS L a p c = -((c : Int) * sV (seg L a p)) := rfl
    have hcm : (f_RM_amount (Int32.toInt64 (nI p) * lI (bsm (vl L a p) s p) - lI (sV (seg L a p)) * Int32.toInt64 (nI c)) < lI ((dbFar L a p c : Nat) : Int)) ↔ ¬ dbP L a p c (dbS L a p c + (p : Int) * bsm (vl L a p) s p) = true := by
      rw [e1, lI_lt (by omega) (by omega)]
      unfold dbP
      rw [decide_eq_true_eq]; omega
    refine w_RM_doubt_209 (fun _ q => w_RM_doubt_288 (w_RM_doubt_291 ?_)) (fun _ q => w_RM_doubt_288 (w_RM_doubt_291 ?_)) (fun c => absurd hle c) (fun c => absurd hle c) (fun c => absurd hle c)
    · rw [if_neg (hcm.mp q)] at hq
      rw [nI_1]; exact hq
    · rw [if_pos (Decidable.not_not.mp (fun h => q (hcm.mpr h)))] at hq
      rw [nI_1]; exact hq
  | succ r ih =>
    intro p hp
    have hlt : ¬ nI n ≤ nI p := nI_ge (by omega) (by omega)
    have ep : (nI a + nI p).toNatClampNeg = a + p := by rw [nI_add]; exact nI_clamp (by omega)
    have hnx := ih (p + 1) (by omega)
    have e : bsm (vl L a n) s (p + 1) = bsm (vl L a n) s p + (if bit s p = 1 then (vl L a n).getD p 0 else 0) := rfl
    rw [e] at hnx
    have hbi : (((nI s) >>> ((nI p) &&& 31)) &&& 1 = 1) ↔ bit s p = 1 := by
      rw [bitI (by omega) (by omega)]
      have := bit_01 s p
      exact nI_eq (b := 1) (by omega) (by omega)
    refine w_RM_doubt_209 (fun c => absurd c hlt) (fun c => absurd c hlt) (fun _ q => w_RM_doubt_244 ?_) (fun _ _ => by rw [nI_add]; exact vp_in_nI (by omega) (by omega)) (fun _ q => w_RM_doubt_244 ?_)
    · rw [if_neg (fun h => q (hbi.mpr h)), Int.add_zero] at hnx
      rw [nI_1, Int64.add_zero]; exact hnx
    · rw [if_pos (hbi.mp q), vl_get han (by omega)] at hnx
      rw [ep, (hQ.2 _ (show a + p < L.length by omega)).1, lI_32, lI_add, nI_1]; exact hnx
theorem gs_s (F : Nat → Nat) (m : Nat) : gs F (m + 1) = gs F m + F m := rfl
theorem rdb2 {L : List Pt} {a n c : Nat} (hok : okP L) (hQ : QL L I) (han : a + n ≤ L.length) (hc : c ≤ n) (hn : n ≤ 16) (hq : P (some (.int (dbA L a n c))) I J) : ∀ (r s : Nat), s + r = 2 ^ n → Go G (fr G m_RM_doubt (d + 5) P) 184 [some (.ref 67), none, none, none, some (.int (nI a)), some (.int (nI c)), some (.int (nI n)), some (.long (lI (sV (seg L a n)))), none, none, none, some (.long (lI ((dbFar L a n c : Nat) : Int))), none, some (.long (lI ((gs (ind (fun _ => true) (n : Int) (vl L a n) c (dbS L a n c)) s : Nat) : Int))), none, some (.long (lI ((gs (ind (dbP L a n c) (n : Int) (vl L a n) c (dbS L a n c)) s : Nat) : Int))), none, some (.int (nI s)), none, none, none] [] I J := by
  have h16 : 2 ^ n ≤ 2 ^ 16 := Nat.pow_le_pow_right (by decide) hn
  have h65 : 2 ^ 16 = 65536 := by decide
  have hvl : (vl L a n).length = n := vl_len han
  have esh := one_shl n (by omega)
  intro r
  induction r with
  | zero =>
    intro s hs
    obtain rfl : s = 2 ^ n := by omega
    have hle : (1 : Int32) <<< ((nI n) &&& 31) ≤ nI (2 ^ n) := by rw [esh]; exact nI_le (Nat.le_refl _) (by omega)
    have e1 := gs_cw (fun _ => true) (n : Int) (vl L a n) c (dbS L a n c)
    have e2 := gs_cw (dbP L a n c) (n : Int) (vl L a n) c (dbS L a n c)
    rw [hvl] at e1 e2
    rw [e1, e2, cw_all, hvl]
    have hp := cho_pos n c hc
    have hb := cho_b n c
    refine w_RM_doubt_184 (fun _ q => by have := (ln_0 (by omega)).mp q; omega) (fun _ => ?_) (fun c => absurd hle c)
    exact hq
  | succ r ih =>
    intro s hs
    have hlt : ¬ (1 : Int32) <<< ((nI n) &&& 31) ≤ nI s := by rw [esh]; exact nI_ge (by omega) (by omega)
    refine w_RM_doubt_184 (fun c => absurd c hlt) (fun c => absurd c hlt) (fun _ => md_ones (by omega) ?_)
    have hnx := ih (s + 1) (by omega)
    rw [gs_s, gs_s] at hnx
    have hpn : pop s 16 = pop s n := by
      have := pop_hi (s := s) (n := n) (by omega) (16 - n)
      rw [show n + (16 - n) = 16 by omega] at this; exact this
    rw [hpn]
    have hpl := pop_le s n
    refine w_RM_doubt_198 (fun q => w_RM_doubt_291 ?_) (fun q => ?_)
    · have q : ¬ pop s n = c := fun h => q (by rw [h])
      have z1 : ind (fun _ => true) (n : Int) (vl L a n) c (dbS L a n c) s = 0 := by unfold ind; rw [hvl]; exact if_neg (fun h => q h.1)
      have z2 : ind (dbP L a n c) (n : Int) (vl L a n) c (dbS L a n c) s = 0 := by unfold ind; rw [hvl]; exact if_neg (fun h => q h.1)
      rw [z1, z2, Nat.add_zero, Nat.add_zero] at hnx
      rw [nI_1]; exact hnx
    · have q : pop s n = c := (nI_eq (by omega) (by omega)).mp q
      have z1 : ind (fun _ => true) (n : Int) (vl L a n) c (dbS L a n c) s = 1 := by unfold ind; rw [hvl]; exact if_pos ⟨q, rfl⟩
      rw [z1] at hnx
      have hgo := rdb3 (G := G) (d := d) (P := P) (J := J) (s := s) (l13 := lI ((gs (ind (fun _ => true) (n : Int) (vl L a n) c (dbS L a n c)) s : Nat) : Int)) (l15 := lI ((gs (ind (dbP L a n c) (n : Int) (vl L a n) c (dbS L a n c)) s : Nat) : Int)) hok hQ han hc hn (by omega) (by
        have e1 : lI ((gs (ind (fun _ => true) (n : Int) (vl L a n) c (dbS L a n c)) s : Nat) : Int) + 1 = lI ((gs (ind (fun _ => true) (n : Int) (vl L a n) c (dbS L a n c)) s + 1 : Nat) : Int) := lI_add _ 1
        have e2 : lI ((gs (ind (dbP L a n c) (n : Int) (vl L a n) c (dbS L a n c)) s : Nat) : Int) + (if dbP L a n c (dbS L a n c + (n : Int) * bsm (vl L a n) s n) = true then 1 else 0) = lI ((gs (ind (dbP L a n c) (n : Int) (vl L a n) c (dbS L a n c)) s + ind (dbP L a n c) (n : Int) (vl L a n) c (dbS L a n c) s : Nat) : Int) := by
          by_cases hp : dbP L a n c (dbS L a n c + (n : Int) * bsm (vl L a n) s n) = true
          · have z2 : ind (dbP L a n c) (n : Int) (vl L a n) c (dbS L a n c) s = 1 := by unfold ind; rw [hvl]; exact if_pos ⟨q, hp⟩
            rw [if_pos hp, z2]; exact lI_add _ 1
          · have z2 : ind (dbP L a n c) (n : Int) (vl L a n) c (dbS L a n c) s = 0 := by unfold ind; rw [hvl]; exact if_neg (fun h => hp h.2)
            rw [if_neg hp, z2, Int64.add_zero, Nat.add_zero]
        rw [e1, e2]; exact hnx) n 0 (by omega)
      exact hgo
theorem md_doubt {st : ST} {r K i : Int32} (hR : RM st I J) (hS : okS st) (hq : ∀ I' J', KM I J I' J' → P (some (.int (doubtA st r K i))) I' J') : Ct G (d + 5) m_RM_doubt [.ref 67, .int r, .int K, .int i] P I J := by
  have hb : (f_LB_isRow r = 0 ∨ f_LB_isWithin K 2 6 = 0 ∨ f_LB_isWithin i 1 (K - 1) = 0) → Go G (fr G m_RM_doubt (d + 5) P) 28 [none, none, none, none, none, none, none, none, none, none, none, none, none, none, none, none, none, none, none, none, none] [] I J := fun hb => by
    have := hq I J KM.rf
    unfold doubtA at this
    rw [if_pos hb] at this; exact w_RM_doubt_28 this
  refine Ct.ofGo [some (.ref 67), some (.int r), some (.int K), some (.int i), none, none, none, none, none, none, none, none, none, none, none, none, none, none, none, none, none] (by decide +kernel) rfl (Nat.le_of_ble_eq_true rfl) (w_RM_doubt_0 (fun c => hb (Or.inl c)) (fun _ c => hb (Or.inr (Or.inl c))) (fun c1 c2 c3 => ?_) (fun _ _ c => hb (Or.inr (Or.inr c))))
  have c1 : ¬ f_LB_isRow r = 0 := c1
  have c2 : ¬ f_LB_isWithin K 2 6 = 0 := c2
  have c3 : ¬ f_LB_isWithin i 1 (K - 1) = 0 := c3
  have hnb : ¬ (f_LB_isRow r = 0 ∨ f_LB_isWithin K 2 6 = 0 ∨ f_LB_isWithin i 1 (K - 1) = 0) := by
    rintro (h | h | h)
    · exact c1 h
    · exact c2 h
    · exact c3 h
  unfold doubtA at hq
  rw [if_neg hnb] at hq
  obtain ⟨r, hr, rfl⟩ := isRow1 c1
  obtain ⟨K, hK, hK6, rfl⟩ := isW26 c2
  obtain ⟨b1, b2⟩ := isW1.mp c3
  have z1 : (1 : Int32).toInt = 1 := rfl
  have z0 : (0 : Int32).toInt = 0 := rfl
  obtain ⟨i, hi, rfl⟩ := nI_of (x := i) (by rw [ti_lt]; rw [ti_le] at b1; omega)
  rw [show nI K - 1 = nI (K - 1) by rw [show K = K - 1 + 1 by omega]; exact nI_pred _, nI_leI hi (by omega)] at b2
  have b1 := (nI_leI (a := 1) (by omega) hi).mp b1
  rw [nI_clamp (show r < 2 ^ 31 by omega), nI_clamp (show K < 2 ^ 31 by omega), nI_clamp hi] at hq
  unfold doubtN at hq
  rw [hR.2.1]
  refine md_finds (k := 0) hR hS hr (by omega) (by omega) hK6 (fun I1 g1 _ g2 => ?_) (fun I1 J1 g1 _ g2 => ?_)
  · have g2 : (Dp (cR st r 0) (nR st r) K 0).isSome = false := g2
    have hfin := hq I1 J g1
    rw [if_neg (fun h => by rw [g2] at h; exact absurd h (by decide))] at hfin
    exact w_RM_doubt_42 (fun c => absurd rfl c) (fun c => absurd rfl c) (fun c => absurd rfl c) (fun c => absurd rfl c) (fun c => absurd rfl c) (fun _ => hfin)
  · have hd : (Dp (cR st r 0) (nR st r) K 0).isSome = true := g2.2.2.2.1
    have hfin := hq I1 J1 g1
    rw [if_pos hd] at hfin
    have e83 : ∀ j, j ≤ K → I1 83 j = nI (plc (cR st r 0) (nR st r) K j) := g2.2.2.2.2
    have u1 := plc_up hd (show i - 1 < K by omega)
    have u2' := plc_up hd (show i < K by omega)
    rw [show i - 1 + 1 = i by omega] at u1
    have hn := nR_le hS r
    have hle := (plc_ok hd (i + 1) (by omega)).2.1
    have em : nI i - 1 = nI (i - 1) := by rw [show i = i - 1 + 1 by omega]; exact nI_pred _
    have ei : (nI i).toNatClampNeg = i := nI_clamp hi
    have ei1 : (nI i - 1).toNatClampNeg = i - 1 := by rw [em]; exact nI_clamp (by omega)
    have ei2 : (nI i + 1).toNatClampNeg = i + 1 := by rw [nI_1]; exact nI_clamp (by omega)
    have eN : I1 83 (i + 1) - I1 83 (i - 1) = nI (plc (cR st r 0) (nR st r) K (i + 1) - plc (cR st r 0) (nR st r) K (i - 1)) := by rw [e83 _ (by omega), e83 _ (by omega), nI_sub (by omega)]
    have eC : I1 83 i - I1 83 (i - 1) = nI (plc (cR st r 0) (nR st r) K i - plc (cR st r 0) (nR st r) K (i - 1)) := by rw [e83 _ (by omega), e83 _ (by omega), nI_sub (by omega)]
    have hc16 : (I1 83 (i + 1) - I1 83 (i - 1) ≤ 16) ↔ plc (cR st r 0) (nR st r) K (i + 1) - plc (cR st r 0) (nR st r) K (i - 1) ≤ 16 := by rw [eN]; exact nI_leI (b := 16) (by omega) (by omega)
    refine w_RM_doubt_42 (fun _ => by rw [em]; exact vp_in_nI (by omega) (by omega)) (fun _ => vp_in_nI (by omega) (by omega)) (fun _ => by rw [nI_1]; exact vp_in_nI (by omega) (by omega)) (fun _ q => ?_) (fun _ q => ?_) (fun c => absurd c (by decide))
    · rw [ei1, ei2] at q
      have q := hc16.mp q
      rw [if_pos q] at hfin
      rw [ei, ei1, ei2, eN, eC, e83 _ (by omega)]
      generalize ha : plc (cR st r 0) (nR st r) K (i - 1) = a at *
      generalize hnn : plc (cR st r 0) (nR st r) K (i + 1) - a = n at *
      generalize hcc : plc (cR st r 0) (nR st r) K i - a = c at *
      have han : a + n ≤ (pts st r).length := by have : (pts st r).length = nR st r := rfl; omega
      have hcn : c ≤ n := by omega
      have hok := pts_ok hS r
      have v1 := sV_b hok a c
      have v2 := sV_b hok a n
      have m1 := mulb (a := (n : Int)) (b := sV (seg (pts st r) a c)) (A := 16) (B := 40000) (by omega) (by omega)
      have m2 := mulb (a := (c : Int)) (b := sV (seg (pts st r) a n)) (A := 16) (B := 40000) (by omega) (by omega)
      have h2 := rdb2 (G := G) (d := d) (P := P) (J := J1) hok g2.1 han hcn q hfin (2 ^ n) 0 (by omega)
      have h1 := rdb1 (G := G) (d := d) (P := P) (J := J1) hok g2.1 han hcn (by
        have hle2 : nI n ≤ nI n := nI_le (Nat.le_refl _) (by omega)
        refine w_RM_doubt_101 (fun _ => ?_) (fun c => absurd hle2 c) (fun c => absurd hle2 c) (fun c => absurd hle2 c)
        rw [nI_lI (by omega), nI_lI (by omega), lI_mul, lI_mul, lI_sub, Int.mul_comm (sV (seg (pts st r) a n)) (c : Int), amtJ (by omega) (by omega)]
        rw [nI_0] at h2
        exact h2) n 0 (by omega)
      rw [Nat.zero_min, seg_0, nI_0] at h1
      exact h1
    · rw [ei1, ei2] at q
      rw [if_neg (fun h => q (hc16.mpr h))] at hfin
      exact hfin
theorem cl_doubt {st : ST} {r K i : Int32} (hR : RC st I J) (hS : okS st) (hq : ∀ I' J', KC I J I' J' → P (some (.int (doubtA st r K i))) I' J') : Ct G (d + 22) m_LB_doubt [.ref 0, .int r, .int K, .int i] P I J := by
  have hb : (f_LB_isRow r = 0 ∨ f_LB_isWithin K 2 6 = 0 ∨ f_LB_isWithin i 1 (K - 1) = 0) → Go G (fr G m_LB_doubt (d + 22) P) 24 [none, none, none, none, none, none, none, none] [] I J := fun hb => by
    have := hq I J KC.rf
    unfold doubtA at this
    rw [if_pos hb] at this; exact w_LB_doubt_24 this
  have z1 : (1 : Int32).toInt = 1 := rfl
  have z2 : (2 : Int32).toInt = 2 := rfl
  have z6 : (6 : Int32).toInt = 6 := rfl
  have hKs : f_LB_isStretches K = 0 → f_LB_isWithin K 2 6 = 0 := fun h => isW0.mpr (fun q => isW0.mp (show f_LB_isWithin K 1 6 = 0 from h) ⟨by have := q.1; rw [ti_le] at this ⊢; omega, q.2⟩)
  have hK1 : ¬ f_LB_isStretches K = 0 → (K - 1).toInt = K.toInt - 1 := fun h => by
    obtain ⟨K, hK, hK6, rfl⟩ := isStr1 h
    rw [show nI K - 1 = nI (K - 1) by rw [show K = K - 1 + 1 by omega]; exact nI_pred _, nI_ti (by omega), nI_ti (by omega)]; omega
  refine Ct.ofGo [some (.ref 0), some (.int r), some (.int K), some (.int i), none, none, none, none] (by decide +kernel) rfl (Nat.le_of_ble_eq_true rfl) (w_LB_doubt_0 (fun c => hb (Or.inl c)) (fun _ c => hb (Or.inr (Or.inl (hKs c)))) (fun _ _ c => hb (Or.inr (Or.inr (isW0.mpr (fun q => absurd c (Int32.not_lt.mpr q.1)))))) (fun c1 c2 c3 c4 => ?_) (fun _ c2 _ c => hb (Or.inr (Or.inr (isW0.mpr (fun q => c (by have := q.2; rw [ti_le, hK1 c2] at this; rw [ti_lt]; omega)))))))
  have hK1' := hK1 c2
  have hin : f_LB_isWithin i 1 (K - 1) ≠ 0 := isW1.mpr ⟨Int32.not_lt.mp c3, by rw [ti_le, hK1']; rw [ti_lt] at c4; omega⟩
  have hKw : ¬ f_LB_isWithin K 2 6 = 0 := isW1.mpr ⟨by have a1 := Int32.not_lt.mp c3; rw [ti_le] at a1 ⊢; rw [ti_lt] at c4; omega, (isW1.mp (show ¬ f_LB_isWithin K 1 6 = 0 from c2)).2⟩
  have hnb : ¬ (f_LB_isRow r = 0 ∨ f_LB_isWithin K 2 6 = 0 ∨ f_LB_isWithin i 1 (K - 1) = 0) := by
    rintro (h | h | h)
    · exact c1 h
    · exact hKw h
    · exact hin h
  unfold doubtA at hq
  rw [if_neg hnb] at hq
  obtain ⟨r, hr, rfl⟩ := isRow1 c1
  obtain ⟨K, hK, hK6, rfl⟩ := isW26 hKw
  have b1 := Int32.not_lt.mp c3
  obtain ⟨i, hi, rfl⟩ := nI_of (x := i) (by rw [ti_lt]; rw [ti_le] at b1; have : (0 : Int32).toInt = 0 := rfl; omega)
  have b2 := (nI_ltI hi (by omega)).mp c4
  have b1 := (nI_leI (a := 1) (by omega) hi).mp b1
  have er : (nI r).toNatClampNeg = r := nI_clamp (by omega)
  rw [er, nI_clamp (show K < 2 ^ 31 by omega), nI_clamp hi] at hq
  unfold doubtN at hq
  refine cl_cutRow (k := 0) hR hS hr (by omega) (by omega) hK6 (fun I1 J1 g1 g2 g3 => ?_)
  have hfin := hq I1 J1 g1.kc
  by_cases hd : (Dp (cR st r 0) (nR st r) K 0).isSome = true
  · rw [if_pos hd] at hfin ⊢
    have e49 := g3 hd
    have u1 := plc_up hd (show i - 1 < K by omega)
    have u2' := plc_up hd (show i < K by omega)
    rw [show i - 1 + 1 = i by omega] at u1
    have hn := nR_le hS r
    have hle := (plc_ok hd (i + 1) (by omega)).2.1
    have em : nI i - 1 = nI (i - 1) := by rw [show i = i - 1 + 1 by omega]; exact nI_pred _
    have ei : (nI i).toNatClampNeg = i := nI_clamp hi
    have ei1 : (nI i - 1).toNatClampNeg = i - 1 := by rw [em]; exact nI_clamp (by omega)
    have ei2 : (nI i + 1).toNatClampNeg = i + 1 := by rw [nI_1]; exact nI_clamp (by omega)
    have hP := ((hR.2.2.1 r hr).2.pf).fq g1 (pts_lt r hr)
    have hgo : Go G (fr G m_LB_doubt (d + 22) P) 98 [none, none, none, none, some (.ref (7 + 5 * r)), some (.int (nI (plc (cR st r 0) (nR st r) K (i - 1)))), some (.int (nI (plc (cR st r 0) (nR st r) K i))), none] [.int (nI (plc (cR st r 0) (nR st r) K (i + 1)))] I1 J1 := by
      have hc16 : (nI (plc (cR st r 0) (nR st r) K (i + 1)) - nI (plc (cR st r 0) (nR st r) K (i - 1)) ≤ 16) ↔ plc (cR st r 0) (nR st r) K (i + 1) - plc (cR st r 0) (nR st r) K (i - 1) ≤ 16 := by rw [nI_sub (by omega)]; exact nI_leI (b := 16) (by omega) (by omega)
      refine w_LB_doubt_98 (pts_lt r hr) (fun q => ?_) (fun q => ?_)
      · have q := hc16.mp q
        rw [if_pos q] at hfin
        generalize ha : plc (cR st r 0) (nR st r) K (i - 1) = a at *
        generalize hnn : plc (cR st r 0) (nR st r) K (i + 1) - a = n at *
        generalize hcc : plc (cR st r 0) (nR st r) K i - a = c at *
        rw [show plc (cR st r 0) (nR st r) K i = a + c by omega, show plc (cR st r 0) (nR st r) K (i + 1) = a + n by omega]
        exact sp_ofSplit (L := pts st r) (pts_lt r hr) (pts_ok hS r) hP (by have : (pts st r).length = nR st r := rfl; omega) (by omega) q (w_LB_doubt_124 hfin)
      · rw [if_neg (fun h => q (hc16.mpr h))] at hfin
        exact hfin
    refine w_LB_doubt_34 (fun _ => vp_in_nI hr (by omega)) (fun _ => by rw [em]; exact vp_in_nI (by omega) (by omega)) (fun _ => vp_in_nI (by omega) (by omega)) (fun _ q => ?_) (fun _ q => ?_) (fun _ q => ?_) (fun c => absurd c (by decide))
    · rw [nI_1] at q
      have q := (nI_leI (by omega) (by omega)).mp q
      have hKK : plc (cR st r 0) (nR st r) K (i + 1) = nR st r := by rw [show i + 1 = K by omega]; exact plc_K hd
      rw [er, ei, ei1, e49 _ (by omega), e49 _ (by omega), hP.1.1]
      rw [hKK] at hgo
      exact hgo
    · rw [nI_1] at q ⊢
      have q : ¬ K ≤ i + 1 := fun h => q ((nI_leI (by omega) (by omega)).mpr h)
      exact vp_in_nI (by omega) (by omega)
    · rw [nI_1] at q
      have q : ¬ K ≤ i + 1 := fun h => q ((nI_leI (by omega) (by omega)).mpr h)
      rw [er, ei, ei1, ei2, e49 _ (by omega), e49 _ (by omega), e49 _ (by omega)]
      exact hgo
  · rw [if_neg hd] at hfin ⊢
    exact w_LB_doubt_34 (fun c => absurd rfl c) (fun c => absurd rfl c) (fun c => absurd rfl c) (fun c => absurd rfl c) (fun c => absurd rfl c) (fun c => absurd rfl c) (fun _ => hfin)
end
