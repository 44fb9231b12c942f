/-! ===== the best cuts are found, on both sides; best, cut ===== -/
theorem Dp_some {c : CC} {n ls : Nat} (hfew : fewC c ls) (hls : 1 ≤ ls) : ∀ k a, a ≤ n → ((Dp c n (k + 1) a).isSome = true ↔ (k + 1) * ls ≤ n - a) := by
  intro k
  induction k with
  | zero =>
    intro a ha
    constructor
    · intro h
      obtain ⟨t, ht⟩ := Option.isSome_iff_exists.mp h
      obtain ⟨g1, g2, x, t', g3, g4, g5⟩ := Dp_nx ht
      have : ¬ (t.2 - 1 - a + 1 < ls) := fun q => by rw [(hfew a (t.2 - 1) (by omega)).mpr q] at g3; exact absurd g3 (by simp)
      omega
    · intro h
      cases hd : Dp c n (0 + 1) a with
      | some t => rfl
      | none =>
        exfalso
        rw [Dp_s] at hd
        have := (bst_spec (fD c n 0 a) a (n - a)).1 hd (n - 1) (by omega) (by omega)
        unfold fD at this
        cases hx : c a (n - 1) with
        | none => have := (hfew a (n - 1) (by omega)).mp hx; omega
        | some x =>
          rw [hx, show n - 1 + 1 = n by omega] at this
          have e : Dp c n 0 n = some (0, 0) := if_pos rfl
          rw [e] at this; exact absurd this (by simp)
  | succ k ih =>
    intro a ha
    have em : (k + 1 + 1) * ls = (k + 1) * ls + ls := by rw [Nat.add_mul (k + 1) 1, Nat.one_mul]
    constructor
    · intro h
      obtain ⟨t, ht⟩ := Option.isSome_iff_exists.mp h
      obtain ⟨g1, g2, x, t', g3, g4, g5⟩ := Dp_nx ht
      have h1 : ¬ (t.2 - 1 - a + 1 < ls) := fun q => by rw [(hfew a (t.2 - 1) (by omega)).mpr q] at g3; exact absurd g3 (by simp)
      have h2 := (ih t.2 g2).mp (by rw [g4]; rfl)
      omega
    · intro h
      cases hd : Dp c n (k + 1 + 1) a with
      | some t => rfl
      | none =>
        exfalso
        rw [Dp_s] at hd
        have := (bst_spec (fD c n (k + 1) a) a (n - a)).1 hd (a + ls - 1) (by omega) (by omega)
        unfold fD at this
        cases hx : c a (a + ls - 1) with
        | none => have := (hfew a (a + ls - 1) (by omega)).mp hx; omega
        | some x =>
          rw [hx, show a + ls - 1 + 1 = a + ls by omega] at this
          obtain ⟨t, ht⟩ := Option.isSome_iff_exists.mp ((ih (a + ls) (by omega)).mpr (by omega))
          rw [ht] at this; exact absurd this (by simp)
theorem plc_K {c : CC} {n K : Nat} (h : (Dp c n K 0).isSome = true) : plc c n K K = n := by
  have := (plc_ok h K (Nat.le_refl _)).1
  rw [Nat.sub_self] at this
  have e : Dp c n 0 (plc c n K K) = if plc c n K K = n then some (0, 0) else none := by cases K <;> rfl
  rw [e] at this
  refine Decidable.byContradiction fun q => ?_
  rw [if_neg q] at this; exact absurd this (by decide)
theorem BM.of {c : CC} {n K : Nat} {J J' : MJ} (h : BM c n K J) (h0 : J' 80 = J 80) (h1 : J' 81 = J 81) (h2 : J' 82 = J 82) : BM c n K J' := fun k a hk ha => enM_of (h k a hk ha) (by rw [h0]) (by rw [h1]) (by rw [h2])
section
variable {G : GC} {d : Nat} {P : PT} {I : MI} {J : MJ}
theorem fol_b {c : CC} {n K ls i a j : Nat} {t : Nat × Nat} {J0 : MJ} (hn : n ≤ 40) (hc : okC c n) (hfew : fewC c ls) (hls : 1 ≤ ls) (hK : K ≤ 6) (hij : i + j + 1 = K) (ha : a ≤ n) (ht : Dp c n (j + 1) a = some t) (hq : ∀ J', (∀ x, x ≠ 67 → J' x = J0 x) → Go G (fr G m_RM_follows (d + 2) P) 5 [some (.ref 67), some (.int (nI K)), some (.int (nI ls)), some (.int (nI t.2)), some (.int (nI (i + 1))), none, none, none, none] [] I J') : ∀ (r b : Nat) (J : MJ), b + r = t.2 - 1 → a + ls - 1 ≤ b → (∀ x, x ≠ 67 → J x = J0 x) → CTc c n J → BM c n K J → Go G (fr G m_RM_follows (d + 2) P) 40 [some (.ref 67), some (.int (nI K)), some (.int (nI ls)), some (.int (nI a)), some (.int (nI i)), some (.int (nI (41 * (j + 1) + a))), some (.int (nI b)), some (.int 0), none] [] I J := by
  obtain ⟨g1, g2, x0, t0, g3, g4, g5⟩ := Dp_nx ht
  obtain ⟨bt1, bt2⟩ := D_bd hc hn ha ht
  have spec := ((bst_spec (fD c n j a) a (n - a)).2 t (by rw [← Dp_s]; exact ht)).2.2
  intro r
  induction r with
  | zero =>
    intro b J hr hb hF hC hM
    obtain rfl : b = t.2 - 1 := by omega
    have hb1 : t.2 - 1 + 1 = t.2 := by omega
    have eidx : 41 * (nI K - nI i - 1) + nI (t.2 - 1) + 1 = nI (41 * j + t.2) := by
      rw [nI_sub (by omega), show K - i = j + 1 by omega, nI_pred, i41, nI_1]; congr 1; omega
    have ex : (nI (41 * j + t.2)).toNatClampNeg = 41 * j + t.2 := nI_clamp (by omega)
    have hrest := hM j t.2 (by omega) g2
    rw [g4] at hrest
    obtain ⟨r1, r2, r3⟩ := hrest
    obtain ⟨b1, b2⟩ := D_bd hc hn g2 g4
    obtain ⟨b3, b4⟩ := c_bd hc hn (by omega) (by omega) g3
    obtain ⟨y1, y2, y3⟩ := hC a (t.2 - 1) x0 (by omega) (by omega) g3
    have hat := hM (j + 1) a (by omega) ha
    rw [ht] at hat
    obtain ⟨w1, w2, w3⟩ := hat
    have pt := vB_pos t0.1
    have hz : ¬ J 82 (nI (41 * j + t.2)).toNatClampNeg ≤ 0 := by rw [ex, r3, show (0 : Int64) = lI 0 from rfl, lI_le (by omega) (by omega)]; omega
    refine w_RM_follows_40 (fun c => absurd rfl c) (fun _ => by rw [eidx]; exact vp_in_nI (by omega) (by omega)) (fun _ c => absurd (by rw [eidx] at c; exact c) hz) (fun _ _ => ?_)
    rw [eidx, i40]
    refine md_adds (by omega) (by omega) y1 y2 y3 r1 r2 r3 b3 b1 (by omega) (by omega) (fun J' f1 f2 => w_RM_follows_86 ?_)
    rw [← g5] at f2
    refine md_against (by omega) f2 (by rw [f1 80 (by decide)]; exact w1) (by rw [f1 81 (by decide)]; exact w2) (by rw [f1 82 (by decide)]; exact w3) (by omega) (by omega) (by omega) (by omega) (w_RM_follows_92 (fun c => absurd (cmpI_eq.mpr rfl) c) (fun _ => w_RM_follows_100 (w_RM_follows_102 ?_)))
    rw [nI_1, hb1]
    refine w_RM_follows_40 (fun _ => ?_) (fun c => absurd c (by decide)) (fun c => absurd c (by decide)) (fun c => absurd c (by decide))
    rw [nI_1]
    exact hq J' (fun x hx => (f1 x hx).trans (hF x hx))
  | succ r ih =>
    intro b J hr hb hF hC hM
    have eidx : 41 * (nI K - nI i - 1) + nI b + 1 = nI (41 * j + (b + 1)) := by
      rw [nI_sub (by omega), show K - i = j + 1 by omega, nI_pred, i41, nI_1]; congr 1
    have ex : (nI (41 * j + (b + 1))).toNatClampNeg = 41 * j + (b + 1) := nI_clamp (by omega)
    have hab : a ≤ b := by omega
    obtain ⟨x, hx⟩ : ∃ x, c a b = some x := by
      cases hcx : c a b with
      | none => have := (hfew a b hab).mp hcx; omega
      | some x => exact ⟨x, rfl⟩
    have hrest := hM j (b + 1) (by omega) (by omega)
    have nxt : ∀ J', (∀ x, x ≠ 67 → J' x = J x) → Go G (fr G m_RM_follows (d + 2) P) 102 [some (.ref 67), some (.int (nI K)), some (.int (nI ls)), some (.int (nI a)), some (.int (nI i)), some (.int (nI (41 * (j + 1) + a))), some (.int (nI b)), some (.int 0), none] [] I J' := by
      intro J' f1
      refine w_RM_follows_102 ?_
      rw [nI_1]
      exact ih (b + 1) J' (by omega) (by omega) (fun x hx => (f1 x hx).trans (hF x hx)) (hC.fb (fun c h1 _ _ _ => f1 c h1)) (hM.of (f1 80 (by decide)) (f1 81 (by decide)) (f1 82 (by decide)))
    cases hd : Dp c n j (b + 1) with
    | none =>
      rw [hd] at hrest
      have hz : J 82 (nI (41 * j + (b + 1))).toNatClampNeg ≤ 0 := by rw [ex, hrest]; decide
      exact w_RM_follows_40 (fun c => absurd rfl c) (fun _ => by rw [eidx]; exact vp_in_nI (by omega) (by omega)) (fun _ _ => nxt J (fun _ _ => rfl)) (fun _ c => absurd (by rw [eidx]; exact hz) c)
    | some t1 =>
      rw [hd] at hrest
      obtain ⟨r1, r2, r3⟩ := hrest
      obtain ⟨b1, b2⟩ := D_bd hc hn (by omega) hd
      obtain ⟨b3, b4⟩ := c_bd hc hn hab (by omega) hx
      obtain ⟨y1, y2, y3⟩ := hC a b x hab (by omega) hx
      have hat := hM (j + 1) a (by omega) ha
      rw [ht] at hat
      obtain ⟨w1, w2, w3⟩ := hat
      have pt := vB_pos t1.1
      have hz : ¬ J 82 (nI (41 * j + (b + 1))).toNatClampNeg ≤ 0 := by rw [ex, r3, show (0 : Int64) = lI 0 from rfl, lI_le (by omega) (by omega)]; omega
      have hlt : t.1 < x + t1.1 := spec b (x + t1.1) hab (by omega) (by unfold fD; rw [hx, hd]; rfl)
      refine w_RM_follows_40 (fun c => absurd rfl c) (fun _ => by rw [eidx]; exact vp_in_nI (by omega) (by omega)) (fun _ c => absurd (by rw [eidx] at c; exact c) hz) (fun _ _ => ?_)
      rw [eidx, i40]
      refine md_adds (by omega) (by omega) y1 y2 y3 r1 r2 r3 b3 b1 (by omega) (by omega) (fun J' f1 f2 => w_RM_follows_86 ?_)
      refine md_against (by omega) f2 (by rw [f1 80 (by decide)]; exact w1) (by rw [f1 81 (by decide)]; exact w2) (by rw [f1 82 (by decide)]; exact w3) (vB_sum b3 b1) (by omega) (by unfold vW at b2 b4 ⊢; omega) (by omega) (w_RM_follows_92 (fun _ => w_RM_follows_100 (nxt J' f1)) (fun c => absurd (cmpI_eq.mp c) (by omega)))
theorem fol_i {c : CC} {n K ls : Nat} {I0 : MI} {J0 : MJ} (hn : n ≤ 40) (hc : okC c n) (hfew : fewC c ls) (hls : 1 ≤ ls) (hls2 : ls ≤ 100) (hK : K ≤ 6) (hS : (Dp c n K 0).isSome = true) (hC : CTc c n J0) (hM : BM c n K J0) (hq : ∀ I' J', (∀ x, x ≠ 83 → I' x = I0 x) → (∀ x, x ≠ 67 → J' x = J0 x) → (∀ i, i ≤ K → I' 83 i = nI (plc c n K i)) → P none I' J') : ∀ (r i : Nat) (I : MI) (J : MJ), i + r = K → (∀ x, x ≠ 83 → I x = I0 x) → (∀ x, x ≠ 67 → J x = J0 x) → (∀ j, j < i → I 83 j = nI (plc c n K j)) → Go G (fr G m_RM_follows (d + 2) P) 5 [some (.ref 67), some (.int (nI K)), some (.int (nI ls)), some (.int (nI (plc c n K i))), some (.int (nI i)), none, none, none, none] [] I J := by
  intro r
  induction r with
  | zero =>
    intro i I J hr hF hG hv
    obtain rfl : i = K := by omega
    have hle : nI i ≤ nI i := nI_le (Nat.le_refl _) (by omega)
    refine w_RM_follows_5 (fun _ => vp_in_nI (by omega) (by omega)) (fun _ => hq _ J (fun x hx => by rw [u2_o hx]; exact hF x hx) hG (fun j hj => ?_)) (fun c => absurd hle c) (fun c => absurd hle c)
    rw [nI_clamp (show i < 2 ^ 31 by omega)]
    by_cases q : j = i
    · rw [q, u2_s]
    · rw [u2_k q]; exact hv j (by omega)
  | succ r ih =>
    intro i I J hr hF hG hv
    have hcc : ¬ nI K ≤ nI i := nI_ge (by omega) (by omega)
    obtain ⟨h1, h2, h3⟩ := plc_ok hS i (by omega)
    obtain ⟨t, ht⟩ := Option.isSome_iff_exists.mp h1
    have e : plc c n K (i + 1) = t.2 := by simp only [plc, ht]
    obtain ⟨j, hj⟩ : ∃ j, i + j + 1 = K := ⟨K - i - 1, by omega⟩
    rw [show K - i = j + 1 by omega] at ht
    obtain ⟨g1, g2, x0, t0, g3, g4, g5⟩ := Dp_nx ht
    have hge : ¬ (t.2 - 1 - plc c n K i + 1 < ls) := fun q => by rw [(hfew _ (t.2 - 1) (by omega)).mpr q] at g3; exact absurd g3 (by simp)
    refine w_RM_follows_5 (fun c => absurd c hcc) (fun c => absurd c hcc) (fun _ => vp_in_nI (by omega) (by omega)) (fun _ => ?_)
    rw [nI_sub (by omega), show K - i = j + 1 by omega, i41, nI_add, show nI (plc c n K i + ls) - 1 = nI (plc c n K i + ls - 1) by rw [show plc c n K i + ls = plc c n K i + ls - 1 + 1 by omega]; exact nI_pred _, nI_clamp (show i < 2 ^ 31 by omega)]
    refine fol_b (J0 := J) hn hc hfew hls hK hj h2 ht (fun J' f1 => ?_) (t.2 - 1 - (plc c n K i + ls - 1)) _ J (by omega) (by omega) (fun _ _ => rfl) (hC.fb (fun c h1 _ _ _ => hG c h1)) (hM.of (hG 80 (by decide)) (hG 81 (by decide)) (hG 82 (by decide)))
    rw [← e]
    refine ih (i + 1) _ J' (by omega) (fun x hx => by rw [u2_o hx]; exact hF x hx) (fun x hx => (f1 x hx).trans (hG x hx)) (fun j' hj' => ?_)
    by_cases q : j' = i
    · rw [q, u2_s]
    · rw [u2_k q]; exact hv j' (by omega)
theorem md_follows {c : CC} {n K ls : Nat} (hn : n ≤ 40) (hc : okC c n) (hfew : fewC c ls) (hls : 1 ≤ ls) (hls2 : ls ≤ 100) (hK : K ≤ 6) (hS : (Dp c n K 0).isSome = true) (hC : CTc c n J) (hM : BM c n K J) (hq : ∀ I' J', (∀ x, x ≠ 83 → I' x = I x) → (∀ x, x ≠ 67 → J' x = J x) → (∀ i, i ≤ K → I' 83 i = nI (plc c n K i)) → P none I' J') : Ct G (d + 2) m_RM_follows [.ref 67, .int (nI K), .int (nI ls)] P I J :=
  Ct.ofGo [some (.ref 67), some (.int (nI K)), some (.int (nI ls)), none, none, none, none, none, none] (by decide +kernel) rfl (Nat.le_of_ble_eq_true rfl) (w_RM_follows_0 (fol_i hn hc hfew hls hls2 hK hS hC hM hq K 0 I J (by omega) (fun _ _ => rfl) (fun _ _ => rfl) (fun j hj => by omega)))
/-- a row's least size -/
def lsr (st : ST) (r : Nat) : Nat := (st.2.2.1.getD r 0).toNatClampNeg
theorem lsr_ok {st : ST} (hS : okS st) {r : Nat} (hr : r < 4) : st.2.2.1.getD r 0 = nI (lsr st r) ∧ 1 ≤ lsr st r ∧ lsr st r ≤ 10 := by
  have h4 := hS.2.2.1.1
  have hm : st.2.2.1.getD r 0 ∈ st.2.2.1 := by rw [getD_lt (by omega)]; exact List.getElem_mem _
  obtain ⟨h1, h2⟩ := hS.2.2.1.2 _ hm
  unfold lsr
  rw [ti_le] at h1 h2
  have z1 : (1 : Int32).toInt = 1 := rfl
  have z2 : (10 : Int32).toInt = 10 := rfl
  rw [ti_cl]
  refine ⟨?_, by omega, by omega⟩
  rw [ti_eq, nI_ti (by omega)]; omega
/-- the reference's findings: L cut into K -/
def FN (k : Nat) (L : List Pt) (ls K : Nat) (I : MI) (J : MJ) : Prop := QL L I ∧ CT k L J ∧ BM (cP k L ls) L.length K J ∧ ((Dp (cP k L ls) L.length K 0).isSome = true ∧ ∀ i, i ≤ K → I 83 i = nI (plc (cP k L ls) L.length K i))
theorem FB.km {I' : MI} {J' : MJ} (h : ∀ a, a ≠ 83 → I' a = I a) (g : FB J J') : KM I J I' J' := ⟨fun a ha => ⟨h a (by omega), g a (by omega) (by omega) (by omega) (by omega)⟩, fun a _ _ => h a (by omega), h 91 (by decide), fun a _ _ => h a (by omega), by rw [h 67 (by decide)], by rw [h 67 (by decide)], by rw [h 67 (by decide)], by rw [h 67 (by decide)]⟩
/-- the cells behind the findings stay -/
def Hg (I I' : MI) : Prop := ∀ a, 84 ≤ a → I' a = I a
theorem md_finds {st : ST} {r k K : Nat} {t : Int32} (hR : RM st I J) (hS : okS st) (hr : r < 4) (hk : k < 4) (hK : 1 ≤ K) (hK6 : K ≤ 6) (hq0 : ∀ I', KM I J I' J → Hg I I' → (Dp (cP k (ptl st.1 r t) (lsr st r)) (ptl st.1 r t).length K 0).isSome = false → P (some (.int 0)) I' J) (hq1 : ∀ I' J', KM I J I' J' → Hg I I' → FN k (ptl st.1 r t) (lsr st r) K I' J' → P (some (.int 1)) I' J') : Ct G (d + 4) m_RM_finds [.ref 67, .int (nI r), .int (nI k), .int (nI K), .int t] P I J := by
  obtain ⟨e1, l1, l2⟩ := lsr_ok hS hr
  have hok := ptl_ok hS.1 r t
  have hl := hok.1
  have er : (nI r).toNatClampNeg = r := nI_clamp (by omega)
  have hmul : K * lsr st r ≤ 60 := Nat.le_trans (Nat.mul_le_mul hK6 l2) (by decide)
  have hfeas := Dp_some (c := cP k (ptl st.1 r t) (lsr st r)) (n := (ptl st.1 r t).length) (cP_few _ _ _) l1 (K - 1) 0 (Nat.zero_le _)
  rw [show K - 1 + 1 = K by omega, Nat.sub_zero] at hfeas
  have hm1 : 1 ≤ K * lsr st r := Nat.mul_pos (by omega) (by omega)
  have hbad : ∀ I', KM I J I' J → Hg I I' → ¬ K * lsr st r ≤ (ptl st.1 r t).length → P (some (.int 0)) I' J := fun I' hk hg hn => hq0 I' hk hg (by
    cases hd : (Dp (cP k (ptl st.1 r t) (lsr st r)) (ptl st.1 r t).length K 0).isSome with
    | false => rfl
    | true => exact absurd (hfeas.mp hd) hn)
  refine Ct.ofGo [some (.ref 67), some (.int (nI r)), some (.int (nI k)), some (.int (nI K)), some (.int t)] (by decide +kernel) rfl (Nat.le_of_ble_eq_true rfl) (w_RM_finds_0 (md_pointsBy hR.1 hS.1 (fun I1 g1 _ g3 => ?_)))
  have hQ := g3.ql
  generalize hL : ptl st.1 r t = L at *
  have h72 : I1 72 r = nI (lsr st r) := by rw [g1.1 72 (by decide) (by decide) (by decide) (by decide), hR.2.2.1 r hr, e1]
  have hmu : nI K * I1 72 (nI r).toNatClampNeg = nI (K * lsr st r) := by rw [er, h72]; exact (Int32.ofNat_mul _ _).symm
  have hcmp : (nI K * I1 72 (nI r).toNatClampNeg ≤ I1 67 7) ↔ K * lsr st r ≤ L.length := by rw [hmu, hQ.1]; exact nI_leI (by omega) (by omega)
  refine w_RM_finds_7 (fun c => w_RM_finds_29 (hbad I1 g1.km (fun a ha => g1.1 a (by omega) (by omega) (by omega) (by omega)) ?_)) (fun _ => vp_in_nI hr (by omega)) (fun c1 c2 => ?_) (fun _ c => w_RM_finds_29 (hbad I1 g1.km (fun a ha => g1.1 a (by omega) (by omega) (by omega) (by omega)) (fun h => c (hcmp.mpr h))))
  · rw [hQ.1, show (0 : Int32) = nI 0 from rfl, nI_eq (by omega) (by omega)] at c
    omega
  · have hfe := hcmp.mp c2
    refine md_costs hk hok hQ (fun I2 J2 k1 k2 => w_RM_finds_36 (vp_in_nI hr (by omega)) ?_)
    have h72' : I2 72 r = nI (lsr st r) := by rw [k1.1 72 (by decide)]; exact h72
    have hQ2 := hQ.fc k1
    rw [er, h72']
    refine md_cuts hl (cP_ok hok) (cP_few _ _ _) l1 (by omega) hK6 hQ2.1 (k2.c hok) (fun J3 m1 m2 => w_RM_finds_47 (vp_in_nI hr (by omega)) ?_)
    rw [er, h72']
    refine md_follows hl (cP_ok hok) (cP_few _ _ _) l1 (by omega) hK6 (hfeas.mpr hfe) ((k2.c hok).fb m1) m2 (fun I4 J4 n1 n2 n3 => w_RM_finds_58 (hq1 I4 J4 ?_ ?_ ?_))
    · exact ((g1.km.tr k1.km).tr (FB.km (fun _ _ => rfl) m1)).tr (FB.km n1 (fun a h1 _ _ _ => n2 a h1))
    · exact fun a ha => (n1 a (by omega)).trans ((k1.1 a (by omega)).trans (g1.1 a (by omega) (by omega) (by omega) (by omega)))
    · refine ⟨⟨by rw [n1 67 (by decide)]; exact hQ2.1, fun i hi => by rw [n1 73 (by decide), n1 74 (by decide)]; exact hQ2.2 i hi⟩, fun a m h => ?_, m2.of (n2 80 (by decide)) (n2 81 (by decide)) (n2 82 (by decide)), hfeas.mpr hfe, n3⟩
      have := k2 a m h
      unfold ent at this ⊢
      rw [n2 76 (by decide), n2 77 (by decide), n2 78 (by decide), m1 76 (by decide) (by decide) (by decide) (by decide), m1 77 (by decide) (by decide) (by decide) (by decide), m1 78 (by decide) (by decide) (by decide) (by decide)]
      exact this
end
/-! the class -/
def pcQ0 (k : Nat) (L : List Pt) (ls : Nat) : PCS := fun e a b => if e = 0 then (if b < L.length ∧ a ≤ b then pc0 k L ls a b else none) else none
/-- the class's table after cuts of all without leaving points out -/
def CS (c : CC) (n K : Nat) (I : MI) (J : MJ) : Prop := ∃ T, TT 0 T I J ∧ okTB T ∧ (∀ k a, a ≤ n → (k ≤ mostOf K a ∨ k = 0) → T 0 k a = lft (Dp c n k a)) ∧ I 33 8 = nI K ∧ I 33 9 = 0
def cPn (k : Nat) (L : List Pt) (ls : Nat) : CC := fun a b => if b < L.length ∧ a ≤ b then cP k L ls a b else none
theorem bst_congr {f g : Nat → Option Nat} {lo : Nat} : ∀ m, (∀ b, lo ≤ b → b < lo + m → f b = g b) → bst f lo m = bst g lo m := by
  intro m
  induction m with
  | zero => intro _; rfl
  | succ m ih =>
    intro h
    unfold bst
    rw [ih (fun b h1 h2 => h b h1 (by omega)), h (lo + m) (by omega) (by omega)]
theorem Dp_congr {c c' : CC} {n : Nat} (h : ∀ a b, a ≤ b → b < n → c a b = c' a b) : ∀ k a, a ≤ n → Dp c n k a = Dp c' n k a := by
  intro k
  induction k with
  | zero => intro a _; rfl
  | succ k ih =>
    intro a ha
    rw [Dp_s, Dp_s]
    refine bst_congr _ (fun b h1 h2 => ?_)
    unfold fD
    rw [h a b h1 (by omega), ih (b + 1) (by omega)]
theorem cPn_D {k : Nat} {L : List Pt} {ls : Nat} {K a : Nat} (ha : a ≤ L.length) : Dp (cPn k L ls) L.length K a = Dp (cP k L ls) L.length K a :=
  Dp_congr (fun a b h1 h2 => by unfold cPn; rw [if_pos ⟨h2, h1⟩]) K a ha
theorem pcQ0_ok {k : Nat} {L : List Pt} {ls : Nat} (hok : okP L) : okPC (pcQ0 k L ls) := by
  intro e a b p h
  unfold pcQ0 at h
  split at h
  · rename_i he
    subst he
    split at h
    · rename_i hb
      unfold pc0 at h
      split at h
      · rename_i hls
        obtain rfl := Option.some.inj h
        have := (cP_ok (k := k) (ls := ls) hok a b _ hb.2 hb.1 (by unfold cP; rw [if_pos hls])).1
        have hl := hok.1
        refine ⟨Nat.le_trans this (Nat.le_trans (Nat.mul_le_mul_right _ (show b - a + 1 ≤ 40 by omega)) (by decide)), by show 0 < 40 ^ 0; decide⟩
      · exact absurd h (by simp)
    · exact absurd h (by simp)
  · exact absurd h (by simp)
theorem pcQ0_c {k : Nat} {L : List Pt} {ls : Nat} : okC0 (pcQ0 k L ls) (cPn k L ls) := by
  intro a b
  unfold pcQ0 cPn cP pc0
  rw [if_pos rfl]
  split
  · split <;> rfl
  · rfl
section
variable {G : GC} {d : Nat} {P : PT} {I : MI} {J : MJ}
theorem of_none {k : Nat} (hk : k < 4) {L : List Pt} {o1 K ls : Nat} {pc : PCS} (h1 : PtsAt o1) (h0 : ∀ a b, pc 1 a b = none) : OfC G m_CU_offerWithoutOne k L o1 0 K ls 1 pc := by
  intro d P I J T frm to _ _ _ hO _ hT hq
  have h9 : I 33 9 < 1 := by rw [hO.2.2.2.2]; decide
  rw [h0] at hq
  exact Ct.ofGo [some (.ref 33), some (.ref o1), some (.ref (mcl k)), some (.int (nI frm)), some (.int (nI to)), some (.int (nI ls)), none, none, none, none, none, none] (by decide +kernel) rfl (Nat.le_of_ble_eq_true rfl) (w_CU_offerWithoutOne_0 h1 (mes_lt hk) (fun _ => hq I J FO.rf hT) (fun c => absurd h9 c) (fun c => absurd h9 c))
theorem of_none2 {k : Nat} (hk : k < 4) {L : List Pt} {o1 q K ls : Nat} {pc : PCS} (hq1 : q < 2) (h1 : PtsAt o1) (h0 : ∀ a b, pc 2 a b = none) : OfC G m_CU_offerWithoutTwo k L o1 q K ls 2 pc := by
  intro d P I J T frm to _ _ _ hO _ hT hq
  have h9 : I 33 9 < 2 := by rw [hO.2.2.2.2]; exact nI_lt (b := 2) hq1 (by omega)
  rw [h0] at hq
  exact Ct.ofGo [some (.ref 33), some (.ref o1), some (.ref (mcl k)), some (.int (nI frm)), some (.int (nI to)), some (.int (nI ls)), none, none, none, none, none, none, none] (by decide +kernel) rfl (Nat.le_of_ble_eq_true rfl) (w_CU_offerWithoutTwo_0 h1 (mes_lt hk) (fun _ => hq I J FO.rf hT) (fun c => absurd h9 c) (fun c => absurd h9 c))
theorem OfC.mono {M : MT} {k : Nat} {L : List Pt} {o1 q K ls e : Nat} {pc pc' : PCS} (h : OfC G M k L o1 q K ls e pc) (he : ∀ a b, a ≤ b → b < L.length → pc e a b = pc' e a b) : OfC G M k L o1 q K ls e pc' := by
  intro d P I J T frm to h1 h2 h3 h4 h5 h6 hq
  exact h d P I J T frm to h1 h2 h3 h4 h5 h6 (by rw [he frm to h1 h2]; exact hq)
/-- the class cuts a row -/
theorem sp_cut0 {k : Nat} (hk : k < 4) {L : List Pt} {o1 K ls : Nat} (hok : okP L) (h1 : PtsAt o1) (hK : 1 ≤ K) (hK6 : K ≤ 6) (hls : ls ≤ 100) (hP : PF o1 L I) (h35 : J 35 1 = 0) (h38 : J 38 1 = 20) (hq : ∀ I' J', FQ I J I' J' → CS (cP k L ls) L.length K I' J' → ((Dp (cP k L ls) L.length K 0).isSome = true → ∀ i, i < K → I' 49 i = nI (plc (cP k L ls) L.length K i)) → P (some (.int (if (Dp (cP k L ls) L.length K 0).isSome = true then 1 else 0))) I' J') : Ct G (d + 4) m_CU_cutPoints [.ref 33, .ref o1, .int (nI k), .int (nI K), .int (nI ls), .int 0] P I J := by
  have hl := hok.1
  have hW0 := of_whole (G := G) (q := 0) (K := K) (pc := fun _ a b => pc0 k L ls a b) hk hok h1 (by omega) hK hK6 hls (fun a b => rfl)
  have hW := OfC.mono (pc' := pcQ0 k L ls) hW0 (fun a b g1 g2 => by unfold pcQ0; rw [if_pos rfl, if_pos ⟨g2, g1⟩])
  have hN1 := of_none (G := G) (L := L) (K := K) (ls := ls) (pc := pcQ0 k L ls) hk h1 (fun a b => by unfold pcQ0; rw [if_neg (by decide)])
  have hN2 := of_none2 (G := G) (L := L) (q := 0) (K := K) (ls := ls) (pc := pcQ0 k L ls) hk (by omega) h1 (fun a b => by unfold pcQ0; rw [if_neg (by decide)])
  refine sp_cutPoints (q := 0) (pc := pcQ0 k L ls) hk hok h1 (by omega) hK hK6 (pcQ0_ok hok) hP h35 h38 hW hN1 hN2 (fun I' J' g1 g2 g3 => ?_)
  have hD : ∀ k' a, a ≤ L.length → (k' ≤ mostOf K a ∨ k' = 0) → allT (pcQ0 k L ls) 0 K L.length L.length 0 k' a = lft (Dp (cP k L ls) L.length k' a) := fun k' a g4 g5 => by
    rw [(all0 pcQ0_c L.length (Nat.le_refl _)).1 k' a (by omega) g4 g5, cPn_D g4]
  have hokT := ok_all (q := 0) (K := K) (pcQ0_ok (k := k) (ls := ls) hok) hl L.length (Nat.le_refl _)
  refine sp_trace0 hl hK hK6 g3 hokT g2.2.2.2.2 hD (fun I2 f1 f2 => w_CU_cutPoints_133 (hq I2 J' ?_ ⟨_, g3.of (f1 44 (by decide)) (f1 45 (by decide)) rfl rfl, hokT, hD, by rw [f1 33 (by decide)]; exact g2.2.2.2.1, by rw [f1 33 (by decide)]; exact g2.2.2.2.2⟩ f2) ?_)
  · exact ⟨fun a ha => (f1 a (by omega)).trans (g1.1 a ha), g1.2.1, g1.2.2.1, g1.2.2.2⟩
  · split
    · exact Or.inr rfl
    · exact Or.inl rfl
end
