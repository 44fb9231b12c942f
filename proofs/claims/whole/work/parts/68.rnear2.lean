/-! ===== near: the reference's loops ===== -/
theorem few_some {c : CC} {ls a b : Nat} (h : fewC c ls) (hab : a ≤ b) (hl : ls ≤ b - a + 1) : ∃ x, c a b = some x := by
  cases hc : c a b with
  | none => have := (h a b hab).mp hc; omega
  | some x => exact ⟨x, rfl⟩
theorem nrT_lo {c : CC} {n B p K ls f : Nat} (h : fewC c ls) (hf : f < ls) : nrT c n B p K f = 0 := by
  unfold nrT
  by_cases q : f = 0
  · rw [if_pos q]
  · rw [if_neg q, (h 0 (f - 1) (by omega)).mpr (by omega)]
theorem mdN_hi {c : CC} {n B p x ls f t : Nat} (h : fewC c ls) (hls : 1 ≤ ls) (ht : t < n - 1) (hb : n < t + 1 + ls) : mdN c n B p x f t = 0 := by
  unfold mdN
  by_cases q : t < f
  · rw [if_pos q]
  · rw [if_neg q]
    cases c f t with
    | none => rfl
    | some y => show tlN c n B p (x + y) (t + 1) = 0; unfold tlN; rw [(h (t + 1) (n - 1) (by omega)).mpr (by omega)]
theorem mdN_lo {c : CC} {n B p x ls f t : Nat} (h : fewC c ls) (ht : t + 1 < f + ls) : mdN c n B p x f t = 0 := by
  unfold mdN
  by_cases q : t < f
  · rw [if_pos q]
  · rw [if_neg q, (h f t (by omega)).mpr (by omega)]
theorem nrT_hi {c : CC} {n B p K ls f : Nat} (h : fewC c ls) (hls : 1 ≤ ls) (hf : f < n) (hb : n < f + ls) : nrT c n B p K f = 0 := by
  unfold nrT
  by_cases q : f = 0
  · rw [if_pos q]
  · rw [if_neg q]
    cases c 0 (f - 1) with
    | none => rfl
    | some x =>
      show (if K = 2 then tlN c n B p x f else gs (mdN c n B p x f) (n - 1)) = 0
      by_cases hK : K = 2
      · rw [if_pos hK]; unfold tlN; rw [(h f (n - 1) (by omega)).mpr (by omega)]
      · rw [if_neg hK]
        exact gs_z _ (fun t ht => by
          by_cases q2 : t + 1 < f + ls
          · exact mdN_lo h q2
          · omega)
section
variable {G : GC} {d : Nat} {P : PT} {I : MI} {J : MJ}
theorem rn3_loop {c : CC} {n p ls a x acc : Nat} {t : Nat × Nat} (hc : okC c n) (hn : n ≤ 40) (hfew : fewC c ls) (hls : 1 ≤ ls) (hls2 : ls ≤ 10) (hM : BM c n 3 J) (hC : CTc c n J) (ht : Dp c n 3 0 = some t) (hp : p ≤ 1000) (h7 : I 67 7 = nI n) (ha : 1 ≤ a) (han : a + ls ≤ n) (hx : c 0 (a - 1) = some x) (hq : Go G (fr G m_RM_near (d + 5) P) 70 [some (.ref 67), none, none, some (.int (nI 3)), some (.int (nI p)), some (.int (nI ls)), some (.int (nI (acc + gs (mdN c n t.1 p x a) (n - 1)))), some (.int (nI a + 1)), none, none, none, none, none, none, none, none, none, none] [] I J) : ∀ (r b : Nat), b + r = n → a + ls ≤ b → Go G (fr G m_RM_near (d + 5) P) 107 [some (.ref 67), none, none, some (.int (nI 3)), some (.int (nI p)), some (.int (nI ls)), some (.int (nI (acc + gs (mdN c n t.1 p x a) (b - 1)))), some (.int (nI a)), some (.int (nI (a - 1))), some (.int (nI b)), none, none, none, none, none, none, none, none] [] I J := by
  have hne : ¬ nI 3 = 2 := by decide
  have esub : nI n - nI ls = nI (n - ls) := nI_sub (by omega)
  intro r
  induction r with
  | zero =>
    intro b hb hab
    refine w_RM_near_107 (fun _ => ?_) (fun c => absurd c hne)
    have hlt : (I 67 7 - nI ls) < nI b := by rw [h7, esub]; exact nI_lt (by omega) (by omega)
    refine w_RM_near_124 (fun _ => ?_) (fun c => absurd hlt c) (fun c => absurd hlt c) (fun c => absurd hlt c)
    rw [show b - 1 = n - 1 by omega]; exact hq
  | succ r ih =>
    intro b hb hab
    refine w_RM_near_107 (fun _ => ?_) (fun c => absurd c hne)
    by_cases hx2 : n - ls < b
    · have hlt : (I 67 7 - nI ls) < nI b := by rw [h7, esub]; exact nI_lt (by omega) (by omega)
      refine w_RM_near_124 (fun _ => ?_) (fun c => absurd hlt c) (fun c => absurd hlt c) (fun c => absurd hlt c)
      have e : gs (mdN c n t.1 p x a) (b - 1) = gs (mdN c n t.1 p x a) (n - 1) := gs_tail (by omega) (fun t' h1 h2 => mdN_hi hfew hls h2 (by omega))
      rw [e]; exact hq
    · have hno : ¬ (I 67 7 - nI ls) < nI b := by rw [h7, esub]; exact nI_nlt (by omega) (by omega)
      obtain ⟨y, hy⟩ := few_some hfew (show a ≤ b - 1 by omega) (by omega)
      obtain ⟨z, hz⟩ := few_some hfew (show b ≤ n - 1 by omega) (by omega)
      refine rn_step (x := x) (y := y) hc hn (Or.inr rfl) hM hC ht hp h7 ha (by omega) (by omega) hx hy (fun _ => by omega) hno (x + y + z) ⟨fun h => absurd h (by decide), fun _ z' hz' => by rw [hz] at hz'; rw [Option.some.inj hz'], fun _ => ⟨z, hz⟩⟩ ?_
      have hnx := ih (b + 1) (by omega) (by omega)
      have e : gs (mdN c n t.1 p x a) (b + 1 - 1) = gs (mdN c n t.1 p x a) (b - 1) + (if 100 * (x + y + z) ≤ (100 + p) * t.1 then 1 else 0) := by
        rw [show b + 1 - 1 = b - 1 + 1 by omega, gs_s]
        have e1 : mdN c n t.1 p x a (b - 1) = (if 100 * (x + y + z) ≤ (100 + p) * t.1 then 1 else 0) := by
          unfold mdN
          rw [if_neg (by omega), hy]
          show tlN c n t.1 p (x + y) (b - 1 + 1) = _
          unfold tlN
          rw [show b - 1 + 1 = b by omega, hz]
        rw [e1]
      rw [e, ← Nat.add_assoc] at hnx
      exact hnx
theorem rn2_step {c : CC} {n p ls a x acc : Nat} {t : Nat × Nat} (hc : okC c n) (hn : n ≤ 40) (hfew : fewC c ls) (hls : 1 ≤ ls) (hM : BM c n 2 J) (hC : CTc c n J) (ht : Dp c n 2 0 = some t) (hp : p ≤ 1000) (h7 : I 67 7 = nI n) (ha : 1 ≤ a) (han : a + ls ≤ n) (hx : c 0 (a - 1) = some x) (hq : Go G (fr G m_RM_near (d + 5) P) 70 [some (.ref 67), none, none, some (.int (nI 2)), some (.int (nI p)), some (.int (nI ls)), some (.int (nI (acc + tlN c n t.1 p x a))), some (.int (nI a + 1)), none, none, none, none, none, none, none, none, none, none] [] I J) : Go G (fr G m_RM_near (d + 5) P) 107 [some (.ref 67), none, none, some (.int (nI 2)), some (.int (nI p)), some (.int (nI ls)), some (.int (nI acc)), some (.int (nI a)), some (.int (nI (a - 1))), some (.int (nI n)), none, none, none, none, none, none, none, none] [] I J := by
  have heq : nI 2 = 2 := by decide
  refine w_RM_near_107 (fun c => absurd heq c) (fun _ => ?_)
  have hno : ¬ (I 67 7 - 0) < nI n := by rw [h7, Int32.sub_zero]; exact nI_nlt (Nat.le_refl _) (by omega)
  obtain ⟨y, hy⟩ := few_some hfew (show a ≤ n - 1 by omega) (by omega)
  refine rn_step (x := x) (y := y) hc hn (Or.inl rfl) hM hC ht hp h7 ha (by omega) (by omega) hx hy (fun h => absurd h (by decide)) hno (x + y) ⟨fun _ => rfl, fun h => absurd h (by decide), fun h => absurd h (by decide)⟩ ?_
  refine w_RM_near_107 (fun c => absurd heq c) (fun _ => ?_)
  have hlt : (I 67 7 - 0) < nI (n + 1) := by rw [h7, Int32.sub_zero]; exact nI_lt (by omega) (by omega)
  refine w_RM_near_124 (fun _ => ?_) (fun c => absurd hlt c) (fun c => absurd hlt c) (fun c => absurd hlt c)
  have e : tlN c n t.1 p x a = (if 100 * (x + y) ≤ (100 + p) * t.1 then 1 else 0) := by unfold tlN; rw [hy]
  rw [e] at hq; exact hq
theorem rn_loop {c : CC} {n K p ls : Nat} {t : Nat × Nat} (hc : okC c n) (hn : n ≤ 40) (hfew : fewC c ls) (hls : 1 ≤ ls) (hls2 : ls ≤ 10) (hK : K = 2 ∨ K = 3) (hM : BM c n K J) (hC : CTc c n J) (ht : Dp c n K 0 = some t) (hp : p ≤ 1000) (h7 : I 67 7 = nI n) (hq : P (some (.int (nI (nearN c n t.1 p K)))) I J) : ∀ (r a : Nat), a + r = n → ls ≤ a → Go G (fr G m_RM_near (d + 5) P) 70 [some (.ref 67), none, none, some (.int (nI K)), some (.int (nI p)), some (.int (nI ls)), some (.int (nI (gs (nrT c n t.1 p K) a))), some (.int (nI a)), none, none, none, none, none, none, none, none, none, none] [] I J := by
  intro r
  induction r with
  | zero =>
    intro a ha hla
    have hlt : I 67 7 < nI a + nI ls := by rw [h7, nI_add]; exact nI_lt (by omega) (by omega)
    refine w_RM_near_70 (fun _ => ?_) (fun c => absurd hlt c) (fun c => absurd hlt c)
    rw [show a = n by omega]; exact hq
  | succ r ih =>
    intro a ha hla
    by_cases hx2 : n < a + ls
    · have hlt : I 67 7 < nI a + nI ls := by rw [h7, nI_add]; exact nI_lt (by omega) (by omega)
      refine w_RM_near_70 (fun _ => ?_) (fun c => absurd hlt c) (fun c => absurd hlt c)
      have e : gs (nrT c n t.1 p K) a = gs (nrT c n t.1 p K) n := gs_tail (by omega) (fun f h1 h2 => nrT_hi hfew hls h2 (by omega))
      rw [e]; exact hq
    · have hno : ¬ I 67 7 < nI a + nI ls := by rw [h7, nI_add]; exact nI_nlt (by omega) (by omega)
      have ea : nI a - 1 = nI (a - 1) := by rw [show a = a - 1 + 1 by omega]; exact nI_pred _
      obtain ⟨x, hx⟩ := few_some hfew (show 0 ≤ a - 1 by omega) (by omega)
      have hnx := ih (a + 1) (by omega) (by omega)
      rw [gs_s] at hnx
      refine w_RM_near_70 (fun c => absurd c hno) (fun _ q => ?_) (fun _ q => ?_)
      · have hK3 : K = 3 := by rcases hK with h | h; (· subst h; exact absurd rfl q); (· exact h)
        subst hK3
        have e1 : nrT c n t.1 p 3 a = gs (mdN c n t.1 p x a) (n - 1) := by unfold nrT; rw [if_neg (by omega), hx]; exact if_neg (by decide)
        rw [e1] at hnx
        rw [ea, nI_add]
        refine w_RM_near_105 ?_
        have h0 := rn3_loop (G := G) (d := d) (P := P) (acc := gs (nrT c n t.1 p 3) a) hc hn hfew hls hls2 hM hC ht hp h7 (by omega) (by omega) hx (by rw [nI_1]; exact hnx) (n - (a + ls)) (a + ls) (by omega) (Nat.le_refl _)
        rw [gs_z (a + ls - 1) (fun t' ht' => mdN_lo hfew (by omega)), Nat.add_zero] at h0
        exact h0
      · have hK2 : K = 2 := by rcases hK with h | h; (· exact h); (· subst h; exact absurd q (by decide))
        subst hK2
        have e1 : nrT c n t.1 p 2 a = tlN c n t.1 p x a := by unfold nrT; rw [if_neg (by omega), hx]; exact if_pos rfl
        rw [e1] at hnx
        rw [ea, h7]
        refine w_RM_near_105 ?_
        exact rn2_step hc hn hfew hls hM hC ht hp h7 (by omega) (by omega) hx (by rw [nI_1]; exact hnx)
theorem md_near {st : ST} {r kd K p : Int32} (hR : RM st I J) (hS : okS st) (hq : ∀ I' J', KM I J I' J' → P (some (.int (nearA st r kd K p))) I' J') : Ct G (d + 5) m_RM_near [.ref 67, .int r, .int kd, .int K, .int p] P I J := by
  have hbad : (f_LB_isRow r = 0 ∨ f_LB_isKind kd = 0 ∨ f_LB_isWithin K 2 3 = 0 ∨ f_LB_isWithin p 0 1000 = 0) → Go G (fr G m_RM_near (d + 5) P) 35 [none, none, none, none, none, none, none, none, none, none, none, none, none, none, none, none, none, none] [] I J := fun hb => by
    have := hq I J KM.rf
    unfold nearA at this
    rw [if_pos hb] at this; exact w_RM_near_35 this
  refine Ct.ofGo [some (.ref 67), some (.int r), some (.int kd), some (.int K), some (.int p), none, none, none, none, none, none, none, none, none, none, none, none, none] (by decide +kernel) rfl (Nat.le_of_ble_eq_true rfl) (w_RM_near_0 (fun c => hbad (Or.inl c)) (fun _ c => hbad (Or.inr (Or.inl c))) (fun _ _ c => hbad (Or.inr (Or.inr (Or.inl c)))) (fun c1 c2 c3 c4 => ?_) (fun _ _ _ c => hbad (Or.inr (Or.inr (Or.inr c)))))
  have c1 : ¬ f_LB_isRow r = 0 := c1
  have c2 : ¬ f_LB_isKind kd = 0 := c2
  have c3 : ¬ f_LB_isWithin K 2 3 = 0 := c3
  have c4 : ¬ f_LB_isWithin p 0 1000 = 0 := c4
  have hnb : ¬ (f_LB_isRow r = 0 ∨ f_LB_isKind kd = 0 ∨ f_LB_isWithin K 2 3 = 0 ∨ f_LB_isWithin p 0 1000 = 0) := by
    rintro (h | h | h | h)
    · exact c1 h
    · exact c2 h
    · exact c3 h
    · exact c4 h
  unfold nearA at hq
  rw [if_neg hnb] at hq
  obtain ⟨r, hr, rfl⟩ := isRow1 c1
  obtain ⟨k, hk, rfl⟩ := isKind1 c2
  obtain ⟨K, hK, rfl⟩ := isW23 c3
  obtain ⟨p, hp, rfl⟩ := isW_nI (m := 1000) (by omega) c4
  have er : (nI r).toNatClampNeg = r := nI_clamp (by omega)
  rw [er, nI_clamp (show k < 2 ^ 31 by omega), nI_clamp (show K < 2 ^ 31 by omega), nI_clamp (show p < 2 ^ 31 by omega)] at hq
  unfold nearB at hq
  have hn := nR_le hS r
  have hok := pts_ok hS r
  obtain ⟨e1, l1, l2⟩ := lsr_ok hS hr
  rw [hR.2.1]
  refine md_finds hR hS hr hk (by omega) (by omega) (fun I1 g1 _ g2 => ?_) (fun I1 J1 g1 _ g2 => ?_)
  · have g2 : (Dp (cR st r k) (nR st r) K 0).isSome = false := g2
    cases hd : Dp (cR st r k) (nR st r) K 0 with
    | none => rw [hd] at hq; exact w_RM_near_49 (fun c => absurd rfl c) (fun c => absurd rfl c) (fun _ => hq I1 J g1)
    | some t => rw [hd] at g2; exact absurd g2 (by simp)
  · obtain ⟨t, ht⟩ := Option.isSome_iff_exists.mp g2.2.2.2.1
    have ht' : Dp (cR st r k) (nR st r) K 0 = some t := ht
    have hlen : K * lsr st r ≤ nR st r := by
      have hs : (Dp (cR st r k) (nR st r) (K - 1 + 1) 0).isSome = true := by rw [show K - 1 + 1 = K by omega, ht']; rfl
      have := (Dp_some (cP_few k (pts st r) (lsr st r)) l1 (K - 1) 0 (Nat.zero_le _)).mp hs
      rw [show K - 1 + 1 = K by omega] at this
      exact this
    rw [ht'] at hq
    have hR1 := hR.keep g1
    have hne : ¬ (1 : Int32) = 0 := by decide
    refine w_RM_near_49 (fun _ => vp_in_nI hr (by omega)) (fun _ => ?_) (fun c => absurd c hne)
    rw [er, hR1.2.2.1 r hr, e1]
    have hfew := cP_few k (pts st r) (lsr st r)
    have hln : lsr st r ≤ nR st r := by rcases hK with h | h <;> subst h <;> omega
    have h0 := rn_loop (G := G) (d := d) (P := P) (I := I1) (J := J1) (c := cR st r k) (n := nR st r) (K := K) (p := p) (ls := lsr st r) (t := t) (cP_ok hok) hn hfew l1 l2 hK g2.2.2.1 (CT.c hok g2.2.1) ht' hp g2.1.1 (hq I1 J1 g1) (nR st r - lsr st r) (lsr st r) (by omega) (Nat.le_refl _)
    have e0 : gs (nrT (cR st r k) (nR st r) t.1 p K) (lsr st r) = 0 := gs_z (lsr st r) (fun f hf => nrT_lo (c := cR st r k) hfew hf)
    rw [e0] at h0
    exact h0
end
