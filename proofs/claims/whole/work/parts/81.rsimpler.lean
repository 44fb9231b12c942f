/-! ===== simpler: the reference ===== -/
theorem kp_okP {L : List Pt} (hok : okP L) (D : List Nat) : okP (kp L D 0 L.length) := by
  have ha : 0 + L.length ≤ L.length := by omega
  exact ⟨Nat.le_trans (kp_le ha) hok.1, kp_okV hok ha, kp_pw hok ha⟩
theorem Ach_len {kd ls : Nat} : ∀ k M v, Ach kd ls k M v → k * ls ≤ M.length := by
  intro k
  induction k with
  | zero => intro M v _; omega
  | succ k ih =>
    rintro M v ⟨M1, M2, u, rfl, h2, h3, -⟩
    have := ih M2 u h3
    rw [List.length_append, Nat.succ_mul]; omega
def KT (L : List Pt) (I : MI) : Prop := I 67 25 = nI L.length ∧ ∀ i, i < L.length → I 87 i = (L.getD i (0, 0)).2 ∧ I 88 i = nI (L.getD i (0, 0)).1
theorem KT.fp {L : List Pt} {I I' : MI} (h : KT L I) (g : FP I I') : KT L I' := ⟨by rw [g.2 25 (by omega)]; exact h.1, fun i hi => by rw [g.1 87 (by omega) (by omega) (by omega) (by omega), g.1 88 (by omega) (by omega) (by omega) (by omega)]; exact h.2 i hi⟩
theorem KT.fc {L : List Pt} {I I' : MI} {J J' : MJ} (h : KT L I) (g : FC I J I' J') : KT L I' := ⟨by rw [g.1 67 (by decide)]; exact h.1, fun i hi => by rw [g.1 87 (by decide), g.1 88 (by decide)]; exact h.2 i hi⟩
/-- the pairs that came before (a, b) -/
def WQ (kd ls : Nat) (L : List Pt) (K q a b : Nat) : Nat → Nat → Prop := fun v w => ∃ x y, x ≤ y ∧ y < L.length ∧ (q = 1 ↔ x = y) ∧ (x < a ∨ (x = a ∧ y < b)) ∧ Ach kd ls K (kp L [x, y] 0 L.length) v ∧ w = (if q = 1 then x else x * 40 + y)
theorem WQ_WS {kd ls : Nat} {L : List Pt} {K q : Nat} (hq : q = 1 ∨ q = 2) (v w : Nat) : WQ kd ls L K q L.length L.length v w ↔ WS kd ls L K q v w := by
  have hxx : ∀ x, kp L [x, x] 0 L.length = kp L [x] 0 L.length := fun x => kp_congr _ (fun i _ _ => by simp)
  constructor
  · rintro ⟨x, y, h1, h2, h3, h4, h5, h6⟩
    rcases hq with rfl | rfl
    · have e := h3.mp rfl
      subst e
      rw [hxx] at h5
      rw [if_pos rfl] at h6
      exact ⟨[x], DS_1 (Nat.zero_le _) h2, rfl, by rw [cdn1]; exact h6.symm, h5⟩
    · have hne : x ≠ y := fun e => absurd (h3.mpr e) (by decide)
      rw [if_neg (by decide)] at h6
      exact ⟨[x, y], DS_2 (Nat.zero_le _) (by omega) h2, rfl, by rw [cdn2]; exact h6.symm, h5⟩
  · rintro ⟨D, d1, d2, d3, d4⟩
    rcases hq with rfl | rfl
    · obtain ⟨x, rfl, a1, a2⟩ := DS1 d1 d2
      rw [cdn1] at d3
      exact ⟨x, x, Nat.le_refl _, a2, ⟨fun _ => rfl, fun _ => rfl⟩, by omega, by rw [hxx]; exact d4, by rw [if_pos rfl]; exact d3.symm⟩
    · obtain ⟨x, y, rfl, a1, a2, a3⟩ := DS2 d1 d2
      rw [cdn2] at d3
      exact ⟨x, y, by omega, a3, ⟨fun h => absurd h (by decide), fun h => by omega⟩, by omega, d4, by rw [if_neg (by decide)]; exact d3.symm⟩
def okR (q n : Nat) (o : Option (Nat × Nat)) (x6 x7 : Int32) (l8 l10 l12 : Int64) : Prop := match o with
  | none => x6 = -1
  | some p => (∃ A B, A < n ∧ B < n ∧ x6 = nI A ∧ x7 = nI B ∧ p.2 = (if q = 1 then A else A * 40 + B) ∧ (q = 1 → B = A)) ∧ l8 = lI ((vW p.1 : Nat) : Int) ∧ l10 = lI ((vA p.1 : Nat) : Int) ∧ l12 = lI ((vB p.1 : Nat) : Int) ∧ vB p.1 < 2300000 ∧ vW p.1 ≤ 40000000
section
variable {G : GC} {d : Nat} {P : PT} {I : MI} {J : MJ}
theorem but_loop {L : List Pt} {a b : Nat} {I0 : MI} (hl : L.length ≤ 40) (hab : a < 1000 ∧ b < 1000) (hK : KT L I0) (hq : ∀ I', FP I0 I' → QL (kp L [a, b] 0 L.length) I' → P none I' J) : ∀ (r p : Nat) (I : MI), p + r = L.length → FP I0 I → QL (kp L [a, b] 0 p) I → Go G (fr G m_RM_but d P) 7 [some (.ref 67), some (.int (nI a)), some (.int (nI b)), some (.int (nI p))] [] I J := by
  intro r
  induction r with
  | zero =>
    intro p I hp hF hQ
    obtain rfl : p = L.length := by omega
    have hle : I 67 25 ≤ nI L.length := by rw [(hK.fp hF).1]; exact nI_le (Nat.le_refl _) (by omega)
    exact w_RM_but_7 (fun _ => hq I hF hQ) (fun c => absurd hle c) (fun c => absurd hle c) (fun c => absurd hle c) (fun c => absurd hle c) (fun c => absurd hle c)
  | succ r ih =>
    intro p I hp hF hQ
    have hKI := hK.fp hF
    have hc : ¬ I 67 25 ≤ nI p := by rw [hKI.1]; exact nI_ge (by omega) (by omega)
    have ca : (nI p = nI a) ↔ p = a := nI_eq (by omega) (by omega)
    have cb : (nI p = nI b) ↔ p = b := nI_eq (by omega) (by omega)
    have hlen : (kp L [a, b] 0 p).length ≤ p := kp_le (by omega)
    have hs := kp_s L [a, b] 0 p
    rw [Nat.zero_add] at hs
    have skip : (p = a ∨ p = b) → Go G (fr G m_RM_but d P) 65 [some (.ref 67), some (.int (nI a)), some (.int (nI b)), some (.int (nI p))] [] I J := fun h => by
      refine w_RM_but_65 ?_
      rw [nI_1]
      refine ih (p + 1) I (by omega) hF ?_
      rw [hs, if_pos (by simpa using h), List.append_nil]; exact hQ
    refine w_RM_but_7 (fun c => absurd c hc) (fun _ c => skip (Or.inl (ca.mp c))) (fun _ _ c => skip (Or.inr (cb.mp c))) (fun _ _ _ => vp_in_nI (by omega) (by omega)) (fun _ _ _ => by rw [hQ.1]; exact vp_in_nI (by omega) (by omega)) (fun _ c1 c2 => w_RM_but_65 ?_)
    have hna : ¬ p ∈ [a, b] := by
      simp only [List.mem_cons, List.not_mem_nil, or_false, not_or]
      exact ⟨fun h => c1 (ca.mpr h), fun h => c2 (cb.mpr h)⟩
    rw [if_neg hna] at hs
    have ep : (nI p).toNatClampNeg = p := nI_clamp (by omega)
    have es : (I 67 7).toNatClampNeg = (kp L [a, b] 0 p).length := by rw [hQ.1]; exact nI_clamp (by omega)
    rw [ep, es, hQ.1, nI_1, nI_1, (hKI.2 p (by omega)).1, (hKI.2 p (by omega)).2]
    refine ih (p + 1) _ (by omega) ⟨fun c h1 h2 h3 h4 => by rw [u2_o h1, u2_o h3, u2_o h2]; exact hF.1 c h1 h2 h3 h4, fun k hk => by rw [u2_k hk, u2_o (by decide), u2_o (by decide)]; exact hF.2 k hk⟩ ?_
    rw [hs]
    refine ⟨by rw [u2_s, List.length_append]; rfl, fun k hk => ?_⟩
    rw [List.length_append] at hk
    rcases Nat.lt_or_ge k (kp L [a, b] 0 p).length with q | q
    · rw [getD_app1 q]
      refine ⟨?_, ?_⟩
      · rw [u2_o (by decide), u2_o (by decide), u2_k (by omega)]; exact (hQ.2 k q).1
      · rw [u2_o (by decide), u2_k (by omega), u2_o (by decide)]; exact (hQ.2 k q).2
    · obtain rfl : k = (kp L [a, b] 0 p).length := by simp at hk; omega
      rw [getD_app2]
      refine ⟨?_, ?_⟩
      · rw [u2_o (by decide), u2_o (by decide), u2_s]
      · rw [u2_o (by decide), u2_s]
theorem md_but {L : List Pt} {a b : Nat} (hl : L.length ≤ 40) (hab : a < 1000 ∧ b < 1000) (hK : KT L I) (hq : ∀ I', FP I I' → QL (kp L [a, b] 0 L.length) I' → P none I' J) : Ct G d m_RM_but [.ref 67, .int (nI a), .int (nI b)] P I J :=
  Ct.ofGo [some (.ref 67), some (.int (nI a)), some (.int (nI b)), none] (by decide +kernel) rfl (Nat.le_of_ble_eq_true rfl) (w_RM_but_0 (but_loop (I0 := I) hl hab hK hq L.length 0 _ (by omega) ⟨fun c h1 _ _ _ => by rw [u2_o h1], fun k hk => by rw [u2_k hk]⟩ ⟨by rw [u2_s]; rfl, fun k hk => absurd hk (by rw [kp_0]; simp)⟩))
theorem sr_b {st : ST} (hS : okS st) {r k K q a : Nat} {x5 : Int32} {I0 : MI} {J0 : MJ} (hR : RM st I0 J0) (hr : r < 4) (hk : k < 4) (hK : 1 ≤ K) (hK6 : K ≤ 6) (hq12 : q = 1 ∨ q = 2) (hn : K * lsr st r + q ≤ (pts st r).length) (ha : a < (pts st r).length) (hq : ∀ (I : MI) (J : MJ) (o : Option (Nat × Nat)) (x6 x7 : Int32) (l8 l10 l12 : Int64), KM I0 J0 I J → KT (pts st r) I → okR q (pts st r).length o x6 x7 l8 l10 l12 → isMin o (WQ k (lsr st r) (pts st r) K q a (pts st r).length) → Go G (fr G m_RM_simpler (d + 4) P) 148 [some (.ref 67), some (.int (nI r)), some (.int (nI k)), some (.int (nI K)), some (.int (nI q)), some (.int x5), some (.int x6), some (.int x7), some (.long l8), none, some (.long l10), none, some (.long l12), none, some (.int (nI a + 1)), none] [] I J) : ∀ (m b : Nat) (I : MI) (J : MJ) (o : Option (Nat × Nat)) (x6 x7 : Int32) (l8 l10 l12 : Int64), b + m = (pts st r).length → a ≤ b → KM I0 J0 I J → KT (pts st r) I → okR q (pts st r).length o x6 x7 l8 l10 l12 → isMin o (WQ k (lsr st r) (pts st r) K q a b) → Go G (fr G m_RM_simpler (d + 4) P) 161 [some (.ref 67), some (.int (nI r)), some (.int (nI k)), some (.int (nI K)), some (.int (nI q)), some (.int x5), some (.int x6), some (.int x7), some (.long l8), none, some (.long l10), none, some (.long l12), none, some (.int (nI a)), some (.int (nI b))] [] I J := by
  have hok := pts_ok hS r
  have hl := hok.1
  obtain ⟨e1, l1, l2⟩ := lsr_ok hS hr
  generalize hLL : pts st r = L at *
  generalize hls : lsr st r = ls at *
  intro m
  induction m with
  | zero =>
    intro b I J o x6 x7 l8 l10 l12 hb hab hF hT ho hW
    obtain rfl : b = L.length := by omega
    have hle : I 67 25 ≤ nI L.length := by rw [hT.1]; exact nI_le (Nat.le_refl _) (by omega)
    exact w_RM_simpler_161 (fun _ => hq I J o x6 x7 l8 l10 l12 hF hT ho hW) (fun c => absurd hle c) (fun c => absurd hle c)
  | succ m ih =>
    intro b I J o x6 x7 l8 l10 l12 hb hab hF hT ho hW
    have hc : ¬ I 67 25 ≤ nI b := by rw [hT.1]; exact nI_ge (by omega) (by omega)
    have c1 : (nI q = 1) ↔ q = 1 := nI_eq (b := 1) (by omega) (by omega)
    have cab : (nI a = nI b) ↔ a = b := nI_eq (by omega) (by omega)
    have nxt : ∀ (I' : MI) (J' : MJ) (o' : Option (Nat × Nat)) (x6' x7' : Int32) (l8' l10' l12' : Int64), KM I0 J0 I' J' → KT L I' → okR q L.length o' x6' x7' l8' l10' l12' → isMin o' (WQ k ls L K q a (b + 1)) → Go G (fr G m_RM_simpler (d + 4) P) 296 [some (.ref 67), some (.int (nI r)), some (.int (nI k)), some (.int (nI K)), some (.int (nI q)), some (.int x5), some (.int x6'), some (.int x7'), some (.long l8'), none, some (.long l10'), none, some (.long l12'), none, some (.int (nI a)), some (.int (nI b))] [] I' J' := fun I' J' o' x6' x7' l8' l10' l12' f1 f2 f3 f4 => by
      refine w_RM_simpler_296 ?_
      rw [nI_1]
      exact ih (b + 1) I' J' o' x6' x7' l8' l10' l12' (by omega) (by omega) f1 f2 f3 f4
    have skip : ¬ (q = 1 ↔ a = b) → Go G (fr G m_RM_simpler (d + 4) P) 296 [some (.ref 67), some (.int (nI r)), some (.int (nI k)), some (.int (nI K)), some (.int (nI q)), some (.int x5), some (.int x6), some (.int x7), some (.long l8), none, some (.long l10), none, some (.long l12), none, some (.int (nI a)), some (.int (nI b))] [] I J := fun h => by
      refine nxt I J o x6 x7 l8 l10 l12 hF hT ho (isMin_congr hW (fun v w => ?_))
      unfold WQ
      constructor
      · rintro ⟨x, y, a1, a2, a3, a4, a5⟩
        exact ⟨x, y, a1, a2, a3, by omega, a5⟩
      · rintro ⟨x, y, a1, a2, a3, a4, a5⟩
        refine ⟨x, y, a1, a2, a3, ?_, a5⟩
        rcases a4 with c | ⟨c, c'⟩
        · exact Or.inl c
        · by_cases qq : y = b
          · subst c; subst qq; exact absurd a3 h
          · exact Or.inr ⟨c, by omega⟩
    have go : (q = 1 ↔ a = b) → Ct G (d + 3) m_RM_but [.ref 67, .int (nI a), .int (nI b)] (fun rr I' J' => Go G (fr G m_RM_simpler (d + 4) P) 204 [some (.ref 67), some (.int (nI r)), some (.int (nI k)), some (.int (nI K)), some (.int (nI q)), some (.int x5), some (.int x6), some (.int x7), some (.long l8), none, some (.long l10), none, some (.long l12), none, some (.int (nI a)), some (.int (nI b))] (rr.toList ++ []) I' J') I J := fun hel => by
      refine md_but hl (by omega) hT (fun I1 g1 g2 => w_RM_simpler_204 ?_)
      have hokM := kp_okP hok [a, b]
      have hMl : (kp L [a, b] 0 L.length).length + q = L.length := by
        rcases hq12 with h | h
        · have e := hel.mp h
          have hxx : kp L [a, b] 0 L.length = kp L [a] 0 L.length := kp_congr _ (fun i _ _ => by rw [← e]; simp)
          have := kp_len (L := L) (a := 0) L.length [a] (DS_1 (Nat.zero_le _) (by omega))
          rw [hxx, h]; exact this
        · have hne : a ≠ b := fun e => by have := hel.mpr e; omega
          have := kp_len (L := L) (a := 0) L.length [a, b] (DS_2 (Nat.zero_le _) (by omega) (by omega))
          rw [h]; exact this
      generalize hM : kp L [a, b] 0 L.length = M at *
      refine md_costs (L := M) hk hokM g2 (fun I2 J2 f1 f2 => w_RM_simpler_209 (vp_in_nI hr (by omega)) ?_)
      have hK2 : KM I0 J0 I2 J2 := (hF.tr g1.km).tr f1.km
      have hR2 := hR.keep hK2
      have hT2 : KT L I2 := (hT.fp g1).fc f1
      rw [nI_clamp (show r < 2 ^ 31 by omega), hR2.2.2.1 r hr, e1]
      have hQ2 := g2.fc f1
      have hfew := cP_few k M ls
      have hokC : okC (cP k M ls) M.length := cP_ok hokM
      refine md_cuts (d := d + 1) (c := cP k M ls) hokM.1 hokC hfew l1 (by omega) hK6 hQ2.1 (CT.c hokM f2) (fun J3 h1 h2 => ?_)
      have hK3 : KM I0 J0 I2 J3 := hK2.tr ⟨fun c hc => ⟨rfl, h1 c (by omega) (by omega) (by omega) (by omega)⟩, fun _ _ _ => rfl, rfl, fun _ _ _ => rfl, rfl, rfl, rfl, rfl⟩
      have hsome : (Dp (cP k M ls) M.length K 0).isSome = true := by
        obtain ⟨j, rfl⟩ : ∃ j, K = j + 1 := ⟨K - 1, by omega⟩
        exact (Dp_some hfew l1 j 0 (Nat.zero_le _)).mpr (by omega)
      obtain ⟨t, ht⟩ := Option.isSome_iff_exists.mp hsome
      have hac := Dp_Ach (kd := k) (M := M) l1 K 0 (Nat.zero_le _)
      rw [ht, List.drop_zero] at hac
      have henM := h2 K 0 (Nat.le_refl _) (Nat.zero_le _)
      rw [ht, Nat.add_zero] at henM
      obtain ⟨m1, m2, m3⟩ := henM
      obtain ⟨bd1, bd2⟩ := D_bd hokC hokM.1 (Nat.zero_le _) ht
      have hnew : isMin (some (t.1, if q = 1 then a else a * 40 + b)) (fun v w => Ach k ls K M v ∧ w = (if q = 1 then a else a * 40 + b)) := ⟨⟨hac.1, rfl⟩, fun v w h => by
        have := hac.2 v h.1
        unfold lexle
        rw [h.2]
        rcases Nat.lt_or_ge t.1 v with c | c
        · exact Or.inl c
        · exact Or.inr ⟨by show t.1 = v; omega, Nat.le_refl _⟩⟩
      have hnx : isMin (kmin o (t.1, if q = 1 then a else a * 40 + b)) (WQ k ls L K q a (b + 1)) := isMin_congr (isMin_keep hW hnew) (fun v w => by
        unfold WQ
        constructor
        · rintro (⟨x, y, a1, a2, a3, a4, a5⟩ | ⟨a1, a2⟩)
          · exact ⟨x, y, a1, a2, a3, by omega, a5⟩
          · exact ⟨a, b, hab, by omega, hel, by omega, by rw [hM]; exact a1, a2⟩
        · rintro ⟨x, y, a1, a2, a3, a4, a5, a6⟩
          by_cases qq : x = a ∧ y = b
          · obtain ⟨q1, q2⟩ := qq
            subst q1; subst q2
            rw [hM] at a5
            exact Or.inr ⟨a5, a6⟩
          · exact Or.inl ⟨x, y, a1, a2, a3, by omega, a5, a6⟩)
      have e41 : 41 * nI K = nI (41 * K) := (Int32.ofNat_mul 41 K).symm
      have e41c : (nI (41 * K)).toNatClampNeg = 41 * K := nI_clamp (by omega)
      have h255 : ∀ J4, (∀ c, c ≠ 67 → J4 c = J3 c) → isMin (some (t.1, if q = 1 then a else a * 40 + b)) (WQ k ls L K q a (b + 1)) → Go G (fr G m_RM_simpler (d + 4) P) 255 [some (.ref 67), some (.int (nI r)), some (.int (nI k)), some (.int (nI K)), some (.int (nI q)), some (.int x5), none, none, none, none, none, none, none, none, some (.int (nI a)), some (.int (nI b))] [] I2 J4 := fun J4 hJ4 hmin => by
        refine w_RM_simpler_255 (by rw [e41]; exact vp_in_nI (by omega) (by omega)) ?_
        rw [e41, e41c, hJ4 80 (by decide), hJ4 81 (by decide), hJ4 82 (by decide), m1, m2, m3]
        exact nxt I2 J4 (some (t.1, if q = 1 then a else a * 40 + b)) _ _ _ _ _ (hK3.tr ⟨fun c hc => ⟨rfl, hJ4 c (by omega)⟩, fun _ _ _ => rfl, rfl, fun _ _ _ => rfl, rfl, rfl, rfl, rfl⟩) hT2 ⟨⟨a, b, by omega, by omega, rfl, rfl, rfl, fun h => (hel.mp h).symm⟩, rfl, rfl, rfl, bd1, bd2⟩ hmin
      have hu : ∀ c, c ≠ 67 → u2 (u2 (u2 J3 67 18 l8) 67 19 l10) 67 20 l12 c = J3 c := fun c hc => by rw [u2_o hc, u2_o hc, u2_o hc]
      cases o with
      | none =>
        have ho : x6 = -1 := ho
        subst ho
        exact w_RM_simpler_220 (fun _ => h255 _ hu hnx) (fun c => absurd rfl c)
      | some p =>
        obtain ⟨⟨A, B, hA, hB, rfl, rfl, hp2, hBA⟩, rfl, rfl, rfl, b1, b2⟩ := ho
        have hn1 := nI_ne1 (n := A) (by omega)
        refine w_RM_simpler_220 (fun c => absurd c hn1) (fun _ => ?_)
        rw [e41]
        refine md_against (v := p.1) (w := t.1) (y := 41 * K) (by omega) ⟨?_, ?_, ?_⟩ (by rw [hu 80 (by decide)]; exact m1) (by rw [hu 81 (by decide)]; exact m2) (by rw [hu 82 (by decide)]; exact m3) (by omega) (by omega) (by omega) (by omega) ?_
        · rw [u2_k (by decide), u2_k (by decide), u2_s]
        · rw [u2_k (by decide), u2_s]
        · rw [u2_s]
        · unfold kmin at hnx
          dsimp only at hnx
          have hord : p.2 < (if q = 1 then a else a * 40 + b) := by
            obtain ⟨x, y, a1, a2, a3, a4, -, a6⟩ := hW.1
            rw [a6]
            by_cases qq : q = 1
            · rw [if_pos qq, if_pos qq]
              have := a3.mp qq
              have := hel.mp qq
              omega
            · rw [if_neg qq, if_neg qq]; omega
          have hcm : (cmpI p.1 t.1 ≤ 0) ↔ p.1 ≤ t.1 := by
            unfold cmpI
            by_cases q1 : p.1 < t.1
            · rw [if_pos q1]; exact ⟨fun _ => by omega, fun _ => by decide⟩
            · rw [if_neg q1]
              by_cases q2 : p.1 = t.1
              · rw [if_pos q2]; exact ⟨fun _ => by omega, fun _ => by decide⟩
              · rw [if_neg q2]; exact ⟨fun h => absurd h (by decide), fun h => by omega⟩
          refine w_RM_simpler_252 (fun c => ?_) (fun c => ?_)
          · have := hcm.mp c
            rw [if_neg (by omega)] at hnx
            exact nxt I2 _ (some p) _ _ _ _ _ (hK3.tr ⟨fun c hc => ⟨rfl, hu c (by omega)⟩, fun _ _ _ => rfl, rfl, fun _ _ _ => rfl, rfl, rfl, rfl, rfl⟩) hT2 ⟨⟨A, B, hA, hB, rfl, rfl, hp2, hBA⟩, rfl, rfl, rfl, b1, b2⟩ hnx
          · have : ¬ p.1 ≤ t.1 := fun h => c (hcm.mpr h)
            rw [if_pos (by omega)] at hnx
            exact h255 _ hu hnx
    have n01 : ¬ (0 : Int32) = 1 := by decide
    have n10 : ¬ (1 : Int32) = 0 := by decide
    refine w_RM_simpler_161 (fun c => absurd c hc) (fun _ c => ?_) (fun _ c => ?_)
    · have hq1 : ¬ q = 1 := fun h => c (c1.mpr h)
      refine w_RM_simpler_181 (fun c' => ?_) (fun c' => ?_)
      · have hne : ¬ a = b := fun h => c' (cab.mpr h)
        exact w_RM_simpler_193 (fun c => absurd rfl c) (fun _ => go ⟨fun h => absurd h hq1, fun h => absurd h hne⟩)
      · have he := cab.mp c'
        exact w_RM_simpler_193 (fun _ => skip (fun h => hq1 (h.mpr he))) (fun c => absurd c n01)
    · have hq1 : q = 1 := c1.mp c
      refine w_RM_simpler_181 (fun c' => ?_) (fun c' => ?_)
      · have hne : ¬ a = b := fun h => c' (cab.mpr h)
        exact w_RM_simpler_193 (fun _ => skip (fun h => hne (h.mp hq1))) (fun c => absurd c n10)
      · have he := cab.mp c'
        exact w_RM_simpler_193 (fun c => absurd rfl c) (fun _ => go ⟨fun _ => he, fun _ => hq1⟩)
theorem sr_a {st : ST} (hS : okS st) {r k K q i : Nat} {I0 : MI} {J0 : MJ} (hR : RM st I0 J0) (hr : r < 4) (hk : k < 4) (hK : 1 ≤ K) (hK6 : K ≤ 6) (hq12 : q = 1 ∨ q = 2) (hi : i < q) (hn : K * lsr st r + q ≤ (pts st r).length) (hq : ∀ I' J', KM I0 J0 I' J' → P (some (.int (simpN st r k K q i))) I' J') : ∀ (m a : Nat) (I : MI) (J : MJ) (o : Option (Nat × Nat)) (x6 x7 : Int32) (l8 l10 l12 : Int64), a + m = (pts st r).length → KM I0 J0 I J → KT (pts st r) I → okR q (pts st r).length o x6 x7 l8 l10 l12 → isMin o (WQ k (lsr st r) (pts st r) K q a a) → Go G (fr G m_RM_simpler (d + 4) P) 148 [some (.ref 67), some (.int (nI r)), some (.int (nI k)), some (.int (nI K)), some (.int (nI q)), some (.int (nI i)), some (.int x6), some (.int x7), some (.long l8), none, some (.long l10), none, some (.long l12), none, some (.int (nI a)), none] [] I J := by
  have hok := pts_ok hS r
  have hl := hok.1
  obtain ⟨e1, l1, l2⟩ := lsr_ok hS hr
  intro m
  induction m with
  | zero =>
    intro a I J o x6 x7 l8 l10 l12 ha hF hT ho hW
    obtain rfl : a = (pts st r).length := by omega
    have hle : I 67 25 ≤ nI (pts st r).length := by rw [hT.1]; exact nI_le (Nat.le_refl _) (by omega)
    have hmin := minO_of (isMin_congr hW (fun v w => WQ_WS hq12 v w))
    have hfin := hq I J hF
    unfold simpN at hfin
    rw [hmin] at hfin
    cases o with
    | none =>
      exfalso
      have hlen : 0 < (pts st r).length := by omega
      have hsome : ∃ D, DS D 0 (pts st r).length ∧ D.length = q := by
        rcases hq12 with h | h
        · exact ⟨[0], DS_1 (Nat.le_refl _) hlen, h.symm⟩
        · have : 1 ≤ K * lsr st r := Nat.mul_le_mul hK l1
          exact ⟨[0, 1], DS_2 (Nat.le_refl _) (by omega) (by omega), h.symm⟩
      obtain ⟨D, d1, d2⟩ := hsome
      have hMl := kp_len (L := pts st r) (a := 0) (pts st r).length D (by rw [Nat.zero_add]; exact d1)
      have hfew := cP_few k (kp (pts st r) D 0 (pts st r).length) (lsr st r)
      have hs : (Dp (cP k (kp (pts st r) D 0 (pts st r).length) (lsr st r)) (kp (pts st r) D 0 (pts st r).length).length K 0).isSome = true := by
        obtain ⟨j, rfl⟩ : ∃ j, K = j + 1 := ⟨K - 1, by omega⟩
        exact (Dp_some hfew l1 j 0 (Nat.zero_le _)).mpr (by omega)
      obtain ⟨t, ht⟩ := Option.isSome_iff_exists.mp hs
      have hac := Dp_Ach (kd := k) (M := kp (pts st r) D 0 (pts st r).length) l1 K 0 (Nat.zero_le _)
      rw [ht, List.drop_zero] at hac
      exact hW _ _ ((WQ_WS hq12 _ _).mpr ⟨D, d1, d2, rfl, hac.1⟩)
    | some p =>
      obtain ⟨⟨A, B, hA, hB, rfl, rfl, hp2, hBA⟩, -⟩ := ho
      have c0 : (nI i = 0) ↔ i = 0 := nI_eq (b := 0) (by omega) (by omega)
      refine w_RM_simpler_148 (fun _ c => w_RM_simpler_324 (vp_in_nI (by omega) (by omega)) ?_) (fun _ c => w_RM_simpler_324 (vp_in_nI (by omega) (by omega)) ?_) (fun c => absurd hle c)
      · have hi0 : ¬ i = 0 := fun h => c (c0.mpr h)
        have hq2 : q = 2 := by omega
        rw [nI_clamp (show B < 2 ^ 31 by omega), (hT.2 B hB).2]
        rw [if_neg (by omega)] at hp2
        have e : (if q = 2 ∧ i = 0 then p.2 / 40 else p.2 % 40) = B := by rw [if_neg (fun h => hi0 h.2)]; omega
        dsimp only at hfin
        rw [e] at hfin; exact hfin
      · have hi0 : i = 0 := c0.mp c
        rw [nI_clamp (show A < 2 ^ 31 by omega), (hT.2 A hA).2]
        have e : (if q = 2 ∧ i = 0 then p.2 / 40 else p.2 % 40) = A := by
          rcases hq12 with h | h
          · rw [if_pos h] at hp2
            rw [if_neg (by omega)]; omega
          · rw [if_neg (by omega)] at hp2
            rw [if_pos ⟨h, hi0⟩]; omega
        dsimp only at hfin
        rw [e] at hfin; exact hfin
  | succ m ih =>
    intro a I J o x6 x7 l8 l10 l12 ha hF hT ho hW
    have hc : ¬ I 67 25 ≤ nI a := by rw [hT.1]; exact nI_ge (by omega) (by omega)
    refine w_RM_simpler_148 (fun c => absurd c hc) (fun c => absurd c hc) (fun _ => ?_)
    refine sr_b hS hR hr hk hK hK6 hq12 hn (by omega) (fun I' J' o' x6' x7' l8' l10' l12' f1 f2 f3 f4 => ?_) ((pts st r).length - a) a I J o x6 x7 l8 l10 l12 (by omega) (Nat.le_refl _) hF hT ho hW
    rw [nI_1]
    refine ih (a + 1) I' J' o' x6' x7' l8' l10' l12' (by omega) f1 f2 f3 (isMin_congr f4 (fun v w => ?_))
    unfold WQ
    constructor
    · rintro ⟨x, y, a1, a2, a3, a4, a5⟩
      exact ⟨x, y, a1, a2, a3, by omega, a5⟩
    · rintro ⟨x, y, a1, a2, a3, a4, a5⟩
      exact ⟨x, y, a1, a2, a3, by omega, a5⟩
theorem sr_keep {L : List Pt} {x1 x2 x3 x4 x5 : Int32} {I0 : MI} (hl : L.length ≤ 40) (hQ : QL L I0) (h25 : I0 67 25 = nI L.length) (hq : ∀ I', (∀ a, a ≠ 87 → a ≠ 88 → I' a = I0 a) → KT L I' → ∀ x6 : Int32, x6 = nI L.length → Go G (fr G m_RM_simpler (d + 4) P) 55 [some (.ref 67), some (.int x1), some (.int x2), some (.int x3), some (.int x4), some (.int x5), some (.int x6), none, none, none, none, none, none, none, none, none] [] I' J) : ∀ (r p : Nat) (I : MI), p + r = L.length → (∀ a, a ≠ 87 → a ≠ 88 → I a = I0 a) → (∀ i, i < p → I 87 i = (L.getD i (0, 0)).2 ∧ I 88 i = nI (L.getD i (0, 0)).1) → Go G (fr G m_RM_simpler (d + 4) P) 55 [some (.ref 67), some (.int x1), some (.int x2), some (.int x3), some (.int x4), some (.int x5), some (.int (nI p)), none, none, none, none, none, none, none, none, none] [] I J := by
  intro r
  induction r with
  | zero =>
    intro p I hp hF hv
    obtain rfl : p = L.length := by omega
    exact hq I hF ⟨by rw [hF 67 (by decide) (by decide)]; exact h25, hv⟩ _ rfl
  | succ r ih =>
    intro p I hp hF hv
    have hc : ¬ I 67 7 ≤ nI p := by rw [hF 67 (by decide) (by decide), hQ.1]; exact nI_ge (by omega) (by omega)
    have ep : (nI p).toNatClampNeg = p := nI_clamp (by omega)
    refine w_RM_simpler_55 (fun c => absurd c hc) (fun c => absurd c hc) (fun c => absurd c hc) (fun c => absurd c hc) (fun _ => vp_in_nI (by omega) (by omega)) (fun _ => ?_)
    rw [ep, hF 73 (by decide) (by decide), hF 74 (by decide) (by decide), (hQ.2 p (by omega)).1, (hQ.2 p (by omega)).2, nI_1]
    refine ih (p + 1) _ (by omega) (fun a h1 h2 => by rw [u2_o h2, u2_o h1]; exact hF a h1 h2) (fun i hi => ?_)
    by_cases q : i = p
    · subst q
      rw [u2_o (by decide), u2_s, u2_s]; exact ⟨rfl, rfl⟩
    · rw [u2_o (by decide), u2_k q, u2_k q, u2_o (by decide)]; exact hv i (by omega)
theorem md_simpler {st : ST} {r kd K q i : Int32} (hR : RM st I J) (hS : okS st) (hq : ∀ I' J', KM I J I' J' → P (some (.int (simplerA st r kd K q i))) I' J') : Ct G (d + 4) m_RM_simpler [.ref 67, .int r, .int kd, .int K, .int q, .int i] P I J := by
  have hbad : simpBad r kd K q i → Go G (fr G m_RM_simpler (d + 4) P) 32 [none, none, none, none, none, none, none, none, none, none, none, none, none, none, none, none] [] I J := fun hb => by
    have := hq I J KM.rf
    unfold simplerA at this
    rw [if_pos hb] at this; exact w_RM_simpler_32 this
  refine Ct.ofGo [some (.ref 67), some (.int r), some (.int kd), some (.int K), some (.int q), some (.int i), none, none, none, none, none, none, none, none, none, none] (by decide +kernel) rfl (Nat.le_of_ble_eq_true rfl) (w_RM_simpler_0 (fun c => hbad (by rcases isCut0.mp c with h | h | h; (· exact Or.inl h); (· exact Or.inr (Or.inl h)); (· exact Or.inr (Or.inr (Or.inl h))))) (fun _ c => hbad (Or.inr (Or.inr (Or.inr (Or.inl c))))) (fun c1 c4 c5 => ?_) (fun _ _ c => hbad (Or.inr (Or.inr (Or.inr (Or.inr c))))))
  have a1 : ¬ f_LB_isRow r = 0 := fun h => c1 (isCut0.mpr (Or.inl h))
  have a2 : ¬ f_LB_isKind kd = 0 := fun h => c1 (isCut0.mpr (Or.inr (Or.inl h)))
  have a3 : ¬ f_LB_isStretches K = 0 := fun h => c1 (isCut0.mpr (Or.inr (Or.inr h)))
  have a4 : ¬ f_LB_isWithin q 1 2 = 0 := c4
  have a5 : ¬ f_LB_isWithin i 0 (q - 1) = 0 := c5
  have hnb : ¬ simpBad r kd K q i := by
    rintro (h | h | h | h | h)
    · exact a1 h
    · exact a2 h
    · exact a3 h
    · exact a4 h
    · exact a5 h
  unfold simplerA at hq
  rw [if_neg hnb] at hq
  obtain ⟨r, hr, rfl⟩ := isRow1 a1
  obtain ⟨k, hk, rfl⟩ := isKind1 a2
  obtain ⟨K, hK, hK6, rfl⟩ := isStr1 a3
  obtain ⟨q, hq12, rfl⟩ := isW12 a4
  obtain ⟨b1, b2⟩ := isW1.mp a5
  obtain ⟨i, hi, rfl⟩ := nI_of (Int32.not_lt.mpr b1)
  rw [show nI q - 1 = nI (q - 1) by rw [show q = q - 1 + 1 by omega]; exact nI_pred _, nI_leI hi (by omega)] at b2
  have er : (nI r).toNatClampNeg = r := nI_clamp (by omega)
  rw [er, nI_clamp (show k < 2 ^ 31 by omega), nI_clamp (show K < 2 ^ 31 by omega), nI_clamp (show q < 2 ^ 31 by omega), nI_clamp hi] at hq
  obtain ⟨e1, l1, l2⟩ := lsr_ok hS hr
  have hok := pts_ok hS r
  have hl := hok.1
  rw [hR.2.1]
  refine md_pointsBy hR.1 hS.1 (fun I1 g1 _ g3 => w_RM_simpler_44 ?_)
  have hQ : QL (pts st r) I1 := PM.ql g3
  have hk1 : KM I J (u2 I1 67 25 (I1 67 7)) J := g1.km.tr ⟨fun a ha => ⟨u2_o (by omega), rfl⟩, fun a _ _ => u2_o (by omega), u2_o (by decide), fun a _ _ => u2_o (by omega), u2_k (by decide), u2_k (by decide), u2_k (by decide), u2_k (by decide)⟩
  have hQ1 : QL (pts st r) (u2 I1 67 25 (I1 67 7)) := ⟨by rw [u2_k (by decide)]; exact hQ.1, fun k hk => by rw [u2_o (by decide), u2_o (by decide)]; exact hQ.2 k hk⟩
  have h0 := sr_keep (G := G) (d := d) (P := P) (J := J) (L := pts st r) (x1 := nI r) (x2 := nI k) (x3 := nI K) (x4 := nI q) (x5 := nI i) (I0 := u2 I1 67 25 (I1 67 7)) hl hQ1 (by rw [u2_s]; exact hQ.1) (fun I2 f1 f2 x6 hx6 => by
    have hk2 : KM I J I2 J := hk1.tr ⟨fun a ha => ⟨f1 a (by omega) (by omega), rfl⟩, fun a _ _ => f1 a (by omega) (by omega), f1 91 (by decide) (by decide), fun a _ _ => f1 a (by omega) (by omega), by rw [f1 67 (by decide) (by decide)], by rw [f1 67 (by decide) (by decide)], by rw [f1 67 (by decide) (by decide)], by rw [f1 67 (by decide) (by decide)]⟩
    have hR2 := hR.keep hk2
    have hle : I2 67 7 ≤ x6 := by rw [f1 67 (by decide) (by decide), hQ1.1, hx6]; exact nI_le (Nat.le_refl _) (by omega)
    have hprod : nI K * I2 72 (nI r).toNatClampNeg = nI (K * lsr st r) := by rw [er, hR2.2.2.1 r hr, e1]; exact (Int32.ofNat_mul _ _).symm
    have hKl : K * lsr st r ≤ 60 := by
      have : K * lsr st r ≤ 6 * 10 := Nat.mul_le_mul hK6 l2
      omega
    have hKl1 : 1 ≤ K * lsr st r := Nat.mul_le_mul hK l1
    have cA : (I2 67 25 - nI q < nI K * I2 72 (nI r).toNatClampNeg) ↔ (pts st r).length < K * lsr st r + q := by
      rw [hprod, f2.1, ti_lt, ti_sub (by rw [nI_ti (by omega), nI_ti (by omega)]; omega) (by rw [nI_ti (by omega), nI_ti (by omega)]; omega), nI_ti (by omega), nI_ti (by omega), nI_ti (by omega)]
      omega
    have cB : (nI q + 1 ≤ I2 67 25) ↔ q + 1 ≤ (pts st r).length := by rw [f2.1, nI_1]; exact nI_leI (by omega) (by omega)
    have hno : ¬ K * lsr st r + q ≤ (pts st r).length → Go G (fr G m_RM_simpler (d + 4) P) 127 [none, none, none, none, none, none, none, none, none, none, none, none, none, none, none, none] [] I2 J := fun h => by
      refine w_RM_simpler_127 ?_
      have hfin := hq I2 J hk2
      unfold simpN at hfin
      have hnone : minO (WS k (lsr st r) (pts st r) K q) = none := minO_of (o := none) (fun v w hw => by
        obtain ⟨D, d1, d2, -, d4⟩ := hw
        have h1 := Ach_len K _ v d4
        have h2 := kp_len (L := pts st r) (a := 0) (pts st r).length D (by rw [Nat.zero_add]; exact d1)
        omega)
      rw [hnone] at hfin
      exact hfin
    refine w_RM_simpler_55 (fun _ => vp_in_nI hr (by omega)) (fun _ c => hno (by have := cA.mp c; omega)) (fun _ c c' => ?_) (fun _ c c' => hno (by
      have h1 : ¬ (pts st r).length < K * lsr st r + q := fun h => c (cA.mpr h)
      have h2 : ¬ q + 1 ≤ (pts st r).length := fun h => c' (cB.mpr h)
      omega)) (fun c => absurd hle c) (fun c => absurd hle c)
    have hn : K * lsr st r + q ≤ (pts st r).length := by
      have : ¬ (pts st r).length < K * lsr st r + q := fun h => c (cA.mpr h)
      omega
    have h1 := sr_a (G := G) (d := d) (P := P) hS (I0 := I) (J0 := J) hR hr hk hK hK6 hq12 (show i < q by omega) hn hq (pts st r).length 0 I2 J none (-1) (-1) 0 0 0 (by omega) hk2 f2 rfl (fun v w hw => by
      obtain ⟨x, y, -, -, -, a4, -⟩ := hw
      omega)
    exact h1) (pts st r).length 0 _ (by omega) (fun _ _ _ => rfl) (fun i hi => by omega)
  exact h0
end
