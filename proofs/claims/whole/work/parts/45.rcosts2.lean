/-! ===== the reference: what stretches cost, part 2: by sorting; all; cost ===== -/
theorem takeS {s : List Pt} {i : Nat} (h : i < s.length) : s.take (i + 1) = s.take i ++ [s.getD i (0, 0)] := takeP_ext h
theorem cnt_up {s : List Pt} (hs : isUp s) {i : Nat} (h : i + 1 < s.length) (hne : ¬ (s.getD (i + 1) (0, 0)).2 = (s.getD i (0, 0)).2) : cnt (s.getD (i + 1) (0, 0)).2 (s.take (i + 1)) = 0 := by
  refine cnt_0 fun p hp e => ?_
  obtain ⟨j, hj, e2⟩ := List.getElem_of_mem hp
  rw [List.length_take] at hj
  have e3 : p = s.getD j (0, 0) := by rw [getD_lt (show j < s.length by omega), ← e2, List.getElem_take]
  have h1 := up_get hs (i := j) (j := i) (by omega) (by omega)
  have h2 := up_get hs (i := i) (j := i + 1) (by omega) h
  rw [← e3, e] at h1
  exact hne (ti_eq.mpr (by omega))
theorem mxc_perm {l l' : List Pt} (h : l.Perm l') : mxc l = mxc l' := by
  refine (mxc_of (fun v => ?_) ?_)
  · rw [cnt_perm h]; exact mxc_ge v l'
  · rcases mxc_at (l := l') with e | ⟨v, e⟩
    · exact Or.inl e
    · exact Or.inr ⟨v, by rw [cnt_perm h]; exact e⟩
theorem amt_lI {x : Int32} (h1 : -1000000 ≤ x.toInt) (h2 : x.toInt ≤ 1000000) : f_RM_amount x.toInt64 = lI (x.toInt.natAbs : Int) := by
  unfold f_RM_amount
  have h : (0 : Int64) ≤ x.toInt64 ↔ 0 ≤ x.toInt := by rw [tl_le, ti_64]; exact Iff.rfl
  by_cases q : 0 ≤ x.toInt
  · rw [if_pos (h.mpr q), lI_32]; congr 1; omega
  · rw [if_neg (fun c => q (h.mp c)), lI_32, show (0 : Int64) = lI 0 from rfl, lI_sub]; congr 1; omega
theorem nI_sub {a b : Nat} (h : b ≤ a) : nI a - nI b = nI (a - b) := by
  have : nI a = nI (a - b) + nI b := by rw [nI_add]; congr 1; omega
  rw [this, Int32.add_sub_cancel]
section
variable {G : GC} {d : Nat} {P : PT} {I : MI} {J : MJ}
theorem scan_loop {s : List Pt} {n a b : Nat} {x2 : Int32} (hn : s.length = n) (hn0 : 0 < n) (h40 : n ≤ 40) (hu : okU s) (hs : isUp s) (hA : ∀ i, i < n → I 79 i = (s.getD i (0, 0)).2) (hq : ∀ z : Int64, z = (if x2 = 0 then lI ((n - mxc s : Nat) : Int) else lI (far (s.getD ((n - 1) / 2) (0, 0)).2.toInt s)) → Go G (fr G m_RM_costsBySorting (d + 2) P) 203 [some (.ref 67), some (.int (nI a)), some (.int x2), some (.int (nI n)), some (.int (nI b)), none, none, none, none, none, none] [.long z, .int (40 * nI a + nI b), .ref 67] I J) : ∀ (r i : Nat) (x8 x9 : Int32), i + r = n → (∀ j, i = j + 1 → x8 = nI (cnt (s.getD j (0, 0)).2 (s.take i))) → x9 = nI (mxc (s.take i)) → Go G (fr G m_RM_costsBySorting (d + 2) P) 92 [some (.ref 67), some (.int (nI a)), some (.int x2), some (.int (nI n)), some (.int (nI b)), none, some (.long (lI (far (s.getD ((n - 1) / 2) (0, 0)).2.toInt (s.take i)))), none, some (.int x8), some (.int x9), some (.int (nI i))] [] I J := by
  intro r
  induction r with
  | zero =>
    intro i x8 x9 hi h8 h9
    obtain rfl : i = n := by omega
    have hle : nI i ≤ nI i := nI_le (Nat.le_refl _) (by omega)
    rw [List.take_of_length_le (by omega)] at h9
    rw [List.take_of_length_le (by omega)]
    have hmx := mxc_le s
    refine w_RM_costsBySorting_92 (fun _ c => hq _ ?_) (fun _ c => hq _ ?_) (fun c => absurd hle c) (fun c => absurd hle c) (fun c => absurd hle c) (fun c => absurd hle c) (fun c => absurd hle c) (fun c => absurd hle c)
    · rw [if_pos c, h9, nI_sub (by omega), nI_lI (by omega)]
    · rw [if_neg c]
  | succ r ih =>
    intro i x8 x9 hi h8 h9
    subst h9
    have hc : ¬ nI n ≤ nI i := nI_ge (by omega) (by omega)
    have ei : (nI i).toNatClampNeg = i := nI_clamp (by omega)
    have eh : (nI n - 1) / 2 = nI ((n - 1) / 2) := nI_half1 (by omega) hn0
    have eh2 : (nI ((n - 1) / 2)).toNatClampNeg = (n - 1) / 2 := nI_clamp (by omega)
    have ri := okU_get hu (i := i) (by omega)
    have rm := okU_get hu (i := (n - 1) / 2) (by omega)
    have esub : ((s.getD i (0, 0)).2 - (s.getD ((n - 1) / 2) (0, 0)).2).toInt = (s.getD i (0, 0)).2.toInt - (s.getD ((n - 1) / 2) (0, 0)).2.toInt := ti_sub (by omega) (by omega)
    have esum : lI (far (s.getD ((n - 1) / 2) (0, 0)).2.toInt (s.take i)) + f_RM_amount (Int32.toInt64 (I 79 (nI i).toNatClampNeg - I 79 ((nI n - 1) / 2).toNatClampNeg)) = lI (far (s.getD ((n - 1) / 2) (0, 0)).2.toInt (s.take (i + 1))) := by
      rw [ei, eh, eh2, hA i (by omega), hA _ (by omega), amt_lI (by rw [esub]; omega) (by rw [esub]; omega), esub, lI_add, takeS (by omega)]
      unfold far; rw [sm_app, sm_1]
    have hmx : mxc (s.take (i + 1)) = max (mxc (s.take i)) (cnt (s.getD i (0, 0)).2 (s.take i) + 1) := by rw [takeS (by omega), mxc_app]
    have hcn : cnt (s.getD i (0, 0)).2 (s.take (i + 1)) = cnt (s.getD i (0, 0)).2 (s.take i) + 1 := by rw [takeS (by omega), cnt_app, cnt_1, if_pos rfl]
    have hcl := cnt_le (s.getD i (0, 0)).2 (s.take i)
    have hml := mxc_le (s.take i)
    rw [List.length_take] at hcl hml
    have nxt : ∀ y : Int32, y = nI (cnt (s.getD i (0, 0)).2 (s.take i) + 1) → Go G (fr G m_RM_costsBySorting (d + 2) P) 157 [some (.ref 67), some (.int (nI a)), some (.int x2), some (.int (nI n)), some (.int (nI b)), none, some (.long (lI (far (s.getD ((n - 1) / 2) (0, 0)).2.toInt (s.take i)) + f_RM_amount (Int32.toInt64 (I 79 (nI i).toNatClampNeg - I 79 ((nI n - 1) / 2).toNatClampNeg)))), none, none, some (.int (nI (mxc (s.take i)))), some (.int (nI i))] [.int y] I J := by
      intro y hy
      subst hy
      rw [esum]
      have hcmp : (nI (cnt (s.getD i (0, 0)).2 (s.take i) + 1) ≤ nI (mxc (s.take i))) ↔ cnt (s.getD i (0, 0)).2 (s.take i) + 1 ≤ mxc (s.take i) := nI_leI (by omega) (by omega)
      have hj : ∀ j, i + 1 = j + 1 → nI (cnt (s.getD i (0, 0)).2 (s.take i) + 1) = nI (cnt (s.getD j (0, 0)).2 (s.take (i + 1))) := fun j e => by
        obtain rfl : i = j := by omega
        rw [hcn]
      refine w_RM_costsBySorting_157 (fun c => w_RM_costsBySorting_173 ?_) (fun c => w_RM_costsBySorting_173 ?_)
      · rw [nI_1]
        exact ih (i + 1) _ _ (by omega) hj (by rw [hcmp] at c; rw [hmx]; congr 1; omega)
      · rw [nI_1]
        exact ih (i + 1) _ _ (by omega) hj (by rw [hcmp] at c; rw [hmx]; congr 1; omega)
    refine w_RM_costsBySorting_92 (fun c => absurd c hc) (fun c => absurd c hc) (fun _ => vp_in_nI (by omega) (by omega)) (fun _ => by rw [eh]; exact vp_in_nI (by omega) (by omega)) (fun _ c => w_RM_costsBySorting_156 (nxt 1 ?_)) (fun _ c => ?_) (fun _ c c2 => w_RM_costsBySorting_156 (nxt 1 ?_)) (fun _ c c2 => nxt _ ?_)
    · have hi0 : i = 0 := by
        rcases Nat.eq_zero_or_pos i with e | e
        · exact e
        · exact absurd c (nI_nle e (by omega))
      subst hi0
      rfl
    · have hi0 : 0 < i := Nat.pos_of_ne_zero fun e => c (by subst e; decide)
      rw [show nI i - 1 = nI (i - 1) by rw [show i = i - 1 + 1 by omega]; exact nI_pred _]
      exact vp_in_nI (by omega) (by omega)
    · have hi0 : 0 < i := Nat.pos_of_ne_zero fun e => c (by subst e; decide)
      obtain ⟨j, rfl⟩ : ∃ j, i = j + 1 := ⟨i - 1, by omega⟩
      rw [nI_pred, ei, nI_clamp (show j < 2 ^ 31 by omega), hA _ (by omega), hA _ (by omega)] at c2
      rw [cnt_up hs (by omega) c2]
      rfl
    · have hi0 : 0 < i := Nat.pos_of_ne_zero fun e => c (by subst e; decide)
      obtain ⟨j, rfl⟩ : ∃ j, i = j + 1 := ⟨i - 1, by omega⟩
      rw [nI_pred, ei, nI_clamp (show j < 2 ^ 31 by omega), hA _ (by omega), hA _ (by omega)] at c2
      rw [h8 j rfl, c2, nI_1]
theorem rins_loop {s : List Pt} {p : Pt} {b n : Nat} {x2 a : Int32} (hn : s.length = n) (hs : n < 40) (hb : b < 40) (hp : I 73 b = p.2) (hq : ∀ I', (∀ c, c ≠ 79 → I' c = I c) → (∀ i, i < n + 1 → I' 79 i = ((ins p s).getD i (0, 0)).2) → Go G (fr G m_RM_costsBySorting (d + 2) P) 92 [some (.ref 67), some (.int a), some (.int x2), some (.int (nI (n + 1))), some (.int (nI b)), none, some (.long 0), none, some (.int 0), some (.int 0), some (.int 0)] [] I' J) : ∀ (k : Nat) (x5 : Int32) (I1 : MI), k ≤ n → x5 = nI k → pos p s k = pos p s n → (∀ c, c ≠ 79 → I1 c = I c) → shf s k (I1 79) → Go G (fr G m_RM_costsBySorting (d + 2) P) 17 [some (.ref 67), some (.int a), some (.int x2), some (.int (nI n)), some (.int (nI b)), some (.int x5), none, none, none, none, none] [] I1 J := by
  subst hn
  have eb : (nI b).toNatClampNeg = b := nI_clamp (by omega)
  have fin : ∀ (I1 : MI), (∀ c, c ≠ 79 → I1 c = I c) → ∀ k, k = pos p s s.length → shf s k (I1 79) → Go G (fr G m_RM_costsBySorting (d + 2) P) 63 [some (.ref 67), some (.int a), some (.int x2), some (.int (nI s.length)), some (.int (nI b)), some (.int (nI k)), none, none, none, none, none] [] I1 J := by
    intro I1 hF k hk hsf
    have hpl := pos_le p s s.length
    have ek : (nI k).toNatClampNeg = k := nI_clamp (by omega)
    refine w_RM_costsBySorting_63 (vp_in_nI hb (by omega)) (vp_in_nI (by omega) (by omega)) ?_
    rw [nI_1, ek, eb, hF 73 (by decide), hp]
    refine hq _ (fun c hc => by rw [u2_o hc]; exact hF c hc) (fun i hi => ?_)
    rw [hk]
    rw [hk] at hsf
    exact shf_end hsf i hi
  intro k
  induction k with
  | zero =>
    intro x5 I1 hk hx hpp hF hsf
    subst hx
    have hle : nI 0 ≤ 0 := by decide
    exact w_RM_costsBySorting_17 (fun _ => fin I1 hF 0 hpp hsf) (fun c => absurd hle c) (fun c => absurd hle c) (fun c => absurd hle c) (fun c => absurd hle c) (fun c => absurd hle c)
  | succ k ih =>
    intro x5 I1 hk hx hpp hF hsf
    subst hx
    have hle : ¬ nI (k + 1) ≤ 0 := nI_nle (by omega) (by omega)
    have e1 : nI (k + 1) - 1 = nI k := nI_pred k
    have ek : (nI k).toNatClampNeg = k := nI_clamp (by omega)
    have ek1 : (nI (k + 1)).toNatClampNeg = k + 1 := nI_clamp (by omega)
    have ev : I1 79 k = (s.getD k (0, 0)).2 := hsf.1 k (by omega)
    have ew : I1 73 b = p.2 := by rw [hF 73 (by decide)]; exact hp
    have hu : pos p s (k + 1) = if (s.getD k (0, 0)).2 ≤ p.2 then k + 1 else pos p s k := rfl
    refine w_RM_costsBySorting_17 (fun c => absurd c hle) (fun _ => by rw [e1]; exact vp_in_nI (by omega) (by omega)) (fun _ => vp_in_nI hb (by omega)) (fun _ c => ?_) (fun _ _ => vp_in_nI (by omega) (by omega)) (fun _ c => ?_)
    · rw [e1, ek, ev, eb, ew] at c
      rw [hu, if_pos c] at hpp
      exact fin I1 hF (k + 1) hpp hsf
    · rw [e1, ek, ev, eb, ew] at c
      rw [hu, if_neg c] at hpp
      rw [e1, ek, ek1]
      exact ih _ _ (by omega) (pk_m1 k) hpp (fun c hc => by rw [u2_o hc]; exact hF c hc) (shf_step hsf hk)
theorem byt_loop {k : Nat} (hk : k = 1 ∨ k = 3) {L : List Pt} {a : Nat} {I0 : MI} {J0 : MJ} (hok : okP L) (hQ : QL L I0) (ha : a ≤ L.length) (hq : ∀ I' J', FC I0 J0 I' J' → CTx k L a L.length J' → P none I' J') : ∀ (r m : Nat) (I : MI) (J : MJ), a + m + r = L.length → FC I0 J0 I J → (∀ i, i < m → I 79 i = ((srt (seg L a m)).getD i (0, 0)).2) → CTx k L a (a + m) J → Go G (fr G m_RM_costsBySorting (d + 2) P) 5 [some (.ref 67), some (.int (nI a)), some (.int (if k = 1 then 1 else 0)), some (.int (nI m)), some (.int (nI (a + m))), none, none, none, none, none, none] [] I J := by
  have hl := hok.1
  intro r
  induction r with
  | zero =>
    intro m I J hr hF hA hT
    have hQ1 := hQ.fc hF
    have hle : I 67 7 ≤ nI (a + m) := by rw [hQ1.1]; exact nI_le (by omega) (by omega)
    rw [show a + m = L.length by omega] at hT
    exact w_RM_costsBySorting_5 (fun _ => hq I J hF hT) (fun c => absurd hle c)
  | succ r ih =>
    intro m I J hr hF hA hT
    have hQ1 := hQ.fc hF
    have hc : ¬ I 67 7 ≤ nI (a + m) := by rw [hQ1.1]; exact nI_ge (by omega) (by omega)
    have hm : a + m < L.length := by omega
    obtain ⟨e3, e4⟩ := hQ1.2 (a + m) hm
    have hseg := seg_ext hm
    have hlen : (seg L a (m + 1)).length = m + 1 := seg_len (by omega)
    have hlen0 : (srt (seg L a m)).length = m := by rw [srt_len]; exact seg_len (by omega)
    have hlen1 : (srt (seg L a (m + 1))).length = m + 1 := by rw [srt_len]; exact hlen
    have hov := seg_okV (a := a) (m := m + 1) hok
    have hou : okU (srt (seg L a (m + 1))) := fun p hp => by
      have := hov p ((srt_perm _).mem_iff.mp hp); exact ⟨this.2.1, this.2.2⟩
    have eidx : 40 * nI a + nI (a + m) = nI (40 * a + (a + m)) := by
      rw [show (40 : Int32) = nI 40 from rfl, show nI 40 * nI a = nI (40 * a) from (Int32.ofNat_mul 40 a).symm, nI_add]
    refine w_RM_costsBySorting_5 (fun c => absurd c hc) (fun _ => ?_)
    refine rins_loop (s := srt (seg L a m)) (p := L.getD (a + m) (0, 0)) (I := I) hlen0 (by omega) (by omega) e3 (fun I' g1 g2 => ?_) m _ I (by omega) rfl rfl (fun _ _ => rfl) (by have := shf_0 (s := srt (seg L a m)) (A := I 79) (by rw [hlen0]; exact hA); rw [hlen0] at this; exact this)
    have es : ins (L.getD (a + m) (0, 0)) (srt (seg L a m)) = srt (seg L a (m + 1)) := by rw [hseg, srt_app]
    rw [es] at g2
    have hscan := scan_loop (G := G) (d := d) (P := P) (I := I') (J := J) (s := srt (seg L a (m + 1))) (n := m + 1) (a := a) (b := a + m) (x2 := if k = 1 then 1 else 0) hlen1 (by omega) (by omega) hou (srt_up _) g2 (fun z hz => ?_) (m + 1) 0 0 0 (by omega) (fun j e => by omega) rfl
    · exact hscan
    · refine w_RM_costsBySorting_203 ?_
      have hnum : z = lI ((nK k (seg L a (m + 1)) : Nat) : Int) := by
        rw [hz, nK_eq]
        rcases hk with rfl | rfl
        · rw [if_neg (by decide)]
          show _ = lI (medc (seg L a (m + 1)))
          congr 1
          unfold medc mdl
          rw [hlen]
          exact sm_perm (srt_perm _)
        · rw [if_pos (by decide)]
          show _ = lI (((seg L a (m + 1)).length : Int) - mxc (seg L a (m + 1)))
          have := mxc_le (seg L a (m + 1))
          rw [mxc_perm (srt_perm (seg L a (m + 1))), hlen]
          congr 1; omega
      have hb := nK_b (k := k) hov (by omega)
      have hden : denK k (seg L a (m + 1)) = 1 := by rcases hk with rfl | rfl <;> rfl
      rw [eidx, hnum, show (1 : Int64) = lI ((1 : Nat) : Int) from rfl]
      refine md_keeps (by omega) (by omega) (by omega) (by omega) (fun J' k1 k2 k3 k4 k5 => w_RM_costsBySorting_207 ?_)
      rw [nI_1]
      exact ih (m + 1) I' J' (by omega) (hF.tr ⟨g1, k1⟩) g2 (CTx.put (by omega) hT hm k2 ⟨by rw [k3, hden], by rw [k4, hden], by rw [k5, hden]⟩)
theorem costs_loop {k : Nat} (hk : k < 4) {L : List Pt} {I0 : MI} {J0 : MJ} (hok : okP L) (hQ : QL L I0) (hq : ∀ I' J', FC I0 J0 I' J' → CTx k L L.length L.length J' → P none I' J') : ∀ (r a : Nat) (I : MI) (J : MJ), a + r = L.length → FC I0 J0 I J → CTx k L a a J → Go G (fr G m_RM_costs (d + 3) P) 2 [some (.ref 67), some (.int (nI k)), some (.int (nI a))] [] I J := by
  have hl := hok.1
  intro r
  induction r with
  | zero =>
    intro a I J hr hF hT
    have hQ1 := hQ.fc hF
    obtain rfl : a = L.length := by omega
    have hle : I 67 7 ≤ nI L.length := by rw [hQ1.1]; exact nI_le (by omega) (by omega)
    exact w_RM_costs_2 (fun _ => hq I J hF hT) (fun c => absurd hle c) (fun c => absurd hle c) (fun c => absurd hle c) (fun c => absurd hle c)
  | succ r ih =>
    intro a I J hr hF hT
    have hQ1 := hQ.fc hF
    have hc : ¬ I 67 7 ≤ nI a := by rw [hQ1.1]; exact nI_ge (by omega) (by omega)
    have nxt : ∀ I' J', FC I J I' J' → CTx k L a L.length J' → Go G (fr G m_RM_costs (d + 3) P) 49 [some (.ref 67), some (.int (nI k)), some (.int (nI a))] [] I' J' := fun I' J' g1 g2 => by
      refine w_RM_costs_49 ?_
      rw [nI_1]
      exact ih (a + 1) I' J' (by omega) (hF.tr g1) g2.nxt
    have bySums : (k = 0 ∨ k = 2) → Ct G (d + 2) m_RM_costsBySums [.ref 67, .int (nI a), .int (if k = 2 then 1 else 0)] (fun r I' J' => Go G (fr G m_RM_costs (d + 3) P) 31 [some (.ref 67), some (.int (nI k)), some (.int (nI a))] (r.toList ++ []) I' J') I J := fun hk' => by
      refine Ct.ofGo [some (.ref 67), some (.int (nI a)), some (.int (if k = 2 then 1 else 0)), none, none, none, none, none, none, none, none, none, none, none, none, none, none, none, none, none, none, none, none, none, none, none] (by decide +kernel) rfl (Nat.le_of_ble_eq_true rfl) (w_RM_costsBySums_0 ?_)
      have := bys_loop (G := G) (d := d) (P := fun r I' J' => Go G (fr G m_RM_costs (d + 3) P) 31 [some (.ref 67), some (.int (nI k)), some (.int (nI a))] (r.toList ++ []) I' J') hk' (I0 := I) (J0 := J) hok hQ1 (by omega) (fun J' g1 g2 => w_RM_costs_31 (nxt I J' g1 g2)) (r + 1) 0 J (by omega) FC.rf hT
      rw [seg_0] at this
      exact this
    have bySort : (k = 1 ∨ k = 3) → Ct G (d + 2) m_RM_costsBySorting [.ref 67, .int (nI a), .int (if k = 1 then 1 else 0)] (fun r I' J' => Go G (fr G m_RM_costs (d + 3) P) 49 [some (.ref 67), some (.int (nI k)), some (.int (nI a))] (r.toList ++ []) I' J') I J := fun hk' => by
      refine Ct.ofGo [some (.ref 67), some (.int (nI a)), some (.int (if k = 1 then 1 else 0)), none, none, none, none, none, none, none, none] (by decide +kernel) rfl (Nat.le_of_ble_eq_true rfl) (w_RM_costsBySorting_0 ?_)
      exact byt_loop hk' (I0 := I) (J0 := J) hok hQ1 (by omega) nxt (r + 1) 0 I J (by omega) FC.rf (fun i hi => absurd hi (by omega)) hT
    rcases (show k = 0 ∨ k = 1 ∨ k = 2 ∨ k = 3 by omega) with rfl | rfl | rfl | rfl
    · exact w_RM_costs_2 (fun c => absurd c hc) (fun _ c => absurd (by decide) c) (fun _ c => absurd (by decide) c) (fun _ _ _ => w_RM_costs_28 (bySums (Or.inl rfl))) (fun _ _ c => absurd c (by decide))
    · exact w_RM_costs_2 (fun c => absurd c hc) (fun _ _ c => absurd (by decide) c) (fun _ _ _ => w_RM_costs_46 (bySort (Or.inl rfl))) (fun _ c => absurd c (by decide)) (fun _ c => absurd c (by decide))
    · exact w_RM_costs_2 (fun c => absurd c hc) (fun _ c => absurd (by decide) c) (fun _ c => absurd (by decide) c) (fun _ _ c => absurd (by decide) c) (fun _ _ _ => w_RM_costs_28 (bySums (Or.inr rfl)))
    · exact w_RM_costs_2 (fun c => absurd c hc) (fun _ _ _ => w_RM_costs_46 (bySort (Or.inr rfl))) (fun _ _ c => absurd c (by decide)) (fun _ c => absurd c (by decide)) (fun _ c => absurd c (by decide))
/-- the whole table -/
def CT (k : Nat) (L : List Pt) (J : MJ) : Prop := ∀ a m, a + m < L.length → ent k (seg L a (m + 1)) (40 * a + (a + m)) J
theorem md_costs {k : Nat} (hk : k < 4) {L : List Pt} (hok : okP L) (hQ : QL L I) (hq : ∀ I' J', FC I J I' J' → CT k L J' → P none I' J') : Ct G (d + 3) m_RM_costs [.ref 67, .int (nI k)] P I J :=
  Ct.ofGo [some (.ref 67), some (.int (nI k)), none] (by decide +kernel) rfl (Nat.le_of_ble_eq_true rfl) (w_RM_costs_0 (costs_loop hk hok hQ (fun I' J' g1 g2 => hq I' J' g1 (fun a m h => g2 a m h (Or.inl (by omega)))) L.length 0 I J (by omega) FC.rf (fun a' m' h1 h2 => by omega)))
end
