/-! ===== offers without points ===== -/
theorem kp_perm {L : List Pt} {D D' : List Nat} {a x : Nat} (hD : ∀ i, i ∈ D ↔ i ∈ D' ∨ i = x) (hx : x ∉ D') : ∀ m, a ≤ x → x < a + m → (kp L D' a m).Perm (L.getD x (0, 0) :: kp L D a m) := by
  intro m
  induction m with
  | zero => intro h1 h2; omega
  | succ m ih =>
    intro h1 h2
    rw [kp_s, kp_s]
    by_cases q : a + m = x
    · have hc : kp L D a m = kp L D' a m := kp_congr m (fun i i1 i2 => by rw [hD i]; exact ⟨fun c => c.elim id (fun c => by omega), Or.inl⟩)
      rw [q, if_neg hx, if_pos ((hD x).mpr (Or.inr rfl)), hc, List.append_nil]
      exact List.perm_append_singleton _ _
    · have i1 := ih h1 (by omega)
      have e : (if a + m ∈ D then ([] : List Pt) else [L.getD (a + m) (0, 0)]) = (if a + m ∈ D' then [] else [L.getD (a + m) (0, 0)]) := by
        by_cases q2 : a + m ∈ D'
        · rw [if_pos q2, if_pos ((hD _).mpr (Or.inl q2))]
        · rw [if_neg q2, if_neg (fun c => ((hD _).mp c).elim q2 q)]
      rw [e]
      exact i1.append_right _
theorem kp_p1 {L : List Pt} {a m x : Nat} (ha : a + m ≤ L.length) (h1 : a ≤ x) (h2 : x < a + m) : (seg L a m).Perm (L.getD x (0, 0) :: kp L [x] a m) := by
  have := kp_perm (L := L) (D := [x]) (D' := []) (a := a) (x := x) (fun i => by simp) (by simp) m h1 h2
  rw [kp_nil m ha] at this; exact this
theorem kp_p2 {L : List Pt} {a m x y : Nat} (h1 : a ≤ y) (h2 : y < a + m) (hne : x ≠ y) : (kp L [x] a m).Perm (L.getD y (0, 0) :: kp L [x, y] a m) :=
  kp_perm (L := L) (D := [x, y]) (D' := [x]) (a := a) (x := y) (fun i => by simp) (by simpa using hne.symm) m h1 h2
theorem kp_pw {L : List Pt} (hok : okP L) {D : List Nat} {a m : Nat} (ha : a + m ≤ L.length) : (kp L D a m).Pairwise fun a b => a.1 < b.1 := (seg_pw hok).sublist (kp_sub m ha)
theorem kp_okV {L : List Pt} (hok : okP L) {D : List Nat} {a m : Nat} (ha : a + m ≤ L.length) : okV (kp L D a m) := fun p hp => seg_okV hok p ((kp_sub m ha).subset hp)
theorem kp_le {L : List Pt} {D : List Nat} {a m : Nat} (ha : a + m ≤ L.length) : (kp L D a m).length ≤ m := by
  have := (kp_sub (D := D) m ha).length_le
  rw [seg_len ha] at this; exact this
theorem cdn_lt : ∀ D : List Nat, (∀ i ∈ D, i < 40) → cdn D < 40 ^ D.length := by
  intro D
  induction D with
  | nil => intro _; decide
  | cons x D ih =>
    intro h
    have e : cdn (x :: D) = x * 40 ^ D.length + cdn D := by
      have := cdn_app [x] D
      have e1 : cdn [x] = x := by show 0 * 40 + x = x; omega
      rw [e1] at this; exact this
    have h1 := ih (fun i hi => h i (List.mem_cons_of_mem _ hi))
    have h2 := h x List.mem_cons_self
    rw [e, List.length_cons, Nat.pow_succ]
    have h3 : (x + 1) * 40 ^ D.length ≤ 40 * 40 ^ D.length := Nat.mul_le_mul_right _ (by omega)
    rw [Nat.add_mul, Nat.one_mul] at h3
    rw [Nat.mul_comm (40 ^ D.length)]
    omega
noncomputable def pcS (k ls : Nat) (L : List Pt) : PCS := fun e a b => if a ≤ b ∧ b < L.length then minO (StD k ls L e a b) else none
theorem pcS_at {k ls : Nat} {L : List Pt} {e a b : Nat} (h1 : a ≤ b) (h2 : b < L.length) : pcS k ls L e a b = minO (StD k ls L e a b) := by unfold pcS; rw [if_pos ⟨h1, h2⟩]
theorem pcS_ok {k ls : Nat} {L : List Pt} (hok : okP L) (hls : 1 ≤ ls) : okPC (pcS k ls L) := by
  intro e a b p h
  unfold pcS at h
  split at h
  · rename_i hc
    have hs := minO_spec (StD k ls L e a b)
    rw [h] at hs
    obtain ⟨D, d1, d2, d3, d4, d5⟩ := hs.1
    have hl := hok.1
    have ha : a + (b + 1 - a) ≤ L.length := by omega
    have hlen := kp_le (D := D) ha
    have hkl := kp_len (L := L) (a := a) (b + 1 - a) D (by rw [show a + (b + 1 - a) = b + 1 by omega]; exact d1)
    have hb := nK_b (k := k) (kp_okV hok (D := D) ha) (by omega)
    have hd := denK_b (k := k) (l := kp L D a (b + 1 - a)) (by omega) (by omega)
    refine ⟨?_, ?_⟩
    · rw [d5]
      unfold cs
      have h1 : 5342931457063200 / denK k (kp L D a (b + 1 - a)) ≤ 5342931457063200 := Nat.div_le_self _ _
      exact Nat.le_trans (Nat.mul_le_mul hb h1) (by decide)
    · rw [← d3, ← d2]
      exact cdn_lt D (fun i hi => by have := d1.2 i hi; omega)
  · exact absurd h (by simp)
theorem isMin_sc {p : Nat × Nat} {S : Nat → Nat → Prop} {N : Nat} (hN : 0 < N) (h : isMin (some p) S) : isMin (some (p.1 * N, p.2)) (fun v w => ∃ u, S u w ∧ v = u * N) := by
  refine ⟨⟨p.1, h.1, rfl⟩, ?_⟩
  rintro v w ⟨u, hu, rfl⟩
  have := h.2 u w hu
  unfold lexle at this ⊢
  rcases this with c | c
  · exact Or.inl (Nat.mul_lt_mul_of_pos_right c hN)
  · exact Or.inr ⟨by rw [c.1], c.2⟩
theorem StD0 {k ls : Nat} {L : List Pt} {a b : Nat} (h1 : a ≤ b) (h2 : b < L.length) : isMin (pc0 k L ls a b) (StD k ls L 0 a b) := by
  unfold pc0
  split
  · rename_i c
    refine ⟨⟨[], DS.nil _ _, rfl, rfl, by omega, ?_⟩, fun v w h => ?_⟩
    · rw [kp_nil _ (by omega), show b + 1 - a = b - a + 1 by omega]; rfl
    · obtain ⟨D, d1, d2, d3, d4, d5⟩ := h
      have : D = [] := List.length_eq_zero_iff.mp d2
      subst this
      right
      refine ⟨?_, by rw [← d3]; exact Nat.zero_le _⟩
      rw [d5, kp_nil _ (by omega), show b + 1 - a = b - a + 1 by omega]; rfl
  · rename_i c
    rintro v w ⟨D, d1, d2, d3, d4, d5⟩
    omega
def okO (o : Option (Nat × Nat)) (l6 : Int64) (x8 : Int32) : Prop := match o with
  | none => l6 = -1
  | some p => l6 = lI (p.1 : Int) ∧ x8 = nI p.2
def S1 (k : Nat) (L : List Pt) (a m x : Nat) : Nat → Nat → Prop := fun v w => ∃ x', a ≤ x' ∧ x' < x ∧ v = nK k (kp L [x'] a m) ∧ w = x'
def S2 (k : Nat) (L : List Pt) (a m x y : Nat) : Nat → Nat → Prop := fun v w => ∃ x' y', a ≤ x' ∧ x' < y' ∧ y' < a + m ∧ (x' < x ∨ (x' = x ∧ y' < y)) ∧ v = nK k (kp L [x', y'] a m) ∧ w = x' * 40 + y'
theorem DS1 {D : List Nat} {a n : Nat} (h : DS D a n) (hl : D.length = 1) : ∃ x, D = [x] ∧ a ≤ x ∧ x < n := by
  obtain ⟨x, rfl⟩ := List.length_eq_one_iff.mp hl
  have := h.2 x (by simp)
  exact ⟨x, rfl, this.1, this.2⟩
theorem DS2 {D : List Nat} {a n : Nat} (h : DS D a n) (hl : D.length = 2) : ∃ x y, D = [x, y] ∧ a ≤ x ∧ x < y ∧ y < n := by
  match D, hl with
  | [x, y], _ =>
    have h1 := h.2 x (by simp)
    have h2 := h.2 y (by simp)
    have h3 := (List.pairwise_cons.mp h.1).1 y (by simp)
    exact ⟨x, y, rfl, h1.1, h3, h2.2⟩
theorem cdn1 (x : Nat) : cdn [x] = x := by show 0 * 40 + x = x; omega
theorem cdn2 (x y : Nat) : cdn [x, y] = x * 40 + y := by show (0 * 40 + x) * 40 + y = _; omega
theorem DS_1 {x a n : Nat} (h1 : a ≤ x) (h2 : x < n) : DS [x] a n := by
  refine ⟨List.pairwise_singleton _ _, fun i hi => ?_⟩
  have : i = x := by simpa using hi
  omega
theorem DS_2 {x y a n : Nat} (h1 : a ≤ x) (h2 : x < y) (h3 : y < n) : DS [x, y] a n := by
  refine ⟨List.pairwise_cons.mpr ⟨fun z hz => ?_, List.pairwise_singleton _ _⟩, fun i hi => ?_⟩
  · have : z = y := by simpa using hz
    omega
  · have : i = x ∨ i = y := by simpa using hi
    omega
theorem denN_b {k n : Nat} (h1 : 1 ≤ n) (h2 : n ≤ 40) : 1 ≤ denN k n ∧ denN k n ≤ 40 := by unfold denN; split <;> omega
section
variable {G : GC} {d : Nat} {P : PT} {I : MI} {J : MJ}
theorem ow1_loop {k : Nat} (hk : k < 4) {L : List Pt} {o1 frm to : Nat} (hok : okP L) (h1 : PtsAt o1) (hP : PF o1 L I) (h35 : J 35 1 = 0) (h38 : J 38 1 = 20) (hft : frm ≤ to) (hto : to < L.length) (hM : MS k L frm (to - frm + 1) I J) (hq : ∀ p : Nat × Nat, isMin (some p) (S1 k L frm (to - frm + 1) (to + 1)) → Ct G (d + 2) (mesM (mcl k) m_SU_below m_MI_below m_ON_below) [.ref (mcl k), .int 1] (fun r I' J' => Go G (fr G m_CU_offerWithoutOne (d + 3) P) 91 [none, none, none, none, none, none, none, none, some (.int (nI p.2)), none, none, none] (r.toList ++ [.long (lI (p.1 : Int)), .int 1, .int (nI to), .int (nI frm), .ref 33]) I' J') I J) : ∀ (r x : Nat) (o : Option (Nat × Nat)) (l6 : Int64) (x8 : Int32), x + r = to + 1 → frm ≤ x → okO o l6 x8 → isMin o (S1 k L frm (to - frm + 1) x) → Go G (fr G m_CU_offerWithoutOne (d + 3) P) 31 [some (.ref 33), some (.ref o1), some (.ref (mcl k)), some (.int (nI frm)), some (.int (nI to)), none, some (.long l6), none, some (.int x8), some (.int (nI x)), none, none] [] I J := by
  have hl := hok.1
  intro r
  induction r with
  | zero =>
    intro x o l6 x8 hx hfx ho hS
    obtain rfl : x = to + 1 := by omega
    have hlt : nI to < nI (to + 1) := nI_lt (by omega) (by omega)
    cases o with
    | none => exact absurd (⟨frm, by omega, by omega, rfl, rfl⟩ : S1 k L frm (to - frm + 1) (to + 1) _ _) (hS _ _)
    | some p =>
      obtain ⟨e1, e2⟩ := ho
      subst e1; subst e2
      exact w_CU_offerWithoutOne_31 h1 (mes_lt hk) (fun _ => hq p hS) (fun c => absurd hlt c)
  | succ r ih =>
    intro x o l6 x8 hx hfx ho hS
    have hc : ¬ nI to < nI x := nI_nlt (by omega) (by omega)
    have hseg : frm + (to - frm + 1) ≤ L.length := by omega
    have hlen := kp_le (D := [x]) hseg
    have hnb := nK_b (k := k) (kp_okV hok (D := [x]) hseg) (by omega)
    refine w_CU_offerWithoutOne_31 h1 (mes_lt hk) (fun c => absurd c hc) (fun _ => ms_aboveD hk hok h35 h38 h1 hP hseg hM (show x < L.length by omega) (kp_p1 hseg hfx (by omega)) (kp_pw hok hseg) ?_)
    rw [← nK_eq]
    have hnew : isMin (some (nK k (kp L [x] frm (to - frm + 1)), x)) (fun v w => v = nK k (kp L [x] frm (to - frm + 1)) ∧ w = x) := ⟨⟨rfl, rfl⟩, fun v w h => Or.inr ⟨h.1.symm, by rw [h.2]; exact Nat.le_refl _⟩⟩
    have hnx : isMin (kmin o (nK k (kp L [x] frm (to - frm + 1)), x)) (S1 k L frm (to - frm + 1) (x + 1)) := isMin_congr (isMin_keep hS hnew) (fun v w => by
      unfold S1
      constructor
      · rintro (⟨x', a1, a2, a3⟩ | ⟨a1, a2⟩)
        · exact ⟨x', a1, by omega, a3⟩
        · exact ⟨x, hfx, by omega, a1, a2⟩
      · rintro ⟨x', a1, a2, a3, a4⟩
        by_cases q : x' = x
        · subst q; exact Or.inr ⟨a3, a4⟩
        · exact Or.inl ⟨x', a1, by omega, a3, a4⟩)
    cases o with
    | none =>
      have ho : l6 = -1 := ho
      subst ho
      refine w_CU_offerWithoutOne_46 h1 (mes_lt hk) (fun _ => w_CU_offerWithoutOne_65 h1 (mes_lt hk) (w_CU_offerWithoutOne_73 h1 (mes_lt hk) ?_)) (fun c => absurd rfl c) (fun c => absurd rfl c)
      rw [nI_1]
      exact ih (x + 1) (some (nK k (kp L [x] frm (to - frm + 1)), x)) _ _ (by omega) (by omega) ⟨rfl, rfl⟩ hnx
    | some p =>
      obtain ⟨e1, e2⟩ := ho
      subst e1; subst e2
      obtain ⟨x', a1, a2, a3, a4⟩ := hS.1
      have hlen' := kp_le (D := [x']) hseg
      have hpb := nK_b (k := k) (kp_okV hok (D := [x']) hseg) (by omega)
      rw [← a3] at hpb
      have hm1 : ¬ lI (p.1 : Int) = -1 := by rw [show (-1 : Int64) = lI (-1) from rfl, lI_inj (by omega) (by omega)]; omega
      have hcm : (lI (p.1 : Int) ≤ lI ((nK k (kp L [x] frm (to - frm + 1)) : Nat) : Int)) ↔ p.1 ≤ nK k (kp L [x] frm (to - frm + 1)) := by rw [lI_le (by omega) (by omega)]; omega
      unfold kmin at hnx
      dsimp only at hnx
      refine w_CU_offerWithoutOne_46 h1 (mes_lt hk) (fun c => absurd c hm1) (fun _ c => w_CU_offerWithoutOne_73 h1 (mes_lt hk) ?_) (fun _ c => w_CU_offerWithoutOne_65 h1 (mes_lt hk) (w_CU_offerWithoutOne_73 h1 (mes_lt hk) ?_))
      · rw [if_neg (by have := hcm.mp c; omega)] at hnx
        rw [nI_1]
        exact ih (x + 1) (some p) _ _ (by omega) (by omega) ⟨rfl, rfl⟩ hnx
      · rw [if_pos (by have : ¬ p.1 ≤ nK k (kp L [x] frm (to - frm + 1)) := fun h => c (hcm.mpr h); omega)] at hnx
        rw [nI_1]
        exact ih (x + 1) (some (nK k (kp L [x] frm (to - frm + 1)), x)) _ _ (by omega) (by omega) ⟨rfl, rfl⟩ hnx
theorem of_one {k : Nat} (hk : k < 4) {L : List Pt} {o1 q K ls : Nat} (hok : okP L) (h1 : PtsAt o1) (hq1 : 1 ≤ q) (hq2 : q ≤ 2) (hK : 1 ≤ K) (hK6 : K ≤ 6) (hls : ls ≤ 100) (hls1 : 1 ≤ ls) : OfC G m_CU_offerWithoutOne k L o1 q K ls 1 (pcS k ls L) := by
  intro d P I J T frm to hft hto hM hO hokT hT hq
  have hl := hok.1
  have hsz := hM.size hk
  rw [pcS_at hft hto] at hq
  have hseg : frm + (to - frm + 1) ≤ L.length := by omega
  have e9 : ¬ I 33 9 < 1 := by rw [hO.2.2.2.2]; exact nI_nlt (b := 1) hq1 (by omega)
  have esz : I (mcl k) 0 - 1 = nI (to - frm) := by rw [hsz]; exact nI_pred _
  have hcmp : (nI ls ≤ I (mcl k) 0 - 1) ↔ ls ≤ to - frm := by rw [esz]; exact nI_leI (by omega) (by omega)
  refine Ct.ofGo [some (.ref 33), some (.ref o1), some (.ref (mcl k)), some (.int (nI frm)), some (.int (nI to)), some (.int (nI ls)), none, none, none, none, none, none] (by decide +kernel) rfl (Nat.le_of_ble_eq_true rfl) (w_CU_offerWithoutOne_0 h1 (mes_lt hk) (fun c => absurd c e9) (fun _ c => ?_) (fun _ c => ?_))
  · have hge := hcmp.mp c
    refine ow1_loop hk hok h1 hO.1 hO.2.1 hO.2.2.1 hft hto hM (fun p hp => ?_) (to + 1 - frm) frm none (-1) (nI frm) (by omega) (Nat.le_refl _) rfl (fun v w h => by obtain ⟨x', a1, a2, -⟩ := h; omega)
    have hdb := denN_b (k := k) (n := to - frm + 1 - 1) (by omega) (by omega)
    obtain ⟨x', a1, a2, a3, a4⟩ := hp.1
    have hlen' := kp_le (D := [x']) hseg
    have hpb := nK_b (k := k) (kp_okV hok (D := [x']) hseg) (by omega)
    rw [← a3] at hpb
    have hdv := dvNN hdb.1 hdb.2
    have hN : 0 < 5342931457063200 / denN k (to - frm + 1 - 1) := Nat.div_pos (Nat.le_of_dvd (by decide) hdv) (by omega)
    have hmin : isMin (some (p.1 * (5342931457063200 / denN k (to - frm + 1 - 1)), p.2)) (StD k ls L 1 frm to) := isMin_congr (isMin_sc hN hp) (fun v w => by
      constructor
      · rintro ⟨u, ⟨x', b1, b2, b3, b4⟩, rfl⟩
        have hkl := kp_len (L := L) (a := frm) (to - frm + 1) [x'] (DS_1 b1 (by omega))
        refine ⟨[x'], DS_1 b1 b2, rfl, by rw [cdn1]; exact b4.symm, by omega, ?_⟩
        rw [b3, show to + 1 - frm = to - frm + 1 by omega]
        unfold cs
        rw [denK_N, show (kp L [x'] frm (to - frm + 1)).length = to - frm + 1 - 1 by simp only [List.length_singleton] at hkl; omega]
      · rintro ⟨D, d1, d2, d3, d4, d5⟩
        obtain ⟨x', rfl, b1, b2⟩ := DS1 d1 d2
        have hkl := kp_len (L := L) (a := frm) (to - frm + 1) [x'] (DS_1 b1 (by omega))
        refine ⟨nK k (kp L [x'] frm (to - frm + 1)), ⟨x', b1, b2, rfl, by rw [← d3, cdn1]⟩, ?_⟩
        rw [d5, show to + 1 - frm = to - frm + 1 by omega]
        unfold cs
        rw [denK_N, show (kp L [x'] frm (to - frm + 1)).length = to - frm + 1 - 1 by simp only [List.length_singleton] at hkl; omega])
    rw [minO_of hmin] at hq
    refine ms_belowD (e := 1) hk hseg (by omega) hM (w_CU_offerWithoutOne_91 ?_)
    exact sp_offer (wh := p.2) (e := 1) hq2 hK hK6 hft (by omega) hq1 hO.2.2.2.1 hO.2.2.2.2 hokT hpb hdb (by rw [Nat.pow_one]; omega) hT (fun I' J' g1 g2 => w_CU_offerWithoutOne_96 (hq I' J' g1 g2))
  · have hlt : ¬ ls ≤ to - frm := fun h => c (hcmp.mpr h)
    have hno : minO (StD k ls L 1 frm to) = none := minO_of (o := none) (fun v w h => by obtain ⟨D, d1, d2, d3, d4, -⟩ := h; omega)
    rw [hno] at hq
    exact hq I J FO.rf hT
theorem ow2_in {k : Nat} (hk : k < 4) {L : List Pt} {o1 frm to x : Nat} (hok : okP L) (h1 : PtsAt o1) (hP : PF o1 L I) (h35 : J 35 1 = 0) (h38 : J 38 1 = 20) (hft : frm ≤ to) (hto : to < L.length) (hM : MS k L frm (to - frm + 1) I J) (hfx : frm ≤ x) (hxt : x < to) (hq : ∀ (o : Option (Nat × Nat)) (l6 : Int64) (x8 : Int32), okO o l6 x8 → isMin o (S2 k L frm (to - frm + 1) x (to + 1)) → Go G (fr G m_CU_offerWithoutTwo (d + 3) P) 31 [some (.ref 33), some (.ref o1), some (.ref (mcl k)), some (.int (nI frm)), some (.int (nI to)), none, some (.long l6), none, some (.int x8), some (.int (nI x + 1)), none, none, none] [] I J) : ∀ (r y : Nat) (o : Option (Nat × Nat)) (l6 : Int64) (x8 : Int32), y + r = to + 1 → x < y → okO o l6 x8 → isMin o (S2 k L frm (to - frm + 1) x y) → Go G (fr G m_CU_offerWithoutTwo (d + 3) P) 44 [some (.ref 33), some (.ref o1), some (.ref (mcl k)), some (.int (nI frm)), some (.int (nI to)), none, some (.long l6), none, some (.int x8), some (.int (nI x)), some (.int (nI y)), none, none] [] I J := by
  have hl := hok.1
  intro r
  induction r with
  | zero =>
    intro y o l6 x8 hy hxy ho hS
    obtain rfl : y = to + 1 := by omega
    have hlt : nI to < nI (to + 1) := nI_lt (by omega) (by omega)
    exact w_CU_offerWithoutTwo_44 h1 (mes_lt hk) (fun _ => hq o l6 x8 ho hS) (fun c => absurd hlt c)
  | succ r ih =>
    intro y o l6 x8 hy hxy ho hS
    have hc : ¬ nI to < nI y := nI_nlt (by omega) (by omega)
    have hseg : frm + (to - frm + 1) ≤ L.length := by omega
    have hlen := kp_le (D := [x, y]) hseg
    have hnb := nK_b (k := k) (kp_okV hok (D := [x, y]) hseg) (by omega)
    refine w_CU_offerWithoutTwo_44 h1 (mes_lt hk) (fun c => absurd c hc) (fun _ => ms_aboveE hk hok h35 h38 h1 hP hseg hM (show x < L.length by omega) (show y < L.length by omega) (kp_p1 hseg hfx (by omega)) (kp_p2 (by omega) (by omega) (by omega)) (kp_pw hok hseg) ?_)
    rw [← nK_eq]
    have hnew : isMin (some (nK k (kp L [x, y] frm (to - frm + 1)), x * 40 + y)) (fun v w => v = nK k (kp L [x, y] frm (to - frm + 1)) ∧ w = x * 40 + y) := ⟨⟨rfl, rfl⟩, fun v w h => Or.inr ⟨h.1.symm, by rw [h.2]; exact Nat.le_refl _⟩⟩
    have hnx : isMin (kmin o (nK k (kp L [x, y] frm (to - frm + 1)), x * 40 + y)) (S2 k L frm (to - frm + 1) x (y + 1)) := isMin_congr (isMin_keep hS hnew) (fun v w => by
      unfold S2
      constructor
      · rintro (⟨x', y', a1, a2, a3, a4, a5⟩ | ⟨a1, a2⟩)
        · exact ⟨x', y', a1, a2, a3, by omega, a5⟩
        · exact ⟨x, y, hfx, hxy, by omega, by omega, a1, a2⟩
      · rintro ⟨x', y', a1, a2, a3, a4, a5, a6⟩
        by_cases q : x' = x ∧ y' = y
        · obtain ⟨q1, q2⟩ := q
          subst q1; subst q2; exact Or.inr ⟨a5, a6⟩
        · exact Or.inl ⟨x', y', a1, a2, a3, by omega, a5, a6⟩)
    have ew : nI x * 40 + nI y = nI (x * 40 + y) := by rw [show nI x * 40 = nI (x * 40) from (Int32.ofNat_mul x 40).symm, nI_add]
    cases o with
    | none =>
      have ho : l6 = -1 := ho
      subst ho
      refine w_CU_offerWithoutTwo_60 h1 (mes_lt hk) (fun _ => w_CU_offerWithoutTwo_79 h1 (mes_lt hk) (w_CU_offerWithoutTwo_93 h1 (mes_lt hk) ?_)) (fun c => absurd rfl c) (fun c => absurd rfl c)
      rw [nI_1]
      exact ih (y + 1) (some (nK k (kp L [x, y] frm (to - frm + 1)), x * 40 + y)) _ _ (by omega) (by omega) ⟨rfl, ew⟩ hnx
    | some p =>
      obtain ⟨e1, e2⟩ := ho
      subst e1; subst e2
      obtain ⟨x', y', a1, a2, a3, a4, a5, a6⟩ := hS.1
      have hlen' := kp_le (D := [x', y']) hseg
      have hpb := nK_b (k := k) (kp_okV hok (D := [x', y']) hseg) (by omega)
      rw [← a5] at hpb
      have hm1 : ¬ lI (p.1 : Int) = -1 := by rw [show (-1 : Int64) = lI (-1) from rfl, lI_inj (by omega) (by omega)]; omega
      have hcm : (lI (p.1 : Int) ≤ lI ((nK k (kp L [x, y] frm (to - frm + 1)) : Nat) : Int)) ↔ p.1 ≤ nK k (kp L [x, y] frm (to - frm + 1)) := by rw [lI_le (by omega) (by omega)]; omega
      unfold kmin at hnx
      dsimp only at hnx
      refine w_CU_offerWithoutTwo_60 h1 (mes_lt hk) (fun c => absurd c hm1) (fun _ c => w_CU_offerWithoutTwo_93 h1 (mes_lt hk) ?_) (fun _ c => w_CU_offerWithoutTwo_79 h1 (mes_lt hk) (w_CU_offerWithoutTwo_93 h1 (mes_lt hk) ?_))
      · rw [if_neg (by have := hcm.mp c; omega)] at hnx
        rw [nI_1]
        exact ih (y + 1) (some p) _ _ (by omega) (by omega) ⟨rfl, rfl⟩ hnx
      · rw [if_pos (by have : ¬ p.1 ≤ nK k (kp L [x, y] frm (to - frm + 1)) := fun h => c (hcm.mpr h); omega)] at hnx
        rw [nI_1]
        exact ih (y + 1) (some (nK k (kp L [x, y] frm (to - frm + 1)), x * 40 + y)) _ _ (by omega) (by omega) ⟨rfl, ew⟩ hnx
theorem ow2_loop {k : Nat} (hk : k < 4) {L : List Pt} {o1 frm to : Nat} (hok : okP L) (h1 : PtsAt o1) (hP : PF o1 L I) (h35 : J 35 1 = 0) (h38 : J 38 1 = 20) (hft : frm < to) (hto : to < L.length) (hM : MS k L frm (to - frm + 1) I J) (hq : ∀ p : Nat × Nat, isMin (some p) (S2 k L frm (to - frm + 1) to 0) → Ct G (d + 2) (mesM (mcl k) m_SU_below m_MI_below m_ON_below) [.ref (mcl k), .int 2] (fun r I' J' => Go G (fr G m_CU_offerWithoutTwo (d + 3) P) 117 [none, none, none, none, none, none, none, none, some (.int (nI p.2)), none, none, none, none] (r.toList ++ [.long (lI (p.1 : Int)), .int 2, .int (nI to), .int (nI frm), .ref 33]) I' J') I J) : ∀ (r x : Nat) (o : Option (Nat × Nat)) (l6 : Int64) (x8 : Int32), x + r = to → frm ≤ x → okO o l6 x8 → isMin o (S2 k L frm (to - frm + 1) x 0) → Go G (fr G m_CU_offerWithoutTwo (d + 3) P) 31 [some (.ref 33), some (.ref o1), some (.ref (mcl k)), some (.int (nI frm)), some (.int (nI to)), none, some (.long l6), none, some (.int x8), some (.int (nI x)), none, none, none] [] I J := by
  have hl := hok.1
  intro r
  induction r with
  | zero =>
    intro x o l6 x8 hx hfx ho hS
    obtain rfl : x = to := by omega
    have hle : nI x ≤ nI x := nI_le (Nat.le_refl _) (by omega)
    cases o with
    | none => exact absurd (⟨frm, x, by omega, by omega, by omega, by omega, rfl, rfl⟩ : S2 k L frm (x - frm + 1) x 0 _ _) (hS _ _)
    | some p =>
      obtain ⟨e1, e2⟩ := ho
      subst e1; subst e2
      exact w_CU_offerWithoutTwo_31 h1 (mes_lt hk) (fun _ => hq p hS) (fun c => absurd hle c)
  | succ r ih =>
    intro x o l6 x8 hx hfx ho hS
    have hc : ¬ nI to ≤ nI x := nI_ge (by omega) (by omega)
    refine w_CU_offerWithoutTwo_31 h1 (mes_lt hk) (fun c => absurd c hc) (fun _ => ?_)
    rw [nI_1]
    refine ow2_in hk hok h1 hP h35 h38 (by omega) hto hM hfx (by omega) (fun o' l6' x8' ho' hS' => ?_) (to - x) (x + 1) o l6 x8 (by omega) (by omega) ho (isMin_congr hS (fun v w => ?_))
    · rw [nI_1]
      exact ih (x + 1) o' l6' x8' (by omega) (by omega) ho' (isMin_congr hS' (fun v w => by
        unfold S2
        constructor
        · rintro ⟨x', y', a1, a2, a3, a4, a5⟩
          exact ⟨x', y', a1, a2, a3, by omega, a5⟩
        · rintro ⟨x', y', a1, a2, a3, a4, a5⟩
          exact ⟨x', y', a1, a2, a3, by omega, a5⟩))
    · unfold S2
      constructor
      · rintro ⟨x', y', a1, a2, a3, a4, a5⟩
        exact ⟨x', y', a1, a2, a3, by omega, a5⟩
      · rintro ⟨x', y', a1, a2, a3, a4, a5⟩
        exact ⟨x', y', a1, a2, a3, by omega, a5⟩
theorem of_two {k : Nat} (hk : k < 4) {L : List Pt} {o1 q K ls : Nat} (hok : okP L) (h1 : PtsAt o1) (hq2 : q = 2) (hK : 1 ≤ K) (hK6 : K ≤ 6) (hls : ls ≤ 100) (hls1 : 1 ≤ ls) : OfC G m_CU_offerWithoutTwo k L o1 q K ls 2 (pcS k ls L) := by
  intro d P I J T frm to hft hto hM hO hokT hT hq
  have hl := hok.1
  have hsz := hM.size hk
  rw [pcS_at hft hto] at hq
  have hseg : frm + (to - frm + 1) ≤ L.length := by omega
  have e9 : ¬ I 33 9 < 2 := by rw [hO.2.2.2.2]; exact nI_nlt (b := 2) (by omega) (by omega)
  have z2 : (2 : Int32).toInt = 2 := rfl
  have esz : (I (mcl k) 0 - 2).toInt = ((to - frm + 1 : Nat) : Int) - 2 := by rw [hsz, ti_sub (by rw [nI_ti (by omega)]; omega) (by rw [nI_ti (by omega)]; omega), nI_ti (by omega), z2]
  have hcmp : (nI ls ≤ I (mcl k) 0 - 2) ↔ ls + 2 ≤ to - frm + 1 := by rw [ti_le, esz, nI_ti (by omega)]; omega
  refine Ct.ofGo [some (.ref 33), some (.ref o1), some (.ref (mcl k)), some (.int (nI frm)), some (.int (nI to)), some (.int (nI ls)), none, none, none, none, none, none, none] (by decide +kernel) rfl (Nat.le_of_ble_eq_true rfl) (w_CU_offerWithoutTwo_0 h1 (mes_lt hk) (fun c => absurd c e9) (fun _ c => ?_) (fun _ c => ?_))
  · have hge := hcmp.mp c
    refine ow2_loop hk hok h1 hO.1 hO.2.1 hO.2.2.1 (by omega) hto hM (fun p hp => ?_) (to - frm) frm none (-1) (nI frm) (by omega) (Nat.le_refl _) rfl (fun v w h => by obtain ⟨x', y', a1, a2, a3, a4, -⟩ := h; omega)
    have hdb := denN_b (k := k) (n := to - frm + 1 - 2) (by omega) (by omega)
    obtain ⟨x', y', a1, a2, a3, a4, a5, a6⟩ := hp.1
    have hlen' := kp_le (D := [x', y']) hseg
    have hpb := nK_b (k := k) (kp_okV hok (D := [x', y']) hseg) (by omega)
    rw [← a5] at hpb
    have hdv := dvNN hdb.1 hdb.2
    have hN : 0 < 5342931457063200 / denN k (to - frm + 1 - 2) := Nat.div_pos (Nat.le_of_dvd (by decide) hdv) (by omega)
    have hmin : isMin (some (p.1 * (5342931457063200 / denN k (to - frm + 1 - 2)), p.2)) (StD k ls L 2 frm to) := isMin_congr (isMin_sc hN hp) (fun v w => by
      constructor
      · rintro ⟨u, ⟨x', y', b1, b2, b3, b4, b5, b6⟩, rfl⟩
        have hkl := kp_len (L := L) (a := frm) (to - frm + 1) [x', y'] (DS_2 b1 b2 (by omega))
        refine ⟨[x', y'], DS_2 b1 b2 (by omega), rfl, by rw [cdn2]; exact b6.symm, by omega, ?_⟩
        rw [b5, show to + 1 - frm = to - frm + 1 by omega]
        unfold cs
        rw [denK_N, show (kp L [x', y'] frm (to - frm + 1)).length = to - frm + 1 - 2 by simp only [List.length_cons, List.length_nil] at hkl; omega]
      · rintro ⟨D, d1, d2, d3, d4, d5⟩
        obtain ⟨x', y', rfl, b1, b2, b3⟩ := DS2 d1 d2
        have hkl := kp_len (L := L) (a := frm) (to - frm + 1) [x', y'] (DS_2 b1 b2 (by omega))
        refine ⟨nK k (kp L [x', y'] frm (to - frm + 1)), ⟨x', y', b1, b2, by omega, by omega, rfl, by rw [← d3, cdn2]⟩, ?_⟩
        rw [d5, show to + 1 - frm = to - frm + 1 by omega]
        unfold cs
        rw [denK_N, show (kp L [x', y'] frm (to - frm + 1)).length = to - frm + 1 - 2 by simp only [List.length_cons, List.length_nil] at hkl; omega])
    rw [minO_of hmin] at hq
    refine ms_belowD (e := 2) hk hseg (by omega) hM (w_CU_offerWithoutTwo_117 ?_)
    exact sp_offer (wh := p.2) (e := 2) (by omega) hK hK6 hft (by omega) (by omega) hO.2.2.2.1 hO.2.2.2.2 hokT hpb hdb (by show p.2 < 1600; omega) hT (fun I' J' g1 g2 => w_CU_offerWithoutTwo_122 (hq I' J' g1 g2))
  · have hlt : ¬ ls + 2 ≤ to - frm + 1 := fun h => c (hcmp.mpr h)
    have hno : minO (StD k ls L 2 frm to) = none := minO_of (o := none) (fun v w h => by obtain ⟨D, d1, d2, d3, d4, -⟩ := h; omega)
    rw [hno] at hq
    exact hq I J FO.rf hT
end
