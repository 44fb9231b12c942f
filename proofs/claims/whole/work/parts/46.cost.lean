/-! ===== cost ===== -/
theorem isKind1 {x : Int32} (h : ¬ f_LB_isKind x = 0) : ∃ r, r < 4 ∧ x = nI r := by
  obtain ⟨h1, h2⟩ := isW1.mp (show ¬ f_LB_isWithin x 0 3 = 0 from h)
  obtain ⟨j, hj, e⟩ := nI_of2 (n := 3) (by decide) (Int32.not_lt.mpr h1) h2
  exact ⟨j, by omega, e⟩
theorem fG_eq (n b : Nat) : fG n b = Nat.gcd n b := by unfold fG; rw [← Nat.gcd_rec, Nat.gcd_comm]
theorem f_top {n b : Nat} (h : 0 < b) : fW n b * fB n b + fA n b = n / Nat.gcd n b := by
  have hg := fG_pos (n := n) h
  have d1 : fG n b ∣ b := Nat.gcd_dvd_right _ _
  have d2 : fG n b ∣ n % b := Nat.gcd_dvd_left _ _
  rw [← fG_eq]
  refine Nat.eq_of_mul_eq_mul_right hg ?_
  have d3 : fG n b ∣ n := by rw [fG_eq]; exact Nat.gcd_dvd_left _ _
  rw [Nat.div_mul_cancel d3, Nat.add_mul]
  unfold fA fB fW
  rw [Nat.div_mul_cancel d2, Nat.mul_assoc, Nat.div_mul_cancel d1, Nat.mul_comm]
  exact Nat.div_add_mod n b
def pts (st : ST) (r : Nat) : List Pt := ptl st.1 r st.2.1
def costL (l : List Pt) (k : Nat) (w : Int32) : Int64 := if w = 0 then lI ((nK k l / Nat.gcd (nK k l) (denK k l) : Nat) : Int) else lI ((denK k l / Nat.gcd (nK k l) (denK k l) : Nat) : Int)
def costA (st : ST) (r kd a b w : Int32) : Int64 :=
  if f_LB_isRow r = 0 ∨ f_LB_isKind kd = 0 ∨ f_LB_isWithin w 0 1 = 0 ∨ a < 0 ∨ b < a ∨ ¬ b < nI (pts st r.toNatClampNeg).length then -9223372036854775806
  else costL (seg (pts st r.toNatClampNeg) a.toNatClampNeg (b.toNatClampNeg - a.toNatClampNeg + 1)) kd.toNatClampNeg w
section
variable {G : GC} {d : Nat} {P : PT} {I : MI} {J : MJ}
theorem mo_loop {k : Nat} (hk : k < 4) {L : List Pt} {a b o1 : Nat} {I0 : MI} {J0 : MJ} (hok : okP L) (h1 : PtsAt o1) (hP : PF o1 L I0) (hb : b < L.length) (hab : a ≤ b) (hq : ∀ I' J', FM I0 J0 I' J' → MS k L a (b - a + 1) I' J' → P (some (.ref (mcl k))) I' J') : ∀ (r m : Nat) (I : MI) (J : MJ), a + m + r = b + 1 → FM I0 J0 I J → MS k L a m I J → Go G (fr G m_CU_measureOver (d + 3) P) 16 [none, some (.ref o1), none, none, some (.int (nI b)), some (.ref (mcl k)), some (.int (nI (a + m)))] [] I J := by
  have hl := hok.1
  intro r
  induction r with
  | zero =>
    intro m I J hr hF hM
    have hlt : nI b < nI (a + m) := nI_lt (by omega) (by omega)
    rw [show m = b - a + 1 by omega] at hM
    exact w_CU_measureOver_16 h1 (mes_lt hk) (fun _ => hq I J hF hM) (fun c => absurd hlt c)
  | succ r ih =>
    intro m I J hr hF hM
    have hc : ¬ nI b < nI (a + m) := nI_nlt (by omega) (by omega)
    refine w_CU_measureOver_16 h1 (mes_lt hk) (fun c => absurd c hc) (fun _ => ms_extend hk hok h1 (hP.of hF h1) (by omega) hM (fun I' J' g1 g2 => w_CU_measureOver_31 h1 (mes_lt hk) ?_))
    rw [nI_1]
    exact ih (m + 1) I' J' (by omega) (hF.tr g1) g2
theorem sp_measureOver {k : Nat} (hk : k < 4) {L : List Pt} {a b o1 : Nat} (hok : okP L) (h1 : PtsAt o1) (hP : PF o1 L I) (hb : b < L.length) (hab : a ≤ b) (hq : ∀ I' J', FM I J I' J' → MS k L a (b - a + 1) I' J' → P (some (.ref (mcl k))) I' J') : Ct G (d + 3) m_CU_measureOver [.ref 33, .ref o1, .int (nI k), .int (nI a), .int (nI b)] P I J := by
  have ek : (nI k).toNatClampNeg = k := nI_clamp (by omega)
  refine Ct.ofGo [some (.ref 33), some (.ref o1), some (.int (nI k)), some (.int (nI a)), some (.int (nI b)), none, none] (by decide +kernel) rfl (Nat.le_of_ble_eq_true rfl) (w_CU_measureOver_0 h1 (vp_in_nI hk (by omega)) ?_)
  rw [ek]
  refine ms_restart hk (L := L) (a := a) (fun I' J' g1 g2 => w_CU_measureOver_13 h1 (mes_lt hk) ?_)
  exact mo_loop hk hok h1 hP hb hab hq (b + 1 - a) 0 I' J' (by omega) g1 g2
theorem FM.kc {I' : MI} {J' : MJ} (h : FM I J I' J') : KC I J I' J' := by
  refine ⟨fun a ha => ?_, by rw [(h.1 53 (by omega)).1], h.2.1, h.2.2, fun a ha => (h.1 a (by omega)).2⟩
  unfold lasts at ha
  exact (h.1 a (by omega)).1
theorem cl_cost {st : ST} {r kd a b w : Int32} (hR : RC st I J) (hS : okS st) (hq : ∀ I' J', KC I J I' J' → P (some (.long (costA st r kd a b w))) I' J') : Ct G (d + 4) m_LB_cost [.ref 0, .int r, .int kd, .int a, .int b, .int w] P I J := by
  have hbad : (f_LB_isRow r = 0 ∨ f_LB_isKind kd = 0 ∨ f_LB_isWithin w 0 1 = 0 ∨ a < 0 ∨ b < a ∨ ¬ b < nI (pts st r.toNatClampNeg).length) → P (some (.long (f_LB_asLong (-2)))) I J := fun hb => by
    have e : costA st r kd a b w = f_LB_asLong (-2) := by unfold costA; rw [if_pos hb]; decide
    have := hq I J KC.rf
    rw [e] at this; exact this
  have hsz : ∀ r : Nat, r < 4 → I (7 + 5 * r) 4 = nI (pts st r).length := fun r hr => (hR.2.2.1 r hr).2.pl.1
  refine Ct.ofGo [some (.ref 0), some (.int r), some (.int kd), some (.int a), some (.int b), some (.int w), none, none, none, none, none, none, none, none] (by decide +kernel) rfl (Nat.le_of_ble_eq_true rfl) (w_LB_cost_0 (fun c => w_LB_cost_24 (hbad (Or.inl c))) (fun _ c => w_LB_cost_24 (hbad (Or.inr (Or.inl c)))) (fun c _ _ => vin_row (isRow1 c)) (fun _ _ _ c => w_LB_cost_58 (hbad (Or.inr (Or.inr (Or.inr (Or.inl c)))))) (fun _ _ _ _ c => w_LB_cost_58 (hbad (Or.inr (Or.inr (Or.inr (Or.inr (Or.inl c))))))) (fun c1 c2 c3 c4 c5 c6 => ?_) (fun c1 _ _ _ _ c => w_LB_cost_58 (hbad (Or.inr (Or.inr (Or.inr (Or.inr (Or.inr ?_))))))) (fun _ _ c => w_LB_cost_24 (hbad (Or.inr (Or.inr (Or.inl c))))))
  · obtain ⟨r, hr, rfl⟩ := isRow1 c1
    obtain ⟨k, hk, rfl⟩ := isKind1 c2
    have e1 : (nI r).toNatClampNeg = r := nI_clamp (by omega)
    have ek : (nI k).toNatClampNeg = k := nI_clamp (by omega)
    rw [e1] at c6 ⊢
    rw [hsz r hr] at c6
    have hok : okP (pts st r) := ptl_ok hS.1 r st.2.1
    have hl := hok.1
    obtain ⟨a, ha, rfl⟩ := nI_of c4
    obtain ⟨b, hb, rfl⟩ := nI_of (show ¬ b < 0 from fun h => c4 (by rw [ti_lt] at *; have := nI_toInt ha; omega))
    rw [nI_ltI hb ha] at c5
    have c6' := (nI_ltI hb (by omega)).mp c6
    have hP : PF (7 + 5 * r) (pts st r) I := (hR.2.2.1 r hr).2.pf
    have hans : costA st (nI r) (nI k) (nI a) (nI b) w = costL (seg (pts st r) a (b - a + 1)) k w := by
      unfold costA
      rw [e1, ek, nI_clamp ha, nI_clamp hb, if_neg]
      rintro (h | h | h | h | h | h)
      · exact c1 h
      · exact c2 h
      · exact c3 h
      · exact c4 h
      · rw [nI_ltI hb ha] at h; exact c5 h
      · exact h c6
    rw [hans] at hq
    refine sp_measureOver hk hok (pts_lt r hr) hP c6' (by omega) (fun I' J' g1 g2 => ?_)
    have h35 : J' 35 1 = 0 := by rw [g1.2.1]; exact hR.2.2.2.2.2.2.2.1
    have h38 : J' 38 1 = 20 := by rw [g1.2.2]; exact hR.2.2.2.2.2.2.2.2
    have hseg : a + (b - a + 1) ≤ (pts st r).length := by omega
    refine w_LB_cost_77 (pts_lt r hr) (mes_lt hk) (ms_above hk hok h35 h38 (pts_lt r hr) hseg g2 (w_LB_cost_88 (mes_lt hk) (ms_below hk hseg g2 (w_LB_cost_96 ?_))))
    have hlen := seg_len hseg
    have hov := seg_okV (a := a) (m := b - a + 1) hok
    have hnb := nK_b (k := k) hov (by omega)
    have hdb := denK_b (k := k) (l := seg (pts st r) a (b - a + 1)) (by omega) (by omega)
    rw [← nK_eq, nI_lI (by omega)]
    have hfin := hq I' J' g1.kc
    unfold costL at hfin
    generalize nK k (seg (pts st r) a (b - a + 1)) = n at *
    generalize denK k (seg (pts st r) a (b - a + 1)) = e at *
    have hgp : 0 < Nat.gcd n e := Nat.gcd_pos_of_pos_right _ (by omega)
    have hge : Nat.gcd n e ≤ e := Nat.le_of_dvd (by omega) (Nat.gcd_dvd_right _ _)
    have hge1 : (1 : Int64) ≤ lI (Nat.gcd n e : Nat) := by rw [show (1 : Int64) = lI 1 from rfl, lI_le (by omega) (by omega)]; omega
    have hne : ¬ lI (Nat.gcd n e : Nat) = 0 := fun c => by have := (ln_0 (by omega)).mp c; omega
    refine sp_commonDivisor (by omega) (by omega) (w_LB_cost_106 (fun _ _ => hne) (fun _ c => ?_) (fun _ _ => hne) (fun _ c => ?_) (fun c => absurd hge1 c))
    · rw [if_neg c] at hfin
      rw [ln_div (by omega) (by omega) hgp]; exact hfin
    · rw [if_pos c] at hfin
      rw [ln_div (by omega) (by omega) hgp]; exact hfin
  · obtain ⟨r, hr, rfl⟩ := isRow1 c1
    rw [nI_clamp (show r < 2 ^ 31 by omega)] at c ⊢
    rw [hsz r hr] at c; exact c
theorem FC.km {I' : MI} {J' : MJ} (h : FC I J I' J') : KM I J I' J' := ⟨fun a ha => ⟨h.1 a (by omega), h.2 a (by omega) (by omega) (by omega)⟩, fun a _ _ => h.1 a (by omega), h.1 91 (by decide), fun a _ _ => h.1 a (by omega), by rw [h.1 67 (by decide)], by rw [h.1 67 (by decide)], by rw [h.1 67 (by decide)], by rw [h.1 67 (by decide)]⟩
/-- how many points a row has; and the points lie ready -/
theorem md_manyOfQ {st : ST} {r : Nat} (hR : RM st I J) (hS : okS st) (hq : ∀ I', FP I I' → QL (pts st r) I' → P (some (.int (nI (pts st r).length))) I' J) : Ct G (d + 1) m_RM_manyOf [.ref 67, .int (nI r)] P I J := by
  refine Ct.ofGo [some (.ref 67), some (.int (nI r))] (by decide +kernel) rfl (Nat.le_of_ble_eq_true rfl) (w_RM_manyOf_0 ?_)
  rw [hR.2.1]
  refine md_pointsBy hR.1 hS.1 (fun I' g1 _ g3 => w_RM_manyOf_9 ?_)
  have := hq I' g1 g3.ql
  rw [g3.ql.1]; exact this
theorem md_cost {st : ST} {r kd a b w : Int32} (hR : RM st I J) (hS : okS st) (hq : ∀ I' J', KM I J I' J' → P (some (.long (costA st r kd a b w))) I' J') : Ct G (d + 4) m_RM_cost [.ref 67, .int r, .int kd, .int a, .int b, .int w] P I J := by
  have hbad : ∀ I', KM I J I' J → (f_LB_isRow r = 0 ∨ f_LB_isKind kd = 0 ∨ f_LB_isWithin w 0 1 = 0 ∨ a < 0 ∨ b < a ∨ ¬ b < nI (pts st r.toNatClampNeg).length) → Go G (fr G m_RM_cost (d + 4) P) 44 [none, none, none, none, none, none, none] [] I' J := fun I' hk hb => by
    have e : costA st r kd a b w = -9223372036854775806 := by unfold costA; rw [if_pos hb]
    have := hq I' J hk
    rw [e] at this; exact w_RM_cost_44 this
  refine Ct.ofGo [some (.ref 67), some (.int r), some (.int kd), some (.int a), some (.int b), some (.int w), none] (by decide +kernel) rfl (Nat.le_of_ble_eq_true rfl) (w_RM_cost_0 (fun c => hbad I KM.rf (Or.inl c)) (fun _ c => hbad I KM.rf (Or.inr (Or.inl c))) (fun _ _ c => hbad I KM.rf (Or.inr (Or.inr (Or.inl c)))) (fun _ _ _ c => hbad I KM.rf (Or.inr (Or.inr (Or.inr (Or.inl c))))) (fun _ _ _ _ c => hbad I KM.rf (Or.inr (Or.inr (Or.inr (Or.inr (Or.inl c)))))) (fun c1 c2 c3 c4 c5 => ?_))
  have c1 : ¬ f_LB_isRow r = 0 := c1
  have c2 : ¬ f_LB_isKind kd = 0 := c2
  have c3 : ¬ f_LB_isWithin w 0 1 = 0 := c3
  obtain ⟨r, hr, rfl⟩ := isRow1 c1
  obtain ⟨k, hk, rfl⟩ := isKind1 c2
  have e1 : (nI r).toNatClampNeg = r := nI_clamp (by omega)
  have ek : (nI k).toNatClampNeg = k := nI_clamp (by omega)
  have hok : okP (pts st r) := ptl_ok hS.1 r st.2.1
  have hl := hok.1
  refine md_manyOfQ hR hS (fun I1 g1 g2 => w_RM_cost_41 (fun c6 => ?_) (fun c6 => hbad I1 g1.km (Or.inr (Or.inr (Or.inr (Or.inr (Or.inr (by rw [e1]; exact c6))))))))
  obtain ⟨a, ha, rfl⟩ := nI_of c4
  obtain ⟨b, hb, rfl⟩ := nI_of (show ¬ b < 0 from fun h => c4 (by rw [ti_lt] at *; have := nI_toInt ha; omega))
  have c6' := (nI_ltI hb (by omega)).mp c6
  have hans : costA st (nI r) (nI k) (nI a) (nI b) w = costL (seg (pts st r) a (b - a + 1)) k w := by
    unfold costA
    rw [e1, ek, nI_clamp ha, nI_clamp hb, if_neg]
    rintro (h | h | h | h | h | h)
    · exact c1 h
    · exact c2 h
    · exact c3 h
    · exact c4 h
    · exact c5 h
    · exact h c6
  rw [nI_ltI hb ha] at c5
  rw [hans] at hq
  refine md_costs hk hok g2 (fun I2 J2 k1 k2 => ?_)
  have eidx : 40 * nI a + nI b = nI (40 * a + b) := by
    rw [show (40 : Int32) = nI 40 from rfl, show nI 40 * nI a = nI (40 * a) from (Int32.ofNat_mul 40 a).symm, nI_add]
  have hent := k2 a (b - a) (by omega)
  rw [show a + (b - a) = b by omega] at hent
  have ex : (nI (40 * a + b)).toNatClampNeg = 40 * a + b := nI_clamp (by omega)
  have hseg : a + (b - a + 1) ≤ (pts st r).length := by omega
  have hlen := seg_len hseg
  have hdb := denK_b (k := k) (l := seg (pts st r) a (b - a + 1)) (by omega) (by omega)
  have hfin := hq I2 J2 (g1.km.tr k1.km)
  unfold costL at hfin
  obtain ⟨m1, m2, m3⟩ := hent
  generalize nK k (seg (pts st r) a (b - a + 1)) = n at *
  generalize denK k (seg (pts st r) a (b - a + 1)) = e at *
  refine w_RM_cost_53 (fun _ => by rw [eidx]; exact vp_in_nI (by omega) (by omega)) (fun c => ?_) (fun _ => by rw [eidx]; exact vp_in_nI (by omega) (by omega)) (fun c => ?_)
  · rw [if_neg c] at hfin
    rw [eidx, ex, m3]
    unfold fB; rw [fG_eq]; exact hfin
  · rw [if_pos c] at hfin
    rw [eidx, ex, m1, m2, m3, lI_mul, lI_add]
    have : ((fW n e : Nat) : Int) * (fB n e : Nat) + (fA n e : Nat) = ((fW n e * fB n e + fA n e : Nat) : Int) := by push_cast; rfl
    rw [this, f_top (by omega)]; exact hfin
end
