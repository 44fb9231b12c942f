/-! ===== sums without points ===== -/
theorem sm_c (f : Pt → Int) (p : Pt) (l : List Pt) : sm f (p :: l) = f p + sm f l := by
  rw [show p :: l = [p] ++ l from rfl, sm_app, sm_1]
theorem sums_p {l l1 : List Pt} {p : Pt} (h : l.Perm (p :: l1)) : sV l1 = sV l - p.2.toInt ∧ sQ l1 = sQ l - p.2.toInt * p.2.toInt ∧ sD l1 = sD l - p.1 ∧ sE l1 = sE l - (p.1 : Int) * p.1 ∧ sB l1 = sB l - p.2.toInt * p.1 ∧ l1.length + 1 = l.length := by
  unfold sV sQ sD sE sB
  have e := h.length_eq
  rw [sm_perm h, sm_perm h, sm_perm h, sm_perm h, sm_perm h, sm_c, sm_c, sm_c, sm_c, sm_c, e, List.length_cons]
  omega
theorem okV_perm {l l1 : List Pt} {p : Pt} (h : l.Perm (p :: l1)) (hv : okV l) : okV l1 := fun x hx => hv x (h.mem_iff.mpr (List.mem_cons_of_mem _ hx))
section
variable {G : GC} {d : Nat} {P : PT} {I : MI} {J : MJ}
theorem su_tail {k : Nat} (hk : k = 0 ∨ k = 2) {o1 : Nat} {x2 x3 : Int32} {l : List Pt} {sv sq sd se sb vx vy dx dy : Int} (h35 : J 35 1 = 0) (h38 : J 38 1 = 20) (h1 : PtsAt o1) (hv : okV l) (hl : l.length ≤ 40) (hs : l.Pairwise fun a b => a.1 < b.1) (f2 : J (mcl k) 2 = lI sv) (f3 : J (mcl k) 3 = lI sq) (f4 : J (mcl k) 4 = lI sd) (f5 : J (mcl k) 5 = lI se) (f6 : J (mcl k) 6 = lI sb) (e1 : sV l = sv - vx - vy) (e2 : sQ l = sq - vx * vx - vy * vy) (e3 : sD l = sd - dx - dy) (e4 : sE l = se - dx * dx - dy * dy) (e5 : sB l = sb - vx * dx - vy * dy) (hx : (x2 = -1 ∧ dx = 0) ∨ ∃ i, i < 40 ∧ x2 = nI i ∧ (I (o1 + 2) i).toInt64 = lI dx) (hy : (x3 = -1 ∧ dy = 0) ∨ ∃ i, i < 40 ∧ x3 = nI i ∧ (I (o1 + 2) i).toInt64 = lI dy) (hq : P (some (.long (lI (numK k l)))) I J) : Go G (fr G m_SU_above (d + 2) P) 63 [some (.ref (mcl k)), some (.ref o1), some (.int x2), some (.int x3), some (.long (lI l.length)), none, some (.long (lI vx)), none, none, none, none, none, none, none, none, none, none, none, none, none, none, none, none, none] [.long (lI vy)] I J := by
  have ho : SumAt (mcl k) := by rcases hk with rfl | rfl; (· exact Or.inl rfl); (· exact Or.inr rfl)
  have elvl : lI l.length * (J (mcl k) 3 - lI vx * lI vx - lI vy * lI vy) - (J (mcl k) 2 - lI vx - lI vy) * (J (mcl k) 2 - lI vx - lI vy) = lI (lvl l) := by
    rw [f2, f3, lI_mul, lI_mul, lI_sub, lI_sub, lI_sub, lI_sub, lI_mul, lI_mul, lI_sub]
    congr 1
    unfold lvl; rw [e1, e2]
  rcases hk with rfl | rfl
  · refine w_SU_above_63 ho h1 (fun c => absurd h35 c) (fun c => absurd h35 c) (fun c => absurd h35 c) (fun _ => ?_)
    rw [elvl]; exact hq
  · have hne : ¬ J (mcl 2) 1 = 0 := by show ¬ J 38 1 = 0; rw [h38]; decide
    have hlast : Go G (fr G m_SU_above (d + 2) P) 150 [some (.ref (mcl 2)), none, none, none, some (.long (lI l.length)), none, some (.long (lI vx)), none, some (.long (lI vy)), none, some (.long (J (mcl 2) 2 - lI vx - lI vy)), none, some (.long (lI (lvl l))), none, some (.long (lI dx)), none, none, none, none, none, none, none, none, none] [.long (lI dy)] I J := by
      refine w_SU_above_150 ho ?_
      have g1 : lI l.length * (J (mcl 2) 5 - lI dx * lI dx - lI dy * lI dy) - (J (mcl 2) 4 - lI dx - lI dy) * (J (mcl 2) 4 - lI dx - lI dy) = lI (spr l) := by
        rw [f4, f5, lI_mul, lI_mul, lI_sub, lI_sub, lI_sub, lI_sub, lI_mul, lI_mul, lI_sub]
        congr 1
        unfold spr; rw [e3, e4]
      have g2 : lI l.length * (J (mcl 2) 6 - lI vx * lI dx - lI vy * lI dy) - (J (mcl 2) 2 - lI vx - lI vy) * (J (mcl 2) 4 - lI dx - lI dy) = lI (slt l) := by
        rw [f2, f4, f6, lI_mul, lI_mul, lI_sub, lI_sub, lI_sub, lI_sub, lI_sub, lI_sub, lI_mul, lI_mul, lI_sub]
        congr 1
        unfold slt; rw [e1, e3, e5]
      rw [g1, g2]
      obtain ⟨b1, b2⟩ := sums_b2 hv hl
      refine sp_tilt ho h38 b1 b2 (w_SU_above_228 ?_)
      rw [lI_add, ← slp_tlt hs]
      exact hq
    have hmid : Go G (fr G m_SU_above (d + 2) P) 132 [some (.ref (mcl 2)), some (.ref o1), none, some (.int x3), some (.long (lI l.length)), none, some (.long (lI vx)), none, some (.long (lI vy)), none, some (.long (J (mcl 2) 2 - lI vx - lI vy)), none, some (.long (lI (lvl l))), none, none, none, none, none, none, none, none, none, none, none] [.long (lI dx)] I J := by
      rcases hy with ⟨h, hd⟩ | ⟨i, hi, h, hd⟩
      · subst h; subst hd
        exact w_SU_above_132 ho h1 (fun c => absurd rfl c) (fun c => absurd rfl c) (fun _ => hlast)
      · subst h
        have hn := nI_ne1 (n := i) (by omega)
        have ei : (nI i).toNatClampNeg = i := nI_clamp (by omega)
        refine w_SU_above_132 ho h1 (fun _ => vp_in_nI hi (by omega)) (fun _ => ?_) (fun c => absurd c hn)
        rw [ei, hd]; exact hlast
    rcases hx with ⟨h, hd⟩ | ⟨i, hi, h, hd⟩
    · subst h; subst hd
      refine w_SU_above_63 ho h1 (fun _ c => absurd rfl c) (fun _ c => absurd rfl c) (fun _ _ => ?_) (fun c => absurd c hne)
      rw [elvl]; exact hmid
    · subst h
      have hn := nI_ne1 (n := i) (by omega)
      have ei : (nI i).toNatClampNeg = i := nI_clamp (by omega)
      refine w_SU_above_63 ho h1 (fun _ _ => vp_in_nI hi (by omega)) (fun _ _ => ?_) (fun _ c => absurd c hn) (fun c => absurd c hne)
      rw [elvl, ei, hd]; exact hmid
theorem su_aboveD {k : Nat} (hk : k = 0 ∨ k = 2) {L : List Pt} {a m o1 x : Nat} {l1 : List Pt} (hok : okP L) (h35 : J 35 1 = 0) (h38 : J 38 1 = 20) (h1 : PtsAt o1) (hP : PF o1 L I) (ha : a + m ≤ L.length) (hM : MS k L a m I J) (hx : x < L.length) (hp : (seg L a m).Perm (L.getD x (0, 0) :: l1)) (hs : l1.Pairwise fun a b => a.1 < b.1) (hq : P (some (.long (lI (numK k l1)))) I J) : Ct G (d + 2) m_SU_above [.ref (mcl k), .ref o1, .int (nI x), .int (-1)] P I J := by
  have ho : SumAt (mcl k) := by rcases hk with rfl | rfl; (· exact Or.inl rfl); (· exact Or.inr rfl)
  have hl := hok.1
  obtain ⟨f0, f2, f3, f4, f5, f6⟩ := (su_ms hk).mp hM
  have hlen := seg_len ha
  have hn := nI_ne1 (n := x) (by omega)
  have ex : (nI x).toNatClampNeg = x := nI_clamp (by omega)
  obtain ⟨s1, s2, s3, s4, s5, s6⟩ := sums_p hp
  have en : (nI m - 1 - 0).toInt64 = lI l1.length := by
    rw [Int32.sub_zero, show m = l1.length + 1 by omega, nI_pred, nI_lI (by omega)]
  have hz : (0 : Int64) = lI 0 := rfl
  refine Ct.ofGo [some (.ref (mcl k)), some (.ref o1), some (.int (nI x)), some (.int (-1)), none, none, none, none, none, none, none, none, none, none, none, none, none, none, none, none, none, none, none, none] (by decide +kernel) rfl (Nat.le_of_ble_eq_true rfl) (w_SU_above_0 ho h1 (fun _ => w_SU_above_14 ho h1 (fun c => absurd rfl c) (fun _ => w_SU_above_25 ho h1 (fun _ => vp_in_nI (by omega) (by omega)) (fun _ => w_SU_above_45 ho h1 (fun c => absurd rfl c) (fun c => absurd rfl c) (fun _ => ?_)) (fun c => absurd c hn))) (fun c => absurd c hn))
  rw [f0, en, ex, (hP.1.2 x hx).2, lI_32, hz]
  refine su_tail hk (dx := (L.getD x (0, 0)).1) (dy := 0) h35 h38 h1 (okV_perm hp (seg_okV hok)) (by omega) hs f2 f3 f4 f5 f6 (by omega) (by rw [s2]; omega) (by omega) (by rw [s4]; omega) (by rw [s5]; omega) (Or.inr ⟨x, by omega, rfl, ?_⟩) (Or.inl ⟨rfl, rfl⟩) hq
  rw [(hP.1.2 x hx).1]
  have := dN_lt hok hx
  unfold dN at this
  exact nI_lI (by omega)
theorem su_aboveE {k : Nat} (hk : k = 0 ∨ k = 2) {L : List Pt} {a m o1 x y : Nat} {l1 l2 : List Pt} (hok : okP L) (h35 : J 35 1 = 0) (h38 : J 38 1 = 20) (h1 : PtsAt o1) (hP : PF o1 L I) (ha : a + m ≤ L.length) (hM : MS k L a m I J) (hx : x < L.length) (hy : y < L.length) (hp : (seg L a m).Perm (L.getD x (0, 0) :: l1)) (hp2 : l1.Perm (L.getD y (0, 0) :: l2)) (hs : l2.Pairwise fun a b => a.1 < b.1) (hq : P (some (.long (lI (numK k l2)))) I J) : Ct G (d + 2) m_SU_above [.ref (mcl k), .ref o1, .int (nI x), .int (nI y)] P I J := by
  have ho : SumAt (mcl k) := by rcases hk with rfl | rfl; (· exact Or.inl rfl); (· exact Or.inr rfl)
  have hl := hok.1
  obtain ⟨f0, f2, f3, f4, f5, f6⟩ := (su_ms hk).mp hM
  have hlen := seg_len ha
  have hn := nI_ne1 (n := x) (by omega)
  have hn2 := nI_ne1 (n := y) (by omega)
  have ex : (nI x).toNatClampNeg = x := nI_clamp (by omega)
  have ey : (nI y).toNatClampNeg = y := nI_clamp (by omega)
  obtain ⟨s1, s2, s3, s4, s5, s6⟩ := sums_p hp
  obtain ⟨t1, t2, t3, t4, t5, t6⟩ := sums_p hp2
  have en : (nI m - 1 - 1).toInt64 = lI l2.length := by
    rw [show m = l2.length + 1 + 1 by omega, nI_pred, nI_pred, nI_lI (by omega)]
  refine Ct.ofGo [some (.ref (mcl k)), some (.ref o1), some (.int (nI x)), some (.int (nI y)), none, none, none, none, none, none, none, none, none, none, none, none, none, none, none, none, none, none, none, none] (by decide +kernel) rfl (Nat.le_of_ble_eq_true rfl) (w_SU_above_0 ho h1 (fun _ => w_SU_above_14 ho h1 (fun _ => w_SU_above_25 ho h1 (fun _ => vp_in_nI (by omega) (by omega)) (fun _ => w_SU_above_45 ho h1 (fun _ => vp_in_nI (by omega) (by omega)) (fun _ => ?_) (fun c => absurd c hn2)) (fun c => absurd c hn)) (fun c => absurd c hn2)) (fun c => absurd c hn))
  rw [f0, en, ex, ey, (hP.1.2 x hx).2, (hP.1.2 y hy).2, lI_32, lI_32]
  have dx' := dN_lt hok hx
  have dy' := dN_lt hok hy
  unfold dN at dx' dy'
  refine su_tail hk (dx := (L.getD x (0, 0)).1) (dy := (L.getD y (0, 0)).1) h35 h38 h1 (okV_perm hp2 (okV_perm hp (seg_okV hok))) (by omega) hs f2 f3 f4 f5 f6 (by rw [t1, s1]) (by rw [t2, s2]) (by rw [t3, s3]) (by rw [t4, s4]) (by rw [t5, s5]) (Or.inr ⟨x, by omega, rfl, ?_⟩) (Or.inr ⟨y, by omega, rfl, ?_⟩) hq
  · rw [(hP.1.2 x hx).1]; exact nI_lI (by omega)
  · rw [(hP.1.2 y hy).1]; exact nI_lI (by omega)
end
