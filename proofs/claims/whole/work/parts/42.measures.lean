/-! ===== the class's measures ===== -/
def lk (L : List Pt) (k : Nat) : Nat := fix (L.map fun p => p.2) (L.getD k (0, 0)).2
def PF (o : Nat) (L : List Pt) (I : MI) : Prop := PL o L I ∧ ∀ k, k < L.length → I (o + 4) k = nI (lk L k)
theorem map_getD {L : List Pt} {k : Nat} (h : k < L.length) : (L.map fun p => p.2).getD k 0 = (L.getD k (0, 0)).2 := by
  rw [getD_lt (by simpa using h), getD_lt h]; simp
theorem lk_in {L : List Pt} {k : Nat} (h : k < L.length) : lk L k < L.length ∧ (L.getD (lk L k) (0, 0)).2 = (L.getD k (0, 0)).2 := by
  have h1 := fix_in (L.map fun p => p.2) (L.getD k (0, 0)).2 (List.mem_map.mpr ⟨L.getD k (0, 0), by rw [getD_lt h]; exact List.getElem_mem h, rfl⟩)
  have h2 : lk L k < L.length := by have := h1.1; rw [List.length_map] at this; exact this
  exact ⟨h2, by have := h1.2; rw [show fix (L.map fun p => p.2) (L.getD k (0, 0)).2 = lk L k from rfl, map_getD h2] at this; exact this⟩
theorem lk_eq {L : List Pt} {x y : Nat} (hx : x < L.length) (hy : y < L.length) : lk L x = lk L y ↔ (L.getD x (0, 0)).2 = (L.getD y (0, 0)).2 := by
  constructor
  · intro h; rw [← (lk_in hx).2, ← (lk_in hy).2, h]
  · intro h; unfold lk; rw [h]
theorem PH.pf {o : Nat} {told : List TE} {r : Nat} {t : Int32} {I : MI} (h : PH o (pdd told r t) (pvv told r t) I) : PF o (ptl told r t) I := by
  refine ⟨h.pl, fun k hk => ?_⟩
  rw [ptl_len] at hk
  have e : (ptl told r t).map (fun p => p.2) = pvv told r t := by
    rw [ptl_map, List.map_map]; rfl
  unfold lk
  rw [e, ptl_get hk]
  exact (h.2.2 k hk).2.2
def seg (L : List Pt) (a m : Nat) : List Pt := (L.drop a).take m
theorem seg_len {L : List Pt} {a m : Nat} (h : a + m ≤ L.length) : (seg L a m).length = m := by simp [seg]; omega
theorem seg_0 (L : List Pt) (a : Nat) : seg L a 0 = [] := by simp [seg]
theorem seg_ext {L : List Pt} {a m : Nat} (h : a + m < L.length) : seg L a (m + 1) = seg L a m ++ [L.getD (a + m) (0, 0)] := by
  have h2 : m < (L.drop a).length := by rw [List.length_drop]; omega
  unfold seg
  rw [List.take_succ_eq_append_getElem h2, getD_lt h, List.getElem_drop]
theorem seg_mem {L : List Pt} {a m : Nat} {p : Pt} (h : p ∈ seg L a m) : p ∈ L := List.mem_of_mem_drop (List.mem_of_mem_take h)
theorem okP.v {L : List Pt} (h : okP L) : okV L := h.2.1
theorem seg_okV {L : List Pt} {a m : Nat} (h : okP L) : okV (seg L a m) := fun p hp => h.2.1 p (seg_mem hp)
theorem seg_pw {L : List Pt} {a m : Nat} (h : okP L) : (seg L a m).Pairwise fun a b => a.1 < b.1 := List.Pairwise.sublist ((List.take_sublist _ _).trans (List.drop_sublist _ _)) h.2.2
def oft (L : List Pt) (a m j : Nat) : Nat := (List.range m).countP fun i => decide (lk L (a + i) = j)
theorem oft_succ (L : List Pt) (a m j : Nat) : oft L a (m + 1) j = oft L a m j + if lk L (a + m) = j then 1 else 0 := by
  unfold oft
  rw [List.range_succ, List.countP_append]
  by_cases h : lk L (a + m) = j <;> simp [h]
theorem oft_le (L : List Pt) (a m j : Nat) : oft L a m j ≤ m := by
  have := List.countP_le_length (p := fun i => decide (lk L (a + i) = j)) (l := List.range m)
  rw [List.length_range] at this; exact this
theorem oft_cnt {L : List Pt} {a x : Nat} (hx : x < L.length) : ∀ m, a + m ≤ L.length → oft L a m (lk L x) = cnt (L.getD x (0, 0)).2 (seg L a m) := by
  intro m
  induction m with
  | zero => intro _; rw [seg_0]; rfl
  | succ m ih =>
    intro h
    rw [oft_succ, seg_ext (by omega), cnt_app, cnt_1, ih (by omega)]
    by_cases q : lk L (a + m) = lk L x
    · rw [if_pos q, if_pos ((lk_eq (by omega) hx).mp q)]
    · rw [if_neg q, if_neg (fun e => q ((lk_eq (by omega) hx).mpr e))]
def vso (L : List Pt) (a m t : Nat) : Nat := (List.range 40).countP fun j => decide (oft L a m j = t)
theorem cp_same {f f' : Nat → Nat} {t : Nat} : ∀ n, (∀ j, j < n → f' j = f j) → (List.range n).countP (fun j => decide (f' j = t)) = (List.range n).countP (fun j => decide (f j = t)) := by
  intro n h
  refine List.countP_congr fun j hj => ?_
  rw [h j (List.mem_range.mp hj)]
theorem cp_upd {f f' : Nat → Nat} {j0 t : Nat} (h0 : f' j0 = f j0 + 1) (h : ∀ j, j ≠ j0 → f' j = f j) : ∀ n, j0 < n → (List.range n).countP (fun j => decide (f' j = t)) + (if f j0 = t then 1 else 0) = (List.range n).countP (fun j => decide (f j = t)) + (if f j0 + 1 = t then 1 else 0) := by
  intro n
  induction n with
  | zero => intro h; omega
  | succ n ih =>
    intro hj
    rw [List.range_succ, List.countP_append, List.countP_append]
    by_cases q : j0 = n
    · subst q
      rw [cp_same (f := f) (f' := f') j0 (fun j hj => h j (by omega))]
      simp only [List.countP_cons, List.countP_nil, h0, decide_eq_true_eq]
      omega
    · have := ih (by omega)
      simp only [List.countP_cons, List.countP_nil, h n (fun e => q e.symm)]
      omega
theorem vso_le (L : List Pt) (a m t : Nat) : vso L a m t ≤ 40 := by
  have := List.countP_le_length (p := fun j => decide (oft L a m j = t)) (l := List.range 40)
  rw [List.length_range] at this; exact this
theorem mxc_app (l : List Pt) (p : Pt) : mxc (l ++ [p]) = max (mxc l) (cnt p.2 l + 1) := by
  refine mxc_of (fun v => ?_) (Or.inr ?_)
  · rw [cnt_app, cnt_1]
    by_cases q : p.2 = v
    · rw [if_pos q, ← q]; omega
    · rw [if_neg q]; have := mxc_ge v l; omega
  · rcases Nat.le_total (mxc l) (cnt p.2 l + 1) with q | q
    · exact ⟨p.2, by rw [cnt_app, cnt_1, if_pos rfl]; omega⟩
    · rcases Nat.eq_or_lt_of_le q with q | q
      · exact ⟨p.2, by rw [cnt_app, cnt_1, if_pos rfl]; omega⟩
      · rcases mxc_at (l := l) with e | ⟨v, e⟩
        · omega
        · refine ⟨v, ?_⟩
          have hv : ¬ p.2 = v := fun h => by rw [h] at q; omega
          rw [cnt_app, cnt_1, if_neg hv]; omega
/-- what a measure holds of the m points from a on -/
def MS (k : Nat) (L : List Pt) (a m : Nat) (I : MI) (J : MJ) : Prop := match k with
  | 1 => I 36 0 = nI m ∧ (∀ i, i < m → I 37 i = ((srt (seg L a m)).getD i (0, 0)).2) ∧ J 36 2 = lI (medc (seg L a m))
  | 3 => I 39 0 = nI m ∧ I 39 3 = nI (mxc (seg L a m)) ∧ (∀ j, j < 40 → I 40 j = nI (oft L a m j)) ∧ ∀ t, 1 ≤ t → t ≤ 40 → I 41 t = nI (vso L a m t)
  | k => I (mcl k) 0 = nI m ∧ J (mcl k) 2 = lI (sV (seg L a m)) ∧ J (mcl k) 3 = lI (sQ (seg L a m)) ∧ J (mcl k) 4 = lI (sD (seg L a m)) ∧ J (mcl k) 5 = lI (sE (seg L a m)) ∧ J (mcl k) 6 = lI (sB (seg L a m))
/-- what measures may change -/
def FM (I : MI) (J : MJ) (I' : MI) (J' : MJ) : Prop := (∀ a, a < 35 ∨ 41 < a → I' a = I a ∧ J' a = J a) ∧ J' 35 1 = J 35 1 ∧ J' 38 1 = J 38 1
theorem FM.rf {I : MI} {J : MJ} : FM I J I J := ⟨fun _ _ => ⟨rfl, rfl⟩, rfl, rfl⟩
theorem FM.tr {I I' I'' : MI} {J J' J'' : MJ} (h : FM I J I' J') (g : FM I' J' I'' J'') : FM I J I'' J'' := ⟨fun a ha => ⟨(g.1 a ha).1.trans (h.1 a ha).1, (g.1 a ha).2.trans (h.1 a ha).2⟩, g.2.1.trans h.2.1, g.2.2.trans h.2.2⟩
theorem PF.of {o : Nat} {L : List Pt} {I I' : MI} {J J' : MJ} (h : PF o L I) (hf : FM I J I' J') (ho : PtsAt o) : PF o L I' := by
  have hr := pts_rng ho
  refine ⟨⟨by rw [(hf.1 o (by omega)).1]; exact h.1.1, fun k hk => ?_⟩, fun k hk => ?_⟩
  · rw [(hf.1 (o + 2) (by omega)).1, (hf.1 (o + 3) (by omega)).1]; exact h.1.2 k hk
  · rw [(hf.1 (o + 4) (by omega)).1]; exact h.2 k hk
theorem nI_lI {n : Nat} (h : n < 2147483648) : (nI n).toInt64 = lI n := by rw [lI_32, nI_ti h]
theorem mes_lt {k : Nat} (h : k < 4) : MesAt (mcl k) := by
  match k, h with
  | 0, _ => exact Or.inl rfl
  | 1, _ => exact Or.inr (Or.inl rfl)
  | 2, _ => exact Or.inr (Or.inr (Or.inl rfl))
  | 3, _ => exact Or.inr (Or.inr (Or.inr rfl))
section
variable {G : GC} {d : Nat} {P : PT} {I : MI} {J : MJ}
theorem su_restart {o : Nat} (ho : SumAt o) (hq : ∀ I' J', FM I J I' J' → (I' o 0 = 0 ∧ J' o 2 = 0 ∧ J' o 3 = 0 ∧ J' o 4 = 0 ∧ J' o 5 = 0 ∧ J' o 6 = 0) → P none I' J') : Ct G d m_SU_restart [.ref o] P I J := by
  have hr : 35 ≤ o ∧ o ≤ 38 := by rcases ho with rfl | rfl <;> omega
  refine Ct.ofGo [some (.ref o)] (by decide +kernel) rfl (Nat.le_of_ble_eq_true rfl) (w_SU_restart_0 ho (hq _ _ ⟨fun a ha => ⟨u2_o (by omega), ?_⟩, ?_, ?_⟩ ⟨u2_s, ?_, ?_, ?_, ?_, ?_⟩))
  · rw [u2_o (show a ≠ o by omega), u2_o (show a ≠ o by omega), u2_o (show a ≠ o by omega), u2_o (show a ≠ o by omega), u2_o (show a ≠ o by omega)]
  · rcases ho with rfl | rfl
    · rw [u2_k (by decide), u2_k (by decide), u2_k (by decide), u2_k (by decide), u2_k (by decide)]
    · rw [u2_o (by decide), u2_o (by decide), u2_o (by decide), u2_o (by decide), u2_o (by decide)]
  · rcases ho with rfl | rfl
    · rw [u2_o (by decide), u2_o (by decide), u2_o (by decide), u2_o (by decide), u2_o (by decide)]
    · rw [u2_k (by decide), u2_k (by decide), u2_k (by decide), u2_k (by decide), u2_k (by decide)]
  · rw [u2_k (by decide), u2_k (by decide), u2_k (by decide), u2_k (by decide), u2_s]
  · rw [u2_k (by decide), u2_k (by decide), u2_k (by decide), u2_s]
  · rw [u2_k (by decide), u2_k (by decide), u2_s]
  · rw [u2_k (by decide), u2_s]
  · rw [u2_s]
theorem su_extend {o o1 x : Nat} {v dd : Int} (ho : SumAt o) (h1 : PtsAt o1) (hx : x < 40) (hv : (I (o1 + 3) x).toInt64 = lI v) (hd : (I (o1 + 2) x).toInt64 = lI dd) (hq : ∀ I' J', FM I J I' J' → (I' o 0 = I o 0 + 1 ∧ J' o 2 = J o 2 + lI v ∧ J' o 3 = J o 3 + lI (v * v) ∧ J' o 4 = J o 4 + lI dd ∧ J' o 5 = J o 5 + lI (dd * dd) ∧ J' o 6 = J o 6 + lI (v * dd)) → P none I' J') : Ct G d m_SU_extend [.ref o, .ref o1, .int (nI x)] P I J := by
  have hr : 35 ≤ o ∧ o ≤ 38 := by rcases ho with rfl | rfl <;> omega
  have ex : (nI x).toNatClampNeg = x := nI_clamp (by omega)
  refine Ct.ofGo [some (.ref o), some (.ref o1), some (.int (nI x)), none, none, none, none] (by decide +kernel) rfl (Nat.le_of_ble_eq_true rfl) (w_SU_extend_0 ho h1 (vp_in_nI hx (by omega)) ?_)
  rw [ex, hv, hd, lI_mul, lI_mul, lI_mul]
  refine hq _ _ ⟨fun a ha => ⟨u2_o (by omega), ?_⟩, ?_, ?_⟩ ⟨u2_s, ?_, ?_, ?_, ?_, ?_⟩
  · rw [u2_o (show a ≠ o by omega), u2_o (show a ≠ o by omega), u2_o (show a ≠ o by omega), u2_o (show a ≠ o by omega), u2_o (show a ≠ o by omega)]
  · rcases ho with rfl | rfl
    · rw [u2_k (by decide), u2_k (by decide), u2_k (by decide), u2_k (by decide), u2_k (by decide)]
    · rw [u2_o (by decide), u2_o (by decide), u2_o (by decide), u2_o (by decide), u2_o (by decide)]
  · rcases ho with rfl | rfl
    · rw [u2_o (by decide), u2_o (by decide), u2_o (by decide), u2_o (by decide), u2_o (by decide)]
    · rw [u2_k (by decide), u2_k (by decide), u2_k (by decide), u2_k (by decide), u2_k (by decide)]
  · rw [u2_k (by decide), u2_k (by decide), u2_k (by decide), u2_k (by decide), u2_s]
  · rw [u2_k (by decide), u2_k (by decide), u2_k (by decide), u2_s]
  · rw [u2_k (by decide), u2_k (by decide), u2_s]
  · rw [u2_k (by decide), u2_s]
  · rw [u2_s]
theorem su_ms {k : Nat} (hk : k = 0 ∨ k = 2) {L : List Pt} {a m : Nat} : MS k L a m I J ↔ (I (mcl k) 0 = nI m ∧ J (mcl k) 2 = lI (sV (seg L a m)) ∧ J (mcl k) 3 = lI (sQ (seg L a m)) ∧ J (mcl k) 4 = lI (sD (seg L a m)) ∧ J (mcl k) 5 = lI (sE (seg L a m)) ∧ J (mcl k) 6 = lI (sB (seg L a m))) := by
  rcases hk with rfl | rfl <;> exact Iff.rfl
theorem su_ext {k : Nat} (hk : k = 0 ∨ k = 2) {L : List Pt} {a m o1 : Nat} (hok : okP L) (h1 : PtsAt o1) (hP : PF o1 L I) (ha : a + m < L.length) (hM : MS k L a m I J) (hq : ∀ I' J', FM I J I' J' → MS k L a (m + 1) I' J' → P none I' J') : Ct G d m_SU_extend [.ref (mcl k), .ref o1, .int (nI (a + m))] P I J := by
  have ho : SumAt (mcl k) := by rcases hk with rfl | rfl; (· exact Or.inl rfl); (· exact Or.inr rfl)
  have hl := hok.1
  obtain ⟨e1, e2⟩ := hP.1.2 (a + m) ha
  have hm : L.getD (a + m) (0, 0) ∈ L := by rw [getD_lt ha]; exact List.getElem_mem ha
  have hv := hok.2.1 _ hm
  refine su_extend ho h1 (by omega) (v := (L.getD (a + m) (0, 0)).2.toInt) (dd := ((L.getD (a + m) (0, 0)).1 : Int)) (by rw [e2, lI_32]) (by rw [e1, nI_lI (by omega)]) (fun I' J' g1 g2 => hq I' J' g1 ((su_ms hk).mpr ?_))
  obtain ⟨f0, f2, f3, f4, f5, f6⟩ := (su_ms hk).mp hM
  obtain ⟨g0, g2, g3, g4, g5, g6⟩ := g2
  rw [seg_ext ha]
  unfold sV sQ sD sE sB at *
  rw [sm_app, sm_app, sm_app, sm_app, sm_app, sm_1, sm_1, sm_1, sm_1, sm_1]
  refine ⟨by rw [g0, f0, nI_1], by rw [g2, f2, lI_add], by rw [g3, f3, lI_add], by rw [g4, f4, lI_add], by rw [g5, f5, lI_add], by rw [g6, f6, lI_add]⟩
theorem i64_xor (x y : Int64) (hy : 0 < y.toInt) : (0 ≤ x ^^^ y) ↔ 0 ≤ x.toInt := by
  have h1 : ∀ z : Int64, (0 ≤ z) ↔ z.toBitVec.msb = false := by
    intro z
    rw [tl_le]
    have : z.toBitVec.msb = decide (z.toBitVec.toInt < 0) := BitVec.msb_eq_toInt
    rw [this]
    have e : z.toBitVec.toInt = z.toInt := rfl
    rw [e]
    have : (0 : Int64).toInt = 0 := rfl
    rw [this]
    simp
  have h2 : y.toBitVec.msb = false := (h1 y).mp (by rw [tl_le]; have : (0 : Int64).toInt = 0 := rfl; omega)
  rw [h1, Int64.toBitVec_xor, BitVec.msb_xor, h2, Bool.xor_false, ← h1, tl_le]
  exact Iff.rfl
theorem sp_floorDiv {a b : Int} (hb : 0 < b) (hb2 : b < 1000000000000000000) (ha : -1000000000000000000 < a ∧ a < 1000000000000000000) (hq : P (some (.long (lI (a / b)))) I J) : Ct G d m_JM_floorDiv [.long (lI a), .long (lI b)] P I J := by
  have ta : (lI a).toInt = a := lI_ti (by omega) (by omega)
  have tb : (lI b).toInt = b := lI_ti (by omega) (by omega)
  have hdv : (lI a / lI b).toInt = a.tdiv b := by
    rw [Int64.toInt_div, ta, tb]
    have h1 : (a.tdiv b).natAbs ≤ a.natAbs := by rw [Int.natAbs_tdiv]; exact Nat.div_le_self _ _
    exact bm64 (by omega) (by omega)
  have hdb : (a.tdiv b).natAbs ≤ a.natAbs := by rw [Int.natAbs_tdiv]; exact Nat.div_le_self _ _
  have hmm : (a.tdiv b * b).natAbs ≤ a.natAbs := by rw [Int.natAbs_mul, Int.natAbs_tdiv]; exact Nat.div_mul_le_self _ _
  have hme : (lI a / lI b * lI b).toInt = a.tdiv b * b := by rw [tl_mul (by rw [hdv, tb]; omega) (by rw [hdv, tb]; omega), hdv, tb]
  have hx := i64_xor (lI a) (lI b) (by rw [tb]; exact hb)
  rw [ta] at hx
  have hte : ∀ x : Int64, x.toInt = a / b → x = lI (a / b) := fun x h => by rw [← h, lI_of]
  have htd := Int.tdiv_eq_ediv (a := a) (b := b)
  have hexact : (a.tdiv b * b = a) ↔ b ∣ a := by
    constructor
    · intro h; exact ⟨a.tdiv b, by rw [Int.mul_comm]; exact h.symm⟩
    · intro h; exact Int.tdiv_mul_cancel h
  refine Ct.ofGo [some (.long (lI a)), none, some (.long (lI b)), none, none, none] (by decide +kernel) rfl (Nat.le_of_ble_eq_true rfl) (w_JM_floorDiv_0 ?_ (fun c => w_JM_floorDiv_27 ?_) (fun c c2 => w_JM_floorDiv_27 ?_) (fun c c2 => ?_))
  · intro h; rw [tl_eq, tb] at h; have : (0 : Int64).toInt = 0 := rfl; omega
  · have : lI a / lI b = lI (a / b) := hte _ (by rw [hdv, htd, if_pos (Or.inl (hx.mp c))]; omega)
    rw [this]; exact hq
  · rw [tl_eq, hme, ta] at c2
    have : lI a / lI b = lI (a / b) := hte _ (by rw [hdv, htd, if_pos (Or.inr (hexact.mp c2))]; omega)
    rw [this]; exact hq
  · rw [tl_eq, hme, ta] at c2
    have hn : ¬ (0 ≤ a ∨ b ∣ a) := by
      rintro (h | h)
      · exact c (hx.mpr h)
      · exact c2 (hexact.mpr h)
    rw [if_neg hn, Int.sign_eq_one_of_pos hb] at htd
    have : lI a / lI b - 1 = lI (a / b) := hte _ (by
      have z1 : (1 : Int64).toInt = 1 := rfl
      rw [tl_sub (by rw [hdv, z1]; omega) (by rw [hdv, z1]; omega), hdv, z1, htd]; omega)
    rw [this]; exact hq
theorem mmJ {x y : Int} (hx : -9223372036854775808 ≤ x ∧ x < 9223372036854775808) (hy : -9223372036854775808 ≤ y ∧ y < 9223372036854775808) : f_JM_max_JJ (lI x) (lI y) = lI (max x y) ∧ f_JM_min_JJ (lI x) (lI y) = lI (min x y) := by
  have h1 : (lI x < lI y) ↔ x < y := by rw [tl_lt, lI_ti hx.1 hx.2, lI_ti hy.1 hy.2]
  have h2 : (lI y < lI x) ↔ y < x := by rw [tl_lt, lI_ti hx.1 hx.2, lI_ti hy.1 hy.2]
  unfold f_JM_max_JJ f_JM_min_JJ
  constructor
  · by_cases q : x < y
    · rw [if_pos (h1.mpr q)]; congr 1; omega
    · rw [if_neg (fun c => q (h1.mp c))]; congr 1; omega
  · by_cases q : y < x
    · rw [if_pos (h2.mpr q)]; congr 1; omega
    · rw [if_neg (fun c => q (h2.mp c))]; congr 1; omega
theorem sp_tilt {o : Nat} {sp sl : Int} (ho : SumAt o) (hst : J o 1 = 20) (h1 : 0 ≤ sp ∧ sp < 100000000) (h2 : -1000000000 < sl ∧ sl < 1000000000) (hq : P (some (.long (lI (tlt sp sl)))) I J) : Ct G (d + 1) m_SU_bestTilt [.ref o, .long (lI sp), .long (lI sl)] P I J := by
  have h20 : (20 : Int64) = lI 20 := rfl
  have h2e : (2 : Int64) = lI 2 := rfl
  have h0e : (0 : Int64) = lI 0 := rfl
  have tsp : (lI sp).toInt = sp := lI_ti (by omega) (by omega)
  have hpos : (0 < lI sp) ↔ 0 < sp := by rw [tl_lt, tsp]; exact Iff.rfl
  unfold tlt at hq
  refine Ct.ofGo [some (.ref o), some (.long (lI sp)), none, some (.long (lI sl)), none, none, none, none, none] (by decide +kernel) rfl (Nat.le_of_ble_eq_true rfl) (w_SU_bestTilt_0 ho (fun c => ?_) (fun c => ?_))
  · have hp := hpos.mp c
    rw [if_neg (by omega)] at hq
    rw [h2e, lI_mul, lI_mul, lI_add]
    refine sp_floorDiv (by omega) (by omega) (by omega) (w_SU_bestTilt_23 ho ?_)
    have hd1 : ((2 * sl + sp) / (2 * sp)).natAbs ≤ (2 * sl + sp).natAbs := Int.natAbs_ediv_le_natAbs _ _
    rw [hst, h20, h0e, lI_sub, (mmJ (by omega) (by omega)).2, (mmJ (by omega) (by omega)).1, lI_mul, lI_mul, h2e, lI_mul, lI_mul, lI_sub]
    exact hq
  · have : sp ≤ 0 := by have := mt hpos.mpr c; omega
    rw [if_pos this] at hq
    exact hq
theorem sums_b2 {l : List Pt} (h : okV l) (hn : l.length ≤ 40) : (0 ≤ spr l ∧ spr l < 100000000) ∧ (-1000000000 < slt l ∧ slt l < 1000000000) := by
  obtain ⟨b1, b2, b3, b4, b5⟩ := sums_b h hn
  have hn' : -(40 : Int) ≤ l.length ∧ (l.length : Int) ≤ 40 := by omega
  have c1 := mb hn' b4
  have c2 := mb b3 b3
  have c3 := mb hn' b5
  have c4 := mb b1 b3
  have := spr_nn l
  unfold spr slt at *
  omega
theorem su_above0 {k : Nat} (hk : k = 0 ∨ k = 2) {L : List Pt} {a m o1 : Nat} (hok : okP L) (h35 : J 35 1 = 0) (h38 : J 38 1 = 20) (h1 : PtsAt o1) (ha : a + m ≤ L.length) (hM : MS k L a m I J) (hq : P (some (.long (lI (numK k (seg L a m))))) I J) : Ct G (d + 2) m_SU_above [.ref (mcl k), .ref o1, .int (-1), .int (-1)] P I J := by
  have ho : SumAt (mcl k) := by rcases hk with rfl | rfl; (· exact Or.inl rfl); (· exact Or.inr rfl)
  have hl := hok.1
  obtain ⟨f0, f2, f3, f4, f5, f6⟩ := (su_ms hk).mp hM
  have hlen := seg_len ha
  have h0e : (0 : Int64) = lI 0 := rfl
  have en : (nI m - 0 - 0).toInt64 = lI m := by rw [Int32.sub_zero, Int32.sub_zero, nI_lI (by omega)]
  refine Ct.ofGo [some (.ref (mcl k)), some (.ref o1), some (.int (-1)), some (.int (-1)), none, none, none, none, none, none, none, none, none, none, none, none, none, none, none, none, none, none, none, none] (by decide +kernel) rfl (Nat.le_of_ble_eq_true rfl) (w_SU_above_0 ho h1 (fun c => absurd rfl c) (fun _ => w_SU_above_14 ho h1 (fun c => absurd rfl c) (fun _ => w_SU_above_25 ho h1 (fun c => absurd rfl c) (fun c => absurd rfl c) (fun _ => w_SU_above_45 ho h1 (fun c => absurd rfl c) (fun c => absurd rfl c) (fun _ => ?_)))))
  rw [f0, en]
  have elvl : lI m * (J (mcl k) 3 - 0 * 0 - 0 * 0) - (J (mcl k) 2 - 0 - 0) * (J (mcl k) 2 - 0 - 0) = lI (lvl (seg L a m)) := by
    rw [h0e, f2, f3, lI_mul, lI_sub, lI_sub, lI_sub, lI_sub, lI_mul, lI_mul, lI_sub]
    congr 1
    unfold lvl; rw [hlen]; simp
  rcases hk with rfl | rfl
  · refine w_SU_above_63 ho h1 (fun c => absurd h35 c) (fun c => absurd h35 c) (fun c => absurd h35 c) (fun _ => ?_)
    rw [elvl]; exact hq
  · have hne : ¬ J (mcl 2) 1 = 0 := by show ¬ J 38 1 = 0; rw [h38]; decide
    refine w_SU_above_63 ho h1 (fun _ c => absurd rfl c) (fun _ c => absurd rfl c) (fun _ _ => w_SU_above_132 ho h1 (fun c => absurd rfl c) (fun c => absurd rfl c) (fun _ => w_SU_above_150 ho ?_)) (fun c => absurd c hne)
    rw [elvl]
    have e1 : lI m * (J (mcl 2) 5 - 0 * 0 - 0 * 0) - (J (mcl 2) 4 - 0 - 0) * (J (mcl 2) 4 - 0 - 0) = lI (spr (seg L a m)) := by
      rw [h0e, f4, f5, lI_mul, lI_sub, lI_sub, lI_sub, lI_sub, lI_mul, lI_mul, lI_sub]
      congr 1
      unfold spr; rw [hlen]; simp
    have e2 : lI m * (J (mcl 2) 6 - 0 * 0 - 0 * 0) - (J (mcl 2) 2 - 0 - 0) * (J (mcl 2) 4 - 0 - 0) = lI (slt (seg L a m)) := by
      rw [h0e, f2, f4, f6, lI_mul, lI_sub, lI_sub, lI_sub, lI_sub, lI_sub, lI_sub, lI_mul, lI_mul, lI_sub]
      congr 1
      unfold slt; rw [hlen]; simp
    rw [e1, e2]
    obtain ⟨b1, b2⟩ := sums_b2 (seg_okV (a := a) (m := m) hok) (by omega)
    refine sp_tilt ho h38 b1 b2 (w_SU_above_228 ?_)
    rw [lI_add, ← slp_tlt (seg_pw hok)]
    exact hq
end
