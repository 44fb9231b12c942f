/-! ===== the class: sheets ===== -/
abbrev QT : Type := Option (Int32 × List Int32)
def shO (st : ST) (s : Int32) : QT := st.2.2.2.2.2.getD s.toNatClampNeg none
def setQ (st : ST) (s : Int32) (q : QT) : ST := sShs st (st.2.2.2.2.2.set s.toNatClampNeg q)
def nar (ty v : Int32) : Int32 := if ty = 0 then Int8.toInt32 (Int32.toInt8 v) else if ty = 1 then Int16.toInt32 (Int32.toInt16 v) else v
abbrev wthn (i n : Int32) (L : Nat) : Prop := 0 ≤ i.toInt ∧ 0 ≤ n.toInt ∧ i.toInt + n.toInt ≤ L
def founds (st : ST) (n : Int32) : Int32 × ST := (-10 - n, sFd st n)
def sheets (st : ST) (s ty n : Int32) : Int32 × ST :=
  if f_LB_isSheet s = 0 ∨ f_LB_isType ty = 0 ∨ ¬ n ≤ 60 then (-2, st) else if ¬ 0 ≤ n then founds st 5 else (n, setQ st s (some (ty, List.replicate n.toNatClampNeg 0)))
def loses (st : ST) (s : Int32) : Int32 × ST :=
  if f_LB_isSheet s = 0 then (-2, st) else match shO st s with
  | none => founds st 1
  | some (_, it) => (nI it.length, setQ st s none)
def lacksQ (q : QT) (ty i : Int32) : Int32 := match q with
  | none => 1
  | some (t, it) => if ty = t then (if wthn i 1 it.length then 0 else 2) else 3
def itemsQ (q : QT) : List Int32 := match q with
  | none => []
  | some (_, it) => it
def typeQ (q : QT) : Int32 := match q with
  | none => 0
  | some (t, _) => t
def puts (st : ST) (s ty i v : Int32) : Int32 × ST :=
  if f_LB_isSheet s = 0 ∨ f_LB_isType ty = 0 then (-2, st) else if lacksQ (shO st s) ty i = 0 then (1, setQ st s (some (typeQ (shO st s), (itemsQ (shO st s)).set i.toNatClampNeg (nar (typeQ (shO st s)) v)))) else founds st (lacksQ (shO st s) ty i)
def gets (st : ST) (s ty i : Int32) : Int32 × ST :=
  if f_LB_isSheet s = 0 ∨ f_LB_isType ty = 0 then (-2147483648, st) else if lacksQ (shO st s) ty i = 0 then ((itemsQ (shO st s)).getD i.toNatClampNeg 0, st) else (-2147483648, sFd st (lacksQ (shO st s) ty i))
/-- what lies in a sheet behind a copy -/
def cpL (a b : List Int32) (i j n : Nat) : List Int32 := (List.range b.length).map fun k => if j ≤ k ∧ k < j + n then a.getD (i + (k - j)) 0 else b.getD k 0
def copys (st : ST) (s i t j n : Int32) : Int32 × ST :=
  if f_LB_isSheet s = 0 ∨ f_LB_isSheet t = 0 then (-2, st) else if shO st s = none ∨ shO st t = none then founds st 1 else if ¬ typeQ (shO st s) = typeQ (shO st t) then founds st 4 else if wthn i n (itemsQ (shO st s)).length ∧ wthn j n (itemsQ (shO st t)).length then (1, setQ st t (some (typeQ (shO st t), cpL (itemsQ (shO st s)) (itemsQ (shO st t)) i.toNatClampNeg j.toNatClampNeg n.toNatClampNeg))) else founds st 2
section
variable {G : GC} {d : Nat} {P : PT} {I : MI} {J : MJ}
theorem sp_found {n : Int32} (hq : P (some (.int (-10 - n))) (u2 I 0 10 n) J) : Ct G d m_LB_found [.ref 0, .int n] P I J :=
  Ct.ofGo [some (.ref 0), some (.int n)] (by decide +kernel) rfl (Nat.le_of_ble_eq_true rfl) (w_LB_found_0 hq)
theorem RC.fd {st : ST} {n : Int32} (h : RC st I J) : RC (sFd st n) (u2 I 0 10 n) J := by
  obtain ⟨q1, q2, q3, q4, q5, q6, q7, q8, q9⟩ := h
  have hk : ∀ a, a ≠ 0 → u2 I 0 10 n a = I a := fun a ha => u2_o ha
  exact ⟨q1.of fun a _ _ => hk a (by omega), by rw [u2_k (by decide)]; exact q2, fun r hr => (q3 r hr).of fun a _ _ => hk a (by omega), fun r hr => by rw [hk 32 (by omega)]; exact q4 r hr, ⟨by rw [hk 53 (by omega)]; exact q5.1, fun k hk' => by rw [hk 54 (by omega)]; exact q5.2 k hk'⟩, u2_s, fun s hs => (q7 s hs).of (hk _ (by omega)) (hk _ (by omega)), q8, q9⟩
/-- found, as a last call -/
theorem cl_found {st : ST} {n : Int32} (hR : RC st I J) (hq : ∀ I', Hi I J I' J → RC (founds st n).2 I' J → P (some (.int (founds st n).1)) I' J) : Ct G d m_LB_found [.ref 0, .int n] P I J :=
  sp_found (hq _ (fun a ha => ⟨u2_o (by omega), rfl⟩) hR.fd)
theorem sp_isLost {o : Nat} (h0 : ShtAt o) (hq : P (some (.int (if I o 2 = -1 then 1 else 0))) I J) : Ct G d m_SH_isLost [.ref o] P I J := by
  refine Ct.ofGo [some (.ref o)] (by decide +kernel) rfl (Nat.le_of_ble_eq_true rfl) (w_SH_isLost_0 h0 (fun c => ?_) (fun c => ?_))
  · rw [if_neg c] at hq; exact hq
  · rw [if_pos c] at hq; exact hq
theorem sp_has {o L : Nat} {i n : Int32} (h0 : ShtAt o) (hL : L ≤ 60) (hs : I o 2 = nI L) (hq : P (some (.int (if wthn i n L then 1 else 0))) I J) : Ct G d m_SH_has [.ref o, .int i, .int n] P I J := by
  have e : (I o 2).toInt = L := by rw [hs]; exact nI_ti (by omega)
  have hbad : ¬ wthn i n L → Go G (fr G m_SH_has d P) 30 [none, none, none] [] I J := fun hb => by
    rw [if_neg hb] at hq; exact w_SH_has_30 hq
  have z0 : (0 : Int32).toInt = 0 := rfl
  refine Ct.ofGo [some (.ref o), some (.int i), some (.int n)] (by decide +kernel) rfl (Nat.le_of_ble_eq_true rfl) (w_SH_has_0 h0 (fun c => hbad ?_) (fun _ c => hbad ?_) (fun _ c1 c => hbad ?_) (fun c0 c1 c2 c => hbad ?_) (fun c0 c1 c2 c => ?_))
  · rw [ti_lt, z0] at c; exact fun h => by omega
  · rw [ti_lt, z0] at c; exact fun h => by omega
  · rw [ti_lt, e] at c; exact fun h => by omega
  · rw [ti_lt, z0] at c0 c1
    rw [ti_lt, e] at c2
    rw [ti_lt, ti_sub (by rw [e]; omega) (by rw [e]; omega), e] at c
    exact fun h => by omega
  · rw [ti_lt, z0] at c0 c1
    rw [ti_lt, e] at c2
    rw [ti_lt, ti_sub (by rw [e]; omega) (by rw [e]; omega), e] at c
    rw [if_pos ⟨by omega, by omega, by omega⟩] at hq
    exact hq
theorem wthn_in {i : Int32} {L : Nat} (h : wthn i 1 L) : i.toNatClampNeg < L := by
  have z1 : (1 : Int32).toInt = 1 := rfl
  have h1 := h.1
  have h2 := h.2.2
  rw [z1] at h2
  rw [ti_cl]; omega
theorem wthn_vin {i : Int32} {L N : Nat} (h : wthn i 1 L) (hL : L ≤ N) : vp_in i N := by
  rw [vp_in_iff]
  have z1 : (1 : Int32).toInt = 1 := rfl
  have h1 := h.1
  have h2 := h.2.2
  rw [z1] at h2
  omega
theorem sp_findingAt {o : Nat} {q : QT} {s : Nat} {ty i : Int32} (hs : s < 4) (ho : o = 59 + 2 * s) (hC : SC q s I) (hok : okQ q) (hq : P (some (.int (lacksQ q ty i))) I J) : Ct G (d + 1) m_SH_findingAt [.ref o, .int ty, .int i] P I J := by
  subst ho
  have h0 := sht_lt s hs
  refine Ct.ofGo [some (.ref (59 + 2 * s)), some (.int ty), some (.int i)] (by decide +kernel) rfl (Nat.le_of_ble_eq_true rfl) (w_SH_findingAt_0 h0 (sp_isLost h0 ?_))
  cases q with
  | none =>
    rw [if_pos (show I (59 + 2 * s) 2 = -1 from hC)]
    exact w_SH_findingAt_4 h0 (fun c => absurd c (by decide)) (fun c => absurd c (by decide)) (fun _ => hq)
  | some q =>
    obtain ⟨t, it⟩ := q
    obtain ⟨e1, e2, e3⟩ := hC
    have hl : it.length ≤ 60 := hok.2
    have hne : ¬ I (59 + 2 * s) 2 = -1 := by rw [e2, ti_eq, nI_ti (by omega)]; exact fun h => by have : (-1 : Int32).toInt = -1 := rfl; omega
    rw [if_neg hne]
    refine w_SH_findingAt_4 h0 (fun _ c => ?_) (fun _ c => ?_) (fun c => absurd rfl c)
    · rw [e1] at c
      refine sp_has h0 hl e2 ?_
      by_cases hw : wthn i 1 it.length
      · rw [if_pos hw]
        refine w_SH_findingAt_25 (fun c => absurd c (by decide)) (fun _ => ?_)
        simpa only [lacksQ, if_pos c, if_pos hw] using hq
      · rw [if_neg hw]
        refine w_SH_findingAt_25 (fun _ => ?_) (fun c => absurd rfl c)
        simpa only [lacksQ, if_pos c, if_neg hw] using hq
    · rw [e1] at c
      simpa only [lacksQ, if_neg c] using hq
theorem sp_store {o L : Nat} {i v ty : Int32} (h0 : ShtAt o) (hL : L ≤ 60) (e1 : I o 1 = ty) (e2 : I o 2 = nI L) (hw : wthn i 1 L) (hq : P none (u2 I (o + 1) i.toNatClampNeg (nar ty v)) J) : Ct G (d + 1) m_SH_store [.ref o, .int i, .int v] P I J := by
  refine Ct.ofGo [some (.ref o), some (.int i), some (.int v)] (by decide +kernel) rfl (Nat.le_of_ble_eq_true rfl) (w_SH_store_0 h0 (sp_has h0 hL e2 ?_))
  rw [if_pos hw]
  have hv : vp_in i 60 := wthn_vin hw hL
  refine w_SH_store_6 h0 (fun _ c1 c2 => ?_) (fun _ c1 c2 => ?_) (fun _ c1 => ?_) (fun c => absurd c (by decide))
  · rw [e1] at c1 c2
    refine w_SH_store_41 h0.2 hv ?_
    simpa only [nar, if_neg c1, if_neg c2] using hq
  · rw [e1] at c1 c2
    refine w_SH_store_41 h0.2 hv ?_
    simpa only [nar, if_neg c1, if_pos c2] using hq
  · rw [e1] at c1
    refine w_SH_store_41 h0.2 hv ?_
    simpa only [nar, if_pos c1] using hq
theorem sp_renew {o : Nat} {ty n : Int32} (h0 : ShtAt o) (hq : P none (fl (u2 (u2 I o 1 ty) o 2 n) (o + 1) 60 0) J) : Ct G (d + 1) m_SH_renew [.ref o, .int ty, .int n] P I J :=
  Ct.ofGo [some (.ref o), some (.int ty), some (.int n)] (by decide +kernel) rfl (Nat.le_of_ble_eq_true rfl) (w_SH_renew_0 h0 (sp_fillI h0.2 (by decide) (w_SH_renew_18 hq)))
/-- one sheet anew -/
theorem RC.sht {st : ST} {s : Nat} {q : QT} {I' : MI} (h : RC st I J) (hS : okS st) (hs : s < 4) (hC : SC q s I') (hk : ∀ a, a ≠ 59 + 2 * s → a ≠ 60 + 2 * s → I' a = I a) : RC (setQ st (nI s) q) I' J := by
  obtain ⟨q1, q2, q3, q4, q5, q6, q7, q8, q9⟩ := h
  refine ⟨q1.of fun a _ _ => hk a (by omega) (by omega), by rw [hk 0 (by omega) (by omega)]; exact q2, fun r hr => (q3 r hr).of fun a _ _ => hk a (by omega) (by omega), fun r hr => by rw [hk 32 (by omega) (by omega)]; exact q4 r hr, ⟨by rw [hk 53 (by omega) (by omega)]; exact q5.1, fun k hk' => by rw [hk 54 (by omega) (by omega)]; exact q5.2 k hk'⟩, by rw [hk 0 (by omega) (by omega)]; exact q6, fun s' hs' => ?_, q8, q9⟩
  show SC ((st.2.2.2.2.2.set (nI s).toNatClampNeg q).getD s' none) s' I'
  rw [nI_clamp (show s < 2 ^ 31 by omega)]
  by_cases e : s = s'
  · subst e
    rw [getD_set_eq (by have := hS.2.2.2.2.1; omega)]; exact hC
  · rw [getD_set_ne e]
    exact (q7 s' hs').of (hk _ (by omega) (by omega)) (hk _ (by omega) (by omega))
theorem okS_sh {st : ST} {s : Nat} (hS : okS st) (hs : s < 4) : okQ (st.2.2.2.2.2.getD s none) := by
  rw [getD_lt (by have := hS.2.2.2.2.1; omega)]
  exact hS.2.2.2.2.2 _ (List.getElem_mem _)
theorem cl_sheet {st : ST} {s ty n : Int32} (hR : RC st I J) (hS : okS st) (hq : ∀ I', Hi I J I' J → RC (sheets st s ty n).2 I' J → P (some (.int (sheets st s ty n).1)) I' J) : Ct G (d + 2) m_LB_sheet [.ref 0, .int s, .int ty, .int n] P I J := by
  have hbad : (f_LB_isSheet s = 0 ∨ f_LB_isType ty = 0 ∨ ¬ n ≤ 60) → Go G (fr G m_LB_sheet (d + 2) P) 20 [none, none, none, none] [] I J := fun hb => by
    refine w_LB_sheet_20 ?_
    have e : sheets st s ty n = (-2, st) := by simp only [sheets, if_pos hb]
    rw [e] at hq
    exact hq I (fun _ _ => ⟨rfl, rfl⟩) hR
  refine Ct.ofGo [some (.ref 0), some (.int s), some (.int ty), some (.int n)] (by decide +kernel) rfl (Nat.le_of_ble_eq_true rfl) (w_LB_sheet_0 (fun c => hbad (Or.inl c)) (fun _ c => hbad (Or.inr (Or.inl c))) (fun c _ _ _ => vin_row (isSht1 c)) (fun c1 c2 c3 c4 => ?_) (fun c1 c2 c3 c4 => ?_) (fun _ _ c => hbad (Or.inr (Or.inr c))))
  · have hnb : ¬ (f_LB_isSheet s = 0 ∨ f_LB_isType ty = 0 ∨ ¬ n ≤ 60) := by
      rintro (h | h | h)
      · exact c1 h
      · exact c2 h
      · exact h c3
    have e : sheets st s ty n = (n, setQ st s (some (ty, List.replicate n.toNatClampNeg 0))) := by simp only [sheets, if_neg hnb, if_neg (not_not_intro c4)]
    rw [e] at hq
    obtain ⟨s, hs, rfl⟩ := isSht1 c1
    obtain ⟨n, hn, rfl⟩ := nI_of2 (n := 60) (by decide) (Int32.not_lt.mpr c4) c3
    have e1 : (nI s).toNatClampNeg = s := nI_clamp (by omega)
    have e2 : (nI n).toNatClampNeg = n := nI_clamp (by omega)
    rw [e1]
    rw [e2] at hq
    refine sp_renew (sht_lt s hs) (w_LB_sheet_44 ?_)
    have hk : ∀ a, a ≠ 59 + 2 * s → a ≠ 60 + 2 * s → fl (u2 (u2 I (59 + 2 * s) 1 ty) (59 + 2 * s) 2 (nI n)) (59 + 2 * s + 1) 60 0 a = I a := fun a h1 h2 => by rw [fl_o (by omega), u2_o h1, u2_o h1]
    refine hq _ (fun a ha => ⟨hk a (by omega) (by omega), rfl⟩) (hR.sht hS hs ⟨?_, ?_, fun j hj => ?_⟩ hk)
    · rw [fl_o (by omega), u2_k (by decide), u2_s]
    · rw [fl_o (by omega), u2_s]; simp
    · simp at hj
      rw [show 60 + 2 * s = 59 + 2 * s + 1 by omega, fl_at (by omega)]
      simp [List.getD_eq_getElem?_getD, hj]
  · have hnb : ¬ (f_LB_isSheet s = 0 ∨ f_LB_isType ty = 0 ∨ ¬ n ≤ 60) := by
      rintro (h | h | h)
      · exact c1 h
      · exact c2 h
      · exact h c3
    have e : sheets st s ty n = founds st 5 := by simp only [sheets, if_neg hnb, if_pos c4]
    rw [e] at hq
    exact cl_found hR (fun I' h1 h2 => w_LB_sheet_32 (hq I' h1 h2))
theorem lost_iff {q : QT} {s : Nat} (hC : SC q s I) (hok : okQ q) : I (59 + 2 * s) 2 = -1 ↔ q = none := by
  cases q with
  | none => exact ⟨fun _ => rfl, fun _ => hC⟩
  | some q =>
    obtain ⟨t, it⟩ := q
    obtain ⟨e1, e2, e3⟩ := hC
    have hl : it.length ≤ 60 := hok.2
    constructor
    · intro h
      rw [e2, ti_eq, nI_ti (by omega)] at h
      have : (-1 : Int32).toInt = -1 := rfl
      omega
    · intro h; cases h
theorem cl_lose {st : ST} {s : Int32} (hR : RC st I J) (hS : okS st) (hq : ∀ I', Hi I J I' J → RC (loses st s).2 I' J → P (some (.int (loses st s).1)) I' J) : Ct G (d + 2) m_LB_lose [.ref 0, .int s] P I J := by
  refine Ct.ofGo [some (.ref 0), some (.int s), none] (by decide +kernel) rfl (Nat.le_of_ble_eq_true rfl) (w_LB_lose_0 (fun c => vin_row (isSht1 c)) (fun c => ?_) (fun c => ?_))
  · obtain ⟨s, hs, rfl⟩ := isSht1 c
    have e1 : (nI s).toNatClampNeg = s := nI_clamp (by omega)
    rw [e1]
    have hC := hR.2.2.2.2.2.2.1 s hs
    have hok := okS_sh hS hs
    have eq : shO st (nI s) = st.2.2.2.2.2.getD s none := by rw [shO, e1]
    refine sp_isLost (sht_lt s hs) ?_
    by_cases hl : I (59 + 2 * s) 2 = -1
    · rw [if_pos hl]
      refine w_LB_lose_19 (fun c => absurd c (by decide)) (fun c => absurd c (by decide)) (fun _ => ?_)
      have hn := (lost_iff hC hok).mp hl
      have e : loses st (nI s) = founds st 1 := by simp only [loses, if_neg c, eq, hn]
      rw [e] at hq
      exact cl_found hR (fun I' h1 h2 => w_LB_lose_27 (hq I' h1 h2))
    · rw [if_neg hl]
      refine w_LB_lose_19 (fun _ => vp_in_nI hs (by omega)) (fun _ => ?_) (fun c => absurd rfl c)
      rw [e1]
      cases hsh : st.2.2.2.2.2.getD s none with
      | none => exact absurd ((lost_iff hC hok).mpr hsh) hl
      | some q =>
        obtain ⟨t, it⟩ := q
        have e : loses st (nI s) = (nI it.length, setQ st (nI s) none) := by simp only [loses, if_neg c, eq, hsh]
        rw [e] at hq
        rw [hsh] at hC
        rw [hC.2.1]
        have hk : ∀ a, a ≠ 59 + 2 * s → u2 I (59 + 2 * s) 2 (-1) a = I a := fun a ha => u2_o ha
        exact hq _ (fun a ha => ⟨hk a (by omega), rfl⟩) (hR.sht hS hs (show u2 I (59 + 2 * s) 2 (-1) (59 + 2 * s) 2 = -1 from u2_s) (fun a h1 _ => hk a h1))
  · have e : loses st s = (-2, st) := by simp only [loses, if_pos c]
    rw [e] at hq
    exact hq I (fun _ _ => ⟨rfl, rfl⟩) hR
theorem lacks0 {q : QT} {ty i : Int32} (h : lacksQ q ty i = 0) : ∃ t it, q = some (t, it) ∧ ty = t ∧ wthn i 1 it.length := by
  cases q with
  | none => exact absurd h (by simp [lacksQ])
  | some q =>
    obtain ⟨t, it⟩ := q
    by_cases h1 : ty = t
    · by_cases h2 : wthn i 1 it.length
      · exact ⟨t, it, rfl, h1, h2⟩
      · simp only [lacksQ, if_pos h1, if_neg h2] at h; exact absurd h (by decide)
    · simp only [lacksQ, if_neg h1] at h; exact absurd h (by decide)
theorem cl_put {st : ST} {s ty i v : Int32} (hR : RC st I J) (hS : okS st) (hq : ∀ I', Hi I J I' J → RC (puts st s ty i v).2 I' J → P (some (.int (puts st s ty i v).1)) I' J) : Ct G (d + 2) m_LB_put [.ref 0, .int s, .int ty, .int i, .int v] P I J := by
  have hbad : (f_LB_isSheet s = 0 ∨ f_LB_isType ty = 0) → Go G (fr G m_LB_put (d + 2) P) 14 [none, none, none, none, none, none] [] I J := fun hb => by
    refine w_LB_put_14 ?_
    have e : puts st s ty i v = (-2, st) := by simp only [puts, if_pos hb]
    rw [e] at hq
    exact hq I (fun _ _ => ⟨rfl, rfl⟩) hR
  refine Ct.ofGo [some (.ref 0), some (.int s), some (.int ty), some (.int i), some (.int v), none] (by decide +kernel) rfl (Nat.le_of_ble_eq_true rfl) (w_LB_put_0 (fun c => hbad (Or.inl c)) (fun c _ => vin_row (isSht1 c)) (fun c1 c2 => ?_) (fun _ c => hbad (Or.inr c)))
  have hnb : ¬ (f_LB_isSheet s = 0 ∨ f_LB_isType ty = 0) := by
    rintro (h | h)
    · exact c1 h
    · exact c2 h
  obtain ⟨s, hs, rfl⟩ := isSht1 c1
  have e1 : (nI s).toNatClampNeg = s := nI_clamp (by omega)
  rw [e1]
  have hC := hR.2.2.2.2.2.2.1 s hs
  have hok := okS_sh hS hs
  have eq : shO st (nI s) = st.2.2.2.2.2.getD s none := by rw [shO, e1]
  refine sp_findingAt hs rfl hC hok ?_
  refine w_LB_put_28 (fun _ => vp_in_nI hs (by omega)) (fun c => ?_) (fun c => ?_)
  · rw [e1]
    obtain ⟨t, it, h1, h2, h3⟩ := lacks0 c
    have e : puts st (nI s) ty i v = (1, setQ st (nI s) (some (t, it.set i.toNatClampNeg (nar t v)))) := by simp only [puts, if_neg hnb, eq, if_pos c]; rw [h1]; rfl
    rw [e] at hq
    rw [h1] at hC hok
    obtain ⟨g1, g2, g3⟩ := hC
    have hl : it.length ≤ 60 := hok.2
    refine sp_store (sht_lt s hs) hl g1 g2 h3 (w_LB_put_54 ?_)
    have hk : ∀ a, a ≠ 60 + 2 * s → u2 I (59 + 2 * s + 1) i.toNatClampNeg (nar t v) a = I a := fun a ha => u2_o (by omega)
    have hi := wthn_in h3
    refine hq _ (fun a ha => ⟨hk a (by omega), rfl⟩) (hR.sht hS hs ⟨by rw [hk _ (by omega)]; exact g1, by rw [hk _ (by omega)]; simpa using g2, fun j hj => ?_⟩ (fun a _ h2 => hk a h2))
    simp at hj
    rw [show 60 + 2 * s = 59 + 2 * s + 1 by omega]
    by_cases q : j = i.toNatClampNeg
    · rw [q, u2_s, getD_set_eq hi]
    · rw [u2_k q, getD_set_ne (Ne.symm q), show 59 + 2 * s + 1 = 60 + 2 * s by omega]; exact g3 j hj
  · have e : puts st (nI s) ty i v = founds st (lacksQ (st.2.2.2.2.2.getD s none) ty i) := by simp only [puts, if_neg hnb, eq, if_neg c]
    rw [e] at hq
    exact cl_found hR (fun I' h1 h2 => w_LB_put_41 (hq I' h1 h2))
theorem cl_get {st : ST} {s ty i : Int32} (hR : RC st I J) (hS : okS st) (hq : ∀ I', Hi I J I' J → RC (gets st s ty i).2 I' J → P (some (.int (gets st s ty i).1)) I' J) : Ct G (d + 2) m_LB_get [.ref 0, .int s, .int ty, .int i] P I J := by
  have hbad : (f_LB_isSheet s = 0 ∨ f_LB_isType ty = 0) → Go G (fr G m_LB_get (d + 2) P) 14 [none, none, none, none, none] [] I J := fun hb => by
    refine w_LB_get_14 ?_
    have e : gets st s ty i = (-2147483648, st) := by simp only [gets, if_pos hb]
    rw [e] at hq
    exact hq I (fun _ _ => ⟨rfl, rfl⟩) hR
  refine Ct.ofGo [some (.ref 0), some (.int s), some (.int ty), some (.int i), none] (by decide +kernel) rfl (Nat.le_of_ble_eq_true rfl) (w_LB_get_0 (fun c => hbad (Or.inl c)) (fun c _ => vin_row (isSht1 c)) (fun c1 c2 => ?_) (fun _ c => hbad (Or.inr c)))
  have hnb : ¬ (f_LB_isSheet s = 0 ∨ f_LB_isType ty = 0) := by
    rintro (h | h)
    · exact c1 h
    · exact c2 h
  obtain ⟨s, hs, rfl⟩ := isSht1 c1
  have e1 : (nI s).toNatClampNeg = s := nI_clamp (by omega)
  rw [e1]
  have hC := hR.2.2.2.2.2.2.1 s hs
  have hok := okS_sh hS hs
  have eq : shO st (nI s) = st.2.2.2.2.2.getD s none := by rw [shO, e1]
  refine sp_findingAt hs rfl hC hok ?_
  by_cases c : lacksQ (st.2.2.2.2.2.getD s none) ty i = 0
  · obtain ⟨t, it, h1, h2, h3⟩ := lacks0 c
    have e : gets st (nI s) ty i = (it.getD i.toNatClampNeg 0, st) := by simp only [gets, if_neg hnb, eq, if_pos c]; rw [h1]; rfl
    rw [e] at hq
    have hC' := hC
    rw [h1] at hC' hok
    have hl : it.length ≤ 60 := hok.2
    refine w_LB_get_29 (fun _ => vp_in_nI hs (by omega)) (fun _ => wthn_vin h3 hl) (fun _ => ?_) (fun c' => absurd c c')
    rw [e1, show 59 + 2 * s + 1 = 60 + 2 * s by omega, hC'.2.2 _ (wthn_in h3)]
    exact hq I (fun _ _ => ⟨rfl, rfl⟩) hR
  · have e : gets st (nI s) ty i = (-2147483648, sFd st (lacksQ (st.2.2.2.2.2.getD s none) ty i)) := by simp only [gets, if_neg hnb, eq, if_neg c]
    rw [e] at hq
    refine w_LB_get_29 (fun c' => absurd c' c) (fun c' => absurd c' c) (fun c' => absurd c' c) (fun _ => sp_found (w_LB_get_42 ?_))
    exact hq _ (fun a ha => ⟨u2_o (by omega), rfl⟩) hR.fd
end
