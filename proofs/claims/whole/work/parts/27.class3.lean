/-! ===== the class: copy, write, read, count ===== -/
def wrL (told : List TE) (r kn ty : Int32) (it : List Int32) (n : Nat) : List Int32 := (List.range it.length).map fun k => if k < n then nar ty (vwl told r (nI k) kn) else it.getD k 0
def writes (st : ST) (r s : Int32) : Int32 × ST :=
  if f_LB_isRow r = 0 ∨ f_LB_isSheet s = 0 then (-2, st) else match shO st s with
  | none => founds st 1
  | some (ty, it) => (nI (min it.length 40), setQ st s (some (ty, wrL st.1 r st.2.1 ty it (min it.length 40))))
/-- told one behind another, as long as one may be -/
def rdL (told : List TE) (r dy t : Int32) (vs : List Int32) (k : Nat) : List TE × Nat := match vs with
  | [] => (told, k)
  | v :: rest => if dy.toInt + k < 40 ∧ ¬ f_LB_isValue v = 0 ∧ told.length < 200 then rdL (told ++ [(r, dy + nI k, v, t)]) r dy t rest (k + 1) else (told, k)
def reads (st : ST) (s r dy t : Int32) : Int32 × ST :=
  if f_LB_isSheet s = 0 ∨ f_LB_isRow r = 0 ∨ f_LB_isDay dy = 0 ∨ f_LB_isWithin t (lastL st.1) 999 = 0 then (-2, st) else match shO st s with
  | none => founds st 1
  | some (_, it) => (nI (rdL st.1 r dy t it 0).2, sTold st (rdL st.1 r dy t it 0).1)
def counts (st : ST) (w : Int32) : Int32 :=
  if w = 0 ∨ w = 1 ∨ w = 2 ∨ w = 3 then nI (pdd st.1 w.toNatClampNeg st.2.1).length else if w = 4 then nI st.1.length else if w = 5 then st.2.1 else if w = 6 then lastL st.1 else if w = 7 then nI st.2.2.2.1.length else if w = 8 then st.2.2.2.2.1 else -2
theorem getD_map_range {f : Nat → Int32} {n k : Nat} (h : k < n) : ((List.range n).map f).getD k 0 = f k := by simp [List.getD_eq_getElem?_getD, h]
section
variable {G : GC} {d : Nat} {P : PT} {I : MI} {J : MJ}
theorem cl_copy {st : ST} {s i t j n : Int32} (hR : RC st I J) (hS : okS st) (hq : ∀ I', Hi I J I' J → RC (copys st s i t j n).2 I' J → P (some (.int (copys st s i t j n).1)) I' J) : Ct G (d + 2) m_LB_copy [.ref 0, .int s, .int i, .int t, .int j, .int n] P I J := by
  have hbad : (f_LB_isSheet s = 0 ∨ f_LB_isSheet t = 0) → Go G (fr G m_LB_copy (d + 2) P) 14 [none, none, none, none, none, none, none, none] [] I J := fun hb => by
    refine w_LB_copy_14 ?_
    have e : copys st s i t j n = (-2, st) := by simp only [copys, if_pos hb]
    rw [e] at hq
    exact hq I (fun _ _ => ⟨rfl, rfl⟩) hR
  refine Ct.ofGo [some (.ref 0), some (.int s), some (.int i), some (.int t), some (.int j), some (.int n), none, none] (by decide +kernel) rfl (Nat.le_of_ble_eq_true rfl) (w_LB_copy_0 (fun c => hbad (Or.inl c)) (fun c _ => vin_row (isSht1 c)) (fun _ c => vin_row (isSht1 c)) (fun c1 c2 => ?_) (fun _ c => hbad (Or.inr c)))
  have hnb : ¬ (f_LB_isSheet s = 0 ∨ f_LB_isSheet t = 0) := by
    rintro (h | h)
    · exact c1 h
    · exact c2 h
  obtain ⟨s, hs, rfl⟩ := isSht1 c1
  obtain ⟨t, ht, rfl⟩ := isSht1 c2
  have e1 : (nI s).toNatClampNeg = s := nI_clamp (by omega)
  have e2 : (nI t).toNatClampNeg = t := nI_clamp (by omega)
  rw [e1, e2]
  have hC := hR.2.2.2.2.2.2.1 s hs
  have hok := okS_sh hS hs
  have hD := hR.2.2.2.2.2.2.1 t ht
  have hok2 := okS_sh hS ht
  have eqs : shO st (nI s) = st.2.2.2.2.2.getD s none := by rw [shO, e1]
  have eqt : shO st (nI t) = st.2.2.2.2.2.getD t none := by rw [shO, e2]
  have h6 := sht_lt s hs
  have h7 := sht_lt t ht
  have hlost : (shO st (nI s) = none ∨ shO st (nI t) = none) → Go G (fr G m_LB_copy (d + 2) P) 49 [some (.ref 0), none, none, none, none, none, none, none] [] I J := fun hb => by
    have e : copys st (nI s) i (nI t) j n = founds st 1 := by simp only [copys, if_neg hnb, if_pos hb]
    rw [e] at hq
    exact w_LB_copy_49 (cl_found hR (fun I' g1 g2 => w_LB_copy_54 (hq I' g1 g2)))
  refine sp_isLost h6 ?_
  by_cases l1 : I (59 + 2 * s) 2 = -1
  · rw [if_pos l1]
    exact w_LB_copy_38 h6 h7 (fun _ => hlost (Or.inl (by rw [eqs]; exact (lost_iff hC hok).mp l1))) (fun c => absurd c (by decide))
  · rw [if_neg l1]
    refine w_LB_copy_38 h6 h7 (fun c => absurd rfl c) (fun _ => sp_isLost h7 ?_)
    by_cases l2 : I (59 + 2 * t) 2 = -1
    · rw [if_pos l2]
      exact w_LB_copy_46 h6 h7 (fun c => absurd c (by decide)) (fun c => absurd c (by decide)) (fun _ => hlost (Or.inr (by rw [eqt]; exact (lost_iff hD hok2).mp l2)))
    · rw [if_neg l2]
      cases hqs : st.2.2.2.2.2.getD s none with
      | none => exact absurd ((lost_iff hC hok).mpr hqs) l1
      | some a =>
        cases hqt : st.2.2.2.2.2.getD t none with
        | none => exact absurd ((lost_iff hD hok2).mpr hqt) l2
        | some b =>
          obtain ⟨ts, is⟩ := a
          obtain ⟨tt, it⟩ := b
          rw [hqs] at hC hok
          rw [hqt] at hD hok2
          have hls : is.length ≤ 60 := hok.2
          have hlt : it.length ≤ 60 := hok2.2
          have hnn : ¬ (shO st (nI s) = none ∨ shO st (nI t) = none) := by rw [eqs, eqt, hqs, hqt]; simp
          refine w_LB_copy_46 h6 h7 (fun _ c => ?_) (fun _ c => ?_) (fun c => absurd rfl c)
          · rw [hC.1, hD.1] at c
            have hidx : ¬ (wthn i n is.length ∧ wthn j n it.length) → Go G (fr G m_LB_copy (d + 2) P) 97 [some (.ref 0), none, none, none, none, none, none, none] [] I J := fun hb => by
              have e : copys st (nI s) i (nI t) j n = founds st 2 := by
                unfold copys
                rw [if_neg hnb, if_neg hnn, eqs, eqt, hqs, hqt]
                rw [if_neg (show ¬ ¬ typeQ (some (ts, is)) = typeQ (some (tt, it)) from not_not_intro c), if_neg (show ¬ (wthn i n (itemsQ (some (ts, is))).length ∧ wthn j n (itemsQ (some (tt, it))).length) from hb)]
              rw [e] at hq
              exact w_LB_copy_97 (cl_found hR (fun I' g1 g2 => w_LB_copy_102 (hq I' g1 g2)))
            refine sp_has h6 hls hC.2.1 ?_
            by_cases w1 : wthn i n is.length
            · rw [if_pos w1]
              refine w_LB_copy_82 h6 h7 (fun c => absurd c (by decide)) (fun _ => sp_has h7 hlt hD.2.1 ?_)
              by_cases w2 : wthn j n it.length
              · rw [if_pos w2]
                have ii : (i.toNatClampNeg : Int) = i.toInt := by rw [ti_cl]; have := w1.1; omega
                have nn : (n.toNatClampNeg : Int) = n.toInt := by rw [ti_cl]; have := w1.2.1; omega
                have jj : (j.toNatClampNeg : Int) = j.toInt := by rw [ti_cl]; have := w2.1; omega
                have z0 : (0 : Int32).toInt = 0 := rfl
                refine w_LB_copy_94 h6 h7 (fun _ => ⟨by rw [ti_lt, z0]; have := w1.1; omega, by rw [ti_lt, z0]; have := w2.1; omega, by rw [ti_lt, z0]; have := w1.2.1; omega, by have := w1.2.2; omega, by have := w2.2.2; omega⟩) (fun _ => ?_) (fun c => absurd c (by decide))
                have e : copys st (nI s) i (nI t) j n = (1, setQ st (nI t) (some (tt, cpL is it i.toNatClampNeg j.toNatClampNeg n.toNatClampNeg))) := by
                  unfold copys
                  rw [if_neg hnb, if_neg hnn, eqs, eqt, hqs, hqt]
                  rw [if_neg (show ¬ ¬ typeQ (some (ts, is)) = typeQ (some (tt, it)) from not_not_intro c), if_pos (show wthn i n (itemsQ (some (ts, is))).length ∧ wthn j n (itemsQ (some (tt, it))).length from ⟨w1, w2⟩)]
                  rfl
                rw [e] at hq
                have hk : ∀ a, a ≠ 60 + 2 * t → cp2 I (59 + 2 * s + 1) (59 + 2 * t + 1) i.toNatClampNeg j.toNatClampNeg n.toNatClampNeg a = I a := fun a ha => by simp only [cp2]; rw [if_neg (by omega)]
                refine hq _ (fun a ha => ⟨hk a (by omega), rfl⟩) (hR.sht hS ht ⟨by rw [hk _ (by omega)]; exact hD.1, by rw [hk _ (by omega)]; simpa [cpL] using hD.2.1, fun k hk' => ?_⟩ (fun a _ h2 => hk a h2))
                simp [cpL] at hk'
                rw [cpL, getD_map_range hk', show 60 + 2 * t = 59 + 2 * t + 1 by omega]
                simp only [cp2, if_true, va_cpy]
                rw [show 59 + 2 * t + 1 = 60 + 2 * t by omega, show 59 + 2 * s + 1 = 60 + 2 * s by omega]
                by_cases hin : j.toNatClampNeg ≤ k ∧ k < j.toNatClampNeg + n.toNatClampNeg
                · rw [if_pos hin, if_pos hin]
                  exact hC.2.2 _ (by have := w1.2.2; omega)
                · rw [if_neg hin, if_neg hin]
                  exact hD.2.2 k hk'
              · rw [if_neg w2]
                exact w_LB_copy_94 h6 h7 (fun c => absurd rfl c) (fun c => absurd rfl c) (fun _ => hidx (fun h => w2 h.2))
            · rw [if_neg w1]
              exact w_LB_copy_82 h6 h7 (fun _ => hidx (fun h => w1 h.1)) (fun c => absurd rfl c)
          · rw [hC.1, hD.1] at c
            have e : copys st (nI s) i (nI t) j n = founds st 4 := by
              unfold copys
              rw [if_neg hnb, if_neg hnn, eqs, eqt, hqs, hqt]
              rw [if_pos (show ¬ typeQ (some (ts, is)) = typeQ (some (tt, it)) from c)]
            rw [e] at hq
            exact cl_found hR (fun I' g1 g2 => w_LB_copy_73 (hq I' g1 g2))
theorem min40 {n : Nat} (h : n ≤ 60) : f_JM_min_II (nI n) 40 = nI (min n 40) := by
  unfold f_JM_min_II
  by_cases q : n ≤ 40
  · have h1 : nI n ≤ 40 := nI_le (b := 40) q (by omega)
    rw [Nat.min_eq_left q, if_neg (Int32.not_lt.mpr h1)]
  · have h1 : ¬ nI n ≤ 40 := nI_ge (a := 40) (b := n) (by omega) (by omega)
    rw [Nat.min_eq_right (by omega), if_pos (Int32.not_le.mp h1)]
    rfl
theorem write_loop {st : ST} {r s n : Nat} {ty : Int32} {it : List Int32} (hr : r < 4) (hs : s < 4) (hR : RC st I J) (hS : okS st) (hsh : st.2.2.2.2.2.getD s none = some (ty, it)) (hn : n = min it.length 40) (hq : ∀ I', Hi I J I' J → RC (setQ st (nI s) (some (ty, wrL st.1 (nI r) st.2.1 ty it n))) I' J → P (some (.int (nI n))) I' J) : ∀ (m i : Nat) (x5 : Int32) (I1 : MI), i + m = n → x5 = nI i → (∀ a, a ≠ 60 + 2 * s → I1 a = I a) → (∀ k, k < it.length → I1 (60 + 2 * s) k = if k < i then nar ty (vwl st.1 (nI r) (nI k) st.2.1) else it.getD k 0) → Go G (fr G m_LB_write (d + 2) P) 51 [some (.ref 0), some (.int (nI r)), none, some (.ref (59 + 2 * s)), some (.int (nI n)), some (.int x5)] [] I1 J := by
  have hok := okS_sh hS hs
  have hC := hR.2.2.2.2.2.2.1 s hs
  rw [hsh] at hok hC
  have hl : it.length ≤ 60 := hok.2
  have h3 := sht_lt s hs
  intro m
  induction m with
  | zero =>
    intro i x5 I1 hi hx hF hv
    subst hx
    obtain rfl : i = n := by omega
    have hle : nI i ≤ nI i := nI_le (Nat.le_refl _) (by omega)
    refine w_LB_write_51 h3 (fun _ => hq I1 (fun a ha => ⟨hF a (by omega), rfl⟩) (hR.sht hS hs ⟨by rw [hF _ (by omega)]; exact hC.1, by rw [hF _ (by omega)]; simpa [wrL] using hC.2.1, fun k hk => ?_⟩ (fun a _ h2 => hF a h2))) (fun c => absurd hle c) (fun c => absurd hle c) (fun c => absurd hle c)
    simp [wrL] at hk
    rw [wrL, getD_map_range hk, hv k hk]
  | succ m ih =>
    intro i x5 I1 hi hx hF hv
    subst hx
    have hc : ¬ nI n ≤ nI i := nI_ge (by omega) (by omega)
    have e1 : (nI i).toNatClampNeg = i := nI_clamp (by omega)
    have er : (nI r).toNatClampNeg = r := nI_clamp (by omega)
    refine w_LB_write_51 h3 (fun c => absurd c hc) (fun _ => vp_in_nI hr (by omega)) (fun _ => vp_in_nI (by omega) (by omega)) (fun _ => ?_)
    have ev : I1 (7 + 5 * (nI r).toNatClampNeg + 1) (nI i).toNatClampNeg = vwl st.1 (nI r) (nI i) st.2.1 := by
      rw [er, e1, show 7 + 5 * r + 1 = 8 + 5 * r by omega, hF _ (by omega)]
      exact (hR.2.2.1 r hr).1 i (by omega)
    rw [ev]
    have z1 : (1 : Int32).toInt = 1 := rfl
    refine sp_store (L := it.length) (ty := ty) h3 hl (by rw [hF _ (by omega)]; exact hC.1) (by rw [hF _ (by omega)]; exact hC.2.1) ⟨by rw [nI_ti (by omega)]; omega, by rw [z1]; omega, by rw [nI_ti (by omega), z1]; omega⟩ (w_LB_write_76 h3 ?_)
    rw [e1]
    refine ih (i + 1) _ _ (by omega) (nI_1 i) (fun a ha => ?_) (fun k hk => ?_)
    · rw [u2_o (by omega)]; exact hF a ha
    · rw [show 60 + 2 * s = 59 + 2 * s + 1 by omega]
      by_cases q : k = i
      · subst q
        rw [u2_s, if_pos (by omega)]
      · rw [u2_k q, show 59 + 2 * s + 1 = 60 + 2 * s by omega, hv k hk]
        by_cases q2 : k < i
        · rw [if_pos q2, if_pos (by omega)]
        · rw [if_neg q2, if_neg (by omega)]
theorem cl_write {st : ST} {r s : Int32} (hR : RC st I J) (hS : okS st) (hq : ∀ I', Hi I J I' J → RC (writes st r s).2 I' J → P (some (.int (writes st r s).1)) I' J) : Ct G (d + 2) m_LB_write [.ref 0, .int r, .int s] P I J := by
  have hbad : (f_LB_isRow r = 0 ∨ f_LB_isSheet s = 0) → Go G (fr G m_LB_write (d + 2) P) 14 [none, none, none, none, none, none] [] I J := fun hb => by
    refine w_LB_write_14 ?_
    have e : writes st r s = (-2, st) := by simp only [writes, if_pos hb]
    rw [e] at hq
    exact hq I (fun _ _ => ⟨rfl, rfl⟩) hR
  refine Ct.ofGo [some (.ref 0), some (.int r), some (.int s), none, none, none] (by decide +kernel) rfl (Nat.le_of_ble_eq_true rfl) (w_LB_write_0 (fun c => hbad (Or.inl c)) (fun _ c => vin_row (isSht1 c)) (fun c1 c2 => ?_) (fun _ c => hbad (Or.inr c)))
  have hnb : ¬ (f_LB_isRow r = 0 ∨ f_LB_isSheet s = 0) := by
    rintro (h | h)
    · exact c1 h
    · exact c2 h
  obtain ⟨r, hr, rfl⟩ := isRow1 c1
  obtain ⟨s, hs, rfl⟩ := isSht1 c2
  have e1 : (nI s).toNatClampNeg = s := nI_clamp (by omega)
  rw [e1]
  have hC := hR.2.2.2.2.2.2.1 s hs
  have hok := okS_sh hS hs
  have eq : shO st (nI s) = st.2.2.2.2.2.getD s none := by rw [shO, e1]
  have h3 := sht_lt s hs
  refine sp_isLost h3 ?_
  cases hsh : st.2.2.2.2.2.getD s none with
  | none =>
    rw [if_pos ((lost_iff hC hok).mpr hsh)]
    have e : writes st (nI r) (nI s) = founds st 1 := by simp only [writes, if_neg hnb, eq, hsh]
    rw [e] at hq
    exact w_LB_write_28 h3 (fun c => absurd c (by decide)) (fun _ => cl_found hR (fun I' g1 g2 => w_LB_write_36 (hq I' g1 g2)))
  | some a =>
    obtain ⟨ty, it⟩ := a
    have hne : ¬ I (59 + 2 * s) 2 = -1 := fun h => by have := (lost_iff hC hok).mp h; rw [hsh] at this; cases this
    rw [if_neg hne]
    have e : writes st (nI r) (nI s) = (nI (min it.length 40), setQ st (nI s) (some (ty, wrL st.1 (nI r) st.2.1 ty it (min it.length 40)))) := by simp only [writes, if_neg hnb, eq, hsh]
    rw [e] at hq
    refine w_LB_write_28 h3 (fun _ => ?_) (fun c => absurd rfl c)
    rw [hsh] at hC hok
    have hl : it.length ≤ 60 := hok.2
    rw [hC.2.1, min40 hl]
    exact write_loop hr hs hR hS hsh rfl hq (min it.length 40) 0 0 I (by omega) nI_0.symm (fun _ _ => rfl) (fun k hk => by rw [if_neg (by omega)]; exact hC.2.2 k hk)
theorem cl_count {st : ST} {w : Int32} (hR : RC st I J) (hq : P (some (.int (counts st w))) I J) : Ct G (d + 1) m_LB_count [.ref 0, .int w] P I J := by
  have hrow : ∀ r : Nat, r < 4 → w = nI r → P (some (.int (I (7 + 5 * w.toNatClampNeg) 4))) I J := fun r hr hw => by
    subst hw
    have e : counts st (nI r) = nI (pdd st.1 (nI r).toNatClampNeg st.2.1).length := by
      unfold counts
      rw [if_pos]
      match r, hr with
      | 0, _ => exact Or.inl rfl
      | 1, _ => exact Or.inr (Or.inl rfl)
      | 2, _ => exact Or.inr (Or.inr (Or.inl rfl))
      | 3, _ => exact Or.inr (Or.inr (Or.inr rfl))
    rw [e, nI_clamp (show r < 2 ^ 31 by omega)] at hq
    rw [nI_clamp (show r < 2 ^ 31 by omega), (hR.2.2.1 r hr).2.1]; exact hq
  have hin : ∀ r : Nat, r < 4 → w = nI r → vp_in w 4 := fun r hr hw => by subst hw; exact vp_in_nI hr (by omega)
  refine Ct.ofGo [some (.ref 0), some (.int w)] (by decide +kernel) rfl (Nat.le_of_ble_eq_true rfl) (w_LB_count_0 (fun c => hin 0 (by omega) c) (fun c => hrow 0 (by omega) c) (fun c => hin 1 (by omega) c) (fun c => hrow 1 (by omega) c) (fun c => hin 2 (by omega) c) (fun c => hrow 2 (by omega) c) (fun c => hin 3 (by omega) c) (fun c => hrow 3 (by omega) c) (fun c => ?_) (fun c => ?_) (fun c => ?_) (fun c => ?_) (fun c => ?_) (fun c0 c1 c2 c3 c4 c5 c6 c7 c8 => ?_))
  · subst c
    rw [hR.1.2.1]; exact hq
  · subst c
    rw [hR.2.1]; exact hq
  · subst c
    refine sp_lastTime hR.1.1 hR.1.2.1 (w_LB_count_82 ?_)
    rw [lastT_L hR.1]; exact hq
  · subst c
    rw [hR.2.2.2.2.1.1]; exact hq
  · subst c
    rw [hR.2.2.2.2.2.1]; exact hq
  · have e : counts st w = -2 := by simp only [counts, c0, c1, c2, c3, c4, c5, c6, c7, c8, or_self, if_false]
    rw [e] at hq; exact hq
end
