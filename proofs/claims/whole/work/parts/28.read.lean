/-! ===== the class: read ===== -/
section
variable {G : GC} {d : Nat} {P : PT} {I : MI} {J : MJ}
theorem dayk {dy k : Nat} (h1 : dy < 40) (h2 : k ≤ 60) : nI dy + nI k = nI (dy + k) := nI_add dy k
theorem VC.cong {told told' : List TE} {kn : Int32} {r : Nat} (h : VC told kn r I) (hv : ∀ dd, vwl told' (nI r) dd kn = vwl told (nI r) dd kn) : VC told' kn r I := by
  refine ⟨fun k hk => by rw [hv]; exact h.1 k hk, ?_⟩
  have e1 : pdd told' r kn = pdd told r kn := by simp only [pdd, hv]
  have e2 : pvv told' r kn = pvv told r kn := by simp only [pvv, e1, hv]
  rw [e1, e2]; exact h.2
theorem read_end {st : ST} {r k : Nat} {told : List TE} {I1 : MI} (hr : r < 4) (hR : RC st I J) (hT : TC told I1) (hok : okT told) (hO : ∀ r' dd, r' < 4 → r ≠ r' → vwl told (nI r') dd st.2.1 = vwl st.1 (nI r') dd st.2.1) (hF : Fr [1, 2, 3, 4, 5] I I1) (hq : ∀ I', Hi I J I' J → RC (sTold st told) I' J → P (some (.int (nI k))) I' J) : Go G (fr G m_LB_read (d + 4) P) 132 [some (.ref 0), none, some (.int (nI r)), none, none, none, some (.int (nI k))] [] I1 J := by
  refine w_LB_read_132 (sp_refresh hr hT hok (fun I2 hF2 hV => w_LB_read_137 ?_))
  have h0 : I1 0 = I 0 := hF 0 (by simp)
  have g0 : ∀ a, 27 ≤ a → I2 a = I a := fun a ha => by rw [hF2 a (by simp; omega), hF a (by simp; omega)]
  rw [h0, hR.2.1] at hV
  refine hq I2 (fun a ha => ⟨g0 a (by omega), rfl⟩) (hR.told hr (hT.of fun a _ _ => hF2 a (by simp; omega)) ?_ hV (fun r' hr' hne => ?_) g0)
  · rw [hF2 0 (by simp; omega), h0]
  · refine ((hR.2.2.1 r' hr').cong (hO r' · hr' hne)).of fun a h1 h2 => ?_
    rw [hF2 a (by simp; omega), hF a (by simp; omega)]
theorem read_loop {st : ST} {s r dy : Nat} {ty t : Int32} {it : List Int32} (hs : s < 4) (hr : r < 4) (hd : dy < 40) (hR : RC st I J) (hS : okS st) (hsh : st.2.2.2.2.2.getD s none = some (ty, it)) (ht2 : t ≤ 999) (res : List TE × Nat) (hq : ∀ I', Hi I J I' J → RC (sTold st res.1) I' J → P (some (.int (nI res.2))) I' J) : ∀ (rest : List Int32) (k : Nat) (x6 : Int32) (told : List TE) (I1 : MI), it = it.take k ++ rest → k + rest.length = it.length → x6 = nI k → rdL told (nI r) (nI dy) t rest k = res → TC told I1 → okT told → lastL told ≤ t → (∀ r' dd, r' < 4 → r ≠ r' → vwl told (nI r') dd st.2.1 = vwl st.1 (nI r') dd st.2.1) → Fr [1, 2, 3, 4, 5] I I1 → Go G (fr G m_LB_read (d + 4) P) 58 [some (.ref 0), none, some (.int (nI r)), some (.int (nI dy)), some (.int t), some (.ref (59 + 2 * s)), some (.int x6)] [] I1 J := by
  have hok := okS_sh hS hs
  have hC := hR.2.2.2.2.2.2.1 s hs
  rw [hsh] at hok hC
  have hl : it.length ≤ 60 := hok.2
  have h5 := sht_lt s hs
  intro rest
  induction rest with
  | nil =>
    intro k x6 told I1 hsplit hk hx hres hT hokT hlt hO hF
    subst hx
    have hk' : k = it.length := by simpa using hk
    have e2 : I1 (59 + 2 * s) 2 = nI it.length := by rw [hF _ (by simp; omega)]; exact hC.2.1
    have hle : I1 (59 + 2 * s) 2 ≤ nI k := by rw [e2]; exact nI_le (by omega) (by omega)
    simp only [rdL] at hres
    subst hres
    exact w_LB_read_58 h5 (fun _ => read_end hr hR hT hokT hO hF hq) (fun c => absurd hle c) (fun c => absurd hle c) (fun c => absurd hle c) (fun c => absurd hle c) (fun c => absurd hle c)
  | cons v rest ih =>
    intro k x6 told I1 hsplit hk hx hres hT hokT hlt hO hF
    subst hx
    have hk' : k < it.length := by simp at hk; omega
    have e1 : (nI k).toNatClampNeg = k := nI_clamp (by omega)
    have e2 : I1 (59 + 2 * s) 2 = nI it.length := by rw [hF _ (by simp; omega)]; exact hC.2.1
    have hc : ¬ I1 (59 + 2 * s) 2 ≤ nI k := by rw [e2]; exact nI_ge (by omega) (by omega)
    have hv : it.getD k 0 = v := by
      have h1 : (it.take k).length = k := by simp; omega
      rw [hsplit]
      rw [List.getD_eq_getElem?_getD, List.getElem?_append_right (by omega), h1]
      simp
    have ev : I1 (59 + 2 * s + 1) (nI k).toNatClampNeg = v := by
      rw [e1, hF _ (by simp; omega), show 59 + 2 * s + 1 = 60 + 2 * s by omega, hC.2.2 k hk', hv]
    have hdk : nI dy + nI k = nI (dy + k) := nI_add dy k
    have tdy : (nI dy).toInt = dy := nI_ti (by omega)
    have hlen : (200 ≤ I1 1 4) ↔ 200 ≤ told.length := by rw [hT.2.1]; exact nI_leI (a := 200) (by omega) (by have := hT.1; omega)
    have h40 : ((40 : Int32) ≤ nI dy + nI k) ↔ 40 ≤ dy + k := by rw [hdk]; exact nI_leI (a := 40) (by omega) (by omega)
    have hstop : ¬ ((nI dy).toInt + k < 40 ∧ ¬ f_LB_isValue v = 0 ∧ told.length < 200) → Go G (fr G m_LB_read (d + 4) P) 132 [some (.ref 0), none, some (.int (nI r)), none, none, none, some (.int (nI k))] [] I1 J := fun hb => by
      simp only [rdL, if_neg hb] at hres
      subst hres
      exact read_end hr hR hT hokT hO hF hq
    refine w_LB_read_58 h5 (fun c => absurd c hc) (fun _ c => hstop (fun h => ?_)) (fun _ _ => vp_in_nI (by omega) (by omega)) (fun _ _ c => hstop (fun h => ?_)) (fun _ _ _ c => hstop (fun h => ?_)) (fun _ c1 c2 c3 => ?_)
    · have := h40.mp c
      have := h.1
      rw [tdy] at this; omega
    · rw [ev] at c; exact h.2.1 c
    · have := hlen.mp c
      have := h.2.2
      omega
    · rw [ev] at c2 ⊢
      have hdlt : dy + k < 40 := Nat.not_le.mp fun q => c1 (h40.mpr q)
      have hll : told.length < 200 := Nat.not_le.mp fun q => c3 (hlen.mpr q)
      have hcond : (nI dy).toInt + k < 40 ∧ ¬ f_LB_isValue v = 0 ∧ told.length < 200 := ⟨by rw [tdy]; omega, c2, hll⟩
      simp only [rdL, if_pos hcond] at hres
      refine sp_add hT hll (fun I2 hF2 hT2 => w_LB_read_126 h5 ?_)
      have hok2 : okT (told ++ [(nI r, nI dy + nI k, v, t)]) := by
        refine okT_push hokT (isRow0 hr) ?_ c2 (isW1.mpr ⟨hlt, ht2⟩)
        rw [hdk]
        refine isW1.mpr ⟨nI_pos' (by omega), ?_⟩
        exact nI_le (b := 39) (by omega) (by omega)
      refine ih (k + 1) _ _ I2 ?_ (by simp at hk; omega) (nI_1 k) hres hT2 hok2 ?_ (fun r' dd hr' hne => ?_) (fun a ha => (hF2 a ha).trans (hF a ha))
      · have : it.take (k + 1) = it.take k ++ [v] := by rw [List.take_succ_eq_append_getElem hk', ← getD_lt (z := 0) hk', hv]
        rw [this, List.append_assoc]; exact hsplit
      · have : lastL (told ++ [(nI r, nI dy + nI k, v, t)]) = t := by simp [lastL]
        rw [this]; exact Int32.le_refl _
      · have hn : ¬ nI r = nI r' := by rw [nI_eq (by omega) (by omega)]; exact hne
        rw [vwl_app, if_neg (fun q => hn q.1)]
        exact hO r' dd hr' hne
theorem cl_read {st : ST} {s r dy t : Int32} (hR : RC st I J) (hS : okS st) (hq : ∀ I', Hi I J I' J → RC (reads st s r dy t).2 I' J → P (some (.int (reads st s r dy t).1)) I' J) : Ct G (d + 4) m_LB_read [.ref 0, .int s, .int r, .int dy, .int t] P I J := by
  have hT := hR.1
  have hbad : (f_LB_isSheet s = 0 ∨ f_LB_isRow r = 0 ∨ f_LB_isDay dy = 0 ∨ f_LB_isWithin t (lastL st.1) 999 = 0) → Go G (fr G m_LB_read (d + 4) P) 30 [none, none, none, none, none, none, none] [] I J := fun hb => by
    refine w_LB_read_30 ?_
    have e : reads st s r dy t = (-2, st) := by simp only [reads, if_pos hb]
    rw [e] at hq
    exact hq I (fun _ _ => ⟨rfl, rfl⟩) hR
  refine Ct.ofGo [some (.ref 0), some (.int s), some (.int r), some (.int dy), some (.int t), none, none] (by decide +kernel) rfl (Nat.le_of_ble_eq_true rfl) ?_
  refine w_LB_read_0 (fun c => hbad (Or.inl c)) (fun _ c => hbad (Or.inr (Or.inl c))) (fun _ _ c => hbad (Or.inr (Or.inr (Or.inl c)))) (fun c1 c2 c3 => ?_)
  refine sp_isNextTime hT ?_
  rw [lastT_L hT]
  refine w_LB_read_27 (fun _ => vin_row (isSht1 c1)) (fun c4 => ?_) (fun c => hbad (Or.inr (Or.inr (Or.inr c))))
  have hnb : ¬ (f_LB_isSheet s = 0 ∨ f_LB_isRow r = 0 ∨ f_LB_isDay dy = 0 ∨ f_LB_isWithin t (lastL st.1) 999 = 0) := by
    rintro (h | h | h | h)
    · exact c1 h
    · exact c2 h
    · exact c3 h
    · exact c4 h
  obtain ⟨s, hs, rfl⟩ := isSht1 c1
  obtain ⟨r, hr, rfl⟩ := isRow1 c2
  obtain ⟨dy, hd, rfl⟩ := isDay1 c3
  have e1 : (nI s).toNatClampNeg = s := nI_clamp (by omega)
  rw [e1]
  have hC := hR.2.2.2.2.2.2.1 s hs
  have hok := okS_sh hS hs
  have eq : shO st (nI s) = st.2.2.2.2.2.getD s none := by rw [shO, e1]
  have h3 := sht_lt s hs
  refine sp_isLost h3 ?_
  cases hsh : st.2.2.2.2.2.getD s none with
  | none =>
    rw [if_pos ((lost_iff hC hok).mpr hsh)]
    have e : reads st (nI s) (nI r) (nI dy) t = founds st 1 := by simp only [reads, if_neg hnb, eq, hsh]
    rw [e] at hq
    exact w_LB_read_46 h3 (fun c => absurd c (by decide)) (fun _ => cl_found hR (fun I' g1 g2 => w_LB_read_54 (hq I' g1 g2)))
  | some a =>
    obtain ⟨ty, it⟩ := a
    have hne : ¬ I (59 + 2 * s) 2 = -1 := fun h => by have := (lost_iff hC hok).mp h; rw [hsh] at this; cases this
    rw [if_neg hne]
    have e : reads st (nI s) (nI r) (nI dy) t = (nI (rdL st.1 (nI r) (nI dy) t it 0).2, sTold st (rdL st.1 (nI r) (nI dy) t it 0).1) := by simp only [reads, if_neg hnb, eq, hsh]
    rw [e] at hq
    refine w_LB_read_46 h3 (fun _ => ?_) (fun c => absurd rfl c)
    have hw := isW1.mp c4
    exact read_loop hs hr hd hR hS hsh hw.2 (rdL st.1 (nI r) (nI dy) t it 0) hq it 0 0 st.1 I (by simp) (by simp) nI_0.symm rfl hT hS.1 hw.1 (fun _ _ _ _ => rfl) Fr.rf
end
