/-! ===== the class: rows ===== -/
theorem upTo_full {f : Nat → Int32} {t : Int32} : ∀ n, (n = 0 ∨ f (n - 1) ≤ t) → upTo f t n = n := by
  intro n h
  cases n with
  | zero => rfl
  | succ n =>
    have h1 : f n ≤ t := by simpa using h
    simp only [upTo, if_pos h1]
theorem getD_lt {α : Type} {l : List α} {k : Nat} {z : α} (h : k < l.length) : l.getD k z = l[k] := by simp [List.getD_eq_getElem?_getD, h]
theorem okT_le {told : List TE} (h : okT told) {i j : Nat} (hij : i ≤ j) (hj : j < told.length) : (told.getD i teD).2.2.2 ≤ (told.getD j teD).2.2.2 := by
  rcases Nat.lt_or_eq_of_le hij with q | q
  · rw [getD_lt (by omega), getD_lt hj]
    exact List.pairwise_iff_getElem.mp h.2 i j (by omega) hj q
  · subst q; exact Int32.le_refl _
theorem vw_take {told : List TE} {I : MI} {r dy t : Int32} (hT : TC told I) (hs : okT told) : ∀ n, n ≤ told.length → vw (I 2) (I 3) (I 4) r dy (upTo (I 5) t n) = vwl (told.take n) r dy t := by
  intro n
  induction n with
  | zero => intro _; simp [upTo, vw, vwl]
  | succ n ih =>
    intro hn
    have hn' : n < told.length := by omega
    obtain ⟨e2, e3, e4, e5⟩ := hT.2.2 n hn'
    have htk : told.take (n + 1) = told.take n ++ [told.getD n teD] := by
      rw [getD_lt hn', List.take_succ_eq_append_getElem hn']
    rw [htk, vwl_app]
    by_cases hc : I 5 n ≤ t
    · have hfull : upTo (I 5) t n = n := by
        refine upTo_full n ?_
        rcases Nat.eq_zero_or_pos n with h0 | h0
        · exact Or.inl h0
        · right
          rw [(hT.2.2 (n - 1) (by omega)).2.2.2]
          refine Int32.le_trans (okT_le hs (show n - 1 ≤ n by omega) hn') ?_
          rw [← e5]; exact hc
      have h1 : upTo (I 5) t (n + 1) = n + 1 := by simp only [upTo, if_pos hc]
      have h2 := ih (by omega)
      rw [hfull] at h2
      rw [h1]
      simp only [vw, h2, e2, e3, e4, ← e5, hc, and_true]
    · have h1 : upTo (I 5) t (n + 1) = upTo (I 5) t n := by simp only [upTo, if_neg hc]
      rw [h1, ih (by omega), if_neg]
      rw [← e5]; exact fun h => hc h.2.2
theorem vw_vwl {told : List TE} {I : MI} {r dy t : Int32} (hT : TC told I) (hs : okT told) : vw (I 2) (I 3) (I 4) r dy (upTo (I 5) t told.length) = vwl told r dy t := by
  have h := vw_take (r := r) (dy := dy) (t := t) hT hs told.length (Nat.le_refl _)
  rwa [List.take_length] at h
theorem vw_le {ar ad av : Nat → Int32} : True := trivial
section
variable {G : GC} {d : Nat} {P : PT} {I : MI} {J : MJ}
theorem sp_refresh {told : List TE} {r : Nat} (hr : r < 4) (hT : TC told I) (hs : okT told) (hq : ∀ I', Fr [7 + 5 * r, 8 + 5 * r, 9 + 5 * r, 10 + 5 * r, 11 + 5 * r] I I' → VC told (I 0 9) r I' → P none I' J) : Ct G (d + 3) m_LB_refresh [.ref 0, .int (nI r)] P I J := by
  have e1 : (nI r).toNatClampNeg = r := nI_clamp (by omega)
  refine Ct.ofGo [some (.ref 0), some (.int (nI r))] (by decide +kernel) rfl (Nat.le_of_ble_eq_true rfl) (w_LB_refresh_0 (vp_in_nI hr (by omega)) ?_)
  refine sp_toldUpTo (n := told.length) hT.1 hT.2.1 ?_
  rw [e1]
  refine w_LB_refresh_22 (pts_lt r hr) ?_
  have hle := upTo_le (I 5) (I 0 9) told.length
  have hl := hT.1
  refine sp_load (pts_lt r hr) (by omega) (fun k hk => ?_) (fun I' hF hv hP => w_LB_refresh_25 (hq I' ?_ ?_))
  · have hk' : k < told.length := by omega
    rw [(hT.2.2 k hk').2.1, getD_lt hk']
    exact (hs.1 _ (List.getElem_mem hk')).2.1
  · intro a ha
    refine hF a ?_
    simp only [List.mem_cons, List.not_mem_nil, or_false, not_or] at ha ⊢
    omega
  · have hv' : ∀ k, k < 40 → I' (8 + 5 * r) k = vwl told (nI r) (nI k) (I 0 9) := fun k hk => by
      have h := hv k hk
      rw [vw_vwl hT hs] at h
      rw [show 8 + 5 * r = 7 + 5 * r + 1 by omega]; exact h
    refine ⟨hv', ?_⟩
    rw [show (7 + 5 * r + 1 : Nat) = 8 + 5 * r by omega] at hP
    rw [map_congr_dys hv', dys_congr hv'] at hP
    exact hP
theorem sp_isNextTime {told : List TE} {t : Int32} (hT : TC told I) (hq : P (some (.int (f_LB_isWithin t (lastT (I 5) told.length) 999))) I J) : Ct G (d + 1) m_LB_isNextTime [.ref 0, .int t] P I J := by
  refine Ct.ofGo [some (.ref 0), some (.int t)] (by decide +kernel) rfl (Nat.le_of_ble_eq_true rfl) (w_LB_isNextTime_0 ?_)
  exact sp_lastTime hT.1 hT.2.1 (w_LB_isNextTime_8 hq)
def lastL (told : List TE) : Int32 := match told.getLast? with
  | none => 0
  | some e => e.2.2.2
theorem lastT_L {told : List TE} (hT : TC told I) : lastT (I 5) told.length = lastL told := by
  rcases List.eq_nil_or_concat told with rfl | ⟨l, e, rfl⟩
  · rfl
  · have h := (hT.2.2 l.length (by simp)).2.2.2
    rw [show (l.concat e).length = l.length + 1 by simp]
    simp only [lastT, h, List.concat_eq_append, lastL]
    rw [getD_app2]; simp
theorem TC.push {told : List TE} {I I' : MI} {r dy v t : Int32} (h : TC told I) (hl : told.length < 200) (h1 : I' 1 4 = nI (told.length + 1)) (ha : ∀ k, k < told.length → I' 2 k = I 2 k ∧ I' 3 k = I 3 k ∧ I' 4 k = I 4 k ∧ I' 5 k = I 5 k) (hb : I' 2 told.length = r ∧ I' 3 told.length = dy ∧ I' 4 told.length = v ∧ I' 5 told.length = t) : TC (told ++ [(r, dy, v, t)]) I' := by
  refine ⟨by simp; omega, by simpa using h1, fun k hk => ?_⟩
  rcases Nat.lt_or_ge k told.length with q | q
  · rw [getD_app1 q, (ha k q).1, (ha k q).2.1, (ha k q).2.2.1, (ha k q).2.2.2]
    exact h.2.2 k q
  · obtain rfl : k = told.length := by simp at hk; omega
    rw [getD_app2]; exact hb
theorem addM_TC {told : List TE} {r dy v t : Int32} (hT : TC told I) (hl : told.length < 200) : TC (told ++ [(r, dy, v, t)]) (u2 (u2 (u2 (u2 (u2 I 2 told.length r) 3 told.length dy) 4 told.length v) 5 told.length t) 1 4 (nI told.length + 1)) := by
  refine hT.push hl ?_ (fun k hk => ⟨?_, ?_, ?_, ?_⟩) ⟨?_, ?_, ?_, ?_⟩
  · rw [u2_s, nI_1]
  · rw [u2_o (by decide), u2_o (by decide), u2_o (by decide), u2_o (by decide), u2_k (by omega)]
  · rw [u2_o (by decide), u2_o (by decide), u2_o (by decide), u2_k (by omega), u2_o (by decide)]
  · rw [u2_o (by decide), u2_o (by decide), u2_k (by omega), u2_o (by decide), u2_o (by decide)]
  · rw [u2_o (by decide), u2_k (by omega), u2_o (by decide), u2_o (by decide), u2_o (by decide)]
  · rw [u2_o (by decide), u2_o (by decide), u2_o (by decide), u2_o (by decide), u2_s]
  · rw [u2_o (by decide), u2_o (by decide), u2_o (by decide), u2_s]
  · rw [u2_o (by decide), u2_o (by decide), u2_s]
  · rw [u2_o (by decide), u2_s]
theorem sp_add {told : List TE} {r dy v t : Int32} (hT : TC told I) (hl : told.length < 200) (hq : ∀ I', Fr [1, 2, 3, 4, 5] I I' → TC (told ++ [(r, dy, v, t)]) I' → P none I' J) : Ct G d m_LE_add [.ref 1, .int r, .int dy, .int v, .int t] P I J := by
  have hlt : I 1 4 < 200 := by rw [hT.2.1]; exact nI_lt (b := 200) hl (by omega)
  have e1 : (I 1 4).toNatClampNeg = told.length := by rw [hT.2.1]; exact nI_clamp (by omega)
  refine Ct.ofGo [some (.ref 1), some (.int r), some (.int dy), some (.int v), some (.int t)] (by decide +kernel) rfl (Nat.le_of_ble_eq_true rfl) (w_LE_add_0 (fun _ => ?_) (fun _ => ?_) (fun c => absurd hlt c))
  · rw [hT.2.1]; exact vp_in_nI hl (by omega)
  · rw [e1, hT.2.1]
    refine hq _ (fun a ha => ?_) (addM_TC hT hl)
    simp only [List.mem_cons, List.not_mem_nil, or_false, not_or] at ha
    rw [u2_o ha.1, u2_o ha.2.2.2.2, u2_o ha.2.2.2.1, u2_o ha.2.2.1, u2_o ha.2.1]
end
/-- told anew -/
def sTold (st : ST) (told : List TE) : ST := (told, st.2)
def bad4 (a b c e : Int32) : Prop := a = 0 ∨ b = 0 ∨ c = 0 ∨ e = 0
def tells (st : ST) (r dy v t : Int32) : Int32 × ST :=
  if f_LB_isRow r = 0 ∨ f_LB_isDay dy = 0 ∨ f_LB_isValue v = 0 ∨ f_LB_isWithin t (lastL st.1) 999 = 0 then (-2, st)
  else if 200 ≤ st.1.length then (-4, st) else (nI (st.1.length + 1), sTold st (st.1 ++ [(r, dy, v, t)]))
theorem lastL_le {told : List TE} (h : okT told) : ∀ e ∈ told, e.2.2.2 ≤ lastL told := by
  rcases List.eq_nil_or_concat told with rfl | ⟨l, x, rfl⟩
  · intro e he; simp at he
  · intro e he
    simp only [List.concat_eq_append] at he h ⊢
    have : lastL (l ++ [x]) = x.2.2.2 := by simp [lastL]
    rw [this]
    rcases List.mem_append.mp he with q | q
    · have := (List.pairwise_append.mp h.2).2.2 e q x (by simp)
      exact this
    · rw [List.mem_singleton.mp q]; exact Int32.le_refl _
theorem lastL_nn {told : List TE} (h : okT told) : 0 ≤ lastL told := by
  rcases List.eq_nil_or_concat told with rfl | ⟨l, x, rfl⟩
  · decide
  · simp only [List.concat_eq_append] at h ⊢
    have : lastL (l ++ [x]) = x.2.2.2 := by simp [lastL]
    rw [this]
    exact (h.1 x (by simp)).2.2.2.1
theorem okT_push {told : List TE} {r dy v t : Int32} (h : okT told) (h1 : ¬ f_LB_isRow r = 0) (h2 : ¬ f_LB_isDay dy = 0) (h3 : ¬ f_LB_isValue v = 0) (h4 : ¬ f_LB_isWithin t (lastL told) 999 = 0) : okT (told ++ [(r, dy, v, t)]) := by
  obtain ⟨q1, q2⟩ := isW1.mp h4
  refine ⟨fun e he => ?_, List.pairwise_append.mpr ⟨h.2, List.pairwise_singleton _ _, fun a ha b hb => ?_⟩⟩
  · rcases List.mem_append.mp he with q | q
    · exact h.1 e q
    · rw [List.mem_singleton.mp q]
      exact ⟨isRow1 h1, isDay1 h2, h3, Int32.le_trans (lastL_nn h) q1, q2⟩
  · rw [List.mem_singleton.mp hb]
    exact Int32.le_trans (lastL_le h a ha) q1
/-- other rows don't see it -/
theorem VC.other {told : List TE} {kn : Int32} {r r' : Nat} {dy v t : Int32} {I : MI} (h : VC told kn r' I) (hr : r < 4) (hr' : r' < 4) (hne : r ≠ r') : VC (told ++ [(nI r, dy, v, t)]) kn r' I := by
  have hn : ¬ nI r = nI r' := by rw [nI_eq (by omega) (by omega)]; exact hne
  have hv : ∀ dd, vwl (told ++ [(nI r, dy, v, t)]) (nI r') dd kn = vwl told (nI r') dd kn := fun dd => by rw [vwl_app, if_neg (fun q => hn q.1)]
  refine ⟨fun k hk => by rw [hv]; exact h.1 k hk, ?_⟩
  have e1 : pdd (told ++ [(nI r, dy, v, t)]) r' kn = pdd told r' kn := by simp only [pdd, hv]
  have e2 : pvv (told ++ [(nI r, dy, v, t)]) r' kn = pvv told r' kn := by simp only [pvv, e1, hv]
  rw [e1, e2]; exact h.2
/-- what a class's call may touch: nothing of the reference -/
def Hi (I : MI) (J : MJ) (I' : MI) (J' : MJ) : Prop := ∀ a, 67 ≤ a → I' a = I a ∧ J' a = J a
section
variable {G : GC} {d : Nat} {P : PT} {I : MI} {J : MJ}
theorem RC.told {st : ST} {told : List TE} {r : Nat} {I' : MI} (h : RC st I J) (hr : r < 4) (hT : TC told I') (h0 : I' 0 = I 0) (hV : VC told st.2.1 r I') (hO : ∀ r', r' < 4 → r ≠ r' → VC told st.2.1 r' I') (hF : ∀ a, 27 ≤ a → I' a = I a) : RC (sTold st told) I' J := by
  obtain ⟨h1, h2, h3, h4, h5, h6, h7, h8, h9⟩ := h
  refine ⟨hT, by rw [h0]; exact h2, fun r' hr' => ?_, fun q hq => by rw [hF 32 (by omega)]; exact h4 q hq, ⟨by rw [hF 53 (by omega)]; exact h5.1, fun k hk => by rw [hF 54 (by omega)]; exact h5.2 k hk⟩, by rw [h0]; exact h6, fun s hs => (h7 s hs).of (hF _ (by omega)) (hF _ (by omega)), h8, h9⟩
  by_cases q : r = r'
  · subst q; exact hV
  · exact hO r' hr' q
/-- tell -/
theorem cl_tell {st : ST} {r dy v t : Int32} (hR : RC st I J) (hS : okS st) (hq : ∀ I', Hi I J I' J → RC (tells st r dy v t).2 I' J → P (some (.int (tells st r dy v t).1)) I' J) : Ct G (d + 4) m_LB_tell [.ref 0, .int r, .int dy, .int v, .int t] P I J := by
  have hT := hR.1
  have hbad : (f_LB_isRow r = 0 ∨ f_LB_isDay dy = 0 ∨ f_LB_isValue v = 0 ∨ f_LB_isWithin t (lastL st.1) 999 = 0) → Go G (fr G m_LB_tell (d + 4) P) 30 [none, none, none, none, none] [] I J := fun hb => by
    refine w_LB_tell_30 ?_
    have e : tells st r dy v t = (-2, st) := by simp only [tells, if_pos hb]
    rw [e] at hq
    exact hq I (fun _ _ => ⟨rfl, rfl⟩) hR
  refine Ct.ofGo [some (.ref 0), some (.int r), some (.int dy), some (.int v), some (.int t)] (by decide +kernel) rfl (Nat.le_of_ble_eq_true rfl) ?_
  refine w_LB_tell_0 (fun c => hbad (Or.inl c)) (fun _ c => hbad (Or.inr (Or.inl c))) (fun _ _ c => hbad (Or.inr (Or.inr (Or.inl c)))) (fun c1 c2 c3 => ?_)
  refine sp_isNextTime hT ?_
  rw [lastT_L hT]
  have hlen : (I 1 4 < 200) ↔ st.1.length < 200 := by rw [hT.2.1]; exact nI_ltI (b := 200) (by have := hT.1; omega) (by omega)
  refine w_LB_tell_27 (fun c4 c5 => ?_) (fun c4 c5 => ?_) (fun c => hbad (Or.inr (Or.inr (Or.inr c))))
  · have hnb : ¬ (f_LB_isRow r = 0 ∨ f_LB_isDay dy = 0 ∨ f_LB_isValue v = 0 ∨ f_LB_isWithin t (lastL st.1) 999 = 0) := by
      rintro (h | h | h | h)
      · exact c1 h
      · exact c2 h
      · exact c3 h
      · exact c4 h
    have hl : st.1.length < 200 := hlen.mp c5
    have e : tells st r dy v t = (nI (st.1.length + 1), sTold st (st.1 ++ [(r, dy, v, t)])) := by simp only [tells, if_neg hnb, if_neg (show ¬ 200 ≤ st.1.length by omega)]
    rw [e] at hq
    obtain ⟨r, hr, rfl⟩ := isRow1 c1
    refine sp_add hT hl (fun I1 hF1 hT1 => w_LB_tell_61 ?_)
    have hok := okT_push hS.1 c1 c2 c3 c4
    refine sp_refresh hr hT1 hok (fun I2 hF2 hV => w_LB_tell_66 ?_)
    have h0 : I1 0 = I 0 := hF1 0 (by simp)
    have g0 : ∀ a, 27 ≤ a → I2 a = I a := fun a ha => by
      rw [hF2 a (by simp; omega), hF1 a (by simp; omega)]
    have hT2 : TC (st.1 ++ [(nI r, dy, v, t)]) I2 := hT1.of fun a h1 h2 => hF2 a (by simp; omega)
    have h4 : I2 1 4 = nI (st.1.length + 1) := by simpa using hT2.2.1
    rw [h4]
    rw [h0, hR.2.1] at hV
    refine hq I2 (fun a ha => ⟨g0 a (by omega), rfl⟩) (hR.told hr hT2 ?_ hV (fun r' hr' hne => ?_) g0)
    · rw [hF2 0 (by simp; omega), h0]
    · refine ((hR.2.2.1 r' hr').other hr hr' hne).of fun a h1 h2 => ?_
      rw [hF2 a (by simp; omega), hF1 a (by simp; omega)]
  · have hnb : ¬ (f_LB_isRow r = 0 ∨ f_LB_isDay dy = 0 ∨ f_LB_isValue v = 0 ∨ f_LB_isWithin t (lastL st.1) 999 = 0) := by
      rintro (h | h | h | h)
      · exact c1 h
      · exact c2 h
      · exact c3 h
      · exact c4 h
    have hl : 200 ≤ st.1.length := Nat.not_lt.mp fun q => c5 (hlen.mpr q)
    have e : tells st r dy v t = (-4, st) := by simp only [tells, if_neg hnb, if_pos hl]
    rw [e] at hq
    exact hq I (fun _ _ => ⟨rfl, rfl⟩) hR
end
