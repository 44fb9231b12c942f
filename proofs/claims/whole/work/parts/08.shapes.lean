/-! ===== shapes of the cells; weakening of locals; loads with their value named ===== -/
def PtsAt (o : Nat) : Prop := SHP[o]? = some (6, 5, [o + 3, o + 4, o + 5, o + 6, 0]) ∧ SHP[o + 1]? = some (20, 40, []) ∧ SHP[o + 2]? = some (20, 40, []) ∧ SHP[o + 3]? = some (20, 40, []) ∧ SHP[o + 4]? = some (20, 40, [])
def ShtAt (o : Nat) : Prop := SHP[o]? = some (7, 3, [o + 3, 0, 0]) ∧ SHP[o + 1]? = some (20, 60, [])
def SumAt (o : Nat) : Prop := o = 35 ∨ o = 38
def MesAt (o : Nat) : Prop := o = 35 ∨ o = 36 ∨ o = 38 ∨ o = 39
def mcl (k : Nat) : Nat := match k with
  | 0 => 35
  | 1 => 36
  | 2 => 38
  | _ => 39
theorem SumAt.sh {o : Nat} (h : SumAt o) : SHP[o]? = some (8, 7, [0, 1, 1, 1, 1, 1, 1]) := by rcases h with rfl | rfl <;> rfl
theorem pts_lt : ∀ k, k < 4 → PtsAt (7 + 5 * k) := by
  intro k hk
  match k, hk with
  | 0, _ => exact ⟨rfl, rfl, rfl, rfl, rfl⟩
  | 1, _ => exact ⟨rfl, rfl, rfl, rfl, rfl⟩
  | 2, _ => exact ⟨rfl, rfl, rfl, rfl, rfl⟩
  | 3, _ => exact ⟨rfl, rfl, rfl, rfl, rfl⟩
theorem pts_27 : PtsAt 27 := ⟨rfl, rfl, rfl, rfl, rfl⟩
theorem sht_lt : ∀ k, k < 4 → ShtAt (59 + 2 * k) := by
  intro k hk
  match k, hk with
  | 0, _ => exact ⟨rfl, rfl⟩
  | 1, _ => exact ⟨rfl, rfl⟩
  | 2, _ => exact ⟨rfl, rfl⟩
  | 3, _ => exact ⟨rfl, rfl⟩
theorem mes_at (k : Nat) : MesAt (mcl k) := by
  match k with
  | 0 => exact Or.inl rfl
  | 1 => exact Or.inr (Or.inl rfl)
  | 2 => exact Or.inr (Or.inr (Or.inl rfl))
  | _ + 3 => exact Or.inr (Or.inr (Or.inr rfl))
theorem vin_lt {i : Int32} {n : Nat} (h : vp_in i n) : i.toNatClampNeg < n := Nat.not_le.mp fun q => h (Or.inr q)
theorem pts_in {i : Int32} (h : vp_in i 4) : PtsAt (7 + 5 * i.toNatClampNeg) := pts_lt _ (vin_lt h)
theorem sht_in {i : Int32} (h : vp_in i 4) : ShtAt (59 + 2 * i.toNatClampNeg) := sht_lt _ (vin_lt h)
theorem now_at {k : Nat} (h : k < 4) : ([7, 12, 17, 22] : List Nat)[k]? = some (7 + 5 * k) := by
  match k, h with
  | 0, _ => rfl
  | 1, _ => rfl
  | 2, _ => rfl
  | 3, _ => rfl
theorem she_at {k : Nat} (h : k < 4) : ([59, 61, 63, 65] : List Nat)[k]? = some (59 + 2 * k) := by
  match k, h with
  | 0, _ => rfl
  | 1, _ => rfl
  | 2, _ => rfl
  | 3, _ => rfl
theorem mea_at {k : Nat} (h : k < 4) : ([35, 36, 38, 39] : List Nat)[k]? = some (mcl k) := by
  match k, h with
  | 0, _ => rfl
  | 1, _ => rfl
  | 2, _ => rfl
  | 3, _ => rfl
def lsub (A L : List (Option Value)) : Prop := match A, L with
  | [], _ => True
  | none :: t, [] => lsub t []
  | none :: t, _ :: u => lsub t u
  | some _ :: _, [] => False
  | some a :: t, b :: u => b = some a ∧ lsub t u
theorem lsub_get : ∀ (A L : List (Option Value)), lsub A L → ∀ (j : Nat) (v : Value), A[j]? = some (some v) → L[j]? = some (some v) := by
  intro A
  induction A with
  | nil => intro L _ j v h; simp at h
  | cons a t ih =>
    intro L h j v hj
    match a, L, j with
    | none, [], 0 => simp at hj
    | none, [], j + 1 => have := ih [] h j v (by simpa using hj); simp at this
    | none, b :: u, 0 => simp at hj
    | none, b :: u, j + 1 => have := ih u h j v (by simpa using hj); simpa using this
    | some x, [], _ => exact h.elim
    | some x, b :: u, 0 => simp at hj; subst hj; simp [h.1]
    | some x, b :: u, j + 1 => have := ih u h.2 j v (by simpa using hj); simpa using this
section
variable {G : GC} {F : FT} {pc pn : Nat} {L : List (Option Value)} {S : List Value} {I : MI} {J : MJ}
theorem g_weak (A : List (Option Value)) (h : lsub A L) (k : Go G F pc A S I J) : Go G F pc L S I J := by
  intro p e s m args below meth c H locs ls hf hl hP hS
  refine k p e s m args below meth c H locs ls hf (lv_mono hl ?_) hP hS
  rintro ⟨j, u⟩ hq
  obtain ⟨v, hv, rfl⟩ := mem_lcs.mp hq
  exact mem_lcs.mpr ⟨v, lsub_get A L h j v hv, rfl⟩
theorem g_ialdv {o n : Nat} {l : List Nat} {i v : Int32} (hsh : SHP[o]? = some (20, n, l)) (hin : vp_in i n) (hv : I o i.toNatClampNeg = v) (hd : decode F.1.2.1 pc = .ok (.iaload, 1)) (hp : pc + 1 = pn) (kk : Go G F pn L (.int v :: S) I J) : Go G F pc L (.int i :: .ref o :: S) I J := by
  subst hv; exact g_iald hsh hin hd hp kk
theorem g_zaldv {o n : Nat} {l : List Nat} {i v : Int32} (hsh : SHP[o]? = some (22, n, l)) (hin : vp_in i n) (hv : I o i.toNatClampNeg = v) (hd : decode F.1.2.1 pc = .ok (.baload, 1)) (hp : pc + 1 = pn) (kk : Go G F pn L (.int v :: S) I J) : Go G F pc L (.int i :: .ref o :: S) I J := by
  subst hv; exact g_zald hsh hin hd hp kk
theorem g_laldv {o n : Nat} {l : List Nat} {i : Int32} {v : Int64} (hsh : SHP[o]? = some (21, n, l)) (hin : vp_in i n) (hv : J o i.toNatClampNeg = v) (hd : decode F.1.2.1 pc = .ok (.laload, 1)) (hp : pc + 1 = pn) (kk : Go G F pn L (.long v :: S) I J) : Go G F pc L (.int i :: .ref o :: S) I J := by
  subst hv; exact g_lald hsh hin hd hp kk
/-- Measure's own field, in any of its kinds -/
theorem g_getM {o idx : Nat} {v : Int32} (ho : MesAt o) (hw : Cond.fieldLink F.1.1.cls idx "LevelBreaks$Measure" "size" "I" ∈ GW) (hv : I o 0 = v) (hd : decode F.1.2.1 pc = .ok (.getfield idx, 3)) (hp : pc + 3 = pn) (kk : Go G F pn L (.int v :: S) I J) : Go G F pc L (.ref o :: S) I J := by
  subst hv
  rcases ho with rfl | rfl | rfl | rfl
  · exact g_get (C := "LevelBreaks$Sums") (T := T_SU) (N := 7) (k := 0) (ci := 8) rfl (by decide) rfl rfl i_SU (by decide) hw (Or.inl rfl) rfl hd hp kk
  · exact g_get (C := "LevelBreaks$Middle") (T := T_MI) (N := 3) (k := 0) (ci := 4) rfl (by decide) rfl rfl i_MI (by decide) hw (Or.inl rfl) rfl hd hp kk
  · exact g_get (C := "LevelBreaks$Sums") (T := T_SU) (N := 7) (k := 0) (ci := 8) rfl (by decide) rfl rfl i_SU (by decide) hw (Or.inl rfl) rfl hd hp kk
  · exact g_get (C := "LevelBreaks$One") (T := T_ON) (N := 4) (k := 0) (ci := 5) rfl (by decide) rfl rfl i_ON (by decide) hw (Or.inl rfl) rfl hd hp kk
def mesM (o : Nat) (a b c : MT) : MT := if o = 36 then b else if o = 39 then c else a
theorem g_callM_above {d idx o : Nat} {As rest : List Value} (ho : MesAt o) (hl : Cond.methodLink F.1.1.cls idx ⟨"LevelBreaks$Measure", "above", "(LLevelBreaks$Points;II)J"⟩ ∈ GW) (hn : As.length = 3) (hS0 : S = As.reverse ++ .ref o :: rest) (hrm : (rest.map fun v => v.category).sum ≤ 8) (hd : decode F.1.2.1 pc = .ok (.invokevirtual idx, 3)) (hp : pc + 3 = pn) (hR : rOk F d) (hC : Ct G d (mesM o m_SU_above m_MI_above m_ON_above) (.ref o :: As) (fun r I' J' => Go G F pn L (r.toList ++ rest) I' J') I J) : Go G F pc L S I J := by
  rcases ho with rfl | rfl | rfl | rfl
  · exact g_callU (x := ⟨"LevelBreaks$Measure", "above", "(LLevelBreaks$Points;II)J"⟩) (M := m_SU_above) ok_SU_above (by decide +kernel) in_SU_above sv_SU_above sm_above (by decide +kernel) hl (ci := 8) rfl (by decide) rfl hn hS0 hrm hd hp hR hC
  · exact g_callU (x := ⟨"LevelBreaks$Measure", "above", "(LLevelBreaks$Points;II)J"⟩) (M := m_MI_above) ok_MI_above (by decide +kernel) in_MI_above sv_MI_above sm_above (by decide +kernel) hl (ci := 4) rfl (by decide) rfl hn hS0 hrm hd hp hR hC
  · exact g_callU (x := ⟨"LevelBreaks$Measure", "above", "(LLevelBreaks$Points;II)J"⟩) (M := m_SU_above) ok_SU_above (by decide +kernel) in_SU_above sv_SU_above sm_above (by decide +kernel) hl (ci := 8) rfl (by decide) rfl hn hS0 hrm hd hp hR hC
  · exact g_callU (x := ⟨"LevelBreaks$Measure", "above", "(LLevelBreaks$Points;II)J"⟩) (M := m_ON_above) ok_ON_above (by decide +kernel) in_ON_above sv_ON_above sm_above (by decide +kernel) hl (ci := 5) rfl (by decide) rfl hn hS0 hrm hd hp hR hC
theorem g_callM_below {d idx o : Nat} {As rest : List Value} (ho : MesAt o) (hl : Cond.methodLink F.1.1.cls idx ⟨"LevelBreaks$Measure", "below", "(I)I"⟩ ∈ GW) (hn : As.length = 1) (hS0 : S = As.reverse ++ .ref o :: rest) (hrm : (rest.map fun v => v.category).sum ≤ 8) (hd : decode F.1.2.1 pc = .ok (.invokevirtual idx, 3)) (hp : pc + 3 = pn) (hR : rOk F d) (hC : Ct G d (mesM o m_SU_below m_MI_below m_ON_below) (.ref o :: As) (fun r I' J' => Go G F pn L (r.toList ++ rest) I' J') I J) : Go G F pc L S I J := by
  rcases ho with rfl | rfl | rfl | rfl
  · exact g_callU (x := ⟨"LevelBreaks$Measure", "below", "(I)I"⟩) (M := m_SU_below) ok_SU_below (by decide +kernel) in_SU_below sv_SU_below sm_below (by decide +kernel) hl (ci := 8) rfl (by decide) rfl hn hS0 hrm hd hp hR hC
  · exact g_callU (x := ⟨"LevelBreaks$Measure", "below", "(I)I"⟩) (M := m_MI_below) ok_MI_below (by decide +kernel) in_MI_below sv_MI_below sm_below (by decide +kernel) hl (ci := 4) rfl (by decide) rfl hn hS0 hrm hd hp hR hC
  · exact g_callU (x := ⟨"LevelBreaks$Measure", "below", "(I)I"⟩) (M := m_SU_below) ok_SU_below (by decide +kernel) in_SU_below sv_SU_below sm_below (by decide +kernel) hl (ci := 8) rfl (by decide) rfl hn hS0 hrm hd hp hR hC
  · exact g_callU (x := ⟨"LevelBreaks$Measure", "below", "(I)I"⟩) (M := m_ON_below) ok_ON_below (by decide +kernel) in_ON_below sv_ON_below sm_below (by decide +kernel) hl (ci := 5) rfl (by decide) rfl hn hS0 hrm hd hp hR hC
theorem g_callM_extend {d idx o : Nat} {As rest : List Value} (ho : MesAt o) (hl : Cond.methodLink F.1.1.cls idx ⟨"LevelBreaks$Measure", "extend", "(LLevelBreaks$Points;I)V"⟩ ∈ GW) (hn : As.length = 2) (hS0 : S = As.reverse ++ .ref o :: rest) (hrm : (rest.map fun v => v.category).sum ≤ 8) (hd : decode F.1.2.1 pc = .ok (.invokevirtual idx, 3)) (hp : pc + 3 = pn) (hR : rOk F d) (hC : Ct G d (mesM o m_SU_extend m_MI_extend m_ON_extend) (.ref o :: As) (fun r I' J' => Go G F pn L (r.toList ++ rest) I' J') I J) : Go G F pc L S I J := by
  rcases ho with rfl | rfl | rfl | rfl
  · exact g_callU (x := ⟨"LevelBreaks$Measure", "extend", "(LLevelBreaks$Points;I)V"⟩) (M := m_SU_extend) ok_SU_extend (by decide +kernel) in_SU_extend sv_SU_extend sm_extend (by decide +kernel) hl (ci := 8) rfl (by decide) rfl hn hS0 hrm hd hp hR hC
  · exact g_callU (x := ⟨"LevelBreaks$Measure", "extend", "(LLevelBreaks$Points;I)V"⟩) (M := m_MI_extend) ok_MI_extend (by decide +kernel) in_MI_extend sv_MI_extend sm_extend (by decide +kernel) hl (ci := 4) rfl (by decide) rfl hn hS0 hrm hd hp hR hC
  · exact g_callU (x := ⟨"LevelBreaks$Measure", "extend", "(LLevelBreaks$Points;I)V"⟩) (M := m_SU_extend) ok_SU_extend (by decide +kernel) in_SU_extend sv_SU_extend sm_extend (by decide +kernel) hl (ci := 8) rfl (by decide) rfl hn hS0 hrm hd hp hR hC
  · exact g_callU (x := ⟨"LevelBreaks$Measure", "extend", "(LLevelBreaks$Points;I)V"⟩) (M := m_ON_extend) ok_ON_extend (by decide +kernel) in_ON_extend sv_ON_extend sm_extend (by decide +kernel) hl (ci := 5) rfl (by decide) rfl hn hS0 hrm hd hp hR hC
theorem g_callM_restart {d idx o : Nat} {As rest : List Value} (ho : MesAt o) (hl : Cond.methodLink F.1.1.cls idx ⟨"LevelBreaks$Measure", "restart", "()V"⟩ ∈ GW) (hn : As.length = 0) (hS0 : S = As.reverse ++ .ref o :: rest) (hrm : (rest.map fun v => v.category).sum ≤ 8) (hd : decode F.1.2.1 pc = .ok (.invokevirtual idx, 3)) (hp : pc + 3 = pn) (hR : rOk F d) (hC : Ct G d (mesM o m_SU_restart m_MI_restart m_ON_restart) (.ref o :: As) (fun r I' J' => Go G F pn L (r.toList ++ rest) I' J') I J) : Go G F pc L S I J := by
  rcases ho with rfl | rfl | rfl | rfl
  · exact g_callU (x := ⟨"LevelBreaks$Measure", "restart", "()V"⟩) (M := m_SU_restart) ok_SU_restart (by decide +kernel) in_SU_restart sv_SU_restart sm_restart (by decide +kernel) hl (ci := 8) rfl (by decide) rfl hn hS0 hrm hd hp hR hC
  · exact g_callU (x := ⟨"LevelBreaks$Measure", "restart", "()V"⟩) (M := m_MI_restart) ok_MI_restart (by decide +kernel) in_MI_restart sv_MI_restart sm_restart (by decide +kernel) hl (ci := 4) rfl (by decide) rfl hn hS0 hrm hd hp hR hC
  · exact g_callU (x := ⟨"LevelBreaks$Measure", "restart", "()V"⟩) (M := m_SU_restart) ok_SU_restart (by decide +kernel) in_SU_restart sv_SU_restart sm_restart (by decide +kernel) hl (ci := 8) rfl (by decide) rfl hn hS0 hrm hd hp hR hC
  · exact g_callU (x := ⟨"LevelBreaks$Measure", "restart", "()V"⟩) (M := m_ON_restart) ok_ON_restart (by decide +kernel) in_ON_restart sv_ON_restart sm_restart (by decide +kernel) hl (ci := 5) rfl (by decide) rfl hn hS0 hrm hd hp hR hC
end
