/-! ===== the class's and the reference's cells as one memory: ints I, longs J, by cell and place; the shapes SHP are fixed once both are made ===== -/
abbrev GC : Type := Launch × (Nat → ClassId) × (Nat → Nat → Nat) × (Nat → ClassId) × Nat × Nat
abbrev MI : Type := Nat → Nat → Int32
abbrev MJ : Type := Nat → Nat → Int64
abbrev gD (G : GC) : va_G := (G.2.1, G.2.2.1)
abbrev gB (G : GC) : Nat := G.2.2.2.2.1
def cv (G : GC) (v : Value) : Value := match v with
  | .ref a => .ref (gB G + a)
  | .null => .ref G.2.2.2.2.2
  | v => v
theorem cv_cat (G : GC) (v : Value) : (cv G v).category = v.category := by cases v <;> rfl
theorem cv_cats (G : GC) (S : List Value) : ((S.map (cv G)).map fun v => v.category).sum = (S.map fun v => v.category).sum := by
  simp only [List.map_map]; congr 1; exact List.map_congr_left fun v _ => cv_cat G v
def fvA (I : MI) (J : MJ) (o k : Nat) (c : Nat) : Value := match c with
  | 0 => .int (I o k)
  | 1 => .long (J o k)
  | r + 2 => .ref r
def cellOf (G : GC) (I : MI) (J : MJ) (o : Nat) (sh : Nat × Nat × List Nat) : va_E :=
  if sh.1 < 20 then .inr (sh.1, sh.2.2.mapIdx fun k c => cv G (fvA I J o k c))
  else if sh.1 = 20 then .inl (G.2.2.2.1 0, sh.2.1, .inl (I o))
  else if sh.1 = 21 then .inl (G.2.2.2.1 1, sh.2.1, .inr (.inl (J o)))
  else if sh.1 = 22 then .inl (G.2.2.2.1 2, sh.2.1, .inl (I o))
  else .inl (G.2.2.2.1 (sh.1 - 20), sh.2.1, .inr (.inr (.inr (.inr fun j => (sh.2.2[j]?).map fun r => gB G + r))))
def wld (G : GC) (I : MI) (J : MJ) : va_W := SHP.mapIdx fun o sh => (gB G + o, cellOf G I J o sh)
theorem wld_at {G : GC} {I : MI} {J : MJ} {o : Nat} {sh : Nat × Nat × List Nat} (h : SHP[o]? = some sh) : (wld G I J)[o]? = some (gB G + o, cellOf G I J o sh) := by
  simp [wld, h]
theorem wld_of {G : GC} {I : MI} {J : MJ} {o : Nat} {q : Nat × va_E} (h : (wld G I J)[o]? = some q) : q.1 = gB G + o := by
  simp only [wld, List.getElem?_mapIdx, Option.map_eq_some_iff] at h
  obtain ⟨a, -, rfl⟩ := h
  rfl
theorem wld_D (G : GC) (I : MI) (J : MJ) : va_D (fun q => gB G ≤ q) (wld G I J) := by
  refine ⟨fun i j p q hi hj h => ?_, fun k q h => ?_⟩
  · rw [wld_of hi, wld_of hj] at h; omega
  · show gB G ≤ q.1; rw [wld_of h]; omega
theorem cellOf_congr {G : GC} {I I' : MI} {J J' : MJ} {o : Nat} {sh : Nat × Nat × List Nat} (h1 : I o = I' o) (h2 : J o = J' o) : cellOf G I J o sh = cellOf G I' J' o sh := by
  have h : ∀ k c, fvA I J o k c = fvA I' J' o k c := fun k c => by
    match c with
    | 0 => simp only [fvA, h1]
    | 1 => simp only [fvA, h2]
    | _ + 2 => rfl
  simp only [cellOf, h1, h2, h]
theorem wld_set {G : GC} {I I' : MI} {J J' : MJ} {o : Nat} {sh : Nat × Nat × List Nat} {e : va_E} (h : SHP[o]? = some sh) (he : e = cellOf G I' J' o sh) (h1 : ∀ a, a ≠ o → I a = I' a) (h2 : ∀ a, a ≠ o → J a = J' a) : (wld G I J).set o (gB G + o, e) = wld G I' J' := by
  subst he
  apply List.ext_getElem?
  intro a
  by_cases ha : o = a
  · subst ha
    rw [List.getElem?_set_self (by have := (List.getElem?_eq_some_iff.mp h).1; simpa [wld] using this), wld_at h]
  · rw [List.getElem?_set_ne ha]
    simp only [wld, List.getElem?_mapIdx]
    cases hs : SHP[a]? with
    | none => rfl
    | some x => simp only [Option.map_some, cellOf_congr (G := G) (sh := x) (h1 a (Ne.symm ha)) (h2 a (Ne.symm ha))]
/-- one place of the memory anew -/
def u2 {α : Type} (F : Nat → Nat → α) (o k : Nat) (v : α) : Nat → Nat → α := fun o' => if o' = o then (fun k' => if k' = k then v else F o k') else F o'
theorem u2_o {α : Type} {F : Nat → Nat → α} {o k : Nat} {v : α} {o' : Nat} (h : o' ≠ o) : u2 F o k v o' = F o' := by simp [u2, h]
theorem u2_s {α : Type} {F : Nat → Nat → α} {o k : Nat} {v : α} : u2 F o k v o k = v := by simp [u2]
theorem u2_k {α : Type} {F : Nat → Nat → α} {o k : Nat} {v : α} {k' : Nat} (h : k' ≠ k) : u2 F o k v o k' = F o k' := by simp [u2, h]
theorem u2_at {α : Type} (F : Nat → Nat → α) (o k : Nat) (v : α) (k' : Nat) : u2 F o k v o k' = if k' = k then v else F o k' := by simp [u2]
/-- locals: by slot; a long has its second slot empty -/
def lcs (G : GC) (L : List (Option Value)) : List (Nat × Value) := L.zipIdx.filterMap fun q => q.1.map fun v => (q.2, cv G v)
theorem mem_lcs {G : GC} {L : List (Option Value)} {j : Nat} {u : Value} : (j, u) ∈ lcs G L ↔ ∃ v, L[j]? = some (some v) ∧ u = cv G v := by
  simp only [lcs, List.mem_filterMap, Option.map_eq_some_iff, Prod.mk.injEq, Prod.exists]
  constructor
  · rintro ⟨a, k, hm, v, rfl, rfl, rfl⟩
    exact ⟨v, List.mem_zipIdx_iff_getElem?.mp hm, rfl⟩
  · rintro ⟨v, h, rfl⟩
    exact ⟨some v, j, List.mem_zipIdx_iff_getElem?.mpr h, v, rfl, rfl, rfl⟩
def clr2 (a : Option Value) : Option Value := match a with
  | some (.long _) => none
  | some (.double _) => none
  | a => a
def sto1 (L : List (Option Value)) (i : Nat) (v : Value) : List (Option Value) := match L, i with
  | [], _ => []
  | _ :: t, 0 => some v :: t
  | a :: t, 1 => clr2 a :: sto1 t 0 v
  | a :: t, n + 2 => a :: sto1 t (n + 1) v
def sto2 (L : List (Option Value)) (i : Nat) (v : Value) : List (Option Value) := match L, i with
  | [], _ => []
  | [_], 0 => []
  | _ :: _ :: t, 0 => some v :: none :: t
  | a :: t, 1 => clr2 a :: sto2 t 0 v
  | a :: t, n + 2 => a :: sto2 t (n + 1) v
theorem sto1_get : ∀ (L : List (Option Value)) (i : Nat) (v : Value) (j : Nat) (u : Value), (sto1 L i v)[j]? = some (some u) → (j = i ∧ u = v) ∨ (j ≠ i ∧ L[j]? = some (some u) ∧ (j + 1 = i → u.category = 1)) := by
  intro L
  induction L with
  | nil => intro i v j u h; simp [sto1] at h
  | cons a t ih =>
    intro i v j u h
    match i, j with
    | 0, 0 => simp [sto1] at h; exact Or.inl ⟨rfl, h.symm⟩
    | 0, j + 1 => simp [sto1] at h; exact Or.inr ⟨by omega, by simpa using h, by omega⟩
    | 1, 0 =>
      simp only [sto1, List.getElem?_cons_zero, Option.some.injEq] at h
      right
      refine ⟨by omega, ?_⟩
      cases a with
      | none => simp [clr2] at h
      | some x => cases x <;> simp [clr2] at h <;> subst h <;> exact ⟨rfl, fun _ => rfl⟩
    | 1, j + 1 =>
      simp only [sto1, List.getElem?_cons_succ] at h
      rcases ih 0 v j u h with h1 | h1
      · exact Or.inl ⟨by omega, h1.2⟩
      · exact Or.inr ⟨by omega, by simpa using h1.2.1, by omega⟩
    | n + 2, 0 => simp [sto1] at h; subst h; exact Or.inr ⟨by omega, by simp, by omega⟩
    | n + 2, j + 1 =>
      simp only [sto1, List.getElem?_cons_succ] at h
      rcases ih (n + 1) v j u h with h1 | h1
      · exact Or.inl ⟨by omega, h1.2⟩
      · exact Or.inr ⟨by omega, by simpa using h1.2.1, fun q => h1.2.2 (by omega)⟩
theorem sto2_get : ∀ (L : List (Option Value)) (i : Nat) (v : Value) (j : Nat) (u : Value), (sto2 L i v)[j]? = some (some u) → (j = i ∧ u = v) ∨ (j ≠ i ∧ j ≠ i + 1 ∧ L[j]? = some (some u) ∧ (j + 1 = i → u.category = 1)) := by
  intro L
  induction L with
  | nil => intro i v j u h; simp [sto2] at h
  | cons a t ih =>
    intro i v j u h
    match i, j, t with
    | 0, j, [] => simp [sto2] at h
    | 0, 0, b :: t => simp [sto2] at h; exact Or.inl ⟨rfl, h.symm⟩
    | 0, 1, b :: t => simp [sto2] at h
    | 0, j + 2, b :: t => simp [sto2] at h; exact Or.inr ⟨by omega, by omega, by simpa using h, by omega⟩
    | 1, 0, t =>
      simp only [sto2, List.getElem?_cons_zero, Option.some.injEq] at h
      right
      refine ⟨by omega, by omega, ?_⟩
      cases a with
      | none => simp [clr2] at h
      | some x => cases x <;> simp [clr2] at h <;> subst h <;> exact ⟨rfl, fun _ => rfl⟩
    | 1, j + 1, t =>
      simp only [sto2, List.getElem?_cons_succ] at h
      rcases ih 0 v j u h with h1 | h1
      · exact Or.inl ⟨by omega, h1.2⟩
      · exact Or.inr ⟨by omega, by omega, by simpa using h1.2.2.1, by omega⟩
    | n + 2, 0, t => simp [sto2] at h; subst h; exact Or.inr ⟨by omega, by omega, by simp, by omega⟩
    | n + 2, j + 1, t =>
      simp only [sto2, List.getElem?_cons_succ] at h
      rcases ih (n + 1) v j u h with h1 | h1
      · exact Or.inl ⟨by omega, h1.2⟩
      · exact Or.inr ⟨by omega, by omega, by simpa using h1.2.2.1, fun q => h1.2.2.2 (by omega)⟩
theorem lv_mono {ls : Array Slot} {n : Nat} {l l' : List (Nat × Value)} (h : lv_has ls n l) (hs : ∀ q ∈ l', q ∈ l) : lv_has ls n l' := ⟨h.1, h.2.1, fun q hq => h.2.2 q (hs q hq)⟩
theorem lcs_sto1 {G : GC} {L : List (Option Value)} {i : Nat} {v : Value} : ∀ q ∈ lcs G (sto1 L i v), q ∈ (i, cv G v) :: (lcs G L).filter (fun q => !(q.1 == i) && !(q.1 + 1 == i && q.2.category == 2)) := by
  rintro ⟨j, w⟩ hq
  obtain ⟨u, hu, rfl⟩ := mem_lcs.mp hq
  rcases sto1_get L i v j u hu with ⟨rfl, rfl⟩ | ⟨h1, h2, h3⟩
  · exact List.mem_cons_self
  · refine List.mem_cons_of_mem _ (List.mem_filter.mpr ⟨mem_lcs.mpr ⟨u, h2, rfl⟩, ?_⟩)
    simp only [cv_cat, Bool.and_eq_true, Bool.not_eq_true', beq_eq_false_iff_ne, ne_eq, Bool.and_eq_false_iff]
    refine ⟨h1, ?_⟩
    by_cases q : j + 1 = i
    · right; rw [h3 q]; decide
    · left; exact q
theorem lcs_sto2 {G : GC} {L : List (Option Value)} {i : Nat} {v : Value} : ∀ q ∈ lcs G (sto2 L i v), q ∈ (i, cv G v) :: (lcs G L).filter (fun q => !(q.1 == i) && (!(q.1 == i + 1) && !(q.1 + 1 == i && q.2.category == 2))) := by
  rintro ⟨j, w⟩ hq
  obtain ⟨u, hu, rfl⟩ := mem_lcs.mp hq
  rcases sto2_get L i v j u hu with ⟨rfl, rfl⟩ | ⟨h1, h4, h2, h3⟩
  · exact List.mem_cons_self
  · refine List.mem_cons_of_mem _ (List.mem_filter.mpr ⟨mem_lcs.mpr ⟨u, h2, rfl⟩, ?_⟩)
    simp only [cv_cat, Bool.and_eq_true, Bool.not_eq_true', beq_eq_false_iff_ne, ne_eq, Bool.and_eq_false_iff]
    refine ⟨h1, h4, ?_⟩
    by_cases q : j + 1 = i
    · right; rw [h3 q]; decide
    · left; exact q
abbrev tyl (G : GC) : List (ClassId × FieldType) := [(G.2.2.2.1 0, .int), (G.2.2.2.1 1, .long), (G.2.2.2.1 2, .boolean), (G.2.2.2.1 3, .object "LevelBreaks$Measure"), (G.2.2.2.1 4, .object "LevelBreaks$Points"), (G.2.2.2.1 5, .object "LevelBreaks$Sheet")]
def nwOk (U : State) : Prop := ∀ w ∈ NWL, va_Nw w U
theorem nwl_tab : ∀ w ∈ NWL, w.onTables = true := by decide +kernel
theorem nwOk_same {u U : State} (h : u.vm = U.vm) (hz : nwOk u) : nwOk U := fun w hw => va_Nw.same (nwl_tab w hw) h (hz w hw)
def nwKind (w : Cond) : Prop := (∃ x, w = .declares x) ∨ ∃ a i x h, w = .methodLinkNest a i x h
theorem nwl_kind : ∀ w ∈ NWL, nwKind w := by
  intro w hw
  simp only [NWL, List.mem_cons, List.not_mem_nil, or_false] at hw
  rcases hw with h | h | h | h | h | h | h | h | h | h | h | h | h | h | h <;> subst h <;> first | exact Or.inl ⟨_, rfl⟩ | exact Or.inr ⟨_, _, _, _, rfl⟩
theorem nwOk_warm {s U : State} (hW : s.WarmedH U.vm) (hz : nwOk s) : nwOk U := by
  intro w hw
  have h0 := hz w hw
  rcases nwl_kind w hw with ⟨x, rfl⟩ | ⟨a, i, x, h, rfl⟩
  · exact va_Nw.warmD hW h0
  · exact va_Nw.warmM hW h0
/-- a frame: the method, its room, the cells and slots made so far, what is known of its start, what its end must be -/
abbrev FT : Type := MT × Room × (Nat × Nat) × (State → Prop) × (List Frame → Array Value → State → State → Prop)
def FX (G : GC) (F : FT) (p : Program) (s : State) (m : MethodId) (args : Array Value) (meth : Method) (c : Code) : Prop :=
  p.tables.exec = Jvm.exec ∧ c.code = F.1.2.1 ∧ meth.sig.returnType = F.1.2.2.2 ∧ meth.locks = false ∧ c.maxLocals = F.1.2.2.1 ∧ s.vm.findClass F.1.1.cls = some m.cls ∧ (∀ w ∈ GW, w.before args s = true) ∧ nwOk s ∧ va_K (gD G) clz (tyl G) s ∧ F.2.2.2.1 s
/-- from here, with these locals, this stack and this memory, the method comes to an end as its frame wants it -/
def Go (G : GC) (F : FT) (pc : Nat) (L : List (Option Value)) (S : List Value) (I : MI) (J : MJ) : Prop :=
  ∀ (p : Program) (e : Env) (s : State) (m : MethodId) (args : Array Value) (below : List Frame) (meth : Method) (c : Code) (H : Heap) (locs : List Loc) (ls : Array Slot),
    FX G F p s m args meth c → lv_has ls F.1.2.2.1 (lcs G L) → va_P (gD G) clz (wld G I J) H → va_S (fun q => gB G ≤ q) s.heap H locs →
    W p G.1 e F.2.1 s m args below meth c H locs F.2.2.1.1 F.2.2.1.2 (F.2.2.2.2 below args s) (F0 m pc ls (S.map (cv G)))
abbrev rmd (d : Nat) : Room := { frames := d, cells := 0, slots := 0, locals := 60 * d }
abbrev PT : Type := Option Value → MI → MJ → Prop
def Qm (G : GC) (P : PT) : Array Value → State → Outcome → State → Prop := fun _ st oc t =>
  (∃ (r : Option Value) (I : MI) (J : MJ), oc = .returned (r.map (cv G)) ∧ P r I J ∧ va_P (gD G) clz (wld G I J) t.heap) ∧ va_F (fun q => gB G ≤ q) st t
abbrev fr (G : GC) (M : MT) (d : Nat) (P : PT) : FT := (M, rmd d, (0, 0), fun _ => True, fun below args s => MQ below (Qm G P) args s 0 0 fun q => gB G ≤ q)
/-- a call of M with these arguments in this memory returns, and P holds of its answer and the memory then; d frames are left for it -/
def Ct (G : GC) (d : Nat) (M : MT) (As : List Value) (P : PT) (I : MI) (J : MJ) : Prop :=
  Met G.1 M.1 (Cond.code M.1 M.2.1 M.2.2.1 M.2.2.2 :: GW) (rmd d) (va_Pc (As.map (cv G)) fun U => va_P (gD G) clz (wld G I J) U.heap ∧ va_K (gD G) clz (tyl G) U ∧ nwOk U) (Qm G P) 0 0 fun q => gB G ≤ q
theorem ct_pre {G : GC} {I : MI} {J : MJ} {vs : List Value} : FrameBlind (va_Pc vs fun U => va_P (gD G) clz (wld G I J) U.heap ∧ va_K (gD G) clz (tyl G) U ∧ nwOk U) := fun a U g mk q => by
  obtain ⟨q0, qP, qK, qN⟩ := q
  exact ⟨q0, qP, va_K.moved (u := U) (U := U.calling g mk a) (Vm.Alike.refl U.vm) qK, nwOk_same (u := U) rfl qN⟩
theorem met_ofWF {l : Launch} {y : MethodName} {ws ws' : List Cond} {rm : Room} {Pc : Array Value → State → Prop} {Qc : Array Value → State → Outcome → State → Prop} {mc ms : Nat} {free : Addr → Prop} {cc : ByteArray} {maxL : Nat} {ret : Option FieldType}
    (hy : plainFor y = true) (hw : ws = Cond.code y cc maxL ret :: ws')
    (body : ∀ p e s m args below meth c s₁, BodyLoose p l y (headSpec ws rm) cc maxL ret e s m args below meth c s₁ → c.maxLocals = maxL → Pc args s →
      W p l e (headSpec ws rm).room s m args below meth c s.heap [] 0 0 (MQ below Qc args s mc ms free) (entryFrame m args maxL)) : Met l y ws rm Pc Qc mc ms free := by
  refine MetFree.of_bodySF (code := cc) (maxLocals := maxL) (ret := ret) hy ?_ ?_
  · intro args s m h hn
    obtain ⟨meth, c, h1, h2, h3, h4, h5, h6, -, -⟩ := Cond.code_spec hn (atoms_spec (ws := ws) h _ (by rw [hw]; exact List.mem_cons_self))
    exact ⟨meth, c, h1, h2, h3, h4, h5, h6⟩
  · intro p e s m args below meth c s₁ B hml hP _
    have hh0 : s₁.heap = s.heap := by rw [B.state]; rfl
    obtain ⟨t, a1, o, b1, b2, b3⟩ := body p e s m args below meth c s₁ B hml hP s₁ hh0 (Stand.of_body B)
    exact ⟨t, o, a1, b1, b2, ⟨b3.1, b3.2⟩⟩
theorem Ct.ofGo {G : GC} {d : Nat} {M : MT} {As : List Value} {P : PT} {I : MI} {J : MJ} (L : List (Option Value)) (hy : plainFor M.1 = true) (hE : lcs G L = lv_args 0 (As.map (cv G))) (hn : (lg_sl (As.map (cv G))).length ≤ M.2.2.1) (h : Go G (fr G M d P) 0 L [] I J) : Ct G d M As P I J := by
  refine met_ofWF (cc := M.2.1) (maxL := M.2.2.1) (ret := M.2.2.2) hy rfl ?_
  intro p e s m args below meth c s₁ B hml hv
  obtain ⟨rfl, hP, hK, hN⟩ := hv
  have hts := atoms_spec (ws := Cond.code M.1 M.2.1 M.2.2.1 M.2.2.2 :: GW) B.pre
  have hl := lv_entry (As.map (cv G)) (n := M.2.2.1) hn
  rw [lg_entry_eq]
  rw [← hE] at hl
  exact h p e s m _ below meth c s.heap [] _ ⟨B.exec, B.bytes, B.returns, B.notSynchronized, hml, findClass_of_methodNamed B.named, fun w hw => hts w (List.mem_cons_of_mem _ hw), hN, hK, trivial⟩ hl hP va_S.rf
