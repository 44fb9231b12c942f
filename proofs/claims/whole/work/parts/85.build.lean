/-! ===== building: the cells made so far, in their order, from the base gB G on ===== -/
def wq (B : Nat) (Y : List va_E) : va_W := Y.mapIdx fun o e => (B + o, e)
theorem wq_at {B : Nat} {Y : List va_E} {o : Nat} {e : va_E} (h : Y[o]? = some e) : (wq B Y)[o]? = some (B + o, e) := by simp [wq, h]
theorem wq_of {B : Nat} {Y : List va_E} {o : Nat} {q : Nat × va_E} (h : (wq B Y)[o]? = some q) : q.1 = B + o ∧ Y[o]? = some q.2 := by
  simp only [wq, List.getElem?_mapIdx, Option.map_eq_some_iff] at h
  obtain ⟨a, h1, rfl⟩ := h
  exact ⟨rfl, h1⟩
theorem wq_D (B : Nat) (Y : List va_E) : va_D (fun q => B ≤ q) (wq B Y) := by
  refine ⟨fun i j p q hi hj h => ?_, fun k q h => ?_⟩
  · rw [(wq_of hi).1, (wq_of hj).1] at h; omega
  · show B ≤ q.1; rw [(wq_of h).1]; omega
theorem wq_set {B : Nat} {Y : List va_E} {o : Nat} {e : va_E} : (wq B Y).set o (B + o, e) = wq B (Y.set o e) := by
  apply List.ext_getElem?
  intro a
  simp only [wq, List.getElem?_set, List.getElem?_mapIdx, List.length_mapIdx]
  by_cases ha : o = a
  · subst ha
    by_cases hl : o < Y.length <;> simp [hl]
  · simp [ha]
theorem wq_app {B : Nat} {Y : List va_E} {e : va_E} : wq B Y ++ [(B + Y.length, e)] = wq B (Y ++ [e]) := by
  simp [wq, List.mapIdx_append]
theorem wq_cat {B : Nat} {Y Z : List va_E} : wq B (Y ++ Z) = wq B Y ++ wq (B + Y.length) Z := by
  simp only [wq, List.mapIdx_append]
  congr 1
  apply List.ext_getElem?
  intro a
  simp only [List.getElem?_mapIdx]
  cases Z[a]? with
  | none => rfl
  | some z => simp only [Option.map_some]; congr 2; omega
def exOk (U : State) : Prop := va_AO "LevelBreaks$Measure" U ∧ va_AO "LevelBreaks$Points" U ∧ va_AO "LevelBreaks$Sheet" U ∧ va_Nw (.castable "LevelBreaks$Sums" "LevelBreaks$Measure") U ∧ va_Nw (.castable "LevelBreaks$Middle" "LevelBreaks$Measure") U ∧ va_Nw (.castable "LevelBreaks$One" "LevelBreaks$Measure") U
theorem exOk_warm {s U : State} (hW : s.WarmedH U.vm) (h : exOk s) : exOk U := ⟨va_AO.moved hW.alike h.1, va_AO.moved hW.alike h.2.1, va_AO.moved hW.alike h.2.2.1, va_Nw.warmC hW h.2.2.2.1, va_Nw.warmC hW h.2.2.2.2.1, va_Nw.warmC hW h.2.2.2.2.2⟩
theorem exOk_same {u U : State} (h : u.vm = U.vm) (hz : exOk u) : exOk U := ⟨va_AO.moved (h ▸ Vm.Alike.refl _) hz.1, va_AO.moved (h ▸ Vm.Alike.refl _) hz.2.1, va_AO.moved (h ▸ Vm.Alike.refl _) hz.2.2.1, va_Nw.same rfl h hz.2.2.2.1, va_Nw.same rfl h hz.2.2.2.2.1, va_Nw.same rfl h hz.2.2.2.2.2⟩
/-- a building frame: F.2.2.1 is what it may make in all; c and k are what it still may -/
abbrev BX (G : GC) (F : FT) (L : List (Option Value)) (Y : List va_E) (c k : Nat) (p : Program) (s : State) (m : MethodId) (args : Array Value) (meth : Method) (cd : Code) (H : Heap) (locs : List Loc) (ls : Array Slot) (cells slots : Nat) : Prop :=
  (FX G F p s m args meth cd) ∧ (exOk s) ∧ (F.1.1.name = "<init>" → meth.name = "<init>") ∧ (lv_has ls F.1.2.2.1 (lcs G L)) ∧ (va_P (gD G) clz (wq (gB G) Y) H) ∧ (H.size = gB G + Y.length) ∧ (va_S (fun q => gB G ≤ q) s.heap H locs) ∧ (gB G ≤ s.heap.size) ∧ (cells + c ≤ F.2.2.1.1) ∧ (slots + k ≤ F.2.2.1.2) ∧ (F.2.2.1.1 ≤ F.2.1.cells) ∧ (F.2.2.1.2 ≤ F.2.1.slots)
theorem BX.fx {G : GC} {F : FT} {L : List (Option Value)} {Y : List va_E} {c k : Nat} {p : Program} {s : State} {m : MethodId} {args : Array Value} {meth : Method} {cd : Code} {H : Heap} {locs : List Loc} {ls : Array Slot} {cells slots : Nat} (h : BX G F L Y c k p s m args meth cd H locs ls cells slots) : FX G F p s m args meth cd := h.1
theorem BX.ex {G : GC} {F : FT} {L : List (Option Value)} {Y : List va_E} {c k : Nat} {p : Program} {s : State} {m : MethodId} {args : Array Value} {meth : Method} {cd : Code} {H : Heap} {locs : List Loc} {ls : Array Slot} {cells slots : Nat} (h : BX G F L Y c k p s m args meth cd H locs ls cells slots) : exOk s := h.2.1
theorem BX.nm {G : GC} {F : FT} {L : List (Option Value)} {Y : List va_E} {c k : Nat} {p : Program} {s : State} {m : MethodId} {args : Array Value} {meth : Method} {cd : Code} {H : Heap} {locs : List Loc} {ls : Array Slot} {cells slots : Nat} (h : BX G F L Y c k p s m args meth cd H locs ls cells slots) : F.1.1.name = "<init>" → meth.name = "<init>" := h.2.2.1
theorem BX.lv {G : GC} {F : FT} {L : List (Option Value)} {Y : List va_E} {c k : Nat} {p : Program} {s : State} {m : MethodId} {args : Array Value} {meth : Method} {cd : Code} {H : Heap} {locs : List Loc} {ls : Array Slot} {cells slots : Nat} (h : BX G F L Y c k p s m args meth cd H locs ls cells slots) : lv_has ls F.1.2.2.1 (lcs G L) := h.2.2.2.1
theorem BX.pp {G : GC} {F : FT} {L : List (Option Value)} {Y : List va_E} {c k : Nat} {p : Program} {s : State} {m : MethodId} {args : Array Value} {meth : Method} {cd : Code} {H : Heap} {locs : List Loc} {ls : Array Slot} {cells slots : Nat} (h : BX G F L Y c k p s m args meth cd H locs ls cells slots) : va_P (gD G) clz (wq (gB G) Y) H := h.2.2.2.2.1
theorem BX.sz {G : GC} {F : FT} {L : List (Option Value)} {Y : List va_E} {c k : Nat} {p : Program} {s : State} {m : MethodId} {args : Array Value} {meth : Method} {cd : Code} {H : Heap} {locs : List Loc} {ls : Array Slot} {cells slots : Nat} (h : BX G F L Y c k p s m args meth cd H locs ls cells slots) : H.size = gB G + Y.length := h.2.2.2.2.2.1
theorem BX.ss {G : GC} {F : FT} {L : List (Option Value)} {Y : List va_E} {c k : Nat} {p : Program} {s : State} {m : MethodId} {args : Array Value} {meth : Method} {cd : Code} {H : Heap} {locs : List Loc} {ls : Array Slot} {cells slots : Nat} (h : BX G F L Y c k p s m args meth cd H locs ls cells slots) : va_S (fun q => gB G ≤ q) s.heap H locs := h.2.2.2.2.2.2.1
theorem BX.bs {G : GC} {F : FT} {L : List (Option Value)} {Y : List va_E} {c k : Nat} {p : Program} {s : State} {m : MethodId} {args : Array Value} {meth : Method} {cd : Code} {H : Heap} {locs : List Loc} {ls : Array Slot} {cells slots : Nat} (h : BX G F L Y c k p s m args meth cd H locs ls cells slots) : gB G ≤ s.heap.size := h.2.2.2.2.2.2.2.1
theorem BX.cc {G : GC} {F : FT} {L : List (Option Value)} {Y : List va_E} {c k : Nat} {p : Program} {s : State} {m : MethodId} {args : Array Value} {meth : Method} {cd : Code} {H : Heap} {locs : List Loc} {ls : Array Slot} {cells slots : Nat} (h : BX G F L Y c k p s m args meth cd H locs ls cells slots) : cells + c ≤ F.2.2.1.1 := h.2.2.2.2.2.2.2.2.1
theorem BX.ks {G : GC} {F : FT} {L : List (Option Value)} {Y : List va_E} {c k : Nat} {p : Program} {s : State} {m : MethodId} {args : Array Value} {meth : Method} {cd : Code} {H : Heap} {locs : List Loc} {ls : Array Slot} {cells slots : Nat} (h : BX G F L Y c k p s m args meth cd H locs ls cells slots) : slots + k ≤ F.2.2.1.2 := h.2.2.2.2.2.2.2.2.2.1
theorem BX.rc {G : GC} {F : FT} {L : List (Option Value)} {Y : List va_E} {c k : Nat} {p : Program} {s : State} {m : MethodId} {args : Array Value} {meth : Method} {cd : Code} {H : Heap} {locs : List Loc} {ls : Array Slot} {cells slots : Nat} (h : BX G F L Y c k p s m args meth cd H locs ls cells slots) : F.2.2.1.1 ≤ F.2.1.cells := h.2.2.2.2.2.2.2.2.2.2.1
theorem BX.rs {G : GC} {F : FT} {L : List (Option Value)} {Y : List va_E} {c k : Nat} {p : Program} {s : State} {m : MethodId} {args : Array Value} {meth : Method} {cd : Code} {H : Heap} {locs : List Loc} {ls : Array Slot} {cells slots : Nat} (h : BX G F L Y c k p s m args meth cd H locs ls cells slots) : F.2.2.1.2 ≤ F.2.1.slots := h.2.2.2.2.2.2.2.2.2.2.2
def GoB (G : GC) (F : FT) (pc : Nat) (L : List (Option Value)) (S : List Value) (Y : List va_E) (c k : Nat) : Prop :=
  ∀ (p : Program) (e : Env) (s : State) (m : MethodId) (args : Array Value) (below : List Frame) (meth : Method) (cd : Code) (H : Heap) (locs : List Loc) (ls : Array Slot) (cells slots : Nat),
    BX G F L Y c k p s m args meth cd H locs ls cells slots →
    W p G.1 e F.2.1 s m args below meth cd H locs cells slots (F.2.2.2.2 below args s) (F0 m pc ls (S.map (cv G)))
section
variable {G : GC} {F : FT} {pc pn : Nat} {L L' : List (Option Value)} {S : List Value} {Y : List va_E} {c k : Nat}
theorem BX.fsz {p : Program} {s : State} {m : MethodId} {args : Array Value} {meth : Method} {cd : Code} {H : Heap} {locs : List Loc} {ls : Array Slot} {cells slots : Nat} (h : BX G F L Y c k p s m args meth cd H locs ls cells slots) : ∀ q, s.heap.size ≤ q → gB G ≤ q := fun _ hq => Nat.le_trans h.bs hq
theorem b_iconst {n : Int} {v : Int32} (hd : decode F.1.2.1 pc = .ok (.iconst n, 1)) (hp : pc + 1 = pn) (hv : Int32.ofInt n = v) (kk : GoB G F pn L (.int v :: S) Y c k) : GoB G F pc L S Y c k := by
  subst hp
  exact fun p e s m args below meth cd H locs ls cells slots hx => lv_iconst hx.fx.1 hx.fx.2.1 hd hv (kk p e s m args below meth cd H locs ls cells slots hx)
theorem b_bipush {n : Int} {v : Int32} (hd : decode F.1.2.1 pc = .ok (.bipush n, 2)) (hp : pc + 2 = pn) (hv : (Int8.ofInt n).toInt32 = v) (kk : GoB G F pn L (.int v :: S) Y c k) : GoB G F pc L S Y c k := by
  subst hp
  exact fun p e s m args below meth cd H locs ls cells slots hx => lv_bipush hx.fx.1 hx.fx.2.1 hd hv (kk p e s m args below meth cd H locs ls cells slots hx)
theorem b_sipush {n : Int} {v : Int32} (hd : decode F.1.2.1 pc = .ok (.sipush n, 3)) (hp : pc + 3 = pn) (hv : (Int16.ofInt n).toInt32 = v) (kk : GoB G F pn L (.int v :: S) Y c k) : GoB G F pc L S Y c k := by
  subst hp
  exact fun p e s m args below meth cd H locs ls cells slots hx => lv_sipush hx.fx.1 hx.fx.2.1 hd hv (kk p e s m args below meth cd H locs ls cells slots hx)
theorem b_iload_n {q : Fin 4} {i : Nat} {x : Int32} (hd : decode F.1.2.1 pc = .ok (.iload_n q, 1)) (hp : pc + 1 = pn) (hi : (q : Nat) = i) (h : L[i]? = some (some (.int x))) (kk : GoB G F pn L (.int x :: S) Y c k) : GoB G F pc L S Y c k := by
  subst hp
  exact fun p e s m args below meth cd H locs ls cells slots hx => lv_iload_n hx.fx.1 hx.fx.2.1 hd hi (lv_gt hx.lv h) (kk p e s m args below meth cd H locs ls cells slots hx)
theorem b_aload_n {q : Fin 4} {i : Nat} {x : Nat} (hd : decode F.1.2.1 pc = .ok (.aload_n q, 1)) (hp : pc + 1 = pn) (hi : (q : Nat) = i) (h : L[i]? = some (some (.ref x))) (kk : GoB G F pn L (.ref x :: S) Y c k) : GoB G F pc L S Y c k := by
  subst hp
  exact fun p e s m args below meth cd H locs ls cells slots hx => lv_aload_n hx.fx.1 hx.fx.2.1 hd hi (lv_gt hx.lv h) (kk p e s m args below meth cd H locs ls cells slots hx)
theorem b_istore_n {q : Fin 4} {i : Nat} {x : Int32} (hd : decode F.1.2.1 pc = .ok (.istore_n q, 1)) (hp : pc + 1 = pn) (hi : (q : Nat) = i) (hn : i < F.1.2.2.1) (hs : sto1 L i (.int x) = L') (kk : GoB G F pn L' S Y c k) : GoB G F pc L (.int x :: S) Y c k := by
  subst hp; subst hs
  exact fun p e s m args below meth cd H locs ls cells slots hx => lv_istore_n hx.fx.1 hx.fx.2.1 hd hi hx.lv hn rfl (fun ls' hl' => kk p e s m args below meth cd H locs ls' cells slots ⟨hx.fx, hx.ex, hx.nm, lv_mono hl' lcs_sto1, hx.pp, hx.sz, hx.ss, hx.bs, hx.cc, hx.ks, hx.rc, hx.rs⟩)
theorem b_astore_n {q : Fin 4} {i : Nat} {x : Nat} (hd : decode F.1.2.1 pc = .ok (.astore_n q, 1)) (hp : pc + 1 = pn) (hi : (q : Nat) = i) (hn : i < F.1.2.2.1) (hs : sto1 L i (.ref x) = L') (kk : GoB G F pn L' S Y c k) : GoB G F pc L (.ref x :: S) Y c k := by
  subst hp; subst hs
  exact fun p e s m args below meth cd H locs ls cells slots hx => lv_astore_n hx.fx.1 hx.fx.2.1 hd hi hx.lv hn rfl (fun ls' hl' => kk p e s m args below meth cd H locs ls' cells slots ⟨hx.fx, hx.ex, hx.nm, lv_mono hl' (lcs_sto1 (v := .ref x)), hx.pp, hx.sz, hx.ss, hx.bs, hx.cc, hx.ks, hx.rc, hx.rs⟩)
theorem b_iinc {i : Nat} {n : Int} {x v : Int32} (hd : decode F.1.2.1 pc = .ok (.iinc i n, 3)) (hp : pc + 3 = pn) (h : L[i]? = some (some (.int x))) (hv : x + Int32.ofInt n = v) (hn : i < F.1.2.2.1) (hs : sto1 L i (.int v) = L') (kk : GoB G F pn L' S Y c k) : GoB G F pc L S Y c k := by
  subst hp; subst hs
  intro p e s m args below meth cd H locs ls cells slots hx
  obtain ⟨j, hj⟩ := List.getElem?_of_mem ((mem_lcs (G := G)).mpr ⟨_, h, rfl⟩)
  exact lv_iinc hx.fx.1 hx.fx.2.1 hd hx.lv hj hv hn rfl (fun ls' hl' => kk p e s m args below meth cd H locs ls' cells slots ⟨hx.fx, hx.ex, hx.nm, lv_mono hl' lcs_sto1, hx.pp, hx.sz, hx.ss, hx.bs, hx.cc, hx.ks, hx.rc, hx.rs⟩)
theorem b_i2l {x : Int32} (hd : decode F.1.2.1 pc = .ok (.i2l, 1)) (hp : pc + 1 = pn) (kk : GoB G F pn L (.long x.toInt64 :: S) Y c k) : GoB G F pc L (.int x :: S) Y c k := by
  subst hp
  exact fun p e s m args below meth cd H locs ls cells slots hx => lv_i2l hx.fx.1 hx.fx.2.1 hd rfl (kk p e s m args below meth cd H locs ls cells slots hx)
theorem b_dup {v : Value} (hd : decode F.1.2.1 pc = .ok (.dup, 1)) (hp : pc + 1 = pn) (hc : v.category = 1) (kk : GoB G F pn L (v :: v :: S) Y c k) : GoB G F pc L (v :: S) Y c k := by
  subst hp
  exact fun p e s m args below meth cd H locs ls cells slots hx => lv_dup hx.fx.1 hx.fx.2.1 hd (by rw [cv_cat]; exact hc) (kk p e s m args below meth cd H locs ls cells slots hx)
theorem b_goto {off : Int} {tgt : Nat} (hd : decode F.1.2.1 pc = .ok (.goto off, 3)) (ht : (pc : Int) + off = (tgt : Int)) (kk : GoB G F tgt L S Y c k) : GoB G F pc L S Y c k :=
  fun p e s m args below meth cd H locs ls cells slots hx => lv_goto hx.fx.1 hx.fx.2.1 hd ht (kk p e s m args below meth cd H locs ls cells slots hx)
theorem b_ic_ge {x y : Int32} {off : Int} {tgt : Nat} (hd : decode F.1.2.1 pc = .ok (.if_icmp .ge off, 3)) (hp : pc + 3 = pn) (ht : (pc : Int) + off = (tgt : Int)) (kt : y ≤ x → GoB G F tgt L S Y c k) (kf : ¬ (y ≤ x) → GoB G F pn L S Y c k) : GoB G F pc L (.int y :: .int x :: S) Y c k := by
  subst hp
  exact fun p e s m args below meth cd H locs ls cells slots hx => lv_icmp_ge hx.fx.1 hx.fx.2.1 hd ht (fun h => kt h p e s m args below meth cd H locs ls cells slots hx) (fun h => kf h p e s m args below meth cd H locs ls cells slots hx)
theorem b_new {idx N ci : Nat} {C : String} {T : u_T} {ty : Nat → FieldType} {fs : List Value} {n : Nat} (hcl : Cond.classLink F.1.1.cls idx C ∈ GW) (hinst : Cond.instantiable C N ∈ GW) (hini : Cond.initialized C ∈ GW) (hin : ∀ w ∈ u_ws C T N, w ∈ GW) (hty : ∀ k, k < N → parseFieldDescriptor (T k).2.2.1 = some (ty k)) (hc : clz[ci]? = some (C, T, N)) (hfs : fs = (List.range N).map fun j => defaultValue (ty j)) (hl : Y.length = n) (hd : decode F.1.2.1 pc = .ok (.new idx, 3)) (hp : pc + 3 = pn)
    (kk : GoB G F pn L (.ref n :: S) (Y ++ [.inr (ci, fs)]) c k) : GoB G F pc L S Y (c + 1) (k + N) := by
  subst hp; subst hl
  intro p e s m args below meth cd H locs ls cells slots hx
  have hts := hx.fx.2.2.2.2.2.2.1
  have hK := hx.fx.2.2.2.2.2.2.2.2.1
  have hKn := hK.1 ci _ hc
  have h1 := hx.cc; have h2 := hx.ks; have h3 := hx.rc; have h4 := hx.rs
  refine W.newcK hx.fx.1 hx.fx.2.1 hx.fx.2.2.2.2.2.1 (hts _ hcl) (hts _ hinst) (hts _ hini) rfl hd (by omega) (by omega) hKn.2.1 hx.sz fun H1 kC hkC e1 z1 o1 => ?_
  have hk : ∀ (k : Nat) (x : Nat × va_E), (wq (gB G) Y)[k]? = some x → H1[x.1]? = H[x.1]? := fun k x hx' => o1 x.1 (by rw [← hx.sz]; exact (hx.pp k x hx').lt)
  refine kk p e s m args below meth cd H1 locs ls (cells + 1) (slots + N) ⟨hx.fx, hx.ex, hx.nm, hx.lv, ?_, by rw [z1]; simp; omega, ⟨Nat.le_trans hx.ss.1 (by rw [z1, hx.sz]; omega), fun x g1 g2 => (o1 x (by rw [← hx.sz]; exact Nat.lt_of_lt_of_le g1 hx.ss.1)).trans (hx.ss.2.1 x g1 g2), hx.ss.2.2⟩, hx.bs, by omega, by omega, h3, h4⟩
  rw [← wq_app]
  refine (hx.pp.kept hk).app (fun k x hx' => ?_)
  have hz : k < 1 := (List.getElem?_eq_some_iff.mp hx').1
  rw [show k = 0 by omega] at hx'
  cases hx'
  refine ⟨_, hc, (u_born ty hts hin hKn hkC e1 hty).to fun j hj => ?_⟩
  subst hfs
  simp [vp_V, hj]
theorem b_newa {at_ : ArrayType} {ty : FieldType} {t0 : Nat} {v : Int32} {N n : Nat} {a0 : vp_A} (harr : Cond.arrayClass (newarray.typeOf at_) ∈ GW) (hty : newarray.typeOf at_ = ty) (ht : (tyl G)[t0]? = some (G.2.2.2.1 t0, ty)) (hRA : va_RA = va_RA) (hpr : ∀ (s : State) (cA : ClassId), va_RA s cA ty → s.vm.findClass ("[" ++ ty.toString) = some cA) (ha : ∀ cA : ClassId, vp_cell cA a0 = arrV cA N (fun _ => defaultValue ty)) (hn : ¬ v < 0) (hN : v.toNatClampNeg = N) (hb : N * componentBytes ty ≤ 536870912) (hl : Y.length = n) (hd : decode F.1.2.1 pc = .ok (.newarray at_, 2)) (hp : pc + 2 = pn)
    (kk : GoB G F pn L (.ref n :: S) (Y ++ [.inl (G.2.2.2.1 t0, a0)]) c k) : GoB G F pc L (.int v :: S) Y (c + 1) (k + N) := by
  subst hp; subst hl; subst hty
  intro p e s m args below meth cd H locs ls cells slots hx
  have hts := hx.fx.2.2.2.2.2.2.1
  have hK := hx.fx.2.2.2.2.2.2.2.2.1
  have h1 := hx.cc; have h2 := hx.ks; have h3 := hx.rc; have h4 := hx.rs
  refine va_newaK hx.fx.1 hx.fx.2.1 (hts _ harr) rfl hd rfl hn hN hb (by omega) (by omega) hx.sz fun H1 cA e1 z1 o1 hAr hNm => ?_
  have hcA : cA = G.2.2.2.1 t0 := Option.some.inj (hNm.symm.trans (hpr s _ (hK.2 t0 _ ht).2))
  subst hcA
  have hk : ∀ (k : Nat) (x : Nat × va_E), (wq (gB G) Y)[k]? = some x → H1[x.1]? = H[x.1]? := fun k x hx' => o1 x.1 (by rw [← hx.sz]; exact (hx.pp k x hx').lt)
  refine kk p e s m args below meth cd H1 locs ls (cells + 1) (slots + N) ⟨hx.fx, hx.ex, hx.nm, hx.lv, ?_, by rw [z1]; simp; omega, ⟨Nat.le_trans hx.ss.1 (by rw [z1, hx.sz]; omega), fun x g1 g2 => (o1 x (by rw [← hx.sz]; exact Nat.lt_of_lt_of_le g1 hx.ss.1)).trans (hx.ss.2.1 x g1 g2), hx.ss.2.2⟩, hx.bs, by omega, by omega, h3, h4⟩
  rw [← wq_app]
  refine (hx.pp.kept hk).app (fun k x hx' => ?_)
  have hz : k < 1 := (List.getElem?_eq_some_iff.mp hx').1
  rw [show k = 0 by omega] at hx'
  cases hx'
  show H1[gB G + Y.length]? = some (vp_cell _ _)
  rw [ha]
  exact e1
theorem b_newI {v : Int32} {N n : Nat} (hn : ¬ v < 0) (hN : v.toNatClampNeg = N) (hb : N * 4 ≤ 536870912) (hl : Y.length = n) (hd : decode F.1.2.1 pc = .ok (.newarray .int, 2)) (hp : pc + 2 = pn)
    (kk : GoB G F pn L (.ref n :: S) (Y ++ [.inl (G.2.2.2.1 0, N, .inl fun _ => 0)]) c k) : GoB G F pc L (.int v :: S) Y (c + 1) (k + N) :=
  b_newa (ty := .int) (t0 := 0) (by decide +kernel) rfl rfl rfl (fun _ _ h => h) (fun _ => rfl) hn hN hb hl hd hp kk
theorem b_newJ {v : Int32} {N n : Nat} (hn : ¬ v < 0) (hN : v.toNatClampNeg = N) (hb : N * 8 ≤ 536870912) (hl : Y.length = n) (hd : decode F.1.2.1 pc = .ok (.newarray .long, 2)) (hp : pc + 2 = pn)
    (kk : GoB G F pn L (.ref n :: S) (Y ++ [.inl (G.2.2.2.1 1, N, .inr (.inl fun _ => 0))]) c k) : GoB G F pc L (.int v :: S) Y (c + 1) (k + N) :=
  b_newa (ty := .long) (t0 := 1) (by decide +kernel) rfl rfl rfl (fun _ _ h => h) (fun _ => rfl) hn hN hb hl hd hp kk
theorem b_newZ {v : Int32} {N n : Nat} (hn : ¬ v < 0) (hN : v.toNatClampNeg = N) (hb : N * 1 ≤ 536870912) (hl : Y.length = n) (hd : decode F.1.2.1 pc = .ok (.newarray .boolean, 2)) (hp : pc + 2 = pn)
    (kk : GoB G F pn L (.ref n :: S) (Y ++ [.inl (G.2.2.2.1 2, N, .inl fun _ => 0)]) c k) : GoB G F pc L (.int v :: S) Y (c + 1) (k + N) :=
  b_newa (ty := .boolean) (t0 := 2) (by decide +kernel) rfl rfl rfl (fun _ _ h => h) (fun _ => rfl) hn hN hb hl hd hp kk
end
