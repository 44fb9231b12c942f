/-! ===== building: stores, calls of constructors, returns ===== -/
section
variable {G : GC} {F : FT} {pc pn : Nat} {L L' : List (Option Value)} {S : List Value} {Y : List va_E} {c k : Nat}
theorem BX.store {p : Program} {s : State} {m : MethodId} {args : Array Value} {meth : Method} {cd : Code} {H H1 : Heap} {locs : List Loc} {ls : Array Slot} {cells slots o j : Nat} {e0 e1 : va_E} (hx : BX G F L Y c k p s m args meth cd H locs ls cells slots) (hY : Y[o]? = some e0) (he : va_at (gD G) clz (gB G + o, e1) H1) (z : H1.size = H.size) (oq : ∀ q : Nat, q ≠ gB G + o → H1[q]? = H[q]?) : BX G F L (Y.set o e1) c k p s m args meth cd H1 (locs ++ [⟨gB G + o, j⟩]) ls cells slots :=
  ⟨hx.fx, hx.ex, hx.nm, hx.lv, by rw [← wq_set]; exact hx.pp.set (wq_D _ _) (wq_at hY) he oq, by rw [z, hx.sz]; simp, hx.ss.put z oq (Nat.le_add_right _ _), hx.bs, hx.cc, hx.ks, hx.rc, hx.rs⟩
theorem b_putF {o ci kf idx N : Nat} {C ref : String} {T : u_T} {ty : Nat → FieldType} {fs : List Value} {t : FieldType} {v : Value} (hY : Y[o]? = some (.inr (ci, fs))) (hc : clz[ci]? = some (C, T, N)) (hin : ∀ w ∈ u_ws C T N, w ∈ GW) (hty : ∀ k, k < N → parseFieldDescriptor (T k).2.2.1 = some (ty k)) (hnm : ∀ a, a < N → ∀ b, b < N → a ≠ b → (T a).2.1 ≠ (T b).2.1) (hkN : kf < N) (hw : Cond.fieldLink F.1.1.cls idx ref (T kf).2.1 (T kf).2.2.1 ∈ GW) (href : ref = (T kf).1) (hfin : (T kf).2.2.2 = true) (hni : F.1.1.name = "<init>") (hdecl : (T kf).1 = F.1.1.cls) (hdi : parseFieldDescriptor (T kf).2.2.1 = some t) (hna : narrow t (cv G v) = cv G v) (hfi : fits t (cv G v) = true) (hl : kf < fs.length)
    (hd : decode F.1.2.1 pc = .ok (.putfield idx, 3)) (hp : pc + 3 = pn) (kk : GoB G F pn L S (Y.set o (.inr (ci, fs.set kf (cv G v)))) c k) : GoB G F pc L (v :: .ref o :: S) Y c k := by
  subst hp; subst href
  intro p e s m args below meth cd H locs ls cells slots hx
  have hts := hx.fx.2.2.2.2.2.2.1
  have hK := hx.fx.2.2.2.2.2.2.2.2.1
  have hap := va_apart (own := F.1.1.cls) hts hin ty hty hnm hK hc
  obtain ⟨r, h1, cell, q1, q2, q3, q4⟩ := hx.pp o _ (wq_at hY)
  have hr : r = (C, T, N) := Option.some.inj (h1.symm.trans hc)
  subst hr
  obtain ⟨hS, hfc, kC, hkC, hkind⟩ := hK.1 ci _ hc
  obtain ⟨cf, kf', fi, f, hi, hsl⟩ := hS kf hkN
  have hlay := hts _ (hin _ (u_in_lay hkN))
  unfold u_lay at hlay
  rw [if_pos hfin] at hlay
  have hst := (u_facts hfc hkC (u_lays hts hin hkN) hi).1
  have hcf : m.cls = cf := by
    obtain ⟨_, _, c', _, _, _, -, -, hf', -, -, -, hown2, -⟩ := Cond.laysFinal_spec hlay
    have e1 : c' = cf := by have := hi.symm.trans hf'; simp at this; exact this.1.symm
    rw [hdecl] at hown2
    rw [← e1]; exact Option.some.inj (hx.fx.2.2.2.2.2.1.symm.trans hown2)
  have h6 := u_fits hfc hkC hkind (Or.inr hlay) hi hdi hna hfi
  refine W.putFinK hx.fx.1 hx.fx.2.1 hx.fx.2.2.2.2.2.1 (hts _ hw) hi hst hcf (hx.nm hni) (by rw [q2]; exact h6) q1 q3 (by rw [hsl]; exact k2_hasslot (q4 kf hkN)) rfl rfl hd fun H' e1 e2 e3 => ?_
  rw [hsl] at e1 ⊢
  exact kk p e s m args below meth cd H' _ ls cells slots (hx.store hY ⟨_, hc, t_OB.to (V := updV (vp_V fs) kf (cv G v)) ⟨_, e1, q2, q3, t_set q4 hap hkN _⟩ (fun j _ => vp_updV_set hl _ j)⟩ e2 e3)
theorem b_put {o ci kf idx N : Nat} {C ref : String} {T : u_T} {ty : Nat → FieldType} {fs : List Value} {t : FieldType} {v : Value} (hY : Y[o]? = some (.inr (ci, fs))) (hc : clz[ci]? = some (C, T, N)) (hin : ∀ w ∈ u_ws C T N, w ∈ GW) (hty : ∀ k, k < N → parseFieldDescriptor (T k).2.2.1 = some (ty k)) (hnm : ∀ a, a < N → ∀ b, b < N → a ≠ b → (T a).2.1 ≠ (T b).2.1) (hkN : kf < N) (hw : Cond.fieldLink F.1.1.cls idx ref (T kf).2.1 (T kf).2.2.1 ∈ GW) (href : ref = (T kf).1) (hfin : (T kf).2.2.2 = false) (hdi : parseFieldDescriptor (T kf).2.2.1 = some t) (hna : narrow t (cv G v) = cv G v) (hfi : fits t (cv G v) = true) (hl : kf < fs.length)
    (hd : decode F.1.2.1 pc = .ok (.putfield idx, 3)) (hp : pc + 3 = pn) (kk : GoB G F pn L S (Y.set o (.inr (ci, fs.set kf (cv G v)))) c k) : GoB G F pc L (v :: .ref o :: S) Y c k := by
  subst hp; subst href
  intro p e s m args below meth cd H locs ls cells slots hx
  have hts := hx.fx.2.2.2.2.2.2.1
  have hK := hx.fx.2.2.2.2.2.2.2.2.1
  have hap := va_apart (own := F.1.1.cls) hts hin ty hty hnm hK hc
  obtain ⟨r, h1, cell, q1, q2, q3, q4⟩ := hx.pp o _ (wq_at hY)
  have hr : r = (C, T, N) := Option.some.inj (h1.symm.trans hc)
  subst hr
  obtain ⟨hS, hfc, kC, hkC, hkind⟩ := hK.1 ci _ hc
  obtain ⟨cf, kf', fi, f, hi, hsl⟩ := hS kf hkN
  have hlay := hts _ (hin _ (u_in_lay hkN))
  unfold u_lay at hlay
  rw [if_neg (by rw [hfin]; decide)] at hlay
  have hst := (u_facts hfc hkC (u_lays hts hin hkN) hi).1
  have h6 := u_store hfc hkC hkind hlay hi hdi hna hfi
  refine W.putK hx.fx.1 hx.fx.2.1 (f := f) ⟨hx.fx.2.2.2.2.2.1, hts _ hw, ⟨_, _, _, hi⟩, hst⟩ (by rw [q2]; exact h6) q1 q3 (by rw [hsl]; exact k2_hasslot (q4 kf hkN)) rfl rfl hd fun H' e1 e2 e3 => ?_
  rw [hsl] at e1 ⊢
  exact kk p e s m args below meth cd H' _ ls cells slots (hx.store hY ⟨_, hc, t_OB.to (V := updV (vp_V fs) kf (cv G v)) ⟨_, e1, q2, q3, t_set q4 hap hkN _⟩ (fun j _ => vp_updV_set hl _ j)⟩ e2 e3)
theorem b_get {o ci kf idx N : Nat} {C ref : String} {T : u_T} {fs : List Value} {v : Value} (hY : Y[o]? = some (.inr (ci, fs))) (hc : clz[ci]? = some (C, T, N)) (hin : ∀ w ∈ u_ws C T N, w ∈ GW) (hkN : kf < N) (hw : Cond.fieldLink F.1.1.cls idx ref (T kf).2.1 (T kf).2.2.1 ∈ GW) (href : ref = (T kf).1) (hv : fs[kf]? = some (cv G v))
    (hd : decode F.1.2.1 pc = .ok (.getfield idx, 3)) (hp : pc + 3 = pn) (kk : GoB G F pn L (v :: S) Y c k) : GoB G F pc L (.ref o :: S) Y c k := by
  subst hp; subst href
  intro p e s m args below meth cd H locs ls cells slots hx
  have hts := hx.fx.2.2.2.2.2.2.1
  exact va_get (D := gD G) hx.fx.1 hx.fx.2.1 hts hin hx.fx.2.2.2.2.2.1 hx.fx.2.2.2.2.2.2.2.2.1 hx.pp o (wq_at hY) hc kf hkN (hts _ hw) (fun _ h => h) hv hd (kk p e s m args below meth cd H locs ls cells slots hx)
theorem b_iast {o n : Nat} {i x : Int32} {f : Nat → Int32} (hY : Y[o]? = some (.inl (G.2.2.2.1 0, n, .inl f))) (hin : vp_in i n) (hd : decode F.1.2.1 pc = .ok (.iastore, 1)) (hp : pc + 1 = pn) (kk : GoB G F pn L S (Y.set o (.inl (G.2.2.2.1 0, n, .inl (upd f i.toNatClampNeg x)))) c k) : GoB G F pc L (.int x :: .int i :: .ref o :: S) Y c k := by
  subst hp
  intro p e s m args below meth cd H locs ls cells slots hx
  have hK := hx.fx.2.2.2.2.2.2.2.2.1
  refine W.iast hx.fx.1 hx.fx.2.1 (hx.pp o _ (wq_at hY)) ((hK.2 0 _ rfl).1 n (fun j => .int (f j))) (fun q => by cases q) (by show ¬ (i < 0 ∨ (arrV _ _ _).slots.size ≤ _); rw [arrV_size]; exact hin) rfl rfl hd fun H1 e1 z oq => ?_
  refine kk p e s m args below meth cd H1 _ ls cells slots (hx.store hY ?_ z oq)
  show H1[gB G + o]? = some (vp_cell _ _)
  rw [e1, vp_cell_i, vp_cell_i, arrV_store]
  congr 2
  funext q
  by_cases hq : q = i.toNatClampNeg
  · subst hq; simp [updV, upd]
  · simp [updV, upd, hq]
theorem b_astq {o n v t0 ci : Nat} {i : Int32} {E : String} {r : vw_C} {vs : List Value} {f : Nat → Option Nat} (hY : Y[o]? = some (.inl (G.2.2.2.1 t0, n, .inr (.inr (.inr (.inr f)))))) (ht : (tyl G)[t0]? = some (G.2.2.2.1 t0, .object E)) (hv : Y[v]? = some (.inr (ci, vs))) (hc : clz[ci]? = some r) (hca : r.1 = E ∨ ∀ s, exOk s → va_Nw (.castable r.1 E) s) (hin : vp_in i n) (hd : decode F.1.2.1 pc = .ok (.aastore, 1)) (hp : pc + 1 = pn) (kk : GoB G F pn L S (Y.set o (.inl (G.2.2.2.1 t0, n, .inr (.inr (.inr (.inr (va_up f i.toNatClampNeg (some (gB G + v))))))))) c k) : GoB G F pc L (.ref v :: .int i :: .ref o :: S) Y c k := by
  subst hp
  intro p e s m args below meth cd H locs ls cells slots hx
  have hK := hx.fx.2.2.2.2.2.2.2.2.1
  have hlt : i.toNatClampNeg < n := Nat.not_le.mp fun q => hin (Or.inr q)
  have h0 : ¬ i < 0 := fun q => hin (Or.inl q)
  obtain ⟨r', hr', cellV, g1, g2, g3, -⟩ := hx.pp v _ (wq_at hv)
  have hcls := (hK.1 ci r hc).2
  obtain ⟨kA, comp, k1, k2, k3, -⟩ := (hK.2 t0 _ ht).2
  obtain ⟨kE, hkE, -⟩ := Vm.findClass_spec k3
  obtain ⟨kC, hkC, -⟩ := hcls.2
  have has : s.vm.assignable ((gD G).1 ci) comp = true := by
    rcases hca with rfl | hca
    · have : comp = (gD G).1 ci := Option.some.inj (k3.symm.trans hcls.1)
      rw [this]; exact va_assign hcls
    · obtain ⟨c0, t1, f1, f2, f3⟩ := Cond.castable_spec (va_Nw.use (A := args) rfl (hca s hx.ex))
      cases hcls.1.symm.trans f1
      cases k3.symm.trans f2
      exact f3
  refine W.aast hx.fx.1 hx.fx.2.1 (hx.pp o _ (wq_at hY)) (fun q h => by cases h) (fun h => by cases h) k1 k2 rfl hkE ⟨h0, by show _ < (arrV _ _ _).slots.size; rw [arrV_size]; exact hlt⟩ g1 (fun q h => by rw [g3] at h; cases h) (by rw [g2]; exact hkC) (by rw [g2]; exact has) rfl rfl hd fun H1 e1 z oq => ?_
  refine kk p e s m args below meth cd H1 _ ls cells slots (hx.store hY ?_ z oq)
  show H1[gB G + o]? = some (vp_cell _ _)
  rw [e1, vp_cell_q, vp_cell_q, arrV_store]
  congr 2
  funext q
  by_cases hq : q = i.toNatClampNeg
  · subst hq; simp [updV, va_up, va_rf]
  · simp [updV, va_up, hq]
theorem b_newq {idx t0 n N : Nat} {v : Int32} {E : String} (hcl : Cond.classLink F.1.1.cls idx E ∈ GW) (hov : ∀ s, exOk s → va_AO E s) (ht : (tyl G)[t0]? = some (G.2.2.2.1 t0, .object E)) (hn : ¬ v < 0) (hN : v.toNatClampNeg = N) (hb : N * 4 ≤ 536870912) (hl : Y.length = n) (hd : decode F.1.2.1 pc = .ok (.anewarray idx, 3)) (hp : pc + 3 = pn)
    (kk : GoB G F pn L (.ref n :: S) (Y ++ [.inl (G.2.2.2.1 t0, N, .inr (.inr (.inr (.inr fun _ => none))))]) c k) : GoB G F pc L (.int v :: S) Y (c + 1) (k + N) := by
  subst hp; subst hl; subst hN
  intro p e s m args below meth cd H locs ls cells slots hx
  have hts := hx.fx.2.2.2.2.2.2.1
  have hK := hx.fx.2.2.2.2.2.2.2.2.1
  have h1 := hx.cc; have h2 := hx.ks; have h3 := hx.rc; have h4 := hx.rs
  refine W.anew hx.fx.1 hx.fx.2.1 hx.fx.2.2.2.2.2.1 (hts _ hcl) (va_AO.use (hov s hx.ex)) rfl hd rfl hn hb (by omega) (by omega) fun cA kA comp f1 f2 f3 f4 => ?_
  obtain ⟨kA', comp', g1, g2, g3, g4⟩ := (hK.2 t0 _ ht).2
  have hcA : cA = G.2.2.2.1 t0 := Option.some.inj (f1.symm.trans g4)
  subst hcA
  generalize hH1 : H.push ({ cls := G.2.2.2.1 t0, slots := Array.replicate v.toNatClampNeg .null, vm := .none } : Cell) = H1
  have z1 : H1.size = H.size + 1 := by rw [← hH1, Array.size_push]
  have e1 : H1[H.size]? = some (arrV (G.2.2.2.1 t0) v.toNatClampNeg (fun _ => .null)) := by rw [← hH1, Array.getElem?_push_size, ← arrV_new]
  have o1 : ∀ q : Nat, q < H.size → H1[q]? = H[q]? := fun q hq => by rw [← hH1, Array.getElem?_push, if_neg (Nat.ne_of_lt hq)]
  have hk : ∀ (k : Nat) (x : Nat × va_E), (wq (gB G) Y)[k]? = some x → H1[x.1]? = H[x.1]? := fun k x hx' => o1 x.1 ((hx.pp k x hx').lt)
  rw [hx.sz] at e1 ⊢
  refine kk p e s m args below meth cd H1 locs ls (cells + 1) (slots + v.toNatClampNeg) ⟨hx.fx, hx.ex, hx.nm, hx.lv, ?_, by rw [z1, hx.sz]; simp; omega, ⟨Nat.le_trans hx.ss.1 (by rw [z1]; omega), fun x g1 g2 => (o1 x (Nat.lt_of_lt_of_le g1 hx.ss.1)).trans (hx.ss.2.1 x g1 g2), hx.ss.2.2⟩, hx.bs, by omega, by omega, h3, h4⟩
  rw [← wq_app]
  refine (hx.pp.kept hk).app (fun k x hx' => ?_)
  have hz : k < 1 := (List.getElem?_eq_some_iff.mp hx').1
  rw [show k = 0 by omega] at hx'
  cases hx'
  exact e1
theorem b_obj {idx o : Nat} (hl : Cond.methodLink F.1.1.cls idx ⟨"java/lang/Object", "<init>", "()V"⟩ ∈ GW) (hR : 1 ≤ F.2.1.frames ∧ 20 ≤ F.2.1.locals) (hd : decode F.1.2.1 pc = .ok (.invokespecial idx, 3)) (hp : pc + 3 = pn) (kk : GoB G F pn L [] Y c k) : GoB G F pc L [.ref o] Y c k := by
  subst hp
  intro p e s m args below meth cd H locs ls cells slots hx
  have hts := hx.fx.2.2.2.2.2.2.1
  have h8 := room8 (G := G) (m := m) (ls := ls) (pc := pc) (st := [.ref (gB G + o)]) (rest := []) (by decide)
  refine W.objInit hx.fx.1 hx.fx.2.1 hx.fx.2.2.2.2.2.1 (hts _ hl) (hts _ (show Cond.instanceMethod ⟨"java/lang/Object", "<init>", "()V"⟩ ∈ GW by decide +kernel)) (hts _ (show Cond.code ⟨"java/lang/Object", "<init>", "()V"⟩ ⟨#[0xb1]⟩ 1 none ∈ GW by decide +kernel)) rfl (hx.lv.1.trans hx.fx.2.2.2.2.1.symm) rfl hd hR.1 (by have := hR.2; simp only [List.map_nil, List.sum_nil] at h8 ⊢; exact Nat.le_trans (Nat.add_le_add_right h8 12) this) ?_
  exact kk p e s m args below meth cd H locs ls cells slots hx
end
/-- the same kit with the base n cells further -/
abbrev shB (G : GC) (n : Nat) : GC := (G.1, G.2.1, G.2.2.1, G.2.2.2.1, gB G + n, G.2.2.2.2.2)
def QB (G : GC) (Z : List va_E) : Array Value → State → Outcome → State → Prop := fun _ st oc t =>
  (oc = .returned none ∧ va_P (gD G) clz (wq (gB G) Z) t.heap ∧ t.heap.size = gB G + Z.length) ∧ va_F (fun q => gB G ≤ q) st t
abbrev rmB (d mc ms : Nat) : Room := { frames := d, cells := mc, slots := ms, locals := 60 * d }
abbrev frB (G : GC) (M : MT) (d mc ms : Nat) (Z : List va_E) : FT := (M, rmB d mc ms, (mc, ms), fun _ => True, fun below args s => MQ below (QB G Z) args s mc ms fun q => gB G ≤ q)
/-- a constructor called with the cells Y of the base gB G leaves the cells Z -/
def CtB (G : GC) (d mc ms : Nat) (M : MT) (As : List Value) (Y Z : List va_E) : Prop :=
  Met G.1 M.1 (Cond.code M.1 M.2.1 M.2.2.1 M.2.2.2 :: GW) (rmB d mc ms) (va_Pc (As.map (cv G)) fun U => va_P (gD G) clz (wq (gB G) Y) U.heap ∧ U.heap.size = gB G + Y.length ∧ va_K (gD G) clz (tyl G) U ∧ nwOk U ∧ exOk U) (QB G Z) mc ms fun q => gB G ≤ q
theorem ctB_pre {G : GC} {Y : List va_E} {vs : List Value} : FrameBlind (va_Pc vs fun U => va_P (gD G) clz (wq (gB G) Y) U.heap ∧ U.heap.size = gB G + Y.length ∧ va_K (gD G) clz (tyl G) U ∧ nwOk U ∧ exOk U) := fun a U g mk q => by
  obtain ⟨q0, qP, qZ, qK, qN, qE⟩ := q
  exact ⟨q0, qP, qZ, va_K.moved (u := U) (U := U.calling g mk a) (Vm.Alike.refl U.vm) qK, nwOk_same (u := U) rfl qN, exOk_same (u := U) rfl qE⟩
theorem CtB.ofGo {G : GC} {d mc ms : Nat} {M : MT} {As : List Value} {Y Z : List va_E} (L : List (Option Value)) (hy : plainFor M.1 = true) (hE : lcs G L = lv_args 0 (As.map (cv G))) (hn : (lg_sl (As.map (cv G))).length ≤ M.2.2.1) (h : GoB G (frB G M d mc ms Z) 0 L [] Y mc ms) : CtB G d mc ms M As Y Z := by
  refine met_ofWF (cc := M.2.1) (maxL := M.2.2.1) (ret := M.2.2.2) hy rfl ?_
  intro p e s m args below meth c s₁ B hml hv
  obtain ⟨rfl, hP, hZ, hK, hN, hX⟩ := hv
  have hts := atoms_spec (ws := Cond.code M.1 M.2.1 M.2.2.1 M.2.2.2 :: GW) B.pre
  have hl := lv_entry (As.map (cv G)) (n := M.2.2.1) hn
  rw [lg_entry_eq]
  rw [← hE] at hl
  have hnm := (name_of_methodNamed B.named B.method).1
  exact h p e s m _ below meth c s.heap [] _ 0 0 ⟨⟨B.exec, B.bytes, B.returns, B.notSynchronized, hml, findClass_of_methodNamed B.named, fun w hw => hts w (List.mem_cons_of_mem _ hw), hN, hK, trivial⟩, hX, fun hq => hnm.trans hq, hl, hP, hZ, va_S.rf, by rw [hZ]; omega, by simp, by simp, Nat.le_refl _, Nat.le_refl _⟩
theorem b_ret {G : GC} {M : MT} {d mc ms pc c k : Nat} {L : List (Option Value)} {Y : List va_E} (hr : M.2.2.2 = none) (hd : decode M.2.1 pc = .ok (.return_, 1)) : GoB G (frB G M d mc ms Y) pc L [] Y c k := by
  intro p e s m args below meth cd H locs ls cells slots hx
  have hlocks : meth.locks = false := hx.fx.2.2.2.1
  have h1 := hx.cc; have h2 := hx.ks
  refine W.widen (k := mc) (n := ms) (Nat.le_trans (Nat.le_add_right _ _) h1) (Nat.le_trans (Nat.le_add_right _ _) h2) ?_
  exact W.vret hx.fx.1 hx.fx.2.1 (hx.fx.2.2.1.trans hr) (fun t ht _ => ⟨⟨rfl, by rw [ht]; exact hx.pp, by rw [ht]; exact hx.sz⟩, hx.ss.F ht⟩) hx.ss.2.2 hd
theorem b_call {G : GC} {F : FT} {pc pn : Nat} {L : List (Option Value)} {S : List Value} {Y0 : List va_E} {c k : Nat} {M : MT} {n d mc ms idx o : Nat} {As rest : List Value} {Z : List va_E} {e0 : va_E} (ok : okM M n) (hin : Cond.instanceMethod M.1 ∈ GW) (hnm : M.1.name = "<init>") (hret : M.2.2.2 = none) (hl : Cond.methodLink F.1.1.cls idx M.1 ∈ GW ∨ ∃ host, Cond.methodLinkNest F.1.1.cls idx M.1 host ∈ NWL) (hn : As.length = n) (hAs : As.map (cv (shB G o)) = As.map (cv G)) (hS0 : S = As.reverse ++ .ref o :: rest) (hrm : (rest.map fun v => v.category).sum ≤ 8) (ho : Y0.length = o) (hd : decode F.1.2.1 pc = .ok (.invokespecial idx, 3)) (hp : pc + 3 = pn) (hR : d + 1 ≤ F.2.1.frames ∧ 60 * (d + 1) ≤ F.2.1.locals) (hC : CtB (shB G o) d mc ms M (.ref 0 :: As) [e0] Z) (kk : GoB G F pn L rest (Y0 ++ Z) c k) : GoB G F pc L S (Y0 ++ [e0]) (c + mc) (k + ms) := by
  subst hp; subst hS0; subst ho
  intro p e s m args below meth cd H locs ls cells slots hx
  have hts := hx.fx.2.2.2.2.2.2.1
  have h1 := hx.cc; have h2 := hx.ks; have h3 := hx.rc; have h4 := hx.rs
  have hP0 := hx.pp
  rw [wq_cat] at hP0
  have hPl : va_P (gD G) clz (wq (gB G) Y0) H := hP0.by (fun k => k) (fun k q hk => by rw [List.getElem?_append_left (List.getElem?_eq_some_iff.mp hk).1]; exact hk)
  have hPr : va_P (gD G) clz (wq (gB G + Y0.length) [e0]) H := hP0.by (fun k => (wq (gB G) Y0).length + k) (fun k q hk => by rw [List.getElem?_append_right (Nat.le_add_right _ _), Nat.add_sub_cancel_left]; exact hk)
  have hpre : PreS s H (va_Pc ((Value.ref 0 :: As).map (cv (shB G Y0.length))) fun U => va_P (gD (shB G Y0.length)) clz (wq (gB (shB G Y0.length)) [e0]) U.heap ∧ U.heap.size = gB (shB G Y0.length) + [e0].length ∧ va_K (gD (shB G Y0.length)) clz (tyl (shB G Y0.length)) U ∧ nwOk U ∧ exOk U) (.ref (gB G + Y0.length) :: As.map (cv G)) :=
    ⟨ctB_pre (G := shB G Y0.length), fun U hU hW => ⟨by rw [List.map_cons, hAs]; rfl, by rw [hU]; exact hPr, by rw [hU, hx.sz, List.length_append]; show gB G + (Y0.length + 1) = gB G + Y0.length + 1; omega, va_K.moved hW.alike hx.fx.2.2.2.2.2.2.2.2.1, nwOk_warm hW hx.fx.2.2.2.2.2.2.2.1, exOk_warm hW hx.ex⟩⟩
  have hfin : cells + mc ≤ F.2.1.cells ∧ slots + ms ≤ F.2.1.slots := ⟨by omega, by omega⟩
  have hloc : (rmB d mc ms).frames + 1 ≤ F.2.1.frames ∧ 8 + (M.2.2.1 + 11) + (rmB d mc ms).locals ≤ F.2.1.locals := ⟨hR.1, by have := hR.2; have := ok.2.2.2; show 8 + (M.2.2.1 + 11) + 60 * d ≤ _; omega⟩
  have hstk : ((As.reverse ++ .ref Y0.length :: rest).map (cv G)) = (As.map (cv G)).reverse ++ .ref (gB G + Y0.length) :: rest.map (cv G) := by simp [List.map_reverse, cv]
  have hr : va_Run p G.1 e F.2.1 s m args below meth cd H locs cells slots mc ms (F0 m pc ls ((As.reverse ++ .ref Y0.length :: rest).map (cv G))) (rest.map (cv G)) (QB (shB G Y0.length) Z (Value.ref (gB G + Y0.length) :: As.map (cv G)).toArray) (fun q => gB (shB G Y0.length) ≤ q) := by
    rcases hl with hl | ⟨host, hl⟩
    · have cb : CallB F.2.1 s args F.1.1.cls idx M.1 M.2.1 M.2.2.1 M.2.2.2 (Cond.code M.1 M.2.1 M.2.2.1 M.2.2.2 :: GW) (rmB d mc ms) mc ms n := callB_of n hts (good_code ok) rfl rfl rfl (hts _ ok.2.1) (hts _ hl) ok.2.2.1 hloc
      rw [hret] at cb
      have hC' := hC
      unfold CtB at hC'
      rw [hret] at hC'
      exact va_runI (Ts := GW) ⟨hx.fx.1, hx.fx.2.1, hx.fx.2.2.2.2.1, hx.fx.2.2.2.2.2.1, hts⟩ hC' ⟨cb, hnm, hts _ hin⟩ hpre rfl (by rw [List.length_map]; exact hn) hx.lv.1 hstk (room8 hrm) hd hfin
    · have cb := va_cnB (R := F.2.1) (args := args) (s := s) (own := F.1.1.cls) (index := idx) (host := host) (y := M.1) (bytes := M.2.1) (maxL := M.2.2.1) (ret := M.2.2.2) (rm := rmB d mc ms) (mc := mc) (ms := ms) n hts (good_code ok) rfl rfl rfl (hx.fx.2.2.2.2.2.2.2.1 _ hl) (hts _ ok.2.1) ok.2.2.1 hloc
      rw [hret] at cb
      have hC' := hC
      unfold CtB at hC'
      rw [hret] at hC'
      exact va_runIN (Ts := GW) ⟨hx.fx.1, hx.fx.2.1, hx.fx.2.2.2.2.1, hx.fx.2.2.2.2.2.1, hts⟩ hC' ⟨cb, hnm, hts _ hin⟩ hpre rfl (by rw [List.length_map]; exact hn) hx.lv.1 hstk (room8 hrm) hd hfin
  intro T hT X
  obtain ⟨v, st₀, t, T', Lq, h0, X', hLq, e1, e2, ⟨⟨hv, hb, hsz⟩, hz, hk⟩, st⟩ := hr T hT X
  cases hv
  rw [h0] at hz hk
  obtain ⟨t2, a1, b1⟩ := kk p e s m args below meth cd T'.heap (locs ++ Lq) ls (cells + mc) (slots + ms) ⟨hx.fx, hx.ex, hx.nm, hx.lv, by
      rw [wq_cat, e1]
      refine va_P.app (hPl.kept fun k q hq => ?_) hb
      have hq1 := (wq_of hq).1
      have hq2 := (List.getElem?_eq_some_iff.mp (wq_of hq).2).1
      exact hk q.1 ((hPl k q hq).lt) (by show ¬ (gB G + Y0.length ≤ q.1); omega), by rw [e1, hsz, List.length_append]; show gB G + Y0.length + Z.length = _; omega,
    ⟨Nat.le_trans hx.ss.1 (by rw [e1]; exact hz), fun q g1 g2 => by rw [e1, hk q (Nat.lt_of_lt_of_le g1 hx.ss.1) (fun g3 => g2 (Nat.le_trans (Nat.le_add_right _ _) g3))]; exact hx.ss.2.1 q g1 g2, fun q hq => by
      rcases List.mem_append.mp hq with h | h
      · exact hx.ss.2.2 q h
      · exact Nat.le_trans (Nat.le_add_right _ _) (hLq q h)⟩, hx.bs, by omega, by omega, h3, h4⟩ T' rfl X'
  exact ⟨t2, st t2 a1, b1⟩
