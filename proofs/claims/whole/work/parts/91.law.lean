/-! ===== the law's frame ===== -/
def R_law : String := "LevelBreaksLaw"
def lw_P (b : Addr) (xs : List Int32) (args : Array Value) (s : State) : Prop := args = #[.ref b] ∧ s.IntsAt b xs ∧ xs.length ≤ 4096 ∧ (Jvm.Cond.and given_1 narrow_1).before args s = true
def lw_Q (_ : Array Value) (s : State) (o : Outcome) (t : State) : Prop := o = .returned (some (.int 1)) ∧ Framed s o t [] 600000 7302250
def lw_Z (below : List Frame) (a : Array Value) (s : State) : State → Prop := fun t => ∃ o, t.status = .running ∧ Ended t below o ∧ lw_Q a s o t
/-- the law's own end, whatever its arguments are -/
theorem lw_retA {p : Program} {l : Launch} {e : Env} {s : State} {m : MethodId} {args : Array Value} {below : List Frame} {meth : Method} {c : Code} (hx : p.tables.exec = Jvm.exec) (hb : c.code = code) (hr : meth.sig.returnType = ret) (hlocks : meth.locks = false) {pc : Nat} {H : Heap} {ls : Array Slot} (hdg : decode code pc = .ok (.ireturn, 1)) : W p l e room_1 s m args below meth c H [] 600000 7302250 (lw_Z below args s) (F0 m pc ls [.int 1]) := by
  intro T hT X
  obtain ⟨fs, hret, hrun, hended, hW, hframe⟩ := X.leave (v := some (.int 1)) (hlocks := hlocks) (fun h => by rw [hr] at h; cases h)
  have hmeth' : T.vm.method? m = some meth := X.method'
  refine ⟨T.setFrames fs, ?_, .returned (some (.int 1)), hrun, hended, rfl, ⟨_, rfl⟩, hW, hframe⟩
  jvm_step X.here [X.here.top, hx, hb, hdg, hmeth', hr, ret, narrow_b1]
  (try refine ⟨rfl, ?_⟩); (try refine ⟨rfl, ?_⟩)
  first | (intro acts; rw [hret _ acts rfl rfl rfl]) | rw [hret _ _ rfl rfl rfl]
  exact Steps.refl _
def lw_At (p : Program) (s : State) (m : MethodId) (meth : Method) (c : Code) (b L : Nat) (xs : Nat → Int32) : Prop :=
  p.tables.exec = Jvm.exec ∧ c.code = code ∧ meth.sig.returnType = ret ∧ c.maxLocals = 4 ∧ s.vm.findClass R_law = some m.cls ∧ (∀ w ∈ lw_tbl, w.before #[Value.ref b] s = true) ∧ va_X b L xs s s.heap ∧ b < s.heap.size ∧ meth.locks = false ∧ (Jvm.Cond.and given_1 narrow_1).before #[Value.ref b] s = true
/-- what is known where the law begins -/
def lawH (G : GC) (n : Nat) (xs : Nat → Int32) (s : State) : Prop := scr G n xs s ∧ gB G = s.heap.size
abbrev FL (G : GC) (n : Nat) (xs : Nat → Int32) : FT := (m_LW_law, room_1, (600000, 7302250), lawH G n xs, fun below args s => lw_Z below args s)
abbrev LL (k : Nat) : List (Option Value) := [some .null, some (.ref 0), some (.ref 67), some (.int (nI k))]
section
variable {G : GC} {n : Nat} {xs : Nat → Int32} {pc pn k : Nat} {L : List (Option Value)} {S : List Value} {I : MI} {J : MJ}
theorem rOk_L : rOk (FL G n xs) 40 := ⟨Nat.le_of_ble_eq_true rfl, Nat.le_of_ble_eq_true rfl, Nat.le_refl _, Nat.le_refl _⟩
theorem l_sld {i : Int32} (hin : vp_in i n) (hd : decode code pc = .ok (.iaload, 1)) (hp : pc + 1 = pn) (kk : Go G (FL G n xs) pn L (.int (xs i.toNatClampNeg) :: S) I J) : Go G (FL G n xs) pc L (.int i :: .null :: S) I J := by
  subst hp
  intro p e s m args below meth c H locs ls hf hl hP hS
  have hx : scr G n xs s := hf.2.2.2.2.2.2.2.2.2.1
  exact va_sld hf.1 hf.2.1 hx.1 hx.2.1 (Nat.not_le.mpr hx.2.2) hS hin hd (kk p e s m args below meth c H locs ls hf hl hP hS)
theorem l_slen (hd : decode code pc = .ok (.arraylength, 1)) (hp : pc + 1 = pn) (kk : Go G (FL G n xs) pn L (.int (Int32.ofNat n) :: S) I J) : Go G (FL G n xs) pc L (.null :: S) I J := by
  subst hp
  intro p e s m args below meth c H locs ls hf hl hP hS
  have hx : scr G n xs s := hf.2.2.2.2.2.2.2.2.2.1
  exact va_slen hf.1 hf.2.1 hx.1 hx.2.1 (Nat.not_le.mpr hx.2.2) hS hd (kk p e s m args below meth c H locs ls hf hl hP hS)
theorem l_ret (hd : decode code pc = .ok (.ireturn, 1)) : Go G (FL G n xs) pc L [.int 1] I J := by
  intro p e s m args below meth c H locs ls hf hl hP hS
  refine va_forget (fun q hq => ?_) ?_
  · have h1 := hS.2.2 q hq
    have h2 : gB G = s.heap.size := hf.2.2.2.2.2.2.2.2.2.2
    exact h2 ▸ h1
  · exact lw_retA hf.1 hf.2.1 hf.2.2.1 hf.2.2.2.1 hd
theorem l_arg {j : Nat} {c : Int} (hk : k + 8 ≤ n) (hn : n ≤ 4096) (hj : j < 8) (hc : Int32.ofInt c = nI j) (d1 : decode code pc = .ok (.aload_n 0, 1)) (d2 : decode code (pc + 1) = .ok (.iload_n 3, 1)) (d3 : decode code (pc + 2) = .ok (.iconst c, 1)) (d4 : decode code (pc + 3) = .ok (.iadd, 1)) (d5 : decode code (pc + 4) = .ok (.iaload, 1)) (hp : pc + 5 = pn) (kk : Go G (FL G n xs) pn (LL k) (.int (xs (k + j)) :: S) I J) : Go G (FL G n xs) pc (LL k) S I J := by
  subst hp
  refine g_aload_s d1 rfl rfl (i := 0) rfl ?_
  refine g_iload_n d2 rfl rfl (i := 3) rfl ?_
  refine g_iconst d3 rfl hc ?_
  refine g_iadd d4 rfl ?_
  rw [nI_add]
  refine l_sld (vp_in_nI (by omega) (by omega)) d5 rfl ?_
  rw [nI_clamp (by omega)]
  exact kk
theorem l_argB {j : Nat} {c : Int} (hk : k + 8 ≤ n) (hn : n ≤ 4096) (hj : j < 8) (hc : (Int8.ofInt c).toInt32 = nI j) (d1 : decode code pc = .ok (.aload_n 0, 1)) (d2 : decode code (pc + 1) = .ok (.iload_n 3, 1)) (d3 : decode code (pc + 2) = .ok (.bipush c, 2)) (d4 : decode code (pc + 4) = .ok (.iadd, 1)) (d5 : decode code (pc + 5) = .ok (.iaload, 1)) (hp : pc + 6 = pn) (kk : Go G (FL G n xs) pn (LL k) (.int (xs (k + j)) :: S) I J) : Go G (FL G n xs) pc (LL k) S I J := by
  subst hp
  refine g_aload_s d1 rfl rfl (i := 0) rfl ?_
  refine g_iload_n d2 rfl rfl (i := 3) rfl ?_
  refine g_bipush d3 rfl hc ?_
  refine g_iadd d4 rfl ?_
  rw [nI_add]
  refine l_sld (vp_in_nI (by omega) (by omega)) d5 rfl ?_
  rw [nI_clamp (by omega)]
  exact kk
end
