/-! ===== rows over Go: calls and returns ===== -/
def rOk (F : FT) (d : Nat) : Prop := d + 1 ≤ F.2.1.frames ∧ 60 * (d + 1) ≤ F.2.1.locals ∧ F.2.2.1.1 ≤ F.2.1.cells ∧ F.2.2.1.2 ≤ F.2.1.slots
theorem rOk_fr {G : GC} {M : MT} {d : Nat} {P : PT} : rOk (fr G M (d + 1) P) d := ⟨Nat.le_refl _, Nat.le_refl _, Nat.le_refl _, Nat.le_refl _⟩
theorem good_code {M : MT} {n : Nat} (h : okM M n) : GoodIn GW (Cond.code M.1 M.2.1 M.2.2.1 M.2.2.2 :: GW) := fun w hw => by
  rcases List.mem_cons.mp hw with rfl | hw
  · exact gw_good _ h.1
  · exact gw_good w hw
section
variable {p : Program} {l : Launch} {e : Env} {R : Room} {s : State} {m : MethodId} {args : Array Value} {below : List Frame} {meth : Method} {c : Code} {H : Heap} {locs : List Loc} {cells slots : Nat} {Q : State → Prop}
theorem call_after {G : GC} {P : PT} {pc : Nat} {ls : Array Slot} {rest st0 : List Value} {a : Array Value} (hr : va_Run p l e R s m args below meth c H locs cells slots 0 0 (F0 m pc ls st0) rest (Qm G P a) fun q => gB G ≤ q) (hS : va_S (fun q => gB G ≤ q) s.heap H locs)
    (kk : ∀ (r : Option Value) (I : MI) (J : MJ) (H1 : Heap) (locs1 : List Loc), P r I J → va_P (gD G) clz (wld G I J) H1 → va_S (fun q => gB G ≤ q) s.heap H1 locs1 → W p l e R s m args below meth c H1 locs1 cells slots Q (F0 m (pc + 3) ls ((r.map (cv G)).toList ++ rest))) : W p l e R s m args below meth c H locs cells slots Q (F0 m pc ls st0) := by
  intro T hT X
  obtain ⟨v, st₀, t, T', L, h0, X', hL, e1, e2, ⟨⟨r, I, J, hv, hp, hb⟩, hz, hk⟩, st⟩ := hr T hT X
  cases hv
  rw [h0] at hz hk
  obtain ⟨t2, a1, b1⟩ := kk r I J T'.heap (locs ++ L) hp (by rw [e1]; exact hb)
    ⟨Nat.le_trans hS.1 (by rw [e1]; exact hz), fun q h1 h2 => by rw [e1, hk q (Nat.lt_of_lt_of_le h1 hS.1) h2]; exact hS.2.1 q h1 h2, fun q hq => by
      rcases List.mem_append.mp hq with h | h
      · exact hS.2.2 q h
      · exact hL q h⟩ T' rfl X'
  exact ⟨t2, st t2 a1, b1⟩
end
section
variable {G : GC} {F : FT} {pc pn : Nat} {L : List (Option Value)} {S : List Value} {I : MI} {J : MJ}
theorem toList_cv (r : Option Value) (rest : List Value) : (r.map (cv G)).toList ++ rest.map (cv G) = (r.toList ++ rest).map (cv G) := by cases r <;> rfl
theorem room8 {m : MethodId} {ls : Array Slot} {st rest : List Value} (h : (rest.map fun v => v.category).sum ≤ 8) : 2 * (F0 m pc ls st).monitorRoom + ((rest.map (cv G)).map fun v => v.category).sum ≤ 8 := lv_room (by rw [cv_cats]; exact h)
theorem g_callS {M : MT} {n d idx : Nat} {As rest : List Value} (ok : okM M n) (hst : Cond.static M.1 ∈ GW) (hl : Cond.methodLink F.1.1.cls idx M.1 ∈ GW) (hn : As.length = n) (hS0 : S = As.reverse ++ rest) (hrm : (rest.map fun v => v.category).sum ≤ 8) (hd : decode F.1.2.1 pc = .ok (.invokestatic idx, 3)) (hp : pc + 3 = pn) (hR : rOk F d) (hC : Ct G d M As (fun r I' J' => Go G F pn L (r.toList ++ rest) I' J') I J) : Go G F pc L S I J := by
  subst hp; subst hS0
  intro p e s m args below meth c H locs ls hf hlv hP hS
  have hts := hf.2.2.2.2.2.2.1
  have cb : CallB F.2.1 s args F.1.1.cls idx M.1 M.2.1 M.2.2.1 M.2.2.2 (Cond.code M.1 M.2.1 M.2.2.1 M.2.2.2 :: GW) (rmd d) 0 0 n := callB_of n hts (good_code ok) rfl rfl rfl (hts _ ok.2.1) (hts _ hl) ok.2.2.1 ⟨hR.1, by have := hR.2.1; have := ok.2.2.2; show 8 + (M.2.2.1 + 11) + 60 * d ≤ _; omega⟩
  have hr := va_runS (p := p) (l := G.1) (e := e) (below := below) (meth := meth) (locs := locs) (cells := F.2.2.1.1) (slots := F.2.2.1.2) (H := H) (As := As.map (cv G)) (rest := rest.map (cv G)) (g := F0 m pc ls ((As.reverse ++ rest).map (cv G))) (Ts := GW) ⟨hf.1, hf.2.1, hf.2.2.2.2.1, hf.2.2.2.2.2.1, hts⟩ hC ⟨cb, hts _ hst⟩ ⟨ct_pre, fun U hU hW => ⟨rfl, by rw [hU]; exact hP, va_K.moved hW.alike hf.2.2.2.2.2.2.2.2.1, nwOk_warm hW hf.2.2.2.2.2.2.2.1⟩⟩ rfl (by rw [List.length_map]; exact hn) hlv.1 (by simp [List.map_reverse]) (room8 hrm) hd ⟨hR.2.2.1, hR.2.2.2⟩
  refine call_after hr hS (fun r I' J' H1 locs1 hk hP1 hS1 => ?_)
  rw [toList_cv]
  exact hk p e s m args below meth c H1 locs1 ls hf hlv hP1 hS1
theorem g_callSN {M : MT} {n d idx : Nat} {As rest : List Value} {host : String} (ok : okM M n) (hst : Cond.static M.1 ∈ GW) (hl : Cond.methodLinkNest F.1.1.cls idx M.1 host ∈ NWL) (hn : As.length = n) (hS0 : S = As.reverse ++ rest) (hrm : (rest.map fun v => v.category).sum ≤ 8) (hd : decode F.1.2.1 pc = .ok (.invokestatic idx, 3)) (hp : pc + 3 = pn) (hR : rOk F d) (hC : Ct G d M As (fun r I' J' => Go G F pn L (r.toList ++ rest) I' J') I J) : Go G F pc L S I J := by
  subst hp; subst hS0
  intro p e s m args below meth c H locs ls hf hlv hP hS
  have hts := hf.2.2.2.2.2.2.1
  have cb := va_cnB (R := F.2.1) (args := args) (s := s) (own := F.1.1.cls) (index := idx) (host := host) (y := M.1) (bytes := M.2.1) (maxL := M.2.2.1) (ret := M.2.2.2) (rm := rmd d) (mc := 0) (ms := 0) n hts (good_code ok) rfl rfl rfl (hf.2.2.2.2.2.2.2.1 _ hl) (hts _ ok.2.1) ok.2.2.1 ⟨hR.1, by have := hR.2.1; have := ok.2.2.2; show 8 + (M.2.2.1 + 11) + 60 * d ≤ _; omega⟩
  have hr := va_runSN (p := p) (l := G.1) (e := e) (below := below) (meth := meth) (locs := locs) (cells := F.2.2.1.1) (slots := F.2.2.1.2) (H := H) (As := As.map (cv G)) (rest := rest.map (cv G)) (g := F0 m pc ls ((As.reverse ++ rest).map (cv G))) (Ts := GW) ⟨hf.1, hf.2.1, hf.2.2.2.2.1, hf.2.2.2.2.2.1, hts⟩ hC ⟨cb, hts _ hst, trivial⟩ ⟨ct_pre, fun U hU hW => ⟨rfl, by rw [hU]; exact hP, va_K.moved hW.alike hf.2.2.2.2.2.2.2.2.1, nwOk_warm hW hf.2.2.2.2.2.2.2.1⟩⟩ rfl (by rw [List.length_map]; exact hn) hlv.1 (by simp [List.map_reverse]) (room8 hrm) hd ⟨hR.2.2.1, hR.2.2.2⟩
  refine call_after hr hS (fun r I' J' H1 locs1 hk hP1 hS1 => ?_)
  rw [toList_cv]
  exact hk p e s m args below meth c H1 locs1 ls hf hlv hP1 hS1
theorem g_callV {M : MT} {n d idx o ci q N : Nat} {fl : List Nat} {T : u_T} {As rest : List Value} (ok : okM M n) (hin : Cond.instanceMethod M.1 ∈ GW) (hse : Cond.selects M.1.cls M.1 M.1 ∈ GW) (hl : Cond.methodLink F.1.1.cls idx M.1 ∈ GW) (hsh : SHP[o]? = some (ci, q, fl)) (hci : ci < 20) (hc : clz[ci]? = some (M.1.cls, T, N)) (hn : As.length = n) (hS0 : S = As.reverse ++ .ref o :: rest) (hrm : (rest.map fun v => v.category).sum ≤ 8) (hd : decode F.1.2.1 pc = .ok (.invokevirtual idx, 3)) (hp : pc + 3 = pn) (hR : rOk F d) (hC : Ct G d M (.ref o :: As) (fun r I' J' => Go G F pn L (r.toList ++ rest) I' J') I J) : Go G F pc L S I J := by
  subst hp; subst hS0
  intro p e s m args below meth c H locs ls hf hlv hP hS
  have hts := hf.2.2.2.2.2.2.1
  have cb : CallB F.2.1 s args F.1.1.cls idx M.1 M.2.1 M.2.2.1 M.2.2.2 (Cond.code M.1 M.2.1 M.2.2.1 M.2.2.2 :: GW) (rmd d) 0 0 n := callB_of n hts (good_code ok) rfl rfl rfl (hts _ ok.2.1) (hts _ hl) ok.2.2.1 ⟨hR.1, by have := hR.2.1; have := ok.2.2.2; show 8 + (M.2.2.1 + 11) + 60 * d ≤ _; omega⟩
  have he := wld_at (G := G) (I := I) (J := J) hsh
  rw [cell_obj hci] at he
  have hr := va_runV (p := p) (l := G.1) (e := e) (below := below) (meth := meth) (locs := locs) (cells := F.2.2.1.1) (slots := F.2.2.1.2) (H := H) (As := As.map (cv G)) (b := gB G + o) (C := M.1.cls) (rest := rest.map (cv G)) (g := F0 m pc ls ((As.reverse ++ .ref o :: rest).map (cv G))) (Ts := GW) ⟨hf.1, hf.2.1, hf.2.2.2.2.1, hf.2.2.2.2.2.1, hts⟩ hC ⟨cb, hts _ hin, hts _ hse⟩ ⟨ct_pre, va_recv hf.2.2.2.2.2.2.2.2.1 hP hc he, fun U hU hW => ⟨rfl, by rw [hU]; exact hP, va_K.moved hW.alike hf.2.2.2.2.2.2.2.2.1, nwOk_warm hW hf.2.2.2.2.2.2.2.1⟩⟩ rfl (by rw [List.length_map]; exact hn) hlv.1 (by simp [List.map_reverse, cv]) (room8 hrm) hd ⟨hR.2.2.1, hR.2.2.2⟩
  refine call_after hr hS (fun r I' J' H1 locs1 hk hP1 hS1 => ?_)
  rw [toList_cv]
  exact hk p e s m args below meth c H1 locs1 ls hf hlv hP1 hS1
/-- a call whose named method is abstract: x is declared in Measure, M is what the receiver's class has -/
theorem g_callU {M : MT} {n d idx o ci q N : Nat} {x : MethodName} {fl : List Nat} {T : u_T} {As rest : List Value} (ok : okM M n) (hx : (parseMethodDescriptor x.desc).map (fun d => d.parameters.length) = some n) (hin : Cond.instanceMethod M.1 ∈ GW) (hse : Cond.selects M.1.cls x M.1 ∈ GW) (hsm : Cond.sameMethod x.cls "LevelBreaks$Measure" x.name x.desc ∈ GW) (hdc : Cond.declares ⟨"LevelBreaks$Measure", x.name, x.desc⟩ ∈ NWL) (hl : Cond.methodLink F.1.1.cls idx x ∈ GW) (hsh : SHP[o]? = some (ci, q, fl)) (hci : ci < 20) (hc : clz[ci]? = some (M.1.cls, T, N)) (hn : As.length = n) (hS0 : S = As.reverse ++ .ref o :: rest) (hrm : (rest.map fun v => v.category).sum ≤ 8) (hd : decode F.1.2.1 pc = .ok (.invokevirtual idx, 3)) (hp : pc + 3 = pn) (hR : rOk F d) (hC : Ct G d M (.ref o :: As) (fun r I' J' => Go G F pn L (r.toList ++ rest) I' J') I J) : Go G F pc L S I J := by
  subst hp; subst hS0
  intro p e s m args below meth c H locs ls hf hlv hP hS
  have hts := hf.2.2.2.2.2.2.1
  have hG : GoodIn GW (va_wsU F.1.1.cls idx M.1.cls "LevelBreaks$Measure" x M.1 (Cond.code M.1 M.2.1 M.2.2.1 M.2.2.2 :: GW)) := fun w hw => by
    unfold va_wsU at hw
    rcases List.mem_append.mp hw with h | h
    · simp only [List.mem_cons, List.not_mem_nil, or_false] at h
      rcases h with rfl | rfl | rfl | rfl | rfl
      · exact gw_good _ hl
      · exact gw_good _ hsm
      · exact gw_good _ hse
      · exact gw_good _ hin
      · exact gw_good _ ok.2.1
    · exact good_code ok w h
  have cb := va_cwA (R := F.2.1) (args := args) (s := s) (own := F.1.1.cls) (C := M.1.cls) (owner := "LevelBreaks$Measure") (index := idx) (x := x) (y := M.1) (bytes := M.2.1) (maxL := M.2.2.1) (ret := M.2.2.2) (rm := rmd d) (mc := 0) (ms := 0) n hts hG rfl rfl rfl (hf.2.2.2.2.2.2.2.1 _ hdc) ⟨by decide, by decide, hx⟩ ⟨hR.1, by have := hR.2.1; have := ok.2.2.2; show 8 + (M.2.2.1 + 11) + 60 * d ≤ _; omega⟩
  have he := wld_at (G := G) (I := I) (J := J) hsh
  rw [cell_obj hci] at he
  have hr := va_runU (p := p) (l := G.1) (e := e) (below := below) (meth := meth) (locs := locs) (cells := F.2.2.1.1) (slots := F.2.2.1.2) (H := H) (As := As.map (cv G)) (b := gB G + o) (C := M.1.cls) (rest := rest.map (cv G)) (g := F0 m pc ls ((As.reverse ++ .ref o :: rest).map (cv G))) (Ts := GW) ⟨hf.1, hf.2.1, hf.2.2.2.2.1, hf.2.2.2.2.2.1, hts⟩ hC cb ⟨ct_pre, va_recv hf.2.2.2.2.2.2.2.2.1 hP hc he, fun U hU hW => ⟨rfl, by rw [hU]; exact hP, va_K.moved hW.alike hf.2.2.2.2.2.2.2.2.1, nwOk_warm hW hf.2.2.2.2.2.2.2.1⟩⟩ rfl (by rw [List.length_map]; exact hn) hlv.1 (by simp [List.map_reverse, cv]) (room8 hrm) hd ⟨hR.2.2.1, hR.2.2.2⟩
  refine call_after hr hS (fun r I' J' H1 locs1 hk hP1 hS1 => ?_)
  rw [toList_cv]
  exact hk p e s m args below meth c H1 locs1 ls hf hlv hP1 hS1
variable {M : MT} {d : Nat} {P : PT}
theorem g_iret {v : Int32} (hr : M.2.2.2 = some .int) (hd : decode M.2.1 pc = .ok (.ireturn, 1)) (h : P (some (.int v)) I J) : Go G (fr G M d P) pc L [.int v] I J := by
  intro p e s m args below meth c H locs ls hf hl hP hS
  have hlocks : meth.locks = false := hf.2.2.2.1
  exact W.iret hf.1 hf.2.1 (hf.2.2.1.trans hr) (fun t ht _ => ⟨⟨some (.int v), I, J, rfl, h, by rw [ht]; exact hP⟩, hS.F ht⟩) hS.2.2 hd
theorem g_zret {v : Int32} (hr : M.2.2.2 = some .boolean) (hb : v = 0 ∨ v = 1) (hd : decode M.2.1 pc = .ok (.ireturn, 1)) (h : P (some (.int v)) I J) : Go G (fr G M d P) pc L [.int v] I J := by
  intro p e s m args below meth c H locs ls hf hl hP hS
  have hlocks : meth.locks = false := hf.2.2.2.1
  exact W.zret hf.1 hf.2.1 (hf.2.2.1.trans hr) (by rcases hb with rfl | rfl <;> rfl) (fun t ht _ => ⟨⟨some (.int v), I, J, rfl, h, by rw [ht]; exact hP⟩, hS.F ht⟩) hS.2.2 hd
theorem g_lret {v : Int64} (hr : M.2.2.2 = some .long) (hd : decode M.2.1 pc = .ok (.lreturn, 1)) (h : P (some (.long v)) I J) : Go G (fr G M d P) pc L [.long v] I J := by
  intro p e s m args below meth c H locs ls hf hl hP hS
  have hlocks : meth.locks = false := hf.2.2.2.1
  exact W.lret hf.1 hf.2.1 (hf.2.2.1.trans hr) (fun t ht _ => ⟨⟨some (.long v), I, J, rfl, h, by rw [ht]; exact hP⟩, hS.F ht⟩) hS.2.2 hd
theorem g_vret (hr : M.2.2.2 = none) (hd : decode M.2.1 pc = .ok (.return_, 1)) (h : P none I J) : Go G (fr G M d P) pc L [] I J := by
  intro p e s m args below meth c H locs ls hf hl hP hS
  have hlocks : meth.locks = false := hf.2.2.2.1
  exact W.vret hf.1 hf.2.1 (hf.2.2.1.trans hr) (fun t ht _ => ⟨⟨none, I, J, rfl, h, by rw [ht]; exact hP⟩, hS.F ht⟩) hS.2.2 hd
theorem g_aret {o : Nat} {C : String} (hr : M.2.2.2 = some (.object C)) (hd : decode M.2.1 pc = .ok (.areturn, 1)) (h : P (some (.ref o)) I J) : Go G (fr G M d P) pc L [.ref o] I J := by
  intro p e s m args below meth c H locs ls hf hl hP hS
  have hlocks : meth.locks = false := hf.2.2.2.1
  exact W.aret (v := .ref (gB G + o)) hf.1 hf.2.1 (hf.2.2.1.trans hr) (Or.inl ⟨_, rfl⟩) (Or.inr ⟨_, rfl⟩) (fun t ht _ => ⟨⟨some (.ref o), I, J, rfl, h, by rw [ht]; exact hP⟩, hS.F ht⟩) hS.2.2 hd
end
