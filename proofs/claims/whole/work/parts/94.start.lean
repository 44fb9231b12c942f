/-! ===== where the law begins (printed) ===== -/
def LI0 : List (Nat → Int32) := [fun k => if k = 9 then 999 else 0, fun _ => 0, fun _ => 0, fun _ => 0, fun _ => 0, fun _ => 0, fun _ => 0, fun _ => 0, fil (-9999) 40, fun _ => 0, fun _ => 0, fun _ => 0, fun _ => 0, fil (-9999) 40, fun _ => 0, fun _ => 0, fun _ => 0, fun _ => 0, fil (-9999) 40, fun _ => 0, fun _ => 0, fun _ => 0, fun _ => 0, fil (-9999) 40, fun _ => 0, fun _ => 0, fun _ => 0, fun _ => 0, fil (-9999) 40, fun _ => 0, fun _ => 0, fun _ => 0, fil 1 4, fun _ => 0, fun _ => 0, fun _ => 0, fun _ => 0, fun _ => 0, fun _ => 0, fun _ => 0, fun _ => 0, fun _ => 0, fun _ => 0, fun _ => 0, fun _ => 0, fun _ => 0, fun _ => 0, fun _ => 0, fun _ => 0, fun _ => 0, fun _ => 0, fun _ => 0, fun _ => 0, fun _ => 0, fun _ => 0, fun _ => 0, fun _ => 0, fun _ => 0, fun _ => 0, fun k => if k = 2 then (-1) else 0, fun _ => 0, fun k => if k = 2 then (-1) else 0, fun _ => 0, fun k => if k = 2 then (-1) else 0, fun _ => 0, fun k => if k = 2 then (-1) else 0, fun _ => 0, fun k => if k = 5 then 999 else 0, fun _ => 0, fun _ => 0, fun _ => 0, fun _ => 0, fil 1 4, fun _ => 0, fun _ => 0, fun _ => 0, fun _ => 0, fun _ => 0, fun _ => 0, fun _ => 0, fun _ => 0, fun _ => 0, fun _ => 0, fun _ => 0, fun _ => 0, fun _ => 0, fun _ => 0, fun _ => 0, fun _ => 0, fun _ => 0, fun _ => 0, fun _ => 0, fun _ => 0, fun _ => 0, fun _ => 0, fun _ => 0, fun _ => 0, fun _ => 0, fun _ => 0, fun _ => 0]
def LJ0 : List (Nat → Int64) := [fun _ => 0, fun _ => 0, fun _ => 0, fun _ => 0, fun _ => 0, fun _ => 0, fun _ => 0, fun _ => 0, fun _ => 0, fun _ => 0, fun _ => 0, fun _ => 0, fun _ => 0, fun _ => 0, fun _ => 0, fun _ => 0, fun _ => 0, fun _ => 0, fun _ => 0, fun _ => 0, fun _ => 0, fun _ => 0, fun _ => 0, fun _ => 0, fun _ => 0, fun _ => 0, fun _ => 0, fun _ => 0, fun _ => 0, fun _ => 0, fun _ => 0, fun _ => 0, fun _ => 0, fun _ => 0, fun _ => 0, fun _ => 0, fun _ => 0, fun _ => 0, fun k => if k = 1 then (20) else 0, fun _ => 0, fun _ => 0, fun _ => 0, fun _ => 0, fun _ => 0, fun _ => 0, fun _ => 0, fun _ => 0, fun _ => 0, fun _ => 0, fun _ => 0, fun _ => 0, fun _ => 0, fun _ => 0, fun _ => 0, fun _ => 0, fun _ => 0, fun _ => 0, fun _ => 0, fun _ => 0, fun _ => 0, fun _ => 0, fun _ => 0, fun _ => 0, fun _ => 0, fun _ => 0, fun _ => 0, fun _ => 0, fun _ => 0, fun _ => 0, fun _ => 0, fun _ => 0, fun _ => 0, fun _ => 0, fun _ => 0, fun _ => 0, fun _ => 0, fun _ => 0, fun _ => 0, fun _ => 0, fun _ => 0, fun _ => 0, fun _ => 0, fun _ => 0, fun _ => 0, fun _ => 0, fun _ => 0, fun _ => 0, fun _ => 0, fun _ => 0, fun _ => 0, fun _ => 0, fun _ => 0, fun _ => 0, fun _ => 0, fun _ => 0, fun _ => 0, fun _ => 0, fun _ => 0, fun _ => 0, fun _ => 0]
def I0 : MI := fun o => LI0.getD o (fun _ => 0)
def J0 : MJ := fun o => LJ0.getD o (fun _ => 0)
def mapS {α β : Type} (f : Nat → α → β) (o : Nat) (l : List α) : List β := match l with
  | [] => []
  | a :: t => f o a :: mapS f (o + 1) t
theorem mapS_eq {α β : Type} : ∀ (l : List α) (f : Nat → α → β) (o : Nat), l.mapIdx (fun i a => f (o + i) a) = mapS f o l := by
  intro l
  induction l with
  | nil => intro f o; rfl
  | cons a t ih =>
    intro f o
    rw [List.mapIdx_cons]
    show _ = f o a :: mapS f (o + 1) t
    rw [← ih f (o + 1)]
    congr 1
    apply List.ext_getElem?
    intro i
    simp only [List.getElem?_mapIdx]
    cases t[i]? with
    | none => rfl
    | some x => simp only [Option.map_some]; congr 2; omega
theorem mcons {α β : Type} {f : Nat → α → β} {o o' : Nat} {a : α} {t : List α} {c : β} {u : List β} (ho : o + 1 = o') (h : f o a = c) (ht : mapS f o' t = u) : mapS f o (a :: t) = c :: u := by
  subst ho; subst h; subst ht; rfl
theorem ar_of {B : Nat} {l : List Nat} : (fun j : Nat => (l[j]?).map fun r => B + r) = fun j : Nat => (l.map fun r => B + r)[j]? := by funext j; simp
theorem cell_o {G : GC} {I : MI} {J : MJ} {o ci n : Nat} {l : List Nat} (h : ci < 20) : cellOf G I J o (ci, n, l) = .inr (ci, mapS (fun k c => cv G (fvA I J o k c)) 0 l) := by
  rw [← mapS_eq]
  simp only [cellOf, if_pos h, Nat.zero_add]
abbrev cs_all (G : GC) : List va_E := [.inr (9, [.ref (gB G + 1), .ref (gB G + 6), .ref (gB G + 27), .ref (gB G + 32), .ref (gB G + 33), .ref (gB G + 50), .ref (gB G + 51), .ref (gB G + 53), .ref (gB G + 58), .int 999, .int 0]), .inr (3, [.ref (gB G + 2), .ref (gB G + 3), .ref (gB G + 4), .ref (gB G + 5), .int 0]), ai G 200 (fun _ => 0), ai G 200 (fun _ => 0), ai G 200 (fun _ => 0), ai G 200 (fun _ => 0), ar G 4 4 [gB G + 7, gB G + 12, gB G + 17, gB G + 22], .inr (6, [.ref (gB G + 8), .ref (gB G + 9), .ref (gB G + 10), .ref (gB G + 11), .int 0]), ai G 40 (fil (-9999) 40), ai G 40 (fun _ => 0), ai G 40 (fun _ => 0), ai G 40 (fun _ => 0), .inr (6, [.ref (gB G + 13), .ref (gB G + 14), .ref (gB G + 15), .ref (gB G + 16), .int 0]), ai G 40 (fil (-9999) 40), ai G 40 (fun _ => 0), ai G 40 (fun _ => 0), ai G 40 (fun _ => 0), .inr (6, [.ref (gB G + 18), .ref (gB G + 19), .ref (gB G + 20), .ref (gB G + 21), .int 0]), ai G 40 (fil (-9999) 40), ai G 40 (fun _ => 0), ai G 40 (fun _ => 0), ai G 40 (fun _ => 0), .inr (6, [.ref (gB G + 23), .ref (gB G + 24), .ref (gB G + 25), .ref (gB G + 26), .int 0]), ai G 40 (fil (-9999) 40), ai G 40 (fun _ => 0), ai G 40 (fun _ => 0), ai G 40 (fun _ => 0), .inr (6, [.ref (gB G + 28), .ref (gB G + 29), .ref (gB G + 30), .ref (gB G + 31), .int 0]), ai G 40 (fil (-9999) 40), ai G 40 (fun _ => 0), ai G 40 (fun _ => 0), ai G 40 (fun _ => 0), ai G 4 (fil 1 4), .inr (2, [.ref (gB G + 34), .ref (gB G + 42), .ref (gB G + 43), .ref (gB G + 44), .ref (gB G + 45), .ref (gB G + 46), .ref (gB G + 47), .ref (gB G + 48), .int 0, .int 0, .long 0, .long 0, .ref (gB G + 49)]), ar G 3 4 [gB G + 35, gB G + 36, gB G + 38, gB G + 39], .inr (8, [.int 0, .long 0, .long 0, .long 0, .long 0, .long 0, .long 0]), .inr (4, [.int 0, .ref (gB G + 37), .long 0]), ai G 40 (fun _ => 0), .inr (8, [.int 0, .long 20, .long 0, .long 0, .long 0, .long 0, .long 0]), .inr (5, [.int 0, .ref (gB G + 40), .ref (gB G + 41), .int 0]), ai G 40 (fun _ => 0), ai G 41 (fun _ => 0), aj G 861, aj G 861, ai G 861 (fun _ => 0), ai G 861 (fun _ => 0), aj G 40, aj G 40, aj G 40, ai G 6 (fun _ => 0), ai G 6 (fun _ => 0), .inr (0, [.ref (gB G + 52)]), ai G 40 (fun _ => 0), .inr (1, [.ref (gB G + 54), .int 0, .ref (gB G + 55), .ref (gB G + 56), .ref (gB G + 57), .int 0, .int 0, .int 0]), ai G 100 (fun _ => 0), ai G 40 (fun _ => 0), ai G 40 (fun _ => 0), ai G 40 (fun _ => 0), ar G 5 4 [gB G + 59, gB G + 61, gB G + 63, gB G + 65], .inr (7, [.ref (gB G + 60), .int 0, .int (-1)]), ai G 60 (fun _ => 0), .inr (7, [.ref (gB G + 62), .int 0, .int (-1)]), ai G 60 (fun _ => 0), .inr (7, [.ref (gB G + 64), .int 0, .int (-1)]), ai G 60 (fun _ => 0), .inr (7, [.ref (gB G + 66), .int 0, .int (-1)]), ai G 60 (fun _ => 0), .inr (10, [.int 0, .ref (gB G + 68), .ref (gB G + 69), .ref (gB G + 70), .ref (gB G + 71), .int 999, .ref (gB G + 72), .int 0, .ref (gB G + 73), .ref (gB G + 74), .ref (gB G + 75), .ref (gB G + 76), .ref (gB G + 77), .ref (gB G + 78), .ref (gB G + 79), .ref (gB G + 80), .ref (gB G + 81), .ref (gB G + 82), .long 0, .long 0, .long 0, .ref (gB G + 83), .ref (gB G + 84), .ref (gB G + 85), .ref (gB G + 86), .int 0, .ref (gB G + 87), .ref (gB G + 88), .ref (gB G + 89), .int 0, .ref (gB G + 90), .int 0, .ref (gB G + 91), .int 0, .int 0, .int 0, .ref (gB G + 92), .ref (gB G + 93), .ref (gB G + 94), .ref (gB G + 95), .ref (gB G + 96), .ref (gB G + 97), .ref (gB G + 98), .ref (gB G + 99), .int 0]), ai G 200 (fun _ => 0), ai G 200 (fun _ => 0), ai G 200 (fun _ => 0), ai G 200 (fun _ => 0), ai G 4 (fil 1 4), ai G 40 (fun _ => 0), ai G 40 (fun _ => 0), ai G 40 (fun _ => 0), aj G 1600, aj G 1600, aj G 1600, ai G 40 (fun _ => 0), aj G 287, aj G 287, aj G 287, ai G 7 (fun _ => 0), aj G 1600, aj G 287, ai G 6 (fun _ => 0), ai G 40 (fun _ => 0), ai G 40 (fun _ => 0), ai G 6 (fun _ => 0), az G 40, ai G 100 (fun _ => 0), ai G 40 (fun _ => 0), ai G 40 (fun _ => 0), ai G 40 (fun _ => 0), az G 4, ai G 4 (fun _ => 0), ai G 4 (fun _ => 0), ai G 240 (fun _ => 0), ai G 60 (fun _ => 0)]
set_option maxRecDepth 100000 in
theorem cells_all (G : GC) : mapS (fun o sh => cellOf G I0 J0 o sh) 0 SHP = cs_all G := by
  refine mcons (o' := 1) rfl ((cell_o (by decide)).trans rfl) ?_
  refine mcons (o' := 2) rfl ((cell_o (by decide)).trans rfl) ?_
  refine mcons (o' := 3) rfl rfl ?_
  refine mcons (o' := 4) rfl rfl ?_
  refine mcons (o' := 5) rfl rfl ?_
  refine mcons (o' := 6) rfl rfl ?_
  refine mcons (o' := 7) rfl (congrArg (fun f => (Sum.inl (G.2.2.2.1 4, 4, .inr (.inr (.inr (.inr f)))) : va_E)) (ar_of (B := gB G) (l := [7, 12, 17, 22]))) ?_
  refine mcons (o' := 8) rfl ((cell_o (by decide)).trans rfl) ?_
  refine mcons (o' := 9) rfl rfl ?_
  refine mcons (o' := 10) rfl rfl ?_
  refine mcons (o' := 11) rfl rfl ?_
  refine mcons (o' := 12) rfl rfl ?_
  refine mcons (o' := 13) rfl ((cell_o (by decide)).trans rfl) ?_
  refine mcons (o' := 14) rfl rfl ?_
  refine mcons (o' := 15) rfl rfl ?_
  refine mcons (o' := 16) rfl rfl ?_
  refine mcons (o' := 17) rfl rfl ?_
  refine mcons (o' := 18) rfl ((cell_o (by decide)).trans rfl) ?_
  refine mcons (o' := 19) rfl rfl ?_
  refine mcons (o' := 20) rfl rfl ?_
  refine mcons (o' := 21) rfl rfl ?_
  refine mcons (o' := 22) rfl rfl ?_
  refine mcons (o' := 23) rfl ((cell_o (by decide)).trans rfl) ?_
  refine mcons (o' := 24) rfl rfl ?_
  refine mcons (o' := 25) rfl rfl ?_
  refine mcons (o' := 26) rfl rfl ?_
  refine mcons (o' := 27) rfl rfl ?_
  refine mcons (o' := 28) rfl ((cell_o (by decide)).trans rfl) ?_
  refine mcons (o' := 29) rfl rfl ?_
  refine mcons (o' := 30) rfl rfl ?_
  refine mcons (o' := 31) rfl rfl ?_
  refine mcons (o' := 32) rfl rfl ?_
  refine mcons (o' := 33) rfl rfl ?_
  refine mcons (o' := 34) rfl ((cell_o (by decide)).trans rfl) ?_
  refine mcons (o' := 35) rfl (congrArg (fun f => (Sum.inl (G.2.2.2.1 3, 4, .inr (.inr (.inr (.inr f)))) : va_E)) (ar_of (B := gB G) (l := [35, 36, 38, 39]))) ?_
  refine mcons (o' := 36) rfl ((cell_o (by decide)).trans rfl) ?_
  refine mcons (o' := 37) rfl ((cell_o (by decide)).trans rfl) ?_
  refine mcons (o' := 38) rfl rfl ?_
  refine mcons (o' := 39) rfl ((cell_o (by decide)).trans rfl) ?_
  refine mcons (o' := 40) rfl ((cell_o (by decide)).trans rfl) ?_
  refine mcons (o' := 41) rfl rfl ?_
  refine mcons (o' := 42) rfl rfl ?_
  refine mcons (o' := 43) rfl rfl ?_
  refine mcons (o' := 44) rfl rfl ?_
  refine mcons (o' := 45) rfl rfl ?_
  refine mcons (o' := 46) rfl rfl ?_
  refine mcons (o' := 47) rfl rfl ?_
  refine mcons (o' := 48) rfl rfl ?_
  refine mcons (o' := 49) rfl rfl ?_
  refine mcons (o' := 50) rfl rfl ?_
  refine mcons (o' := 51) rfl rfl ?_
  refine mcons (o' := 52) rfl ((cell_o (by decide)).trans rfl) ?_
  refine mcons (o' := 53) rfl rfl ?_
  refine mcons (o' := 54) rfl ((cell_o (by decide)).trans rfl) ?_
  refine mcons (o' := 55) rfl rfl ?_
  refine mcons (o' := 56) rfl rfl ?_
  refine mcons (o' := 57) rfl rfl ?_
  refine mcons (o' := 58) rfl rfl ?_
  refine mcons (o' := 59) rfl (congrArg (fun f => (Sum.inl (G.2.2.2.1 5, 4, .inr (.inr (.inr (.inr f)))) : va_E)) (ar_of (B := gB G) (l := [59, 61, 63, 65]))) ?_
  refine mcons (o' := 60) rfl ((cell_o (by decide)).trans rfl) ?_
  refine mcons (o' := 61) rfl rfl ?_
  refine mcons (o' := 62) rfl ((cell_o (by decide)).trans rfl) ?_
  refine mcons (o' := 63) rfl rfl ?_
  refine mcons (o' := 64) rfl ((cell_o (by decide)).trans rfl) ?_
  refine mcons (o' := 65) rfl rfl ?_
  refine mcons (o' := 66) rfl ((cell_o (by decide)).trans rfl) ?_
  refine mcons (o' := 67) rfl rfl ?_
  refine mcons (o' := 68) rfl ((cell_o (by decide)).trans rfl) ?_
  refine mcons (o' := 69) rfl rfl ?_
  refine mcons (o' := 70) rfl rfl ?_
  refine mcons (o' := 71) rfl rfl ?_
  refine mcons (o' := 72) rfl rfl ?_
  refine mcons (o' := 73) rfl rfl ?_
  refine mcons (o' := 74) rfl rfl ?_
  refine mcons (o' := 75) rfl rfl ?_
  refine mcons (o' := 76) rfl rfl ?_
  refine mcons (o' := 77) rfl rfl ?_
  refine mcons (o' := 78) rfl rfl ?_
  refine mcons (o' := 79) rfl rfl ?_
  refine mcons (o' := 80) rfl rfl ?_
  refine mcons (o' := 81) rfl rfl ?_
  refine mcons (o' := 82) rfl rfl ?_
  refine mcons (o' := 83) rfl rfl ?_
  refine mcons (o' := 84) rfl rfl ?_
  refine mcons (o' := 85) rfl rfl ?_
  refine mcons (o' := 86) rfl rfl ?_
  refine mcons (o' := 87) rfl rfl ?_
  refine mcons (o' := 88) rfl rfl ?_
  refine mcons (o' := 89) rfl rfl ?_
  refine mcons (o' := 90) rfl rfl ?_
  refine mcons (o' := 91) rfl rfl ?_
  refine mcons (o' := 92) rfl rfl ?_
  refine mcons (o' := 93) rfl rfl ?_
  refine mcons (o' := 94) rfl rfl ?_
  refine mcons (o' := 95) rfl rfl ?_
  refine mcons (o' := 96) rfl rfl ?_
  refine mcons (o' := 97) rfl rfl ?_
  refine mcons (o' := 98) rfl rfl ?_
  refine mcons (o' := 99) rfl rfl ?_
  refine mcons (o' := 100) rfl rfl ?_
  rfl
theorem wq_all (G : GC) : wq (gB G) (cs_all G) = wld G I0 J0 := by
  rw [← cells_all, ← mapS_eq]
  unfold wq wld
  apply List.ext_getElem?
  intro i
  simp only [List.getElem?_mapIdx, Option.map_map, Nat.zero_add]
  cases SHP[i]? with
  | none => rfl
  | some x => rfl
def st0 : ST := ([], 999, [1, 1, 1, 1], [], 0, [none, none, none, none])
theorem vwl_0 (r dy t : Int32) : vwl [] r dy t = -9999 := rfl
theorem pdd_0 (r : Nat) (t : Int32) : pdd [] r t = [] := by
  refine List.eq_nil_iff_forall_not_mem.mpr fun k hk => ?_
  exact absurd (vwl_0 _ _ _) (dys_mem.mp hk).2
theorem PH_0 {o r : Nat} {t : Int32} {I : MI} (h : I o 4 = 0) : PH o (pdd [] r t) (pvv [] r t) I := by
  have e : pvv [] r t = [] := by unfold pvv; rw [pdd_0]; rfl
  rw [e, pdd_0]
  exact ⟨h, rfl, fun k hk => absurd hk (Nat.not_lt_zero _)⟩
theorem RC_0 : RC st0 I0 J0 := by
  refine ⟨⟨Nat.zero_le _, rfl, fun k hk => absurd hk (Nat.not_lt_zero _)⟩, rfl, fun r hr => ?_, fun r hr => ?_, ⟨rfl, fun k hk => absurd hk (Nat.not_lt_zero _)⟩, rfl, fun s hs => ?_, by decide, by decide⟩
  · have hf : ∀ k, k < 40 → fil (-9999) 40 k = -9999 := fun k hk => if_pos hk
    match r, hr with
    | 0, _ => exact ⟨fun k hk => hf k hk, PH_0 rfl⟩
    | 1, _ => exact ⟨fun k hk => hf k hk, PH_0 rfl⟩
    | 2, _ => exact ⟨fun k hk => hf k hk, PH_0 rfl⟩
    | 3, _ => exact ⟨fun k hk => hf k hk, PH_0 rfl⟩
  · match r, hr with
    | 0, _ => rfl
    | 1, _ => rfl
    | 2, _ => rfl
    | 3, _ => rfl
  · match s, hs with
    | 0, _ => rfl
    | 1, _ => rfl
    | 2, _ => rfl
    | 3, _ => rfl
theorem RM_0 : RM st0 I0 J0 := by
  refine ⟨⟨Nat.zero_le _, rfl, fun k hk => absurd hk (Nat.not_lt_zero _)⟩, rfl, fun r hr => ?_, ⟨rfl, fun k hk => absurd hk (Nat.not_lt_zero _)⟩, rfl, fun s hs => ?_⟩
  · match r, hr with
    | 0, _ => rfl
    | 1, _ => rfl
    | 2, _ => rfl
    | 3, _ => rfl
  · match s, hs with
    | 0, _ => rfl
    | 1, _ => rfl
    | 2, _ => rfl
    | 3, _ => rfl
theorem okS_0 : okS st0 := by
  refine ⟨⟨fun e he => absurd he List.not_mem_nil, List.Pairwise.nil⟩, by decide, ⟨rfl, ?_⟩, ⟨Nat.zero_le _, fun e he => absurd he List.not_mem_nil⟩, rfl, ?_⟩
  · intro m hm
    simp only [st0, List.mem_cons, List.not_mem_nil, or_false, or_self] at hm
    subst hm
    decide
  · intro q hq
    simp only [st0, List.mem_cons, List.not_mem_nil, or_false, or_self] at hq
    subst hq
    trivial
theorem GoB.ofGo {G : GC} {F : FT} {pc : Nat} {L : List (Option Value)} {S : List Value} {Y : List va_E} {c k : Nat} {I : MI} {J : MJ} (hY : wq (gB G) Y = wld G I J) (h : Go G F pc L S I J) : GoB G F pc L S Y c k := by
  intro p e s m args below meth cd H locs ls cells slots hx
  have h1 := hx.cc; have h2 := hx.ks
  refine W.widen (k := F.2.2.1.1) (n := F.2.2.1.2) (Nat.le_trans (Nat.le_add_right _ _) h1) (Nat.le_trans (Nat.le_add_right _ _) h2) ?_
  exact h p e s m args below meth cd H locs ls hx.fx hx.lv (hY ▸ hx.pp) hx.ss
set_option maxRecDepth 100000 in
theorem law_begin {G : GC} {n : Nat} {xs : Nat → Int32} (hn : n ≤ 4096) : GoB G (FL G n xs) 0 [some .null, none, none, none] [] [] 600000 7302250 := by
  refine b_new (n := 0) (c := 599999) (k := 7302239) (C := "LevelBreaks") (T := T_LB) (ty := t_LB) (N := 11) (ci := 9) (fs := [.null, .null, .null, .null, .null, .null, .null, .null, .null, .int 0, .int 0]) (gw_1 17 rfl rfl) (gw_1 18 rfl rfl) (gw_1 1 rfl rfl) i_LB p_LB rfl rfl rfl (show decode code 0 = .ok (.new 7, 3) by decide +kernel) rfl ?_
  refine b_dup (show decode code 3 = .ok (.dup, 1) by decide +kernel) rfl rfl ?_
  refine b_call (M := m_LB_init) (As := []) (rest := [.ref 0]) (o := 0) (d := 4) (mc := 1000) (ms := 300000) (c := 598999) (k := 7002239) ok_LB_init in_LB_init rfl rfl (Or.inl ml_LW_9) rfl rfl rfl (by decide) rfl (show decode code 4 = .ok (.invokespecial 9, 3) by decide +kernel) rfl ⟨Nat.le_of_ble_eq_true rfl, Nat.le_of_ble_eq_true rfl⟩ (k_LB (G := shB G 0) (d := 0)) ?_
  refine b_Y (Y2 := cs_LB G) rfl ?_
  refine b_astore_n (show decode code 7 = .ok (.astore_n 1, 1) by decide +kernel) rfl rfl (i := 1) (Nat.le_of_ble_eq_true rfl) rfl ?_
  refine b_new (n := 67) (c := 598998) (k := 7002194) (C := "LevelBreaksModel") (T := T_RM) (ty := t_RM) (N := 45) (ci := 10) (fs := [.int 0, .null, .null, .null, .null, .int 0, .null, .int 0, .null, .null, .null, .null, .null, .null, .null, .null, .null, .null, .long 0, .long 0, .long 0, .null, .null, .null, .null, .int 0, .null, .null, .null, .int 0, .null, .int 0, .null, .int 0, .int 0, .int 0, .null, .null, .null, .null, .null, .null, .null, .null, .int 0]) (gw_4 137 rfl rfl) (gw_4 138 rfl rfl) (gw_1 12 rfl rfl) i_RM p_RM rfl rfl rfl (show decode code 8 = .ok (.new 10, 3) by decide +kernel) rfl ?_
  refine b_dup (show decode code 11 = .ok (.dup, 1) by decide +kernel) rfl rfl ?_
  refine b_call (M := m_RM_init) (As := []) (rest := [.ref 67]) (o := 67) (d := 1) (mc := 100) (ms := 20000) (c := 598898) (k := 6982194) ok_RM_init in_RM_init rfl rfl (Or.inl ml_LW_12) rfl rfl rfl (by decide) rfl (show decode code 12 = .ok (.invokespecial 12, 3) by decide +kernel) rfl ⟨Nat.le_of_ble_eq_true rfl, Nat.le_of_ble_eq_true rfl⟩ (k_RM (G := shB G 67) (d := 0)) ?_
  refine b_Y (Y2 := cs_all G) rfl ?_
  refine b_astore_n (show decode code 15 = .ok (.astore_n 2, 1) by decide +kernel) rfl rfl (i := 2) (Nat.le_of_ble_eq_true rfl) rfl ?_
  refine b_iconst (v := 0) (show decode code 16 = .ok (.iconst 0, 1) by decide +kernel) rfl (by decide) ?_
  refine b_istore_n (show decode code 17 = .ok (.istore_n 3, 1) by decide +kernel) rfl rfl (i := 3) (Nat.le_of_ble_eq_true rfl) rfl ?_
  exact GoB.ofGo (wq_all G) (la_loop hn 513 0 rfl RC_0 RM_0 okS_0)
theorem know_cls {s : State} {args : Array Value} (hts : ∀ w ∈ GW, w.before args s = true) : ∃ D : va_G, ∀ (c : Nat) (q : vw_C), clz[c]? = some q → u_Kn s q.1 q.2.1 q.2.2 (D.1 c) (D.2 c) := by
  have h : ∀ c : Nat, ∃ x : ClassId × (Nat → Nat), ∀ q : vw_C, clz[c]? = some q → u_Kn s q.1 q.2.1 q.2.2 x.1 x.2 := by
    intro c
    match c with
    | 0 => obtain ⟨a, b, h⟩ := u_known (n := 1) hts i_AL (hts _ (gw_1 210 rfl rfl)); exact ⟨(a, b), fun q hq => by cases hq; exact h⟩
    | 1 => obtain ⟨a, b, h⟩ := u_known (n := 8) hts i_BF (hts _ (gw_1 221 rfl rfl)); exact ⟨(a, b), fun q hq => by cases hq; exact h⟩
    | 2 => obtain ⟨a, b, h⟩ := u_known (n := 13) hts i_CU (hts _ (gw_1 91 rfl rfl)); exact ⟨(a, b), fun q hq => by cases hq; exact h⟩
    | 3 => obtain ⟨a, b, h⟩ := u_known (n := 5) hts i_LE (hts _ (gw_1 26 rfl rfl)); exact ⟨(a, b), fun q hq => by cases hq; exact h⟩
    | 4 => obtain ⟨a, b, h⟩ := u_known (n := 3) hts i_MI (hts _ (gw_1 137 rfl rfl)); exact ⟨(a, b), fun q hq => by cases hq; exact h⟩
    | 5 => obtain ⟨a, b, h⟩ := u_known (n := 4) hts i_ON (hts _ (gw_1 151 rfl rfl)); exact ⟨(a, b), fun q hq => by cases hq; exact h⟩
    | 6 => obtain ⟨a, b, h⟩ := u_known (n := 5) hts i_PO (hts _ (gw_1 52 rfl rfl)); exact ⟨(a, b), fun q hq => by cases hq; exact h⟩
    | 7 => obtain ⟨a, b, h⟩ := u_known (n := 3) hts i_SH (hts _ (gw_2 15 rfl rfl)); exact ⟨(a, b), fun q hq => by cases hq; exact h⟩
    | 8 => obtain ⟨a, b, h⟩ := u_known (n := 7) hts i_SU (hts _ (gw_1 99 rfl rfl)); exact ⟨(a, b), fun q hq => by cases hq; exact h⟩
    | 9 => obtain ⟨a, b, h⟩ := u_known (n := 11) hts i_LB (hts _ (gw_1 18 rfl rfl)); exact ⟨(a, b), fun q hq => by cases hq; exact h⟩
    | 10 => obtain ⟨a, b, h⟩ := u_known (n := 45) hts i_RM (hts _ (gw_4 138 rfl rfl)); exact ⟨(a, b), fun q hq => by cases hq; exact h⟩
    | j + 11 => exact ⟨(0, fun _ => 0), fun q hq => by simp at hq⟩
  exact ⟨(fun c => (Classical.choose (h c)).1, fun c => (Classical.choose (h c)).2), fun c q hq => Classical.choose_spec (h c) q hq⟩
theorem tb_in {w : Cond} (i : Nat) (h : tables_1[i]? = some w) : w ∈ lw_tbl := List.mem_append_right _ (List.mem_of_getElem? h)
theorem know_arr {s : State} {args : Array Value} (hts : ∀ w ∈ lw_tbl, w.before args s = true) : ∃ A : Nat → ClassId, ∀ (k : Nat) (q : ClassId × FieldType), ([(A 0, .int), (A 1, .long), (A 2, .boolean), (A 3, .object "LevelBreaks$Measure"), (A 4, .object "LevelBreaks$Points"), (A 5, .object "LevelBreaks$Sheet")] : List (ClassId × FieldType))[k]? = some q → ArrOfT s q.1 q.2 ∧ va_RA s q.1 q.2 := by
  have hp : ∀ t : FieldType, (∀ C, t ≠ .object C) → (Cond.arrayClass t).before args s = true → ∃ c : ClassId, ArrOfT s c t ∧ va_RA s c t := by
    intro t ht h
    obtain ⟨c, kA, comp, h1, h2, h3⟩ := Cond.arrayClass_spec h
    refine ⟨c, fun n z => ⟨fun k h => (by cases h), kA, h2, comp, h3⟩, ?_⟩
    cases t with
    | object C => exact absurd rfl (ht C)
    | _ => exact h1
  have hq : ∀ C : String, (Cond.arrayOver (.object C)).before args s = true → ∃ c : ClassId, ArrOfT s c (.object C) ∧ va_RA s c (.object C) := by
    intro C h
    obtain ⟨comp, c, kA, h1, -, h3, h4, h5⟩ := Cond.arrayOver_spec h
    exact ⟨c, fun n z => ⟨fun k h => (by cases h), kA, h3, comp, h4⟩, kA, comp, h3, h4, h1, h5⟩
  obtain ⟨c0, h0⟩ := hp .int (fun C h => by cases h) (hts _ (gw_in (show Cond.arrayClass .int ∈ GW by decide +kernel)))
  obtain ⟨c1, h1⟩ := hp .long (fun C h => by cases h) (hts _ (gw_in (show Cond.arrayClass .long ∈ GW by decide +kernel)))
  obtain ⟨c2, h2⟩ := hp .boolean (fun C h => by cases h) (hts _ (gw_in (show Cond.arrayClass .boolean ∈ GW by decide +kernel)))
  obtain ⟨c3, h3⟩ := hq "LevelBreaks$Measure" (hts _ (tb_in 97 (by decide +kernel)))
  obtain ⟨c4, h4⟩ := hq "LevelBreaks$Points" (hts _ (tb_in 51 (by decide +kernel)))
  obtain ⟨c5, h5⟩ := hq "LevelBreaks$Sheet" (hts _ (tb_in 254 (by decide +kernel)))
  refine ⟨fun k => ([c0, c1, c2, c3, c4, c5] : List ClassId).getD k c0, fun k q hk => ?_⟩
  match k with
  | 0 => cases hk; exact h0
  | 1 => cases hk; exact h1
  | 2 => cases hk; exact h2
  | 3 => cases hk; exact h3
  | 4 => cases hk; exact h4
  | 5 => cases hk; exact h5
  | j + 6 => simp at hk
theorem exOk_of {s : State} {args : Array Value} (hts : ∀ w ∈ lw_tbl, w.before args s = true) : exOk s := ⟨va_AO.of (hts _ (tb_in 97 (by decide +kernel))), va_AO.of (hts _ (tb_in 51 (by decide +kernel))), va_AO.of (hts _ (tb_in 254 (by decide +kernel))), va_Nw.of rfl (hts _ (tb_in 1323 (by decide +kernel))), va_Nw.of rfl (hts _ (tb_in 1324 (by decide +kernel))), va_Nw.of rfl (hts _ (tb_in 1325 (by decide +kernel)))⟩
theorem nwl_in : ∀ w ∈ NWL, w ∈ lw_tbl := by decide +kernel
theorem nwOk_of {s : State} {args : Array Value} (hts : ∀ w ∈ lw_tbl, w.before args s = true) : nwOk s := fun w hw => va_Nw.of (nwl_tab w hw) (hts w (nwl_in w hw))
theorem whole_start {p : Program} {e : Env} {s : State} {m : MethodId} {below : List Frame} {meth : Method} {c : Code} (l : Launch) {b L : Nat} {xs : Nat → Int32} (hL : L ≤ 4096) (C0 : lw_At p s m meth c b L xs) : W p l e room_1 s m #[Value.ref b] below meth c s.heap [] 0 0 (lw_Z below #[Value.ref b] s) (entryFrame m ([Value.ref b] : List Value).toArray 4) := by
  obtain ⟨hx, hb, hr, hml, hown, hts, hX, hbl, hlk, -⟩ := C0
  have hgw : ∀ w ∈ GW, w.before #[Value.ref b] s = true := fun w hw => hts w (gw_in hw)
  obtain ⟨D, hD⟩ := know_cls hgw
  obtain ⟨A, hA⟩ := know_arr hts
  have hl := lv_entry [Value.ref b] (n := 4) (Nat.le_of_ble_eq_true rfl)
  rw [lg_entry_eq]
  exact law_begin (G := (l, D.1, D.2, A, s.heap.size, b)) (n := L) (xs := xs) hL p e s m #[Value.ref b] below meth c s.heap [] _ 0 0 ⟨⟨hx, hb, hr, hlk, hml, hown, hgw, nwOk_of hts, ⟨hD, hA⟩, ⟨hX, hbl, hbl⟩, rfl⟩, exOk_of hts, fun h => absurd h (show ¬ ("law" : String) = "<init>" by decide), hl, fun k q hq => by simp [wq] at hq, rfl, va_S.rf, Nat.le_refl _, Nat.le_of_ble_eq_true rfl, Nat.le_of_ble_eq_true rfl, Nat.le_refl _, Nat.le_refl _⟩
