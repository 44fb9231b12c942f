/-! ===== the constructors (printed) ===== -/
abbrev ai (G : GC) (n : Nat) (x : Nat → Int32) : va_E := .inl (G.2.2.2.1 0, n, .inl x)
abbrev aj (G : GC) (n : Nat) : va_E := .inl (G.2.2.2.1 1, n, .inr (.inl fun _ => 0))
abbrev az (G : GC) (n : Nat) : va_E := .inl (G.2.2.2.1 2, n, .inl fun _ => 0)
abbrev ar (G : GC) (t n : Nat) (l : List Nat) : va_E := .inl (G.2.2.2.1 t, n, .inr (.inr (.inr (.inr fun j => l[j]?))))
theorem ar_up {l : List Nat} {k a : Nat} (h : l.length = k) : va_up (fun j => l[j]?) k (some a) = fun j => (l ++ [a])[j]? := by
  subst h; funext j; by_cases hj : j = l.length
  · subst hj; simp [va_up]
  · simp only [va_up, if_neg hj]; rcases Nat.lt_or_ge j l.length with h1 | h1
    · rw [List.getElem?_append_left h1]
    · rw [List.getElem?_append_right h1, List.getElem?_eq_none h1, List.getElem?_eq_none (by simp; omega)]
theorem b_Y {G : GC} {F : FT} {pc : Nat} {L : List (Option Value)} {S : List Value} {Y Y2 : List va_E} {c k : Nat} (h : Y = Y2) (kk : GoB G F pc L S Y2 c k) : GoB G F pc L S Y c k := h ▸ kk
/-- an int array filled up to i -/
abbrev fil (x : Int32) (i : Nat) : Nat → Int32 := fun j => if j < i then x else 0
theorem fil_up {x : Int32} {i : Nat} : upd (fil x i) i x = fil x (i + 1) := by
  funext j; simp only [upd, fil]; by_cases h : j = i
  · subst h; simp
  · simp only [if_neg h]; by_cases h2 : j < i
    · rw [if_pos h2, if_pos (by omega)]
    · rw [if_neg h2, if_neg (by omega)]
theorem fil_0 {x : Int32} : fil x 0 = fun _ => 0 := by funext j; simp [fil]
abbrev cs_LE (G : GC) : List va_E := [.inr (3, [.ref (gB G + 1), .ref (gB G + 2), .ref (gB G + 3), .ref (gB G + 4), .int 0]), ai G 200 (fun _ => 0), ai G 200 (fun _ => 0), ai G 200 (fun _ => 0), ai G 200 (fun _ => 0)]
set_option maxRecDepth 100000 in
theorem k_LE {G : GC} {d : Nat} : CtB G (d + 1) 20 5000 m_LE_init (.ref 0 :: []) [.inr (3, [.null, .null, .null, .null, .int 0])] (cs_LE G) := by
  refine CtB.ofGo [some (.ref 0)] (by decide) rfl (Nat.le_of_ble_eq_true rfl) ?_
  refine b_aload_n (show decode prog_6_method_1_code 0 = .ok (.aload_n 0, 1) by decide +kernel) rfl rfl (i := 0) (x := 0) rfl ?_
  refine b_obj ml_LE_3 ⟨by show 1 ≤ d + 1; omega, by show 20 ≤ 60 * (d + 1); omega⟩ (show decode prog_6_method_1_code 1 = .ok (.invokespecial 3, 3) by decide +kernel) rfl ?_
  refine b_aload_n (show decode prog_6_method_1_code 4 = .ok (.aload_n 0, 1) by decide +kernel) rfl rfl (i := 0) (x := 0) rfl ?_
  refine b_sipush (v := 200) (show decode prog_6_method_1_code 5 = .ok (.sipush 200, 3) by decide +kernel) rfl (by decide) ?_
  refine b_newI (N := 200) (n := 1) (c := 19) (k := 4800) (by decide) (by decide) (by decide) rfl (show decode prog_6_method_1_code 8 = .ok (.newarray .int, 2) by decide +kernel) rfl ?_
  refine b_Y (Y2 := [.inr (3, [.null, .null, .null, .null, .int 0]), ai G 200 (fun _ => 0)]) rfl ?_
  refine b_putF (ci := 3) (kf := 0) rfl rfl i_LE p_LE n_LE (by decide) fl_LE_9 rfl rfl rfl rfl (p_LE 0 (by decide)) rfl rfl (Nat.le_of_ble_eq_true rfl) (show decode prog_6_method_1_code 10 = .ok (.putfield 9, 3) by decide +kernel) rfl ?_
  refine b_Y (Y2 := [.inr (3, [.ref (gB G + 1), .null, .null, .null, .int 0]), ai G 200 (fun _ => 0)]) rfl ?_
  refine b_aload_n (show decode prog_6_method_1_code 13 = .ok (.aload_n 0, 1) by decide +kernel) rfl rfl (i := 0) (x := 0) rfl ?_
  refine b_sipush (v := 200) (show decode prog_6_method_1_code 14 = .ok (.sipush 200, 3) by decide +kernel) rfl (by decide) ?_
  refine b_newI (N := 200) (n := 2) (c := 18) (k := 4600) (by decide) (by decide) (by decide) rfl (show decode prog_6_method_1_code 17 = .ok (.newarray .int, 2) by decide +kernel) rfl ?_
  refine b_Y (Y2 := [.inr (3, [.ref (gB G + 1), .null, .null, .null, .int 0]), ai G 200 (fun _ => 0), ai G 200 (fun _ => 0)]) rfl ?_
  refine b_putF (ci := 3) (kf := 1) rfl rfl i_LE p_LE n_LE (by decide) fl_LE_15 rfl rfl rfl rfl (p_LE 1 (by decide)) rfl rfl (Nat.le_of_ble_eq_true rfl) (show decode prog_6_method_1_code 19 = .ok (.putfield 15, 3) by decide +kernel) rfl ?_
  refine b_Y (Y2 := [.inr (3, [.ref (gB G + 1), .ref (gB G + 2), .null, .null, .int 0]), ai G 200 (fun _ => 0), ai G 200 (fun _ => 0)]) rfl ?_
  refine b_aload_n (show decode prog_6_method_1_code 22 = .ok (.aload_n 0, 1) by decide +kernel) rfl rfl (i := 0) (x := 0) rfl ?_
  refine b_sipush (v := 200) (show decode prog_6_method_1_code 23 = .ok (.sipush 200, 3) by decide +kernel) rfl (by decide) ?_
  refine b_newI (N := 200) (n := 3) (c := 17) (k := 4400) (by decide) (by decide) (by decide) rfl (show decode prog_6_method_1_code 26 = .ok (.newarray .int, 2) by decide +kernel) rfl ?_
  refine b_Y (Y2 := [.inr (3, [.ref (gB G + 1), .ref (gB G + 2), .null, .null, .int 0]), ai G 200 (fun _ => 0), ai G 200 (fun _ => 0), ai G 200 (fun _ => 0)]) rfl ?_
  refine b_putF (ci := 3) (kf := 2) rfl rfl i_LE p_LE n_LE (by decide) fl_LE_18 rfl rfl rfl rfl (p_LE 2 (by decide)) rfl rfl (Nat.le_of_ble_eq_true rfl) (show decode prog_6_method_1_code 28 = .ok (.putfield 18, 3) by decide +kernel) rfl ?_
  refine b_Y (Y2 := [.inr (3, [.ref (gB G + 1), .ref (gB G + 2), .ref (gB G + 3), .null, .int 0]), ai G 200 (fun _ => 0), ai G 200 (fun _ => 0), ai G 200 (fun _ => 0)]) rfl ?_
  refine b_aload_n (show decode prog_6_method_1_code 31 = .ok (.aload_n 0, 1) by decide +kernel) rfl rfl (i := 0) (x := 0) rfl ?_
  refine b_sipush (v := 200) (show decode prog_6_method_1_code 32 = .ok (.sipush 200, 3) by decide +kernel) rfl (by decide) ?_
  refine b_newI (N := 200) (n := 4) (c := 16) (k := 4200) (by decide) (by decide) (by decide) rfl (show decode prog_6_method_1_code 35 = .ok (.newarray .int, 2) by decide +kernel) rfl ?_
  refine b_Y (Y2 := [.inr (3, [.ref (gB G + 1), .ref (gB G + 2), .ref (gB G + 3), .null, .int 0]), ai G 200 (fun _ => 0), ai G 200 (fun _ => 0), ai G 200 (fun _ => 0), ai G 200 (fun _ => 0)]) rfl ?_
  refine b_putF (ci := 3) (kf := 3) rfl rfl i_LE p_LE n_LE (by decide) fl_LE_21 rfl rfl rfl rfl (p_LE 3 (by decide)) rfl rfl (Nat.le_of_ble_eq_true rfl) (show decode prog_6_method_1_code 37 = .ok (.putfield 21, 3) by decide +kernel) rfl ?_
  refine b_Y (Y2 := [.inr (3, [.ref (gB G + 1), .ref (gB G + 2), .ref (gB G + 3), .ref (gB G + 4), .int 0]), ai G 200 (fun _ => 0), ai G 200 (fun _ => 0), ai G 200 (fun _ => 0), ai G 200 (fun _ => 0)]) rfl ?_
  refine b_aload_n (show decode prog_6_method_1_code 40 = .ok (.aload_n 0, 1) by decide +kernel) rfl rfl (i := 0) (x := 0) rfl ?_
  refine b_iconst (v := 0) (show decode prog_6_method_1_code 41 = .ok (.iconst 0, 1) by decide +kernel) rfl (by decide) ?_
  refine b_put (ci := 3) (kf := 4) rfl rfl i_LE p_LE n_LE (by decide) fl_LE_24 rfl rfl (p_LE 4 (by decide)) rfl rfl (Nat.le_of_ble_eq_true rfl) (show decode prog_6_method_1_code 42 = .ok (.putfield 24, 3) by decide +kernel) rfl ?_
  refine b_Y (Y2 := [.inr (3, [.ref (gB G + 1), .ref (gB G + 2), .ref (gB G + 3), .ref (gB G + 4), .int 0]), ai G 200 (fun _ => 0), ai G 200 (fun _ => 0), ai G 200 (fun _ => 0), ai G 200 (fun _ => 0)]) rfl ?_
  exact b_ret rfl (show decode prog_6_method_1_code 45 = .ok (.return_, 1) by decide +kernel)
abbrev cs_PO (G : GC) : List va_E := [.inr (6, [.ref (gB G + 1), .ref (gB G + 2), .ref (gB G + 3), .ref (gB G + 4), .int 0]), ai G 40 (fil (-9999) 40), ai G 40 (fun _ => 0), ai G 40 (fun _ => 0), ai G 40 (fun _ => 0)]
set_option maxRecDepth 100000 in
theorem lp_PO {G : GC} {d : Nat} : ∀ n i, i + n = 40 → GoB G (frB G m_PO_init (d + 1) 20 5000 (cs_PO G)) 43 [some (.ref 0), some (.int (Int32.ofNat i))] [] [.inr (6, [.ref (gB G + 1), .ref (gB G + 2), .ref (gB G + 3), .ref (gB G + 4), .int 0]), ai G 40 (fil (-9999) i), ai G 40 (fun _ => 0), ai G 40 (fun _ => 0), ai G 40 (fun _ => 0)] 16 4840 := by
  intro n
  induction n with
  | zero =>
    intro i hi; obtain rfl : i = 40 := by omega
    refine b_iload_n (show decode prog_10_method_1_code 43 = .ok (.iload_n 1, 1) by decide +kernel) rfl rfl (i := 1) rfl ?_
    refine b_bipush (v := 40) (show decode prog_10_method_1_code 44 = .ok (.bipush 40, 2) by decide +kernel) rfl (by decide) ?_
    refine b_ic_ge (tgt := 64) (show decode prog_10_method_1_code 46 = .ok (.if_icmp .ge 18, 3) by decide +kernel) rfl rfl (fun _ => ?_) (fun h => absurd (by decide) h)
    exact b_ret rfl (show decode prog_10_method_1_code 64 = .ok (.return_, 1) by decide +kernel)
  | succ n ih =>
    intro i hi
    have hall : ∀ i, i < 40 → ¬ ((40 : Int32) ≤ Int32.ofNat i) ∧ ¬ (Int32.ofNat i < 0 ∨ 40 ≤ (Int32.ofNat i).toNatClampNeg) ∧ (Int32.ofNat i).toNatClampNeg = i ∧ Int32.ofNat i + Int32.ofInt 1 = Int32.ofNat (i + 1) := by decide +kernel
    obtain ⟨a1, a2, a3, a4⟩ := hall i (by omega)
    refine b_iload_n (show decode prog_10_method_1_code 43 = .ok (.iload_n 1, 1) by decide +kernel) rfl rfl (i := 1) rfl ?_
    refine b_bipush (v := 40) (show decode prog_10_method_1_code 44 = .ok (.bipush 40, 2) by decide +kernel) rfl (by decide) ?_
    refine b_ic_ge (tgt := 64) (show decode prog_10_method_1_code 46 = .ok (.if_icmp .ge 18, 3) by decide +kernel) rfl rfl (fun h => absurd h a1) (fun _ => ?_)
    refine b_aload_n (show decode prog_10_method_1_code 49 = .ok (.aload_n 0, 1) by decide +kernel) rfl rfl (i := 0) (x := 0) rfl ?_
    refine b_get (ci := 6) (kf := 0) (v := .ref 1) rfl rfl i_PO (by decide) fl_PO_9 rfl rfl (show decode prog_10_method_1_code 50 = .ok (.getfield 9, 3) by decide +kernel) rfl ?_
    refine b_iload_n (show decode prog_10_method_1_code 53 = .ok (.iload_n 1, 1) by decide +kernel) rfl rfl (i := 1) rfl ?_
    refine b_sipush (v := (-9999)) (show decode prog_10_method_1_code 54 = .ok (.sipush (-9999), 3) by decide +kernel) rfl (by decide) ?_
    refine b_iast (n := 40) rfl a2 (show decode prog_10_method_1_code 57 = .ok (.iastore, 1) by decide +kernel) rfl ?_
    refine b_Y (Y2 := [.inr (6, [.ref (gB G + 1), .ref (gB G + 2), .ref (gB G + 3), .ref (gB G + 4), .int 0]), ai G 40 (fil (-9999) (i + 1)), ai G 40 (fun _ => 0), ai G 40 (fun _ => 0), ai G 40 (fun _ => 0)]) (by rw [a3, fil_up]; rfl) ?_
    refine b_iinc (v := Int32.ofNat (i + 1)) (show decode prog_10_method_1_code 58 = .ok (.iinc 1 1, 3) by decide +kernel) rfl rfl a4 (Nat.le_of_ble_eq_true rfl) rfl ?_
    refine b_goto (tgt := 43) (show decode prog_10_method_1_code 61 = .ok (.goto (-18), 3) by decide +kernel) rfl ?_
    exact ih (i + 1) (by omega)
set_option maxRecDepth 100000 in
theorem k_PO {G : GC} {d : Nat} : CtB G (d + 1) 20 5000 m_PO_init (.ref 0 :: []) [.inr (6, [.null, .null, .null, .null, .int 0])] (cs_PO G) := by
  refine CtB.ofGo [some (.ref 0), none] (by decide) rfl (Nat.le_of_ble_eq_true rfl) ?_
  refine b_aload_n (show decode prog_10_method_1_code 0 = .ok (.aload_n 0, 1) by decide +kernel) rfl rfl (i := 0) (x := 0) rfl ?_
  refine b_obj ml_PO_3 ⟨by show 1 ≤ d + 1; omega, by show 20 ≤ 60 * (d + 1); omega⟩ (show decode prog_10_method_1_code 1 = .ok (.invokespecial 3, 3) by decide +kernel) rfl ?_
  refine b_aload_n (show decode prog_10_method_1_code 4 = .ok (.aload_n 0, 1) by decide +kernel) rfl rfl (i := 0) (x := 0) rfl ?_
  refine b_bipush (v := 40) (show decode prog_10_method_1_code 5 = .ok (.bipush 40, 2) by decide +kernel) rfl (by decide) ?_
  refine b_newI (N := 40) (n := 1) (c := 19) (k := 4960) (by decide) (by decide) (by decide) rfl (show decode prog_10_method_1_code 7 = .ok (.newarray .int, 2) by decide +kernel) rfl ?_
  refine b_Y (Y2 := [.inr (6, [.null, .null, .null, .null, .int 0]), ai G 40 (fun _ => 0)]) rfl ?_
  refine b_putF (ci := 6) (kf := 0) rfl rfl i_PO p_PO n_PO (by decide) fl_PO_9 rfl rfl rfl rfl (p_PO 0 (by decide)) rfl rfl (Nat.le_of_ble_eq_true rfl) (show decode prog_10_method_1_code 9 = .ok (.putfield 9, 3) by decide +kernel) rfl ?_
  refine b_Y (Y2 := [.inr (6, [.ref (gB G + 1), .null, .null, .null, .int 0]), ai G 40 (fun _ => 0)]) rfl ?_
  refine b_aload_n (show decode prog_10_method_1_code 12 = .ok (.aload_n 0, 1) by decide +kernel) rfl rfl (i := 0) (x := 0) rfl ?_
  refine b_bipush (v := 40) (show decode prog_10_method_1_code 13 = .ok (.bipush 40, 2) by decide +kernel) rfl (by decide) ?_
  refine b_newI (N := 40) (n := 2) (c := 18) (k := 4920) (by decide) (by decide) (by decide) rfl (show decode prog_10_method_1_code 15 = .ok (.newarray .int, 2) by decide +kernel) rfl ?_
  refine b_Y (Y2 := [.inr (6, [.ref (gB G + 1), .null, .null, .null, .int 0]), ai G 40 (fun _ => 0), ai G 40 (fun _ => 0)]) rfl ?_
  refine b_putF (ci := 6) (kf := 1) rfl rfl i_PO p_PO n_PO (by decide) fl_PO_15 rfl rfl rfl rfl (p_PO 1 (by decide)) rfl rfl (Nat.le_of_ble_eq_true rfl) (show decode prog_10_method_1_code 17 = .ok (.putfield 15, 3) by decide +kernel) rfl ?_
  refine b_Y (Y2 := [.inr (6, [.ref (gB G + 1), .ref (gB G + 2), .null, .null, .int 0]), ai G 40 (fun _ => 0), ai G 40 (fun _ => 0)]) rfl ?_
  refine b_aload_n (show decode prog_10_method_1_code 20 = .ok (.aload_n 0, 1) by decide +kernel) rfl rfl (i := 0) (x := 0) rfl ?_
  refine b_bipush (v := 40) (show decode prog_10_method_1_code 21 = .ok (.bipush 40, 2) by decide +kernel) rfl (by decide) ?_
  refine b_newI (N := 40) (n := 3) (c := 17) (k := 4880) (by decide) (by decide) (by decide) rfl (show decode prog_10_method_1_code 23 = .ok (.newarray .int, 2) by decide +kernel) rfl ?_
  refine b_Y (Y2 := [.inr (6, [.ref (gB G + 1), .ref (gB G + 2), .null, .null, .int 0]), ai G 40 (fun _ => 0), ai G 40 (fun _ => 0), ai G 40 (fun _ => 0)]) rfl ?_
  refine b_putF (ci := 6) (kf := 2) rfl rfl i_PO p_PO n_PO (by decide) fl_PO_18 rfl rfl rfl rfl (p_PO 2 (by decide)) rfl rfl (Nat.le_of_ble_eq_true rfl) (show decode prog_10_method_1_code 25 = .ok (.putfield 18, 3) by decide +kernel) rfl ?_
  refine b_Y (Y2 := [.inr (6, [.ref (gB G + 1), .ref (gB G + 2), .ref (gB G + 3), .null, .int 0]), ai G 40 (fun _ => 0), ai G 40 (fun _ => 0), ai G 40 (fun _ => 0)]) rfl ?_
  refine b_aload_n (show decode prog_10_method_1_code 28 = .ok (.aload_n 0, 1) by decide +kernel) rfl rfl (i := 0) (x := 0) rfl ?_
  refine b_bipush (v := 40) (show decode prog_10_method_1_code 29 = .ok (.bipush 40, 2) by decide +kernel) rfl (by decide) ?_
  refine b_newI (N := 40) (n := 4) (c := 16) (k := 4840) (by decide) (by decide) (by decide) rfl (show decode prog_10_method_1_code 31 = .ok (.newarray .int, 2) by decide +kernel) rfl ?_
  refine b_Y (Y2 := [.inr (6, [.ref (gB G + 1), .ref (gB G + 2), .ref (gB G + 3), .null, .int 0]), ai G 40 (fun _ => 0), ai G 40 (fun _ => 0), ai G 40 (fun _ => 0), ai G 40 (fun _ => 0)]) rfl ?_
  refine b_putF (ci := 6) (kf := 3) rfl rfl i_PO p_PO n_PO (by decide) fl_PO_21 rfl rfl rfl rfl (p_PO 3 (by decide)) rfl rfl (Nat.le_of_ble_eq_true rfl) (show decode prog_10_method_1_code 33 = .ok (.putfield 21, 3) by decide +kernel) rfl ?_
  refine b_Y (Y2 := [.inr (6, [.ref (gB G + 1), .ref (gB G + 2), .ref (gB G + 3), .ref (gB G + 4), .int 0]), ai G 40 (fun _ => 0), ai G 40 (fun _ => 0), ai G 40 (fun _ => 0), ai G 40 (fun _ => 0)]) rfl ?_
  refine b_aload_n (show decode prog_10_method_1_code 36 = .ok (.aload_n 0, 1) by decide +kernel) rfl rfl (i := 0) (x := 0) rfl ?_
  refine b_iconst (v := 0) (show decode prog_10_method_1_code 37 = .ok (.iconst 0, 1) by decide +kernel) rfl (by decide) ?_
  refine b_put (ci := 6) (kf := 4) rfl rfl i_PO p_PO n_PO (by decide) fl_PO_24 rfl rfl (p_PO 4 (by decide)) rfl rfl (Nat.le_of_ble_eq_true rfl) (show decode prog_10_method_1_code 38 = .ok (.putfield 24, 3) by decide +kernel) rfl ?_
  refine b_Y (Y2 := [.inr (6, [.ref (gB G + 1), .ref (gB G + 2), .ref (gB G + 3), .ref (gB G + 4), .int 0]), ai G 40 (fun _ => 0), ai G 40 (fun _ => 0), ai G 40 (fun _ => 0), ai G 40 (fun _ => 0)]) rfl ?_
  refine b_iconst (v := 0) (show decode prog_10_method_1_code 41 = .ok (.iconst 0, 1) by decide +kernel) rfl (by decide) ?_
  refine b_istore_n (show decode prog_10_method_1_code 42 = .ok (.istore_n 1, 1) by decide +kernel) rfl rfl (i := 1) (Nat.le_of_ble_eq_true rfl) rfl ?_
  refine b_Y (Y2 := [.inr (6, [.ref (gB G + 1), .ref (gB G + 2), .ref (gB G + 3), .ref (gB G + 4), .int 0]), ai G 40 (fil (-9999) 0), ai G 40 (fun _ => 0), ai G 40 (fun _ => 0), ai G 40 (fun _ => 0)]) (by rw [fil_0]) ?_
  exact lp_PO 40 0 rfl
abbrev cs_ME_SU (G : GC) : List va_E := [.inr (8, [.int 0, .long 0, .long 0, .long 0, .long 0, .long 0, .long 0])]
set_option maxRecDepth 100000 in
theorem k_ME_SU {G : GC} {d : Nat} : CtB G (d + 1) 1 10 m_ME_init (.ref 0 :: []) [.inr (8, [.int 0, .long 0, .long 0, .long 0, .long 0, .long 0, .long 0])] (cs_ME_SU G) := by
  refine CtB.ofGo [some (.ref 0)] (by decide) rfl (Nat.le_of_ble_eq_true rfl) ?_
  refine b_aload_n (show decode prog_7_method_1_code 0 = .ok (.aload_n 0, 1) by decide +kernel) rfl rfl (i := 0) (x := 0) rfl ?_
  refine b_obj ml_ME_1 ⟨by show 1 ≤ d + 1; omega, by show 20 ≤ 60 * (d + 1); omega⟩ (show decode prog_7_method_1_code 1 = .ok (.invokespecial 1, 3) by decide +kernel) rfl ?_
  refine b_aload_n (show decode prog_7_method_1_code 4 = .ok (.aload_n 0, 1) by decide +kernel) rfl rfl (i := 0) (x := 0) rfl ?_
  refine b_iconst (v := 0) (show decode prog_7_method_1_code 5 = .ok (.iconst 0, 1) by decide +kernel) rfl (by decide) ?_
  refine b_put (ci := 8) (kf := 0) rfl rfl i_SU p_SU n_SU (by decide) fl_ME_7 rfl rfl (p_SU 0 (by decide)) rfl rfl (Nat.le_of_ble_eq_true rfl) (show decode prog_7_method_1_code 6 = .ok (.putfield 7, 3) by decide +kernel) rfl ?_
  refine b_Y (Y2 := [.inr (8, [.int 0, .long 0, .long 0, .long 0, .long 0, .long 0, .long 0])]) rfl ?_
  exact b_ret rfl (show decode prog_7_method_1_code 9 = .ok (.return_, 1) by decide +kernel)
abbrev cs_SU (G : GC) (x : Int32) : List va_E := [.inr (8, [.int 0, .long x.toInt64, .long 0, .long 0, .long 0, .long 0, .long 0])]
set_option maxRecDepth 100000 in
theorem k_SU {G : GC} {d : Nat} (x : Int32) : CtB G (d + 2) 20 5000 m_SU_init (.ref 0 :: [.int x]) [.inr (8, [.int 0, .long 0, .long 0, .long 0, .long 0, .long 0, .long 0])] (cs_SU G x) := by
  refine CtB.ofGo [some (.ref 0), some (.int x)] (by decide) rfl (Nat.le_of_ble_eq_true rfl) ?_
  refine b_aload_n (show decode prog_12_method_1_code 0 = .ok (.aload_n 0, 1) by decide +kernel) rfl rfl (i := 0) (x := 0) rfl ?_
  refine b_Y (Y2 := [] ++ [.inr (8, [.int 0, .long 0, .long 0, .long 0, .long 0, .long 0, .long 0])]) rfl ?_
  refine b_call (M := m_ME_init) (As := []) (rest := []) (o := 0) (d := d + 1) (mc := 1) (ms := 10) (c := 19) (k := 4990) ok_ME_init in_ME_init rfl rfl (Or.inr ⟨"LevelBreaks", List.mem_of_getElem? (i := 2) rfl⟩) rfl rfl rfl (by decide) rfl (show decode prog_12_method_1_code 1 = .ok (.invokespecial 3, 3) by decide +kernel) rfl ⟨by show d + 1 + 1 ≤ d + 2; omega, by show 60 * (d + 1 + 1) ≤ 60 * (d + 2); omega⟩ (k_ME_SU (G := shB G 0) (d := d)) ?_
  refine b_Y (Y2 := [.inr (8, [.int 0, .long 0, .long 0, .long 0, .long 0, .long 0, .long 0])]) rfl ?_
  refine b_aload_n (show decode prog_12_method_1_code 4 = .ok (.aload_n 0, 1) by decide +kernel) rfl rfl (i := 0) (x := 0) rfl ?_
  refine b_iload_n (show decode prog_12_method_1_code 5 = .ok (.iload_n 1, 1) by decide +kernel) rfl rfl (i := 1) rfl ?_
  refine b_i2l (show decode prog_12_method_1_code 6 = .ok (.i2l, 1) by decide +kernel) rfl ?_
  refine b_putF (ci := 8) (kf := 1) rfl rfl i_SU p_SU n_SU (by decide) fl_SU_9 rfl rfl rfl rfl (p_SU 1 (by decide)) rfl rfl (Nat.le_of_ble_eq_true rfl) (show decode prog_12_method_1_code 7 = .ok (.putfield 9, 3) by decide +kernel) rfl ?_
  refine b_Y (Y2 := [.inr (8, [.int 0, .long x.toInt64, .long 0, .long 0, .long 0, .long 0, .long 0])]) rfl ?_
  exact b_ret rfl (show decode prog_12_method_1_code 10 = .ok (.return_, 1) by decide +kernel)
abbrev cs_ME_MI (G : GC) : List va_E := [.inr (4, [.int 0, .null, .long 0])]
set_option maxRecDepth 100000 in
theorem k_ME_MI {G : GC} {d : Nat} : CtB G (d + 1) 1 10 m_ME_init (.ref 0 :: []) [.inr (4, [.int 0, .null, .long 0])] (cs_ME_MI G) := by
  refine CtB.ofGo [some (.ref 0)] (by decide) rfl (Nat.le_of_ble_eq_true rfl) ?_
  refine b_aload_n (show decode prog_7_method_1_code 0 = .ok (.aload_n 0, 1) by decide +kernel) rfl rfl (i := 0) (x := 0) rfl ?_
  refine b_obj ml_ME_1 ⟨by show 1 ≤ d + 1; omega, by show 20 ≤ 60 * (d + 1); omega⟩ (show decode prog_7_method_1_code 1 = .ok (.invokespecial 1, 3) by decide +kernel) rfl ?_
  refine b_aload_n (show decode prog_7_method_1_code 4 = .ok (.aload_n 0, 1) by decide +kernel) rfl rfl (i := 0) (x := 0) rfl ?_
  refine b_iconst (v := 0) (show decode prog_7_method_1_code 5 = .ok (.iconst 0, 1) by decide +kernel) rfl (by decide) ?_
  refine b_put (ci := 4) (kf := 0) rfl rfl i_MI p_MI n_MI (by decide) fl_ME_7 rfl rfl (p_MI 0 (by decide)) rfl rfl (Nat.le_of_ble_eq_true rfl) (show decode prog_7_method_1_code 6 = .ok (.putfield 7, 3) by decide +kernel) rfl ?_
  refine b_Y (Y2 := [.inr (4, [.int 0, .null, .long 0])]) rfl ?_
  exact b_ret rfl (show decode prog_7_method_1_code 9 = .ok (.return_, 1) by decide +kernel)
abbrev cs_MI (G : GC) : List va_E := [.inr (4, [.int 0, .ref (gB G + 1), .long 0]), ai G 40 (fun _ => 0)]
set_option maxRecDepth 100000 in
theorem k_MI {G : GC} {d : Nat} : CtB G (d + 2) 20 5000 m_MI_init (.ref 0 :: []) [.inr (4, [.int 0, .null, .long 0])] (cs_MI G) := by
  refine CtB.ofGo [some (.ref 0)] (by decide) rfl (Nat.le_of_ble_eq_true rfl) ?_
  refine b_aload_n (show decode prog_8_method_1_code 0 = .ok (.aload_n 0, 1) by decide +kernel) rfl rfl (i := 0) (x := 0) rfl ?_
  refine b_Y (Y2 := [] ++ [.inr (4, [.int 0, .null, .long 0])]) rfl ?_
  refine b_call (M := m_ME_init) (As := []) (rest := []) (o := 0) (d := d + 1) (mc := 1) (ms := 10) (c := 19) (k := 4990) ok_ME_init in_ME_init rfl rfl (Or.inr ⟨"LevelBreaks", List.mem_of_getElem? (i := 4) rfl⟩) rfl rfl rfl (by decide) rfl (show decode prog_8_method_1_code 1 = .ok (.invokespecial 3, 3) by decide +kernel) rfl ⟨by show d + 1 + 1 ≤ d + 2; omega, by show 60 * (d + 1 + 1) ≤ 60 * (d + 2); omega⟩ (k_ME_MI (G := shB G 0) (d := d)) ?_
  refine b_Y (Y2 := [.inr (4, [.int 0, .null, .long 0])]) rfl ?_
  refine b_aload_n (show decode prog_8_method_1_code 4 = .ok (.aload_n 0, 1) by decide +kernel) rfl rfl (i := 0) (x := 0) rfl ?_
  refine b_bipush (v := 40) (show decode prog_8_method_1_code 5 = .ok (.bipush 40, 2) by decide +kernel) rfl (by decide) ?_
  refine b_newI (N := 40) (n := 1) (c := 18) (k := 4950) (by decide) (by decide) (by decide) rfl (show decode prog_8_method_1_code 7 = .ok (.newarray .int, 2) by decide +kernel) rfl ?_
  refine b_Y (Y2 := [.inr (4, [.int 0, .null, .long 0]), ai G 40 (fun _ => 0)]) rfl ?_
  refine b_putF (ci := 4) (kf := 1) rfl rfl i_MI p_MI n_MI (by decide) fl_MI_9 rfl rfl rfl rfl (p_MI 1 (by decide)) rfl rfl (Nat.le_of_ble_eq_true rfl) (show decode prog_8_method_1_code 9 = .ok (.putfield 9, 3) by decide +kernel) rfl ?_
  refine b_Y (Y2 := [.inr (4, [.int 0, .ref (gB G + 1), .long 0]), ai G 40 (fun _ => 0)]) rfl ?_
  exact b_ret rfl (show decode prog_8_method_1_code 12 = .ok (.return_, 1) by decide +kernel)
abbrev cs_ME_ON (G : GC) : List va_E := [.inr (5, [.int 0, .null, .null, .int 0])]
set_option maxRecDepth 100000 in
theorem k_ME_ON {G : GC} {d : Nat} : CtB G (d + 1) 1 10 m_ME_init (.ref 0 :: []) [.inr (5, [.int 0, .null, .null, .int 0])] (cs_ME_ON G) := by
  refine CtB.ofGo [some (.ref 0)] (by decide) rfl (Nat.le_of_ble_eq_true rfl) ?_
  refine b_aload_n (show decode prog_7_method_1_code 0 = .ok (.aload_n 0, 1) by decide +kernel) rfl rfl (i := 0) (x := 0) rfl ?_
  refine b_obj ml_ME_1 ⟨by show 1 ≤ d + 1; omega, by show 20 ≤ 60 * (d + 1); omega⟩ (show decode prog_7_method_1_code 1 = .ok (.invokespecial 1, 3) by decide +kernel) rfl ?_
  refine b_aload_n (show decode prog_7_method_1_code 4 = .ok (.aload_n 0, 1) by decide +kernel) rfl rfl (i := 0) (x := 0) rfl ?_
  refine b_iconst (v := 0) (show decode prog_7_method_1_code 5 = .ok (.iconst 0, 1) by decide +kernel) rfl (by decide) ?_
  refine b_put (ci := 5) (kf := 0) rfl rfl i_ON p_ON n_ON (by decide) fl_ME_7 rfl rfl (p_ON 0 (by decide)) rfl rfl (Nat.le_of_ble_eq_true rfl) (show decode prog_7_method_1_code 6 = .ok (.putfield 7, 3) by decide +kernel) rfl ?_
  refine b_Y (Y2 := [.inr (5, [.int 0, .null, .null, .int 0])]) rfl ?_
  exact b_ret rfl (show decode prog_7_method_1_code 9 = .ok (.return_, 1) by decide +kernel)
abbrev cs_ON (G : GC) : List va_E := [.inr (5, [.int 0, .ref (gB G + 1), .ref (gB G + 2), .int 0]), ai G 40 (fun _ => 0), ai G 41 (fun _ => 0)]
set_option maxRecDepth 100000 in
theorem k_ON {G : GC} {d : Nat} : CtB G (d + 2) 20 5000 m_ON_init (.ref 0 :: []) [.inr (5, [.int 0, .null, .null, .int 0])] (cs_ON G) := by
  refine CtB.ofGo [some (.ref 0)] (by decide) rfl (Nat.le_of_ble_eq_true rfl) ?_
  refine b_aload_n (show decode prog_9_method_1_code 0 = .ok (.aload_n 0, 1) by decide +kernel) rfl rfl (i := 0) (x := 0) rfl ?_
  refine b_Y (Y2 := [] ++ [.inr (5, [.int 0, .null, .null, .int 0])]) rfl ?_
  refine b_call (M := m_ME_init) (As := []) (rest := []) (o := 0) (d := d + 1) (mc := 1) (ms := 10) (c := 19) (k := 4990) ok_ME_init in_ME_init rfl rfl (Or.inr ⟨"LevelBreaks", List.mem_of_getElem? (i := 6) rfl⟩) rfl rfl rfl (by decide) rfl (show decode prog_9_method_1_code 1 = .ok (.invokespecial 3, 3) by decide +kernel) rfl ⟨by show d + 1 + 1 ≤ d + 2; omega, by show 60 * (d + 1 + 1) ≤ 60 * (d + 2); omega⟩ (k_ME_ON (G := shB G 0) (d := d)) ?_
  refine b_Y (Y2 := [.inr (5, [.int 0, .null, .null, .int 0])]) rfl ?_
  refine b_aload_n (show decode prog_9_method_1_code 4 = .ok (.aload_n 0, 1) by decide +kernel) rfl rfl (i := 0) (x := 0) rfl ?_
  refine b_bipush (v := 40) (show decode prog_9_method_1_code 5 = .ok (.bipush 40, 2) by decide +kernel) rfl (by decide) ?_
  refine b_newI (N := 40) (n := 1) (c := 18) (k := 4950) (by decide) (by decide) (by decide) rfl (show decode prog_9_method_1_code 7 = .ok (.newarray .int, 2) by decide +kernel) rfl ?_
  refine b_Y (Y2 := [.inr (5, [.int 0, .null, .null, .int 0]), ai G 40 (fun _ => 0)]) rfl ?_
  refine b_putF (ci := 5) (kf := 1) rfl rfl i_ON p_ON n_ON (by decide) fl_ON_9 rfl rfl rfl rfl (p_ON 1 (by decide)) rfl rfl (Nat.le_of_ble_eq_true rfl) (show decode prog_9_method_1_code 9 = .ok (.putfield 9, 3) by decide +kernel) rfl ?_
  refine b_Y (Y2 := [.inr (5, [.int 0, .ref (gB G + 1), .null, .int 0]), ai G 40 (fun _ => 0)]) rfl ?_
  refine b_aload_n (show decode prog_9_method_1_code 12 = .ok (.aload_n 0, 1) by decide +kernel) rfl rfl (i := 0) (x := 0) rfl ?_
  refine b_bipush (v := 41) (show decode prog_9_method_1_code 13 = .ok (.bipush 41, 2) by decide +kernel) rfl (by decide) ?_
  refine b_newI (N := 41) (n := 2) (c := 17) (k := 4909) (by decide) (by decide) (by decide) rfl (show decode prog_9_method_1_code 15 = .ok (.newarray .int, 2) by decide +kernel) rfl ?_
  refine b_Y (Y2 := [.inr (5, [.int 0, .ref (gB G + 1), .null, .int 0]), ai G 40 (fun _ => 0), ai G 41 (fun _ => 0)]) rfl ?_
  refine b_putF (ci := 5) (kf := 2) rfl rfl i_ON p_ON n_ON (by decide) fl_ON_15 rfl rfl rfl rfl (p_ON 2 (by decide)) rfl rfl (Nat.le_of_ble_eq_true rfl) (show decode prog_9_method_1_code 17 = .ok (.putfield 15, 3) by decide +kernel) rfl ?_
  refine b_Y (Y2 := [.inr (5, [.int 0, .ref (gB G + 1), .ref (gB G + 2), .int 0]), ai G 40 (fun _ => 0), ai G 41 (fun _ => 0)]) rfl ?_
  exact b_ret rfl (show decode prog_9_method_1_code 20 = .ok (.return_, 1) by decide +kernel)
abbrev cs_CU (G : GC) : List va_E := [.inr (2, [.ref (gB G + 1), .ref (gB G + 9), .ref (gB G + 10), .ref (gB G + 11), .ref (gB G + 12), .ref (gB G + 13), .ref (gB G + 14), .ref (gB G + 15), .int 0, .int 0, .long 0, .long 0, .ref (gB G + 16)]), ar G 3 4 [gB G + 2, gB G + 3, gB G + 5, gB G + 6], .inr (8, [.int 0, .long 0, .long 0, .long 0, .long 0, .long 0, .long 0]), .inr (4, [.int 0, .ref (gB G + 4), .long 0]), ai G 40 (fun _ => 0), .inr (8, [.int 0, .long 20, .long 0, .long 0, .long 0, .long 0, .long 0]), .inr (5, [.int 0, .ref (gB G + 7), .ref (gB G + 8), .int 0]), ai G 40 (fun _ => 0), ai G 41 (fun _ => 0), aj G 861, aj G 861, ai G 861 (fun _ => 0), ai G 861 (fun _ => 0), aj G 40, aj G 40, aj G 40, ai G 6 (fun _ => 0)]
set_option maxRecDepth 100000 in
theorem k_CU {G : GC} {d : Nat} : CtB G (d + 3) 200 40000 m_CU_init (.ref 0 :: []) [.inr (2, [.null, .null, .null, .null, .null, .null, .null, .null, .int 0, .int 0, .long 0, .long 0, .null])] (cs_CU G) := by
  refine CtB.ofGo [some (.ref 0)] (by decide) rfl (Nat.le_of_ble_eq_true rfl) ?_
  refine b_aload_n (show decode prog_5_method_1_code 0 = .ok (.aload_n 0, 1) by decide +kernel) rfl rfl (i := 0) (x := 0) rfl ?_
  refine b_obj ml_CU_5 ⟨by show 1 ≤ d + 3; omega, by show 20 ≤ 60 * (d + 3); omega⟩ (show decode prog_5_method_1_code 1 = .ok (.invokespecial 5, 3) by decide +kernel) rfl ?_
  refine b_aload_n (show decode prog_5_method_1_code 4 = .ok (.aload_n 0, 1) by decide +kernel) rfl rfl (i := 0) (x := 0) rfl ?_
  refine b_iconst (v := 4) (show decode prog_5_method_1_code 5 = .ok (.iconst 4, 1) by decide +kernel) rfl (by decide) ?_
  refine b_newq (E := "LevelBreaks$Measure") (t0 := 3) (N := 4) (n := 1) (c := 199) (k := 39996) (gw_1 96 rfl rfl) (fun s h => h.1) rfl (by decide) (by decide) (by decide) rfl (show decode prog_5_method_1_code 6 = .ok (.anewarray 11, 3) by decide +kernel) rfl ?_
  refine b_Y (Y2 := [.inr (2, [.null, .null, .null, .null, .null, .null, .null, .null, .int 0, .int 0, .long 0, .long 0, .null]), ar G 3 4 []]) rfl ?_
  refine b_dup (show decode prog_5_method_1_code 9 = .ok (.dup, 1) by decide +kernel) rfl rfl ?_
  refine b_iconst (v := 0) (show decode prog_5_method_1_code 10 = .ok (.iconst 0, 1) by decide +kernel) rfl (by decide) ?_
  refine b_new (C := "LevelBreaks$Sums") (T := T_SU) (ty := t_SU) (N := 7) (ci := 8) (n := 2) (c := 198) (k := 39989) (fs := [.int 0, .long 0, .long 0, .long 0, .long 0, .long 0, .long 0]) (gw_1 98 rfl rfl) (gw_1 99 rfl rfl) (gw_1 6 rfl rfl) i_SU p_SU rfl rfl rfl (show decode prog_5_method_1_code 11 = .ok (.new 13, 3) by decide +kernel) rfl ?_
  refine b_dup (show decode prog_5_method_1_code 14 = .ok (.dup, 1) by decide +kernel) rfl rfl ?_
  refine b_iconst (v := 0) (show decode prog_5_method_1_code 15 = .ok (.iconst 0, 1) by decide +kernel) rfl (by decide) ?_
  refine b_Y (Y2 := [.inr (2, [.null, .null, .null, .null, .null, .null, .null, .null, .int 0, .int 0, .long 0, .long 0, .null]), ar G 3 4 []] ++ [.inr (8, [.int 0, .long 0, .long 0, .long 0, .long 0, .long 0, .long 0])]) rfl ?_
  refine b_call (M := m_SU_init) (As := [.int 0]) (rest := [.ref 2, .int 0, .ref 1, .ref 1, .ref 0]) (o := 2) (d := d + 2) (mc := 20) (ms := 5000) (c := 178) (k := 34989) ok_SU_init in_SU_init rfl rfl (Or.inl ml_CU_15) rfl rfl rfl (by decide) rfl (show decode prog_5_method_1_code 16 = .ok (.invokespecial 15, 3) by decide +kernel) rfl ⟨by show d + 2 + 1 ≤ d + 3; omega, by show 60 * (d + 2 + 1) ≤ 60 * (d + 3); omega⟩ (k_SU (G := shB G 2) (d := d) (0)) ?_
  refine b_Y (Y2 := [.inr (2, [.null, .null, .null, .null, .null, .null, .null, .null, .int 0, .int 0, .long 0, .long 0, .null]), ar G 3 4 [], .inr (8, [.int 0, .long 0, .long 0, .long 0, .long 0, .long 0, .long 0])]) rfl ?_
  refine b_astq (E := "LevelBreaks$Measure") (t0 := 3) (ci := 8) rfl rfl rfl rfl (Or.inr fun s h => h.2.2.2.1) (show ¬ _ by decide) (show decode prog_5_method_1_code 19 = .ok (.aastore, 1) by decide +kernel) rfl ?_
  refine b_Y (Y2 := [.inr (2, [.null, .null, .null, .null, .null, .null, .null, .null, .int 0, .int 0, .long 0, .long 0, .null]), ar G 3 4 [gB G + 2], .inr (8, [.int 0, .long 0, .long 0, .long 0, .long 0, .long 0, .long 0])]) (by rw [show Int32.toNatClampNeg (0 : Int32) = 0 from by decide, ar_up (l := []) (k := 0) rfl]; rfl) ?_
  refine b_dup (show decode prog_5_method_1_code 20 = .ok (.dup, 1) by decide +kernel) rfl rfl ?_
  refine b_iconst (v := 1) (show decode prog_5_method_1_code 21 = .ok (.iconst 1, 1) by decide +kernel) rfl (by decide) ?_
  refine b_new (C := "LevelBreaks$Middle") (T := T_MI) (ty := t_MI) (N := 3) (ci := 4) (n := 3) (c := 177) (k := 34986) (fs := [.int 0, .null, .long 0]) (gw_1 136 rfl rfl) (gw_1 137 rfl rfl) (gw_1 7 rfl rfl) i_MI p_MI rfl rfl rfl (show decode prog_5_method_1_code 22 = .ok (.new 18, 3) by decide +kernel) rfl ?_
  refine b_dup (show decode prog_5_method_1_code 25 = .ok (.dup, 1) by decide +kernel) rfl rfl ?_
  refine b_Y (Y2 := [.inr (2, [.null, .null, .null, .null, .null, .null, .null, .null, .int 0, .int 0, .long 0, .long 0, .null]), ar G 3 4 [gB G + 2], .inr (8, [.int 0, .long 0, .long 0, .long 0, .long 0, .long 0, .long 0])] ++ [.inr (4, [.int 0, .null, .long 0])]) rfl ?_
  refine b_call (M := m_MI_init) (As := []) (rest := [.ref 3, .int 1, .ref 1, .ref 1, .ref 0]) (o := 3) (d := d + 2) (mc := 20) (ms := 5000) (c := 157) (k := 29986) ok_MI_init in_MI_init rfl rfl (Or.inr ⟨"LevelBreaks", List.mem_of_getElem? (i := 3) rfl⟩) rfl rfl rfl (by decide) rfl (show decode prog_5_method_1_code 26 = .ok (.invokespecial 20, 3) by decide +kernel) rfl ⟨by show d + 2 + 1 ≤ d + 3; omega, by show 60 * (d + 2 + 1) ≤ 60 * (d + 3); omega⟩ (k_MI (G := shB G 3) (d := d)) ?_
  refine b_Y (Y2 := [.inr (2, [.null, .null, .null, .null, .null, .null, .null, .null, .int 0, .int 0, .long 0, .long 0, .null]), ar G 3 4 [gB G + 2], .inr (8, [.int 0, .long 0, .long 0, .long 0, .long 0, .long 0, .long 0]), .inr (4, [.int 0, .ref (gB G + 4), .long 0]), ai G 40 (fun _ => 0)]) rfl ?_
  refine b_astq (E := "LevelBreaks$Measure") (t0 := 3) (ci := 4) rfl rfl rfl rfl (Or.inr fun s h => h.2.2.2.2.1) (show ¬ _ by decide) (show decode prog_5_method_1_code 29 = .ok (.aastore, 1) by decide +kernel) rfl ?_
  refine b_Y (Y2 := [.inr (2, [.null, .null, .null, .null, .null, .null, .null, .null, .int 0, .int 0, .long 0, .long 0, .null]), ar G 3 4 [gB G + 2, gB G + 3], .inr (8, [.int 0, .long 0, .long 0, .long 0, .long 0, .long 0, .long 0]), .inr (4, [.int 0, .ref (gB G + 4), .long 0]), ai G 40 (fun _ => 0)]) (by rw [show Int32.toNatClampNeg (1 : Int32) = 1 from by decide, ar_up (l := [gB G + 2]) (k := 1) rfl]; rfl) ?_
  refine b_dup (show decode prog_5_method_1_code 30 = .ok (.dup, 1) by decide +kernel) rfl rfl ?_
  refine b_iconst (v := 2) (show decode prog_5_method_1_code 31 = .ok (.iconst 2, 1) by decide +kernel) rfl (by decide) ?_
  refine b_new (C := "LevelBreaks$Sums") (T := T_SU) (ty := t_SU) (N := 7) (ci := 8) (n := 5) (c := 156) (k := 29979) (fs := [.int 0, .long 0, .long 0, .long 0, .long 0, .long 0, .long 0]) (gw_1 98 rfl rfl) (gw_1 99 rfl rfl) (gw_1 6 rfl rfl) i_SU p_SU rfl rfl rfl (show decode prog_5_method_1_code 32 = .ok (.new 13, 3) by decide +kernel) rfl ?_
  refine b_dup (show decode prog_5_method_1_code 35 = .ok (.dup, 1) by decide +kernel) rfl rfl ?_
  refine b_bipush (v := 20) (show decode prog_5_method_1_code 36 = .ok (.bipush 20, 2) by decide +kernel) rfl (by decide) ?_
  refine b_Y (Y2 := [.inr (2, [.null, .null, .null, .null, .null, .null, .null, .null, .int 0, .int 0, .long 0, .long 0, .null]), ar G 3 4 [gB G + 2, gB G + 3], .inr (8, [.int 0, .long 0, .long 0, .long 0, .long 0, .long 0, .long 0]), .inr (4, [.int 0, .ref (gB G + 4), .long 0]), ai G 40 (fun _ => 0)] ++ [.inr (8, [.int 0, .long 0, .long 0, .long 0, .long 0, .long 0, .long 0])]) rfl ?_
  refine b_call (M := m_SU_init) (As := [.int 20]) (rest := [.ref 5, .int 2, .ref 1, .ref 1, .ref 0]) (o := 5) (d := d + 2) (mc := 20) (ms := 5000) (c := 136) (k := 24979) ok_SU_init in_SU_init rfl rfl (Or.inl ml_CU_15) rfl rfl rfl (by decide) rfl (show decode prog_5_method_1_code 38 = .ok (.invokespecial 15, 3) by decide +kernel) rfl ⟨by show d + 2 + 1 ≤ d + 3; omega, by show 60 * (d + 2 + 1) ≤ 60 * (d + 3); omega⟩ (k_SU (G := shB G 5) (d := d) (20)) ?_
  refine b_Y (Y2 := [.inr (2, [.null, .null, .null, .null, .null, .null, .null, .null, .int 0, .int 0, .long 0, .long 0, .null]), ar G 3 4 [gB G + 2, gB G + 3], .inr (8, [.int 0, .long 0, .long 0, .long 0, .long 0, .long 0, .long 0]), .inr (4, [.int 0, .ref (gB G + 4), .long 0]), ai G 40 (fun _ => 0), .inr (8, [.int 0, .long 20, .long 0, .long 0, .long 0, .long 0, .long 0])]) rfl ?_
  refine b_astq (E := "LevelBreaks$Measure") (t0 := 3) (ci := 8) rfl rfl rfl rfl (Or.inr fun s h => h.2.2.2.1) (show ¬ _ by decide) (show decode prog_5_method_1_code 41 = .ok (.aastore, 1) by decide +kernel) rfl ?_
  refine b_Y (Y2 := [.inr (2, [.null, .null, .null, .null, .null, .null, .null, .null, .int 0, .int 0, .long 0, .long 0, .null]), ar G 3 4 [gB G + 2, gB G + 3, gB G + 5], .inr (8, [.int 0, .long 0, .long 0, .long 0, .long 0, .long 0, .long 0]), .inr (4, [.int 0, .ref (gB G + 4), .long 0]), ai G 40 (fun _ => 0), .inr (8, [.int 0, .long 20, .long 0, .long 0, .long 0, .long 0, .long 0])]) (by rw [show Int32.toNatClampNeg (2 : Int32) = 2 from by decide, ar_up (l := [gB G + 2, gB G + 3]) (k := 2) rfl]; rfl) ?_
  refine b_dup (show decode prog_5_method_1_code 42 = .ok (.dup, 1) by decide +kernel) rfl rfl ?_
  refine b_iconst (v := 3) (show decode prog_5_method_1_code 43 = .ok (.iconst 3, 1) by decide +kernel) rfl (by decide) ?_
  refine b_new (C := "LevelBreaks$One") (T := T_ON) (ty := t_ON) (N := 4) (ci := 5) (n := 6) (c := 135) (k := 24975) (fs := [.int 0, .null, .null, .int 0]) (gw_1 150 rfl rfl) (gw_1 151 rfl rfl) (gw_1 8 rfl rfl) i_ON p_ON rfl rfl rfl (show decode prog_5_method_1_code 44 = .ok (.new 21, 3) by decide +kernel) rfl ?_
  refine b_dup (show decode prog_5_method_1_code 47 = .ok (.dup, 1) by decide +kernel) rfl rfl ?_
  refine b_Y (Y2 := [.inr (2, [.null, .null, .null, .null, .null, .null, .null, .null, .int 0, .int 0, .long 0, .long 0, .null]), ar G 3 4 [gB G + 2, gB G + 3, gB G + 5], .inr (8, [.int 0, .long 0, .long 0, .long 0, .long 0, .long 0, .long 0]), .inr (4, [.int 0, .ref (gB G + 4), .long 0]), ai G 40 (fun _ => 0), .inr (8, [.int 0, .long 20, .long 0, .long 0, .long 0, .long 0, .long 0])] ++ [.inr (5, [.int 0, .null, .null, .int 0])]) rfl ?_
  refine b_call (M := m_ON_init) (As := []) (rest := [.ref 6, .int 3, .ref 1, .ref 1, .ref 0]) (o := 6) (d := d + 2) (mc := 20) (ms := 5000) (c := 115) (k := 19975) ok_ON_init in_ON_init rfl rfl (Or.inr ⟨"LevelBreaks", List.mem_of_getElem? (i := 5) rfl⟩) rfl rfl rfl (by decide) rfl (show decode prog_5_method_1_code 48 = .ok (.invokespecial 23, 3) by decide +kernel) rfl ⟨by show d + 2 + 1 ≤ d + 3; omega, by show 60 * (d + 2 + 1) ≤ 60 * (d + 3); omega⟩ (k_ON (G := shB G 6) (d := d)) ?_
  refine b_Y (Y2 := [.inr (2, [.null, .null, .null, .null, .null, .null, .null, .null, .int 0, .int 0, .long 0, .long 0, .null]), ar G 3 4 [gB G + 2, gB G + 3, gB G + 5], .inr (8, [.int 0, .long 0, .long 0, .long 0, .long 0, .long 0, .long 0]), .inr (4, [.int 0, .ref (gB G + 4), .long 0]), ai G 40 (fun _ => 0), .inr (8, [.int 0, .long 20, .long 0, .long 0, .long 0, .long 0, .long 0]), .inr (5, [.int 0, .ref (gB G + 7), .ref (gB G + 8), .int 0]), ai G 40 (fun _ => 0), ai G 41 (fun _ => 0)]) rfl ?_
  refine b_astq (E := "LevelBreaks$Measure") (t0 := 3) (ci := 5) rfl rfl rfl rfl (Or.inr fun s h => h.2.2.2.2.2) (show ¬ _ by decide) (show decode prog_5_method_1_code 51 = .ok (.aastore, 1) by decide +kernel) rfl ?_
  refine b_Y (Y2 := [.inr (2, [.null, .null, .null, .null, .null, .null, .null, .null, .int 0, .int 0, .long 0, .long 0, .null]), ar G 3 4 [gB G + 2, gB G + 3, gB G + 5, gB G + 6], .inr (8, [.int 0, .long 0, .long 0, .long 0, .long 0, .long 0, .long 0]), .inr (4, [.int 0, .ref (gB G + 4), .long 0]), ai G 40 (fun _ => 0), .inr (8, [.int 0, .long 20, .long 0, .long 0, .long 0, .long 0, .long 0]), .inr (5, [.int 0, .ref (gB G + 7), .ref (gB G + 8), .int 0]), ai G 40 (fun _ => 0), ai G 41 (fun _ => 0)]) (by rw [show Int32.toNatClampNeg (3 : Int32) = 3 from by decide, ar_up (l := [gB G + 2, gB G + 3, gB G + 5]) (k := 3) rfl]; rfl) ?_
  refine b_putF (ci := 2) (kf := 0) rfl rfl i_CU p_CU n_CU (by decide) fl_CU_24 rfl rfl rfl rfl (p_CU 0 (by decide)) rfl rfl (Nat.le_of_ble_eq_true rfl) (show decode prog_5_method_1_code 52 = .ok (.putfield 24, 3) by decide +kernel) rfl ?_
  refine b_Y (Y2 := [.inr (2, [.ref (gB G + 1), .null, .null, .null, .null, .null, .null, .null, .int 0, .int 0, .long 0, .long 0, .null]), ar G 3 4 [gB G + 2, gB G + 3, gB G + 5, gB G + 6], .inr (8, [.int 0, .long 0, .long 0, .long 0, .long 0, .long 0, .long 0]), .inr (4, [.int 0, .ref (gB G + 4), .long 0]), ai G 40 (fun _ => 0), .inr (8, [.int 0, .long 20, .long 0, .long 0, .long 0, .long 0, .long 0]), .inr (5, [.int 0, .ref (gB G + 7), .ref (gB G + 8), .int 0]), ai G 40 (fun _ => 0), ai G 41 (fun _ => 0)]) rfl ?_
  refine b_aload_n (show decode prog_5_method_1_code 55 = .ok (.aload_n 0, 1) by decide +kernel) rfl rfl (i := 0) (x := 0) rfl ?_
  refine b_sipush (v := 861) (show decode prog_5_method_1_code 56 = .ok (.sipush 861, 3) by decide +kernel) rfl (by decide) ?_
  refine b_newJ (N := 861) (n := 9) (c := 114) (k := 19114) (by decide) (by decide) (by decide) rfl (show decode prog_5_method_1_code 59 = .ok (.newarray .long, 2) by decide +kernel) rfl ?_
  refine b_Y (Y2 := [.inr (2, [.ref (gB G + 1), .null, .null, .null, .null, .null, .null, .null, .int 0, .int 0, .long 0, .long 0, .null]), ar G 3 4 [gB G + 2, gB G + 3, gB G + 5, gB G + 6], .inr (8, [.int 0, .long 0, .long 0, .long 0, .long 0, .long 0, .long 0]), .inr (4, [.int 0, .ref (gB G + 4), .long 0]), ai G 40 (fun _ => 0), .inr (8, [.int 0, .long 20, .long 0, .long 0, .long 0, .long 0, .long 0]), .inr (5, [.int 0, .ref (gB G + 7), .ref (gB G + 8), .int 0]), ai G 40 (fun _ => 0), ai G 41 (fun _ => 0), aj G 861]) rfl ?_
  refine b_putF (ci := 2) (kf := 1) rfl rfl i_CU p_CU n_CU (by decide) fl_CU_28 rfl rfl rfl rfl (p_CU 1 (by decide)) rfl rfl (Nat.le_of_ble_eq_true rfl) (show decode prog_5_method_1_code 61 = .ok (.putfield 28, 3) by decide +kernel) rfl ?_
  refine b_Y (Y2 := [.inr (2, [.ref (gB G + 1), .ref (gB G + 9), .null, .null, .null, .null, .null, .null, .int 0, .int 0, .long 0, .long 0, .null]), ar G 3 4 [gB G + 2, gB G + 3, gB G + 5, gB G + 6], .inr (8, [.int 0, .long 0, .long 0, .long 0, .long 0, .long 0, .long 0]), .inr (4, [.int 0, .ref (gB G + 4), .long 0]), ai G 40 (fun _ => 0), .inr (8, [.int 0, .long 20, .long 0, .long 0, .long 0, .long 0, .long 0]), .inr (5, [.int 0, .ref (gB G + 7), .ref (gB G + 8), .int 0]), ai G 40 (fun _ => 0), ai G 41 (fun _ => 0), aj G 861]) rfl ?_
  refine b_aload_n (show decode prog_5_method_1_code 64 = .ok (.aload_n 0, 1) by decide +kernel) rfl rfl (i := 0) (x := 0) rfl ?_
  refine b_sipush (v := 861) (show decode prog_5_method_1_code 65 = .ok (.sipush 861, 3) by decide +kernel) rfl (by decide) ?_
  refine b_newJ (N := 861) (n := 10) (c := 113) (k := 18253) (by decide) (by decide) (by decide) rfl (show decode prog_5_method_1_code 68 = .ok (.newarray .long, 2) by decide +kernel) rfl ?_
  refine b_Y (Y2 := [.inr (2, [.ref (gB G + 1), .ref (gB G + 9), .null, .null, .null, .null, .null, .null, .int 0, .int 0, .long 0, .long 0, .null]), ar G 3 4 [gB G + 2, gB G + 3, gB G + 5, gB G + 6], .inr (8, [.int 0, .long 0, .long 0, .long 0, .long 0, .long 0, .long 0]), .inr (4, [.int 0, .ref (gB G + 4), .long 0]), ai G 40 (fun _ => 0), .inr (8, [.int 0, .long 20, .long 0, .long 0, .long 0, .long 0, .long 0]), .inr (5, [.int 0, .ref (gB G + 7), .ref (gB G + 8), .int 0]), ai G 40 (fun _ => 0), ai G 41 (fun _ => 0), aj G 861, aj G 861]) rfl ?_
  refine b_putF (ci := 2) (kf := 2) rfl rfl i_CU p_CU n_CU (by decide) fl_CU_32 rfl rfl rfl rfl (p_CU 2 (by decide)) rfl rfl (Nat.le_of_ble_eq_true rfl) (show decode prog_5_method_1_code 70 = .ok (.putfield 32, 3) by decide +kernel) rfl ?_
  refine b_Y (Y2 := [.inr (2, [.ref (gB G + 1), .ref (gB G + 9), .ref (gB G + 10), .null, .null, .null, .null, .null, .int 0, .int 0, .long 0, .long 0, .null]), ar G 3 4 [gB G + 2, gB G + 3, gB G + 5, gB G + 6], .inr (8, [.int 0, .long 0, .long 0, .long 0, .long 0, .long 0, .long 0]), .inr (4, [.int 0, .ref (gB G + 4), .long 0]), ai G 40 (fun _ => 0), .inr (8, [.int 0, .long 20, .long 0, .long 0, .long 0, .long 0, .long 0]), .inr (5, [.int 0, .ref (gB G + 7), .ref (gB G + 8), .int 0]), ai G 40 (fun _ => 0), ai G 41 (fun _ => 0), aj G 861, aj G 861]) rfl ?_
  refine b_aload_n (show decode prog_5_method_1_code 73 = .ok (.aload_n 0, 1) by decide +kernel) rfl rfl (i := 0) (x := 0) rfl ?_
  refine b_sipush (v := 861) (show decode prog_5_method_1_code 74 = .ok (.sipush 861, 3) by decide +kernel) rfl (by decide) ?_
  refine b_newI (N := 861) (n := 11) (c := 112) (k := 17392) (by decide) (by decide) (by decide) rfl (show decode prog_5_method_1_code 77 = .ok (.newarray .int, 2) by decide +kernel) rfl ?_
  refine b_Y (Y2 := [.inr (2, [.ref (gB G + 1), .ref (gB G + 9), .ref (gB G + 10), .null, .null, .null, .null, .null, .int 0, .int 0, .long 0, .long 0, .null]), ar G 3 4 [gB G + 2, gB G + 3, gB G + 5, gB G + 6], .inr (8, [.int 0, .long 0, .long 0, .long 0, .long 0, .long 0, .long 0]), .inr (4, [.int 0, .ref (gB G + 4), .long 0]), ai G 40 (fun _ => 0), .inr (8, [.int 0, .long 20, .long 0, .long 0, .long 0, .long 0, .long 0]), .inr (5, [.int 0, .ref (gB G + 7), .ref (gB G + 8), .int 0]), ai G 40 (fun _ => 0), ai G 41 (fun _ => 0), aj G 861, aj G 861, ai G 861 (fun _ => 0)]) rfl ?_
  refine b_putF (ci := 2) (kf := 3) rfl rfl i_CU p_CU n_CU (by decide) fl_CU_35 rfl rfl rfl rfl (p_CU 3 (by decide)) rfl rfl (Nat.le_of_ble_eq_true rfl) (show decode prog_5_method_1_code 79 = .ok (.putfield 35, 3) by decide +kernel) rfl ?_
  refine b_Y (Y2 := [.inr (2, [.ref (gB G + 1), .ref (gB G + 9), .ref (gB G + 10), .ref (gB G + 11), .null, .null, .null, .null, .int 0, .int 0, .long 0, .long 0, .null]), ar G 3 4 [gB G + 2, gB G + 3, gB G + 5, gB G + 6], .inr (8, [.int 0, .long 0, .long 0, .long 0, .long 0, .long 0, .long 0]), .inr (4, [.int 0, .ref (gB G + 4), .long 0]), ai G 40 (fun _ => 0), .inr (8, [.int 0, .long 20, .long 0, .long 0, .long 0, .long 0, .long 0]), .inr (5, [.int 0, .ref (gB G + 7), .ref (gB G + 8), .int 0]), ai G 40 (fun _ => 0), ai G 41 (fun _ => 0), aj G 861, aj G 861, ai G 861 (fun _ => 0)]) rfl ?_
  refine b_aload_n (show decode prog_5_method_1_code 82 = .ok (.aload_n 0, 1) by decide +kernel) rfl rfl (i := 0) (x := 0) rfl ?_
  refine b_sipush (v := 861) (show decode prog_5_method_1_code 83 = .ok (.sipush 861, 3) by decide +kernel) rfl (by decide) ?_
  refine b_newI (N := 861) (n := 12) (c := 111) (k := 16531) (by decide) (by decide) (by decide) rfl (show decode prog_5_method_1_code 86 = .ok (.newarray .int, 2) by decide +kernel) rfl ?_
  refine b_Y (Y2 := [.inr (2, [.ref (gB G + 1), .ref (gB G + 9), .ref (gB G + 10), .ref (gB G + 11), .null, .null, .null, .null, .int 0, .int 0, .long 0, .long 0, .null]), ar G 3 4 [gB G + 2, gB G + 3, gB G + 5, gB G + 6], .inr (8, [.int 0, .long 0, .long 0, .long 0, .long 0, .long 0, .long 0]), .inr (4, [.int 0, .ref (gB G + 4), .long 0]), ai G 40 (fun _ => 0), .inr (8, [.int 0, .long 20, .long 0, .long 0, .long 0, .long 0, .long 0]), .inr (5, [.int 0, .ref (gB G + 7), .ref (gB G + 8), .int 0]), ai G 40 (fun _ => 0), ai G 41 (fun _ => 0), aj G 861, aj G 861, ai G 861 (fun _ => 0), ai G 861 (fun _ => 0)]) rfl ?_
  refine b_putF (ci := 2) (kf := 4) rfl rfl i_CU p_CU n_CU (by decide) fl_CU_39 rfl rfl rfl rfl (p_CU 4 (by decide)) rfl rfl (Nat.le_of_ble_eq_true rfl) (show decode prog_5_method_1_code 88 = .ok (.putfield 39, 3) by decide +kernel) rfl ?_
  refine b_Y (Y2 := [.inr (2, [.ref (gB G + 1), .ref (gB G + 9), .ref (gB G + 10), .ref (gB G + 11), .ref (gB G + 12), .null, .null, .null, .int 0, .int 0, .long 0, .long 0, .null]), ar G 3 4 [gB G + 2, gB G + 3, gB G + 5, gB G + 6], .inr (8, [.int 0, .long 0, .long 0, .long 0, .long 0, .long 0, .long 0]), .inr (4, [.int 0, .ref (gB G + 4), .long 0]), ai G 40 (fun _ => 0), .inr (8, [.int 0, .long 20, .long 0, .long 0, .long 0, .long 0, .long 0]), .inr (5, [.int 0, .ref (gB G + 7), .ref (gB G + 8), .int 0]), ai G 40 (fun _ => 0), ai G 41 (fun _ => 0), aj G 861, aj G 861, ai G 861 (fun _ => 0), ai G 861 (fun _ => 0)]) rfl ?_
  refine b_aload_n (show decode prog_5_method_1_code 91 = .ok (.aload_n 0, 1) by decide +kernel) rfl rfl (i := 0) (x := 0) rfl ?_
  refine b_bipush (v := 40) (show decode prog_5_method_1_code 92 = .ok (.bipush 40, 2) by decide +kernel) rfl (by decide) ?_
  refine b_newJ (N := 40) (n := 13) (c := 110) (k := 16491) (by decide) (by decide) (by decide) rfl (show decode prog_5_method_1_code 94 = .ok (.newarray .long, 2) by decide +kernel) rfl ?_
  refine b_Y (Y2 := [.inr (2, [.ref (gB G + 1), .ref (gB G + 9), .ref (gB G + 10), .ref (gB G + 11), .ref (gB G + 12), .null, .null, .null, .int 0, .int 0, .long 0, .long 0, .null]), ar G 3 4 [gB G + 2, gB G + 3, gB G + 5, gB G + 6], .inr (8, [.int 0, .long 0, .long 0, .long 0, .long 0, .long 0, .long 0]), .inr (4, [.int 0, .ref (gB G + 4), .long 0]), ai G 40 (fun _ => 0), .inr (8, [.int 0, .long 20, .long 0, .long 0, .long 0, .long 0, .long 0]), .inr (5, [.int 0, .ref (gB G + 7), .ref (gB G + 8), .int 0]), ai G 40 (fun _ => 0), ai G 41 (fun _ => 0), aj G 861, aj G 861, ai G 861 (fun _ => 0), ai G 861 (fun _ => 0), aj G 40]) rfl ?_
  refine b_putF (ci := 2) (kf := 5) rfl rfl i_CU p_CU n_CU (by decide) fl_CU_42 rfl rfl rfl rfl (p_CU 5 (by decide)) rfl rfl (Nat.le_of_ble_eq_true rfl) (show decode prog_5_method_1_code 96 = .ok (.putfield 42, 3) by decide +kernel) rfl ?_
  refine b_Y (Y2 := [.inr (2, [.ref (gB G + 1), .ref (gB G + 9), .ref (gB G + 10), .ref (gB G + 11), .ref (gB G + 12), .ref (gB G + 13), .null, .null, .int 0, .int 0, .long 0, .long 0, .null]), ar G 3 4 [gB G + 2, gB G + 3, gB G + 5, gB G + 6], .inr (8, [.int 0, .long 0, .long 0, .long 0, .long 0, .long 0, .long 0]), .inr (4, [.int 0, .ref (gB G + 4), .long 0]), ai G 40 (fun _ => 0), .inr (8, [.int 0, .long 20, .long 0, .long 0, .long 0, .long 0, .long 0]), .inr (5, [.int 0, .ref (gB G + 7), .ref (gB G + 8), .int 0]), ai G 40 (fun _ => 0), ai G 41 (fun _ => 0), aj G 861, aj G 861, ai G 861 (fun _ => 0), ai G 861 (fun _ => 0), aj G 40]) rfl ?_
  refine b_aload_n (show decode prog_5_method_1_code 99 = .ok (.aload_n 0, 1) by decide +kernel) rfl rfl (i := 0) (x := 0) rfl ?_
  refine b_bipush (v := 40) (show decode prog_5_method_1_code 100 = .ok (.bipush 40, 2) by decide +kernel) rfl (by decide) ?_
  refine b_newJ (N := 40) (n := 14) (c := 109) (k := 16451) (by decide) (by decide) (by decide) rfl (show decode prog_5_method_1_code 102 = .ok (.newarray .long, 2) by decide +kernel) rfl ?_
  refine b_Y (Y2 := [.inr (2, [.ref (gB G + 1), .ref (gB G + 9), .ref (gB G + 10), .ref (gB G + 11), .ref (gB G + 12), .ref (gB G + 13), .null, .null, .int 0, .int 0, .long 0, .long 0, .null]), ar G 3 4 [gB G + 2, gB G + 3, gB G + 5, gB G + 6], .inr (8, [.int 0, .long 0, .long 0, .long 0, .long 0, .long 0, .long 0]), .inr (4, [.int 0, .ref (gB G + 4), .long 0]), ai G 40 (fun _ => 0), .inr (8, [.int 0, .long 20, .long 0, .long 0, .long 0, .long 0, .long 0]), .inr (5, [.int 0, .ref (gB G + 7), .ref (gB G + 8), .int 0]), ai G 40 (fun _ => 0), ai G 41 (fun _ => 0), aj G 861, aj G 861, ai G 861 (fun _ => 0), ai G 861 (fun _ => 0), aj G 40, aj G 40]) rfl ?_
  refine b_putF (ci := 2) (kf := 6) rfl rfl i_CU p_CU n_CU (by decide) fl_CU_45 rfl rfl rfl rfl (p_CU 6 (by decide)) rfl rfl (Nat.le_of_ble_eq_true rfl) (show decode prog_5_method_1_code 104 = .ok (.putfield 45, 3) by decide +kernel) rfl ?_
  refine b_Y (Y2 := [.inr (2, [.ref (gB G + 1), .ref (gB G + 9), .ref (gB G + 10), .ref (gB G + 11), .ref (gB G + 12), .ref (gB G + 13), .ref (gB G + 14), .null, .int 0, .int 0, .long 0, .long 0, .null]), ar G 3 4 [gB G + 2, gB G + 3, gB G + 5, gB G + 6], .inr (8, [.int 0, .long 0, .long 0, .long 0, .long 0, .long 0, .long 0]), .inr (4, [.int 0, .ref (gB G + 4), .long 0]), ai G 40 (fun _ => 0), .inr (8, [.int 0, .long 20, .long 0, .long 0, .long 0, .long 0, .long 0]), .inr (5, [.int 0, .ref (gB G + 7), .ref (gB G + 8), .int 0]), ai G 40 (fun _ => 0), ai G 41 (fun _ => 0), aj G 861, aj G 861, ai G 861 (fun _ => 0), ai G 861 (fun _ => 0), aj G 40, aj G 40]) rfl ?_
  refine b_aload_n (show decode prog_5_method_1_code 107 = .ok (.aload_n 0, 1) by decide +kernel) rfl rfl (i := 0) (x := 0) rfl ?_
  refine b_bipush (v := 40) (show decode prog_5_method_1_code 108 = .ok (.bipush 40, 2) by decide +kernel) rfl (by decide) ?_
  refine b_newJ (N := 40) (n := 15) (c := 108) (k := 16411) (by decide) (by decide) (by decide) rfl (show decode prog_5_method_1_code 110 = .ok (.newarray .long, 2) by decide +kernel) rfl ?_
  refine b_Y (Y2 := [.inr (2, [.ref (gB G + 1), .ref (gB G + 9), .ref (gB G + 10), .ref (gB G + 11), .ref (gB G + 12), .ref (gB G + 13), .ref (gB G + 14), .null, .int 0, .int 0, .long 0, .long 0, .null]), ar G 3 4 [gB G + 2, gB G + 3, gB G + 5, gB G + 6], .inr (8, [.int 0, .long 0, .long 0, .long 0, .long 0, .long 0, .long 0]), .inr (4, [.int 0, .ref (gB G + 4), .long 0]), ai G 40 (fun _ => 0), .inr (8, [.int 0, .long 20, .long 0, .long 0, .long 0, .long 0, .long 0]), .inr (5, [.int 0, .ref (gB G + 7), .ref (gB G + 8), .int 0]), ai G 40 (fun _ => 0), ai G 41 (fun _ => 0), aj G 861, aj G 861, ai G 861 (fun _ => 0), ai G 861 (fun _ => 0), aj G 40, aj G 40, aj G 40]) rfl ?_
  refine b_putF (ci := 2) (kf := 7) rfl rfl i_CU p_CU n_CU (by decide) fl_CU_48 rfl rfl rfl rfl (p_CU 7 (by decide)) rfl rfl (Nat.le_of_ble_eq_true rfl) (show decode prog_5_method_1_code 112 = .ok (.putfield 48, 3) by decide +kernel) rfl ?_
  refine b_Y (Y2 := [.inr (2, [.ref (gB G + 1), .ref (gB G + 9), .ref (gB G + 10), .ref (gB G + 11), .ref (gB G + 12), .ref (gB G + 13), .ref (gB G + 14), .ref (gB G + 15), .int 0, .int 0, .long 0, .long 0, .null]), ar G 3 4 [gB G + 2, gB G + 3, gB G + 5, gB G + 6], .inr (8, [.int 0, .long 0, .long 0, .long 0, .long 0, .long 0, .long 0]), .inr (4, [.int 0, .ref (gB G + 4), .long 0]), ai G 40 (fun _ => 0), .inr (8, [.int 0, .long 20, .long 0, .long 0, .long 0, .long 0, .long 0]), .inr (5, [.int 0, .ref (gB G + 7), .ref (gB G + 8), .int 0]), ai G 40 (fun _ => 0), ai G 41 (fun _ => 0), aj G 861, aj G 861, ai G 861 (fun _ => 0), ai G 861 (fun _ => 0), aj G 40, aj G 40, aj G 40]) rfl ?_
  refine b_aload_n (show decode prog_5_method_1_code 115 = .ok (.aload_n 0, 1) by decide +kernel) rfl rfl (i := 0) (x := 0) rfl ?_
  refine b_bipush (v := 6) (show decode prog_5_method_1_code 116 = .ok (.bipush 6, 2) by decide +kernel) rfl (by decide) ?_
  refine b_newI (N := 6) (n := 16) (c := 107) (k := 16405) (by decide) (by decide) (by decide) rfl (show decode prog_5_method_1_code 118 = .ok (.newarray .int, 2) by decide +kernel) rfl ?_
  refine b_Y (Y2 := [.inr (2, [.ref (gB G + 1), .ref (gB G + 9), .ref (gB G + 10), .ref (gB G + 11), .ref (gB G + 12), .ref (gB G + 13), .ref (gB G + 14), .ref (gB G + 15), .int 0, .int 0, .long 0, .long 0, .null]), ar G 3 4 [gB G + 2, gB G + 3, gB G + 5, gB G + 6], .inr (8, [.int 0, .long 0, .long 0, .long 0, .long 0, .long 0, .long 0]), .inr (4, [.int 0, .ref (gB G + 4), .long 0]), ai G 40 (fun _ => 0), .inr (8, [.int 0, .long 20, .long 0, .long 0, .long 0, .long 0, .long 0]), .inr (5, [.int 0, .ref (gB G + 7), .ref (gB G + 8), .int 0]), ai G 40 (fun _ => 0), ai G 41 (fun _ => 0), aj G 861, aj G 861, ai G 861 (fun _ => 0), ai G 861 (fun _ => 0), aj G 40, aj G 40, aj G 40, ai G 6 (fun _ => 0)]) rfl ?_
  refine b_putF (ci := 2) (kf := 12) rfl rfl i_CU p_CU n_CU (by decide) fl_CU_51 rfl rfl rfl rfl (p_CU 12 (by decide)) rfl rfl (Nat.le_of_ble_eq_true rfl) (show decode prog_5_method_1_code 120 = .ok (.putfield 51, 3) by decide +kernel) rfl ?_
  refine b_Y (Y2 := [.inr (2, [.ref (gB G + 1), .ref (gB G + 9), .ref (gB G + 10), .ref (gB G + 11), .ref (gB G + 12), .ref (gB G + 13), .ref (gB G + 14), .ref (gB G + 15), .int 0, .int 0, .long 0, .long 0, .ref (gB G + 16)]), ar G 3 4 [gB G + 2, gB G + 3, gB G + 5, gB G + 6], .inr (8, [.int 0, .long 0, .long 0, .long 0, .long 0, .long 0, .long 0]), .inr (4, [.int 0, .ref (gB G + 4), .long 0]), ai G 40 (fun _ => 0), .inr (8, [.int 0, .long 20, .long 0, .long 0, .long 0, .long 0, .long 0]), .inr (5, [.int 0, .ref (gB G + 7), .ref (gB G + 8), .int 0]), ai G 40 (fun _ => 0), ai G 41 (fun _ => 0), aj G 861, aj G 861, ai G 861 (fun _ => 0), ai G 861 (fun _ => 0), aj G 40, aj G 40, aj G 40, ai G 6 (fun _ => 0)]) rfl ?_
  exact b_ret rfl (show decode prog_5_method_1_code 123 = .ok (.return_, 1) by decide +kernel)
abbrev cs_AL (G : GC) : List va_E := [.inr (0, [.ref (gB G + 1)]), ai G 40 (fun _ => 0)]
set_option maxRecDepth 100000 in
theorem k_AL {G : GC} {d : Nat} : CtB G (d + 1) 20 5000 m_AL_init (.ref 0 :: []) [.inr (0, [.null])] (cs_AL G) := by
  refine CtB.ofGo [some (.ref 0)] (by decide) rfl (Nat.le_of_ble_eq_true rfl) ?_
  refine b_aload_n (show decode prog_2_method_1_code 0 = .ok (.aload_n 0, 1) by decide +kernel) rfl rfl (i := 0) (x := 0) rfl ?_
  refine b_obj ml_AL_3 ⟨by show 1 ≤ d + 1; omega, by show 20 ≤ 60 * (d + 1); omega⟩ (show decode prog_2_method_1_code 1 = .ok (.invokespecial 3, 3) by decide +kernel) rfl ?_
  refine b_aload_n (show decode prog_2_method_1_code 4 = .ok (.aload_n 0, 1) by decide +kernel) rfl rfl (i := 0) (x := 0) rfl ?_
  refine b_bipush (v := 40) (show decode prog_2_method_1_code 5 = .ok (.bipush 40, 2) by decide +kernel) rfl (by decide) ?_
  refine b_newI (N := 40) (n := 1) (c := 19) (k := 4960) (by decide) (by decide) (by decide) rfl (show decode prog_2_method_1_code 7 = .ok (.newarray .int, 2) by decide +kernel) rfl ?_
  refine b_Y (Y2 := [.inr (0, [.null]), ai G 40 (fun _ => 0)]) rfl ?_
  refine b_putF (ci := 0) (kf := 0) rfl rfl i_AL p_AL n_AL (by decide) fl_AL_9 rfl rfl rfl rfl (p_AL 0 (by decide)) rfl rfl (Nat.le_of_ble_eq_true rfl) (show decode prog_2_method_1_code 9 = .ok (.putfield 9, 3) by decide +kernel) rfl ?_
  refine b_Y (Y2 := [.inr (0, [.ref (gB G + 1)]), ai G 40 (fun _ => 0)]) rfl ?_
  exact b_ret rfl (show decode prog_2_method_1_code 12 = .ok (.return_, 1) by decide +kernel)
abbrev cs_BF (G : GC) : List va_E := [.inr (1, [.ref (gB G + 1), .int 0, .ref (gB G + 2), .ref (gB G + 3), .ref (gB G + 4), .int 0, .int 0, .int 0]), ai G 100 (fun _ => 0), ai G 40 (fun _ => 0), ai G 40 (fun _ => 0), ai G 40 (fun _ => 0)]
set_option maxRecDepth 100000 in
theorem k_BF {G : GC} {d : Nat} : CtB G (d + 1) 20 5000 m_BF_init (.ref 0 :: []) [.inr (1, [.null, .int 0, .null, .null, .null, .int 0, .int 0, .int 0])] (cs_BF G) := by
  refine CtB.ofGo [some (.ref 0)] (by decide) rfl (Nat.le_of_ble_eq_true rfl) ?_
  refine b_aload_n (show decode prog_3_method_1_code 0 = .ok (.aload_n 0, 1) by decide +kernel) rfl rfl (i := 0) (x := 0) rfl ?_
  refine b_obj ml_BF_3 ⟨by show 1 ≤ d + 1; omega, by show 20 ≤ 60 * (d + 1); omega⟩ (show decode prog_3_method_1_code 1 = .ok (.invokespecial 3, 3) by decide +kernel) rfl ?_
  refine b_aload_n (show decode prog_3_method_1_code 4 = .ok (.aload_n 0, 1) by decide +kernel) rfl rfl (i := 0) (x := 0) rfl ?_
  refine b_bipush (v := 100) (show decode prog_3_method_1_code 5 = .ok (.bipush 100, 2) by decide +kernel) rfl (by decide) ?_
  refine b_newI (N := 100) (n := 1) (c := 19) (k := 4900) (by decide) (by decide) (by decide) rfl (show decode prog_3_method_1_code 7 = .ok (.newarray .int, 2) by decide +kernel) rfl ?_
  refine b_Y (Y2 := [.inr (1, [.null, .int 0, .null, .null, .null, .int 0, .int 0, .int 0]), ai G 100 (fun _ => 0)]) rfl ?_
  refine b_putF (ci := 1) (kf := 0) rfl rfl i_BF p_BF n_BF (by decide) fl_BF_9 rfl rfl rfl rfl (p_BF 0 (by decide)) rfl rfl (Nat.le_of_ble_eq_true rfl) (show decode prog_3_method_1_code 9 = .ok (.putfield 9, 3) by decide +kernel) rfl ?_
  refine b_Y (Y2 := [.inr (1, [.ref (gB G + 1), .int 0, .null, .null, .null, .int 0, .int 0, .int 0]), ai G 100 (fun _ => 0)]) rfl ?_
  refine b_aload_n (show decode prog_3_method_1_code 12 = .ok (.aload_n 0, 1) by decide +kernel) rfl rfl (i := 0) (x := 0) rfl ?_
  refine b_iconst (v := 0) (show decode prog_3_method_1_code 13 = .ok (.iconst 0, 1) by decide +kernel) rfl (by decide) ?_
  refine b_put (ci := 1) (kf := 1) rfl rfl i_BF p_BF n_BF (by decide) fl_BF_15 rfl rfl (p_BF 1 (by decide)) rfl rfl (Nat.le_of_ble_eq_true rfl) (show decode prog_3_method_1_code 14 = .ok (.putfield 15, 3) by decide +kernel) rfl ?_
  refine b_Y (Y2 := [.inr (1, [.ref (gB G + 1), .int 0, .null, .null, .null, .int 0, .int 0, .int 0]), ai G 100 (fun _ => 0)]) rfl ?_
  refine b_aload_n (show decode prog_3_method_1_code 17 = .ok (.aload_n 0, 1) by decide +kernel) rfl rfl (i := 0) (x := 0) rfl ?_
  refine b_bipush (v := 40) (show decode prog_3_method_1_code 18 = .ok (.bipush 40, 2) by decide +kernel) rfl (by decide) ?_
  refine b_newI (N := 40) (n := 2) (c := 18) (k := 4860) (by decide) (by decide) (by decide) rfl (show decode prog_3_method_1_code 20 = .ok (.newarray .int, 2) by decide +kernel) rfl ?_
  refine b_Y (Y2 := [.inr (1, [.ref (gB G + 1), .int 0, .null, .null, .null, .int 0, .int 0, .int 0]), ai G 100 (fun _ => 0), ai G 40 (fun _ => 0)]) rfl ?_
  refine b_putF (ci := 1) (kf := 2) rfl rfl i_BF p_BF n_BF (by decide) fl_BF_19 rfl rfl rfl rfl (p_BF 2 (by decide)) rfl rfl (Nat.le_of_ble_eq_true rfl) (show decode prog_3_method_1_code 22 = .ok (.putfield 19, 3) by decide +kernel) rfl ?_
  refine b_Y (Y2 := [.inr (1, [.ref (gB G + 1), .int 0, .ref (gB G + 2), .null, .null, .int 0, .int 0, .int 0]), ai G 100 (fun _ => 0), ai G 40 (fun _ => 0)]) rfl ?_
  refine b_aload_n (show decode prog_3_method_1_code 25 = .ok (.aload_n 0, 1) by decide +kernel) rfl rfl (i := 0) (x := 0) rfl ?_
  refine b_bipush (v := 40) (show decode prog_3_method_1_code 26 = .ok (.bipush 40, 2) by decide +kernel) rfl (by decide) ?_
  refine b_newI (N := 40) (n := 3) (c := 17) (k := 4820) (by decide) (by decide) (by decide) rfl (show decode prog_3_method_1_code 28 = .ok (.newarray .int, 2) by decide +kernel) rfl ?_
  refine b_Y (Y2 := [.inr (1, [.ref (gB G + 1), .int 0, .ref (gB G + 2), .null, .null, .int 0, .int 0, .int 0]), ai G 100 (fun _ => 0), ai G 40 (fun _ => 0), ai G 40 (fun _ => 0)]) rfl ?_
  refine b_putF (ci := 1) (kf := 3) rfl rfl i_BF p_BF n_BF (by decide) fl_BF_22 rfl rfl rfl rfl (p_BF 3 (by decide)) rfl rfl (Nat.le_of_ble_eq_true rfl) (show decode prog_3_method_1_code 30 = .ok (.putfield 22, 3) by decide +kernel) rfl ?_
  refine b_Y (Y2 := [.inr (1, [.ref (gB G + 1), .int 0, .ref (gB G + 2), .ref (gB G + 3), .null, .int 0, .int 0, .int 0]), ai G 100 (fun _ => 0), ai G 40 (fun _ => 0), ai G 40 (fun _ => 0)]) rfl ?_
  refine b_aload_n (show decode prog_3_method_1_code 33 = .ok (.aload_n 0, 1) by decide +kernel) rfl rfl (i := 0) (x := 0) rfl ?_
  refine b_bipush (v := 40) (show decode prog_3_method_1_code 34 = .ok (.bipush 40, 2) by decide +kernel) rfl (by decide) ?_
  refine b_newI (N := 40) (n := 4) (c := 16) (k := 4780) (by decide) (by decide) (by decide) rfl (show decode prog_3_method_1_code 36 = .ok (.newarray .int, 2) by decide +kernel) rfl ?_
  refine b_Y (Y2 := [.inr (1, [.ref (gB G + 1), .int 0, .ref (gB G + 2), .ref (gB G + 3), .null, .int 0, .int 0, .int 0]), ai G 100 (fun _ => 0), ai G 40 (fun _ => 0), ai G 40 (fun _ => 0), ai G 40 (fun _ => 0)]) rfl ?_
  refine b_putF (ci := 1) (kf := 4) rfl rfl i_BF p_BF n_BF (by decide) fl_BF_25 rfl rfl rfl rfl (p_BF 4 (by decide)) rfl rfl (Nat.le_of_ble_eq_true rfl) (show decode prog_3_method_1_code 38 = .ok (.putfield 25, 3) by decide +kernel) rfl ?_
  refine b_Y (Y2 := [.inr (1, [.ref (gB G + 1), .int 0, .ref (gB G + 2), .ref (gB G + 3), .ref (gB G + 4), .int 0, .int 0, .int 0]), ai G 100 (fun _ => 0), ai G 40 (fun _ => 0), ai G 40 (fun _ => 0), ai G 40 (fun _ => 0)]) rfl ?_
  exact b_ret rfl (show decode prog_3_method_1_code 41 = .ok (.return_, 1) by decide +kernel)
abbrev cs_SH (G : GC) : List va_E := [.inr (7, [.ref (gB G + 1), .int 0, .int (-1)]), ai G 60 (fun _ => 0)]
set_option maxRecDepth 100000 in
theorem k_SH {G : GC} {d : Nat} : CtB G (d + 1) 20 5000 m_SH_init (.ref 0 :: []) [.inr (7, [.null, .int 0, .int 0])] (cs_SH G) := by
  refine CtB.ofGo [some (.ref 0)] (by decide) rfl (Nat.le_of_ble_eq_true rfl) ?_
  refine b_aload_n (show decode prog_11_method_1_code 0 = .ok (.aload_n 0, 1) by decide +kernel) rfl rfl (i := 0) (x := 0) rfl ?_
  refine b_obj ml_SH_3 ⟨by show 1 ≤ d + 1; omega, by show 20 ≤ 60 * (d + 1); omega⟩ (show decode prog_11_method_1_code 1 = .ok (.invokespecial 3, 3) by decide +kernel) rfl ?_
  refine b_aload_n (show decode prog_11_method_1_code 4 = .ok (.aload_n 0, 1) by decide +kernel) rfl rfl (i := 0) (x := 0) rfl ?_
  refine b_bipush (v := 60) (show decode prog_11_method_1_code 5 = .ok (.bipush 60, 2) by decide +kernel) rfl (by decide) ?_
  refine b_newI (N := 60) (n := 1) (c := 19) (k := 4940) (by decide) (by decide) (by decide) rfl (show decode prog_11_method_1_code 7 = .ok (.newarray .int, 2) by decide +kernel) rfl ?_
  refine b_Y (Y2 := [.inr (7, [.null, .int 0, .int 0]), ai G 60 (fun _ => 0)]) rfl ?_
  refine b_putF (ci := 7) (kf := 0) rfl rfl i_SH p_SH n_SH (by decide) fl_SH_9 rfl rfl rfl rfl (p_SH 0 (by decide)) rfl rfl (Nat.le_of_ble_eq_true rfl) (show decode prog_11_method_1_code 9 = .ok (.putfield 9, 3) by decide +kernel) rfl ?_
  refine b_Y (Y2 := [.inr (7, [.ref (gB G + 1), .int 0, .int 0]), ai G 60 (fun _ => 0)]) rfl ?_
  refine b_aload_n (show decode prog_11_method_1_code 12 = .ok (.aload_n 0, 1) by decide +kernel) rfl rfl (i := 0) (x := 0) rfl ?_
  refine b_iconst (v := 0) (show decode prog_11_method_1_code 13 = .ok (.iconst 0, 1) by decide +kernel) rfl (by decide) ?_
  refine b_put (ci := 7) (kf := 1) rfl rfl i_SH p_SH n_SH (by decide) fl_SH_15 rfl rfl (p_SH 1 (by decide)) rfl rfl (Nat.le_of_ble_eq_true rfl) (show decode prog_11_method_1_code 14 = .ok (.putfield 15, 3) by decide +kernel) rfl ?_
  refine b_Y (Y2 := [.inr (7, [.ref (gB G + 1), .int 0, .int 0]), ai G 60 (fun _ => 0)]) rfl ?_
  refine b_aload_n (show decode prog_11_method_1_code 17 = .ok (.aload_n 0, 1) by decide +kernel) rfl rfl (i := 0) (x := 0) rfl ?_
  refine b_iconst (v := (-1)) (show decode prog_11_method_1_code 18 = .ok (.iconst (-1), 1) by decide +kernel) rfl (by decide) ?_
  refine b_put (ci := 7) (kf := 2) rfl rfl i_SH p_SH n_SH (by decide) fl_SH_19 rfl rfl (p_SH 2 (by decide)) rfl rfl (Nat.le_of_ble_eq_true rfl) (show decode prog_11_method_1_code 19 = .ok (.putfield 19, 3) by decide +kernel) rfl ?_
  refine b_Y (Y2 := [.inr (7, [.ref (gB G + 1), .int 0, .int (-1)]), ai G 60 (fun _ => 0)]) rfl ?_
  exact b_ret rfl (show decode prog_11_method_1_code 22 = .ok (.return_, 1) by decide +kernel)
