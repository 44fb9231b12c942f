/-! ===== rows over Go: fields, arrays, calls, returns ===== -/
section
variable {G : GC} {F : FT} {pc pn : Nat} {L : List (Option Value)} {S : List Value} {I : MI} {J : MJ}
theorem cell_obj {o ci n : Nat} {fl : List Nat} (h : ci < 20) : cellOf G I J o (ci, n, fl) = .inr (ci, fl.mapIdx fun k c => cv G (fvA I J o k c)) := by simp [cellOf, h]
theorem cell_i {o n : Nat} {fl : List Nat} : cellOf G I J o (20, n, fl) = .inl (G.2.2.2.1 0, n, .inl (I o)) := by simp [cellOf]
theorem cell_j {o n : Nat} {fl : List Nat} : cellOf G I J o (21, n, fl) = .inl (G.2.2.2.1 1, n, .inr (.inl (J o))) := by simp [cellOf]
theorem cell_z {o n : Nat} {fl : List Nat} : cellOf G I J o (22, n, fl) = .inl (G.2.2.2.1 2, n, .inl (I o)) := by simp [cellOf]
theorem cell_r {o n t : Nat} {fl : List Nat} (h : 22 < t) : cellOf G I J o (t, n, fl) = .inl (G.2.2.2.1 (t - 20), n, .inr (.inr (.inr (.inr fun j => (fl[j]?).map fun r => gB G + r)))) := by
  simp only [cellOf, if_neg (show ¬ t < 20 by omega), if_neg (show ¬ t = 20 by omega), if_neg (show ¬ t = 21 by omega), if_neg (show ¬ t = 22 by omega)]
theorem g_get {o ci n k fc idx N : Nat} {fl : List Nat} {C ref : String} {T : u_T} {v : Value} (hsh : SHP[o]? = some (ci, n, fl)) (hci : ci < 20) (hk : fl[k]? = some fc) (hc : clz[ci]? = some (C, T, N)) (hin : ∀ w ∈ u_ws C T N, w ∈ GW) (hkN : k < N) (hw : Cond.fieldLink F.1.1.cls idx ref (T k).2.1 (T k).2.2.1 ∈ GW) (hsame : ref = (T k).1 ∨ Cond.sameField ref (T k).1 (T k).2.1 (T k).2.2.1 ∈ GW) (hv : fvA I J o k fc = v)
    (hd : decode F.1.2.1 pc = .ok (.getfield idx, 3)) (hp : pc + 3 = pn) (kk : Go G F pn L (v :: S) I J) : Go G F pc L (.ref o :: S) I J := by
  subst hp; subst hv
  intro p e s m args below meth c H locs ls hf hl hP hS
  have he := wld_at (G := G) (I := I) (J := J) hsh
  rw [cell_obj hci] at he
  refine va_get (D := gD G) hf.1 hf.2.1 hf.2.2.2.2.2.2.1 hin hf.2.2.2.2.2.1 hf.2.2.2.2.2.2.2.2.1 hP o he hc k hkN (hf.2.2.2.2.2.2.1 _ hw) ?_ (v := cv G (fvA I J o k fc)) ?_ hd (kk p e s m args below meth c H locs ls hf hl hP hS)
  · intro x hx
    rcases hsame with h | h
    · rw [h]; exact hx
    · exact u_same (hf.2.2.2.2.2.2.1 _ h) x hx
  · simp [hk]
theorem g_putI {o ci n k idx N : Nat} {fl : List Nat} {C ref : String} {T : u_T} {ty : Nat → FieldType} {x : Int32} (hsh : SHP[o]? = some (ci, n, fl)) (hci : ci < 20) (hk : fl[k]? = some 0) (hc : clz[ci]? = some (C, T, N)) (hin : ∀ w ∈ u_ws C T N, w ∈ GW) (hty : ∀ k, k < N → parseFieldDescriptor (T k).2.2.1 = some (ty k)) (hnm : ∀ a, a < N → ∀ b, b < N → a ≠ b → (T a).2.1 ≠ (T b).2.1) (hkN : k < N) (hw : Cond.fieldLink F.1.1.cls idx ref (T k).2.1 (T k).2.2.1 ∈ GW) (hsame : ref = (T k).1 ∨ Cond.sameField ref (T k).1 (T k).2.1 (T k).2.2.1 ∈ GW) (hfin : (T k).2.2.2 = false) (hdi : parseFieldDescriptor (T k).2.2.1 = some .int)
    (hd : decode F.1.2.1 pc = .ok (.putfield idx, 3)) (hp : pc + 3 = pn) (kk : Go G F pn L S (u2 I o k x) J) : Go G F pc L (.int x :: .ref o :: S) I J := by
  subst hp
  intro p e s m args below meth c H locs ls hf hl hP hS
  have he := wld_at (G := G) (I := I) (J := J) hsh
  rw [cell_obj hci] at he
  refine va_put (D := gD G) hf.1 hf.2.1 hf.2.2.2.2.2.2.1 hin ty hty hnm hf.2.2.2.2.2.1 hf.2.2.2.2.2.2.2.2.1 hP (wld_D G I J) hS o he hc k hkN (hf.2.2.2.2.2.2.1 _ hw) ?_ hfin hdi (v := .int x) rfl rfl ?_ hd (fun H1 locs1 hP1 _ hS1 => ?_)
  · intro y hy
    rcases hsame with h | h
    · rw [h]; exact hy
    · exact u_same (hf.2.2.2.2.2.2.1 _ h) y hy
  · have := (List.getElem?_eq_some_iff.mp hk).1; simpa using this
  · refine kk p e s m args below meth c H1 locs1 ls hf hl ?_ hS1
    rw [wld_set (I' := u2 I o k x) (J' := J) hsh ?_ (fun a ha => (u2_o ha).symm) (fun _ _ => rfl)] at hP1
    · exact hP1
    · rw [cell_obj hci]
      refine congrArg (fun z => Sum.inr (ci, z)) (List.ext_getElem? fun j => ?_)
      rw [List.getElem?_set]
      by_cases hj : k = j
      · subst hj
        have hlt := (List.getElem?_eq_some_iff.mp hk).1
        simp only [List.getElem?_mapIdx, hk, Option.map_some]
        simp [hlt, fvA, u2_s, cv]
      · simp only [if_neg hj, List.getElem?_mapIdx]
        cases hf : fl[j]? with
        | none => rfl
        | some z =>
          match z with
          | 0 => simp [fvA, u2_k (Ne.symm hj)]
          | 1 => rfl
          | _ + 2 => rfl
theorem g_putJ {o ci n k idx N : Nat} {fl : List Nat} {C ref : String} {T : u_T} {ty : Nat → FieldType} {x : Int64} (hsh : SHP[o]? = some (ci, n, fl)) (hci : ci < 20) (hk : fl[k]? = some 1) (hc : clz[ci]? = some (C, T, N)) (hin : ∀ w ∈ u_ws C T N, w ∈ GW) (hty : ∀ k, k < N → parseFieldDescriptor (T k).2.2.1 = some (ty k)) (hnm : ∀ a, a < N → ∀ b, b < N → a ≠ b → (T a).2.1 ≠ (T b).2.1) (hkN : k < N) (hw : Cond.fieldLink F.1.1.cls idx ref (T k).2.1 (T k).2.2.1 ∈ GW) (hsame : ref = (T k).1 ∨ Cond.sameField ref (T k).1 (T k).2.1 (T k).2.2.1 ∈ GW) (hfin : (T k).2.2.2 = false) (hdi : parseFieldDescriptor (T k).2.2.1 = some .long)
    (hd : decode F.1.2.1 pc = .ok (.putfield idx, 3)) (hp : pc + 3 = pn) (kk : Go G F pn L S I (u2 J o k x)) : Go G F pc L (.long x :: .ref o :: S) I J := by
  subst hp
  intro p e s m args below meth c H locs ls hf hl hP hS
  have he := wld_at (G := G) (I := I) (J := J) hsh
  rw [cell_obj hci] at he
  refine va_put (D := gD G) hf.1 hf.2.1 hf.2.2.2.2.2.2.1 hin ty hty hnm hf.2.2.2.2.2.1 hf.2.2.2.2.2.2.2.2.1 hP (wld_D G I J) hS o he hc k hkN (hf.2.2.2.2.2.2.1 _ hw) ?_ hfin hdi (v := .long x) rfl rfl ?_ hd (fun H1 locs1 hP1 _ hS1 => ?_)
  · intro y hy
    rcases hsame with h | h
    · rw [h]; exact hy
    · exact u_same (hf.2.2.2.2.2.2.1 _ h) y hy
  · have := (List.getElem?_eq_some_iff.mp hk).1; simpa using this
  · refine kk p e s m args below meth c H1 locs1 ls hf hl ?_ hS1
    rw [wld_set (I' := I) (J' := u2 J o k x) hsh ?_ (fun _ _ => rfl) (fun a ha => (u2_o ha).symm)] at hP1
    · exact hP1
    · rw [cell_obj hci]
      refine congrArg (fun z => Sum.inr (ci, z)) (List.ext_getElem? fun j => ?_)
      rw [List.getElem?_set]
      by_cases hj : k = j
      · subst hj
        have hlt := (List.getElem?_eq_some_iff.mp hk).1
        simp only [List.getElem?_mapIdx, hk, Option.map_some]
        simp [hlt, fvA, u2_s, cv]
      · simp only [if_neg hj, List.getElem?_mapIdx]
        cases hf : fl[j]? with
        | none => rfl
        | some z =>
          match z with
          | 0 => rfl
          | 1 => simp [fvA, u2_k (Ne.symm hj)]
          | _ + 2 => rfl
theorem g_iald {o n : Nat} {l : List Nat} {i : Int32} (hsh : SHP[o]? = some (20, n, l)) (hin : vp_in i n) (hd : decode F.1.2.1 pc = .ok (.iaload, 1)) (hp : pc + 1 = pn) (kk : Go G F pn L (.int (I o i.toNatClampNeg) :: S) I J) : Go G F pc L (.int i :: .ref o :: S) I J := by
  subst hp
  intro p e s m args below meth c H locs ls hf hl hP hS
  have he := wld_at (G := G) (I := I) (J := J) hsh
  rw [cell_i] at he
  exact va_iald hf.1 hf.2.1 hf.2.2.2.2.2.2.2.2.1 hP o 0 he rfl hin hd (kk p e s m args below meth c H locs ls hf hl hP hS)
theorem g_zald {o n : Nat} {l : List Nat} {i : Int32} (hsh : SHP[o]? = some (22, n, l)) (hin : vp_in i n) (hd : decode F.1.2.1 pc = .ok (.baload, 1)) (hp : pc + 1 = pn) (kk : Go G F pn L (.int (I o i.toNatClampNeg) :: S) I J) : Go G F pc L (.int i :: .ref o :: S) I J := by
  subst hp
  intro p e s m args below meth c H locs ls hf hl hP hS
  have he := wld_at (G := G) (I := I) (J := J) hsh
  rw [cell_z] at he
  exact va_zald hf.1 hf.2.1 hf.2.2.2.2.2.2.2.2.1 hP o 2 he rfl hin hd (kk p e s m args below meth c H locs ls hf hl hP hS)
theorem g_lald {o n : Nat} {l : List Nat} {i : Int32} (hsh : SHP[o]? = some (21, n, l)) (hin : vp_in i n) (hd : decode F.1.2.1 pc = .ok (.laload, 1)) (hp : pc + 1 = pn) (kk : Go G F pn L (.long (J o i.toNatClampNeg) :: S) I J) : Go G F pc L (.int i :: .ref o :: S) I J := by
  subst hp
  intro p e s m args below meth c H locs ls hf hl hP hS
  have he := wld_at (G := G) (I := I) (J := J) hsh
  rw [cell_j] at he
  exact va_lald hf.1 hf.2.1 hf.2.2.2.2.2.2.2.2.1 hP o 1 he rfl hin hd (kk p e s m args below meth c H locs ls hf hl hP hS)
theorem g_aald {o n r t : Nat} {l : List Nat} {i : Int32} {C : String} (hsh : SHP[o]? = some (t, n, l)) (ht : 22 < t) (hty : (tyl G)[t - 20]? = some (G.2.2.2.1 (t - 20), .object C)) (hin : vp_in i n) (hr : l[i.toNatClampNeg]? = some r) (hd : decode F.1.2.1 pc = .ok (.aaload, 1)) (hp : pc + 1 = pn) (kk : Go G F pn L (.ref r :: S) I J) : Go G F pc L (.int i :: .ref o :: S) I J := by
  subst hp
  intro p e s m args below meth c H locs ls hf hl hP hS
  have he := wld_at (G := G) (I := I) (J := J) hsh
  rw [cell_r ht] at he
  refine va_aldq hf.1 hf.2.1 hf.2.2.2.2.2.2.2.2.1 hP o (t - 20) he hty hin hd ?_
  have h9 : va_rf (((fun j => (l[j]?).map fun r => gB G + r) : Nat → Option Nat) i.toNatClampNeg) = cv G (.ref r) := by simp [hr, va_rf, cv]
  rw [h9]
  exact kk p e s m args below meth c H locs ls hf hl hP hS
theorem g_alen {o n : Nat} {l : List Nat} {v : Int32} (hsh : SHP[o]? = some (20, n, l)) (hv : Int32.ofNat n = v) (hd : decode F.1.2.1 pc = .ok (.arraylength, 1)) (hp : pc + 1 = pn) (kk : Go G F pn L (.int v :: S) I J) : Go G F pc L (.ref o :: S) I J := by
  subst hp
  intro p e s m args below meth c H locs ls hf hl hP hS
  have he := wld_at (G := G) (I := I) (J := J) hsh
  rw [cell_i] at he
  exact va_alen hf.1 hf.2.1 hf.2.2.2.2.2.2.2.2.1 hP o 0 he (ty := .int) rfl hv hd (kk p e s m args below meth c H locs ls hf hl hP hS)
theorem g_alenJ {o n : Nat} {l : List Nat} {v : Int32} (hsh : SHP[o]? = some (21, n, l)) (hv : Int32.ofNat n = v) (hd : decode F.1.2.1 pc = .ok (.arraylength, 1)) (hp : pc + 1 = pn) (kk : Go G F pn L (.int v :: S) I J) : Go G F pc L (.ref o :: S) I J := by
  subst hp
  intro p e s m args below meth c H locs ls hf hl hP hS
  have he := wld_at (G := G) (I := I) (J := J) hsh
  rw [cell_j] at he
  exact va_alen hf.1 hf.2.1 hf.2.2.2.2.2.2.2.2.1 hP o 1 he (ty := .long) rfl hv hd (kk p e s m args below meth c H locs ls hf hl hP hS)
theorem g_alenR {o n t : Nat} {l : List Nat} {v : Int32} {C : String} (hsh : SHP[o]? = some (t, n, l)) (ht : 22 < t) (hty : (tyl G)[t - 20]? = some (G.2.2.2.1 (t - 20), .object C)) (hv : Int32.ofNat n = v) (hd : decode F.1.2.1 pc = .ok (.arraylength, 1)) (hp : pc + 1 = pn) (kk : Go G F pn L (.int v :: S) I J) : Go G F pc L (.ref o :: S) I J := by
  subst hp
  intro p e s m args below meth c H locs ls hf hl hP hS
  have he := wld_at (G := G) (I := I) (J := J) hsh
  rw [cell_r ht] at he
  exact va_alen hf.1 hf.2.1 hf.2.2.2.2.2.2.2.2.1 hP o (t - 20) he hty hv hd (kk p e s m args below meth c H locs ls hf hl hP hS)
theorem u2_row {o j : Nat} {x : Int32} : u2 I o j x o = upd (I o) j x := by funext k; simp [u2, upd]
theorem u2_rowL {o j : Nat} {x : Int64} : u2 J o j x o = vp_updL (J o) j x := by funext k; simp [u2, vp_updL]
theorem g_iast {o n : Nat} {l : List Nat} {i x : Int32} (hsh : SHP[o]? = some (20, n, l)) (hin : vp_in i n) (hd : decode F.1.2.1 pc = .ok (.iastore, 1)) (hp : pc + 1 = pn) (kk : Go G F pn L S (u2 I o i.toNatClampNeg x) J) : Go G F pc L (.int x :: .int i :: .ref o :: S) I J := by
  subst hp
  intro p e s m args below meth c H locs ls hf hl hP hS
  have he := wld_at (G := G) (I := I) (J := J) hsh
  rw [cell_i] at he
  refine va_iast hf.1 hf.2.1 hf.2.2.2.2.2.2.2.2.1 hP (wld_D G I J) hS o 0 he rfl hin hd (fun H1 locs1 hP1 _ hS1 => ?_)
  refine kk p e s m args below meth c H1 locs1 ls hf hl ?_ hS1
  rw [wld_set (I' := u2 I o i.toNatClampNeg x) (J' := J) hsh (by rw [cell_i, u2_row]) (fun a ha => (u2_o ha).symm) (fun _ _ => rfl)] at hP1
  exact hP1
theorem g_zast {o n : Nat} {l : List Nat} {i x : Int32} (hsh : SHP[o]? = some (22, n, l)) (hin : vp_in i n) (hx : vp_nar .boolean x = x) (hd : decode F.1.2.1 pc = .ok (.bastore, 1)) (hp : pc + 1 = pn) (kk : Go G F pn L S (u2 I o i.toNatClampNeg x) J) : Go G F pc L (.int x :: .int i :: .ref o :: S) I J := by
  subst hp
  intro p e s m args below meth c H locs ls hf hl hP hS
  have he := wld_at (G := G) (I := I) (J := J) hsh
  rw [cell_z] at he
  refine va_zast hf.1 hf.2.1 hf.2.2.2.2.2.2.2.2.1 hP (wld_D G I J) hS o 2 he rfl hin hd (fun H1 locs1 hP1 _ hS1 => ?_)
  refine kk p e s m args below meth c H1 locs1 ls hf hl ?_ hS1
  rw [hx, wld_set (I' := u2 I o i.toNatClampNeg x) (J' := J) hsh (by rw [cell_z, u2_row]) (fun a ha => (u2_o ha).symm) (fun _ _ => rfl)] at hP1
  exact hP1
theorem g_last {o n : Nat} {l : List Nat} {i : Int32} {x : Int64} (hsh : SHP[o]? = some (21, n, l)) (hin : vp_in i n) (hd : decode F.1.2.1 pc = .ok (.lastore, 1)) (hp : pc + 1 = pn) (kk : Go G F pn L S I (u2 J o i.toNatClampNeg x)) : Go G F pc L (.long x :: .int i :: .ref o :: S) I J := by
  subst hp
  intro p e s m args below meth c H locs ls hf hl hP hS
  have he := wld_at (G := G) (I := I) (J := J) hsh
  rw [cell_j] at he
  refine va_last hf.1 hf.2.1 hf.2.2.2.2.2.2.2.2.1 hP (wld_D G I J) hS o 1 he rfl hin hd (fun H1 locs1 hP1 _ hS1 => ?_)
  refine kk p e s m args below meth c H1 locs1 ls hf hl ?_ hS1
  rw [wld_set (I' := I) (J' := u2 J o i.toNatClampNeg x) hsh (by rw [cell_j, u2_rowL]) (fun _ _ => rfl) (fun a ha => (u2_o ha).symm)] at hP1
  exact hP1
/-- the script, which is null here -/
def scr (G : GC) (n : Nat) (xs : Nat → Int32) (s : State) : Prop := va_X G.2.2.2.2.2 n xs s s.heap ∧ G.2.2.2.2.2 < s.heap.size ∧ G.2.2.2.2.2 < gB G
theorem g_sld {n : Nat} {xs : Nat → Int32} {i : Int32} (hE : F.2.2.2.1 = scr G n xs) (hin : vp_in i n) (hd : decode F.1.2.1 pc = .ok (.iaload, 1)) (hp : pc + 1 = pn) (kk : Go G F pn L (.int (xs i.toNatClampNeg) :: S) I J) : Go G F pc L (.int i :: .null :: S) I J := by
  subst hp
  intro p e s m args below meth c H locs ls hf hl hP hS
  have hx : scr G n xs s := hE ▸ hf.2.2.2.2.2.2.2.2.2
  exact va_sld hf.1 hf.2.1 hx.1 hx.2.1 (Nat.not_le.mpr hx.2.2) hS hin hd (kk p e s m args below meth c H locs ls hf hl hP hS)
theorem g_slen {n : Nat} {xs : Nat → Int32} (hE : F.2.2.2.1 = scr G n xs) (hd : decode F.1.2.1 pc = .ok (.arraylength, 1)) (hp : pc + 1 = pn) (kk : Go G F pn L (.int (Int32.ofNat n) :: S) I J) : Go G F pc L (.null :: S) I J := by
  subst hp
  intro p e s m args below meth c H locs ls hf hl hP hS
  have hx : scr G n xs s := hE ▸ hf.2.2.2.2.2.2.2.2.2
  exact va_slen hf.1 hf.2.1 hx.1 hx.2.1 (Nat.not_le.mpr hx.2.2) hS hd (kk p e s m args below meth c H locs ls hf hl hP hS)
end
