/-! ===== a row an instruction, over Go ===== -/
section
variable {G : GC} {F : FT} {pc pn : Nat} {L L' : List (Option Value)} {S : List Value} {I : MI} {J : MJ}
theorem g_pc (h : pc = pn) (k : Go G F pn L S I J) : Go G F pc L S I J := h ▸ k
theorem g_iconst {n : Int} {v : Int32} (hd : decode F.1.2.1 pc = .ok (.iconst n, 1)) (hp : pc + 1 = pn) (hv : Int32.ofInt n = v) (k : Go G F pn L (.int v :: S) I J) : Go G F pc L S I J := by
  subst hp
  exact fun p e s m args below meth c H locs ls hf hl hP hS => lv_iconst hf.1 hf.2.1 hd hv (k p e s m args below meth c H locs ls hf hl hP hS)
theorem g_bipush {n : Int} {v : Int32} (hd : decode F.1.2.1 pc = .ok (.bipush n, 2)) (hp : pc + 2 = pn) (hv : (Int8.ofInt n).toInt32 = v) (k : Go G F pn L (.int v :: S) I J) : Go G F pc L S I J := by
  subst hp
  exact fun p e s m args below meth c H locs ls hf hl hP hS => lv_bipush hf.1 hf.2.1 hd hv (k p e s m args below meth c H locs ls hf hl hP hS)
theorem g_sipush {n : Int} {v : Int32} (hd : decode F.1.2.1 pc = .ok (.sipush n, 3)) (hp : pc + 3 = pn) (hv : (Int16.ofInt n).toInt32 = v) (k : Go G F pn L (.int v :: S) I J) : Go G F pc L S I J := by
  subst hp
  exact fun p e s m args below meth c H locs ls hf hl hP hS => lv_sipush hf.1 hf.2.1 hd hv (k p e s m args below meth c H locs ls hf hl hP hS)
theorem g_lconst {n : Fin 2} {v : Int64} (hd : decode F.1.2.1 pc = .ok (.lconst n, 1)) (hp : pc + 1 = pn) (hv : Int64.ofNat (n : Nat) = v) (k : Go G F pn L (.long v :: S) I J) : Go G F pc L S I J := by
  subst hp
  exact fun p e s m args below meth c H locs ls hf hl hP hS => lv_lconst hf.1 hf.2.1 hd hv (k p e s m args below meth c H locs ls hf hl hP hS)
theorem g_ldc {i : Nat} {v : Int32} (hw : Cond.constant F.1.1.cls i v ∈ GW) (hd : decode F.1.2.1 pc = .ok (.ldc i, 2)) (hp : pc + 2 = pn) (k : Go G F pn L (.int v :: S) I J) : Go G F pc L S I J := by
  subst hp
  exact fun p e s m args below meth c H locs ls hf hl hP hS => lv_ldc hf.1 hf.2.1 hf.2.2.2.2.2.1 (hf.2.2.2.2.2.2.1 _ hw) hd (k p e s m args below meth c H locs ls hf hl hP hS)
theorem g_ldcw {i : Nat} {v : Int32} (hw : Cond.constant F.1.1.cls i v ∈ GW) (hd : decode F.1.2.1 pc = .ok (.ldc_w i, 3)) (hp : pc + 3 = pn) (k : Go G F pn L (.int v :: S) I J) : Go G F pc L S I J := by
  subst hp
  exact fun p e s m args below meth c H locs ls hf hl hP hS => lv_ldcw hf.1 hf.2.1 hf.2.2.2.2.2.1 (hf.2.2.2.2.2.2.1 _ hw) hd (k p e s m args below meth c H locs ls hf hl hP hS)
theorem g_ldc2 {i : Nat} {v : Int64} (hw : Cond.constantLong F.1.1.cls i v ∈ GW) (hd : decode F.1.2.1 pc = .ok (.ldc2_w i, 3)) (hp : pc + 3 = pn) (k : Go G F pn L (.long v :: S) I J) : Go G F pc L S I J := by
  subst hp
  exact fun p e s m args below meth c H locs ls hf hl hP hS => lv_ldc2 hf.1 hf.2.1 hf.2.2.2.2.2.1 (hf.2.2.2.2.2.2.1 _ hw) hd (k p e s m args below meth c H locs ls hf hl hP hS)
theorem lv_gt {ls : Array Slot} {n i : Nat} {v : Value} (hl : lv_has ls n (lcs G L)) (h : L[i]? = some (some v)) : ls[i]? = some (.val (cv G v)) := hl.2.2 (i, cv G v) (mem_lcs.mpr ⟨v, h, rfl⟩)
theorem g_iload_n {q : Fin 4} {i : Nat} {x : Int32} (hd : decode F.1.2.1 pc = .ok (.iload_n q, 1)) (hp : pc + 1 = pn) (hi : (q : Nat) = i) (h : L[i]? = some (some (.int x))) (k : Go G F pn L (.int x :: S) I J) : Go G F pc L S I J := by
  subst hp
  exact fun p e s m args below meth c H locs ls hf hl hP hS => lv_iload_n hf.1 hf.2.1 hd hi (lv_gt hl h) (k p e s m args below meth c H locs ls hf hl hP hS)
theorem g_iload {i : Nat} {x : Int32} (hd : decode F.1.2.1 pc = .ok (.iload i, 2)) (hp : pc + 2 = pn) (h : L[i]? = some (some (.int x))) (k : Go G F pn L (.int x :: S) I J) : Go G F pc L S I J := by
  subst hp
  exact fun p e s m args below meth c H locs ls hf hl hP hS => lv_iload hf.1 hf.2.1 hd (lv_gt hl h) (k p e s m args below meth c H locs ls hf hl hP hS)
theorem g_lload_n {q : Fin 4} {i : Nat} {x : Int64} (hd : decode F.1.2.1 pc = .ok (.lload_n q, 1)) (hp : pc + 1 = pn) (hi : (q : Nat) = i) (h : L[i]? = some (some (.long x))) (k : Go G F pn L (.long x :: S) I J) : Go G F pc L S I J := by
  subst hp
  exact fun p e s m args below meth c H locs ls hf hl hP hS => lv_lload_n hf.1 hf.2.1 hd hi (lv_gt hl h) (k p e s m args below meth c H locs ls hf hl hP hS)
theorem g_lload {i : Nat} {x : Int64} (hd : decode F.1.2.1 pc = .ok (.lload i, 2)) (hp : pc + 2 = pn) (h : L[i]? = some (some (.long x))) (k : Go G F pn L (.long x :: S) I J) : Go G F pc L S I J := by
  subst hp
  exact fun p e s m args below meth c H locs ls hf hl hP hS => lv_lload hf.1 hf.2.1 hd (lv_gt hl h) (k p e s m args below meth c H locs ls hf hl hP hS)
theorem g_aload_n {q : Fin 4} {i : Nat} {x : Nat} (hd : decode F.1.2.1 pc = .ok (.aload_n q, 1)) (hp : pc + 1 = pn) (hi : (q : Nat) = i) (h : L[i]? = some (some (.ref x))) (k : Go G F pn L (.ref x :: S) I J) : Go G F pc L S I J := by
  subst hp
  exact fun p e s m args below meth c H locs ls hf hl hP hS => lv_aload_n hf.1 hf.2.1 hd hi (lv_gt hl h) (k p e s m args below meth c H locs ls hf hl hP hS)
theorem g_aload_s {q : Fin 4} {i : Nat} (hd : decode F.1.2.1 pc = .ok (.aload_n q, 1)) (hp : pc + 1 = pn) (hi : (q : Nat) = i) (h : L[i]? = some (some .null)) (k : Go G F pn L (.null :: S) I J) : Go G F pc L S I J := by
  subst hp
  exact fun p e s m args below meth c H locs ls hf hl hP hS => lv_aload_n hf.1 hf.2.1 hd hi (lv_gt hl h) (k p e s m args below meth c H locs ls hf hl hP hS)
theorem g_aload {i : Nat} {x : Nat} (hd : decode F.1.2.1 pc = .ok (.aload i, 2)) (hp : pc + 2 = pn) (h : L[i]? = some (some (.ref x))) (k : Go G F pn L (.ref x :: S) I J) : Go G F pc L S I J := by
  subst hp
  exact fun p e s m args below meth c H locs ls hf hl hP hS => lv_aload hf.1 hf.2.1 hd (lv_gt hl h) (k p e s m args below meth c H locs ls hf hl hP hS)
theorem g_istore_n {q : Fin 4} {i : Nat} {x : Int32} (hd : decode F.1.2.1 pc = .ok (.istore_n q, 1)) (hp : pc + 1 = pn) (hi : (q : Nat) = i) (hn : i < F.1.2.2.1) (hs : sto1 L i (.int x) = L') (k : Go G F pn L' S I J) : Go G F pc L (.int x :: S) I J := by
  subst hp; subst hs
  exact fun p e s m args below meth c H locs ls hf hl hP hS => lv_istore_n hf.1 hf.2.1 hd hi hl hn rfl (fun ls' hl' => k p e s m args below meth c H locs ls' hf (lv_mono hl' lcs_sto1) hP hS)
theorem g_istore {i : Nat} {x : Int32} (hd : decode F.1.2.1 pc = .ok (.istore i, 2)) (hp : pc + 2 = pn) (hn : i < F.1.2.2.1) (hs : sto1 L i (.int x) = L') (k : Go G F pn L' S I J) : Go G F pc L (.int x :: S) I J := by
  subst hp; subst hs
  exact fun p e s m args below meth c H locs ls hf hl hP hS => lv_istore hf.1 hf.2.1 hd hl hn rfl (fun ls' hl' => k p e s m args below meth c H locs ls' hf (lv_mono hl' lcs_sto1) hP hS)
theorem g_astore_n {q : Fin 4} {i : Nat} {x : Nat} (hd : decode F.1.2.1 pc = .ok (.astore_n q, 1)) (hp : pc + 1 = pn) (hi : (q : Nat) = i) (hn : i < F.1.2.2.1) (hs : sto1 L i (.ref x) = L') (k : Go G F pn L' S I J) : Go G F pc L (.ref x :: S) I J := by
  subst hp; subst hs
  exact fun p e s m args below meth c H locs ls hf hl hP hS => lv_astore_n hf.1 hf.2.1 hd hi hl hn rfl (fun ls' hl' => k p e s m args below meth c H locs ls' hf (lv_mono hl' (lcs_sto1 (v := .ref x))) hP hS)
theorem g_astore {i : Nat} {x : Nat} (hd : decode F.1.2.1 pc = .ok (.astore i, 2)) (hp : pc + 2 = pn) (hn : i < F.1.2.2.1) (hs : sto1 L i (.ref x) = L') (k : Go G F pn L' S I J) : Go G F pc L (.ref x :: S) I J := by
  subst hp; subst hs
  exact fun p e s m args below meth c H locs ls hf hl hP hS => lv_astore hf.1 hf.2.1 hd hl hn rfl (fun ls' hl' => k p e s m args below meth c H locs ls' hf (lv_mono hl' (lcs_sto1 (v := .ref x))) hP hS)
theorem g_lstore_n {q : Fin 4} {i : Nat} {x : Int64} (hd : decode F.1.2.1 pc = .ok (.lstore_n q, 1)) (hp : pc + 1 = pn) (hi : (q : Nat) = i) (hn : i + 1 < F.1.2.2.1) (hs : sto2 L i (.long x) = L') (k : Go G F pn L' S I J) : Go G F pc L (.long x :: S) I J := by
  subst hp; subst hs
  exact fun p e s m args below meth c H locs ls hf hl hP hS => lv_lstore_n hf.1 hf.2.1 hd hi hl hn rfl (fun ls' hl' => k p e s m args below meth c H locs ls' hf (lv_mono hl' lcs_sto2) hP hS)
theorem g_lstore {i : Nat} {x : Int64} (hd : decode F.1.2.1 pc = .ok (.lstore i, 2)) (hp : pc + 2 = pn) (hn : i + 1 < F.1.2.2.1) (hs : sto2 L i (.long x) = L') (k : Go G F pn L' S I J) : Go G F pc L (.long x :: S) I J := by
  subst hp; subst hs
  exact fun p e s m args below meth c H locs ls hf hl hP hS => lv_lstore hf.1 hf.2.1 hd hl hn rfl (fun ls' hl' => k p e s m args below meth c H locs ls' hf (lv_mono hl' lcs_sto2) hP hS)
theorem g_iinc {i : Nat} {n : Int} {x v : Int32} (hd : decode F.1.2.1 pc = .ok (.iinc i n, 3)) (hp : pc + 3 = pn) (h : L[i]? = some (some (.int x))) (hv : x + Int32.ofInt n = v) (hn : i < F.1.2.2.1) (hs : sto1 L i (.int v) = L') (k : Go G F pn L' S I J) : Go G F pc L S I J := by
  subst hp; subst hs
  intro p e s m args below meth c H locs ls hf hl hP hS
  obtain ⟨j, hj⟩ := List.getElem?_of_mem ((mem_lcs (G := G)).mpr ⟨_, h, rfl⟩)
  exact lv_iinc hf.1 hf.2.1 hd hl hj hv hn rfl (fun ls' hl' => k p e s m args below meth c H locs ls' hf (lv_mono hl' lcs_sto1) hP hS)
theorem g_iadd {x y : Int32} (hd : decode F.1.2.1 pc = .ok (.iadd, 1)) (hp : pc + 1 = pn) (k : Go G F pn L (.int (x + y) :: S) I J) : Go G F pc L (.int y :: .int x :: S) I J := by
  subst hp
  exact fun p e s m args below meth c H locs ls hf hl hP hS => lv_iadd hf.1 hf.2.1 hd (k p e s m args below meth c H locs ls hf hl hP hS)
theorem g_isub {x y : Int32} (hd : decode F.1.2.1 pc = .ok (.isub, 1)) (hp : pc + 1 = pn) (k : Go G F pn L (.int (x - y) :: S) I J) : Go G F pc L (.int y :: .int x :: S) I J := by
  subst hp
  exact fun p e s m args below meth c H locs ls hf hl hP hS => lv_isub hf.1 hf.2.1 hd (k p e s m args below meth c H locs ls hf hl hP hS)
theorem g_imul {x y : Int32} (hd : decode F.1.2.1 pc = .ok (.imul, 1)) (hp : pc + 1 = pn) (k : Go G F pn L (.int (x * y) :: S) I J) : Go G F pc L (.int y :: .int x :: S) I J := by
  subst hp
  exact fun p e s m args below meth c H locs ls hf hl hP hS => lv_imul hf.1 hf.2.1 hd (k p e s m args below meth c H locs ls hf hl hP hS)
theorem g_iand {x y : Int32} (hd : decode F.1.2.1 pc = .ok (.iand, 1)) (hp : pc + 1 = pn) (k : Go G F pn L (.int (x &&& y) :: S) I J) : Go G F pc L (.int y :: .int x :: S) I J := by
  subst hp
  exact fun p e s m args below meth c H locs ls hf hl hP hS => lv_iand hf.1 hf.2.1 hd (k p e s m args below meth c H locs ls hf hl hP hS)
theorem g_idiv {x y : Int32} (hd : decode F.1.2.1 pc = .ok (.idiv, 1)) (hp : pc + 1 = pn) (hy : ¬ y = 0) (k : Go G F pn L (.int (x / y) :: S) I J) : Go G F pc L (.int y :: .int x :: S) I J := by
  subst hp
  exact fun p e s m args below meth c H locs ls hf hl hP hS => lv_idiv hf.1 hf.2.1 hd hy (k p e s m args below meth c H locs ls hf hl hP hS)
theorem g_irem {x y : Int32} (hd : decode F.1.2.1 pc = .ok (.irem, 1)) (hp : pc + 1 = pn) (hy : ¬ y = 0) (k : Go G F pn L (.int (x - x / y * y) :: S) I J) : Go G F pc L (.int y :: .int x :: S) I J := by
  subst hp
  exact fun p e s m args below meth c H locs ls hf hl hP hS => lv_irem hf.1 hf.2.1 hd hy (k p e s m args below meth c H locs ls hf hl hP hS)
theorem g_ladd {x y : Int64} (hd : decode F.1.2.1 pc = .ok (.ladd, 1)) (hp : pc + 1 = pn) (k : Go G F pn L (.long (x + y) :: S) I J) : Go G F pc L (.long y :: .long x :: S) I J := by
  subst hp
  exact fun p e s m args below meth c H locs ls hf hl hP hS => lv_ladd hf.1 hf.2.1 hd (k p e s m args below meth c H locs ls hf hl hP hS)
theorem g_lsub {x y : Int64} (hd : decode F.1.2.1 pc = .ok (.lsub, 1)) (hp : pc + 1 = pn) (k : Go G F pn L (.long (x - y) :: S) I J) : Go G F pc L (.long y :: .long x :: S) I J := by
  subst hp
  exact fun p e s m args below meth c H locs ls hf hl hP hS => lv_lsub hf.1 hf.2.1 hd (k p e s m args below meth c H locs ls hf hl hP hS)
theorem g_lmul {x y : Int64} (hd : decode F.1.2.1 pc = .ok (.lmul, 1)) (hp : pc + 1 = pn) (k : Go G F pn L (.long (x * y) :: S) I J) : Go G F pc L (.long y :: .long x :: S) I J := by
  subst hp
  exact fun p e s m args below meth c H locs ls hf hl hP hS => lv_lmul hf.1 hf.2.1 hd (k p e s m args below meth c H locs ls hf hl hP hS)
theorem g_lxor {x y : Int64} (hd : decode F.1.2.1 pc = .ok (.lxor, 1)) (hp : pc + 1 = pn) (k : Go G F pn L (.long (x ^^^ y) :: S) I J) : Go G F pc L (.long y :: .long x :: S) I J := by
  subst hp
  exact fun p e s m args below meth c H locs ls hf hl hP hS => lv_lxor hf.1 hf.2.1 hd (k p e s m args below meth c H locs ls hf hl hP hS)
theorem g_ldiv {x y : Int64} (hd : decode F.1.2.1 pc = .ok (.ldiv, 1)) (hp : pc + 1 = pn) (hy : ¬ y = 0) (k : Go G F pn L (.long (x / y) :: S) I J) : Go G F pc L (.long y :: .long x :: S) I J := by
  subst hp
  exact fun p e s m args below meth c H locs ls hf hl hP hS => lv_ldiv hf.1 hf.2.1 hd hy (k p e s m args below meth c H locs ls hf hl hP hS)
theorem g_lrem {x y : Int64} (hd : decode F.1.2.1 pc = .ok (.lrem, 1)) (hp : pc + 1 = pn) (hy : ¬ y = 0) (k : Go G F pn L (.long (x - x / y * y) :: S) I J) : Go G F pc L (.long y :: .long x :: S) I J := by
  subst hp
  exact fun p e s m args below meth c H locs ls hf hl hP hS => lv_lrem hf.1 hf.2.1 hd hy (k p e s m args below meth c H locs ls hf hl hP hS)
theorem g_ineg {x : Int32} (hd : decode F.1.2.1 pc = .ok (.ineg, 1)) (hp : pc + 1 = pn) (k : Go G F pn L (.int (0 - x) :: S) I J) : Go G F pc L (.int x :: S) I J := by
  subst hp
  exact fun p e s m args below meth c H locs ls hf hl hP hS => lv_ineg hf.1 hf.2.1 hd (k p e s m args below meth c H locs ls hf hl hP hS)
theorem g_lneg {x : Int64} (hd : decode F.1.2.1 pc = .ok (.lneg, 1)) (hp : pc + 1 = pn) (k : Go G F pn L (.long (0 - x) :: S) I J) : Go G F pc L (.long x :: S) I J := by
  subst hp
  exact fun p e s m args below meth c H locs ls hf hl hP hS => lv_lneg hf.1 hf.2.1 hd (k p e s m args below meth c H locs ls hf hl hP hS)
theorem g_ishl {x y : Int32} (hd : decode F.1.2.1 pc = .ok (.ishl, 1)) (hp : pc + 1 = pn) (k : Go G F pn L (.int (x <<< (y &&& 31)) :: S) I J) : Go G F pc L (.int y :: .int x :: S) I J := by
  subst hp
  exact fun p e s m args below meth c H locs ls hf hl hP hS => lv_ishl hf.1 hf.2.1 hd (k p e s m args below meth c H locs ls hf hl hP hS)
theorem g_ishr {x y : Int32} (hd : decode F.1.2.1 pc = .ok (.ishr, 1)) (hp : pc + 1 = pn) (k : Go G F pn L (.int (x >>> (y &&& 31)) :: S) I J) : Go G F pc L (.int y :: .int x :: S) I J := by
  subst hp
  exact fun p e s m args below meth c H locs ls hf hl hP hS => lv_ishr hf.1 hf.2.1 hd (k p e s m args below meth c H locs ls hf hl hP hS)
theorem g_i2l {x : Int32} (hd : decode F.1.2.1 pc = .ok (.i2l, 1)) (hp : pc + 1 = pn) (k : Go G F pn L (.long x.toInt64 :: S) I J) : Go G F pc L (.int x :: S) I J := by
  subst hp
  exact fun p e s m args below meth c H locs ls hf hl hP hS => lv_i2l hf.1 hf.2.1 hd rfl (k p e s m args below meth c H locs ls hf hl hP hS)
theorem g_l2i {x : Int64} (hd : decode F.1.2.1 pc = .ok (.l2i, 1)) (hp : pc + 1 = pn) (k : Go G F pn L (.int x.toInt32 :: S) I J) : Go G F pc L (.long x :: S) I J := by
  subst hp
  exact fun p e s m args below meth c H locs ls hf hl hP hS => lv_l2i hf.1 hf.2.1 hd rfl (k p e s m args below meth c H locs ls hf hl hP hS)
theorem g_i2b {x : Int32} (hd : decode F.1.2.1 pc = .ok (.i2b, 1)) (hp : pc + 1 = pn) (k : Go G F pn L (.int x.toInt8.toInt32 :: S) I J) : Go G F pc L (.int x :: S) I J := by
  subst hp
  exact fun p e s m args below meth c H locs ls hf hl hP hS => lv_i2b hf.1 hf.2.1 hd rfl (k p e s m args below meth c H locs ls hf hl hP hS)
theorem g_i2s {x : Int32} (hd : decode F.1.2.1 pc = .ok (.i2s, 1)) (hp : pc + 1 = pn) (k : Go G F pn L (.int x.toInt16.toInt32 :: S) I J) : Go G F pc L (.int x :: S) I J := by
  subst hp
  exact fun p e s m args below meth c H locs ls hf hl hP hS => lv_i2s hf.1 hf.2.1 hd rfl (k p e s m args below meth c H locs ls hf hl hP hS)
theorem g_dup {v : Value} (hd : decode F.1.2.1 pc = .ok (.dup, 1)) (hp : pc + 1 = pn) (hc : v.category = 1) (k : Go G F pn L (v :: v :: S) I J) : Go G F pc L (v :: S) I J := by
  subst hp
  exact fun p e s m args below meth c H locs ls hf hl hP hS => lv_dup hf.1 hf.2.1 hd (by rw [cv_cat]; exact hc) (k p e s m args below meth c H locs ls hf hl hP hS)
theorem g_dup2 {v u : Value} (hd : decode F.1.2.1 pc = .ok (.dup2, 1)) (hp : pc + 1 = pn) (hc : v.category = 1) (hc2 : u.category = 1) (k : Go G F pn L (v :: u :: v :: u :: S) I J) : Go G F pc L (v :: u :: S) I J := by
  subst hp
  exact fun p e s m args below meth c H locs ls hf hl hP hS => lv_dup2_11 hf.1 hf.2.1 hd (by rw [cv_cat]; exact hc) (by rw [cv_cat]; exact hc2) (k p e s m args below meth c H locs ls hf hl hP hS)
theorem g_pop {v : Value} (hd : decode F.1.2.1 pc = .ok (.pop, 1)) (hp : pc + 1 = pn) (hc : v.category = 1) (k : Go G F pn L S I J) : Go G F pc L (v :: S) I J := by
  subst hp
  exact fun p e s m args below meth c H locs ls hf hl hP hS => lv_pop hf.1 hf.2.1 hd (by rw [cv_cat]; exact hc) (k p e s m args below meth c H locs ls hf hl hP hS)
theorem g_goto {off : Int} {tgt : Nat} (hd : decode F.1.2.1 pc = .ok (.goto off, 3)) (ht : (pc : Int) + off = (tgt : Int)) (k : Go G F tgt L S I J) : Go G F pc L S I J :=
  fun p e s m args below meth c H locs ls hf hl hP hS => lv_goto hf.1 hf.2.1 hd ht (k p e s m args below meth c H locs ls hf hl hP hS)
end
