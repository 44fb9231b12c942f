section
variable {G : GC} {F : FT} {pc pn : Nat} {L : List (Option Value)} {S : List Value} {I : MI} {J : MJ}
theorem g_if_eq {x : Int32} {off : Int} {tgt : Nat} (hd : decode F.1.2.1 pc = .ok (.ifCond .eq off, 3)) (hp : pc + 3 = pn) (ht : (pc : Int) + off = (tgt : Int)) (kt : x = 0 → Go G F tgt L S I J) (kf : ¬ (x = 0) → Go G F pn L S I J) : Go G F pc L (.int x :: S) I J := by
  subst hp
  exact fun p e s m args below meth c H locs ls hf hl hP hS => lv_if_eq hf.1 hf.2.1 hd ht (fun h => kt h p e s m args below meth c H locs ls hf hl hP hS) (fun h => kf h p e s m args below meth c H locs ls hf hl hP hS)
theorem g_ic_eq {x y : Int32} {off : Int} {tgt : Nat} (hd : decode F.1.2.1 pc = .ok (.if_icmp .eq off, 3)) (hp : pc + 3 = pn) (ht : (pc : Int) + off = (tgt : Int)) (kt : x = y → Go G F tgt L S I J) (kf : ¬ (x = y) → Go G F pn L S I J) : Go G F pc L (.int y :: .int x :: S) I J := by
  subst hp
  exact fun p e s m args below meth c H locs ls hf hl hP hS => lv_icmp_eq hf.1 hf.2.1 hd ht (fun h => kt h p e s m args below meth c H locs ls hf hl hP hS) (fun h => kf h p e s m args below meth c H locs ls hf hl hP hS)
theorem g_if_ne {x : Int32} {off : Int} {tgt : Nat} (hd : decode F.1.2.1 pc = .ok (.ifCond .ne off, 3)) (hp : pc + 3 = pn) (ht : (pc : Int) + off = (tgt : Int)) (kt : ¬ x = 0 → Go G F tgt L S I J) (kf : x = 0 → Go G F pn L S I J) : Go G F pc L (.int x :: S) I J := by
  subst hp
  exact fun p e s m args below meth c H locs ls hf hl hP hS => lv_if_ne hf.1 hf.2.1 hd ht (fun h => kt h p e s m args below meth c H locs ls hf hl hP hS) (fun h => kf h p e s m args below meth c H locs ls hf hl hP hS)
theorem g_ic_ne {x y : Int32} {off : Int} {tgt : Nat} (hd : decode F.1.2.1 pc = .ok (.if_icmp .ne off, 3)) (hp : pc + 3 = pn) (ht : (pc : Int) + off = (tgt : Int)) (kt : ¬ x = y → Go G F tgt L S I J) (kf : x = y → Go G F pn L S I J) : Go G F pc L (.int y :: .int x :: S) I J := by
  subst hp
  exact fun p e s m args below meth c H locs ls hf hl hP hS => lv_icmp_ne hf.1 hf.2.1 hd ht (fun h => kt h p e s m args below meth c H locs ls hf hl hP hS) (fun h => kf h p e s m args below meth c H locs ls hf hl hP hS)
theorem g_if_lt {x : Int32} {off : Int} {tgt : Nat} (hd : decode F.1.2.1 pc = .ok (.ifCond .lt off, 3)) (hp : pc + 3 = pn) (ht : (pc : Int) + off = (tgt : Int)) (kt : x < 0 → Go G F tgt L S I J) (kf : ¬ (x < 0) → Go G F pn L S I J) : Go G F pc L (.int x :: S) I J := by
  subst hp
  exact fun p e s m args below meth c H locs ls hf hl hP hS => lv_if_lt hf.1 hf.2.1 hd ht (fun h => kt h p e s m args below meth c H locs ls hf hl hP hS) (fun h => kf h p e s m args below meth c H locs ls hf hl hP hS)
theorem g_ic_lt {x y : Int32} {off : Int} {tgt : Nat} (hd : decode F.1.2.1 pc = .ok (.if_icmp .lt off, 3)) (hp : pc + 3 = pn) (ht : (pc : Int) + off = (tgt : Int)) (kt : x < y → Go G F tgt L S I J) (kf : ¬ (x < y) → Go G F pn L S I J) : Go G F pc L (.int y :: .int x :: S) I J := by
  subst hp
  exact fun p e s m args below meth c H locs ls hf hl hP hS => lv_icmp_lt hf.1 hf.2.1 hd ht (fun h => kt h p e s m args below meth c H locs ls hf hl hP hS) (fun h => kf h p e s m args below meth c H locs ls hf hl hP hS)
theorem g_if_ge {x : Int32} {off : Int} {tgt : Nat} (hd : decode F.1.2.1 pc = .ok (.ifCond .ge off, 3)) (hp : pc + 3 = pn) (ht : (pc : Int) + off = (tgt : Int)) (kt : 0 ≤ x → Go G F tgt L S I J) (kf : ¬ (0 ≤ x) → Go G F pn L S I J) : Go G F pc L (.int x :: S) I J := by
  subst hp
  exact fun p e s m args below meth c H locs ls hf hl hP hS => lv_if_ge hf.1 hf.2.1 hd ht (fun h => kt h p e s m args below meth c H locs ls hf hl hP hS) (fun h => kf h p e s m args below meth c H locs ls hf hl hP hS)
theorem g_ic_ge {x y : Int32} {off : Int} {tgt : Nat} (hd : decode F.1.2.1 pc = .ok (.if_icmp .ge off, 3)) (hp : pc + 3 = pn) (ht : (pc : Int) + off = (tgt : Int)) (kt : y ≤ x → Go G F tgt L S I J) (kf : ¬ (y ≤ x) → Go G F pn L S I J) : Go G F pc L (.int y :: .int x :: S) I J := by
  subst hp
  exact fun p e s m args below meth c H locs ls hf hl hP hS => lv_icmp_ge hf.1 hf.2.1 hd ht (fun h => kt h p e s m args below meth c H locs ls hf hl hP hS) (fun h => kf h p e s m args below meth c H locs ls hf hl hP hS)
theorem g_if_gt {x : Int32} {off : Int} {tgt : Nat} (hd : decode F.1.2.1 pc = .ok (.ifCond .gt off, 3)) (hp : pc + 3 = pn) (ht : (pc : Int) + off = (tgt : Int)) (kt : 0 < x → Go G F tgt L S I J) (kf : ¬ (0 < x) → Go G F pn L S I J) : Go G F pc L (.int x :: S) I J := by
  subst hp
  exact fun p e s m args below meth c H locs ls hf hl hP hS => lv_if_gt hf.1 hf.2.1 hd ht (fun h => kt h p e s m args below meth c H locs ls hf hl hP hS) (fun h => kf h p e s m args below meth c H locs ls hf hl hP hS)
theorem g_ic_gt {x y : Int32} {off : Int} {tgt : Nat} (hd : decode F.1.2.1 pc = .ok (.if_icmp .gt off, 3)) (hp : pc + 3 = pn) (ht : (pc : Int) + off = (tgt : Int)) (kt : y < x → Go G F tgt L S I J) (kf : ¬ (y < x) → Go G F pn L S I J) : Go G F pc L (.int y :: .int x :: S) I J := by
  subst hp
  exact fun p e s m args below meth c H locs ls hf hl hP hS => lv_icmp_gt hf.1 hf.2.1 hd ht (fun h => kt h p e s m args below meth c H locs ls hf hl hP hS) (fun h => kf h p e s m args below meth c H locs ls hf hl hP hS)
theorem g_if_le {x : Int32} {off : Int} {tgt : Nat} (hd : decode F.1.2.1 pc = .ok (.ifCond .le off, 3)) (hp : pc + 3 = pn) (ht : (pc : Int) + off = (tgt : Int)) (kt : x ≤ 0 → Go G F tgt L S I J) (kf : ¬ (x ≤ 0) → Go G F pn L S I J) : Go G F pc L (.int x :: S) I J := by
  subst hp
  exact fun p e s m args below meth c H locs ls hf hl hP hS => lv_if_le hf.1 hf.2.1 hd ht (fun h => kt h p e s m args below meth c H locs ls hf hl hP hS) (fun h => kf h p e s m args below meth c H locs ls hf hl hP hS)
theorem g_ic_le {x y : Int32} {off : Int} {tgt : Nat} (hd : decode F.1.2.1 pc = .ok (.if_icmp .le off, 3)) (hp : pc + 3 = pn) (ht : (pc : Int) + off = (tgt : Int)) (kt : x ≤ y → Go G F tgt L S I J) (kf : ¬ (x ≤ y) → Go G F pn L S I J) : Go G F pc L (.int y :: .int x :: S) I J := by
  subst hp
  exact fun p e s m args below meth c H locs ls hf hl hP hS => lv_icmp_le hf.1 hf.2.1 hd ht (fun h => kt h p e s m args below meth c H locs ls hf hl hP hS) (fun h => kf h p e s m args below meth c H locs ls hf hl hP hS)
theorem g_lcmp {x y : Int64} (hd : decode F.1.2.1 pc = .ok (.lcmp, 1)) (hp : pc + 1 = pn) (k : Go G F pn L (.int (lg_cmp x y) :: S) I J) : Go G F pc L (.long y :: .long x :: S) I J := by
  subst hp
  exact fun p e s m args below meth c H locs ls hf hl hP hS => W.lcmp hf.1 hf.2.1 hd (k p e s m args below meth c H locs ls hf hl hP hS)
theorem g_lc_eq {x y : Int64} {off : Int} {p1 tgt : Nat} (hd0 : decode F.1.2.1 pc = .ok (.lcmp, 1)) (hp0 : pc + 1 = p1) (hd : decode F.1.2.1 p1 = .ok (.ifCond .eq off, 3)) (hp : p1 + 3 = pn) (ht : (p1 : Int) + off = (tgt : Int)) (kt : x = y → Go G F tgt L S I J) (kf : ¬ (x = y) → Go G F pn L S I J) : Go G F pc L (.long y :: .long x :: S) I J :=
  g_lcmp hd0 hp0 (g_if_eq hd hp ht (fun h => kt ((lg_cmp_eq x y).mp h)) (fun h => kf (fun q => h ((lg_cmp_eq x y).mpr q))))
theorem g_lc_ne {x y : Int64} {off : Int} {p1 tgt : Nat} (hd0 : decode F.1.2.1 pc = .ok (.lcmp, 1)) (hp0 : pc + 1 = p1) (hd : decode F.1.2.1 p1 = .ok (.ifCond .ne off, 3)) (hp : p1 + 3 = pn) (ht : (p1 : Int) + off = (tgt : Int)) (kt : ¬ x = y → Go G F tgt L S I J) (kf : x = y → Go G F pn L S I J) : Go G F pc L (.long y :: .long x :: S) I J :=
  g_lcmp hd0 hp0 (g_if_ne hd hp ht (fun h => kt ((not_congr (lg_cmp_eq x y)).mp h)) (fun h => kf ((lg_cmp_eq x y).mp h)))
theorem g_lc_lt {x y : Int64} {off : Int} {p1 tgt : Nat} (hd0 : decode F.1.2.1 pc = .ok (.lcmp, 1)) (hp0 : pc + 1 = p1) (hd : decode F.1.2.1 p1 = .ok (.ifCond .lt off, 3)) (hp : p1 + 3 = pn) (ht : (p1 : Int) + off = (tgt : Int)) (kt : x < y → Go G F tgt L S I J) (kf : ¬ (x < y) → Go G F pn L S I J) : Go G F pc L (.long y :: .long x :: S) I J :=
  g_lcmp hd0 hp0 (g_if_lt hd hp ht (fun h => kt ((lg_cmp_lt x y).mp h)) (fun h => kf (fun q => h ((lg_cmp_lt x y).mpr q))))
theorem g_lc_ge {x y : Int64} {off : Int} {p1 tgt : Nat} (hd0 : decode F.1.2.1 pc = .ok (.lcmp, 1)) (hp0 : pc + 1 = p1) (hd : decode F.1.2.1 p1 = .ok (.ifCond .ge off, 3)) (hp : p1 + 3 = pn) (ht : (p1 : Int) + off = (tgt : Int)) (kt : y ≤ x → Go G F tgt L S I J) (kf : ¬ (y ≤ x) → Go G F pn L S I J) : Go G F pc L (.long y :: .long x :: S) I J :=
  g_lcmp hd0 hp0 (g_if_ge hd hp ht (fun h => kt ((lg_cmp_ge x y).mp h)) (fun h => kf (fun q => h ((lg_cmp_ge x y).mpr q))))
theorem g_lc_gt {x y : Int64} {off : Int} {p1 tgt : Nat} (hd0 : decode F.1.2.1 pc = .ok (.lcmp, 1)) (hp0 : pc + 1 = p1) (hd : decode F.1.2.1 p1 = .ok (.ifCond .gt off, 3)) (hp : p1 + 3 = pn) (ht : (p1 : Int) + off = (tgt : Int)) (kt : y < x → Go G F tgt L S I J) (kf : ¬ (y < x) → Go G F pn L S I J) : Go G F pc L (.long y :: .long x :: S) I J :=
  g_lcmp hd0 hp0 (g_if_gt hd hp ht (fun h => kt ((lg_cmp_gt x y).mp h)) (fun h => kf (fun q => h ((lg_cmp_gt x y).mpr q))))
theorem g_lc_le {x y : Int64} {off : Int} {p1 tgt : Nat} (hd0 : decode F.1.2.1 pc = .ok (.lcmp, 1)) (hp0 : pc + 1 = p1) (hd : decode F.1.2.1 p1 = .ok (.ifCond .le off, 3)) (hp : p1 + 3 = pn) (ht : (p1 : Int) + off = (tgt : Int)) (kt : x ≤ y → Go G F tgt L S I J) (kf : ¬ (x ≤ y) → Go G F pn L S I J) : Go G F pc L (.long y :: .long x :: S) I J :=
  g_lcmp hd0 hp0 (g_if_le hd hp ht (fun h => kt ((lg_cmp_le x y).mp h)) (fun h => kf (fun q => h ((lg_cmp_le x y).mpr q))))
theorem g_tabIn {dflt lo hi : Int} {offs : Array Int} {len : Nat} {x : Int32} {off : Int} {tgt : Nat} (hd : decode F.1.2.1 pc = .ok (.tableswitch dflt lo hi offs, len)) (h1 : ¬ x.toInt < lo) (h2 : ¬ hi < x.toInt) (ho : offs[(x.toInt - lo).toNat]? = some off) (ht : (pc : Int) + off = (tgt : Int)) (k : Go G F tgt L S I J) : Go G F pc L (.int x :: S) I J :=
  fun p e s m args below meth c H locs ls hf hl hP hS => lv_tableIn hf.1 hf.2.1 hd h1 h2 ho ht (k p e s m args below meth c H locs ls hf hl hP hS)
theorem g_tabOut {dflt lo hi : Int} {offs : Array Int} {len : Nat} {x : Int32} {tgt : Nat} (hd : decode F.1.2.1 pc = .ok (.tableswitch dflt lo hi offs, len)) (h : x.toInt < lo ∨ hi < x.toInt) (ht : (pc : Int) + dflt = (tgt : Int)) (k : Go G F tgt L S I J) : Go G F pc L (.int x :: S) I J :=
  fun p e s m args below meth c H locs ls hf hl hP hS => lv_tableOut hf.1 hf.2.1 hd h ht (k p e s m args below meth c H locs ls hf hl hP hS)
end
