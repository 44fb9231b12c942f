theorem sh_0 : SHP[0]? = some (9, 11, [3, 8, 29, 34, 35, 52, 53, 55, 60, 0, 0]) := rfl
theorem sh_1 : SHP[1]? = some (3, 5, [4, 5, 6, 7, 0]) := rfl
theorem sh_2 : SHP[2]? = some (20, 200, []) := rfl
theorem sh_3 : SHP[3]? = some (20, 200, []) := rfl
theorem sh_4 : SHP[4]? = some (20, 200, []) := rfl
theorem sh_5 : SHP[5]? = some (20, 200, []) := rfl
theorem sh_6 : SHP[6]? = some (24, 4, [7, 12, 17, 22]) := rfl
theorem sh_7 : SHP[7]? = some (6, 5, [10, 11, 12, 13, 0]) := rfl
theorem sh_8 : SHP[8]? = some (20, 40, []) := rfl
theorem sh_9 : SHP[9]? = some (20, 40, []) := rfl
theorem sh_10 : SHP[10]? = some (20, 40, []) := rfl
theorem sh_11 : SHP[11]? = some (20, 40, []) := rfl
theorem sh_12 : SHP[12]? = some (6, 5, [15, 16, 17, 18, 0]) := rfl
theorem sh_13 : SHP[13]? = some (20, 40, []) := rfl
theorem sh_14 : SHP[14]? = some (20, 40, []) := rfl
theorem sh_15 : SHP[15]? = some (20, 40, []) := rfl
theorem sh_16 : SHP[16]? = some (20, 40, []) := rfl
theorem sh_17 : SHP[17]? = some (6, 5, [20, 21, 22, 23, 0]) := rfl
theorem sh_18 : SHP[18]? = some (20, 40, []) := rfl
theorem sh_19 : SHP[19]? = some (20, 40, []) := rfl
theorem sh_20 : SHP[20]? = some (20, 40, []) := rfl
theorem sh_21 : SHP[21]? = some (20, 40, []) := rfl
theorem sh_22 : SHP[22]? = some (6, 5, [25, 26, 27, 28, 0]) := rfl
theorem sh_23 : SHP[23]? = some (20, 40, []) := rfl
theorem sh_24 : SHP[24]? = some (20, 40, []) := rfl
theorem sh_25 : SHP[25]? = some (20, 40, []) := rfl
theorem sh_26 : SHP[26]? = some (20, 40, []) := rfl
theorem sh_27 : SHP[27]? = some (6, 5, [30, 31, 32, 33, 0]) := rfl
theorem sh_28 : SHP[28]? = some (20, 40, []) := rfl
theorem sh_29 : SHP[29]? = some (20, 40, []) := rfl
theorem sh_30 : SHP[30]? = some (20, 40, []) := rfl
theorem sh_31 : SHP[31]? = some (20, 40, []) := rfl
theorem sh_32 : SHP[32]? = some (20, 4, []) := rfl
theorem sh_33 : SHP[33]? = some (2, 13, [36, 44, 45, 46, 47, 48, 49, 50, 0, 0, 1, 1, 51]) := rfl
theorem sh_34 : SHP[34]? = some (23, 4, [35, 36, 38, 39]) := rfl
theorem sh_35 : SHP[35]? = some (8, 7, [0, 1, 1, 1, 1, 1, 1]) := rfl
theorem sh_36 : SHP[36]? = some (4, 3, [0, 39, 1]) := rfl
theorem sh_37 : SHP[37]? = some (20, 40, []) := rfl
theorem sh_38 : SHP[38]? = some (8, 7, [0, 1, 1, 1, 1, 1, 1]) := rfl
theorem sh_39 : SHP[39]? = some (5, 4, [0, 42, 43, 0]) := rfl
theorem sh_40 : SHP[40]? = some (20, 40, []) := rfl
theorem sh_41 : SHP[41]? = some (20, 41, []) := rfl
theorem sh_42 : SHP[42]? = some (21, 861, []) := rfl
theorem sh_43 : SHP[43]? = some (21, 861, []) := rfl
theorem sh_44 : SHP[44]? = some (20, 861, []) := rfl
theorem sh_45 : SHP[45]? = some (20, 861, []) := rfl
theorem sh_46 : SHP[46]? = some (21, 40, []) := rfl
theorem sh_47 : SHP[47]? = some (21, 40, []) := rfl
theorem sh_48 : SHP[48]? = some (21, 40, []) := rfl
theorem sh_49 : SHP[49]? = some (20, 6, []) := rfl
theorem sh_50 : SHP[50]? = some (20, 6, []) := rfl
theorem sh_51 : SHP[51]? = some (0, 1, [54]) := rfl
theorem sh_52 : SHP[52]? = some (20, 40, []) := rfl
theorem sh_53 : SHP[53]? = some (1, 8, [56, 0, 57, 58, 59, 0, 0, 0]) := rfl
theorem sh_54 : SHP[54]? = some (20, 100, []) := rfl
theorem sh_55 : SHP[55]? = some (20, 40, []) := rfl
theorem sh_56 : SHP[56]? = some (20, 40, []) := rfl
theorem sh_57 : SHP[57]? = some (20, 40, []) := rfl
theorem sh_58 : SHP[58]? = some (25, 4, [59, 61, 63, 65]) := rfl
theorem sh_59 : SHP[59]? = some (7, 3, [62, 0, 0]) := rfl
theorem sh_60 : SHP[60]? = some (20, 60, []) := rfl
theorem sh_61 : SHP[61]? = some (7, 3, [64, 0, 0]) := rfl
theorem sh_62 : SHP[62]? = some (20, 60, []) := rfl
theorem sh_63 : SHP[63]? = some (7, 3, [66, 0, 0]) := rfl
theorem sh_64 : SHP[64]? = some (20, 60, []) := rfl
theorem sh_65 : SHP[65]? = some (7, 3, [68, 0, 0]) := rfl
theorem sh_66 : SHP[66]? = some (20, 60, []) := rfl
theorem sh_67 : SHP[67]? = some (10, 45, [0, 70, 71, 72, 73, 0, 74, 0, 75, 76, 77, 78, 79, 80, 81, 82, 83, 84, 1, 1, 1, 85, 86, 87, 88, 0, 89, 90, 91, 0, 92, 0, 93, 0, 0, 0, 94, 95, 96, 97, 98, 99, 100, 101, 0]) := rfl
theorem sh_68 : SHP[68]? = some (20, 200, []) := rfl
theorem sh_69 : SHP[69]? = some (20, 200, []) := rfl
theorem sh_70 : SHP[70]? = some (20, 200, []) := rfl
theorem sh_71 : SHP[71]? = some (20, 200, []) := rfl
theorem sh_72 : SHP[72]? = some (20, 4, []) := rfl
theorem sh_73 : SHP[73]? = some (20, 40, []) := rfl
theorem sh_74 : SHP[74]? = some (20, 40, []) := rfl
theorem sh_75 : SHP[75]? = some (20, 40, []) := rfl
theorem sh_76 : SHP[76]? = some (21, 1600, []) := rfl
theorem sh_77 : SHP[77]? = some (21, 1600, []) := rfl
theorem sh_78 : SHP[78]? = some (21, 1600, []) := rfl
theorem sh_79 : SHP[79]? = some (20, 40, []) := rfl
theorem sh_80 : SHP[80]? = some (21, 287, []) := rfl
theorem sh_81 : SHP[81]? = some (21, 287, []) := rfl
theorem sh_82 : SHP[82]? = some (21, 287, []) := rfl
theorem sh_83 : SHP[83]? = some (20, 7, []) := rfl
theorem sh_84 : SHP[84]? = some (21, 1600, []) := rfl
theorem sh_85 : SHP[85]? = some (21, 287, []) := rfl
theorem sh_86 : SHP[86]? = some (20, 6, []) := rfl
theorem sh_87 : SHP[87]? = some (20, 40, []) := rfl
theorem sh_88 : SHP[88]? = some (20, 40, []) := rfl
theorem sh_89 : SHP[89]? = some (20, 6, []) := rfl
theorem sh_90 : SHP[90]? = some (22, 40, []) := rfl
theorem sh_91 : SHP[91]? = some (20, 100, []) := rfl
theorem sh_92 : SHP[92]? = some (20, 40, []) := rfl
theorem sh_93 : SHP[93]? = some (20, 40, []) := rfl
theorem sh_94 : SHP[94]? = some (20, 40, []) := rfl
theorem sh_95 : SHP[95]? = some (22, 4, []) := rfl
theorem sh_96 : SHP[96]? = some (20, 4, []) := rfl
theorem sh_97 : SHP[97]? = some (20, 4, []) := rfl
theorem sh_98 : SHP[98]? = some (20, 240, []) := rfl
theorem sh_99 : SHP[99]? = some (20, 60, []) := rfl
theorem gw_nat : (Cond.native ⟨"java/lang/System", "arraycopy", "(Ljava/lang/Object;ILjava/lang/Object;II)V"⟩ : Cond) ∈ GW := gw_4 119 rfl rfl
theorem gw_nst : (Cond.static ⟨"java/lang/System", "arraycopy", "(Ljava/lang/Object;ILjava/lang/Object;II)V"⟩ : Cond) ∈ GW := gw_4 118 rfl rfl
theorem gw_nin : (Cond.initialized "java/lang/System" : Cond) ∈ GW := gw_1 16 rfl rfl
theorem nl_LB_9 : Cond.methodLinkNest "LevelBreaks" 9 ⟨"LevelBreaks$Ledger", "<init>", "()V"⟩ "LevelBreaks" ∈ NWL := by decide +kernel
theorem nl_LB_33 : Cond.methodLinkNest "LevelBreaks" 33 ⟨"LevelBreaks$Cuts", "<init>", "()V"⟩ "LevelBreaks" ∈ NWL := by decide +kernel
theorem nl_LB_43 : Cond.methodLinkNest "LevelBreaks" 43 ⟨"LevelBreaks$Alarms", "<init>", "()V"⟩ "LevelBreaks" ∈ NWL := by decide +kernel
theorem nl_LB_50 : Cond.methodLinkNest "LevelBreaks" 50 ⟨"LevelBreaks$Beforehand", "<init>", "()V"⟩ "LevelBreaks" ∈ NWL := by decide +kernel
theorem nl_LB_57 : Cond.methodLinkNest "LevelBreaks" 57 ⟨"LevelBreaks$Sheet", "<init>", "()V"⟩ "LevelBreaks" ∈ NWL := by decide +kernel
theorem nl_BF_57 : Cond.methodLinkNest "LevelBreaks$Beforehand" 57 ⟨"LevelBreaks", "isWithin", "(III)Z"⟩ "LevelBreaks" ∈ NWL := by decide +kernel
theorem nl_CU_20 : Cond.methodLinkNest "LevelBreaks$Cuts" 20 ⟨"LevelBreaks$Middle", "<init>", "()V"⟩ "LevelBreaks" ∈ NWL := by decide +kernel
theorem nl_CU_23 : Cond.methodLinkNest "LevelBreaks$Cuts" 23 ⟨"LevelBreaks$One", "<init>", "()V"⟩ "LevelBreaks" ∈ NWL := by decide +kernel
theorem nl_MI_3 : Cond.methodLinkNest "LevelBreaks$Middle" 3 ⟨"LevelBreaks$Measure", "<init>", "()V"⟩ "LevelBreaks" ∈ NWL := by decide +kernel
theorem nl_ON_3 : Cond.methodLinkNest "LevelBreaks$One" 3 ⟨"LevelBreaks$Measure", "<init>", "()V"⟩ "LevelBreaks" ∈ NWL := by decide +kernel
theorem nl_SU_3 : Cond.methodLinkNest "LevelBreaks$Sums" 3 ⟨"LevelBreaks$Measure", "<init>", "()V"⟩ "LevelBreaks" ∈ NWL := by decide +kernel
/-- System.arraycopy of ints between two cells -/
def cp2 (I : MI) (a b sp dp n : Nat) : MI := fun o => if o = b then va_cpy (I a) (I b) sp dp n else I o
theorem g_copy {G : GC} {F : FT} {pc pn : Nat} {L : List (Option Value)} {I : MI} {J : MJ} {rest : List Value} {idx a b n0 n1 : Nat} {l0 l1 : List Nat} {sp dp n : Int32} (hl : Cond.methodLink F.1.1.cls idx ⟨"java/lang/System", "arraycopy", "(Ljava/lang/Object;ILjava/lang/Object;II)V"⟩ ∈ GW) (ha : SHP[a]? = some (20, n0, l0)) (hb : SHP[b]? = some (20, n1, l1)) (h : ¬ sp < 0 ∧ ¬ dp < 0 ∧ ¬ n < 0 ∧ Int32.toNatClampNeg sp + Int32.toNatClampNeg n ≤ n0 ∧ Int32.toNatClampNeg dp + Int32.toNatClampNeg n ≤ n1) (hrm : (rest.map fun v => v.category).sum ≤ 8) (hf1 : 1 ≤ F.2.1.frames) (hf2 : 60 ≤ F.2.1.locals) (hd : decode F.1.2.1 pc = .ok (.invokestatic idx, 3)) (hp : pc + 3 = pn) (kk : Go G F pn L rest (cp2 I a b sp.toNatClampNeg dp.toNatClampNeg n.toNatClampNeg) J) : Go G F pc L (.int n :: .int dp :: .ref b :: .int sp :: .ref a :: rest) I J := by
  subst hp
  intro p e s m args below meth c H locs ls hf hlv hP hS
  have he := wld_at (G := G) (I := I) (J := J) ha
  have hg := wld_at (G := G) (I := I) (J := J) hb
  rw [cell_i] at he hg
  have hts := hf.2.2.2.2.2.2.1
  refine va_copyi hf.1 hf.2.1 (hf.2.2.2.2.1.trans hlv.1.symm) hf.2.2.2.2.2.1 (hts _ hl) (hts _ (gw_nat)) (hts _ (gw_nst)) (hts _ (gw_nin)) hf.2.2.2.2.2.2.2.2.1 hP (wld_D G I J) hS a b 0 0 he hg rfl rfl (by decide) h.1 h.2.1 h.2.2.1 h.2.2.2.1 h.2.2.2.2 (fun _ _ => rfl) hf1 (by rw [cv_cats]; exact Nat.le_trans (Nat.add_le_add hrm (show nativeFrameWords "java/lang/System" "arraycopy" 5 + 11 ≤ 52 from by decide +kernel)) hf2) hd (fun H1 locs1 hP1 _ hS1 => ?_)
  refine kk p e s m args below meth c H1 locs1 ls hf hlv ?_ hS1
  rw [wld_set (I' := cp2 I a b sp.toNatClampNeg dp.toNatClampNeg n.toNatClampNeg) (J' := J) hb (by rw [cell_i]; simp [cp2]) (fun q hq => by simp [cp2, hq]) (fun _ _ => rfl)] at hP1
  exact hP1
theorem dc_LB_isWithin_0 : decode prog_1_method_34_code 0 = .ok (.iload_n 0, 1) := by decide +kernel
theorem dc_LB_isWithin_1 : decode prog_1_method_34_code 1 = .ok (.iload_n 1, 1) := by decide +kernel
theorem dc_LB_isWithin_2 : decode prog_1_method_34_code 2 = .ok (.if_icmp .lt 12, 3) := by decide +kernel
theorem dc_LB_isWithin_5 : decode prog_1_method_34_code 5 = .ok (.iload_n 0, 1) := by decide +kernel
theorem dc_LB_isWithin_6 : decode prog_1_method_34_code 6 = .ok (.iload_n 2, 1) := by decide +kernel
theorem dc_LB_isWithin_7 : decode prog_1_method_34_code 7 = .ok (.if_icmp .gt 7, 3) := by decide +kernel
theorem dc_LB_isWithin_10 : decode prog_1_method_34_code 10 = .ok (.iconst 1, 1) := by decide +kernel
theorem dc_LB_isWithin_11 : decode prog_1_method_34_code 11 = .ok (.goto 4, 3) := by decide +kernel
theorem dc_LB_isWithin_14 : decode prog_1_method_34_code 14 = .ok (.iconst 0, 1) := by decide +kernel
theorem dc_LB_isWithin_15 : decode prog_1_method_34_code 15 = .ok (.ireturn, 1) := by decide +kernel
def f_LB_isWithin (x0 : Int32) (x1 : Int32) (x2 : Int32) : Int32 := (if x0 < x1 then 0 else (if x2 < x0 then 0 else 1))
theorem z_LB_isWithin (x0 : Int32) (x1 : Int32) (x2 : Int32) : f_LB_isWithin x0 x1 x2 = 0 ∨ f_LB_isWithin x0 x1 x2 = 1 := by unfold f_LB_isWithin; (repeat' split) <;> first | exact Or.inl rfl | exact Or.inr rfl
theorem c_LB_isWithin {G : GC} {d : Nat} {P : PT} {I : MI} {J : MJ} {x0 : Int32} {x1 : Int32} {x2 : Int32} (hq : P (some (.int (f_LB_isWithin x0 x1 x2))) I J) : Ct G d m_LB_isWithin [.int x0, .int x1, .int x2] P I J := by
  refine Ct.ofGo [some (.int x0), some (.int x1), some (.int x2)] (by decide +kernel) rfl (Nat.le_of_ble_eq_true rfl) ?_
  refine g_iload_n dc_LB_isWithin_0 rfl rfl rfl ?_
  refine g_iload_n dc_LB_isWithin_1 rfl rfl rfl ?_
  refine g_ic_lt (tgt := 14) dc_LB_isWithin_2 rfl (by decide) (fun c1 => ?_) (fun c1 => ?_)
  · refine g_iconst (v := 0) dc_LB_isWithin_14 rfl (by decide) ?_
    exact g_zret rfl (by decide) dc_LB_isWithin_15 ((show f_LB_isWithin x0 x1 x2 = 0 from by unfold f_LB_isWithin; rw [if_pos c1]) ▸ hq)
  · refine g_iload_n dc_LB_isWithin_5 rfl rfl rfl ?_
    refine g_iload_n dc_LB_isWithin_6 rfl rfl rfl ?_
    refine g_ic_gt (tgt := 14) dc_LB_isWithin_7 rfl (by decide) (fun c2 => ?_) (fun c2 => ?_)
    · refine g_iconst (v := 0) dc_LB_isWithin_14 rfl (by decide) ?_
      exact g_zret rfl (by decide) dc_LB_isWithin_15 ((show f_LB_isWithin x0 x1 x2 = 0 from by unfold f_LB_isWithin; rw [if_neg c1, if_pos c2]) ▸ hq)
    · refine g_iconst (v := 1) dc_LB_isWithin_10 rfl (by decide) ?_
      refine g_goto (tgt := 15) dc_LB_isWithin_11 (by decide) ?_
      exact g_zret rfl (by decide) dc_LB_isWithin_15 ((show f_LB_isWithin x0 x1 x2 = 1 from by unfold f_LB_isWithin; rw [if_neg c1, if_neg c2]) ▸ hq)
theorem dc_LB_isRow_0 : decode prog_1_method_35_code 0 = .ok (.iload_n 0, 1) := by decide +kernel
theorem dc_LB_isRow_1 : decode prog_1_method_35_code 1 = .ok (.iconst 0, 1) := by decide +kernel
theorem dc_LB_isRow_2 : decode prog_1_method_35_code 2 = .ok (.iconst 3, 1) := by decide +kernel
theorem dc_LB_isRow_3 : decode prog_1_method_35_code 3 = .ok (.invokestatic 108, 3) := by decide +kernel
theorem dc_LB_isRow_6 : decode prog_1_method_35_code 6 = .ok (.ireturn, 1) := by decide +kernel
def f_LB_isRow (x0 : Int32) : Int32 := (f_LB_isWithin x0 0 3)
theorem z_LB_isRow (x0 : Int32) : f_LB_isRow x0 = 0 ∨ f_LB_isRow x0 = 1 := by unfold f_LB_isRow; (repeat' split) <;> first | exact Or.inl rfl | exact Or.inr rfl | exact (z_LB_isWithin _ _ _)
theorem c_LB_isRow {G : GC} {d : Nat} {P : PT} {I : MI} {J : MJ} {x0 : Int32} (hq : P (some (.int (f_LB_isRow x0))) I J) : Ct G (d + 1) m_LB_isRow [.int x0] P I J := by
  refine Ct.ofGo [some (.int x0)] (by decide +kernel) rfl (Nat.le_of_ble_eq_true rfl) ?_
  refine g_iload_n dc_LB_isRow_0 rfl rfl rfl ?_
  refine g_iconst (v := 0) dc_LB_isRow_1 rfl (by decide) ?_
  refine g_iconst (v := 3) dc_LB_isRow_2 rfl (by decide) ?_
  refine g_callS (M := m_LB_isWithin) (As := [.int x0, .int 0, .int 3]) (rest := []) ok_LB_isWithin st_LB_isWithin ml_LB_108 rfl rfl (Nat.le_of_ble_eq_true rfl) dc_LB_isRow_3 rfl rOk_fr (c_LB_isWithin ?_)
  show Go G (fr G m_LB_isRow (d + 1) P) 6 [some (.int x0)] [.int (f_LB_isWithin x0 0 3)] I J
  exact g_zret rfl (z_LB_isWithin _ _ _) dc_LB_isRow_6 (hq)
theorem dc_LB_isDay_0 : decode prog_1_method_36_code 0 = .ok (.iload_n 0, 1) := by decide +kernel
theorem dc_LB_isDay_1 : decode prog_1_method_36_code 1 = .ok (.iconst 0, 1) := by decide +kernel
theorem dc_LB_isDay_2 : decode prog_1_method_36_code 2 = .ok (.bipush 39, 2) := by decide +kernel
theorem dc_LB_isDay_4 : decode prog_1_method_36_code 4 = .ok (.invokestatic 108, 3) := by decide +kernel
theorem dc_LB_isDay_7 : decode prog_1_method_36_code 7 = .ok (.ireturn, 1) := by decide +kernel
def f_LB_isDay (x0 : Int32) : Int32 := (f_LB_isWithin x0 0 39)
theorem z_LB_isDay (x0 : Int32) : f_LB_isDay x0 = 0 ∨ f_LB_isDay x0 = 1 := by unfold f_LB_isDay; (repeat' split) <;> first | exact Or.inl rfl | exact Or.inr rfl | exact (z_LB_isWithin _ _ _)
theorem c_LB_isDay {G : GC} {d : Nat} {P : PT} {I : MI} {J : MJ} {x0 : Int32} (hq : P (some (.int (f_LB_isDay x0))) I J) : Ct G (d + 1) m_LB_isDay [.int x0] P I J := by
  refine Ct.ofGo [some (.int x0)] (by decide +kernel) rfl (Nat.le_of_ble_eq_true rfl) ?_
  refine g_iload_n dc_LB_isDay_0 rfl rfl rfl ?_
  refine g_iconst (v := 0) dc_LB_isDay_1 rfl (by decide) ?_
  refine g_bipush (v := 39) dc_LB_isDay_2 rfl (by decide) ?_
  refine g_callS (M := m_LB_isWithin) (As := [.int x0, .int 0, .int 39]) (rest := []) ok_LB_isWithin st_LB_isWithin ml_LB_108 rfl rfl (Nat.le_of_ble_eq_true rfl) dc_LB_isDay_4 rfl rOk_fr (c_LB_isWithin ?_)
  show Go G (fr G m_LB_isDay (d + 1) P) 7 [some (.int x0)] [.int (f_LB_isWithin x0 0 39)] I J
  exact g_zret rfl (z_LB_isWithin _ _ _) dc_LB_isDay_7 (hq)
theorem dc_LB_isValue_0 : decode prog_1_method_37_code 0 = .ok (.iload_n 0, 1) := by decide +kernel
theorem dc_LB_isValue_1 : decode prog_1_method_37_code 1 = .ok (.sipush (-9999), 3) := by decide +kernel
theorem dc_LB_isValue_4 : decode prog_1_method_37_code 4 = .ok (.if_icmp .eq 16, 3) := by decide +kernel
theorem dc_LB_isValue_7 : decode prog_1_method_37_code 7 = .ok (.iload_n 0, 1) := by decide +kernel
theorem dc_LB_isValue_8 : decode prog_1_method_37_code 8 = .ok (.sipush (-1000), 3) := by decide +kernel
theorem dc_LB_isValue_11 : decode prog_1_method_37_code 11 = .ok (.sipush 1000, 3) := by decide +kernel
theorem dc_LB_isValue_14 : decode prog_1_method_37_code 14 = .ok (.invokestatic 108, 3) := by decide +kernel
theorem dc_LB_isValue_17 : decode prog_1_method_37_code 17 = .ok (.ifCond .eq 7, 3) := by decide +kernel
theorem dc_LB_isValue_20 : decode prog_1_method_37_code 20 = .ok (.iconst 1, 1) := by decide +kernel
theorem dc_LB_isValue_21 : decode prog_1_method_37_code 21 = .ok (.goto 4, 3) := by decide +kernel
theorem dc_LB_isValue_24 : decode prog_1_method_37_code 24 = .ok (.iconst 0, 1) := by decide +kernel
theorem dc_LB_isValue_25 : decode prog_1_method_37_code 25 = .ok (.ireturn, 1) := by decide +kernel
def f_LB_isValue (x0 : Int32) : Int32 := (if x0 = (-9999) then 1 else (if (f_LB_isWithin x0 (-1000) 1000) = 0 then 0 else 1))
theorem z_LB_isValue (x0 : Int32) : f_LB_isValue x0 = 0 ∨ f_LB_isValue x0 = 1 := by unfold f_LB_isValue; (repeat' split) <;> first | exact Or.inl rfl | exact Or.inr rfl
theorem c_LB_isValue {G : GC} {d : Nat} {P : PT} {I : MI} {J : MJ} {x0 : Int32} (hq : P (some (.int (f_LB_isValue x0))) I J) : Ct G (d + 1) m_LB_isValue [.int x0] P I J := by
  refine Ct.ofGo [some (.int x0)] (by decide +kernel) rfl (Nat.le_of_ble_eq_true rfl) ?_
  refine g_iload_n dc_LB_isValue_0 rfl rfl rfl ?_
  refine g_sipush (v := (-9999)) dc_LB_isValue_1 rfl (by decide) ?_
  refine g_ic_eq (tgt := 20) dc_LB_isValue_4 rfl (by decide) (fun c1 => ?_) (fun c1 => ?_)
  · refine g_iconst (v := 1) dc_LB_isValue_20 rfl (by decide) ?_
    refine g_goto (tgt := 25) dc_LB_isValue_21 (by decide) ?_
    exact g_zret rfl (by decide) dc_LB_isValue_25 ((show f_LB_isValue x0 = 1 from by unfold f_LB_isValue; rw [if_pos c1]) ▸ hq)
  · refine g_iload_n dc_LB_isValue_7 rfl rfl rfl ?_
    refine g_sipush (v := (-1000)) dc_LB_isValue_8 rfl (by decide) ?_
    refine g_sipush (v := 1000) dc_LB_isValue_11 rfl (by decide) ?_
    refine g_callS (M := m_LB_isWithin) (As := [.int x0, .int (-1000), .int 1000]) (rest := []) ok_LB_isWithin st_LB_isWithin ml_LB_108 rfl rfl (Nat.le_of_ble_eq_true rfl) dc_LB_isValue_14 rfl rOk_fr (c_LB_isWithin ?_)
    show Go G (fr G m_LB_isValue (d + 1) P) 17 [some (.int x0)] [.int (f_LB_isWithin x0 (-1000) 1000)] I J
    refine g_if_eq (tgt := 24) dc_LB_isValue_17 rfl (by decide) (fun c2 => ?_) (fun c2 => ?_)
    · refine g_iconst (v := 0) dc_LB_isValue_24 rfl (by decide) ?_
      exact g_zret rfl (by decide) dc_LB_isValue_25 ((show f_LB_isValue x0 = 0 from by unfold f_LB_isValue; rw [if_neg c1, if_pos c2]) ▸ hq)
    · refine g_iconst (v := 1) dc_LB_isValue_20 rfl (by decide) ?_
      refine g_goto (tgt := 25) dc_LB_isValue_21 (by decide) ?_
      exact g_zret rfl (by decide) dc_LB_isValue_25 ((show f_LB_isValue x0 = 1 from by unfold f_LB_isValue; rw [if_neg c1, if_neg c2]) ▸ hq)
theorem dc_LB_isKind_0 : decode prog_1_method_38_code 0 = .ok (.iload_n 0, 1) := by decide +kernel
theorem dc_LB_isKind_1 : decode prog_1_method_38_code 1 = .ok (.iconst 0, 1) := by decide +kernel
theorem dc_LB_isKind_2 : decode prog_1_method_38_code 2 = .ok (.iconst 3, 1) := by decide +kernel
theorem dc_LB_isKind_3 : decode prog_1_method_38_code 3 = .ok (.invokestatic 108, 3) := by decide +kernel
theorem dc_LB_isKind_6 : decode prog_1_method_38_code 6 = .ok (.ireturn, 1) := by decide +kernel
def f_LB_isKind (x0 : Int32) : Int32 := (f_LB_isWithin x0 0 3)
theorem z_LB_isKind (x0 : Int32) : f_LB_isKind x0 = 0 ∨ f_LB_isKind x0 = 1 := by unfold f_LB_isKind; (repeat' split) <;> first | exact Or.inl rfl | exact Or.inr rfl | exact (z_LB_isWithin _ _ _)
theorem c_LB_isKind {G : GC} {d : Nat} {P : PT} {I : MI} {J : MJ} {x0 : Int32} (hq : P (some (.int (f_LB_isKind x0))) I J) : Ct G (d + 1) m_LB_isKind [.int x0] P I J := by
  refine Ct.ofGo [some (.int x0)] (by decide +kernel) rfl (Nat.le_of_ble_eq_true rfl) ?_
  refine g_iload_n dc_LB_isKind_0 rfl rfl rfl ?_
  refine g_iconst (v := 0) dc_LB_isKind_1 rfl (by decide) ?_
  refine g_iconst (v := 3) dc_LB_isKind_2 rfl (by decide) ?_
  refine g_callS (M := m_LB_isWithin) (As := [.int x0, .int 0, .int 3]) (rest := []) ok_LB_isWithin st_LB_isWithin ml_LB_108 rfl rfl (Nat.le_of_ble_eq_true rfl) dc_LB_isKind_3 rfl rOk_fr (c_LB_isWithin ?_)
  show Go G (fr G m_LB_isKind (d + 1) P) 6 [some (.int x0)] [.int (f_LB_isWithin x0 0 3)] I J
  exact g_zret rfl (z_LB_isWithin _ _ _) dc_LB_isKind_6 (hq)
theorem dc_LB_isCommonKind_0 : decode prog_1_method_39_code 0 = .ok (.iload_n 0, 1) := by decide +kernel
theorem dc_LB_isCommonKind_1 : decode prog_1_method_39_code 1 = .ok (.iconst 1, 1) := by decide +kernel
theorem dc_LB_isCommonKind_2 : decode prog_1_method_39_code 2 = .ok (.if_icmp .eq 8, 3) := by decide +kernel
theorem dc_LB_isCommonKind_5 : decode prog_1_method_39_code 5 = .ok (.iload_n 0, 1) := by decide +kernel
theorem dc_LB_isCommonKind_6 : decode prog_1_method_39_code 6 = .ok (.iconst 3, 1) := by decide +kernel
theorem dc_LB_isCommonKind_7 : decode prog_1_method_39_code 7 = .ok (.if_icmp .ne 7, 3) := by decide +kernel
theorem dc_LB_isCommonKind_10 : decode prog_1_method_39_code 10 = .ok (.iconst 1, 1) := by decide +kernel
theorem dc_LB_isCommonKind_11 : decode prog_1_method_39_code 11 = .ok (.goto 4, 3) := by decide +kernel
theorem dc_LB_isCommonKind_14 : decode prog_1_method_39_code 14 = .ok (.iconst 0, 1) := by decide +kernel
theorem dc_LB_isCommonKind_15 : decode prog_1_method_39_code 15 = .ok (.ireturn, 1) := by decide +kernel
def f_LB_isCommonKind (x0 : Int32) : Int32 := (if x0 = 1 then 1 else (if ¬ x0 = 3 then 0 else 1))
theorem z_LB_isCommonKind (x0 : Int32) : f_LB_isCommonKind x0 = 0 ∨ f_LB_isCommonKind x0 = 1 := by unfold f_LB_isCommonKind; (repeat' split) <;> first | exact Or.inl rfl | exact Or.inr rfl
theorem c_LB_isCommonKind {G : GC} {d : Nat} {P : PT} {I : MI} {J : MJ} {x0 : Int32} (hq : P (some (.int (f_LB_isCommonKind x0))) I J) : Ct G d m_LB_isCommonKind [.int x0] P I J := by
  refine Ct.ofGo [some (.int x0)] (by decide +kernel) rfl (Nat.le_of_ble_eq_true rfl) ?_
  refine g_iload_n dc_LB_isCommonKind_0 rfl rfl rfl ?_
  refine g_iconst (v := 1) dc_LB_isCommonKind_1 rfl (by decide) ?_
  refine g_ic_eq (tgt := 10) dc_LB_isCommonKind_2 rfl (by decide) (fun c1 => ?_) (fun c1 => ?_)
  · refine g_iconst (v := 1) dc_LB_isCommonKind_10 rfl (by decide) ?_
    refine g_goto (tgt := 15) dc_LB_isCommonKind_11 (by decide) ?_
    exact g_zret rfl (by decide) dc_LB_isCommonKind_15 ((show f_LB_isCommonKind x0 = 1 from by unfold f_LB_isCommonKind; rw [if_pos c1]) ▸ hq)
  · refine g_iload_n dc_LB_isCommonKind_5 rfl rfl rfl ?_
    refine g_iconst (v := 3) dc_LB_isCommonKind_6 rfl (by decide) ?_
    refine g_ic_ne (tgt := 14) dc_LB_isCommonKind_7 rfl (by decide) (fun c2 => ?_) (fun c2 => ?_)
    · refine g_iconst (v := 0) dc_LB_isCommonKind_14 rfl (by decide) ?_
      exact g_zret rfl (by decide) dc_LB_isCommonKind_15 ((show f_LB_isCommonKind x0 = 0 from by unfold f_LB_isCommonKind; rw [if_neg c1, if_pos c2]) ▸ hq)
    · refine g_iconst (v := 1) dc_LB_isCommonKind_10 rfl (by decide) ?_
      refine g_goto (tgt := 15) dc_LB_isCommonKind_11 (by decide) ?_
      exact g_zret rfl (by decide) dc_LB_isCommonKind_15 ((show f_LB_isCommonKind x0 = 1 from by unfold f_LB_isCommonKind; rw [if_neg c1, if_neg (not_not_intro c2)]) ▸ hq)
theorem dc_LB_isStretches_0 : decode prog_1_method_40_code 0 = .ok (.iload_n 0, 1) := by decide +kernel
theorem dc_LB_isStretches_1 : decode prog_1_method_40_code 1 = .ok (.iconst 1, 1) := by decide +kernel
theorem dc_LB_isStretches_2 : decode prog_1_method_40_code 2 = .ok (.bipush 6, 2) := by decide +kernel
theorem dc_LB_isStretches_4 : decode prog_1_method_40_code 4 = .ok (.invokestatic 108, 3) := by decide +kernel
theorem dc_LB_isStretches_7 : decode prog_1_method_40_code 7 = .ok (.ireturn, 1) := by decide +kernel
def f_LB_isStretches (x0 : Int32) : Int32 := (f_LB_isWithin x0 1 6)
theorem z_LB_isStretches (x0 : Int32) : f_LB_isStretches x0 = 0 ∨ f_LB_isStretches x0 = 1 := by unfold f_LB_isStretches; (repeat' split) <;> first | exact Or.inl rfl | exact Or.inr rfl | exact (z_LB_isWithin _ _ _)
theorem c_LB_isStretches {G : GC} {d : Nat} {P : PT} {I : MI} {J : MJ} {x0 : Int32} (hq : P (some (.int (f_LB_isStretches x0))) I J) : Ct G (d + 1) m_LB_isStretches [.int x0] P I J := by
  refine Ct.ofGo [some (.int x0)] (by decide +kernel) rfl (Nat.le_of_ble_eq_true rfl) ?_
  refine g_iload_n dc_LB_isStretches_0 rfl rfl rfl ?_
  refine g_iconst (v := 1) dc_LB_isStretches_1 rfl (by decide) ?_
  refine g_bipush (v := 6) dc_LB_isStretches_2 rfl (by decide) ?_
  refine g_callS (M := m_LB_isWithin) (As := [.int x0, .int 1, .int 6]) (rest := []) ok_LB_isWithin st_LB_isWithin ml_LB_108 rfl rfl (Nat.le_of_ble_eq_true rfl) dc_LB_isStretches_4 rfl rOk_fr (c_LB_isWithin ?_)
  show Go G (fr G m_LB_isStretches (d + 1) P) 7 [some (.int x0)] [.int (f_LB_isWithin x0 1 6)] I J
  exact g_zret rfl (z_LB_isWithin _ _ _) dc_LB_isStretches_7 (hq)
theorem dc_LB_isRowSet_0 : decode prog_1_method_41_code 0 = .ok (.iload_n 0, 1) := by decide +kernel
theorem dc_LB_isRowSet_1 : decode prog_1_method_41_code 1 = .ok (.iconst 1, 1) := by decide +kernel
theorem dc_LB_isRowSet_2 : decode prog_1_method_41_code 2 = .ok (.bipush 15, 2) := by decide +kernel
theorem dc_LB_isRowSet_4 : decode prog_1_method_41_code 4 = .ok (.invokestatic 108, 3) := by decide +kernel
theorem dc_LB_isRowSet_7 : decode prog_1_method_41_code 7 = .ok (.ireturn, 1) := by decide +kernel
def f_LB_isRowSet (x0 : Int32) : Int32 := (f_LB_isWithin x0 1 15)
theorem z_LB_isRowSet (x0 : Int32) : f_LB_isRowSet x0 = 0 ∨ f_LB_isRowSet x0 = 1 := by unfold f_LB_isRowSet; (repeat' split) <;> first | exact Or.inl rfl | exact Or.inr rfl | exact (z_LB_isWithin _ _ _)
theorem c_LB_isRowSet {G : GC} {d : Nat} {P : PT} {I : MI} {J : MJ} {x0 : Int32} (hq : P (some (.int (f_LB_isRowSet x0))) I J) : Ct G (d + 1) m_LB_isRowSet [.int x0] P I J := by
  refine Ct.ofGo [some (.int x0)] (by decide +kernel) rfl (Nat.le_of_ble_eq_true rfl) ?_
  refine g_iload_n dc_LB_isRowSet_0 rfl rfl rfl ?_
  refine g_iconst (v := 1) dc_LB_isRowSet_1 rfl (by decide) ?_
  refine g_bipush (v := 15) dc_LB_isRowSet_2 rfl (by decide) ?_
  refine g_callS (M := m_LB_isWithin) (As := [.int x0, .int 1, .int 15]) (rest := []) ok_LB_isWithin st_LB_isWithin ml_LB_108 rfl rfl (Nat.le_of_ble_eq_true rfl) dc_LB_isRowSet_4 rfl rOk_fr (c_LB_isWithin ?_)
  show Go G (fr G m_LB_isRowSet (d + 1) P) 7 [some (.int x0)] [.int (f_LB_isWithin x0 1 15)] I J
  exact g_zret rfl (z_LB_isWithin _ _ _) dc_LB_isRowSet_7 (hq)
theorem dc_LB_isSheet_0 : decode prog_1_method_42_code 0 = .ok (.iload_n 0, 1) := by decide +kernel
theorem dc_LB_isSheet_1 : decode prog_1_method_42_code 1 = .ok (.iconst 0, 1) := by decide +kernel
theorem dc_LB_isSheet_2 : decode prog_1_method_42_code 2 = .ok (.iconst 3, 1) := by decide +kernel
theorem dc_LB_isSheet_3 : decode prog_1_method_42_code 3 = .ok (.invokestatic 108, 3) := by decide +kernel
theorem dc_LB_isSheet_6 : decode prog_1_method_42_code 6 = .ok (.ireturn, 1) := by decide +kernel
def f_LB_isSheet (x0 : Int32) : Int32 := (f_LB_isWithin x0 0 3)
theorem z_LB_isSheet (x0 : Int32) : f_LB_isSheet x0 = 0 ∨ f_LB_isSheet x0 = 1 := by unfold f_LB_isSheet; (repeat' split) <;> first | exact Or.inl rfl | exact Or.inr rfl | exact (z_LB_isWithin _ _ _)
theorem c_LB_isSheet {G : GC} {d : Nat} {P : PT} {I : MI} {J : MJ} {x0 : Int32} (hq : P (some (.int (f_LB_isSheet x0))) I J) : Ct G (d + 1) m_LB_isSheet [.int x0] P I J := by
  refine Ct.ofGo [some (.int x0)] (by decide +kernel) rfl (Nat.le_of_ble_eq_true rfl) ?_
  refine g_iload_n dc_LB_isSheet_0 rfl rfl rfl ?_
  refine g_iconst (v := 0) dc_LB_isSheet_1 rfl (by decide) ?_
  refine g_iconst (v := 3) dc_LB_isSheet_2 rfl (by decide) ?_
  refine g_callS (M := m_LB_isWithin) (As := [.int x0, .int 0, .int 3]) (rest := []) ok_LB_isWithin st_LB_isWithin ml_LB_108 rfl rfl (Nat.le_of_ble_eq_true rfl) dc_LB_isSheet_3 rfl rOk_fr (c_LB_isWithin ?_)
  show Go G (fr G m_LB_isSheet (d + 1) P) 6 [some (.int x0)] [.int (f_LB_isWithin x0 0 3)] I J
  exact g_zret rfl (z_LB_isWithin _ _ _) dc_LB_isSheet_6 (hq)
theorem dc_LB_isType_0 : decode prog_1_method_43_code 0 = .ok (.iload_n 0, 1) := by decide +kernel
theorem dc_LB_isType_1 : decode prog_1_method_43_code 1 = .ok (.iconst 0, 1) := by decide +kernel
theorem dc_LB_isType_2 : decode prog_1_method_43_code 2 = .ok (.iconst 2, 1) := by decide +kernel
theorem dc_LB_isType_3 : decode prog_1_method_43_code 3 = .ok (.invokestatic 108, 3) := by decide +kernel
theorem dc_LB_isType_6 : decode prog_1_method_43_code 6 = .ok (.ireturn, 1) := by decide +kernel
def f_LB_isType (x0 : Int32) : Int32 := (f_LB_isWithin x0 0 2)
theorem z_LB_isType (x0 : Int32) : f_LB_isType x0 = 0 ∨ f_LB_isType x0 = 1 := by unfold f_LB_isType; (repeat' split) <;> first | exact Or.inl rfl | exact Or.inr rfl | exact (z_LB_isWithin _ _ _)
theorem c_LB_isType {G : GC} {d : Nat} {P : PT} {I : MI} {J : MJ} {x0 : Int32} (hq : P (some (.int (f_LB_isType x0))) I J) : Ct G (d + 1) m_LB_isType [.int x0] P I J := by
  refine Ct.ofGo [some (.int x0)] (by decide +kernel) rfl (Nat.le_of_ble_eq_true rfl) ?_
  refine g_iload_n dc_LB_isType_0 rfl rfl rfl ?_
  refine g_iconst (v := 0) dc_LB_isType_1 rfl (by decide) ?_
  refine g_iconst (v := 2) dc_LB_isType_2 rfl (by decide) ?_
  refine g_callS (M := m_LB_isWithin) (As := [.int x0, .int 0, .int 2]) (rest := []) ok_LB_isWithin st_LB_isWithin ml_LB_108 rfl rfl (Nat.le_of_ble_eq_true rfl) dc_LB_isType_3 rfl rOk_fr (c_LB_isWithin ?_)
  show Go G (fr G m_LB_isType (d + 1) P) 6 [some (.int x0)] [.int (f_LB_isWithin x0 0 2)] I J
  exact g_zret rfl (z_LB_isWithin _ _ _) dc_LB_isType_6 (hq)
theorem dc_LB_isLimit_0 : decode prog_1_method_44_code 0 = .ok (.iload_n 0, 1) := by decide +kernel
theorem dc_LB_isLimit_1 : decode prog_1_method_44_code 1 = .ok (.iconst 1, 1) := by decide +kernel
theorem dc_LB_isLimit_2 : decode prog_1_method_44_code 2 = .ok (.ldc_w 309, 3) := by decide +kernel
theorem dc_LB_isLimit_5 : decode prog_1_method_44_code 5 = .ok (.invokestatic 108, 3) := by decide +kernel
theorem dc_LB_isLimit_8 : decode prog_1_method_44_code 8 = .ok (.ireturn, 1) := by decide +kernel
def f_LB_isLimit (x0 : Int32) : Int32 := (f_LB_isWithin x0 1 100000)
theorem z_LB_isLimit (x0 : Int32) : f_LB_isLimit x0 = 0 ∨ f_LB_isLimit x0 = 1 := by unfold f_LB_isLimit; (repeat' split) <;> first | exact Or.inl rfl | exact Or.inr rfl | exact (z_LB_isWithin _ _ _)
theorem c_LB_isLimit {G : GC} {d : Nat} {P : PT} {I : MI} {J : MJ} {x0 : Int32} (hq : P (some (.int (f_LB_isLimit x0))) I J) : Ct G (d + 1) m_LB_isLimit [.int x0] P I J := by
  refine Ct.ofGo [some (.int x0)] (by decide +kernel) rfl (Nat.le_of_ble_eq_true rfl) ?_
  refine g_iload_n dc_LB_isLimit_0 rfl rfl rfl ?_
  refine g_iconst (v := 1) dc_LB_isLimit_1 rfl (by decide) ?_
  refine g_ldcw (v := 100000) kl_LB_309 dc_LB_isLimit_2 rfl ?_
  refine g_callS (M := m_LB_isWithin) (As := [.int x0, .int 1, .int 100000]) (rest := []) ok_LB_isWithin st_LB_isWithin ml_LB_108 rfl rfl (Nat.le_of_ble_eq_true rfl) dc_LB_isLimit_5 rfl rOk_fr (c_LB_isWithin ?_)
  show Go G (fr G m_LB_isLimit (d + 1) P) 8 [some (.int x0)] [.int (f_LB_isWithin x0 1 100000)] I J
  exact g_zret rfl (z_LB_isWithin _ _ _) dc_LB_isLimit_8 (hq)
theorem dc_LB_isWatch_0 : decode prog_1_method_45_code 0 = .ok (.iload_n 0, 1) := by decide +kernel
theorem dc_LB_isWatch_1 : decode prog_1_method_45_code 1 = .ok (.invokestatic 69, 3) := by decide +kernel
theorem dc_LB_isWatch_4 : decode prog_1_method_45_code 4 = .ok (.ifCond .eq 40, 3) := by decide +kernel
theorem dc_LB_isWatch_7 : decode prog_1_method_45_code 7 = .ok (.iload_n 1, 1) := by decide +kernel
theorem dc_LB_isWatch_8 : decode prog_1_method_45_code 8 = .ok (.sipush (-1000), 3) := by decide +kernel
theorem dc_LB_isWatch_11 : decode prog_1_method_45_code 11 = .ok (.sipush 1000, 3) := by decide +kernel
theorem dc_LB_isWatch_14 : decode prog_1_method_45_code 14 = .ok (.invokestatic 108, 3) := by decide +kernel
theorem dc_LB_isWatch_17 : decode prog_1_method_45_code 17 = .ok (.ifCond .eq 27, 3) := by decide +kernel
theorem dc_LB_isWatch_20 : decode prog_1_method_45_code 20 = .ok (.iload_n 2, 1) := by decide +kernel
theorem dc_LB_isWatch_21 : decode prog_1_method_45_code 21 = .ok (.iconst 0, 1) := by decide +kernel
theorem dc_LB_isWatch_22 : decode prog_1_method_45_code 22 = .ok (.sipush 1000, 3) := by decide +kernel
theorem dc_LB_isWatch_25 : decode prog_1_method_45_code 25 = .ok (.invokestatic 108, 3) := by decide +kernel
theorem dc_LB_isWatch_28 : decode prog_1_method_45_code 28 = .ok (.ifCond .eq 16, 3) := by decide +kernel
theorem dc_LB_isWatch_31 : decode prog_1_method_45_code 31 = .ok (.iload_n 3, 1) := by decide +kernel
theorem dc_LB_isWatch_32 : decode prog_1_method_45_code 32 = .ok (.iconst 0, 1) := by decide +kernel
theorem dc_LB_isWatch_33 : decode prog_1_method_45_code 33 = .ok (.iconst 1, 1) := by decide +kernel
theorem dc_LB_isWatch_34 : decode prog_1_method_45_code 34 = .ok (.invokestatic 108, 3) := by decide +kernel
theorem dc_LB_isWatch_37 : decode prog_1_method_45_code 37 = .ok (.ifCond .eq 7, 3) := by decide +kernel
theorem dc_LB_isWatch_40 : decode prog_1_method_45_code 40 = .ok (.iconst 1, 1) := by decide +kernel
theorem dc_LB_isWatch_41 : decode prog_1_method_45_code 41 = .ok (.goto 4, 3) := by decide +kernel
theorem dc_LB_isWatch_44 : decode prog_1_method_45_code 44 = .ok (.iconst 0, 1) := by decide +kernel
theorem dc_LB_isWatch_45 : decode prog_1_method_45_code 45 = .ok (.ireturn, 1) := by decide +kernel
def f_LB_isWatch (x0 : Int32) (x1 : Int32) (x2 : Int32) (x3 : Int32) : Int32 := (if (f_LB_isRow x0) = 0 then 0 else (if (f_LB_isWithin x1 (-1000) 1000) = 0 then 0 else (if (f_LB_isWithin x2 0 1000) = 0 then 0 else (if (f_LB_isWithin x3 0 1) = 0 then 0 else 1))))
theorem z_LB_isWatch (x0 : Int32) (x1 : Int32) (x2 : Int32) (x3 : Int32) : f_LB_isWatch x0 x1 x2 x3 = 0 ∨ f_LB_isWatch x0 x1 x2 x3 = 1 := by unfold f_LB_isWatch; (repeat' split) <;> first | exact Or.inl rfl | exact Or.inr rfl
theorem c_LB_isWatch {G : GC} {d : Nat} {P : PT} {I : MI} {J : MJ} {x0 : Int32} {x1 : Int32} {x2 : Int32} {x3 : Int32} (hq : P (some (.int (f_LB_isWatch x0 x1 x2 x3))) I J) : Ct G (d + 2) m_LB_isWatch [.int x0, .int x1, .int x2, .int x3] P I J := by
  refine Ct.ofGo [some (.int x0), some (.int x1), some (.int x2), some (.int x3)] (by decide +kernel) rfl (Nat.le_of_ble_eq_true rfl) ?_
  refine g_iload_n dc_LB_isWatch_0 rfl rfl rfl ?_
  refine g_callS (M := m_LB_isRow) (As := [.int x0]) (rest := []) ok_LB_isRow st_LB_isRow ml_LB_69 rfl rfl (Nat.le_of_ble_eq_true rfl) dc_LB_isWatch_1 rfl rOk_fr (c_LB_isRow ?_)
  show Go G (fr G m_LB_isWatch (d + 2) P) 4 [some (.int x0), some (.int x1), some (.int x2), some (.int x3)] [.int (f_LB_isRow x0)] I J
  refine g_if_eq (tgt := 44) dc_LB_isWatch_4 rfl (by decide) (fun c1 => ?_) (fun c1 => ?_)
  · refine g_iconst (v := 0) dc_LB_isWatch_44 rfl (by decide) ?_
    exact g_zret rfl (by decide) dc_LB_isWatch_45 ((show f_LB_isWatch x0 x1 x2 x3 = 0 from by unfold f_LB_isWatch; rw [if_pos c1]) ▸ hq)
  · refine g_iload_n dc_LB_isWatch_7 rfl rfl rfl ?_
    refine g_sipush (v := (-1000)) dc_LB_isWatch_8 rfl (by decide) ?_
    refine g_sipush (v := 1000) dc_LB_isWatch_11 rfl (by decide) ?_
    refine g_callS (M := m_LB_isWithin) (As := [.int x1, .int (-1000), .int 1000]) (rest := []) ok_LB_isWithin st_LB_isWithin ml_LB_108 rfl rfl (Nat.le_of_ble_eq_true rfl) dc_LB_isWatch_14 rfl rOk_fr (c_LB_isWithin ?_)
    show Go G (fr G m_LB_isWatch (d + 2) P) 17 [some (.int x0), some (.int x1), some (.int x2), some (.int x3)] [.int (f_LB_isWithin x1 (-1000) 1000)] I J
    refine g_if_eq (tgt := 44) dc_LB_isWatch_17 rfl (by decide) (fun c2 => ?_) (fun c2 => ?_)
    · refine g_iconst (v := 0) dc_LB_isWatch_44 rfl (by decide) ?_
      exact g_zret rfl (by decide) dc_LB_isWatch_45 ((show f_LB_isWatch x0 x1 x2 x3 = 0 from by unfold f_LB_isWatch; rw [if_neg c1, if_pos c2]) ▸ hq)
    · refine g_iload_n dc_LB_isWatch_20 rfl rfl rfl ?_
      refine g_iconst (v := 0) dc_LB_isWatch_21 rfl (by decide) ?_
      refine g_sipush (v := 1000) dc_LB_isWatch_22 rfl (by decide) ?_
      refine g_callS (M := m_LB_isWithin) (As := [.int x2, .int 0, .int 1000]) (rest := []) ok_LB_isWithin st_LB_isWithin ml_LB_108 rfl rfl (Nat.le_of_ble_eq_true rfl) dc_LB_isWatch_25 rfl rOk_fr (c_LB_isWithin ?_)
      show Go G (fr G m_LB_isWatch (d + 2) P) 28 [some (.int x0), some (.int x1), some (.int x2), some (.int x3)] [.int (f_LB_isWithin x2 0 1000)] I J
      refine g_if_eq (tgt := 44) dc_LB_isWatch_28 rfl (by decide) (fun c3 => ?_) (fun c3 => ?_)
      · refine g_iconst (v := 0) dc_LB_isWatch_44 rfl (by decide) ?_
        exact g_zret rfl (by decide) dc_LB_isWatch_45 ((show f_LB_isWatch x0 x1 x2 x3 = 0 from by unfold f_LB_isWatch; rw [if_neg c1, if_neg c2, if_pos c3]) ▸ hq)
      · refine g_iload_n dc_LB_isWatch_31 rfl rfl rfl ?_
        refine g_iconst (v := 0) dc_LB_isWatch_32 rfl (by decide) ?_
        refine g_iconst (v := 1) dc_LB_isWatch_33 rfl (by decide) ?_
        refine g_callS (M := m_LB_isWithin) (As := [.int x3, .int 0, .int 1]) (rest := []) ok_LB_isWithin st_LB_isWithin ml_LB_108 rfl rfl (Nat.le_of_ble_eq_true rfl) dc_LB_isWatch_34 rfl rOk_fr (c_LB_isWithin ?_)
        show Go G (fr G m_LB_isWatch (d + 2) P) 37 [some (.int x0), some (.int x1), some (.int x2), some (.int x3)] [.int (f_LB_isWithin x3 0 1)] I J
        refine g_if_eq (tgt := 44) dc_LB_isWatch_37 rfl (by decide) (fun c4 => ?_) (fun c4 => ?_)
        · refine g_iconst (v := 0) dc_LB_isWatch_44 rfl (by decide) ?_
          exact g_zret rfl (by decide) dc_LB_isWatch_45 ((show f_LB_isWatch x0 x1 x2 x3 = 0 from by unfold f_LB_isWatch; rw [if_neg c1, if_neg c2, if_neg c3, if_pos c4]) ▸ hq)
        · refine g_iconst (v := 1) dc_LB_isWatch_40 rfl (by decide) ?_
          refine g_goto (tgt := 45) dc_LB_isWatch_41 (by decide) ?_
          exact g_zret rfl (by decide) dc_LB_isWatch_45 ((show f_LB_isWatch x0 x1 x2 x3 = 1 from by unfold f_LB_isWatch; rw [if_neg c1, if_neg c2, if_neg c3, if_neg c4]) ▸ hq)
theorem dc_LB_asLong_0 : decode prog_1_method_47_code 0 = .ok (.ldc2_w 310, 3) := by decide +kernel
theorem dc_LB_asLong_3 : decode prog_1_method_47_code 3 = .ok (.iload_n 0, 1) := by decide +kernel
theorem dc_LB_asLong_4 : decode prog_1_method_47_code 4 = .ok (.i2l, 1) := by decide +kernel
theorem dc_LB_asLong_5 : decode prog_1_method_47_code 5 = .ok (.lsub, 1) := by decide +kernel
theorem dc_LB_asLong_6 : decode prog_1_method_47_code 6 = .ok (.lreturn, 1) := by decide +kernel
def f_LB_asLong (x0 : Int32) : Int64 := ((-9223372036854775808) - (Int32.toInt64 x0))
theorem c_LB_asLong {G : GC} {d : Nat} {P : PT} {I : MI} {J : MJ} {x0 : Int32} (hq : P (some (.long (f_LB_asLong x0))) I J) : Ct G d m_LB_asLong [.int x0] P I J := by
  refine Ct.ofGo [some (.int x0)] (by decide +kernel) rfl (Nat.le_of_ble_eq_true rfl) ?_
  refine g_ldc2 (v := (-9223372036854775808)) kl_LB_310 dc_LB_asLong_0 rfl ?_
  refine g_iload_n dc_LB_asLong_3 rfl rfl rfl ?_
  refine g_i2l dc_LB_asLong_4 rfl ?_
  refine g_lsub dc_LB_asLong_5 rfl ?_
  exact g_lret rfl dc_LB_asLong_6 (hq)
theorem dc_CU_at_0 : decode prog_5_method_7_code 0 = .ok (.iload_n 0, 1) := by decide +kernel
theorem dc_CU_at_1 : decode prog_5_method_7_code 1 = .ok (.sipush 287, 3) := by decide +kernel
theorem dc_CU_at_4 : decode prog_5_method_7_code 4 = .ok (.imul, 1) := by decide +kernel
theorem dc_CU_at_5 : decode prog_5_method_7_code 5 = .ok (.iload_n 1, 1) := by decide +kernel
theorem dc_CU_at_6 : decode prog_5_method_7_code 6 = .ok (.bipush 41, 2) := by decide +kernel
theorem dc_CU_at_8 : decode prog_5_method_7_code 8 = .ok (.imul, 1) := by decide +kernel
theorem dc_CU_at_9 : decode prog_5_method_7_code 9 = .ok (.iadd, 1) := by decide +kernel
theorem dc_CU_at_10 : decode prog_5_method_7_code 10 = .ok (.iload_n 2, 1) := by decide +kernel
theorem dc_CU_at_11 : decode prog_5_method_7_code 11 = .ok (.iadd, 1) := by decide +kernel
theorem dc_CU_at_12 : decode prog_5_method_7_code 12 = .ok (.ireturn, 1) := by decide +kernel
def f_CU_at (x0 : Int32) (x1 : Int32) (x2 : Int32) : Int32 := (((x0 * 287) + (x1 * 41)) + x2)
theorem c_CU_at {G : GC} {d : Nat} {P : PT} {I : MI} {J : MJ} {x0 : Int32} {x1 : Int32} {x2 : Int32} (hq : P (some (.int (f_CU_at x0 x1 x2))) I J) : Ct G d m_CU_at [.int x0, .int x1, .int x2] P I J := by
  refine Ct.ofGo [some (.int x0), some (.int x1), some (.int x2)] (by decide +kernel) rfl (Nat.le_of_ble_eq_true rfl) ?_
  refine g_iload_n dc_CU_at_0 rfl rfl rfl ?_
  refine g_sipush (v := 287) dc_CU_at_1 rfl (by decide) ?_
  refine g_imul dc_CU_at_4 rfl ?_
  refine g_iload_n dc_CU_at_5 rfl rfl rfl ?_
  refine g_bipush (v := 41) dc_CU_at_6 rfl (by decide) ?_
  refine g_imul dc_CU_at_8 rfl ?_
  refine g_iadd dc_CU_at_9 rfl ?_
  refine g_iload_n dc_CU_at_10 rfl rfl rfl ?_
  refine g_iadd dc_CU_at_11 rfl ?_
  exact g_iret rfl dc_CU_at_12 (hq)
theorem dc_JM_max_II_0 : decode prog_15_method_65_code 0 = .ok (.iload_n 0, 1) := by decide +kernel
theorem dc_JM_max_II_1 : decode prog_15_method_65_code 1 = .ok (.iload_n 1, 1) := by decide +kernel
theorem dc_JM_max_II_2 : decode prog_15_method_65_code 2 = .ok (.if_icmp .lt 7, 3) := by decide +kernel
theorem dc_JM_max_II_5 : decode prog_15_method_65_code 5 = .ok (.iload_n 0, 1) := by decide +kernel
theorem dc_JM_max_II_6 : decode prog_15_method_65_code 6 = .ok (.goto 4, 3) := by decide +kernel
theorem dc_JM_max_II_9 : decode prog_15_method_65_code 9 = .ok (.iload_n 1, 1) := by decide +kernel
theorem dc_JM_max_II_10 : decode prog_15_method_65_code 10 = .ok (.ireturn, 1) := by decide +kernel
def f_JM_max_II (x0 : Int32) (x1 : Int32) : Int32 := (if x0 < x1 then x1 else x0)
theorem c_JM_max_II {G : GC} {d : Nat} {P : PT} {I : MI} {J : MJ} {x0 : Int32} {x1 : Int32} (hq : P (some (.int (f_JM_max_II x0 x1))) I J) : Ct G d m_JM_max_II [.int x0, .int x1] P I J := by
  refine Ct.ofGo [some (.int x0), some (.int x1)] (by decide +kernel) rfl (Nat.le_of_ble_eq_true rfl) ?_
  refine g_iload_n dc_JM_max_II_0 rfl rfl rfl ?_
  refine g_iload_n dc_JM_max_II_1 rfl rfl rfl ?_
  refine g_ic_lt (tgt := 9) dc_JM_max_II_2 rfl (by decide) (fun c1 => ?_) (fun c1 => ?_)
  · refine g_iload_n dc_JM_max_II_9 rfl rfl rfl ?_
    exact g_iret rfl dc_JM_max_II_10 ((show f_JM_max_II x0 x1 = x1 from by unfold f_JM_max_II; rw [if_pos c1]) ▸ hq)
  · refine g_iload_n dc_JM_max_II_5 rfl rfl rfl ?_
    refine g_goto (tgt := 10) dc_JM_max_II_6 (by decide) ?_
    exact g_iret rfl dc_JM_max_II_10 ((show f_JM_max_II x0 x1 = x0 from by unfold f_JM_max_II; rw [if_neg c1]) ▸ hq)
theorem dc_JM_min_II_0 : decode prog_15_method_69_code 0 = .ok (.iload_n 0, 1) := by decide +kernel
theorem dc_JM_min_II_1 : decode prog_15_method_69_code 1 = .ok (.iload_n 1, 1) := by decide +kernel
theorem dc_JM_min_II_2 : decode prog_15_method_69_code 2 = .ok (.if_icmp .gt 7, 3) := by decide +kernel
theorem dc_JM_min_II_5 : decode prog_15_method_69_code 5 = .ok (.iload_n 0, 1) := by decide +kernel
theorem dc_JM_min_II_6 : decode prog_15_method_69_code 6 = .ok (.goto 4, 3) := by decide +kernel
theorem dc_JM_min_II_9 : decode prog_15_method_69_code 9 = .ok (.iload_n 1, 1) := by decide +kernel
theorem dc_JM_min_II_10 : decode prog_15_method_69_code 10 = .ok (.ireturn, 1) := by decide +kernel
def f_JM_min_II (x0 : Int32) (x1 : Int32) : Int32 := (if x1 < x0 then x1 else x0)
theorem c_JM_min_II {G : GC} {d : Nat} {P : PT} {I : MI} {J : MJ} {x0 : Int32} {x1 : Int32} (hq : P (some (.int (f_JM_min_II x0 x1))) I J) : Ct G d m_JM_min_II [.int x0, .int x1] P I J := by
  refine Ct.ofGo [some (.int x0), some (.int x1)] (by decide +kernel) rfl (Nat.le_of_ble_eq_true rfl) ?_
  refine g_iload_n dc_JM_min_II_0 rfl rfl rfl ?_
  refine g_iload_n dc_JM_min_II_1 rfl rfl rfl ?_
  refine g_ic_gt (tgt := 9) dc_JM_min_II_2 rfl (by decide) (fun c1 => ?_) (fun c1 => ?_)
  · refine g_iload_n dc_JM_min_II_9 rfl rfl rfl ?_
    exact g_iret rfl dc_JM_min_II_10 ((show f_JM_min_II x0 x1 = x1 from by unfold f_JM_min_II; rw [if_pos c1]) ▸ hq)
  · refine g_iload_n dc_JM_min_II_5 rfl rfl rfl ?_
    refine g_goto (tgt := 10) dc_JM_min_II_6 (by decide) ?_
    exact g_iret rfl dc_JM_min_II_10 ((show f_JM_min_II x0 x1 = x0 from by unfold f_JM_min_II; rw [if_neg c1]) ▸ hq)
theorem dc_JM_abs_I_0 : decode prog_15_method_59_code 0 = .ok (.iload_n 0, 1) := by decide +kernel
theorem dc_JM_abs_I_1 : decode prog_15_method_59_code 1 = .ok (.ifCond .ge 8, 3) := by decide +kernel
theorem dc_JM_abs_I_4 : decode prog_15_method_59_code 4 = .ok (.iload_n 0, 1) := by decide +kernel
theorem dc_JM_abs_I_5 : decode prog_15_method_59_code 5 = .ok (.ineg, 1) := by decide +kernel
theorem dc_JM_abs_I_6 : decode prog_15_method_59_code 6 = .ok (.goto 4, 3) := by decide +kernel
theorem dc_JM_abs_I_9 : decode prog_15_method_59_code 9 = .ok (.iload_n 0, 1) := by decide +kernel
theorem dc_JM_abs_I_10 : decode prog_15_method_59_code 10 = .ok (.ireturn, 1) := by decide +kernel
def f_JM_abs_I (x0 : Int32) : Int32 := (if 0 ≤ x0 then x0 else (0 - x0))
theorem c_JM_abs_I {G : GC} {d : Nat} {P : PT} {I : MI} {J : MJ} {x0 : Int32} (hq : P (some (.int (f_JM_abs_I x0))) I J) : Ct G d m_JM_abs_I [.int x0] P I J := by
  refine Ct.ofGo [some (.int x0)] (by decide +kernel) rfl (Nat.le_of_ble_eq_true rfl) ?_
  refine g_iload_n dc_JM_abs_I_0 rfl rfl rfl ?_
  refine g_if_ge (tgt := 9) dc_JM_abs_I_1 rfl (by decide) (fun c1 => ?_) (fun c1 => ?_)
  · refine g_iload_n dc_JM_abs_I_9 rfl rfl rfl ?_
    exact g_iret rfl dc_JM_abs_I_10 ((show f_JM_abs_I x0 = x0 from by unfold f_JM_abs_I; rw [if_pos c1]) ▸ hq)
  · refine g_iload_n dc_JM_abs_I_4 rfl rfl rfl ?_
    refine g_ineg dc_JM_abs_I_5 rfl ?_
    refine g_goto (tgt := 10) dc_JM_abs_I_6 (by decide) ?_
    exact g_iret rfl dc_JM_abs_I_10 ((show f_JM_abs_I x0 = (0 - x0) from by unfold f_JM_abs_I; rw [if_neg c1]) ▸ hq)
theorem dc_JM_max_JJ_0 : decode prog_15_method_66_code 0 = .ok (.lload_n 0, 1) := by decide +kernel
theorem dc_JM_max_JJ_1 : decode prog_15_method_66_code 1 = .ok (.lload_n 2, 1) := by decide +kernel
theorem dc_JM_max_JJ_2 : decode prog_15_method_66_code 2 = .ok (.lcmp, 1) := by decide +kernel
theorem dc_JM_max_JJ_3 : decode prog_15_method_66_code 3 = .ok (.ifCond .lt 7, 3) := by decide +kernel
theorem dc_JM_max_JJ_6 : decode prog_15_method_66_code 6 = .ok (.lload_n 0, 1) := by decide +kernel
theorem dc_JM_max_JJ_7 : decode prog_15_method_66_code 7 = .ok (.goto 4, 3) := by decide +kernel
theorem dc_JM_max_JJ_10 : decode prog_15_method_66_code 10 = .ok (.lload_n 2, 1) := by decide +kernel
theorem dc_JM_max_JJ_11 : decode prog_15_method_66_code 11 = .ok (.lreturn, 1) := by decide +kernel
def f_JM_max_JJ (l0 : Int64) (l2 : Int64) : Int64 := (if l0 < l2 then l2 else l0)
theorem c_JM_max_JJ {G : GC} {d : Nat} {P : PT} {I : MI} {J : MJ} {l0 : Int64} {l2 : Int64} (hq : P (some (.long (f_JM_max_JJ l0 l2))) I J) : Ct G d m_JM_max_JJ [.long l0, .long l2] P I J := by
  refine Ct.ofGo [some (.long l0), none, some (.long l2), none] (by decide +kernel) rfl (Nat.le_of_ble_eq_true rfl) ?_
  refine g_lload_n dc_JM_max_JJ_0 rfl rfl rfl ?_
  refine g_lload_n dc_JM_max_JJ_1 rfl rfl rfl ?_
  refine g_lc_lt (tgt := 10) dc_JM_max_JJ_2 rfl dc_JM_max_JJ_3 rfl (by decide) (fun c1 => ?_) (fun c1 => ?_)
  · refine g_lload_n dc_JM_max_JJ_10 rfl rfl rfl ?_
    exact g_lret rfl dc_JM_max_JJ_11 ((show f_JM_max_JJ l0 l2 = l2 from by unfold f_JM_max_JJ; rw [if_pos c1]) ▸ hq)
  · refine g_lload_n dc_JM_max_JJ_6 rfl rfl rfl ?_
    refine g_goto (tgt := 11) dc_JM_max_JJ_7 (by decide) ?_
    exact g_lret rfl dc_JM_max_JJ_11 ((show f_JM_max_JJ l0 l2 = l0 from by unfold f_JM_max_JJ; rw [if_neg c1]) ▸ hq)
theorem dc_JM_min_JJ_0 : decode prog_15_method_70_code 0 = .ok (.lload_n 0, 1) := by decide +kernel
theorem dc_JM_min_JJ_1 : decode prog_15_method_70_code 1 = .ok (.lload_n 2, 1) := by decide +kernel
theorem dc_JM_min_JJ_2 : decode prog_15_method_70_code 2 = .ok (.lcmp, 1) := by decide +kernel
theorem dc_JM_min_JJ_3 : decode prog_15_method_70_code 3 = .ok (.ifCond .gt 7, 3) := by decide +kernel
theorem dc_JM_min_JJ_6 : decode prog_15_method_70_code 6 = .ok (.lload_n 0, 1) := by decide +kernel
theorem dc_JM_min_JJ_7 : decode prog_15_method_70_code 7 = .ok (.goto 4, 3) := by decide +kernel
theorem dc_JM_min_JJ_10 : decode prog_15_method_70_code 10 = .ok (.lload_n 2, 1) := by decide +kernel
theorem dc_JM_min_JJ_11 : decode prog_15_method_70_code 11 = .ok (.lreturn, 1) := by decide +kernel
def f_JM_min_JJ (l0 : Int64) (l2 : Int64) : Int64 := (if l2 < l0 then l2 else l0)
theorem c_JM_min_JJ {G : GC} {d : Nat} {P : PT} {I : MI} {J : MJ} {l0 : Int64} {l2 : Int64} (hq : P (some (.long (f_JM_min_JJ l0 l2))) I J) : Ct G d m_JM_min_JJ [.long l0, .long l2] P I J := by
  refine Ct.ofGo [some (.long l0), none, some (.long l2), none] (by decide +kernel) rfl (Nat.le_of_ble_eq_true rfl) ?_
  refine g_lload_n dc_JM_min_JJ_0 rfl rfl rfl ?_
  refine g_lload_n dc_JM_min_JJ_1 rfl rfl rfl ?_
  refine g_lc_gt (tgt := 10) dc_JM_min_JJ_2 rfl dc_JM_min_JJ_3 rfl (by decide) (fun c1 => ?_) (fun c1 => ?_)
  · refine g_lload_n dc_JM_min_JJ_10 rfl rfl rfl ?_
    exact g_lret rfl dc_JM_min_JJ_11 ((show f_JM_min_JJ l0 l2 = l2 from by unfold f_JM_min_JJ; rw [if_pos c1]) ▸ hq)
  · refine g_lload_n dc_JM_min_JJ_6 rfl rfl rfl ?_
    refine g_goto (tgt := 11) dc_JM_min_JJ_7 (by decide) ?_
    exact g_lret rfl dc_JM_min_JJ_11 ((show f_JM_min_JJ l0 l2 = l0 from by unfold f_JM_min_JJ; rw [if_neg c1]) ▸ hq)
theorem dc_JM_abs_J_0 : decode prog_15_method_61_code 0 = .ok (.lload_n 0, 1) := by decide +kernel
theorem dc_JM_abs_J_1 : decode prog_15_method_61_code 1 = .ok (.lconst 0, 1) := by decide +kernel
theorem dc_JM_abs_J_2 : decode prog_15_method_61_code 2 = .ok (.lcmp, 1) := by decide +kernel
theorem dc_JM_abs_J_3 : decode prog_15_method_61_code 3 = .ok (.ifCond .ge 8, 3) := by decide +kernel
theorem dc_JM_abs_J_6 : decode prog_15_method_61_code 6 = .ok (.lload_n 0, 1) := by decide +kernel
theorem dc_JM_abs_J_7 : decode prog_15_method_61_code 7 = .ok (.lneg, 1) := by decide +kernel
theorem dc_JM_abs_J_8 : decode prog_15_method_61_code 8 = .ok (.goto 4, 3) := by decide +kernel
theorem dc_JM_abs_J_11 : decode prog_15_method_61_code 11 = .ok (.lload_n 0, 1) := by decide +kernel
theorem dc_JM_abs_J_12 : decode prog_15_method_61_code 12 = .ok (.lreturn, 1) := by decide +kernel
def f_JM_abs_J (l0 : Int64) : Int64 := (if 0 ≤ l0 then l0 else (0 - l0))
theorem c_JM_abs_J {G : GC} {d : Nat} {P : PT} {I : MI} {J : MJ} {l0 : Int64} (hq : P (some (.long (f_JM_abs_J l0))) I J) : Ct G d m_JM_abs_J [.long l0] P I J := by
  refine Ct.ofGo [some (.long l0), none] (by decide +kernel) rfl (Nat.le_of_ble_eq_true rfl) ?_
  refine g_lload_n dc_JM_abs_J_0 rfl rfl rfl ?_
  refine g_lconst (v := 0) dc_JM_abs_J_1 rfl (by decide) ?_
  refine g_lc_ge (tgt := 11) dc_JM_abs_J_2 rfl dc_JM_abs_J_3 rfl (by decide) (fun c1 => ?_) (fun c1 => ?_)
  · refine g_lload_n dc_JM_abs_J_11 rfl rfl rfl ?_
    exact g_lret rfl dc_JM_abs_J_12 ((show f_JM_abs_J l0 = l0 from by unfold f_JM_abs_J; rw [if_pos c1]) ▸ hq)
  · refine g_lload_n dc_JM_abs_J_6 rfl rfl rfl ?_
    refine g_lneg dc_JM_abs_J_7 rfl ?_
    refine g_goto (tgt := 12) dc_JM_abs_J_8 (by decide) ?_
    exact g_lret rfl dc_JM_abs_J_12 ((show f_JM_abs_J l0 = (0 - l0) from by unfold f_JM_abs_J; rw [if_neg c1]) ▸ hq)
theorem dc_AL_sumWith_0 : decode prog_2_method_3_code 0 = .ok (.iload 4, 2) := by decide +kernel
theorem dc_AL_sumWith_2 : decode prog_2_method_3_code 2 = .ok (.ifCond .ne 9, 3) := by decide +kernel
theorem dc_AL_sumWith_5 : decode prog_2_method_3_code 5 = .ok (.iload_n 1, 1) := by decide +kernel
theorem dc_AL_sumWith_6 : decode prog_2_method_3_code 6 = .ok (.iload_n 2, 1) := by decide +kernel
theorem dc_AL_sumWith_7 : decode prog_2_method_3_code 7 = .ok (.isub, 1) := by decide +kernel
theorem dc_AL_sumWith_8 : decode prog_2_method_3_code 8 = .ok (.goto 6, 3) := by decide +kernel
theorem dc_AL_sumWith_11 : decode prog_2_method_3_code 11 = .ok (.iload_n 2, 1) := by decide +kernel
theorem dc_AL_sumWith_12 : decode prog_2_method_3_code 12 = .ok (.iload_n 1, 1) := by decide +kernel
theorem dc_AL_sumWith_13 : decode prog_2_method_3_code 13 = .ok (.isub, 1) := by decide +kernel
theorem dc_AL_sumWith_14 : decode prog_2_method_3_code 14 = .ok (.istore 5, 2) := by decide +kernel
theorem dc_AL_sumWith_16 : decode prog_2_method_3_code 16 = .ok (.iconst 0, 1) := by decide +kernel
theorem dc_AL_sumWith_17 : decode prog_2_method_3_code 17 = .ok (.iload_n 0, 1) := by decide +kernel
theorem dc_AL_sumWith_18 : decode prog_2_method_3_code 18 = .ok (.iload 5, 2) := by decide +kernel
theorem dc_AL_sumWith_20 : decode prog_2_method_3_code 20 = .ok (.iadd, 1) := by decide +kernel
theorem dc_AL_sumWith_21 : decode prog_2_method_3_code 21 = .ok (.iload_n 3, 1) := by decide +kernel
theorem dc_AL_sumWith_22 : decode prog_2_method_3_code 22 = .ok (.isub, 1) := by decide +kernel
theorem dc_AL_sumWith_23 : decode prog_2_method_3_code 23 = .ok (.invokestatic 37, 3) := by decide +kernel
theorem dc_AL_sumWith_26 : decode prog_2_method_3_code 26 = .ok (.ireturn, 1) := by decide +kernel
def f_AL_sumWith (x0 : Int32) (x1 : Int32) (x2 : Int32) (x3 : Int32) (x4 : Int32) : Int32 := (if ¬ x4 = 0 then (f_JM_max_II 0 ((x0 + (x2 - x1)) - x3)) else (f_JM_max_II 0 ((x0 + (x1 - x2)) - x3)))
theorem c_AL_sumWith {G : GC} {d : Nat} {P : PT} {I : MI} {J : MJ} {x0 : Int32} {x1 : Int32} {x2 : Int32} {x3 : Int32} {x4 : Int32} (hq : P (some (.int (f_AL_sumWith x0 x1 x2 x3 x4))) I J) : Ct G (d + 1) m_AL_sumWith [.int x0, .int x1, .int x2, .int x3, .int x4] P I J := by
  refine Ct.ofGo [some (.int x0), some (.int x1), some (.int x2), some (.int x3), some (.int x4), none] (by decide +kernel) rfl (Nat.le_of_ble_eq_true rfl) ?_
  refine g_iload dc_AL_sumWith_0 rfl rfl ?_
  refine g_if_ne (tgt := 11) dc_AL_sumWith_2 rfl (by decide) (fun c1 => ?_) (fun c1 => ?_)
  · refine g_iload_n dc_AL_sumWith_11 rfl rfl rfl ?_
    refine g_iload_n dc_AL_sumWith_12 rfl rfl rfl ?_
    refine g_isub dc_AL_sumWith_13 rfl ?_
    refine g_istore (L' := [some (.int x0), some (.int x1), some (.int x2), some (.int x3), some (.int x4), some (.int (x2 - x1))]) dc_AL_sumWith_14 rfl (Nat.le_of_ble_eq_true rfl) rfl ?_
    refine g_iconst (v := 0) dc_AL_sumWith_16 rfl (by decide) ?_
    refine g_iload_n dc_AL_sumWith_17 rfl rfl rfl ?_
    refine g_iload dc_AL_sumWith_18 rfl rfl ?_
    refine g_iadd dc_AL_sumWith_20 rfl ?_
    refine g_iload_n dc_AL_sumWith_21 rfl rfl rfl ?_
    refine g_isub dc_AL_sumWith_22 rfl ?_
    refine g_callS (M := m_JM_max_II) (As := [.int 0, .int ((x0 + (x2 - x1)) - x3)]) (rest := []) ok_JM_max_II st_JM_max_II ml_AL_37 rfl rfl (Nat.le_of_ble_eq_true rfl) dc_AL_sumWith_23 rfl rOk_fr (c_JM_max_II ?_)
    show Go G (fr G m_AL_sumWith (d + 1) P) 26 [some (.int x0), some (.int x1), some (.int x2), some (.int x3), some (.int x4), some (.int (x2 - x1))] [.int (f_JM_max_II 0 ((x0 + (x2 - x1)) - x3))] I J
    exact g_iret rfl dc_AL_sumWith_26 ((show f_AL_sumWith x0 x1 x2 x3 x4 = (f_JM_max_II 0 ((x0 + (x2 - x1)) - x3)) from by unfold f_AL_sumWith; rw [if_pos c1]) ▸ hq)
  · refine g_iload_n dc_AL_sumWith_5 rfl rfl rfl ?_
    refine g_iload_n dc_AL_sumWith_6 rfl rfl rfl ?_
    refine g_isub dc_AL_sumWith_7 rfl ?_
    refine g_goto (tgt := 14) dc_AL_sumWith_8 (by decide) ?_
    refine g_istore (L' := [some (.int x0), some (.int x1), some (.int x2), some (.int x3), some (.int x4), some (.int (x1 - x2))]) dc_AL_sumWith_14 rfl (Nat.le_of_ble_eq_true rfl) rfl ?_
    refine g_iconst (v := 0) dc_AL_sumWith_16 rfl (by decide) ?_
    refine g_iload_n dc_AL_sumWith_17 rfl rfl rfl ?_
    refine g_iload dc_AL_sumWith_18 rfl rfl ?_
    refine g_iadd dc_AL_sumWith_20 rfl ?_
    refine g_iload_n dc_AL_sumWith_21 rfl rfl rfl ?_
    refine g_isub dc_AL_sumWith_22 rfl ?_
    refine g_callS (M := m_JM_max_II) (As := [.int 0, .int ((x0 + (x1 - x2)) - x3)]) (rest := []) ok_JM_max_II st_JM_max_II ml_AL_37 rfl rfl (Nat.le_of_ble_eq_true rfl) dc_AL_sumWith_23 rfl rOk_fr (c_JM_max_II ?_)
    show Go G (fr G m_AL_sumWith (d + 1) P) 26 [some (.int x0), some (.int x1), some (.int x2), some (.int x3), some (.int x4), some (.int (x1 - x2))] [.int (f_JM_max_II 0 ((x0 + (x1 - x2)) - x3))] I J
    exact g_iret rfl dc_AL_sumWith_26 ((show f_AL_sumWith x0 x1 x2 x3 x4 = (f_JM_max_II 0 ((x0 + (x1 - x2)) - x3)) from by unfold f_AL_sumWith; rw [if_neg (not_not_intro c1)]) ▸ hq)
theorem dc_RM_in_0 : decode prog_14_method_3_code 0 = .ok (.iload_n 0, 1) := by decide +kernel
theorem dc_RM_in_1 : decode prog_14_method_3_code 1 = .ok (.iload_n 1, 1) := by decide +kernel
theorem dc_RM_in_2 : decode prog_14_method_3_code 2 = .ok (.if_icmp .lt 12, 3) := by decide +kernel
theorem dc_RM_in_5 : decode prog_14_method_3_code 5 = .ok (.iload_n 0, 1) := by decide +kernel
theorem dc_RM_in_6 : decode prog_14_method_3_code 6 = .ok (.iload_n 2, 1) := by decide +kernel
theorem dc_RM_in_7 : decode prog_14_method_3_code 7 = .ok (.if_icmp .gt 7, 3) := by decide +kernel
theorem dc_RM_in_10 : decode prog_14_method_3_code 10 = .ok (.iconst 1, 1) := by decide +kernel
theorem dc_RM_in_11 : decode prog_14_method_3_code 11 = .ok (.goto 4, 3) := by decide +kernel
theorem dc_RM_in_14 : decode prog_14_method_3_code 14 = .ok (.iconst 0, 1) := by decide +kernel
theorem dc_RM_in_15 : decode prog_14_method_3_code 15 = .ok (.ireturn, 1) := by decide +kernel
def f_RM_in (x0 : Int32) (x1 : Int32) (x2 : Int32) : Int32 := (if x0 < x1 then 0 else (if x2 < x0 then 0 else 1))
theorem z_RM_in (x0 : Int32) (x1 : Int32) (x2 : Int32) : f_RM_in x0 x1 x2 = 0 ∨ f_RM_in x0 x1 x2 = 1 := by unfold f_RM_in; (repeat' split) <;> first | exact Or.inl rfl | exact Or.inr rfl
theorem c_RM_in {G : GC} {d : Nat} {P : PT} {I : MI} {J : MJ} {x0 : Int32} {x1 : Int32} {x2 : Int32} (hq : P (some (.int (f_RM_in x0 x1 x2))) I J) : Ct G d m_RM_in [.int x0, .int x1, .int x2] P I J := by
  refine Ct.ofGo [some (.int x0), some (.int x1), some (.int x2)] (by decide +kernel) rfl (Nat.le_of_ble_eq_true rfl) ?_
  refine g_iload_n dc_RM_in_0 rfl rfl rfl ?_
  refine g_iload_n dc_RM_in_1 rfl rfl rfl ?_
  refine g_ic_lt (tgt := 14) dc_RM_in_2 rfl (by decide) (fun c1 => ?_) (fun c1 => ?_)
  · refine g_iconst (v := 0) dc_RM_in_14 rfl (by decide) ?_
    exact g_zret rfl (by decide) dc_RM_in_15 ((show f_RM_in x0 x1 x2 = 0 from by unfold f_RM_in; rw [if_pos c1]) ▸ hq)
  · refine g_iload_n dc_RM_in_5 rfl rfl rfl ?_
    refine g_iload_n dc_RM_in_6 rfl rfl rfl ?_
    refine g_ic_gt (tgt := 14) dc_RM_in_7 rfl (by decide) (fun c2 => ?_) (fun c2 => ?_)
    · refine g_iconst (v := 0) dc_RM_in_14 rfl (by decide) ?_
      exact g_zret rfl (by decide) dc_RM_in_15 ((show f_RM_in x0 x1 x2 = 0 from by unfold f_RM_in; rw [if_neg c1, if_pos c2]) ▸ hq)
    · refine g_iconst (v := 1) dc_RM_in_10 rfl (by decide) ?_
      refine g_goto (tgt := 15) dc_RM_in_11 (by decide) ?_
      exact g_zret rfl (by decide) dc_RM_in_15 ((show f_RM_in x0 x1 x2 = 1 from by unfold f_RM_in; rw [if_neg c1, if_neg c2]) ▸ hq)
theorem dc_RM_isRow_0 : decode prog_14_method_5_code 0 = .ok (.iload_n 0, 1) := by decide +kernel
theorem dc_RM_isRow_1 : decode prog_14_method_5_code 1 = .ok (.iconst 0, 1) := by decide +kernel
theorem dc_RM_isRow_2 : decode prog_14_method_5_code 2 = .ok (.iconst 3, 1) := by decide +kernel
theorem dc_RM_isRow_3 : decode prog_14_method_5_code 3 = .ok (.invokestatic 112, 3) := by decide +kernel
theorem dc_RM_isRow_6 : decode prog_14_method_5_code 6 = .ok (.ireturn, 1) := by decide +kernel
def f_RM_isRow (x0 : Int32) : Int32 := (f_RM_in x0 0 3)
theorem z_RM_isRow (x0 : Int32) : f_RM_isRow x0 = 0 ∨ f_RM_isRow x0 = 1 := by unfold f_RM_isRow; (repeat' split) <;> first | exact Or.inl rfl | exact Or.inr rfl | exact (z_RM_in _ _ _)
theorem c_RM_isRow {G : GC} {d : Nat} {P : PT} {I : MI} {J : MJ} {x0 : Int32} (hq : P (some (.int (f_RM_isRow x0))) I J) : Ct G (d + 1) m_RM_isRow [.int x0] P I J := by
  refine Ct.ofGo [some (.int x0)] (by decide +kernel) rfl (Nat.le_of_ble_eq_true rfl) ?_
  refine g_iload_n dc_RM_isRow_0 rfl rfl rfl ?_
  refine g_iconst (v := 0) dc_RM_isRow_1 rfl (by decide) ?_
  refine g_iconst (v := 3) dc_RM_isRow_2 rfl (by decide) ?_
  refine g_callS (M := m_RM_in) (As := [.int x0, .int 0, .int 3]) (rest := []) ok_RM_in st_RM_in ml_RM_112 rfl rfl (Nat.le_of_ble_eq_true rfl) dc_RM_isRow_3 rfl rOk_fr (c_RM_in ?_)
  show Go G (fr G m_RM_isRow (d + 1) P) 6 [some (.int x0)] [.int (f_RM_in x0 0 3)] I J
  exact g_zret rfl (z_RM_in _ _ _) dc_RM_isRow_6 (hq)
theorem dc_RM_isDay_0 : decode prog_14_method_6_code 0 = .ok (.iload_n 0, 1) := by decide +kernel
theorem dc_RM_isDay_1 : decode prog_14_method_6_code 1 = .ok (.iconst 0, 1) := by decide +kernel
theorem dc_RM_isDay_2 : decode prog_14_method_6_code 2 = .ok (.bipush 39, 2) := by decide +kernel
theorem dc_RM_isDay_4 : decode prog_14_method_6_code 4 = .ok (.invokestatic 112, 3) := by decide +kernel
theorem dc_RM_isDay_7 : decode prog_14_method_6_code 7 = .ok (.ireturn, 1) := by decide +kernel
def f_RM_isDay (x0 : Int32) : Int32 := (f_RM_in x0 0 39)
theorem z_RM_isDay (x0 : Int32) : f_RM_isDay x0 = 0 ∨ f_RM_isDay x0 = 1 := by unfold f_RM_isDay; (repeat' split) <;> first | exact Or.inl rfl | exact Or.inr rfl | exact (z_RM_in _ _ _)
theorem c_RM_isDay {G : GC} {d : Nat} {P : PT} {I : MI} {J : MJ} {x0 : Int32} (hq : P (some (.int (f_RM_isDay x0))) I J) : Ct G (d + 1) m_RM_isDay [.int x0] P I J := by
  refine Ct.ofGo [some (.int x0)] (by decide +kernel) rfl (Nat.le_of_ble_eq_true rfl) ?_
  refine g_iload_n dc_RM_isDay_0 rfl rfl rfl ?_
  refine g_iconst (v := 0) dc_RM_isDay_1 rfl (by decide) ?_
  refine g_bipush (v := 39) dc_RM_isDay_2 rfl (by decide) ?_
  refine g_callS (M := m_RM_in) (As := [.int x0, .int 0, .int 39]) (rest := []) ok_RM_in st_RM_in ml_RM_112 rfl rfl (Nat.le_of_ble_eq_true rfl) dc_RM_isDay_4 rfl rOk_fr (c_RM_in ?_)
  show Go G (fr G m_RM_isDay (d + 1) P) 7 [some (.int x0)] [.int (f_RM_in x0 0 39)] I J
  exact g_zret rfl (z_RM_in _ _ _) dc_RM_isDay_7 (hq)
theorem dc_RM_amount_0 : decode prog_14_method_4_code 0 = .ok (.lload_n 0, 1) := by decide +kernel
theorem dc_RM_amount_1 : decode prog_14_method_4_code 1 = .ok (.lconst 0, 1) := by decide +kernel
theorem dc_RM_amount_2 : decode prog_14_method_4_code 2 = .ok (.lcmp, 1) := by decide +kernel
theorem dc_RM_amount_3 : decode prog_14_method_4_code 3 = .ok (.ifCond .ge 8, 3) := by decide +kernel
theorem dc_RM_amount_6 : decode prog_14_method_4_code 6 = .ok (.lload_n 0, 1) := by decide +kernel
theorem dc_RM_amount_7 : decode prog_14_method_4_code 7 = .ok (.lneg, 1) := by decide +kernel
theorem dc_RM_amount_8 : decode prog_14_method_4_code 8 = .ok (.goto 4, 3) := by decide +kernel
theorem dc_RM_amount_11 : decode prog_14_method_4_code 11 = .ok (.lload_n 0, 1) := by decide +kernel
theorem dc_RM_amount_12 : decode prog_14_method_4_code 12 = .ok (.lreturn, 1) := by decide +kernel
def f_RM_amount (l0 : Int64) : Int64 := (if 0 ≤ l0 then l0 else (0 - l0))
theorem c_RM_amount {G : GC} {d : Nat} {P : PT} {I : MI} {J : MJ} {l0 : Int64} (hq : P (some (.long (f_RM_amount l0))) I J) : Ct G d m_RM_amount [.long l0] P I J := by
  refine Ct.ofGo [some (.long l0), none] (by decide +kernel) rfl (Nat.le_of_ble_eq_true rfl) ?_
  refine g_lload_n dc_RM_amount_0 rfl rfl rfl ?_
  refine g_lconst (v := 0) dc_RM_amount_1 rfl (by decide) ?_
  refine g_lc_ge (tgt := 11) dc_RM_amount_2 rfl dc_RM_amount_3 rfl (by decide) (fun c1 => ?_) (fun c1 => ?_)
  · refine g_lload_n dc_RM_amount_11 rfl rfl rfl ?_
    exact g_lret rfl dc_RM_amount_12 ((show f_RM_amount l0 = l0 from by unfold f_RM_amount; rw [if_pos c1]) ▸ hq)
  · refine g_lload_n dc_RM_amount_6 rfl rfl rfl ?_
    refine g_lneg dc_RM_amount_7 rfl ?_
    refine g_goto (tgt := 12) dc_RM_amount_8 (by decide) ?_
    exact g_lret rfl dc_RM_amount_12 ((show f_RM_amount l0 = (0 - l0) from by unfold f_RM_amount; rw [if_neg c1]) ▸ hq)
theorem dc_RM_away_0 : decode prog_14_method_19_code 0 = .ok (.lload_n 2, 1) := by decide +kernel
theorem dc_RM_away_1 : decode prog_14_method_19_code 1 = .ok (.lload 12, 2) := by decide +kernel
theorem dc_RM_away_3 : decode prog_14_method_19_code 3 = .ok (.lload 6, 2) := by decide +kernel
theorem dc_RM_away_5 : decode prog_14_method_19_code 5 = .ok (.lmul, 1) := by decide +kernel
theorem dc_RM_away_6 : decode prog_14_method_19_code 6 = .ok (.lsub, 1) := by decide +kernel
theorem dc_RM_away_7 : decode prog_14_method_19_code 7 = .ok (.lstore 14, 2) := by decide +kernel
theorem dc_RM_away_9 : decode prog_14_method_19_code 9 = .ok (.lload_n 0, 1) := by decide +kernel
theorem dc_RM_away_10 : decode prog_14_method_19_code 10 = .ok (.lload 4, 2) := by decide +kernel
theorem dc_RM_away_12 : decode prog_14_method_19_code 12 = .ok (.ldc2_w 155, 3) := by decide +kernel
theorem dc_RM_away_15 : decode prog_14_method_19_code 15 = .ok (.lload 12, 2) := by decide +kernel
theorem dc_RM_away_17 : decode prog_14_method_19_code 17 = .ok (.lmul, 1) := by decide +kernel
theorem dc_RM_away_18 : decode prog_14_method_19_code 18 = .ok (.lload 10, 2) := by decide +kernel
theorem dc_RM_away_20 : decode prog_14_method_19_code 20 = .ok (.lmul, 1) := by decide +kernel
theorem dc_RM_away_21 : decode prog_14_method_19_code 21 = .ok (.lsub, 1) := by decide +kernel
theorem dc_RM_away_22 : decode prog_14_method_19_code 22 = .ok (.lload 12, 2) := by decide +kernel
theorem dc_RM_away_24 : decode prog_14_method_19_code 24 = .ok (.lload 12, 2) := by decide +kernel
theorem dc_RM_away_26 : decode prog_14_method_19_code 26 = .ok (.lmul, 1) := by decide +kernel
theorem dc_RM_away_27 : decode prog_14_method_19_code 27 = .ok (.lload 8, 2) := by decide +kernel
theorem dc_RM_away_29 : decode prog_14_method_19_code 29 = .ok (.lmul, 1) := by decide +kernel
theorem dc_RM_away_30 : decode prog_14_method_19_code 30 = .ok (.ladd, 1) := by decide +kernel
theorem dc_RM_away_31 : decode prog_14_method_19_code 31 = .ok (.lmul, 1) := by decide +kernel
theorem dc_RM_away_32 : decode prog_14_method_19_code 32 = .ok (.lload 14, 2) := by decide +kernel
theorem dc_RM_away_34 : decode prog_14_method_19_code 34 = .ok (.lload 14, 2) := by decide +kernel
theorem dc_RM_away_36 : decode prog_14_method_19_code 36 = .ok (.lmul, 1) := by decide +kernel
theorem dc_RM_away_37 : decode prog_14_method_19_code 37 = .ok (.lsub, 1) := by decide +kernel
theorem dc_RM_away_38 : decode prog_14_method_19_code 38 = .ok (.lreturn, 1) := by decide +kernel
def f_RM_away (l0 : Int64) (l2 : Int64) (l4 : Int64) (l6 : Int64) (l8 : Int64) (l10 : Int64) (l12 : Int64) : Int64 := ((l0 * ((l4 - ((2 * l12) * l10)) + ((l12 * l12) * l8))) - ((l2 - (l12 * l6)) * (l2 - (l12 * l6))))
theorem c_RM_away {G : GC} {d : Nat} {P : PT} {I : MI} {J : MJ} {l0 : Int64} {l2 : Int64} {l4 : Int64} {l6 : Int64} {l8 : Int64} {l10 : Int64} {l12 : Int64} (hq : P (some (.long (f_RM_away l0 l2 l4 l6 l8 l10 l12))) I J) : Ct G d m_RM_away [.long l0, .long l2, .long l4, .long l6, .long l8, .long l10, .long l12] P I J := by
  refine Ct.ofGo [some (.long l0), none, some (.long l2), none, some (.long l4), none, some (.long l6), none, some (.long l8), none, some (.long l10), none, some (.long l12), none, none, none] (by decide +kernel) rfl (Nat.le_of_ble_eq_true rfl) ?_
  refine g_lload_n dc_RM_away_0 rfl rfl rfl ?_
  refine g_lload dc_RM_away_1 rfl rfl ?_
  refine g_lload dc_RM_away_3 rfl rfl ?_
  refine g_lmul dc_RM_away_5 rfl ?_
  refine g_lsub dc_RM_away_6 rfl ?_
  refine g_lstore (L' := [some (.long l0), none, some (.long l2), none, some (.long l4), none, some (.long l6), none, some (.long l8), none, some (.long l10), none, some (.long l12), none, some (.long (l2 - (l12 * l6))), none]) dc_RM_away_7 rfl (Nat.le_of_ble_eq_true rfl) rfl ?_
  refine g_lload_n dc_RM_away_9 rfl rfl rfl ?_
  refine g_lload dc_RM_away_10 rfl rfl ?_
  refine g_ldc2 (v := 2) kl_RM_155 dc_RM_away_12 rfl ?_
  refine g_lload dc_RM_away_15 rfl rfl ?_
  refine g_lmul dc_RM_away_17 rfl ?_
  refine g_lload dc_RM_away_18 rfl rfl ?_
  refine g_lmul dc_RM_away_20 rfl ?_
  refine g_lsub dc_RM_away_21 rfl ?_
  refine g_lload dc_RM_away_22 rfl rfl ?_
  refine g_lload dc_RM_away_24 rfl rfl ?_
  refine g_lmul dc_RM_away_26 rfl ?_
  refine g_lload dc_RM_away_27 rfl rfl ?_
  refine g_lmul dc_RM_away_29 rfl ?_
  refine g_ladd dc_RM_away_30 rfl ?_
  refine g_lmul dc_RM_away_31 rfl ?_
  refine g_lload dc_RM_away_32 rfl rfl ?_
  refine g_lload dc_RM_away_34 rfl rfl ?_
  refine g_lmul dc_RM_away_36 rfl ?_
  refine g_lsub dc_RM_away_37 rfl ?_
  exact g_lret rfl dc_RM_away_38 (hq)
theorem dc_RM_isKind_0 : decode prog_14_method_24_code 0 = .ok (.iload_n 0, 1) := by decide +kernel
theorem dc_RM_isKind_1 : decode prog_14_method_24_code 1 = .ok (.iconst 0, 1) := by decide +kernel
theorem dc_RM_isKind_2 : decode prog_14_method_24_code 2 = .ok (.iconst 3, 1) := by decide +kernel
theorem dc_RM_isKind_3 : decode prog_14_method_24_code 3 = .ok (.invokestatic 112, 3) := by decide +kernel
theorem dc_RM_isKind_6 : decode prog_14_method_24_code 6 = .ok (.ireturn, 1) := by decide +kernel
def f_RM_isKind (x0 : Int32) : Int32 := (f_RM_in x0 0 3)
theorem z_RM_isKind (x0 : Int32) : f_RM_isKind x0 = 0 ∨ f_RM_isKind x0 = 1 := by unfold f_RM_isKind; (repeat' split) <;> first | exact Or.inl rfl | exact Or.inr rfl | exact (z_RM_in _ _ _)
theorem c_RM_isKind {G : GC} {d : Nat} {P : PT} {I : MI} {J : MJ} {x0 : Int32} (hq : P (some (.int (f_RM_isKind x0))) I J) : Ct G (d + 1) m_RM_isKind [.int x0] P I J := by
  refine Ct.ofGo [some (.int x0)] (by decide +kernel) rfl (Nat.le_of_ble_eq_true rfl) ?_
  refine g_iload_n dc_RM_isKind_0 rfl rfl rfl ?_
  refine g_iconst (v := 0) dc_RM_isKind_1 rfl (by decide) ?_
  refine g_iconst (v := 3) dc_RM_isKind_2 rfl (by decide) ?_
  refine g_callS (M := m_RM_in) (As := [.int x0, .int 0, .int 3]) (rest := []) ok_RM_in st_RM_in ml_RM_112 rfl rfl (Nat.le_of_ble_eq_true rfl) dc_RM_isKind_3 rfl rOk_fr (c_RM_in ?_)
  show Go G (fr G m_RM_isKind (d + 1) P) 6 [some (.int x0)] [.int (f_RM_in x0 0 3)] I J
  exact g_zret rfl (z_RM_in _ _ _) dc_RM_isKind_6 (hq)
theorem dc_RM_isCut_0 : decode prog_14_method_31_code 0 = .ok (.iload_n 0, 1) := by decide +kernel
theorem dc_RM_isCut_1 : decode prog_14_method_31_code 1 = .ok (.invokestatic 119, 3) := by decide +kernel
theorem dc_RM_isCut_4 : decode prog_14_method_31_code 4 = .ok (.ifCond .eq 24, 3) := by decide +kernel
theorem dc_RM_isCut_7 : decode prog_14_method_31_code 7 = .ok (.iload_n 1, 1) := by decide +kernel
theorem dc_RM_isCut_8 : decode prog_14_method_31_code 8 = .ok (.invokestatic 186, 3) := by decide +kernel
theorem dc_RM_isCut_11 : decode prog_14_method_31_code 11 = .ok (.ifCond .eq 17, 3) := by decide +kernel
theorem dc_RM_isCut_14 : decode prog_14_method_31_code 14 = .ok (.iload_n 2, 1) := by decide +kernel
theorem dc_RM_isCut_15 : decode prog_14_method_31_code 15 = .ok (.iconst 1, 1) := by decide +kernel
theorem dc_RM_isCut_16 : decode prog_14_method_31_code 16 = .ok (.bipush 6, 2) := by decide +kernel
theorem dc_RM_isCut_18 : decode prog_14_method_31_code 18 = .ok (.invokestatic 112, 3) := by decide +kernel
theorem dc_RM_isCut_21 : decode prog_14_method_31_code 21 = .ok (.ifCond .eq 7, 3) := by decide +kernel
theorem dc_RM_isCut_24 : decode prog_14_method_31_code 24 = .ok (.iconst 1, 1) := by decide +kernel
theorem dc_RM_isCut_25 : decode prog_14_method_31_code 25 = .ok (.goto 4, 3) := by decide +kernel
theorem dc_RM_isCut_28 : decode prog_14_method_31_code 28 = .ok (.iconst 0, 1) := by decide +kernel
theorem dc_RM_isCut_29 : decode prog_14_method_31_code 29 = .ok (.ireturn, 1) := by decide +kernel
def f_RM_isCut (x0 : Int32) (x1 : Int32) (x2 : Int32) : Int32 := (if (f_RM_isRow x0) = 0 then 0 else (if (f_RM_isKind x1) = 0 then 0 else (if (f_RM_in x2 1 6) = 0 then 0 else 1)))
theorem z_RM_isCut (x0 : Int32) (x1 : Int32) (x2 : Int32) : f_RM_isCut x0 x1 x2 = 0 ∨ f_RM_isCut x0 x1 x2 = 1 := by unfold f_RM_isCut; (repeat' split) <;> first | exact Or.inl rfl | exact Or.inr rfl
theorem c_RM_isCut {G : GC} {d : Nat} {P : PT} {I : MI} {J : MJ} {x0 : Int32} {x1 : Int32} {x2 : Int32} (hq : P (some (.int (f_RM_isCut x0 x1 x2))) I J) : Ct G (d + 2) m_RM_isCut [.int x0, .int x1, .int x2] P I J := by
  refine Ct.ofGo [some (.int x0), some (.int x1), some (.int x2)] (by decide +kernel) rfl (Nat.le_of_ble_eq_true rfl) ?_
  refine g_iload_n dc_RM_isCut_0 rfl rfl rfl ?_
  refine g_callS (M := m_RM_isRow) (As := [.int x0]) (rest := []) ok_RM_isRow st_RM_isRow ml_RM_119 rfl rfl (Nat.le_of_ble_eq_true rfl) dc_RM_isCut_1 rfl rOk_fr (c_RM_isRow ?_)
  show Go G (fr G m_RM_isCut (d + 2) P) 4 [some (.int x0), some (.int x1), some (.int x2)] [.int (f_RM_isRow x0)] I J
  refine g_if_eq (tgt := 28) dc_RM_isCut_4 rfl (by decide) (fun c1 => ?_) (fun c1 => ?_)
  · refine g_iconst (v := 0) dc_RM_isCut_28 rfl (by decide) ?_
    exact g_zret rfl (by decide) dc_RM_isCut_29 ((show f_RM_isCut x0 x1 x2 = 0 from by unfold f_RM_isCut; rw [if_pos c1]) ▸ hq)
  · refine g_iload_n dc_RM_isCut_7 rfl rfl rfl ?_
    refine g_callS (M := m_RM_isKind) (As := [.int x1]) (rest := []) ok_RM_isKind st_RM_isKind ml_RM_186 rfl rfl (Nat.le_of_ble_eq_true rfl) dc_RM_isCut_8 rfl rOk_fr (c_RM_isKind ?_)
    show Go G (fr G m_RM_isCut (d + 2) P) 11 [some (.int x0), some (.int x1), some (.int x2)] [.int (f_RM_isKind x1)] I J
    refine g_if_eq (tgt := 28) dc_RM_isCut_11 rfl (by decide) (fun c2 => ?_) (fun c2 => ?_)
    · refine g_iconst (v := 0) dc_RM_isCut_28 rfl (by decide) ?_
      exact g_zret rfl (by decide) dc_RM_isCut_29 ((show f_RM_isCut x0 x1 x2 = 0 from by unfold f_RM_isCut; rw [if_neg c1, if_pos c2]) ▸ hq)
    · refine g_iload_n dc_RM_isCut_14 rfl rfl rfl ?_
      refine g_iconst (v := 1) dc_RM_isCut_15 rfl (by decide) ?_
      refine g_bipush (v := 6) dc_RM_isCut_16 rfl (by decide) ?_
      refine g_callS (M := m_RM_in) (As := [.int x2, .int 1, .int 6]) (rest := []) ok_RM_in st_RM_in ml_RM_112 rfl rfl (Nat.le_of_ble_eq_true rfl) dc_RM_isCut_18 rfl rOk_fr (c_RM_in ?_)
      show Go G (fr G m_RM_isCut (d + 2) P) 21 [some (.int x0), some (.int x1), some (.int x2)] [.int (f_RM_in x2 1 6)] I J
      refine g_if_eq (tgt := 28) dc_RM_isCut_21 rfl (by decide) (fun c3 => ?_) (fun c3 => ?_)
      · refine g_iconst (v := 0) dc_RM_isCut_28 rfl (by decide) ?_
        exact g_zret rfl (by decide) dc_RM_isCut_29 ((show f_RM_isCut x0 x1 x2 = 0 from by unfold f_RM_isCut; rw [if_neg c1, if_neg c2, if_pos c3]) ▸ hq)
      · refine g_iconst (v := 1) dc_RM_isCut_24 rfl (by decide) ?_
        refine g_goto (tgt := 29) dc_RM_isCut_25 (by decide) ?_
        exact g_zret rfl (by decide) dc_RM_isCut_29 ((show f_RM_isCut x0 x1 x2 = 1 from by unfold f_RM_isCut; rw [if_neg c1, if_neg c2, if_neg c3]) ▸ hq)
theorem dc_RM_isCommonCut_0 : decode prog_14_method_43_code 0 = .ok (.iload_n 0, 1) := by decide +kernel
theorem dc_RM_isCommonCut_1 : decode prog_14_method_43_code 1 = .ok (.iconst 1, 1) := by decide +kernel
theorem dc_RM_isCommonCut_2 : decode prog_14_method_43_code 2 = .ok (.bipush 15, 2) := by decide +kernel
theorem dc_RM_isCommonCut_4 : decode prog_14_method_43_code 4 = .ok (.invokestatic 112, 3) := by decide +kernel
theorem dc_RM_isCommonCut_7 : decode prog_14_method_43_code 7 = .ok (.ifCond .eq 27, 3) := by decide +kernel
theorem dc_RM_isCommonCut_10 : decode prog_14_method_43_code 10 = .ok (.iload_n 1, 1) := by decide +kernel
theorem dc_RM_isCommonCut_11 : decode prog_14_method_43_code 11 = .ok (.iconst 1, 1) := by decide +kernel
theorem dc_RM_isCommonCut_12 : decode prog_14_method_43_code 12 = .ok (.if_icmp .eq 8, 3) := by decide +kernel
theorem dc_RM_isCommonCut_15 : decode prog_14_method_43_code 15 = .ok (.iload_n 1, 1) := by decide +kernel
theorem dc_RM_isCommonCut_16 : decode prog_14_method_43_code 16 = .ok (.iconst 3, 1) := by decide +kernel
theorem dc_RM_isCommonCut_17 : decode prog_14_method_43_code 17 = .ok (.if_icmp .ne 17, 3) := by decide +kernel
theorem dc_RM_isCommonCut_20 : decode prog_14_method_43_code 20 = .ok (.iload_n 2, 1) := by decide +kernel
theorem dc_RM_isCommonCut_21 : decode prog_14_method_43_code 21 = .ok (.iconst 1, 1) := by decide +kernel
theorem dc_RM_isCommonCut_22 : decode prog_14_method_43_code 22 = .ok (.bipush 6, 2) := by decide +kernel
theorem dc_RM_isCommonCut_24 : decode prog_14_method_43_code 24 = .ok (.invokestatic 112, 3) := by decide +kernel
theorem dc_RM_isCommonCut_27 : decode prog_14_method_43_code 27 = .ok (.ifCond .eq 7, 3) := by decide +kernel
theorem dc_RM_isCommonCut_30 : decode prog_14_method_43_code 30 = .ok (.iconst 1, 1) := by decide +kernel
theorem dc_RM_isCommonCut_31 : decode prog_14_method_43_code 31 = .ok (.goto 4, 3) := by decide +kernel
theorem dc_RM_isCommonCut_34 : decode prog_14_method_43_code 34 = .ok (.iconst 0, 1) := by decide +kernel
theorem dc_RM_isCommonCut_35 : decode prog_14_method_43_code 35 = .ok (.ireturn, 1) := by decide +kernel
def f_RM_isCommonCut (x0 : Int32) (x1 : Int32) (x2 : Int32) : Int32 := (if (f_RM_in x0 1 15) = 0 then 0 else (if x1 = 1 then (if (f_RM_in x2 1 6) = 0 then 0 else 1) else (if ¬ x1 = 3 then 0 else (if (f_RM_in x2 1 6) = 0 then 0 else 1))))
theorem z_RM_isCommonCut (x0 : Int32) (x1 : Int32) (x2 : Int32) : f_RM_isCommonCut x0 x1 x2 = 0 ∨ f_RM_isCommonCut x0 x1 x2 = 1 := by unfold f_RM_isCommonCut; (repeat' split) <;> first | exact Or.inl rfl | exact Or.inr rfl
theorem c_RM_isCommonCut {G : GC} {d : Nat} {P : PT} {I : MI} {J : MJ} {x0 : Int32} {x1 : Int32} {x2 : Int32} (hq : P (some (.int (f_RM_isCommonCut x0 x1 x2))) I J) : Ct G (d + 1) m_RM_isCommonCut [.int x0, .int x1, .int x2] P I J := by
  refine Ct.ofGo [some (.int x0), some (.int x1), some (.int x2)] (by decide +kernel) rfl (Nat.le_of_ble_eq_true rfl) ?_
  refine g_iload_n dc_RM_isCommonCut_0 rfl rfl rfl ?_
  refine g_iconst (v := 1) dc_RM_isCommonCut_1 rfl (by decide) ?_
  refine g_bipush (v := 15) dc_RM_isCommonCut_2 rfl (by decide) ?_
  refine g_callS (M := m_RM_in) (As := [.int x0, .int 1, .int 15]) (rest := []) ok_RM_in st_RM_in ml_RM_112 rfl rfl (Nat.le_of_ble_eq_true rfl) dc_RM_isCommonCut_4 rfl rOk_fr (c_RM_in ?_)
  show Go G (fr G m_RM_isCommonCut (d + 1) P) 7 [some (.int x0), some (.int x1), some (.int x2)] [.int (f_RM_in x0 1 15)] I J
  refine g_if_eq (tgt := 34) dc_RM_isCommonCut_7 rfl (by decide) (fun c1 => ?_) (fun c1 => ?_)
  · refine g_iconst (v := 0) dc_RM_isCommonCut_34 rfl (by decide) ?_
    exact g_zret rfl (by decide) dc_RM_isCommonCut_35 ((show f_RM_isCommonCut x0 x1 x2 = 0 from by unfold f_RM_isCommonCut; rw [if_pos c1]) ▸ hq)
  · refine g_iload_n dc_RM_isCommonCut_10 rfl rfl rfl ?_
    refine g_iconst (v := 1) dc_RM_isCommonCut_11 rfl (by decide) ?_
    refine g_ic_eq (tgt := 20) dc_RM_isCommonCut_12 rfl (by decide) (fun c2 => ?_) (fun c2 => ?_)
    · refine g_iload_n dc_RM_isCommonCut_20 rfl rfl rfl ?_
      refine g_iconst (v := 1) dc_RM_isCommonCut_21 rfl (by decide) ?_
      refine g_bipush (v := 6) dc_RM_isCommonCut_22 rfl (by decide) ?_
      refine g_callS (M := m_RM_in) (As := [.int x2, .int 1, .int 6]) (rest := []) ok_RM_in st_RM_in ml_RM_112 rfl rfl (Nat.le_of_ble_eq_true rfl) dc_RM_isCommonCut_24 rfl rOk_fr (c_RM_in ?_)
      show Go G (fr G m_RM_isCommonCut (d + 1) P) 27 [some (.int x0), some (.int x1), some (.int x2)] [.int (f_RM_in x2 1 6)] I J
      refine g_if_eq (tgt := 34) dc_RM_isCommonCut_27 rfl (by decide) (fun c3 => ?_) (fun c3 => ?_)
      · refine g_iconst (v := 0) dc_RM_isCommonCut_34 rfl (by decide) ?_
        exact g_zret rfl (by decide) dc_RM_isCommonCut_35 ((show f_RM_isCommonCut x0 x1 x2 = 0 from by unfold f_RM_isCommonCut; rw [if_neg c1, if_pos c2, if_pos c3]) ▸ hq)
      · refine g_iconst (v := 1) dc_RM_isCommonCut_30 rfl (by decide) ?_
        refine g_goto (tgt := 35) dc_RM_isCommonCut_31 (by decide) ?_
        exact g_zret rfl (by decide) dc_RM_isCommonCut_35 ((show f_RM_isCommonCut x0 x1 x2 = 1 from by unfold f_RM_isCommonCut; rw [if_neg c1, if_pos c2, if_neg c3]) ▸ hq)
    · refine g_iload_n dc_RM_isCommonCut_15 rfl rfl rfl ?_
      refine g_iconst (v := 3) dc_RM_isCommonCut_16 rfl (by decide) ?_
      refine g_ic_ne (tgt := 34) dc_RM_isCommonCut_17 rfl (by decide) (fun c4 => ?_) (fun c4 => ?_)
      · refine g_iconst (v := 0) dc_RM_isCommonCut_34 rfl (by decide) ?_
        exact g_zret rfl (by decide) dc_RM_isCommonCut_35 ((show f_RM_isCommonCut x0 x1 x2 = 0 from by unfold f_RM_isCommonCut; rw [if_neg c1, if_neg c2, if_pos c4]) ▸ hq)
      · refine g_iload_n dc_RM_isCommonCut_20 rfl rfl rfl ?_
        refine g_iconst (v := 1) dc_RM_isCommonCut_21 rfl (by decide) ?_
        refine g_bipush (v := 6) dc_RM_isCommonCut_22 rfl (by decide) ?_
        refine g_callS (M := m_RM_in) (As := [.int x2, .int 1, .int 6]) (rest := []) ok_RM_in st_RM_in ml_RM_112 rfl rfl (Nat.le_of_ble_eq_true rfl) dc_RM_isCommonCut_24 rfl rOk_fr (c_RM_in ?_)
        show Go G (fr G m_RM_isCommonCut (d + 1) P) 27 [some (.int x0), some (.int x1), some (.int x2)] [.int (f_RM_in x2 1 6)] I J
        refine g_if_eq (tgt := 34) dc_RM_isCommonCut_27 rfl (by decide) (fun c5 => ?_) (fun c5 => ?_)
        · refine g_iconst (v := 0) dc_RM_isCommonCut_34 rfl (by decide) ?_
          exact g_zret rfl (by decide) dc_RM_isCommonCut_35 ((show f_RM_isCommonCut x0 x1 x2 = 0 from by unfold f_RM_isCommonCut; rw [if_neg c1, if_neg c2, if_neg (not_not_intro c4), if_pos c5]) ▸ hq)
        · refine g_iconst (v := 1) dc_RM_isCommonCut_30 rfl (by decide) ?_
          refine g_goto (tgt := 35) dc_RM_isCommonCut_31 (by decide) ?_
          exact g_zret rfl (by decide) dc_RM_isCommonCut_35 ((show f_RM_isCommonCut x0 x1 x2 = 1 from by unfold f_RM_isCommonCut; rw [if_neg c1, if_neg c2, if_neg (not_not_intro c4), if_neg c5]) ▸ hq)
theorem dc_RM_isWatch_0 : decode prog_14_method_55_code 0 = .ok (.iload_n 0, 1) := by decide +kernel
theorem dc_RM_isWatch_1 : decode prog_14_method_55_code 1 = .ok (.invokestatic 119, 3) := by decide +kernel
theorem dc_RM_isWatch_4 : decode prog_14_method_55_code 4 = .ok (.ifCond .eq 52, 3) := by decide +kernel
theorem dc_RM_isWatch_7 : decode prog_14_method_55_code 7 = .ok (.iload_n 1, 1) := by decide +kernel
theorem dc_RM_isWatch_8 : decode prog_14_method_55_code 8 = .ok (.sipush (-1000), 3) := by decide +kernel
theorem dc_RM_isWatch_11 : decode prog_14_method_55_code 11 = .ok (.sipush 1000, 3) := by decide +kernel
theorem dc_RM_isWatch_14 : decode prog_14_method_55_code 14 = .ok (.invokestatic 112, 3) := by decide +kernel
theorem dc_RM_isWatch_17 : decode prog_14_method_55_code 17 = .ok (.ifCond .eq 39, 3) := by decide +kernel
theorem dc_RM_isWatch_20 : decode prog_14_method_55_code 20 = .ok (.iload_n 2, 1) := by decide +kernel
theorem dc_RM_isWatch_21 : decode prog_14_method_55_code 21 = .ok (.iconst 0, 1) := by decide +kernel
theorem dc_RM_isWatch_22 : decode prog_14_method_55_code 22 = .ok (.sipush 1000, 3) := by decide +kernel
theorem dc_RM_isWatch_25 : decode prog_14_method_55_code 25 = .ok (.invokestatic 112, 3) := by decide +kernel
theorem dc_RM_isWatch_28 : decode prog_14_method_55_code 28 = .ok (.ifCond .eq 28, 3) := by decide +kernel
theorem dc_RM_isWatch_31 : decode prog_14_method_55_code 31 = .ok (.iload_n 3, 1) := by decide +kernel
theorem dc_RM_isWatch_32 : decode prog_14_method_55_code 32 = .ok (.iconst 1, 1) := by decide +kernel
theorem dc_RM_isWatch_33 : decode prog_14_method_55_code 33 = .ok (.ldc_w 278, 3) := by decide +kernel
theorem dc_RM_isWatch_36 : decode prog_14_method_55_code 36 = .ok (.invokestatic 112, 3) := by decide +kernel
theorem dc_RM_isWatch_39 : decode prog_14_method_55_code 39 = .ok (.ifCond .eq 17, 3) := by decide +kernel
theorem dc_RM_isWatch_42 : decode prog_14_method_55_code 42 = .ok (.iload 4, 2) := by decide +kernel
theorem dc_RM_isWatch_44 : decode prog_14_method_55_code 44 = .ok (.iconst 0, 1) := by decide +kernel
theorem dc_RM_isWatch_45 : decode prog_14_method_55_code 45 = .ok (.iconst 1, 1) := by decide +kernel
theorem dc_RM_isWatch_46 : decode prog_14_method_55_code 46 = .ok (.invokestatic 112, 3) := by decide +kernel
theorem dc_RM_isWatch_49 : decode prog_14_method_55_code 49 = .ok (.ifCond .eq 7, 3) := by decide +kernel
theorem dc_RM_isWatch_52 : decode prog_14_method_55_code 52 = .ok (.iconst 1, 1) := by decide +kernel
theorem dc_RM_isWatch_53 : decode prog_14_method_55_code 53 = .ok (.goto 4, 3) := by decide +kernel
theorem dc_RM_isWatch_56 : decode prog_14_method_55_code 56 = .ok (.iconst 0, 1) := by decide +kernel
theorem dc_RM_isWatch_57 : decode prog_14_method_55_code 57 = .ok (.ireturn, 1) := by decide +kernel
def f_RM_isWatch (x0 : Int32) (x1 : Int32) (x2 : Int32) (x3 : Int32) (x4 : Int32) : Int32 := (if (f_RM_isRow x0) = 0 then 0 else (if (f_RM_in x1 (-1000) 1000) = 0 then 0 else (if (f_RM_in x2 0 1000) = 0 then 0 else (if (f_RM_in x3 1 100000) = 0 then 0 else (if (f_RM_in x4 0 1) = 0 then 0 else 1)))))
theorem z_RM_isWatch (x0 : Int32) (x1 : Int32) (x2 : Int32) (x3 : Int32) (x4 : Int32) : f_RM_isWatch x0 x1 x2 x3 x4 = 0 ∨ f_RM_isWatch x0 x1 x2 x3 x4 = 1 := by unfold f_RM_isWatch; (repeat' split) <;> first | exact Or.inl rfl | exact Or.inr rfl
theorem c_RM_isWatch {G : GC} {d : Nat} {P : PT} {I : MI} {J : MJ} {x0 : Int32} {x1 : Int32} {x2 : Int32} {x3 : Int32} {x4 : Int32} (hq : P (some (.int (f_RM_isWatch x0 x1 x2 x3 x4))) I J) : Ct G (d + 2) m_RM_isWatch [.int x0, .int x1, .int x2, .int x3, .int x4] P I J := by
  refine Ct.ofGo [some (.int x0), some (.int x1), some (.int x2), some (.int x3), some (.int x4)] (by decide +kernel) rfl (Nat.le_of_ble_eq_true rfl) ?_
  refine g_iload_n dc_RM_isWatch_0 rfl rfl rfl ?_
  refine g_callS (M := m_RM_isRow) (As := [.int x0]) (rest := []) ok_RM_isRow st_RM_isRow ml_RM_119 rfl rfl (Nat.le_of_ble_eq_true rfl) dc_RM_isWatch_1 rfl rOk_fr (c_RM_isRow ?_)
  show Go G (fr G m_RM_isWatch (d + 2) P) 4 [some (.int x0), some (.int x1), some (.int x2), some (.int x3), some (.int x4)] [.int (f_RM_isRow x0)] I J
  refine g_if_eq (tgt := 56) dc_RM_isWatch_4 rfl (by decide) (fun c1 => ?_) (fun c1 => ?_)
  · refine g_iconst (v := 0) dc_RM_isWatch_56 rfl (by decide) ?_
    exact g_zret rfl (by decide) dc_RM_isWatch_57 ((show f_RM_isWatch x0 x1 x2 x3 x4 = 0 from by unfold f_RM_isWatch; rw [if_pos c1]) ▸ hq)
  · refine g_iload_n dc_RM_isWatch_7 rfl rfl rfl ?_
    refine g_sipush (v := (-1000)) dc_RM_isWatch_8 rfl (by decide) ?_
    refine g_sipush (v := 1000) dc_RM_isWatch_11 rfl (by decide) ?_
    refine g_callS (M := m_RM_in) (As := [.int x1, .int (-1000), .int 1000]) (rest := []) ok_RM_in st_RM_in ml_RM_112 rfl rfl (Nat.le_of_ble_eq_true rfl) dc_RM_isWatch_14 rfl rOk_fr (c_RM_in ?_)
    show Go G (fr G m_RM_isWatch (d + 2) P) 17 [some (.int x0), some (.int x1), some (.int x2), some (.int x3), some (.int x4)] [.int (f_RM_in x1 (-1000) 1000)] I J
    refine g_if_eq (tgt := 56) dc_RM_isWatch_17 rfl (by decide) (fun c2 => ?_) (fun c2 => ?_)
    · refine g_iconst (v := 0) dc_RM_isWatch_56 rfl (by decide) ?_
      exact g_zret rfl (by decide) dc_RM_isWatch_57 ((show f_RM_isWatch x0 x1 x2 x3 x4 = 0 from by unfold f_RM_isWatch; rw [if_neg c1, if_pos c2]) ▸ hq)
    · refine g_iload_n dc_RM_isWatch_20 rfl rfl rfl ?_
      refine g_iconst (v := 0) dc_RM_isWatch_21 rfl (by decide) ?_
      refine g_sipush (v := 1000) dc_RM_isWatch_22 rfl (by decide) ?_
      refine g_callS (M := m_RM_in) (As := [.int x2, .int 0, .int 1000]) (rest := []) ok_RM_in st_RM_in ml_RM_112 rfl rfl (Nat.le_of_ble_eq_true rfl) dc_RM_isWatch_25 rfl rOk_fr (c_RM_in ?_)
      show Go G (fr G m_RM_isWatch (d + 2) P) 28 [some (.int x0), some (.int x1), some (.int x2), some (.int x3), some (.int x4)] [.int (f_RM_in x2 0 1000)] I J
      refine g_if_eq (tgt := 56) dc_RM_isWatch_28 rfl (by decide) (fun c3 => ?_) (fun c3 => ?_)
      · refine g_iconst (v := 0) dc_RM_isWatch_56 rfl (by decide) ?_
        exact g_zret rfl (by decide) dc_RM_isWatch_57 ((show f_RM_isWatch x0 x1 x2 x3 x4 = 0 from by unfold f_RM_isWatch; rw [if_neg c1, if_neg c2, if_pos c3]) ▸ hq)
      · refine g_iload_n dc_RM_isWatch_31 rfl rfl rfl ?_
        refine g_iconst (v := 1) dc_RM_isWatch_32 rfl (by decide) ?_
        refine g_ldcw (v := 100000) kl_RM_278 dc_RM_isWatch_33 rfl ?_
        refine g_callS (M := m_RM_in) (As := [.int x3, .int 1, .int 100000]) (rest := []) ok_RM_in st_RM_in ml_RM_112 rfl rfl (Nat.le_of_ble_eq_true rfl) dc_RM_isWatch_36 rfl rOk_fr (c_RM_in ?_)
        show Go G (fr G m_RM_isWatch (d + 2) P) 39 [some (.int x0), some (.int x1), some (.int x2), some (.int x3), some (.int x4)] [.int (f_RM_in x3 1 100000)] I J
        refine g_if_eq (tgt := 56) dc_RM_isWatch_39 rfl (by decide) (fun c4 => ?_) (fun c4 => ?_)
        · refine g_iconst (v := 0) dc_RM_isWatch_56 rfl (by decide) ?_
          exact g_zret rfl (by decide) dc_RM_isWatch_57 ((show f_RM_isWatch x0 x1 x2 x3 x4 = 0 from by unfold f_RM_isWatch; rw [if_neg c1, if_neg c2, if_neg c3, if_pos c4]) ▸ hq)
        · refine g_iload dc_RM_isWatch_42 rfl rfl ?_
          refine g_iconst (v := 0) dc_RM_isWatch_44 rfl (by decide) ?_
          refine g_iconst (v := 1) dc_RM_isWatch_45 rfl (by decide) ?_
          refine g_callS (M := m_RM_in) (As := [.int x4, .int 0, .int 1]) (rest := []) ok_RM_in st_RM_in ml_RM_112 rfl rfl (Nat.le_of_ble_eq_true rfl) dc_RM_isWatch_46 rfl rOk_fr (c_RM_in ?_)
          show Go G (fr G m_RM_isWatch (d + 2) P) 49 [some (.int x0), some (.int x1), some (.int x2), some (.int x3), some (.int x4)] [.int (f_RM_in x4 0 1)] I J
          refine g_if_eq (tgt := 56) dc_RM_isWatch_49 rfl (by decide) (fun c5 => ?_) (fun c5 => ?_)
          · refine g_iconst (v := 0) dc_RM_isWatch_56 rfl (by decide) ?_
            exact g_zret rfl (by decide) dc_RM_isWatch_57 ((show f_RM_isWatch x0 x1 x2 x3 x4 = 0 from by unfold f_RM_isWatch; rw [if_neg c1, if_neg c2, if_neg c3, if_neg c4, if_pos c5]) ▸ hq)
          · refine g_iconst (v := 1) dc_RM_isWatch_52 rfl (by decide) ?_
            refine g_goto (tgt := 57) dc_RM_isWatch_53 (by decide) ?_
            exact g_zret rfl (by decide) dc_RM_isWatch_57 ((show f_RM_isWatch x0 x1 x2 x3 x4 = 1 from by unfold f_RM_isWatch; rw [if_neg c1, if_neg c2, if_neg c3, if_neg c4, if_neg c5]) ▸ hq)
theorem dc_RM_isSheet_0 : decode prog_14_method_72_code 0 = .ok (.iload_n 0, 1) := by decide +kernel
theorem dc_RM_isSheet_1 : decode prog_14_method_72_code 1 = .ok (.iconst 0, 1) := by decide +kernel
theorem dc_RM_isSheet_2 : decode prog_14_method_72_code 2 = .ok (.iconst 3, 1) := by decide +kernel
theorem dc_RM_isSheet_3 : decode prog_14_method_72_code 3 = .ok (.invokestatic 112, 3) := by decide +kernel
theorem dc_RM_isSheet_6 : decode prog_14_method_72_code 6 = .ok (.ireturn, 1) := by decide +kernel
def f_RM_isSheet (x0 : Int32) : Int32 := (f_RM_in x0 0 3)
theorem z_RM_isSheet (x0 : Int32) : f_RM_isSheet x0 = 0 ∨ f_RM_isSheet x0 = 1 := by unfold f_RM_isSheet; (repeat' split) <;> first | exact Or.inl rfl | exact Or.inr rfl | exact (z_RM_in _ _ _)
theorem c_RM_isSheet {G : GC} {d : Nat} {P : PT} {I : MI} {J : MJ} {x0 : Int32} (hq : P (some (.int (f_RM_isSheet x0))) I J) : Ct G (d + 1) m_RM_isSheet [.int x0] P I J := by
  refine Ct.ofGo [some (.int x0)] (by decide +kernel) rfl (Nat.le_of_ble_eq_true rfl) ?_
  refine g_iload_n dc_RM_isSheet_0 rfl rfl rfl ?_
  refine g_iconst (v := 0) dc_RM_isSheet_1 rfl (by decide) ?_
  refine g_iconst (v := 3) dc_RM_isSheet_2 rfl (by decide) ?_
  refine g_callS (M := m_RM_in) (As := [.int x0, .int 0, .int 3]) (rest := []) ok_RM_in st_RM_in ml_RM_112 rfl rfl (Nat.le_of_ble_eq_true rfl) dc_RM_isSheet_3 rfl rOk_fr (c_RM_in ?_)
  show Go G (fr G m_RM_isSheet (d + 1) P) 6 [some (.int x0)] [.int (f_RM_in x0 0 3)] I J
  exact g_zret rfl (z_RM_in _ _ _) dc_RM_isSheet_6 (hq)
