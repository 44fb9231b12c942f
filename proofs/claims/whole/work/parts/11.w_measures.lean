theorem dc_SU_above_0 : decode prog_12_method_4_code 0 = .ok (.aload_n 0, 1) := by decide +kernel
theorem dc_SU_above_1 : decode prog_12_method_4_code 1 = .ok (.getfield 15, 3) := by decide +kernel
theorem dc_SU_above_4 : decode prog_12_method_4_code 4 = .ok (.iload_n 2, 1) := by decide +kernel
theorem dc_SU_above_5 : decode prog_12_method_4_code 5 = .ok (.iconst (-1), 1) := by decide +kernel
theorem dc_SU_above_6 : decode prog_12_method_4_code 6 = .ok (.if_icmp .ne 7, 3) := by decide +kernel
theorem dc_SU_above_9 : decode prog_12_method_4_code 9 = .ok (.iconst 0, 1) := by decide +kernel
theorem dc_SU_above_10 : decode prog_12_method_4_code 10 = .ok (.goto 4, 3) := by decide +kernel
theorem dc_SU_above_13 : decode prog_12_method_4_code 13 = .ok (.iconst 1, 1) := by decide +kernel
theorem dc_SU_above_14 : decode prog_12_method_4_code 14 = .ok (.isub, 1) := by decide +kernel
theorem dc_SU_above_15 : decode prog_12_method_4_code 15 = .ok (.iload_n 3, 1) := by decide +kernel
theorem dc_SU_above_16 : decode prog_12_method_4_code 16 = .ok (.iconst (-1), 1) := by decide +kernel
theorem dc_SU_above_17 : decode prog_12_method_4_code 17 = .ok (.if_icmp .ne 7, 3) := by decide +kernel
theorem dc_SU_above_20 : decode prog_12_method_4_code 20 = .ok (.iconst 0, 1) := by decide +kernel
theorem dc_SU_above_21 : decode prog_12_method_4_code 21 = .ok (.goto 4, 3) := by decide +kernel
theorem dc_SU_above_24 : decode prog_12_method_4_code 24 = .ok (.iconst 1, 1) := by decide +kernel
theorem dc_SU_above_25 : decode prog_12_method_4_code 25 = .ok (.isub, 1) := by decide +kernel
theorem dc_SU_above_26 : decode prog_12_method_4_code 26 = .ok (.i2l, 1) := by decide +kernel
theorem dc_SU_above_27 : decode prog_12_method_4_code 27 = .ok (.lstore 4, 2) := by decide +kernel
theorem dc_SU_above_29 : decode prog_12_method_4_code 29 = .ok (.iload_n 2, 1) := by decide +kernel
theorem dc_SU_above_30 : decode prog_12_method_4_code 30 = .ok (.iconst (-1), 1) := by decide +kernel
theorem dc_SU_above_31 : decode prog_12_method_4_code 31 = .ok (.if_icmp .ne 7, 3) := by decide +kernel
theorem dc_SU_above_34 : decode prog_12_method_4_code 34 = .ok (.lconst 0, 1) := by decide +kernel
theorem dc_SU_above_35 : decode prog_12_method_4_code 35 = .ok (.goto 10, 3) := by decide +kernel
theorem dc_SU_above_38 : decode prog_12_method_4_code 38 = .ok (.aload_n 1, 1) := by decide +kernel
theorem dc_SU_above_39 : decode prog_12_method_4_code 39 = .ok (.getfield 34, 3) := by decide +kernel
theorem dc_SU_above_42 : decode prog_12_method_4_code 42 = .ok (.iload_n 2, 1) := by decide +kernel
theorem dc_SU_above_43 : decode prog_12_method_4_code 43 = .ok (.iaload, 1) := by decide +kernel
theorem dc_SU_above_44 : decode prog_12_method_4_code 44 = .ok (.i2l, 1) := by decide +kernel
theorem dc_SU_above_45 : decode prog_12_method_4_code 45 = .ok (.lstore 6, 2) := by decide +kernel
theorem dc_SU_above_47 : decode prog_12_method_4_code 47 = .ok (.iload_n 3, 1) := by decide +kernel
theorem dc_SU_above_48 : decode prog_12_method_4_code 48 = .ok (.iconst (-1), 1) := by decide +kernel
theorem dc_SU_above_49 : decode prog_12_method_4_code 49 = .ok (.if_icmp .ne 7, 3) := by decide +kernel
theorem dc_SU_above_52 : decode prog_12_method_4_code 52 = .ok (.lconst 0, 1) := by decide +kernel
theorem dc_SU_above_53 : decode prog_12_method_4_code 53 = .ok (.goto 10, 3) := by decide +kernel
theorem dc_SU_above_56 : decode prog_12_method_4_code 56 = .ok (.aload_n 1, 1) := by decide +kernel
theorem dc_SU_above_57 : decode prog_12_method_4_code 57 = .ok (.getfield 34, 3) := by decide +kernel
theorem dc_SU_above_60 : decode prog_12_method_4_code 60 = .ok (.iload_n 3, 1) := by decide +kernel
theorem dc_SU_above_61 : decode prog_12_method_4_code 61 = .ok (.iaload, 1) := by decide +kernel
theorem dc_SU_above_62 : decode prog_12_method_4_code 62 = .ok (.i2l, 1) := by decide +kernel
theorem dc_SU_above_63 : decode prog_12_method_4_code 63 = .ok (.lstore 8, 2) := by decide +kernel
theorem dc_SU_above_65 : decode prog_12_method_4_code 65 = .ok (.aload_n 0, 1) := by decide +kernel
theorem dc_SU_above_66 : decode prog_12_method_4_code 66 = .ok (.getfield 19, 3) := by decide +kernel
theorem dc_SU_above_69 : decode prog_12_method_4_code 69 = .ok (.lload 6, 2) := by decide +kernel
theorem dc_SU_above_71 : decode prog_12_method_4_code 71 = .ok (.lsub, 1) := by decide +kernel
theorem dc_SU_above_72 : decode prog_12_method_4_code 72 = .ok (.lload 8, 2) := by decide +kernel
theorem dc_SU_above_74 : decode prog_12_method_4_code 74 = .ok (.lsub, 1) := by decide +kernel
theorem dc_SU_above_75 : decode prog_12_method_4_code 75 = .ok (.lstore 10, 2) := by decide +kernel
theorem dc_SU_above_77 : decode prog_12_method_4_code 77 = .ok (.lload 4, 2) := by decide +kernel
theorem dc_SU_above_79 : decode prog_12_method_4_code 79 = .ok (.aload_n 0, 1) := by decide +kernel
theorem dc_SU_above_80 : decode prog_12_method_4_code 80 = .ok (.getfield 22, 3) := by decide +kernel
theorem dc_SU_above_83 : decode prog_12_method_4_code 83 = .ok (.lload 6, 2) := by decide +kernel
theorem dc_SU_above_85 : decode prog_12_method_4_code 85 = .ok (.lload 6, 2) := by decide +kernel
theorem dc_SU_above_87 : decode prog_12_method_4_code 87 = .ok (.lmul, 1) := by decide +kernel
theorem dc_SU_above_88 : decode prog_12_method_4_code 88 = .ok (.lsub, 1) := by decide +kernel
theorem dc_SU_above_89 : decode prog_12_method_4_code 89 = .ok (.lload 8, 2) := by decide +kernel
theorem dc_SU_above_91 : decode prog_12_method_4_code 91 = .ok (.lload 8, 2) := by decide +kernel
theorem dc_SU_above_93 : decode prog_12_method_4_code 93 = .ok (.lmul, 1) := by decide +kernel
theorem dc_SU_above_94 : decode prog_12_method_4_code 94 = .ok (.lsub, 1) := by decide +kernel
theorem dc_SU_above_95 : decode prog_12_method_4_code 95 = .ok (.lmul, 1) := by decide +kernel
theorem dc_SU_above_96 : decode prog_12_method_4_code 96 = .ok (.lload 10, 2) := by decide +kernel
theorem dc_SU_above_98 : decode prog_12_method_4_code 98 = .ok (.lload 10, 2) := by decide +kernel
theorem dc_SU_above_100 : decode prog_12_method_4_code 100 = .ok (.lmul, 1) := by decide +kernel
theorem dc_SU_above_101 : decode prog_12_method_4_code 101 = .ok (.lsub, 1) := by decide +kernel
theorem dc_SU_above_102 : decode prog_12_method_4_code 102 = .ok (.lstore 12, 2) := by decide +kernel
theorem dc_SU_above_104 : decode prog_12_method_4_code 104 = .ok (.aload_n 0, 1) := by decide +kernel
theorem dc_SU_above_105 : decode prog_12_method_4_code 105 = .ok (.getfield 9, 3) := by decide +kernel
theorem dc_SU_above_108 : decode prog_12_method_4_code 108 = .ok (.lconst 0, 1) := by decide +kernel
theorem dc_SU_above_109 : decode prog_12_method_4_code 109 = .ok (.lcmp, 1) := by decide +kernel
theorem dc_SU_above_110 : decode prog_12_method_4_code 110 = .ok (.ifCond .ne 6, 3) := by decide +kernel
theorem dc_SU_above_113 : decode prog_12_method_4_code 113 = .ok (.lload 12, 2) := by decide +kernel
theorem dc_SU_above_115 : decode prog_12_method_4_code 115 = .ok (.lreturn, 1) := by decide +kernel
theorem dc_SU_above_116 : decode prog_12_method_4_code 116 = .ok (.iload_n 2, 1) := by decide +kernel
theorem dc_SU_above_117 : decode prog_12_method_4_code 117 = .ok (.iconst (-1), 1) := by decide +kernel
theorem dc_SU_above_118 : decode prog_12_method_4_code 118 = .ok (.if_icmp .ne 7, 3) := by decide +kernel
theorem dc_SU_above_121 : decode prog_12_method_4_code 121 = .ok (.lconst 0, 1) := by decide +kernel
theorem dc_SU_above_122 : decode prog_12_method_4_code 122 = .ok (.goto 10, 3) := by decide +kernel
theorem dc_SU_above_125 : decode prog_12_method_4_code 125 = .ok (.aload_n 1, 1) := by decide +kernel
theorem dc_SU_above_126 : decode prog_12_method_4_code 126 = .ok (.getfield 40, 3) := by decide +kernel
theorem dc_SU_above_129 : decode prog_12_method_4_code 129 = .ok (.iload_n 2, 1) := by decide +kernel
theorem dc_SU_above_130 : decode prog_12_method_4_code 130 = .ok (.iaload, 1) := by decide +kernel
theorem dc_SU_above_131 : decode prog_12_method_4_code 131 = .ok (.i2l, 1) := by decide +kernel
theorem dc_SU_above_132 : decode prog_12_method_4_code 132 = .ok (.lstore 14, 2) := by decide +kernel
theorem dc_SU_above_134 : decode prog_12_method_4_code 134 = .ok (.iload_n 3, 1) := by decide +kernel
theorem dc_SU_above_135 : decode prog_12_method_4_code 135 = .ok (.iconst (-1), 1) := by decide +kernel
theorem dc_SU_above_136 : decode prog_12_method_4_code 136 = .ok (.if_icmp .ne 7, 3) := by decide +kernel
theorem dc_SU_above_139 : decode prog_12_method_4_code 139 = .ok (.lconst 0, 1) := by decide +kernel
theorem dc_SU_above_140 : decode prog_12_method_4_code 140 = .ok (.goto 10, 3) := by decide +kernel
theorem dc_SU_above_143 : decode prog_12_method_4_code 143 = .ok (.aload_n 1, 1) := by decide +kernel
theorem dc_SU_above_144 : decode prog_12_method_4_code 144 = .ok (.getfield 40, 3) := by decide +kernel
theorem dc_SU_above_147 : decode prog_12_method_4_code 147 = .ok (.iload_n 3, 1) := by decide +kernel
theorem dc_SU_above_148 : decode prog_12_method_4_code 148 = .ok (.iaload, 1) := by decide +kernel
theorem dc_SU_above_149 : decode prog_12_method_4_code 149 = .ok (.i2l, 1) := by decide +kernel
theorem dc_SU_above_150 : decode prog_12_method_4_code 150 = .ok (.lstore 16, 2) := by decide +kernel
theorem dc_SU_above_152 : decode prog_12_method_4_code 152 = .ok (.aload_n 0, 1) := by decide +kernel
theorem dc_SU_above_153 : decode prog_12_method_4_code 153 = .ok (.getfield 25, 3) := by decide +kernel
theorem dc_SU_above_156 : decode prog_12_method_4_code 156 = .ok (.lload 14, 2) := by decide +kernel
theorem dc_SU_above_158 : decode prog_12_method_4_code 158 = .ok (.lsub, 1) := by decide +kernel
theorem dc_SU_above_159 : decode prog_12_method_4_code 159 = .ok (.lload 16, 2) := by decide +kernel
theorem dc_SU_above_161 : decode prog_12_method_4_code 161 = .ok (.lsub, 1) := by decide +kernel
theorem dc_SU_above_162 : decode prog_12_method_4_code 162 = .ok (.lstore 18, 2) := by decide +kernel
theorem dc_SU_above_164 : decode prog_12_method_4_code 164 = .ok (.lload 4, 2) := by decide +kernel
theorem dc_SU_above_166 : decode prog_12_method_4_code 166 = .ok (.aload_n 0, 1) := by decide +kernel
theorem dc_SU_above_167 : decode prog_12_method_4_code 167 = .ok (.getfield 28, 3) := by decide +kernel
theorem dc_SU_above_170 : decode prog_12_method_4_code 170 = .ok (.lload 14, 2) := by decide +kernel
theorem dc_SU_above_172 : decode prog_12_method_4_code 172 = .ok (.lload 14, 2) := by decide +kernel
theorem dc_SU_above_174 : decode prog_12_method_4_code 174 = .ok (.lmul, 1) := by decide +kernel
theorem dc_SU_above_175 : decode prog_12_method_4_code 175 = .ok (.lsub, 1) := by decide +kernel
theorem dc_SU_above_176 : decode prog_12_method_4_code 176 = .ok (.lload 16, 2) := by decide +kernel
theorem dc_SU_above_178 : decode prog_12_method_4_code 178 = .ok (.lload 16, 2) := by decide +kernel
theorem dc_SU_above_180 : decode prog_12_method_4_code 180 = .ok (.lmul, 1) := by decide +kernel
theorem dc_SU_above_181 : decode prog_12_method_4_code 181 = .ok (.lsub, 1) := by decide +kernel
theorem dc_SU_above_182 : decode prog_12_method_4_code 182 = .ok (.lmul, 1) := by decide +kernel
theorem dc_SU_above_183 : decode prog_12_method_4_code 183 = .ok (.lload 18, 2) := by decide +kernel
theorem dc_SU_above_185 : decode prog_12_method_4_code 185 = .ok (.lload 18, 2) := by decide +kernel
theorem dc_SU_above_187 : decode prog_12_method_4_code 187 = .ok (.lmul, 1) := by decide +kernel
theorem dc_SU_above_188 : decode prog_12_method_4_code 188 = .ok (.lsub, 1) := by decide +kernel
theorem dc_SU_above_189 : decode prog_12_method_4_code 189 = .ok (.lstore 20, 2) := by decide +kernel
theorem dc_SU_above_191 : decode prog_12_method_4_code 191 = .ok (.lload 4, 2) := by decide +kernel
theorem dc_SU_above_193 : decode prog_12_method_4_code 193 = .ok (.aload_n 0, 1) := by decide +kernel
theorem dc_SU_above_194 : decode prog_12_method_4_code 194 = .ok (.getfield 31, 3) := by decide +kernel
theorem dc_SU_above_197 : decode prog_12_method_4_code 197 = .ok (.lload 6, 2) := by decide +kernel
theorem dc_SU_above_199 : decode prog_12_method_4_code 199 = .ok (.lload 14, 2) := by decide +kernel
theorem dc_SU_above_201 : decode prog_12_method_4_code 201 = .ok (.lmul, 1) := by decide +kernel
theorem dc_SU_above_202 : decode prog_12_method_4_code 202 = .ok (.lsub, 1) := by decide +kernel
theorem dc_SU_above_203 : decode prog_12_method_4_code 203 = .ok (.lload 8, 2) := by decide +kernel
theorem dc_SU_above_205 : decode prog_12_method_4_code 205 = .ok (.lload 16, 2) := by decide +kernel
theorem dc_SU_above_207 : decode prog_12_method_4_code 207 = .ok (.lmul, 1) := by decide +kernel
theorem dc_SU_above_208 : decode prog_12_method_4_code 208 = .ok (.lsub, 1) := by decide +kernel
theorem dc_SU_above_209 : decode prog_12_method_4_code 209 = .ok (.lmul, 1) := by decide +kernel
theorem dc_SU_above_210 : decode prog_12_method_4_code 210 = .ok (.lload 10, 2) := by decide +kernel
theorem dc_SU_above_212 : decode prog_12_method_4_code 212 = .ok (.lload 18, 2) := by decide +kernel
theorem dc_SU_above_214 : decode prog_12_method_4_code 214 = .ok (.lmul, 1) := by decide +kernel
theorem dc_SU_above_215 : decode prog_12_method_4_code 215 = .ok (.lsub, 1) := by decide +kernel
theorem dc_SU_above_216 : decode prog_12_method_4_code 216 = .ok (.lstore 22, 2) := by decide +kernel
theorem dc_SU_above_218 : decode prog_12_method_4_code 218 = .ok (.lload 12, 2) := by decide +kernel
theorem dc_SU_above_220 : decode prog_12_method_4_code 220 = .ok (.aload_n 0, 1) := by decide +kernel
theorem dc_SU_above_221 : decode prog_12_method_4_code 221 = .ok (.lload 20, 2) := by decide +kernel
theorem dc_SU_above_223 : decode prog_12_method_4_code 223 = .ok (.lload 22, 2) := by decide +kernel
theorem dc_SU_above_225 : decode prog_12_method_4_code 225 = .ok (.invokevirtual 43, 3) := by decide +kernel
theorem dc_SU_above_228 : decode prog_12_method_4_code 228 = .ok (.ladd, 1) := by decide +kernel
theorem dc_SU_above_229 : decode prog_12_method_4_code 229 = .ok (.lreturn, 1) := by decide +kernel
theorem w_SU_above_0 {G : GC} {d : Nat} {P : PT} {I : MI} {J : MJ} {o0 : Nat} (h0 : SumAt o0) {o1 : Nat} (h1 : PtsAt o1) {x2 : Int32} {x3 : Int32} (k1 : (¬ x2 = (-1)) → Go G (fr G m_SU_above (d + 2) P) 14 [some (.ref o0), some (.ref o1), some (.int x2), some (.int x3), none, none, none, none, none, none, none, none, none, none, none, none, none, none, none, none, none, none, none, none] [.int 1, .int (I o0 0)] I J) (k2 : (x2 = (-1)) → Go G (fr G m_SU_above (d + 2) P) 14 [some (.ref o0), some (.ref o1), some (.int x2), some (.int x3), none, none, none, none, none, none, none, none, none, none, none, none, none, none, none, none, none, none, none, none] [.int 0, .int (I o0 0)] I J) : Go G (fr G m_SU_above (d + 2) P) 0 [some (.ref o0), some (.ref o1), some (.int x2), some (.int x3), none, none, none, none, none, none, none, none, none, none, none, none, none, none, none, none, none, none, none, none] [] I J := by
  refine g_aload_n dc_SU_above_0 rfl rfl rfl ?_
  refine g_get (C := "LevelBreaks$Sums") (T := T_SU) (N := 7) (k := 0) (v := .int (I o0 0)) h0.sh (by decide) rfl rfl i_SU (by decide) fl_SU_15 (Or.inr sf_SU_size) rfl dc_SU_above_1 rfl ?_
  refine g_iload_n dc_SU_above_4 rfl rfl rfl ?_
  refine g_iconst (v := (-1)) dc_SU_above_5 rfl (by decide) ?_
  refine g_ic_ne (tgt := 13) dc_SU_above_6 rfl (by decide) (fun c1 => ?_) (fun c1 => ?_)
  · refine g_iconst (v := 1) dc_SU_above_13 rfl (by decide) ?_
    exact (k1 c1)
  · refine g_iconst (v := 0) dc_SU_above_9 rfl (by decide) ?_
    refine g_goto (tgt := 14) dc_SU_above_10 (by decide) ?_
    exact (k2 c1)
theorem w_SU_above_14 {G : GC} {d : Nat} {P : PT} {I : MI} {J : MJ} {o0 : Nat} (h0 : SumAt o0) {o1 : Nat} (h1 : PtsAt o1) {x2 : Int32} {x3 : Int32} {y0 : Int32} {y1 : Int32} (k1 : (¬ x3 = (-1)) → Go G (fr G m_SU_above (d + 2) P) 25 [some (.ref o0), some (.ref o1), some (.int x2), some (.int x3), none, none, none, none, none, none, none, none, none, none, none, none, none, none, none, none, none, none, none, none] [.int 1, .int (y0 - y1)] I J) (k2 : (x3 = (-1)) → Go G (fr G m_SU_above (d + 2) P) 25 [some (.ref o0), some (.ref o1), some (.int x2), some (.int x3), none, none, none, none, none, none, none, none, none, none, none, none, none, none, none, none, none, none, none, none] [.int 0, .int (y0 - y1)] I J) : Go G (fr G m_SU_above (d + 2) P) 14 [some (.ref o0), some (.ref o1), some (.int x2), some (.int x3), none, none, none, none, none, none, none, none, none, none, none, none, none, none, none, none, none, none, none, none] [.int y1, .int y0] I J := by
  refine g_isub dc_SU_above_14 rfl ?_
  refine g_iload_n dc_SU_above_15 rfl rfl rfl ?_
  refine g_iconst (v := (-1)) dc_SU_above_16 rfl (by decide) ?_
  refine g_ic_ne (tgt := 24) dc_SU_above_17 rfl (by decide) (fun c1 => ?_) (fun c1 => ?_)
  · refine g_iconst (v := 1) dc_SU_above_24 rfl (by decide) ?_
    exact (k1 c1)
  · refine g_iconst (v := 0) dc_SU_above_20 rfl (by decide) ?_
    refine g_goto (tgt := 25) dc_SU_above_21 (by decide) ?_
    exact (k2 c1)
theorem w_SU_above_25 {G : GC} {d : Nat} {P : PT} {I : MI} {J : MJ} {o0 : Nat} (h0 : SumAt o0) {o1 : Nat} (h1 : PtsAt o1) {x2 : Int32} {x3 : Int32} {y0 : Int32} {y1 : Int32} (b1 : (¬ x2 = (-1)) → vp_in x2 40) (k2 : (¬ x2 = (-1)) → Go G (fr G m_SU_above (d + 2) P) 45 [some (.ref o0), some (.ref o1), some (.int x2), some (.int x3), some (.long (Int32.toInt64 (y0 - y1))), none, none, none, none, none, none, none, none, none, none, none, none, none, none, none, none, none, none, none] [.long (Int32.toInt64 (I (o1 + 3) x2.toNatClampNeg))] I J) (k3 : (x2 = (-1)) → Go G (fr G m_SU_above (d + 2) P) 45 [some (.ref o0), some (.ref o1), some (.int x2), some (.int x3), some (.long (Int32.toInt64 (y0 - y1))), none, none, none, none, none, none, none, none, none, none, none, none, none, none, none, none, none, none, none] [.long 0] I J) : Go G (fr G m_SU_above (d + 2) P) 25 [some (.ref o0), some (.ref o1), some (.int x2), some (.int x3), none, none, none, none, none, none, none, none, none, none, none, none, none, none, none, none, none, none, none, none] [.int y1, .int y0] I J := by
  refine g_isub dc_SU_above_25 rfl ?_
  refine g_i2l dc_SU_above_26 rfl ?_
  refine g_lstore (L' := [some (.ref o0), some (.ref o1), some (.int x2), some (.int x3), some (.long (Int32.toInt64 (y0 - y1))), none, none, none, none, none, none, none, none, none, none, none, none, none, none, none, none, none, none, none]) dc_SU_above_27 rfl (Nat.le_of_ble_eq_true rfl) rfl ?_
  refine g_iload_n dc_SU_above_29 rfl rfl rfl ?_
  refine g_iconst (v := (-1)) dc_SU_above_30 rfl (by decide) ?_
  refine g_ic_ne (tgt := 38) dc_SU_above_31 rfl (by decide) (fun c1 => ?_) (fun c1 => ?_)
  · refine g_aload_n dc_SU_above_38 rfl rfl rfl ?_
    refine g_get (C := "LevelBreaks$Points") (T := T_PO) (N := 5) (k := 2) (v := .ref (o1 + 3)) h1.1 (by decide) rfl rfl i_PO (by decide) fl_SU_34 (Or.inl rfl) rfl dc_SU_above_39 rfl ?_
    refine g_iload_n dc_SU_above_42 rfl rfl rfl ?_
    refine g_ialdv (v := (I (o1 + 3) x2.toNatClampNeg)) h1.2.2.2.1 (b1 c1) rfl dc_SU_above_43 rfl ?_
    refine g_i2l dc_SU_above_44 rfl ?_
    exact (k2 c1)
  · refine g_lconst (v := 0) dc_SU_above_34 rfl (by decide) ?_
    refine g_goto (tgt := 45) dc_SU_above_35 (by decide) ?_
    exact (k3 c1)
theorem w_SU_above_45 {G : GC} {d : Nat} {P : PT} {I : MI} {J : MJ} {o0 : Nat} (h0 : SumAt o0) {o1 : Nat} (h1 : PtsAt o1) {x2 : Int32} {x3 : Int32} {l4 : Int64} {s0 : Int64} (b1 : (¬ x3 = (-1)) → vp_in x3 40) (k2 : (¬ x3 = (-1)) → Go G (fr G m_SU_above (d + 2) P) 63 [some (.ref o0), some (.ref o1), some (.int x2), some (.int x3), some (.long l4), none, some (.long s0), none, none, none, none, none, none, none, none, none, none, none, none, none, none, none, none, none] [.long (Int32.toInt64 (I (o1 + 3) x3.toNatClampNeg))] I J) (k3 : (x3 = (-1)) → Go G (fr G m_SU_above (d + 2) P) 63 [some (.ref o0), some (.ref o1), some (.int x2), some (.int x3), some (.long l4), none, some (.long s0), none, none, none, none, none, none, none, none, none, none, none, none, none, none, none, none, none] [.long 0] I J) : Go G (fr G m_SU_above (d + 2) P) 45 [some (.ref o0), some (.ref o1), some (.int x2), some (.int x3), some (.long l4), none, none, none, none, none, none, none, none, none, none, none, none, none, none, none, none, none, none, none] [.long s0] I J := by
  refine g_lstore (L' := [some (.ref o0), some (.ref o1), some (.int x2), some (.int x3), some (.long l4), none, some (.long s0), none, none, none, none, none, none, none, none, none, none, none, none, none, none, none, none, none]) dc_SU_above_45 rfl (Nat.le_of_ble_eq_true rfl) rfl ?_
  refine g_iload_n dc_SU_above_47 rfl rfl rfl ?_
  refine g_iconst (v := (-1)) dc_SU_above_48 rfl (by decide) ?_
  refine g_ic_ne (tgt := 56) dc_SU_above_49 rfl (by decide) (fun c1 => ?_) (fun c1 => ?_)
  · refine g_aload_n dc_SU_above_56 rfl rfl rfl ?_
    refine g_get (C := "LevelBreaks$Points") (T := T_PO) (N := 5) (k := 2) (v := .ref (o1 + 3)) h1.1 (by decide) rfl rfl i_PO (by decide) fl_SU_34 (Or.inl rfl) rfl dc_SU_above_57 rfl ?_
    refine g_iload_n dc_SU_above_60 rfl rfl rfl ?_
    refine g_ialdv (v := (I (o1 + 3) x3.toNatClampNeg)) h1.2.2.2.1 (b1 c1) rfl dc_SU_above_61 rfl ?_
    refine g_i2l dc_SU_above_62 rfl ?_
    exact (k2 c1)
  · refine g_lconst (v := 0) dc_SU_above_52 rfl (by decide) ?_
    refine g_goto (tgt := 63) dc_SU_above_53 (by decide) ?_
    exact (k3 c1)
theorem w_SU_above_63 {G : GC} {d : Nat} {P : PT} {I : MI} {J : MJ} {o0 : Nat} (h0 : SumAt o0) {o1 : Nat} (h1 : PtsAt o1) {x2 : Int32} {x3 : Int32} {l4 : Int64} {l6 : Int64} {s0 : Int64} (b1 : (¬ (J o0 1) = 0) → (¬ x2 = (-1)) → vp_in x2 40) (k2 : (¬ (J o0 1) = 0) → (¬ x2 = (-1)) → Go G (fr G m_SU_above (d + 2) P) 132 [some (.ref o0), some (.ref o1), none, some (.int x3), some (.long l4), none, some (.long l6), none, some (.long s0), none, some (.long (((J o0 2) - l6) - s0)), none, some (.long ((l4 * (((J o0 3) - (l6 * l6)) - (s0 * s0))) - ((((J o0 2) - l6) - s0) * (((J o0 2) - l6) - s0)))), none, none, none, none, none, none, none, none, none, none, none] [.long (Int32.toInt64 (I (o1 + 2) x2.toNatClampNeg))] I J) (k3 : (¬ (J o0 1) = 0) → (x2 = (-1)) → Go G (fr G m_SU_above (d + 2) P) 132 [some (.ref o0), some (.ref o1), none, some (.int x3), some (.long l4), none, some (.long l6), none, some (.long s0), none, some (.long (((J o0 2) - l6) - s0)), none, some (.long ((l4 * (((J o0 3) - (l6 * l6)) - (s0 * s0))) - ((((J o0 2) - l6) - s0) * (((J o0 2) - l6) - s0)))), none, none, none, none, none, none, none, none, none, none, none] [.long 0] I J) (q4 : ((J o0 1) = 0) → P (some (.long ((l4 * (((J o0 3) - (l6 * l6)) - (s0 * s0))) - ((((J o0 2) - l6) - s0) * (((J o0 2) - l6) - s0))))) I J) : Go G (fr G m_SU_above (d + 2) P) 63 [some (.ref o0), some (.ref o1), some (.int x2), some (.int x3), some (.long l4), none, some (.long l6), none, none, none, none, none, none, none, none, none, none, none, none, none, none, none, none, none] [.long s0] I J := by
  refine g_lstore (L' := [some (.ref o0), some (.ref o1), some (.int x2), some (.int x3), some (.long l4), none, some (.long l6), none, some (.long s0), none, none, none, none, none, none, none, none, none, none, none, none, none, none, none]) dc_SU_above_63 rfl (Nat.le_of_ble_eq_true rfl) rfl ?_
  refine g_aload_n dc_SU_above_65 rfl rfl rfl ?_
  refine g_get (C := "LevelBreaks$Sums") (T := T_SU) (N := 7) (k := 2) (v := .long (J o0 2)) h0.sh (by decide) rfl rfl i_SU (by decide) fl_SU_19 (Or.inl rfl) rfl dc_SU_above_66 rfl ?_
  refine g_lload dc_SU_above_69 rfl rfl ?_
  refine g_lsub dc_SU_above_71 rfl ?_
  refine g_lload dc_SU_above_72 rfl rfl ?_
  refine g_lsub dc_SU_above_74 rfl ?_
  refine g_lstore (L' := [some (.ref o0), some (.ref o1), some (.int x2), some (.int x3), some (.long l4), none, some (.long l6), none, some (.long s0), none, some (.long (((J o0 2) - l6) - s0)), none, none, none, none, none, none, none, none, none, none, none, none, none]) dc_SU_above_75 rfl (Nat.le_of_ble_eq_true rfl) rfl ?_
  refine g_lload dc_SU_above_77 rfl rfl ?_
  refine g_aload_n dc_SU_above_79 rfl rfl rfl ?_
  refine g_get (C := "LevelBreaks$Sums") (T := T_SU) (N := 7) (k := 3) (v := .long (J o0 3)) h0.sh (by decide) rfl rfl i_SU (by decide) fl_SU_22 (Or.inl rfl) rfl dc_SU_above_80 rfl ?_
  refine g_lload dc_SU_above_83 rfl rfl ?_
  refine g_lload dc_SU_above_85 rfl rfl ?_
  refine g_lmul dc_SU_above_87 rfl ?_
  refine g_lsub dc_SU_above_88 rfl ?_
  refine g_lload dc_SU_above_89 rfl rfl ?_
  refine g_lload dc_SU_above_91 rfl rfl ?_
  refine g_lmul dc_SU_above_93 rfl ?_
  refine g_lsub dc_SU_above_94 rfl ?_
  refine g_lmul dc_SU_above_95 rfl ?_
  refine g_lload dc_SU_above_96 rfl rfl ?_
  refine g_lload dc_SU_above_98 rfl rfl ?_
  refine g_lmul dc_SU_above_100 rfl ?_
  refine g_lsub dc_SU_above_101 rfl ?_
  refine g_lstore (L' := [some (.ref o0), some (.ref o1), some (.int x2), some (.int x3), some (.long l4), none, some (.long l6), none, some (.long s0), none, some (.long (((J o0 2) - l6) - s0)), none, some (.long ((l4 * (((J o0 3) - (l6 * l6)) - (s0 * s0))) - ((((J o0 2) - l6) - s0) * (((J o0 2) - l6) - s0)))), none, none, none, none, none, none, none, none, none, none, none]) dc_SU_above_102 rfl (Nat.le_of_ble_eq_true rfl) rfl ?_
  refine g_aload_n dc_SU_above_104 rfl rfl rfl ?_
  refine g_get (C := "LevelBreaks$Sums") (T := T_SU) (N := 7) (k := 1) (v := .long (J o0 1)) h0.sh (by decide) rfl rfl i_SU (by decide) fl_SU_9 (Or.inl rfl) rfl dc_SU_above_105 rfl ?_
  refine g_lconst (v := 0) dc_SU_above_108 rfl (by decide) ?_
  refine g_lc_ne (tgt := 116) dc_SU_above_109 rfl dc_SU_above_110 rfl (by decide) (fun c1 => ?_) (fun c1 => ?_)
  · refine g_iload_n dc_SU_above_116 rfl rfl rfl ?_
    refine g_iconst (v := (-1)) dc_SU_above_117 rfl (by decide) ?_
    refine g_ic_ne (tgt := 125) dc_SU_above_118 rfl (by decide) (fun c2 => ?_) (fun c2 => ?_)
    · refine g_aload_n dc_SU_above_125 rfl rfl rfl ?_
      refine g_get (C := "LevelBreaks$Points") (T := T_PO) (N := 5) (k := 1) (v := .ref (o1 + 2)) h1.1 (by decide) rfl rfl i_PO (by decide) fl_SU_40 (Or.inl rfl) rfl dc_SU_above_126 rfl ?_
      refine g_iload_n dc_SU_above_129 rfl rfl rfl ?_
      refine g_ialdv (v := (I (o1 + 2) x2.toNatClampNeg)) h1.2.2.1 (b1 c1 c2) rfl dc_SU_above_130 rfl ?_
      refine g_i2l dc_SU_above_131 rfl ?_
      refine g_weak [some (.ref o0), some (.ref o1), none, some (.int x3), some (.long l4), none, some (.long l6), none, some (.long s0), none, some (.long (((J o0 2) - l6) - s0)), none, some (.long ((l4 * (((J o0 3) - (l6 * l6)) - (s0 * s0))) - ((((J o0 2) - l6) - s0) * (((J o0 2) - l6) - s0)))), none, none, none, none, none, none, none, none, none, none, none] ⟨rfl, ⟨rfl, ⟨rfl, ⟨rfl, ⟨rfl, ⟨rfl, ⟨rfl, ⟨rfl, trivial⟩⟩⟩⟩⟩⟩⟩⟩ ?_
      exact (k2 c1 c2)
    · refine g_lconst (v := 0) dc_SU_above_121 rfl (by decide) ?_
      refine g_goto (tgt := 132) dc_SU_above_122 (by decide) ?_
      refine g_weak [some (.ref o0), some (.ref o1), none, some (.int x3), some (.long l4), none, some (.long l6), none, some (.long s0), none, some (.long (((J o0 2) - l6) - s0)), none, some (.long ((l4 * (((J o0 3) - (l6 * l6)) - (s0 * s0))) - ((((J o0 2) - l6) - s0) * (((J o0 2) - l6) - s0)))), none, none, none, none, none, none, none, none, none, none, none] ⟨rfl, ⟨rfl, ⟨rfl, ⟨rfl, ⟨rfl, ⟨rfl, ⟨rfl, ⟨rfl, trivial⟩⟩⟩⟩⟩⟩⟩⟩ ?_
      exact (k3 c1 c2)
  · refine g_lload dc_SU_above_113 rfl rfl ?_
    exact g_lret rfl dc_SU_above_115 (q4 c1)
theorem w_SU_above_132 {G : GC} {d : Nat} {P : PT} {I : MI} {J : MJ} {o0 : Nat} (h0 : SumAt o0) {o1 : Nat} (h1 : PtsAt o1) {x3 : Int32} {l4 : Int64} {l6 : Int64} {l8 : Int64} {l10 : Int64} {l12 : Int64} {s0 : Int64} (b1 : (¬ x3 = (-1)) → vp_in x3 40) (k2 : (¬ x3 = (-1)) → Go G (fr G m_SU_above (d + 2) P) 150 [some (.ref o0), none, none, none, some (.long l4), none, some (.long l6), none, some (.long l8), none, some (.long l10), none, some (.long l12), none, some (.long s0), none, none, none, none, none, none, none, none, none] [.long (Int32.toInt64 (I (o1 + 2) x3.toNatClampNeg))] I J) (k3 : (x3 = (-1)) → Go G (fr G m_SU_above (d + 2) P) 150 [some (.ref o0), none, none, none, some (.long l4), none, some (.long l6), none, some (.long l8), none, some (.long l10), none, some (.long l12), none, some (.long s0), none, none, none, none, none, none, none, none, none] [.long 0] I J) : Go G (fr G m_SU_above (d + 2) P) 132 [some (.ref o0), some (.ref o1), none, some (.int x3), some (.long l4), none, some (.long l6), none, some (.long l8), none, some (.long l10), none, some (.long l12), none, none, none, none, none, none, none, none, none, none, none] [.long s0] I J := by
  refine g_lstore (L' := [some (.ref o0), some (.ref o1), none, some (.int x3), some (.long l4), none, some (.long l6), none, some (.long l8), none, some (.long l10), none, some (.long l12), none, some (.long s0), none, none, none, none, none, none, none, none, none]) dc_SU_above_132 rfl (Nat.le_of_ble_eq_true rfl) rfl ?_
  refine g_iload_n dc_SU_above_134 rfl rfl rfl ?_
  refine g_iconst (v := (-1)) dc_SU_above_135 rfl (by decide) ?_
  refine g_ic_ne (tgt := 143) dc_SU_above_136 rfl (by decide) (fun c1 => ?_) (fun c1 => ?_)
  · refine g_aload_n dc_SU_above_143 rfl rfl rfl ?_
    refine g_get (C := "LevelBreaks$Points") (T := T_PO) (N := 5) (k := 1) (v := .ref (o1 + 2)) h1.1 (by decide) rfl rfl i_PO (by decide) fl_SU_40 (Or.inl rfl) rfl dc_SU_above_144 rfl ?_
    refine g_iload_n dc_SU_above_147 rfl rfl rfl ?_
    refine g_ialdv (v := (I (o1 + 2) x3.toNatClampNeg)) h1.2.2.1 (b1 c1) rfl dc_SU_above_148 rfl ?_
    refine g_i2l dc_SU_above_149 rfl ?_
    refine g_weak [some (.ref o0), none, none, none, some (.long l4), none, some (.long l6), none, some (.long l8), none, some (.long l10), none, some (.long l12), none, some (.long s0), none, none, none, none, none, none, none, none, none] ⟨rfl, ⟨rfl, ⟨rfl, ⟨rfl, ⟨rfl, ⟨rfl, ⟨rfl, trivial⟩⟩⟩⟩⟩⟩⟩ ?_
    exact (k2 c1)
  · refine g_lconst (v := 0) dc_SU_above_139 rfl (by decide) ?_
    refine g_goto (tgt := 150) dc_SU_above_140 (by decide) ?_
    refine g_weak [some (.ref o0), none, none, none, some (.long l4), none, some (.long l6), none, some (.long l8), none, some (.long l10), none, some (.long l12), none, some (.long s0), none, none, none, none, none, none, none, none, none] ⟨rfl, ⟨rfl, ⟨rfl, ⟨rfl, ⟨rfl, ⟨rfl, ⟨rfl, trivial⟩⟩⟩⟩⟩⟩⟩ ?_
    exact (k3 c1)
theorem w_SU_above_150 {G : GC} {d : Nat} {P : PT} {I : MI} {J : MJ} {o0 : Nat} (h0 : SumAt o0) {l4 : Int64} {l6 : Int64} {l8 : Int64} {l10 : Int64} {l12 : Int64} {l14 : Int64} {s0 : Int64} (k1 : Ct G (d + 1) m_SU_bestTilt [.ref o0, .long ((l4 * (((J o0 5) - (l14 * l14)) - (s0 * s0))) - ((((J o0 4) - l14) - s0) * (((J o0 4) - l14) - s0))), .long ((l4 * (((J o0 6) - (l6 * l14)) - (l8 * s0))) - (l10 * (((J o0 4) - l14) - s0)))] (fun r I' J' => Go G (fr G m_SU_above (d + 2) P) 228 [none, none, none, none, none, none, none, none, none, none, none, none, none, none, none, none, none, none, none, none, none, none, none, none] (r.toList ++ [.long l12]) I' J') I J) : Go G (fr G m_SU_above (d + 2) P) 150 [some (.ref o0), none, none, none, some (.long l4), none, some (.long l6), none, some (.long l8), none, some (.long l10), none, some (.long l12), none, some (.long l14), none, none, none, none, none, none, none, none, none] [.long s0] I J := by
  refine g_lstore (L' := [some (.ref o0), none, none, none, some (.long l4), none, some (.long l6), none, some (.long l8), none, some (.long l10), none, some (.long l12), none, some (.long l14), none, some (.long s0), none, none, none, none, none, none, none]) dc_SU_above_150 rfl (Nat.le_of_ble_eq_true rfl) rfl ?_
  refine g_aload_n dc_SU_above_152 rfl rfl rfl ?_
  refine g_get (C := "LevelBreaks$Sums") (T := T_SU) (N := 7) (k := 4) (v := .long (J o0 4)) h0.sh (by decide) rfl rfl i_SU (by decide) fl_SU_25 (Or.inl rfl) rfl dc_SU_above_153 rfl ?_
  refine g_lload dc_SU_above_156 rfl rfl ?_
  refine g_lsub dc_SU_above_158 rfl ?_
  refine g_lload dc_SU_above_159 rfl rfl ?_
  refine g_lsub dc_SU_above_161 rfl ?_
  refine g_lstore (L' := [some (.ref o0), none, none, none, some (.long l4), none, some (.long l6), none, some (.long l8), none, some (.long l10), none, some (.long l12), none, some (.long l14), none, some (.long s0), none, some (.long (((J o0 4) - l14) - s0)), none, none, none, none, none]) dc_SU_above_162 rfl (Nat.le_of_ble_eq_true rfl) rfl ?_
  refine g_lload dc_SU_above_164 rfl rfl ?_
  refine g_aload_n dc_SU_above_166 rfl rfl rfl ?_
  refine g_get (C := "LevelBreaks$Sums") (T := T_SU) (N := 7) (k := 5) (v := .long (J o0 5)) h0.sh (by decide) rfl rfl i_SU (by decide) fl_SU_28 (Or.inl rfl) rfl dc_SU_above_167 rfl ?_
  refine g_lload dc_SU_above_170 rfl rfl ?_
  refine g_lload dc_SU_above_172 rfl rfl ?_
  refine g_lmul dc_SU_above_174 rfl ?_
  refine g_lsub dc_SU_above_175 rfl ?_
  refine g_lload dc_SU_above_176 rfl rfl ?_
  refine g_lload dc_SU_above_178 rfl rfl ?_
  refine g_lmul dc_SU_above_180 rfl ?_
  refine g_lsub dc_SU_above_181 rfl ?_
  refine g_lmul dc_SU_above_182 rfl ?_
  refine g_lload dc_SU_above_183 rfl rfl ?_
  refine g_lload dc_SU_above_185 rfl rfl ?_
  refine g_lmul dc_SU_above_187 rfl ?_
  refine g_lsub dc_SU_above_188 rfl ?_
  refine g_lstore (L' := [some (.ref o0), none, none, none, some (.long l4), none, some (.long l6), none, some (.long l8), none, some (.long l10), none, some (.long l12), none, some (.long l14), none, some (.long s0), none, some (.long (((J o0 4) - l14) - s0)), none, some (.long ((l4 * (((J o0 5) - (l14 * l14)) - (s0 * s0))) - ((((J o0 4) - l14) - s0) * (((J o0 4) - l14) - s0)))), none, none, none]) dc_SU_above_189 rfl (Nat.le_of_ble_eq_true rfl) rfl ?_
  refine g_lload dc_SU_above_191 rfl rfl ?_
  refine g_aload_n dc_SU_above_193 rfl rfl rfl ?_
  refine g_get (C := "LevelBreaks$Sums") (T := T_SU) (N := 7) (k := 6) (v := .long (J o0 6)) h0.sh (by decide) rfl rfl i_SU (by decide) fl_SU_31 (Or.inl rfl) rfl dc_SU_above_194 rfl ?_
  refine g_lload dc_SU_above_197 rfl rfl ?_
  refine g_lload dc_SU_above_199 rfl rfl ?_
  refine g_lmul dc_SU_above_201 rfl ?_
  refine g_lsub dc_SU_above_202 rfl ?_
  refine g_lload dc_SU_above_203 rfl rfl ?_
  refine g_lload dc_SU_above_205 rfl rfl ?_
  refine g_lmul dc_SU_above_207 rfl ?_
  refine g_lsub dc_SU_above_208 rfl ?_
  refine g_lmul dc_SU_above_209 rfl ?_
  refine g_lload dc_SU_above_210 rfl rfl ?_
  refine g_lload dc_SU_above_212 rfl rfl ?_
  refine g_lmul dc_SU_above_214 rfl ?_
  refine g_lsub dc_SU_above_215 rfl ?_
  refine g_lstore (L' := [some (.ref o0), none, none, none, some (.long l4), none, some (.long l6), none, some (.long l8), none, some (.long l10), none, some (.long l12), none, some (.long l14), none, some (.long s0), none, some (.long (((J o0 4) - l14) - s0)), none, some (.long ((l4 * (((J o0 5) - (l14 * l14)) - (s0 * s0))) - ((((J o0 4) - l14) - s0) * (((J o0 4) - l14) - s0)))), none, some (.long ((l4 * (((J o0 6) - (l6 * l14)) - (l8 * s0))) - (l10 * (((J o0 4) - l14) - s0)))), none]) dc_SU_above_216 rfl (Nat.le_of_ble_eq_true rfl) rfl ?_
  refine g_lload dc_SU_above_218 rfl rfl ?_
  refine g_aload_n dc_SU_above_220 rfl rfl rfl ?_
  refine g_lload dc_SU_above_221 rfl rfl ?_
  refine g_lload dc_SU_above_223 rfl rfl ?_
  refine g_weak [none, none, none, none, none, none, none, none, none, none, none, none, none, none, none, none, none, none, none, none, none, none, none, none] trivial ?_
  exact g_callV (T := T_SU) (N := 7) (As := [.long ((l4 * (((J o0 5) - (l14 * l14)) - (s0 * s0))) - ((((J o0 4) - l14) - s0) * (((J o0 4) - l14) - s0))), .long ((l4 * (((J o0 6) - (l6 * l14)) - (l8 * s0))) - (l10 * (((J o0 4) - l14) - s0)))]) (rest := [.long l12]) ok_SU_bestTilt in_SU_bestTilt se_SU_bestTilt ml_SU_43 h0.sh (by decide) rfl rfl rfl (Nat.le_of_ble_eq_true rfl) dc_SU_above_225 rfl rOk_fr k1
theorem w_SU_above_228 {G : GC} {d : Nat} {P : PT} {I : MI} {J : MJ} {s0 : Int64} {s1 : Int64} (q1 : P (some (.long (s0 + s1))) I J) : Go G (fr G m_SU_above (d + 2) P) 228 [none, none, none, none, none, none, none, none, none, none, none, none, none, none, none, none, none, none, none, none, none, none, none, none] [.long s1, .long s0] I J := by
  refine g_ladd dc_SU_above_228 rfl ?_
  exact g_lret rfl dc_SU_above_229 q1
theorem dc_SU_below_0 : decode prog_12_method_5_code 0 = .ok (.aload_n 0, 1) := by decide +kernel
theorem dc_SU_below_1 : decode prog_12_method_5_code 1 = .ok (.getfield 15, 3) := by decide +kernel
theorem dc_SU_below_4 : decode prog_12_method_5_code 4 = .ok (.iload_n 1, 1) := by decide +kernel
theorem dc_SU_below_5 : decode prog_12_method_5_code 5 = .ok (.isub, 1) := by decide +kernel
theorem dc_SU_below_6 : decode prog_12_method_5_code 6 = .ok (.ireturn, 1) := by decide +kernel
theorem w_SU_below_0 {G : GC} {d : Nat} {P : PT} {I : MI} {J : MJ} {o0 : Nat} (h0 : SumAt o0) {x1 : Int32} (q1 : P (some (.int ((I o0 0) - x1))) I J) : Go G (fr G m_SU_below d P) 0 [some (.ref o0), some (.int x1)] [] I J := by
  refine g_aload_n dc_SU_below_0 rfl rfl rfl ?_
  refine g_get (C := "LevelBreaks$Sums") (T := T_SU) (N := 7) (k := 0) (v := .int (I o0 0)) h0.sh (by decide) rfl rfl i_SU (by decide) fl_SU_15 (Or.inr sf_SU_size) rfl dc_SU_below_1 rfl ?_
  refine g_iload_n dc_SU_below_4 rfl rfl rfl ?_
  refine g_isub dc_SU_below_5 rfl ?_
  exact g_iret rfl dc_SU_below_6 q1
theorem dc_SU_bestTilt_0 : decode prog_12_method_6_code 0 = .ok (.lload_n 1, 1) := by decide +kernel
theorem dc_SU_bestTilt_1 : decode prog_12_method_6_code 1 = .ok (.lconst 0, 1) := by decide +kernel
theorem dc_SU_bestTilt_2 : decode prog_12_method_6_code 2 = .ok (.lcmp, 1) := by decide +kernel
theorem dc_SU_bestTilt_3 : decode prog_12_method_6_code 3 = .ok (.ifCond .gt 5, 3) := by decide +kernel
theorem dc_SU_bestTilt_6 : decode prog_12_method_6_code 6 = .ok (.lconst 0, 1) := by decide +kernel
theorem dc_SU_bestTilt_7 : decode prog_12_method_6_code 7 = .ok (.lreturn, 1) := by decide +kernel
theorem dc_SU_bestTilt_8 : decode prog_12_method_6_code 8 = .ok (.ldc2_w 47, 3) := by decide +kernel
theorem dc_SU_bestTilt_11 : decode prog_12_method_6_code 11 = .ok (.lload_n 3, 1) := by decide +kernel
theorem dc_SU_bestTilt_12 : decode prog_12_method_6_code 12 = .ok (.lmul, 1) := by decide +kernel
theorem dc_SU_bestTilt_13 : decode prog_12_method_6_code 13 = .ok (.lload_n 1, 1) := by decide +kernel
theorem dc_SU_bestTilt_14 : decode prog_12_method_6_code 14 = .ok (.ladd, 1) := by decide +kernel
theorem dc_SU_bestTilt_15 : decode prog_12_method_6_code 15 = .ok (.ldc2_w 47, 3) := by decide +kernel
theorem dc_SU_bestTilt_18 : decode prog_12_method_6_code 18 = .ok (.lload_n 1, 1) := by decide +kernel
theorem dc_SU_bestTilt_19 : decode prog_12_method_6_code 19 = .ok (.lmul, 1) := by decide +kernel
theorem dc_SU_bestTilt_20 : decode prog_12_method_6_code 20 = .ok (.invokestatic 49, 3) := by decide +kernel
theorem dc_SU_bestTilt_23 : decode prog_12_method_6_code 23 = .ok (.lstore 5, 2) := by decide +kernel
theorem dc_SU_bestTilt_25 : decode prog_12_method_6_code 25 = .ok (.aload_n 0, 1) := by decide +kernel
theorem dc_SU_bestTilt_26 : decode prog_12_method_6_code 26 = .ok (.getfield 9, 3) := by decide +kernel
theorem dc_SU_bestTilt_29 : decode prog_12_method_6_code 29 = .ok (.lneg, 1) := by decide +kernel
theorem dc_SU_bestTilt_30 : decode prog_12_method_6_code 30 = .ok (.aload_n 0, 1) := by decide +kernel
theorem dc_SU_bestTilt_31 : decode prog_12_method_6_code 31 = .ok (.getfield 9, 3) := by decide +kernel
theorem dc_SU_bestTilt_34 : decode prog_12_method_6_code 34 = .ok (.lload 5, 2) := by decide +kernel
theorem dc_SU_bestTilt_36 : decode prog_12_method_6_code 36 = .ok (.invokestatic 54, 3) := by decide +kernel
theorem dc_SU_bestTilt_39 : decode prog_12_method_6_code 39 = .ok (.invokestatic 57, 3) := by decide +kernel
theorem dc_SU_bestTilt_42 : decode prog_12_method_6_code 42 = .ok (.lstore 7, 2) := by decide +kernel
theorem dc_SU_bestTilt_44 : decode prog_12_method_6_code 44 = .ok (.lload 7, 2) := by decide +kernel
theorem dc_SU_bestTilt_46 : decode prog_12_method_6_code 46 = .ok (.lload 7, 2) := by decide +kernel
theorem dc_SU_bestTilt_48 : decode prog_12_method_6_code 48 = .ok (.lmul, 1) := by decide +kernel
theorem dc_SU_bestTilt_49 : decode prog_12_method_6_code 49 = .ok (.lload_n 1, 1) := by decide +kernel
theorem dc_SU_bestTilt_50 : decode prog_12_method_6_code 50 = .ok (.lmul, 1) := by decide +kernel
theorem dc_SU_bestTilt_51 : decode prog_12_method_6_code 51 = .ok (.ldc2_w 47, 3) := by decide +kernel
theorem dc_SU_bestTilt_54 : decode prog_12_method_6_code 54 = .ok (.lload 7, 2) := by decide +kernel
theorem dc_SU_bestTilt_56 : decode prog_12_method_6_code 56 = .ok (.lmul, 1) := by decide +kernel
theorem dc_SU_bestTilt_57 : decode prog_12_method_6_code 57 = .ok (.lload_n 3, 1) := by decide +kernel
theorem dc_SU_bestTilt_58 : decode prog_12_method_6_code 58 = .ok (.lmul, 1) := by decide +kernel
theorem dc_SU_bestTilt_59 : decode prog_12_method_6_code 59 = .ok (.lsub, 1) := by decide +kernel
theorem dc_SU_bestTilt_60 : decode prog_12_method_6_code 60 = .ok (.lreturn, 1) := by decide +kernel
theorem w_SU_bestTilt_0 {G : GC} {d : Nat} {P : PT} {I : MI} {J : MJ} {o0 : Nat} (h0 : SumAt o0) {l1 : Int64} {l3 : Int64} (k1 : (0 < l1) → Ct G d m_JM_floorDiv [.long ((2 * l3) + l1), .long (2 * l1)] (fun r I' J' => Go G (fr G m_SU_bestTilt (d + 1) P) 23 [some (.ref o0), some (.long l1), none, some (.long l3), none, none, none, none, none] (r.toList ++ []) I' J') I J) (q2 : (¬ (0 < l1)) → P (some (.long 0)) I J) : Go G (fr G m_SU_bestTilt (d + 1) P) 0 [some (.ref o0), some (.long l1), none, some (.long l3), none, none, none, none, none] [] I J := by
  refine g_lload_n dc_SU_bestTilt_0 rfl rfl rfl ?_
  refine g_lconst (v := 0) dc_SU_bestTilt_1 rfl (by decide) ?_
  refine g_lc_gt (tgt := 8) dc_SU_bestTilt_2 rfl dc_SU_bestTilt_3 rfl (by decide) (fun c1 => ?_) (fun c1 => ?_)
  · refine g_ldc2 (v := 2) kl_SU_47 dc_SU_bestTilt_8 rfl ?_
    refine g_lload_n dc_SU_bestTilt_11 rfl rfl rfl ?_
    refine g_lmul dc_SU_bestTilt_12 rfl ?_
    refine g_lload_n dc_SU_bestTilt_13 rfl rfl rfl ?_
    refine g_ladd dc_SU_bestTilt_14 rfl ?_
    refine g_ldc2 (v := 2) kl_SU_47 dc_SU_bestTilt_15 rfl ?_
    refine g_lload_n dc_SU_bestTilt_18 rfl rfl rfl ?_
    refine g_lmul dc_SU_bestTilt_19 rfl ?_
    exact g_callS (As := [.long ((2 * l3) + l1), .long (2 * l1)]) (rest := []) ok_JM_floorDiv st_JM_floorDiv ml_SU_49 rfl rfl (Nat.le_of_ble_eq_true rfl) dc_SU_bestTilt_20 rfl rOk_fr (k1 c1)
  · refine g_lconst (v := 0) dc_SU_bestTilt_6 rfl (by decide) ?_
    exact g_lret rfl dc_SU_bestTilt_7 (q2 c1)
theorem w_SU_bestTilt_23 {G : GC} {d : Nat} {P : PT} {I : MI} {J : MJ} {o0 : Nat} (h0 : SumAt o0) {l1 : Int64} {l3 : Int64} {s0 : Int64} (q1 : P (some (.long ((((f_JM_max_JJ (0 - (J o0 1)) (f_JM_min_JJ (J o0 1) s0)) * (f_JM_max_JJ (0 - (J o0 1)) (f_JM_min_JJ (J o0 1) s0))) * l1) - ((2 * (f_JM_max_JJ (0 - (J o0 1)) (f_JM_min_JJ (J o0 1) s0))) * l3)))) I J) : Go G (fr G m_SU_bestTilt (d + 1) P) 23 [some (.ref o0), some (.long l1), none, some (.long l3), none, none, none, none, none] [.long s0] I J := by
  refine g_lstore (L' := [some (.ref o0), some (.long l1), none, some (.long l3), none, some (.long s0), none, none, none]) dc_SU_bestTilt_23 rfl (Nat.le_of_ble_eq_true rfl) rfl ?_
  refine g_aload_n dc_SU_bestTilt_25 rfl rfl rfl ?_
  refine g_get (C := "LevelBreaks$Sums") (T := T_SU) (N := 7) (k := 1) (v := .long (J o0 1)) h0.sh (by decide) rfl rfl i_SU (by decide) fl_SU_9 (Or.inl rfl) rfl dc_SU_bestTilt_26 rfl ?_
  refine g_lneg dc_SU_bestTilt_29 rfl ?_
  refine g_aload_n dc_SU_bestTilt_30 rfl rfl rfl ?_
  refine g_get (C := "LevelBreaks$Sums") (T := T_SU) (N := 7) (k := 1) (v := .long (J o0 1)) h0.sh (by decide) rfl rfl i_SU (by decide) fl_SU_9 (Or.inl rfl) rfl dc_SU_bestTilt_31 rfl ?_
  refine g_lload dc_SU_bestTilt_34 rfl rfl ?_
  refine g_callS (M := m_JM_min_JJ) (As := [.long (J o0 1), .long s0]) (rest := [.long (0 - (J o0 1))]) ok_JM_min_JJ st_JM_min_JJ ml_SU_54 rfl rfl (Nat.le_of_ble_eq_true rfl) dc_SU_bestTilt_36 rfl rOk_fr (c_JM_min_JJ ?_)
  show Go G (fr G m_SU_bestTilt (d + 1) P) 39 [some (.ref o0), some (.long l1), none, some (.long l3), none, some (.long s0), none, none, none] [.long (f_JM_min_JJ (J o0 1) s0), .long (0 - (J o0 1))] I J
  refine g_callS (M := m_JM_max_JJ) (As := [.long (0 - (J o0 1)), .long (f_JM_min_JJ (J o0 1) s0)]) (rest := []) ok_JM_max_JJ st_JM_max_JJ ml_SU_57 rfl rfl (Nat.le_of_ble_eq_true rfl) dc_SU_bestTilt_39 rfl rOk_fr (c_JM_max_JJ ?_)
  show Go G (fr G m_SU_bestTilt (d + 1) P) 42 [some (.ref o0), some (.long l1), none, some (.long l3), none, some (.long s0), none, none, none] [.long (f_JM_max_JJ (0 - (J o0 1)) (f_JM_min_JJ (J o0 1) s0))] I J
  refine g_lstore (L' := [some (.ref o0), some (.long l1), none, some (.long l3), none, some (.long s0), none, some (.long (f_JM_max_JJ (0 - (J o0 1)) (f_JM_min_JJ (J o0 1) s0))), none]) dc_SU_bestTilt_42 rfl (Nat.le_of_ble_eq_true rfl) rfl ?_
  refine g_lload dc_SU_bestTilt_44 rfl rfl ?_
  refine g_lload dc_SU_bestTilt_46 rfl rfl ?_
  refine g_lmul dc_SU_bestTilt_48 rfl ?_
  refine g_lload_n dc_SU_bestTilt_49 rfl rfl rfl ?_
  refine g_lmul dc_SU_bestTilt_50 rfl ?_
  refine g_ldc2 (v := 2) kl_SU_47 dc_SU_bestTilt_51 rfl ?_
  refine g_lload dc_SU_bestTilt_54 rfl rfl ?_
  refine g_lmul dc_SU_bestTilt_56 rfl ?_
  refine g_lload_n dc_SU_bestTilt_57 rfl rfl rfl ?_
  refine g_lmul dc_SU_bestTilt_58 rfl ?_
  refine g_lsub dc_SU_bestTilt_59 rfl ?_
  exact g_lret rfl dc_SU_bestTilt_60 q1
theorem dc_SU_extend_0 : decode prog_12_method_3_code 0 = .ok (.aload_n 1, 1) := by decide +kernel
theorem dc_SU_extend_1 : decode prog_12_method_3_code 1 = .ok (.getfield 34, 3) := by decide +kernel
theorem dc_SU_extend_4 : decode prog_12_method_3_code 4 = .ok (.iload_n 2, 1) := by decide +kernel
theorem dc_SU_extend_5 : decode prog_12_method_3_code 5 = .ok (.iaload, 1) := by decide +kernel
theorem dc_SU_extend_6 : decode prog_12_method_3_code 6 = .ok (.i2l, 1) := by decide +kernel
theorem dc_SU_extend_7 : decode prog_12_method_3_code 7 = .ok (.lstore_n 3, 1) := by decide +kernel
theorem dc_SU_extend_8 : decode prog_12_method_3_code 8 = .ok (.aload_n 1, 1) := by decide +kernel
theorem dc_SU_extend_9 : decode prog_12_method_3_code 9 = .ok (.getfield 40, 3) := by decide +kernel
theorem dc_SU_extend_12 : decode prog_12_method_3_code 12 = .ok (.iload_n 2, 1) := by decide +kernel
theorem dc_SU_extend_13 : decode prog_12_method_3_code 13 = .ok (.iaload, 1) := by decide +kernel
theorem dc_SU_extend_14 : decode prog_12_method_3_code 14 = .ok (.i2l, 1) := by decide +kernel
theorem dc_SU_extend_15 : decode prog_12_method_3_code 15 = .ok (.lstore 5, 2) := by decide +kernel
theorem dc_SU_extend_17 : decode prog_12_method_3_code 17 = .ok (.aload_n 0, 1) := by decide +kernel
theorem dc_SU_extend_18 : decode prog_12_method_3_code 18 = .ok (.dup, 1) := by decide +kernel
theorem dc_SU_extend_19 : decode prog_12_method_3_code 19 = .ok (.getfield 15, 3) := by decide +kernel
theorem dc_SU_extend_22 : decode prog_12_method_3_code 22 = .ok (.iconst 1, 1) := by decide +kernel
theorem dc_SU_extend_23 : decode prog_12_method_3_code 23 = .ok (.iadd, 1) := by decide +kernel
theorem dc_SU_extend_24 : decode prog_12_method_3_code 24 = .ok (.putfield 15, 3) := by decide +kernel
theorem dc_SU_extend_27 : decode prog_12_method_3_code 27 = .ok (.aload_n 0, 1) := by decide +kernel
theorem dc_SU_extend_28 : decode prog_12_method_3_code 28 = .ok (.dup, 1) := by decide +kernel
theorem dc_SU_extend_29 : decode prog_12_method_3_code 29 = .ok (.getfield 19, 3) := by decide +kernel
theorem dc_SU_extend_32 : decode prog_12_method_3_code 32 = .ok (.lload_n 3, 1) := by decide +kernel
theorem dc_SU_extend_33 : decode prog_12_method_3_code 33 = .ok (.ladd, 1) := by decide +kernel
theorem dc_SU_extend_34 : decode prog_12_method_3_code 34 = .ok (.putfield 19, 3) := by decide +kernel
theorem dc_SU_extend_37 : decode prog_12_method_3_code 37 = .ok (.aload_n 0, 1) := by decide +kernel
theorem dc_SU_extend_38 : decode prog_12_method_3_code 38 = .ok (.dup, 1) := by decide +kernel
theorem dc_SU_extend_39 : decode prog_12_method_3_code 39 = .ok (.getfield 22, 3) := by decide +kernel
theorem dc_SU_extend_42 : decode prog_12_method_3_code 42 = .ok (.lload_n 3, 1) := by decide +kernel
theorem dc_SU_extend_43 : decode prog_12_method_3_code 43 = .ok (.lload_n 3, 1) := by decide +kernel
theorem dc_SU_extend_44 : decode prog_12_method_3_code 44 = .ok (.lmul, 1) := by decide +kernel
theorem dc_SU_extend_45 : decode prog_12_method_3_code 45 = .ok (.ladd, 1) := by decide +kernel
theorem dc_SU_extend_46 : decode prog_12_method_3_code 46 = .ok (.putfield 22, 3) := by decide +kernel
theorem dc_SU_extend_49 : decode prog_12_method_3_code 49 = .ok (.aload_n 0, 1) := by decide +kernel
theorem dc_SU_extend_50 : decode prog_12_method_3_code 50 = .ok (.dup, 1) := by decide +kernel
theorem dc_SU_extend_51 : decode prog_12_method_3_code 51 = .ok (.getfield 25, 3) := by decide +kernel
theorem dc_SU_extend_54 : decode prog_12_method_3_code 54 = .ok (.lload 5, 2) := by decide +kernel
theorem dc_SU_extend_56 : decode prog_12_method_3_code 56 = .ok (.ladd, 1) := by decide +kernel
theorem dc_SU_extend_57 : decode prog_12_method_3_code 57 = .ok (.putfield 25, 3) := by decide +kernel
theorem dc_SU_extend_60 : decode prog_12_method_3_code 60 = .ok (.aload_n 0, 1) := by decide +kernel
theorem dc_SU_extend_61 : decode prog_12_method_3_code 61 = .ok (.dup, 1) := by decide +kernel
theorem dc_SU_extend_62 : decode prog_12_method_3_code 62 = .ok (.getfield 28, 3) := by decide +kernel
theorem dc_SU_extend_65 : decode prog_12_method_3_code 65 = .ok (.lload 5, 2) := by decide +kernel
theorem dc_SU_extend_67 : decode prog_12_method_3_code 67 = .ok (.lload 5, 2) := by decide +kernel
theorem dc_SU_extend_69 : decode prog_12_method_3_code 69 = .ok (.lmul, 1) := by decide +kernel
theorem dc_SU_extend_70 : decode prog_12_method_3_code 70 = .ok (.ladd, 1) := by decide +kernel
theorem dc_SU_extend_71 : decode prog_12_method_3_code 71 = .ok (.putfield 28, 3) := by decide +kernel
theorem dc_SU_extend_74 : decode prog_12_method_3_code 74 = .ok (.aload_n 0, 1) := by decide +kernel
theorem dc_SU_extend_75 : decode prog_12_method_3_code 75 = .ok (.dup, 1) := by decide +kernel
theorem dc_SU_extend_76 : decode prog_12_method_3_code 76 = .ok (.getfield 31, 3) := by decide +kernel
theorem dc_SU_extend_79 : decode prog_12_method_3_code 79 = .ok (.lload_n 3, 1) := by decide +kernel
theorem dc_SU_extend_80 : decode prog_12_method_3_code 80 = .ok (.lload 5, 2) := by decide +kernel
theorem dc_SU_extend_82 : decode prog_12_method_3_code 82 = .ok (.lmul, 1) := by decide +kernel
theorem dc_SU_extend_83 : decode prog_12_method_3_code 83 = .ok (.ladd, 1) := by decide +kernel
theorem dc_SU_extend_84 : decode prog_12_method_3_code 84 = .ok (.putfield 31, 3) := by decide +kernel
theorem dc_SU_extend_87 : decode prog_12_method_3_code 87 = .ok (.return_, 1) := by decide +kernel
theorem w_SU_extend_0 {G : GC} {d : Nat} {P : PT} {I : MI} {J : MJ} {o0 : Nat} (h0 : SumAt o0) {o1 : Nat} (h1 : PtsAt o1) {x2 : Int32} (b1 : vp_in x2 40) (q2 : P none (u2 I o0 0 ((I o0 0) + 1)) (u2 (u2 (u2 (u2 (u2 J o0 2 ((J o0 2) + (Int32.toInt64 (I (o1 + 3) x2.toNatClampNeg)))) o0 3 ((J o0 3) + ((Int32.toInt64 (I (o1 + 3) x2.toNatClampNeg)) * (Int32.toInt64 (I (o1 + 3) x2.toNatClampNeg))))) o0 4 ((J o0 4) + (Int32.toInt64 (I (o1 + 2) x2.toNatClampNeg)))) o0 5 ((J o0 5) + ((Int32.toInt64 (I (o1 + 2) x2.toNatClampNeg)) * (Int32.toInt64 (I (o1 + 2) x2.toNatClampNeg))))) o0 6 ((J o0 6) + ((Int32.toInt64 (I (o1 + 3) x2.toNatClampNeg)) * (Int32.toInt64 (I (o1 + 2) x2.toNatClampNeg)))))) : Go G (fr G m_SU_extend d P) 0 [some (.ref o0), some (.ref o1), some (.int x2), none, none, none, none] [] I J := by
  refine g_aload_n dc_SU_extend_0 rfl rfl rfl ?_
  refine g_get (C := "LevelBreaks$Points") (T := T_PO) (N := 5) (k := 2) (v := .ref (o1 + 3)) h1.1 (by decide) rfl rfl i_PO (by decide) fl_SU_34 (Or.inl rfl) rfl dc_SU_extend_1 rfl ?_
  refine g_iload_n dc_SU_extend_4 rfl rfl rfl ?_
  refine g_ialdv (v := (I (o1 + 3) x2.toNatClampNeg)) h1.2.2.2.1 b1 rfl dc_SU_extend_5 rfl ?_
  refine g_i2l dc_SU_extend_6 rfl ?_
  refine g_lstore_n (L' := [some (.ref o0), some (.ref o1), some (.int x2), some (.long (Int32.toInt64 (I (o1 + 3) x2.toNatClampNeg))), none, none, none]) dc_SU_extend_7 rfl rfl (Nat.le_of_ble_eq_true rfl) rfl ?_
  refine g_aload_n dc_SU_extend_8 rfl rfl rfl ?_
  refine g_get (C := "LevelBreaks$Points") (T := T_PO) (N := 5) (k := 1) (v := .ref (o1 + 2)) h1.1 (by decide) rfl rfl i_PO (by decide) fl_SU_40 (Or.inl rfl) rfl dc_SU_extend_9 rfl ?_
  refine g_iload_n dc_SU_extend_12 rfl rfl rfl ?_
  refine g_ialdv (v := (I (o1 + 2) x2.toNatClampNeg)) h1.2.2.1 b1 rfl dc_SU_extend_13 rfl ?_
  refine g_i2l dc_SU_extend_14 rfl ?_
  refine g_lstore (L' := [some (.ref o0), some (.ref o1), some (.int x2), some (.long (Int32.toInt64 (I (o1 + 3) x2.toNatClampNeg))), none, some (.long (Int32.toInt64 (I (o1 + 2) x2.toNatClampNeg))), none]) dc_SU_extend_15 rfl (Nat.le_of_ble_eq_true rfl) rfl ?_
  refine g_aload_n dc_SU_extend_17 rfl rfl rfl ?_
  refine g_dup dc_SU_extend_18 rfl rfl ?_
  refine g_get (C := "LevelBreaks$Sums") (T := T_SU) (N := 7) (k := 0) (v := .int (I o0 0)) h0.sh (by decide) rfl rfl i_SU (by decide) fl_SU_15 (Or.inr sf_SU_size) rfl dc_SU_extend_19 rfl ?_
  refine g_iconst (v := 1) dc_SU_extend_22 rfl (by decide) ?_
  refine g_iadd dc_SU_extend_23 rfl ?_
  refine g_putI (C := "LevelBreaks$Sums") (T := T_SU) (N := 7) (k := 0) (ty := t_SU) h0.sh (by decide) rfl rfl i_SU p_SU n_SU (by decide) fl_SU_15 (Or.inr sf_SU_size) rfl (by decide) dc_SU_extend_24 rfl ?_
  refine g_aload_n dc_SU_extend_27 rfl rfl rfl ?_
  refine g_dup dc_SU_extend_28 rfl rfl ?_
  refine g_get (C := "LevelBreaks$Sums") (T := T_SU) (N := 7) (k := 2) (v := .long (J o0 2)) h0.sh (by decide) rfl rfl i_SU (by decide) fl_SU_19 (Or.inl rfl) rfl dc_SU_extend_29 rfl ?_
  refine g_lload_n dc_SU_extend_32 rfl rfl rfl ?_
  refine g_ladd dc_SU_extend_33 rfl ?_
  refine g_putJ (C := "LevelBreaks$Sums") (T := T_SU) (N := 7) (k := 2) (ty := t_SU) h0.sh (by decide) rfl rfl i_SU p_SU n_SU (by decide) fl_SU_19 (Or.inl rfl) rfl (by decide) dc_SU_extend_34 rfl ?_
  refine g_aload_n dc_SU_extend_37 rfl rfl rfl ?_
  refine g_dup dc_SU_extend_38 rfl rfl ?_
  refine g_get (C := "LevelBreaks$Sums") (T := T_SU) (N := 7) (k := 3) (v := .long (J o0 3)) h0.sh (by decide) rfl rfl i_SU (by decide) fl_SU_22 (Or.inl rfl) (by simp [fvA, u2]) dc_SU_extend_39 rfl ?_
  refine g_lload_n dc_SU_extend_42 rfl rfl rfl ?_
  refine g_lload_n dc_SU_extend_43 rfl rfl rfl ?_
  refine g_lmul dc_SU_extend_44 rfl ?_
  refine g_ladd dc_SU_extend_45 rfl ?_
  refine g_putJ (C := "LevelBreaks$Sums") (T := T_SU) (N := 7) (k := 3) (ty := t_SU) h0.sh (by decide) rfl rfl i_SU p_SU n_SU (by decide) fl_SU_22 (Or.inl rfl) rfl (by decide) dc_SU_extend_46 rfl ?_
  refine g_aload_n dc_SU_extend_49 rfl rfl rfl ?_
  refine g_dup dc_SU_extend_50 rfl rfl ?_
  refine g_get (C := "LevelBreaks$Sums") (T := T_SU) (N := 7) (k := 4) (v := .long (J o0 4)) h0.sh (by decide) rfl rfl i_SU (by decide) fl_SU_25 (Or.inl rfl) (by simp [fvA, u2]) dc_SU_extend_51 rfl ?_
  refine g_lload dc_SU_extend_54 rfl rfl ?_
  refine g_ladd dc_SU_extend_56 rfl ?_
  refine g_putJ (C := "LevelBreaks$Sums") (T := T_SU) (N := 7) (k := 4) (ty := t_SU) h0.sh (by decide) rfl rfl i_SU p_SU n_SU (by decide) fl_SU_25 (Or.inl rfl) rfl (by decide) dc_SU_extend_57 rfl ?_
  refine g_aload_n dc_SU_extend_60 rfl rfl rfl ?_
  refine g_dup dc_SU_extend_61 rfl rfl ?_
  refine g_get (C := "LevelBreaks$Sums") (T := T_SU) (N := 7) (k := 5) (v := .long (J o0 5)) h0.sh (by decide) rfl rfl i_SU (by decide) fl_SU_28 (Or.inl rfl) (by simp [fvA, u2]) dc_SU_extend_62 rfl ?_
  refine g_lload dc_SU_extend_65 rfl rfl ?_
  refine g_lload dc_SU_extend_67 rfl rfl ?_
  refine g_lmul dc_SU_extend_69 rfl ?_
  refine g_ladd dc_SU_extend_70 rfl ?_
  refine g_putJ (C := "LevelBreaks$Sums") (T := T_SU) (N := 7) (k := 5) (ty := t_SU) h0.sh (by decide) rfl rfl i_SU p_SU n_SU (by decide) fl_SU_28 (Or.inl rfl) rfl (by decide) dc_SU_extend_71 rfl ?_
  refine g_aload_n dc_SU_extend_74 rfl rfl rfl ?_
  refine g_dup dc_SU_extend_75 rfl rfl ?_
  refine g_get (C := "LevelBreaks$Sums") (T := T_SU) (N := 7) (k := 6) (v := .long (J o0 6)) h0.sh (by decide) rfl rfl i_SU (by decide) fl_SU_31 (Or.inl rfl) (by simp [fvA, u2]) dc_SU_extend_76 rfl ?_
  refine g_lload_n dc_SU_extend_79 rfl rfl rfl ?_
  refine g_lload dc_SU_extend_80 rfl rfl ?_
  refine g_lmul dc_SU_extend_82 rfl ?_
  refine g_ladd dc_SU_extend_83 rfl ?_
  refine g_putJ (C := "LevelBreaks$Sums") (T := T_SU) (N := 7) (k := 6) (ty := t_SU) h0.sh (by decide) rfl rfl i_SU p_SU n_SU (by decide) fl_SU_31 (Or.inl rfl) rfl (by decide) dc_SU_extend_84 rfl ?_
  exact g_vret rfl dc_SU_extend_87 q2
theorem dc_SU_restart_0 : decode prog_12_method_2_code 0 = .ok (.aload_n 0, 1) := by decide +kernel
theorem dc_SU_restart_1 : decode prog_12_method_2_code 1 = .ok (.iconst 0, 1) := by decide +kernel
theorem dc_SU_restart_2 : decode prog_12_method_2_code 2 = .ok (.putfield 15, 3) := by decide +kernel
theorem dc_SU_restart_5 : decode prog_12_method_2_code 5 = .ok (.aload_n 0, 1) := by decide +kernel
theorem dc_SU_restart_6 : decode prog_12_method_2_code 6 = .ok (.lconst 0, 1) := by decide +kernel
theorem dc_SU_restart_7 : decode prog_12_method_2_code 7 = .ok (.putfield 19, 3) := by decide +kernel
theorem dc_SU_restart_10 : decode prog_12_method_2_code 10 = .ok (.aload_n 0, 1) := by decide +kernel
theorem dc_SU_restart_11 : decode prog_12_method_2_code 11 = .ok (.lconst 0, 1) := by decide +kernel
theorem dc_SU_restart_12 : decode prog_12_method_2_code 12 = .ok (.putfield 22, 3) := by decide +kernel
theorem dc_SU_restart_15 : decode prog_12_method_2_code 15 = .ok (.aload_n 0, 1) := by decide +kernel
theorem dc_SU_restart_16 : decode prog_12_method_2_code 16 = .ok (.lconst 0, 1) := by decide +kernel
theorem dc_SU_restart_17 : decode prog_12_method_2_code 17 = .ok (.putfield 25, 3) := by decide +kernel
theorem dc_SU_restart_20 : decode prog_12_method_2_code 20 = .ok (.aload_n 0, 1) := by decide +kernel
theorem dc_SU_restart_21 : decode prog_12_method_2_code 21 = .ok (.lconst 0, 1) := by decide +kernel
theorem dc_SU_restart_22 : decode prog_12_method_2_code 22 = .ok (.putfield 28, 3) := by decide +kernel
theorem dc_SU_restart_25 : decode prog_12_method_2_code 25 = .ok (.aload_n 0, 1) := by decide +kernel
theorem dc_SU_restart_26 : decode prog_12_method_2_code 26 = .ok (.lconst 0, 1) := by decide +kernel
theorem dc_SU_restart_27 : decode prog_12_method_2_code 27 = .ok (.putfield 31, 3) := by decide +kernel
theorem dc_SU_restart_30 : decode prog_12_method_2_code 30 = .ok (.return_, 1) := by decide +kernel
theorem w_SU_restart_0 {G : GC} {d : Nat} {P : PT} {I : MI} {J : MJ} {o0 : Nat} (h0 : SumAt o0) (q1 : P none (u2 I o0 0 0) (u2 (u2 (u2 (u2 (u2 J o0 2 0) o0 3 0) o0 4 0) o0 5 0) o0 6 0)) : Go G (fr G m_SU_restart d P) 0 [some (.ref o0)] [] I J := by
  refine g_aload_n dc_SU_restart_0 rfl rfl rfl ?_
  refine g_iconst (v := 0) dc_SU_restart_1 rfl (by decide) ?_
  refine g_putI (C := "LevelBreaks$Sums") (T := T_SU) (N := 7) (k := 0) (ty := t_SU) h0.sh (by decide) rfl rfl i_SU p_SU n_SU (by decide) fl_SU_15 (Or.inr sf_SU_size) rfl (by decide) dc_SU_restart_2 rfl ?_
  refine g_aload_n dc_SU_restart_5 rfl rfl rfl ?_
  refine g_lconst (v := 0) dc_SU_restart_6 rfl (by decide) ?_
  refine g_putJ (C := "LevelBreaks$Sums") (T := T_SU) (N := 7) (k := 2) (ty := t_SU) h0.sh (by decide) rfl rfl i_SU p_SU n_SU (by decide) fl_SU_19 (Or.inl rfl) rfl (by decide) dc_SU_restart_7 rfl ?_
  refine g_aload_n dc_SU_restart_10 rfl rfl rfl ?_
  refine g_lconst (v := 0) dc_SU_restart_11 rfl (by decide) ?_
  refine g_putJ (C := "LevelBreaks$Sums") (T := T_SU) (N := 7) (k := 3) (ty := t_SU) h0.sh (by decide) rfl rfl i_SU p_SU n_SU (by decide) fl_SU_22 (Or.inl rfl) rfl (by decide) dc_SU_restart_12 rfl ?_
  refine g_aload_n dc_SU_restart_15 rfl rfl rfl ?_
  refine g_lconst (v := 0) dc_SU_restart_16 rfl (by decide) ?_
  refine g_putJ (C := "LevelBreaks$Sums") (T := T_SU) (N := 7) (k := 4) (ty := t_SU) h0.sh (by decide) rfl rfl i_SU p_SU n_SU (by decide) fl_SU_25 (Or.inl rfl) rfl (by decide) dc_SU_restart_17 rfl ?_
  refine g_aload_n dc_SU_restart_20 rfl rfl rfl ?_
  refine g_lconst (v := 0) dc_SU_restart_21 rfl (by decide) ?_
  refine g_putJ (C := "LevelBreaks$Sums") (T := T_SU) (N := 7) (k := 5) (ty := t_SU) h0.sh (by decide) rfl rfl i_SU p_SU n_SU (by decide) fl_SU_28 (Or.inl rfl) rfl (by decide) dc_SU_restart_22 rfl ?_
  refine g_aload_n dc_SU_restart_25 rfl rfl rfl ?_
  refine g_lconst (v := 0) dc_SU_restart_26 rfl (by decide) ?_
  refine g_putJ (C := "LevelBreaks$Sums") (T := T_SU) (N := 7) (k := 6) (ty := t_SU) h0.sh (by decide) rfl rfl i_SU p_SU n_SU (by decide) fl_SU_31 (Or.inl rfl) rfl (by decide) dc_SU_restart_27 rfl ?_
  exact g_vret rfl dc_SU_restart_30 q1
theorem dc_MI_above_0 : decode prog_8_method_4_code 0 = .ok (.iload_n 2, 1) := by decide +kernel
theorem dc_MI_above_1 : decode prog_8_method_4_code 1 = .ok (.iconst (-1), 1) := by decide +kernel
theorem dc_MI_above_2 : decode prog_8_method_4_code 2 = .ok (.if_icmp .ne 8, 3) := by decide +kernel
theorem dc_MI_above_5 : decode prog_8_method_4_code 5 = .ok (.aload_n 0, 1) := by decide +kernel
theorem dc_MI_above_6 : decode prog_8_method_4_code 6 = .ok (.getfield 19, 3) := by decide +kernel
theorem dc_MI_above_9 : decode prog_8_method_4_code 9 = .ok (.lreturn, 1) := by decide +kernel
theorem dc_MI_above_10 : decode prog_8_method_4_code 10 = .ok (.aload_n 1, 1) := by decide +kernel
theorem dc_MI_above_11 : decode prog_8_method_4_code 11 = .ok (.getfield 23, 3) := by decide +kernel
theorem dc_MI_above_14 : decode prog_8_method_4_code 14 = .ok (.iload_n 2, 1) := by decide +kernel
theorem dc_MI_above_15 : decode prog_8_method_4_code 15 = .ok (.iaload, 1) := by decide +kernel
theorem dc_MI_above_16 : decode prog_8_method_4_code 16 = .ok (.istore 4, 2) := by decide +kernel
theorem dc_MI_above_18 : decode prog_8_method_4_code 18 = .ok (.aload_n 0, 1) := by decide +kernel
theorem dc_MI_above_19 : decode prog_8_method_4_code 19 = .ok (.getfield 19, 3) := by decide +kernel
theorem dc_MI_above_22 : decode prog_8_method_4_code 22 = .ok (.aload_n 0, 1) := by decide +kernel
theorem dc_MI_above_23 : decode prog_8_method_4_code 23 = .ok (.iload 4, 2) := by decide +kernel
theorem dc_MI_above_25 : decode prog_8_method_4_code 25 = .ok (.aload_n 0, 1) := by decide +kernel
theorem dc_MI_above_26 : decode prog_8_method_4_code 26 = .ok (.getfield 15, 3) := by decide +kernel
theorem dc_MI_above_29 : decode prog_8_method_4_code 29 = .ok (.iconst 1, 1) := by decide +kernel
theorem dc_MI_above_30 : decode prog_8_method_4_code 30 = .ok (.isub, 1) := by decide +kernel
theorem dc_MI_above_31 : decode prog_8_method_4_code 31 = .ok (.iload 4, 2) := by decide +kernel
theorem dc_MI_above_33 : decode prog_8_method_4_code 33 = .ok (.sipush 1001, 3) := by decide +kernel
theorem dc_MI_above_36 : decode prog_8_method_4_code 36 = .ok (.invokevirtual 28, 3) := by decide +kernel
theorem dc_MI_above_39 : decode prog_8_method_4_code 39 = .ok (.i2l, 1) := by decide +kernel
theorem dc_MI_above_40 : decode prog_8_method_4_code 40 = .ok (.lsub, 1) := by decide +kernel
theorem dc_MI_above_41 : decode prog_8_method_4_code 41 = .ok (.lstore 5, 2) := by decide +kernel
theorem dc_MI_above_43 : decode prog_8_method_4_code 43 = .ok (.iload_n 3, 1) := by decide +kernel
theorem dc_MI_above_44 : decode prog_8_method_4_code 44 = .ok (.iconst (-1), 1) := by decide +kernel
theorem dc_MI_above_45 : decode prog_8_method_4_code 45 = .ok (.if_icmp .ne 6, 3) := by decide +kernel
theorem dc_MI_above_48 : decode prog_8_method_4_code 48 = .ok (.lload 5, 2) := by decide +kernel
theorem dc_MI_above_50 : decode prog_8_method_4_code 50 = .ok (.lreturn, 1) := by decide +kernel
theorem dc_MI_above_51 : decode prog_8_method_4_code 51 = .ok (.aload_n 1, 1) := by decide +kernel
theorem dc_MI_above_52 : decode prog_8_method_4_code 52 = .ok (.getfield 23, 3) := by decide +kernel
theorem dc_MI_above_55 : decode prog_8_method_4_code 55 = .ok (.iload_n 3, 1) := by decide +kernel
theorem dc_MI_above_56 : decode prog_8_method_4_code 56 = .ok (.iaload, 1) := by decide +kernel
theorem dc_MI_above_57 : decode prog_8_method_4_code 57 = .ok (.istore 7, 2) := by decide +kernel
theorem dc_MI_above_59 : decode prog_8_method_4_code 59 = .ok (.lload 5, 2) := by decide +kernel
theorem dc_MI_above_61 : decode prog_8_method_4_code 61 = .ok (.aload_n 0, 1) := by decide +kernel
theorem dc_MI_above_62 : decode prog_8_method_4_code 62 = .ok (.iload 7, 2) := by decide +kernel
theorem dc_MI_above_64 : decode prog_8_method_4_code 64 = .ok (.aload_n 0, 1) := by decide +kernel
theorem dc_MI_above_65 : decode prog_8_method_4_code 65 = .ok (.getfield 15, 3) := by decide +kernel
theorem dc_MI_above_68 : decode prog_8_method_4_code 68 = .ok (.iconst 2, 1) := by decide +kernel
theorem dc_MI_above_69 : decode prog_8_method_4_code 69 = .ok (.isub, 1) := by decide +kernel
theorem dc_MI_above_70 : decode prog_8_method_4_code 70 = .ok (.iload 4, 2) := by decide +kernel
theorem dc_MI_above_72 : decode prog_8_method_4_code 72 = .ok (.iload 7, 2) := by decide +kernel
theorem dc_MI_above_74 : decode prog_8_method_4_code 74 = .ok (.invokestatic 32, 3) := by decide +kernel
theorem dc_MI_above_77 : decode prog_8_method_4_code 77 = .ok (.iload 4, 2) := by decide +kernel
theorem dc_MI_above_79 : decode prog_8_method_4_code 79 = .ok (.iload 7, 2) := by decide +kernel
theorem dc_MI_above_81 : decode prog_8_method_4_code 81 = .ok (.invokestatic 38, 3) := by decide +kernel
theorem dc_MI_above_84 : decode prog_8_method_4_code 84 = .ok (.invokevirtual 28, 3) := by decide +kernel
theorem dc_MI_above_87 : decode prog_8_method_4_code 87 = .ok (.i2l, 1) := by decide +kernel
theorem dc_MI_above_88 : decode prog_8_method_4_code 88 = .ok (.lsub, 1) := by decide +kernel
theorem dc_MI_above_89 : decode prog_8_method_4_code 89 = .ok (.lreturn, 1) := by decide +kernel
theorem w_MI_above_0 {G : GC} {d : Nat} {P : PT} {I : MI} {J : MJ} {o1 : Nat} (h1 : PtsAt o1) {x2 : Int32} {x3 : Int32} (b1 : (¬ x2 = (-1)) → vp_in x2 40) (k2 : (¬ x2 = (-1)) → Ct G (d + 1) m_MI_outside [.ref 36, .int (I (o1 + 3) x2.toNatClampNeg), .int ((I 36 0) - 1), .int (I (o1 + 3) x2.toNatClampNeg), .int 1001] (fun r I' J' => Go G (fr G m_MI_above (d + 2) P) 39 [some (.ref 36), some (.ref o1), none, some (.int x3), some (.int (I (o1 + 3) x2.toNatClampNeg)), none, none, none] (r.toList ++ [.long (J 36 2)]) I' J') I J) (q3 : (x2 = (-1)) → P (some (.long (J 36 2))) I J) : Go G (fr G m_MI_above (d + 2) P) 0 [some (.ref 36), some (.ref o1), some (.int x2), some (.int x3), none, none, none, none] [] I J := by
  refine g_iload_n dc_MI_above_0 rfl rfl rfl ?_
  refine g_iconst (v := (-1)) dc_MI_above_1 rfl (by decide) ?_
  refine g_ic_ne (tgt := 10) dc_MI_above_2 rfl (by decide) (fun c1 => ?_) (fun c1 => ?_)
  · refine g_aload_n dc_MI_above_10 rfl rfl rfl ?_
    refine g_get (C := "LevelBreaks$Points") (T := T_PO) (N := 5) (k := 2) (v := .ref (o1 + 3)) h1.1 (by decide) rfl rfl i_PO (by decide) fl_MI_23 (Or.inl rfl) rfl dc_MI_above_11 rfl ?_
    refine g_iload_n dc_MI_above_14 rfl rfl rfl ?_
    refine g_ialdv (v := (I (o1 + 3) x2.toNatClampNeg)) h1.2.2.2.1 (b1 c1) rfl dc_MI_above_15 rfl ?_
    refine g_istore (L' := [some (.ref 36), some (.ref o1), some (.int x2), some (.int x3), some (.int (I (o1 + 3) x2.toNatClampNeg)), none, none, none]) dc_MI_above_16 rfl (Nat.le_of_ble_eq_true rfl) rfl ?_
    refine g_aload_n dc_MI_above_18 rfl rfl rfl ?_
    refine g_get (C := "LevelBreaks$Middle") (T := T_MI) (N := 3) (k := 2) (v := .long (J 36 2)) sh_36 (by decide) rfl rfl i_MI (by decide) fl_MI_19 (Or.inl rfl) rfl dc_MI_above_19 rfl ?_
    refine g_aload_n dc_MI_above_22 rfl rfl rfl ?_
    refine g_iload dc_MI_above_23 rfl rfl ?_
    refine g_aload_n dc_MI_above_25 rfl rfl rfl ?_
    refine g_get (C := "LevelBreaks$Middle") (T := T_MI) (N := 3) (k := 0) (v := .int (I 36 0)) sh_36 (by decide) rfl rfl i_MI (by decide) fl_MI_15 (Or.inr sf_MI_size) rfl dc_MI_above_26 rfl ?_
    refine g_iconst (v := 1) dc_MI_above_29 rfl (by decide) ?_
    refine g_isub dc_MI_above_30 rfl ?_
    refine g_iload dc_MI_above_31 rfl rfl ?_
    refine g_sipush (v := 1001) dc_MI_above_33 rfl (by decide) ?_
    refine g_weak [some (.ref 36), some (.ref o1), none, some (.int x3), some (.int (I (o1 + 3) x2.toNatClampNeg)), none, none, none] ⟨rfl, ⟨rfl, ⟨rfl, ⟨rfl, trivial⟩⟩⟩⟩ ?_
    exact g_callV (T := T_MI) (N := 3) (As := [.int (I (o1 + 3) x2.toNatClampNeg), .int ((I 36 0) - 1), .int (I (o1 + 3) x2.toNatClampNeg), .int 1001]) (rest := [.long (J 36 2)]) ok_MI_outside in_MI_outside se_MI_outside ml_MI_28 sh_36 (by decide) rfl rfl rfl (Nat.le_of_ble_eq_true rfl) dc_MI_above_36 rfl rOk_fr (k2 c1)
  · refine g_aload_n dc_MI_above_5 rfl rfl rfl ?_
    refine g_get (C := "LevelBreaks$Middle") (T := T_MI) (N := 3) (k := 2) (v := .long (J 36 2)) sh_36 (by decide) rfl rfl i_MI (by decide) fl_MI_19 (Or.inl rfl) rfl dc_MI_above_6 rfl ?_
    exact g_lret rfl dc_MI_above_9 (q3 c1)
theorem w_MI_above_39 {G : GC} {d : Nat} {P : PT} {I : MI} {J : MJ} {o1 : Nat} (h1 : PtsAt o1) {x3 : Int32} {x4 : Int32} {s0 : Int64} {y1 : Int32} (b1 : (¬ x3 = (-1)) → vp_in x3 40) (k2 : (¬ x3 = (-1)) → Ct G (d + 1) m_MI_outside [.ref 36, .int (I (o1 + 3) x3.toNatClampNeg), .int ((I 36 0) - 2), .int (f_JM_min_II x4 (I (o1 + 3) x3.toNatClampNeg)), .int (f_JM_max_II x4 (I (o1 + 3) x3.toNatClampNeg))] (fun r I' J' => Go G (fr G m_MI_above (d + 2) P) 87 [none, none, none, none, none, none, none, none] (r.toList ++ [.long (s0 - (Int32.toInt64 y1))]) I' J') I J) (q3 : (x3 = (-1)) → P (some (.long (s0 - (Int32.toInt64 y1)))) I J) : Go G (fr G m_MI_above (d + 2) P) 39 [some (.ref 36), some (.ref o1), none, some (.int x3), some (.int x4), none, none, none] [.int y1, .long s0] I J := by
  refine g_i2l dc_MI_above_39 rfl ?_
  refine g_lsub dc_MI_above_40 rfl ?_
  refine g_lstore (L' := [some (.ref 36), some (.ref o1), none, some (.int x3), some (.int x4), some (.long (s0 - (Int32.toInt64 y1))), none, none]) dc_MI_above_41 rfl (Nat.le_of_ble_eq_true rfl) rfl ?_
  refine g_iload_n dc_MI_above_43 rfl rfl rfl ?_
  refine g_iconst (v := (-1)) dc_MI_above_44 rfl (by decide) ?_
  refine g_ic_ne (tgt := 51) dc_MI_above_45 rfl (by decide) (fun c1 => ?_) (fun c1 => ?_)
  · refine g_aload_n dc_MI_above_51 rfl rfl rfl ?_
    refine g_get (C := "LevelBreaks$Points") (T := T_PO) (N := 5) (k := 2) (v := .ref (o1 + 3)) h1.1 (by decide) rfl rfl i_PO (by decide) fl_MI_23 (Or.inl rfl) rfl dc_MI_above_52 rfl ?_
    refine g_iload_n dc_MI_above_55 rfl rfl rfl ?_
    refine g_ialdv (v := (I (o1 + 3) x3.toNatClampNeg)) h1.2.2.2.1 (b1 c1) rfl dc_MI_above_56 rfl ?_
    refine g_istore (L' := [some (.ref 36), some (.ref o1), none, some (.int x3), some (.int x4), some (.long (s0 - (Int32.toInt64 y1))), none, some (.int (I (o1 + 3) x3.toNatClampNeg))]) dc_MI_above_57 rfl (Nat.le_of_ble_eq_true rfl) rfl ?_
    refine g_lload dc_MI_above_59 rfl rfl ?_
    refine g_aload_n dc_MI_above_61 rfl rfl rfl ?_
    refine g_iload dc_MI_above_62 rfl rfl ?_
    refine g_aload_n dc_MI_above_64 rfl rfl rfl ?_
    refine g_get (C := "LevelBreaks$Middle") (T := T_MI) (N := 3) (k := 0) (v := .int (I 36 0)) sh_36 (by decide) rfl rfl i_MI (by decide) fl_MI_15 (Or.inr sf_MI_size) rfl dc_MI_above_65 rfl ?_
    refine g_iconst (v := 2) dc_MI_above_68 rfl (by decide) ?_
    refine g_isub dc_MI_above_69 rfl ?_
    refine g_iload dc_MI_above_70 rfl rfl ?_
    refine g_iload dc_MI_above_72 rfl rfl ?_
    refine g_callS (M := m_JM_min_II) (As := [.int x4, .int (I (o1 + 3) x3.toNatClampNeg)]) (rest := [.int ((I 36 0) - 2), .int (I (o1 + 3) x3.toNatClampNeg), .ref 36, .long (s0 - (Int32.toInt64 y1))]) ok_JM_min_II st_JM_min_II ml_MI_32 rfl rfl (Nat.le_of_ble_eq_true rfl) dc_MI_above_74 rfl rOk_fr (c_JM_min_II ?_)
    show Go G (fr G m_MI_above (d + 2) P) 77 [some (.ref 36), some (.ref o1), none, some (.int x3), some (.int x4), some (.long (s0 - (Int32.toInt64 y1))), none, some (.int (I (o1 + 3) x3.toNatClampNeg))] [.int (f_JM_min_II x4 (I (o1 + 3) x3.toNatClampNeg)), .int ((I 36 0) - 2), .int (I (o1 + 3) x3.toNatClampNeg), .ref 36, .long (s0 - (Int32.toInt64 y1))] I J
    refine g_iload dc_MI_above_77 rfl rfl ?_
    refine g_iload dc_MI_above_79 rfl rfl ?_
    refine g_callS (M := m_JM_max_II) (As := [.int x4, .int (I (o1 + 3) x3.toNatClampNeg)]) (rest := [.int (f_JM_min_II x4 (I (o1 + 3) x3.toNatClampNeg)), .int ((I 36 0) - 2), .int (I (o1 + 3) x3.toNatClampNeg), .ref 36, .long (s0 - (Int32.toInt64 y1))]) ok_JM_max_II st_JM_max_II ml_MI_38 rfl rfl (Nat.le_of_ble_eq_true rfl) dc_MI_above_81 rfl rOk_fr (c_JM_max_II ?_)
    show Go G (fr G m_MI_above (d + 2) P) 84 [some (.ref 36), some (.ref o1), none, some (.int x3), some (.int x4), some (.long (s0 - (Int32.toInt64 y1))), none, some (.int (I (o1 + 3) x3.toNatClampNeg))] [.int (f_JM_max_II x4 (I (o1 + 3) x3.toNatClampNeg)), .int (f_JM_min_II x4 (I (o1 + 3) x3.toNatClampNeg)), .int ((I 36 0) - 2), .int (I (o1 + 3) x3.toNatClampNeg), .ref 36, .long (s0 - (Int32.toInt64 y1))] I J
    refine g_weak [none, none, none, none, none, none, none, none] trivial ?_
    exact g_callV (T := T_MI) (N := 3) (As := [.int (I (o1 + 3) x3.toNatClampNeg), .int ((I 36 0) - 2), .int (f_JM_min_II x4 (I (o1 + 3) x3.toNatClampNeg)), .int (f_JM_max_II x4 (I (o1 + 3) x3.toNatClampNeg))]) (rest := [.long (s0 - (Int32.toInt64 y1))]) ok_MI_outside in_MI_outside se_MI_outside ml_MI_28 sh_36 (by decide) rfl rfl rfl (Nat.le_of_ble_eq_true rfl) dc_MI_above_84 rfl rOk_fr (k2 c1)
  · refine g_lload dc_MI_above_48 rfl rfl ?_
    exact g_lret rfl dc_MI_above_50 (q3 c1)
theorem w_MI_above_87 {G : GC} {d : Nat} {P : PT} {I : MI} {J : MJ} {s0 : Int64} {y1 : Int32} (q1 : P (some (.long (s0 - (Int32.toInt64 y1)))) I J) : Go G (fr G m_MI_above (d + 2) P) 87 [none, none, none, none, none, none, none, none] [.int y1, .long s0] I J := by
  refine g_i2l dc_MI_above_87 rfl ?_
  refine g_lsub dc_MI_above_88 rfl ?_
  exact g_lret rfl dc_MI_above_89 q1
theorem dc_MI_below_0 : decode prog_8_method_5_code 0 = .ok (.iconst 1, 1) := by decide +kernel
theorem dc_MI_below_1 : decode prog_8_method_5_code 1 = .ok (.ireturn, 1) := by decide +kernel
theorem w_MI_below_0 {G : GC} {d : Nat} {P : PT} {I : MI} {J : MJ}  (q1 : P (some (.int 1)) I J) : Go G (fr G m_MI_below d P) 0 [none, none] [] I J := by
  refine g_iconst (v := 1) dc_MI_below_0 rfl (by decide) ?_
  exact g_iret rfl dc_MI_below_1 q1
theorem dc_MI_extend_0 : decode prog_8_method_3_code 0 = .ok (.aload_n 0, 1) := by decide +kernel
theorem dc_MI_extend_1 : decode prog_8_method_3_code 1 = .ok (.getfield 15, 3) := by decide +kernel
theorem dc_MI_extend_4 : decode prog_8_method_3_code 4 = .ok (.bipush 40, 2) := by decide +kernel
theorem dc_MI_extend_6 : decode prog_8_method_3_code 6 = .ok (.if_icmp .lt 4, 3) := by decide +kernel
theorem dc_MI_extend_9 : decode prog_8_method_3_code 9 = .ok (.return_, 1) := by decide +kernel
theorem dc_MI_extend_10 : decode prog_8_method_3_code 10 = .ok (.aload_n 1, 1) := by decide +kernel
theorem dc_MI_extend_11 : decode prog_8_method_3_code 11 = .ok (.getfield 23, 3) := by decide +kernel
theorem dc_MI_extend_14 : decode prog_8_method_3_code 14 = .ok (.iload_n 2, 1) := by decide +kernel
theorem dc_MI_extend_15 : decode prog_8_method_3_code 15 = .ok (.iaload, 1) := by decide +kernel
theorem dc_MI_extend_16 : decode prog_8_method_3_code 16 = .ok (.istore_n 3, 1) := by decide +kernel
theorem dc_MI_extend_17 : decode prog_8_method_3_code 17 = .ok (.aload_n 0, 1) := by decide +kernel
theorem dc_MI_extend_18 : decode prog_8_method_3_code 18 = .ok (.dup, 1) := by decide +kernel
theorem dc_MI_extend_19 : decode prog_8_method_3_code 19 = .ok (.getfield 19, 3) := by decide +kernel
theorem dc_MI_extend_22 : decode prog_8_method_3_code 22 = .ok (.aload_n 0, 1) := by decide +kernel
theorem dc_MI_extend_23 : decode prog_8_method_3_code 23 = .ok (.iload_n 3, 1) := by decide +kernel
theorem dc_MI_extend_24 : decode prog_8_method_3_code 24 = .ok (.aload_n 0, 1) := by decide +kernel
theorem dc_MI_extend_25 : decode prog_8_method_3_code 25 = .ok (.getfield 15, 3) := by decide +kernel
theorem dc_MI_extend_28 : decode prog_8_method_3_code 28 = .ok (.sipush 1001, 3) := by decide +kernel
theorem dc_MI_extend_31 : decode prog_8_method_3_code 31 = .ok (.sipush 1001, 3) := by decide +kernel
theorem dc_MI_extend_34 : decode prog_8_method_3_code 34 = .ok (.invokevirtual 28, 3) := by decide +kernel
theorem dc_MI_extend_37 : decode prog_8_method_3_code 37 = .ok (.i2l, 1) := by decide +kernel
theorem dc_MI_extend_38 : decode prog_8_method_3_code 38 = .ok (.ladd, 1) := by decide +kernel
theorem dc_MI_extend_39 : decode prog_8_method_3_code 39 = .ok (.putfield 19, 3) := by decide +kernel
theorem dc_MI_extend_42 : decode prog_8_method_3_code 42 = .ok (.aload_n 0, 1) := by decide +kernel
theorem dc_MI_extend_43 : decode prog_8_method_3_code 43 = .ok (.getfield 15, 3) := by decide +kernel
theorem dc_MI_extend_46 : decode prog_8_method_3_code 46 = .ok (.istore 4, 2) := by decide +kernel
theorem dc_MI_extend_48 : decode prog_8_method_3_code 48 = .ok (.iload 4, 2) := by decide +kernel
theorem dc_MI_extend_50 : decode prog_8_method_3_code 50 = .ok (.ifCond .le 38, 3) := by decide +kernel
theorem dc_MI_extend_53 : decode prog_8_method_3_code 53 = .ok (.aload_n 0, 1) := by decide +kernel
theorem dc_MI_extend_54 : decode prog_8_method_3_code 54 = .ok (.getfield 9, 3) := by decide +kernel
theorem dc_MI_extend_57 : decode prog_8_method_3_code 57 = .ok (.iload 4, 2) := by decide +kernel
theorem dc_MI_extend_59 : decode prog_8_method_3_code 59 = .ok (.iconst 1, 1) := by decide +kernel
theorem dc_MI_extend_60 : decode prog_8_method_3_code 60 = .ok (.isub, 1) := by decide +kernel
theorem dc_MI_extend_61 : decode prog_8_method_3_code 61 = .ok (.iaload, 1) := by decide +kernel
theorem dc_MI_extend_62 : decode prog_8_method_3_code 62 = .ok (.iload_n 3, 1) := by decide +kernel
theorem dc_MI_extend_63 : decode prog_8_method_3_code 63 = .ok (.if_icmp .le 25, 3) := by decide +kernel
theorem dc_MI_extend_66 : decode prog_8_method_3_code 66 = .ok (.aload_n 0, 1) := by decide +kernel
theorem dc_MI_extend_67 : decode prog_8_method_3_code 67 = .ok (.getfield 9, 3) := by decide +kernel
theorem dc_MI_extend_70 : decode prog_8_method_3_code 70 = .ok (.iload 4, 2) := by decide +kernel
theorem dc_MI_extend_72 : decode prog_8_method_3_code 72 = .ok (.aload_n 0, 1) := by decide +kernel
theorem dc_MI_extend_73 : decode prog_8_method_3_code 73 = .ok (.getfield 9, 3) := by decide +kernel
theorem dc_MI_extend_76 : decode prog_8_method_3_code 76 = .ok (.iload 4, 2) := by decide +kernel
theorem dc_MI_extend_78 : decode prog_8_method_3_code 78 = .ok (.iconst 1, 1) := by decide +kernel
theorem dc_MI_extend_79 : decode prog_8_method_3_code 79 = .ok (.isub, 1) := by decide +kernel
theorem dc_MI_extend_80 : decode prog_8_method_3_code 80 = .ok (.iaload, 1) := by decide +kernel
theorem dc_MI_extend_81 : decode prog_8_method_3_code 81 = .ok (.iastore, 1) := by decide +kernel
theorem dc_MI_extend_82 : decode prog_8_method_3_code 82 = .ok (.iinc 4 (-1), 3) := by decide +kernel
theorem dc_MI_extend_85 : decode prog_8_method_3_code 85 = .ok (.goto (-37), 3) := by decide +kernel
theorem dc_MI_extend_88 : decode prog_8_method_3_code 88 = .ok (.aload_n 0, 1) := by decide +kernel
theorem dc_MI_extend_89 : decode prog_8_method_3_code 89 = .ok (.getfield 9, 3) := by decide +kernel
theorem dc_MI_extend_92 : decode prog_8_method_3_code 92 = .ok (.iload 4, 2) := by decide +kernel
theorem dc_MI_extend_94 : decode prog_8_method_3_code 94 = .ok (.iload_n 3, 1) := by decide +kernel
theorem dc_MI_extend_95 : decode prog_8_method_3_code 95 = .ok (.iastore, 1) := by decide +kernel
theorem dc_MI_extend_96 : decode prog_8_method_3_code 96 = .ok (.aload_n 0, 1) := by decide +kernel
theorem dc_MI_extend_97 : decode prog_8_method_3_code 97 = .ok (.dup, 1) := by decide +kernel
theorem dc_MI_extend_98 : decode prog_8_method_3_code 98 = .ok (.getfield 15, 3) := by decide +kernel
theorem dc_MI_extend_101 : decode prog_8_method_3_code 101 = .ok (.iconst 1, 1) := by decide +kernel
theorem dc_MI_extend_102 : decode prog_8_method_3_code 102 = .ok (.iadd, 1) := by decide +kernel
theorem dc_MI_extend_103 : decode prog_8_method_3_code 103 = .ok (.putfield 15, 3) := by decide +kernel
theorem dc_MI_extend_106 : decode prog_8_method_3_code 106 = .ok (.return_, 1) := by decide +kernel
theorem w_MI_extend_0 {G : GC} {d : Nat} {P : PT} {I : MI} {J : MJ} {o1 : Nat} (h1 : PtsAt o1) {x2 : Int32} (b1 : ((I 36 0) < 40) → vp_in x2 40) (k2 : ((I 36 0) < 40) → Ct G (d + 1) m_MI_outside [.ref 36, .int (I (o1 + 3) x2.toNatClampNeg), .int (I 36 0), .int 1001, .int 1001] (fun r I' J' => Go G (fr G m_MI_extend (d + 2) P) 37 [some (.ref 36), none, none, some (.int (I (o1 + 3) x2.toNatClampNeg)), none] (r.toList ++ [.long (J 36 2), .ref 36]) I' J') I J) (q3 : (¬ ((I 36 0) < 40)) → P none I J) : Go G (fr G m_MI_extend (d + 2) P) 0 [some (.ref 36), some (.ref o1), some (.int x2), none, none] [] I J := by
  refine g_aload_n dc_MI_extend_0 rfl rfl rfl ?_
  refine g_get (C := "LevelBreaks$Middle") (T := T_MI) (N := 3) (k := 0) (v := .int (I 36 0)) sh_36 (by decide) rfl rfl i_MI (by decide) fl_MI_15 (Or.inr sf_MI_size) rfl dc_MI_extend_1 rfl ?_
  refine g_bipush (v := 40) dc_MI_extend_4 rfl (by decide) ?_
  refine g_ic_lt (tgt := 10) dc_MI_extend_6 rfl (by decide) (fun c1 => ?_) (fun c1 => ?_)
  · refine g_aload_n dc_MI_extend_10 rfl rfl rfl ?_
    refine g_get (C := "LevelBreaks$Points") (T := T_PO) (N := 5) (k := 2) (v := .ref (o1 + 3)) h1.1 (by decide) rfl rfl i_PO (by decide) fl_MI_23 (Or.inl rfl) rfl dc_MI_extend_11 rfl ?_
    refine g_iload_n dc_MI_extend_14 rfl rfl rfl ?_
    refine g_ialdv (v := (I (o1 + 3) x2.toNatClampNeg)) h1.2.2.2.1 (b1 c1) rfl dc_MI_extend_15 rfl ?_
    refine g_istore_n (L' := [some (.ref 36), some (.ref o1), some (.int x2), some (.int (I (o1 + 3) x2.toNatClampNeg)), none]) dc_MI_extend_16 rfl rfl (Nat.le_of_ble_eq_true rfl) rfl ?_
    refine g_aload_n dc_MI_extend_17 rfl rfl rfl ?_
    refine g_dup dc_MI_extend_18 rfl rfl ?_
    refine g_get (C := "LevelBreaks$Middle") (T := T_MI) (N := 3) (k := 2) (v := .long (J 36 2)) sh_36 (by decide) rfl rfl i_MI (by decide) fl_MI_19 (Or.inl rfl) rfl dc_MI_extend_19 rfl ?_
    refine g_aload_n dc_MI_extend_22 rfl rfl rfl ?_
    refine g_iload_n dc_MI_extend_23 rfl rfl rfl ?_
    refine g_aload_n dc_MI_extend_24 rfl rfl rfl ?_
    refine g_get (C := "LevelBreaks$Middle") (T := T_MI) (N := 3) (k := 0) (v := .int (I 36 0)) sh_36 (by decide) rfl rfl i_MI (by decide) fl_MI_15 (Or.inr sf_MI_size) rfl dc_MI_extend_25 rfl ?_
    refine g_sipush (v := 1001) dc_MI_extend_28 rfl (by decide) ?_
    refine g_sipush (v := 1001) dc_MI_extend_31 rfl (by decide) ?_
    refine g_weak [some (.ref 36), none, none, some (.int (I (o1 + 3) x2.toNatClampNeg)), none] ⟨rfl, ⟨rfl, trivial⟩⟩ ?_
    exact g_callV (T := T_MI) (N := 3) (As := [.int (I (o1 + 3) x2.toNatClampNeg), .int (I 36 0), .int 1001, .int 1001]) (rest := [.long (J 36 2), .ref 36]) ok_MI_outside in_MI_outside se_MI_outside ml_MI_28 sh_36 (by decide) rfl rfl rfl (Nat.le_of_ble_eq_true rfl) dc_MI_extend_34 rfl rOk_fr (k2 c1)
  · exact g_vret rfl dc_MI_extend_9 (q3 c1)
theorem w_MI_extend_37 {G : GC} {d : Nat} {P : PT} {I : MI} {J : MJ} {x3 : Int32} {s1 : Int64} {y2 : Int32} (k1 : Go G (fr G m_MI_extend (d + 2) P) 48 [some (.ref 36), none, none, some (.int x3), some (.int (I 36 0))] [] I (u2 J 36 2 (s1 + (Int32.toInt64 y2)))) : Go G (fr G m_MI_extend (d + 2) P) 37 [some (.ref 36), none, none, some (.int x3), none] [.int y2, .long s1, .ref 36] I J := by
  refine g_i2l dc_MI_extend_37 rfl ?_
  refine g_ladd dc_MI_extend_38 rfl ?_
  refine g_putJ (C := "LevelBreaks$Middle") (T := T_MI) (N := 3) (k := 2) (ty := t_MI) sh_36 (by decide) rfl rfl i_MI p_MI n_MI (by decide) fl_MI_19 (Or.inl rfl) rfl (by decide) dc_MI_extend_39 rfl ?_
  refine g_aload_n dc_MI_extend_42 rfl rfl rfl ?_
  refine g_get (C := "LevelBreaks$Middle") (T := T_MI) (N := 3) (k := 0) (v := .int (I 36 0)) sh_36 (by decide) rfl rfl i_MI (by decide) fl_MI_15 (Or.inr sf_MI_size) rfl dc_MI_extend_43 rfl ?_
  refine g_istore (L' := [some (.ref 36), none, none, some (.int x3), some (.int (I 36 0))]) dc_MI_extend_46 rfl (Nat.le_of_ble_eq_true rfl) rfl ?_
  exact k1
theorem w_MI_extend_48 {G : GC} {d : Nat} {P : PT} {I : MI} {J : MJ} {x3 : Int32} {x4 : Int32} (k1 : (x4 ≤ 0) → Go G (fr G m_MI_extend (d + 2) P) 88 [some (.ref 36), none, none, some (.int x3), some (.int x4)] [] I J) (b2 : (¬ (x4 ≤ 0)) → vp_in (x4 - 1) 40) (k3 : (¬ (x4 ≤ 0)) → ((I 37 (x4 - 1).toNatClampNeg) ≤ x3) → Go G (fr G m_MI_extend (d + 2) P) 88 [some (.ref 36), none, none, some (.int x3), some (.int x4)] [] I J) (b4 : (¬ (x4 ≤ 0)) → (¬ ((I 37 (x4 - 1).toNatClampNeg) ≤ x3)) → vp_in x4 40) (k5 : (¬ (x4 ≤ 0)) → (¬ ((I 37 (x4 - 1).toNatClampNeg) ≤ x3)) → Go G (fr G m_MI_extend (d + 2) P) 48 [some (.ref 36), none, none, some (.int x3), some (.int (x4 + (-1)))] [] (u2 I 37 x4.toNatClampNeg (I 37 (x4 - 1).toNatClampNeg)) J) : Go G (fr G m_MI_extend (d + 2) P) 48 [some (.ref 36), none, none, some (.int x3), some (.int x4)] [] I J := by
  refine g_iload dc_MI_extend_48 rfl rfl ?_
  refine g_if_le (tgt := 88) dc_MI_extend_50 rfl (by decide) (fun c1 => ?_) (fun c1 => ?_)
  · exact (k1 c1)
  · refine g_aload_n dc_MI_extend_53 rfl rfl rfl ?_
    refine g_get (C := "LevelBreaks$Middle") (T := T_MI) (N := 3) (k := 1) (v := .ref 37) sh_36 (by decide) rfl rfl i_MI (by decide) fl_MI_9 (Or.inl rfl) rfl dc_MI_extend_54 rfl ?_
    refine g_iload dc_MI_extend_57 rfl rfl ?_
    refine g_iconst (v := 1) dc_MI_extend_59 rfl (by decide) ?_
    refine g_isub dc_MI_extend_60 rfl ?_
    refine g_ialdv (v := (I 37 (x4 - 1).toNatClampNeg)) sh_37 (b2 c1) rfl dc_MI_extend_61 rfl ?_
    refine g_iload_n dc_MI_extend_62 rfl rfl rfl ?_
    refine g_ic_le (tgt := 88) dc_MI_extend_63 rfl (by decide) (fun c2 => ?_) (fun c2 => ?_)
    · exact (k3 c1 c2)
    · refine g_aload_n dc_MI_extend_66 rfl rfl rfl ?_
      refine g_get (C := "LevelBreaks$Middle") (T := T_MI) (N := 3) (k := 1) (v := .ref 37) sh_36 (by decide) rfl rfl i_MI (by decide) fl_MI_9 (Or.inl rfl) rfl dc_MI_extend_67 rfl ?_
      refine g_iload dc_MI_extend_70 rfl rfl ?_
      refine g_aload_n dc_MI_extend_72 rfl rfl rfl ?_
      refine g_get (C := "LevelBreaks$Middle") (T := T_MI) (N := 3) (k := 1) (v := .ref 37) sh_36 (by decide) rfl rfl i_MI (by decide) fl_MI_9 (Or.inl rfl) rfl dc_MI_extend_73 rfl ?_
      refine g_iload dc_MI_extend_76 rfl rfl ?_
      refine g_iconst (v := 1) dc_MI_extend_78 rfl (by decide) ?_
      refine g_isub dc_MI_extend_79 rfl ?_
      refine g_ialdv (v := (I 37 (x4 - 1).toNatClampNeg)) sh_37 (b2 c1) rfl dc_MI_extend_80 rfl ?_
      refine g_iast sh_37 (b4 c1 c2) dc_MI_extend_81 rfl ?_
      refine g_iinc (v := (x4 + (-1))) (L' := [some (.ref 36), none, none, some (.int x3), some (.int (x4 + (-1)))]) dc_MI_extend_82 rfl rfl (by rw [show Int32.ofInt (-1) = (-1) from by decide]) (Nat.le_of_ble_eq_true rfl) rfl ?_
      refine g_goto (tgt := 48) dc_MI_extend_85 (by decide) ?_
      exact (k5 c1 c2)
theorem w_MI_extend_88 {G : GC} {d : Nat} {P : PT} {I : MI} {J : MJ} {x3 : Int32} {x4 : Int32} (b1 : vp_in x4 40) (q2 : P none (u2 (u2 I 37 x4.toNatClampNeg x3) 36 0 ((I 36 0) + 1)) J) : Go G (fr G m_MI_extend (d + 2) P) 88 [some (.ref 36), none, none, some (.int x3), some (.int x4)] [] I J := by
  refine g_aload_n dc_MI_extend_88 rfl rfl rfl ?_
  refine g_get (C := "LevelBreaks$Middle") (T := T_MI) (N := 3) (k := 1) (v := .ref 37) sh_36 (by decide) rfl rfl i_MI (by decide) fl_MI_9 (Or.inl rfl) rfl dc_MI_extend_89 rfl ?_
  refine g_iload dc_MI_extend_92 rfl rfl ?_
  refine g_iload_n dc_MI_extend_94 rfl rfl rfl ?_
  refine g_iast sh_37 b1 dc_MI_extend_95 rfl ?_
  refine g_aload_n dc_MI_extend_96 rfl rfl rfl ?_
  refine g_dup dc_MI_extend_97 rfl rfl ?_
  refine g_get (C := "LevelBreaks$Middle") (T := T_MI) (N := 3) (k := 0) (v := .int (I 36 0)) sh_36 (by decide) rfl rfl i_MI (by decide) fl_MI_15 (Or.inr sf_MI_size) rfl dc_MI_extend_98 rfl ?_
  refine g_iconst (v := 1) dc_MI_extend_101 rfl (by decide) ?_
  refine g_iadd dc_MI_extend_102 rfl ?_
  refine g_putI (C := "LevelBreaks$Middle") (T := T_MI) (N := 3) (k := 0) (ty := t_MI) sh_36 (by decide) rfl rfl i_MI p_MI n_MI (by decide) fl_MI_15 (Or.inr sf_MI_size) rfl (by decide) dc_MI_extend_103 rfl ?_
  exact g_vret rfl dc_MI_extend_106 q2
theorem dc_MI_orderedWithout_0 : decode prog_8_method_7_code 0 = .ok (.iload_n 1, 1) := by decide +kernel
theorem dc_MI_orderedWithout_1 : decode prog_8_method_7_code 1 = .ok (.istore 4, 2) := by decide +kernel
theorem dc_MI_orderedWithout_3 : decode prog_8_method_7_code 3 = .ok (.iload_n 2, 1) := by decide +kernel
theorem dc_MI_orderedWithout_4 : decode prog_8_method_7_code 4 = .ok (.aload_n 0, 1) := by decide +kernel
theorem dc_MI_orderedWithout_5 : decode prog_8_method_7_code 5 = .ok (.getfield 9, 3) := by decide +kernel
theorem dc_MI_orderedWithout_8 : decode prog_8_method_7_code 8 = .ok (.iload 4, 2) := by decide +kernel
theorem dc_MI_orderedWithout_10 : decode prog_8_method_7_code 10 = .ok (.iaload, 1) := by decide +kernel
theorem dc_MI_orderedWithout_11 : decode prog_8_method_7_code 11 = .ok (.if_icmp .gt 6, 3) := by decide +kernel
theorem dc_MI_orderedWithout_14 : decode prog_8_method_7_code 14 = .ok (.iinc 4 1, 3) := by decide +kernel
theorem dc_MI_orderedWithout_17 : decode prog_8_method_7_code 17 = .ok (.iload 4, 2) := by decide +kernel
theorem dc_MI_orderedWithout_19 : decode prog_8_method_7_code 19 = .ok (.bipush 40, 2) := by decide +kernel
theorem dc_MI_orderedWithout_21 : decode prog_8_method_7_code 21 = .ok (.if_icmp .ge 17, 3) := by decide +kernel
theorem dc_MI_orderedWithout_24 : decode prog_8_method_7_code 24 = .ok (.iload_n 3, 1) := by decide +kernel
theorem dc_MI_orderedWithout_25 : decode prog_8_method_7_code 25 = .ok (.aload_n 0, 1) := by decide +kernel
theorem dc_MI_orderedWithout_26 : decode prog_8_method_7_code 26 = .ok (.getfield 9, 3) := by decide +kernel
theorem dc_MI_orderedWithout_29 : decode prog_8_method_7_code 29 = .ok (.iload 4, 2) := by decide +kernel
theorem dc_MI_orderedWithout_31 : decode prog_8_method_7_code 31 = .ok (.iaload, 1) := by decide +kernel
theorem dc_MI_orderedWithout_32 : decode prog_8_method_7_code 32 = .ok (.if_icmp .gt 6, 3) := by decide +kernel
theorem dc_MI_orderedWithout_35 : decode prog_8_method_7_code 35 = .ok (.iinc 4 1, 3) := by decide +kernel
theorem dc_MI_orderedWithout_38 : decode prog_8_method_7_code 38 = .ok (.iload 4, 2) := by decide +kernel
theorem dc_MI_orderedWithout_40 : decode prog_8_method_7_code 40 = .ok (.bipush 40, 2) := by decide +kernel
theorem dc_MI_orderedWithout_42 : decode prog_8_method_7_code 42 = .ok (.if_icmp .ge 13, 3) := by decide +kernel
theorem dc_MI_orderedWithout_45 : decode prog_8_method_7_code 45 = .ok (.aload_n 0, 1) := by decide +kernel
theorem dc_MI_orderedWithout_46 : decode prog_8_method_7_code 46 = .ok (.getfield 9, 3) := by decide +kernel
theorem dc_MI_orderedWithout_49 : decode prog_8_method_7_code 49 = .ok (.iload 4, 2) := by decide +kernel
theorem dc_MI_orderedWithout_51 : decode prog_8_method_7_code 51 = .ok (.iaload, 1) := by decide +kernel
theorem dc_MI_orderedWithout_52 : decode prog_8_method_7_code 52 = .ok (.goto 4, 3) := by decide +kernel
theorem dc_MI_orderedWithout_55 : decode prog_8_method_7_code 55 = .ok (.iload_n 2, 1) := by decide +kernel
theorem dc_MI_orderedWithout_56 : decode prog_8_method_7_code 56 = .ok (.ireturn, 1) := by decide +kernel
theorem w_MI_orderedWithout_0 {G : GC} {d : Nat} {P : PT} {I : MI} {J : MJ} {x1 : Int32} {x2 : Int32} {x3 : Int32} (b1 : vp_in x1 40) (k2 : ((I 37 x1.toNatClampNeg) < x2) → Go G (fr G m_MI_orderedWithout d P) 17 [some (.ref 36), none, some (.int x2), some (.int x3), some (.int x1)] [] I J) (k3 : (¬ ((I 37 x1.toNatClampNeg) < x2)) → Go G (fr G m_MI_orderedWithout d P) 17 [some (.ref 36), none, some (.int x2), some (.int x3), some (.int (x1 + 1))] [] I J) : Go G (fr G m_MI_orderedWithout d P) 0 [some (.ref 36), some (.int x1), some (.int x2), some (.int x3), none] [] I J := by
  refine g_iload_n dc_MI_orderedWithout_0 rfl rfl rfl ?_
  refine g_istore (L' := [some (.ref 36), some (.int x1), some (.int x2), some (.int x3), some (.int x1)]) dc_MI_orderedWithout_1 rfl (Nat.le_of_ble_eq_true rfl) rfl ?_
  refine g_iload_n dc_MI_orderedWithout_3 rfl rfl rfl ?_
  refine g_aload_n dc_MI_orderedWithout_4 rfl rfl rfl ?_
  refine g_get (C := "LevelBreaks$Middle") (T := T_MI) (N := 3) (k := 1) (v := .ref 37) sh_36 (by decide) rfl rfl i_MI (by decide) fl_MI_9 (Or.inl rfl) rfl dc_MI_orderedWithout_5 rfl ?_
  refine g_iload dc_MI_orderedWithout_8 rfl rfl ?_
  refine g_ialdv (v := (I 37 x1.toNatClampNeg)) sh_37 b1 rfl dc_MI_orderedWithout_10 rfl ?_
  refine g_ic_gt (tgt := 17) dc_MI_orderedWithout_11 rfl (by decide) (fun c1 => ?_) (fun c1 => ?_)
  · refine g_weak [some (.ref 36), none, some (.int x2), some (.int x3), some (.int x1)] ⟨rfl, ⟨rfl, ⟨rfl, ⟨rfl, trivial⟩⟩⟩⟩ ?_
    exact (k2 c1)
  · refine g_iinc (v := (x1 + 1)) (L' := [some (.ref 36), some (.int x1), some (.int x2), some (.int x3), some (.int (x1 + 1))]) dc_MI_orderedWithout_14 rfl rfl (by rw [show Int32.ofInt 1 = 1 from by decide]) (Nat.le_of_ble_eq_true rfl) rfl ?_
    refine g_weak [some (.ref 36), none, some (.int x2), some (.int x3), some (.int (x1 + 1))] ⟨rfl, ⟨rfl, ⟨rfl, ⟨rfl, trivial⟩⟩⟩⟩ ?_
    exact (k3 c1)
theorem w_MI_orderedWithout_17 {G : GC} {d : Nat} {P : PT} {I : MI} {J : MJ} {x2 : Int32} {x3 : Int32} {x4 : Int32} (k1 : (40 ≤ x4) → Go G (fr G m_MI_orderedWithout d P) 38 [some (.ref 36), none, some (.int x2), none, some (.int x4)] [] I J) (b2 : (¬ (40 ≤ x4)) → vp_in x4 40) (k3 : (¬ (40 ≤ x4)) → ((I 37 x4.toNatClampNeg) < x3) → Go G (fr G m_MI_orderedWithout d P) 38 [some (.ref 36), none, some (.int x2), none, some (.int x4)] [] I J) (k4 : (¬ (40 ≤ x4)) → (¬ ((I 37 x4.toNatClampNeg) < x3)) → Go G (fr G m_MI_orderedWithout d P) 38 [some (.ref 36), none, some (.int x2), none, some (.int (x4 + 1))] [] I J) : Go G (fr G m_MI_orderedWithout d P) 17 [some (.ref 36), none, some (.int x2), some (.int x3), some (.int x4)] [] I J := by
  refine g_iload dc_MI_orderedWithout_17 rfl rfl ?_
  refine g_bipush (v := 40) dc_MI_orderedWithout_19 rfl (by decide) ?_
  refine g_ic_ge (tgt := 38) dc_MI_orderedWithout_21 rfl (by decide) (fun c1 => ?_) (fun c1 => ?_)
  · refine g_weak [some (.ref 36), none, some (.int x2), none, some (.int x4)] ⟨rfl, ⟨rfl, ⟨rfl, trivial⟩⟩⟩ ?_
    exact (k1 c1)
  · refine g_iload_n dc_MI_orderedWithout_24 rfl rfl rfl ?_
    refine g_aload_n dc_MI_orderedWithout_25 rfl rfl rfl ?_
    refine g_get (C := "LevelBreaks$Middle") (T := T_MI) (N := 3) (k := 1) (v := .ref 37) sh_36 (by decide) rfl rfl i_MI (by decide) fl_MI_9 (Or.inl rfl) rfl dc_MI_orderedWithout_26 rfl ?_
    refine g_iload dc_MI_orderedWithout_29 rfl rfl ?_
    refine g_ialdv (v := (I 37 x4.toNatClampNeg)) sh_37 (b2 c1) rfl dc_MI_orderedWithout_31 rfl ?_
    refine g_ic_gt (tgt := 38) dc_MI_orderedWithout_32 rfl (by decide) (fun c2 => ?_) (fun c2 => ?_)
    · refine g_weak [some (.ref 36), none, some (.int x2), none, some (.int x4)] ⟨rfl, ⟨rfl, ⟨rfl, trivial⟩⟩⟩ ?_
      exact (k3 c1 c2)
    · refine g_iinc (v := (x4 + 1)) (L' := [some (.ref 36), none, some (.int x2), some (.int x3), some (.int (x4 + 1))]) dc_MI_orderedWithout_35 rfl rfl (by rw [show Int32.ofInt 1 = 1 from by decide]) (Nat.le_of_ble_eq_true rfl) rfl ?_
      refine g_weak [some (.ref 36), none, some (.int x2), none, some (.int (x4 + 1))] ⟨rfl, ⟨rfl, ⟨rfl, trivial⟩⟩⟩ ?_
      exact (k4 c1 c2)
theorem w_MI_orderedWithout_38 {G : GC} {d : Nat} {P : PT} {I : MI} {J : MJ} {x2 : Int32} {x4 : Int32} (q1 : (40 ≤ x4) → P (some (.int x2)) I J) (b2 : (¬ (40 ≤ x4)) → vp_in x4 40) (q3 : (¬ (40 ≤ x4)) → P (some (.int (I 37 x4.toNatClampNeg))) I J) : Go G (fr G m_MI_orderedWithout d P) 38 [some (.ref 36), none, some (.int x2), none, some (.int x4)] [] I J := by
  refine g_iload dc_MI_orderedWithout_38 rfl rfl ?_
  refine g_bipush (v := 40) dc_MI_orderedWithout_40 rfl (by decide) ?_
  refine g_ic_ge (tgt := 55) dc_MI_orderedWithout_42 rfl (by decide) (fun c1 => ?_) (fun c1 => ?_)
  · refine g_iload_n dc_MI_orderedWithout_55 rfl rfl rfl ?_
    exact g_iret rfl dc_MI_orderedWithout_56 (q1 c1)
  · refine g_aload_n dc_MI_orderedWithout_45 rfl rfl rfl ?_
    refine g_get (C := "LevelBreaks$Middle") (T := T_MI) (N := 3) (k := 1) (v := .ref 37) sh_36 (by decide) rfl rfl i_MI (by decide) fl_MI_9 (Or.inl rfl) rfl dc_MI_orderedWithout_46 rfl ?_
    refine g_iload dc_MI_orderedWithout_49 rfl rfl ?_
    refine g_ialdv (v := (I 37 x4.toNatClampNeg)) sh_37 (b2 c1) rfl dc_MI_orderedWithout_51 rfl ?_
    refine g_goto (tgt := 56) dc_MI_orderedWithout_52 (by decide) ?_
    exact g_iret rfl dc_MI_orderedWithout_56 (q3 c1)
theorem dc_MI_outside_0 : decode prog_8_method_6_code 0 = .ok (.iload_n 2, 1) := by decide +kernel
theorem dc_MI_outside_1 : decode prog_8_method_6_code 1 = .ok (.iconst 1, 1) := by decide +kernel
theorem dc_MI_outside_2 : decode prog_8_method_6_code 2 = .ok (.if_icmp .ge 5, 3) := by decide +kernel
theorem dc_MI_outside_5 : decode prog_8_method_6_code 5 = .ok (.iconst 0, 1) := by decide +kernel
theorem dc_MI_outside_6 : decode prog_8_method_6_code 6 = .ok (.ireturn, 1) := by decide +kernel
theorem dc_MI_outside_7 : decode prog_8_method_6_code 7 = .ok (.aload_n 0, 1) := by decide +kernel
theorem dc_MI_outside_8 : decode prog_8_method_6_code 8 = .ok (.iload_n 2, 1) := by decide +kernel
theorem dc_MI_outside_9 : decode prog_8_method_6_code 9 = .ok (.iconst 1, 1) := by decide +kernel
theorem dc_MI_outside_10 : decode prog_8_method_6_code 10 = .ok (.isub, 1) := by decide +kernel
theorem dc_MI_outside_11 : decode prog_8_method_6_code 11 = .ok (.iconst 2, 1) := by decide +kernel
theorem dc_MI_outside_12 : decode prog_8_method_6_code 12 = .ok (.idiv, 1) := by decide +kernel
theorem dc_MI_outside_13 : decode prog_8_method_6_code 13 = .ok (.iload_n 3, 1) := by decide +kernel
theorem dc_MI_outside_14 : decode prog_8_method_6_code 14 = .ok (.iload 4, 2) := by decide +kernel
theorem dc_MI_outside_16 : decode prog_8_method_6_code 16 = .ok (.invokevirtual 41, 3) := by decide +kernel
theorem dc_MI_outside_19 : decode prog_8_method_6_code 19 = .ok (.istore 5, 2) := by decide +kernel
theorem dc_MI_outside_21 : decode prog_8_method_6_code 21 = .ok (.aload_n 0, 1) := by decide +kernel
theorem dc_MI_outside_22 : decode prog_8_method_6_code 22 = .ok (.iload_n 2, 1) := by decide +kernel
theorem dc_MI_outside_23 : decode prog_8_method_6_code 23 = .ok (.iconst 2, 1) := by decide +kernel
theorem dc_MI_outside_24 : decode prog_8_method_6_code 24 = .ok (.idiv, 1) := by decide +kernel
theorem dc_MI_outside_25 : decode prog_8_method_6_code 25 = .ok (.iload_n 3, 1) := by decide +kernel
theorem dc_MI_outside_26 : decode prog_8_method_6_code 26 = .ok (.iload 4, 2) := by decide +kernel
theorem dc_MI_outside_28 : decode prog_8_method_6_code 28 = .ok (.invokevirtual 41, 3) := by decide +kernel
theorem dc_MI_outside_31 : decode prog_8_method_6_code 31 = .ok (.istore 6, 2) := by decide +kernel
theorem dc_MI_outside_33 : decode prog_8_method_6_code 33 = .ok (.iconst 0, 1) := by decide +kernel
theorem dc_MI_outside_34 : decode prog_8_method_6_code 34 = .ok (.iload 5, 2) := by decide +kernel
theorem dc_MI_outside_36 : decode prog_8_method_6_code 36 = .ok (.iload_n 1, 1) := by decide +kernel
theorem dc_MI_outside_37 : decode prog_8_method_6_code 37 = .ok (.isub, 1) := by decide +kernel
theorem dc_MI_outside_38 : decode prog_8_method_6_code 38 = .ok (.iload_n 1, 1) := by decide +kernel
theorem dc_MI_outside_39 : decode prog_8_method_6_code 39 = .ok (.iload 6, 2) := by decide +kernel
theorem dc_MI_outside_41 : decode prog_8_method_6_code 41 = .ok (.isub, 1) := by decide +kernel
theorem dc_MI_outside_42 : decode prog_8_method_6_code 42 = .ok (.invokestatic 38, 3) := by decide +kernel
theorem dc_MI_outside_45 : decode prog_8_method_6_code 45 = .ok (.invokestatic 38, 3) := by decide +kernel
theorem dc_MI_outside_48 : decode prog_8_method_6_code 48 = .ok (.ireturn, 1) := by decide +kernel
theorem w_MI_outside_0 {G : GC} {d : Nat} {P : PT} {I : MI} {J : MJ} {x1 : Int32} {x2 : Int32} {x3 : Int32} {x4 : Int32} (k1 : (1 ≤ x2) → Ct G d m_MI_orderedWithout [.ref 36, .int ((x2 - 1) / 2), .int x3, .int x4] (fun r I' J' => Go G (fr G m_MI_outside (d + 1) P) 19 [some (.ref 36), some (.int x1), some (.int x2), some (.int x3), some (.int x4), none, none] (r.toList ++ []) I' J') I J) (q2 : (¬ (1 ≤ x2)) → P (some (.int 0)) I J) : Go G (fr G m_MI_outside (d + 1) P) 0 [some (.ref 36), some (.int x1), some (.int x2), some (.int x3), some (.int x4), none, none] [] I J := by
  refine g_iload_n dc_MI_outside_0 rfl rfl rfl ?_
  refine g_iconst (v := 1) dc_MI_outside_1 rfl (by decide) ?_
  refine g_ic_ge (tgt := 7) dc_MI_outside_2 rfl (by decide) (fun c1 => ?_) (fun c1 => ?_)
  · refine g_aload_n dc_MI_outside_7 rfl rfl rfl ?_
    refine g_iload_n dc_MI_outside_8 rfl rfl rfl ?_
    refine g_iconst (v := 1) dc_MI_outside_9 rfl (by decide) ?_
    refine g_isub dc_MI_outside_10 rfl ?_
    refine g_iconst (v := 2) dc_MI_outside_11 rfl (by decide) ?_
    refine g_idiv dc_MI_outside_12 rfl (by decide) ?_
    refine g_iload_n dc_MI_outside_13 rfl rfl rfl ?_
    refine g_iload dc_MI_outside_14 rfl rfl ?_
    exact g_callV (T := T_MI) (N := 3) (As := [.int ((x2 - 1) / 2), .int x3, .int x4]) (rest := []) ok_MI_orderedWithout in_MI_orderedWithout se_MI_orderedWithout ml_MI_41 sh_36 (by decide) rfl rfl rfl (Nat.le_of_ble_eq_true rfl) dc_MI_outside_16 rfl rOk_fr (k1 c1)
  · refine g_iconst (v := 0) dc_MI_outside_5 rfl (by decide) ?_
    exact g_iret rfl dc_MI_outside_6 (q2 c1)
theorem w_MI_outside_19 {G : GC} {d : Nat} {P : PT} {I : MI} {J : MJ} {x1 : Int32} {x2 : Int32} {x3 : Int32} {x4 : Int32} {y0 : Int32} (k1 : Ct G d m_MI_orderedWithout [.ref 36, .int (x2 / 2), .int x3, .int x4] (fun r I' J' => Go G (fr G m_MI_outside (d + 1) P) 31 [none, some (.int x1), none, none, none, some (.int y0), none] (r.toList ++ []) I' J') I J) : Go G (fr G m_MI_outside (d + 1) P) 19 [some (.ref 36), some (.int x1), some (.int x2), some (.int x3), some (.int x4), none, none] [.int y0] I J := by
  refine g_istore (L' := [some (.ref 36), some (.int x1), some (.int x2), some (.int x3), some (.int x4), some (.int y0), none]) dc_MI_outside_19 rfl (Nat.le_of_ble_eq_true rfl) rfl ?_
  refine g_aload_n dc_MI_outside_21 rfl rfl rfl ?_
  refine g_iload_n dc_MI_outside_22 rfl rfl rfl ?_
  refine g_iconst (v := 2) dc_MI_outside_23 rfl (by decide) ?_
  refine g_idiv dc_MI_outside_24 rfl (by decide) ?_
  refine g_iload_n dc_MI_outside_25 rfl rfl rfl ?_
  refine g_iload dc_MI_outside_26 rfl rfl ?_
  refine g_weak [none, some (.int x1), none, none, none, some (.int y0), none] ⟨rfl, ⟨rfl, trivial⟩⟩ ?_
  exact g_callV (T := T_MI) (N := 3) (As := [.int (x2 / 2), .int x3, .int x4]) (rest := []) ok_MI_orderedWithout in_MI_orderedWithout se_MI_orderedWithout ml_MI_41 sh_36 (by decide) rfl rfl rfl (Nat.le_of_ble_eq_true rfl) dc_MI_outside_28 rfl rOk_fr k1
theorem w_MI_outside_31 {G : GC} {d : Nat} {P : PT} {I : MI} {J : MJ} {x1 : Int32} {x5 : Int32} {y0 : Int32} (q1 : P (some (.int (f_JM_max_II 0 (f_JM_max_II (x5 - x1) (x1 - y0))))) I J) : Go G (fr G m_MI_outside (d + 1) P) 31 [none, some (.int x1), none, none, none, some (.int x5), none] [.int y0] I J := by
  refine g_istore (L' := [none, some (.int x1), none, none, none, some (.int x5), some (.int y0)]) dc_MI_outside_31 rfl (Nat.le_of_ble_eq_true rfl) rfl ?_
  refine g_iconst (v := 0) dc_MI_outside_33 rfl (by decide) ?_
  refine g_iload dc_MI_outside_34 rfl rfl ?_
  refine g_iload_n dc_MI_outside_36 rfl rfl rfl ?_
  refine g_isub dc_MI_outside_37 rfl ?_
  refine g_iload_n dc_MI_outside_38 rfl rfl rfl ?_
  refine g_iload dc_MI_outside_39 rfl rfl ?_
  refine g_isub dc_MI_outside_41 rfl ?_
  refine g_callS (M := m_JM_max_II) (As := [.int (x5 - x1), .int (x1 - y0)]) (rest := [.int 0]) ok_JM_max_II st_JM_max_II ml_MI_38 rfl rfl (Nat.le_of_ble_eq_true rfl) dc_MI_outside_42 rfl rOk_fr (c_JM_max_II ?_)
  show Go G (fr G m_MI_outside (d + 1) P) 45 [none, some (.int x1), none, none, none, some (.int x5), some (.int y0)] [.int (f_JM_max_II (x5 - x1) (x1 - y0)), .int 0] I J
  refine g_callS (M := m_JM_max_II) (As := [.int 0, .int (f_JM_max_II (x5 - x1) (x1 - y0))]) (rest := []) ok_JM_max_II st_JM_max_II ml_MI_38 rfl rfl (Nat.le_of_ble_eq_true rfl) dc_MI_outside_45 rfl rOk_fr (c_JM_max_II ?_)
  show Go G (fr G m_MI_outside (d + 1) P) 48 [none, some (.int x1), none, none, none, some (.int x5), some (.int y0)] [.int (f_JM_max_II 0 (f_JM_max_II (x5 - x1) (x1 - y0)))] I J
  exact g_iret rfl dc_MI_outside_48 q1
theorem dc_MI_restart_0 : decode prog_8_method_2_code 0 = .ok (.aload_n 0, 1) := by decide +kernel
theorem dc_MI_restart_1 : decode prog_8_method_2_code 1 = .ok (.iconst 0, 1) := by decide +kernel
theorem dc_MI_restart_2 : decode prog_8_method_2_code 2 = .ok (.putfield 15, 3) := by decide +kernel
theorem dc_MI_restart_5 : decode prog_8_method_2_code 5 = .ok (.aload_n 0, 1) := by decide +kernel
theorem dc_MI_restart_6 : decode prog_8_method_2_code 6 = .ok (.lconst 0, 1) := by decide +kernel
theorem dc_MI_restart_7 : decode prog_8_method_2_code 7 = .ok (.putfield 19, 3) := by decide +kernel
theorem dc_MI_restart_10 : decode prog_8_method_2_code 10 = .ok (.return_, 1) := by decide +kernel
theorem w_MI_restart_0 {G : GC} {d : Nat} {P : PT} {I : MI} {J : MJ}  (q1 : P none (u2 I 36 0 0) (u2 J 36 2 0)) : Go G (fr G m_MI_restart d P) 0 [some (.ref 36)] [] I J := by
  refine g_aload_n dc_MI_restart_0 rfl rfl rfl ?_
  refine g_iconst (v := 0) dc_MI_restart_1 rfl (by decide) ?_
  refine g_putI (C := "LevelBreaks$Middle") (T := T_MI) (N := 3) (k := 0) (ty := t_MI) sh_36 (by decide) rfl rfl i_MI p_MI n_MI (by decide) fl_MI_15 (Or.inr sf_MI_size) rfl (by decide) dc_MI_restart_2 rfl ?_
  refine g_aload_n dc_MI_restart_5 rfl rfl rfl ?_
  refine g_lconst (v := 0) dc_MI_restart_6 rfl (by decide) ?_
  refine g_putJ (C := "LevelBreaks$Middle") (T := T_MI) (N := 3) (k := 2) (ty := t_MI) sh_36 (by decide) rfl rfl i_MI p_MI n_MI (by decide) fl_MI_19 (Or.inl rfl) rfl (by decide) dc_MI_restart_7 rfl ?_
  exact g_vret rfl dc_MI_restart_10 q1
theorem dc_ON_above_0 : decode prog_9_method_4_code 0 = .ok (.iload_n 2, 1) := by decide +kernel
theorem dc_ON_above_1 : decode prog_9_method_4_code 1 = .ok (.iconst (-1), 1) := by decide +kernel
theorem dc_ON_above_2 : decode prog_9_method_4_code 2 = .ok (.if_icmp .ne 14, 3) := by decide +kernel
theorem dc_ON_above_5 : decode prog_9_method_4_code 5 = .ok (.aload_n 0, 1) := by decide +kernel
theorem dc_ON_above_6 : decode prog_9_method_4_code 6 = .ok (.getfield 18, 3) := by decide +kernel
theorem dc_ON_above_9 : decode prog_9_method_4_code 9 = .ok (.aload_n 0, 1) := by decide +kernel
theorem dc_ON_above_10 : decode prog_9_method_4_code 10 = .ok (.getfield 22, 3) := by decide +kernel
theorem dc_ON_above_13 : decode prog_9_method_4_code 13 = .ok (.isub, 1) := by decide +kernel
theorem dc_ON_above_14 : decode prog_9_method_4_code 14 = .ok (.i2l, 1) := by decide +kernel
theorem dc_ON_above_15 : decode prog_9_method_4_code 15 = .ok (.lreturn, 1) := by decide +kernel
theorem dc_ON_above_16 : decode prog_9_method_4_code 16 = .ok (.aload_n 1, 1) := by decide +kernel
theorem dc_ON_above_17 : decode prog_9_method_4_code 17 = .ok (.getfield 31, 3) := by decide +kernel
theorem dc_ON_above_20 : decode prog_9_method_4_code 20 = .ok (.iload_n 2, 1) := by decide +kernel
theorem dc_ON_above_21 : decode prog_9_method_4_code 21 = .ok (.iaload, 1) := by decide +kernel
theorem dc_ON_above_22 : decode prog_9_method_4_code 22 = .ok (.istore 4, 2) := by decide +kernel
theorem dc_ON_above_24 : decode prog_9_method_4_code 24 = .ok (.iload_n 3, 1) := by decide +kernel
theorem dc_ON_above_25 : decode prog_9_method_4_code 25 = .ok (.iconst (-1), 1) := by decide +kernel
theorem dc_ON_above_26 : decode prog_9_method_4_code 26 = .ok (.if_icmp .ne 7, 3) := by decide +kernel
theorem dc_ON_above_29 : decode prog_9_method_4_code 29 = .ok (.iconst (-1), 1) := by decide +kernel
theorem dc_ON_above_30 : decode prog_9_method_4_code 30 = .ok (.goto 9, 3) := by decide +kernel
theorem dc_ON_above_33 : decode prog_9_method_4_code 33 = .ok (.aload_n 1, 1) := by decide +kernel
theorem dc_ON_above_34 : decode prog_9_method_4_code 34 = .ok (.getfield 31, 3) := by decide +kernel
theorem dc_ON_above_37 : decode prog_9_method_4_code 37 = .ok (.iload_n 3, 1) := by decide +kernel
theorem dc_ON_above_38 : decode prog_9_method_4_code 38 = .ok (.iaload, 1) := by decide +kernel
theorem dc_ON_above_39 : decode prog_9_method_4_code 39 = .ok (.istore 5, 2) := by decide +kernel
theorem dc_ON_above_41 : decode prog_9_method_4_code 41 = .ok (.aload_n 0, 1) := by decide +kernel
theorem dc_ON_above_42 : decode prog_9_method_4_code 42 = .ok (.getfield 18, 3) := by decide +kernel
theorem dc_ON_above_45 : decode prog_9_method_4_code 45 = .ok (.iload_n 3, 1) := by decide +kernel
theorem dc_ON_above_46 : decode prog_9_method_4_code 46 = .ok (.iconst (-1), 1) := by decide +kernel
theorem dc_ON_above_47 : decode prog_9_method_4_code 47 = .ok (.if_icmp .ne 7, 3) := by decide +kernel
theorem dc_ON_above_50 : decode prog_9_method_4_code 50 = .ok (.iconst 1, 1) := by decide +kernel
theorem dc_ON_above_51 : decode prog_9_method_4_code 51 = .ok (.goto 4, 3) := by decide +kernel
theorem dc_ON_above_54 : decode prog_9_method_4_code 54 = .ok (.iconst 2, 1) := by decide +kernel
theorem dc_ON_above_55 : decode prog_9_method_4_code 55 = .ok (.isub, 1) := by decide +kernel
theorem dc_ON_above_56 : decode prog_9_method_4_code 56 = .ok (.istore 6, 2) := by decide +kernel
theorem dc_ON_above_58 : decode prog_9_method_4_code 58 = .ok (.iload 6, 2) := by decide +kernel
theorem dc_ON_above_60 : decode prog_9_method_4_code 60 = .ok (.iload 4, 2) := by decide +kernel
theorem dc_ON_above_62 : decode prog_9_method_4_code 62 = .ok (.iload 5, 2) := by decide +kernel
theorem dc_ON_above_64 : decode prog_9_method_4_code 64 = .ok (.if_icmp .ne 12, 3) := by decide +kernel
theorem dc_ON_above_67 : decode prog_9_method_4_code 67 = .ok (.aload_n 0, 1) := by decide +kernel
theorem dc_ON_above_68 : decode prog_9_method_4_code 68 = .ok (.iload 4, 2) := by decide +kernel
theorem dc_ON_above_70 : decode prog_9_method_4_code 70 = .ok (.invokevirtual 42, 3) := by decide +kernel
theorem dc_ON_above_73 : decode prog_9_method_4_code 73 = .ok (.goto 11, 3) := by decide +kernel
theorem dc_ON_above_76 : decode prog_9_method_4_code 76 = .ok (.aload_n 0, 1) := by decide +kernel
theorem dc_ON_above_77 : decode prog_9_method_4_code 77 = .ok (.iload 4, 2) := by decide +kernel
theorem dc_ON_above_79 : decode prog_9_method_4_code 79 = .ok (.iload 5, 2) := by decide +kernel
theorem dc_ON_above_81 : decode prog_9_method_4_code 81 = .ok (.invokevirtual 46, 3) := by decide +kernel
theorem dc_ON_above_84 : decode prog_9_method_4_code 84 = .ok (.isub, 1) := by decide +kernel
theorem dc_ON_above_85 : decode prog_9_method_4_code 85 = .ok (.i2l, 1) := by decide +kernel
theorem dc_ON_above_86 : decode prog_9_method_4_code 86 = .ok (.lreturn, 1) := by decide +kernel
theorem w_ON_above_0 {G : GC} {d : Nat} {P : PT} {I : MI} {J : MJ} {o1 : Nat} (h1 : PtsAt o1) {x2 : Int32} {x3 : Int32} (b1 : (¬ x2 = (-1)) → vp_in x2 40) (b2 : (¬ x2 = (-1)) → (¬ x3 = (-1)) → vp_in x3 40) (k3 : (¬ x2 = (-1)) → (¬ x3 = (-1)) → Go G (fr G m_ON_above (d + 1) P) 39 [some (.ref 39), none, none, some (.int x3), some (.int (I (o1 + 4) x2.toNatClampNeg)), none, none] [.int (I (o1 + 4) x3.toNatClampNeg)] I J) (k4 : (¬ x2 = (-1)) → (x3 = (-1)) → Go G (fr G m_ON_above (d + 1) P) 39 [some (.ref 39), none, none, some (.int x3), some (.int (I (o1 + 4) x2.toNatClampNeg)), none, none] [.int (-1)] I J) (q5 : (x2 = (-1)) → P (some (.long (Int32.toInt64 ((I 39 0) - (I 39 3))))) I J) : Go G (fr G m_ON_above (d + 1) P) 0 [some (.ref 39), some (.ref o1), some (.int x2), some (.int x3), none, none, none] [] I J := by
  refine g_iload_n dc_ON_above_0 rfl rfl rfl ?_
  refine g_iconst (v := (-1)) dc_ON_above_1 rfl (by decide) ?_
  refine g_ic_ne (tgt := 16) dc_ON_above_2 rfl (by decide) (fun c1 => ?_) (fun c1 => ?_)
  · refine g_aload_n dc_ON_above_16 rfl rfl rfl ?_
    refine g_get (C := "LevelBreaks$Points") (T := T_PO) (N := 5) (k := 3) (v := .ref (o1 + 4)) h1.1 (by decide) rfl rfl i_PO (by decide) fl_ON_31 (Or.inl rfl) rfl dc_ON_above_17 rfl ?_
    refine g_iload_n dc_ON_above_20 rfl rfl rfl ?_
    refine g_ialdv (v := (I (o1 + 4) x2.toNatClampNeg)) h1.2.2.2.2 (b1 c1) rfl dc_ON_above_21 rfl ?_
    refine g_istore (L' := [some (.ref 39), some (.ref o1), some (.int x2), some (.int x3), some (.int (I (o1 + 4) x2.toNatClampNeg)), none, none]) dc_ON_above_22 rfl (Nat.le_of_ble_eq_true rfl) rfl ?_
    refine g_iload_n dc_ON_above_24 rfl rfl rfl ?_
    refine g_iconst (v := (-1)) dc_ON_above_25 rfl (by decide) ?_
    refine g_ic_ne (tgt := 33) dc_ON_above_26 rfl (by decide) (fun c2 => ?_) (fun c2 => ?_)
    · refine g_aload_n dc_ON_above_33 rfl rfl rfl ?_
      refine g_get (C := "LevelBreaks$Points") (T := T_PO) (N := 5) (k := 3) (v := .ref (o1 + 4)) h1.1 (by decide) rfl rfl i_PO (by decide) fl_ON_31 (Or.inl rfl) rfl dc_ON_above_34 rfl ?_
      refine g_iload_n dc_ON_above_37 rfl rfl rfl ?_
      refine g_ialdv (v := (I (o1 + 4) x3.toNatClampNeg)) h1.2.2.2.2 (b2 c1 c2) rfl dc_ON_above_38 rfl ?_
      refine g_weak [some (.ref 39), none, none, some (.int x3), some (.int (I (o1 + 4) x2.toNatClampNeg)), none, none] ⟨rfl, ⟨rfl, ⟨rfl, trivial⟩⟩⟩ ?_
      exact (k3 c1 c2)
    · refine g_iconst (v := (-1)) dc_ON_above_29 rfl (by decide) ?_
      refine g_goto (tgt := 39) dc_ON_above_30 (by decide) ?_
      refine g_weak [some (.ref 39), none, none, some (.int x3), some (.int (I (o1 + 4) x2.toNatClampNeg)), none, none] ⟨rfl, ⟨rfl, ⟨rfl, trivial⟩⟩⟩ ?_
      exact (k4 c1 c2)
  · refine g_aload_n dc_ON_above_5 rfl rfl rfl ?_
    refine g_get (C := "LevelBreaks$One") (T := T_ON) (N := 4) (k := 0) (v := .int (I 39 0)) sh_39 (by decide) rfl rfl i_ON (by decide) fl_ON_18 (Or.inr sf_ON_size) rfl dc_ON_above_6 rfl ?_
    refine g_aload_n dc_ON_above_9 rfl rfl rfl ?_
    refine g_get (C := "LevelBreaks$One") (T := T_ON) (N := 4) (k := 3) (v := .int (I 39 3)) sh_39 (by decide) rfl rfl i_ON (by decide) fl_ON_22 (Or.inl rfl) rfl dc_ON_above_10 rfl ?_
    refine g_isub dc_ON_above_13 rfl ?_
    refine g_i2l dc_ON_above_14 rfl ?_
    exact g_lret rfl dc_ON_above_15 (q5 c1)
theorem w_ON_above_39 {G : GC} {d : Nat} {P : PT} {I : MI} {J : MJ} {x3 : Int32} {x4 : Int32} {y0 : Int32} (k1 : (¬ x3 = (-1)) → Go G (fr G m_ON_above (d + 1) P) 55 [some (.ref 39), none, none, none, some (.int x4), some (.int y0), none] [.int 2, .int (I 39 0)] I J) (k2 : (x3 = (-1)) → Go G (fr G m_ON_above (d + 1) P) 55 [some (.ref 39), none, none, none, some (.int x4), some (.int y0), none] [.int 1, .int (I 39 0)] I J) : Go G (fr G m_ON_above (d + 1) P) 39 [some (.ref 39), none, none, some (.int x3), some (.int x4), none, none] [.int y0] I J := by
  refine g_istore (L' := [some (.ref 39), none, none, some (.int x3), some (.int x4), some (.int y0), none]) dc_ON_above_39 rfl (Nat.le_of_ble_eq_true rfl) rfl ?_
  refine g_aload_n dc_ON_above_41 rfl rfl rfl ?_
  refine g_get (C := "LevelBreaks$One") (T := T_ON) (N := 4) (k := 0) (v := .int (I 39 0)) sh_39 (by decide) rfl rfl i_ON (by decide) fl_ON_18 (Or.inr sf_ON_size) rfl dc_ON_above_42 rfl ?_
  refine g_iload_n dc_ON_above_45 rfl rfl rfl ?_
  refine g_iconst (v := (-1)) dc_ON_above_46 rfl (by decide) ?_
  refine g_ic_ne (tgt := 54) dc_ON_above_47 rfl (by decide) (fun c1 => ?_) (fun c1 => ?_)
  · refine g_iconst (v := 2) dc_ON_above_54 rfl (by decide) ?_
    refine g_weak [some (.ref 39), none, none, none, some (.int x4), some (.int y0), none] ⟨rfl, ⟨rfl, ⟨rfl, trivial⟩⟩⟩ ?_
    exact (k1 c1)
  · refine g_iconst (v := 1) dc_ON_above_50 rfl (by decide) ?_
    refine g_goto (tgt := 55) dc_ON_above_51 (by decide) ?_
    refine g_weak [some (.ref 39), none, none, none, some (.int x4), some (.int y0), none] ⟨rfl, ⟨rfl, ⟨rfl, trivial⟩⟩⟩ ?_
    exact (k2 c1)
theorem w_ON_above_55 {G : GC} {d : Nat} {P : PT} {I : MI} {J : MJ} {x4 : Int32} {x5 : Int32} {y0 : Int32} {y1 : Int32} (k1 : (¬ x4 = x5) → Ct G d m_ON_mostWithout [.ref 39, .int x4, .int x5] (fun r I' J' => Go G (fr G m_ON_above (d + 1) P) 84 [none, none, none, none, none, none, none] (r.toList ++ [.int (y0 - y1)]) I' J') I J) (k2 : (x4 = x5) → Ct G d m_ON_mostWithoutTwoOf [.ref 39, .int x4] (fun r I' J' => Go G (fr G m_ON_above (d + 1) P) 73 [none, none, none, none, none, none, none] (r.toList ++ [.int (y0 - y1)]) I' J') I J) : Go G (fr G m_ON_above (d + 1) P) 55 [some (.ref 39), none, none, none, some (.int x4), some (.int x5), none] [.int y1, .int y0] I J := by
  refine g_isub dc_ON_above_55 rfl ?_
  refine g_istore (L' := [some (.ref 39), none, none, none, some (.int x4), some (.int x5), some (.int (y0 - y1))]) dc_ON_above_56 rfl (Nat.le_of_ble_eq_true rfl) rfl ?_
  refine g_iload dc_ON_above_58 rfl rfl ?_
  refine g_iload dc_ON_above_60 rfl rfl ?_
  refine g_iload dc_ON_above_62 rfl rfl ?_
  refine g_ic_ne (tgt := 76) dc_ON_above_64 rfl (by decide) (fun c1 => ?_) (fun c1 => ?_)
  · refine g_aload_n dc_ON_above_76 rfl rfl rfl ?_
    refine g_iload dc_ON_above_77 rfl rfl ?_
    refine g_iload dc_ON_above_79 rfl rfl ?_
    refine g_weak [none, none, none, none, none, none, none] trivial ?_
    exact g_callV (T := T_ON) (N := 4) (As := [.int x4, .int x5]) (rest := [.int (y0 - y1)]) ok_ON_mostWithout in_ON_mostWithout se_ON_mostWithout ml_ON_46 sh_39 (by decide) rfl rfl rfl (Nat.le_of_ble_eq_true rfl) dc_ON_above_81 rfl rOk_fr (k1 c1)
  · refine g_aload_n dc_ON_above_67 rfl rfl rfl ?_
    refine g_iload dc_ON_above_68 rfl rfl ?_
    refine g_weak [none, none, none, none, none, none, none] trivial ?_
    exact g_callV (T := T_ON) (N := 4) (As := [.int x4]) (rest := [.int (y0 - y1)]) ok_ON_mostWithoutTwoOf in_ON_mostWithoutTwoOf se_ON_mostWithoutTwoOf ml_ON_42 sh_39 (by decide) rfl rfl rfl (Nat.le_of_ble_eq_true rfl) dc_ON_above_70 rfl rOk_fr (k2 c1)
theorem w_ON_above_73 {G : GC} {d : Nat} {P : PT} {I : MI} {J : MJ} {y0 : Int32} {y1 : Int32} (k1 : Go G (fr G m_ON_above (d + 1) P) 84 [none, none, none, none, none, none, none] [.int y1, .int y0] I J) : Go G (fr G m_ON_above (d + 1) P) 73 [none, none, none, none, none, none, none] [.int y1, .int y0] I J := by
  refine g_goto (tgt := 84) dc_ON_above_73 (by decide) ?_
  exact k1
theorem w_ON_above_84 {G : GC} {d : Nat} {P : PT} {I : MI} {J : MJ} {y0 : Int32} {y1 : Int32} (q1 : P (some (.long (Int32.toInt64 (y0 - y1)))) I J) : Go G (fr G m_ON_above (d + 1) P) 84 [none, none, none, none, none, none, none] [.int y1, .int y0] I J := by
  refine g_isub dc_ON_above_84 rfl ?_
  refine g_i2l dc_ON_above_85 rfl ?_
  exact g_lret rfl dc_ON_above_86 q1
theorem dc_ON_below_0 : decode prog_9_method_5_code 0 = .ok (.iconst 1, 1) := by decide +kernel
theorem dc_ON_below_1 : decode prog_9_method_5_code 1 = .ok (.ireturn, 1) := by decide +kernel
theorem w_ON_below_0 {G : GC} {d : Nat} {P : PT} {I : MI} {J : MJ}  (q1 : P (some (.int 1)) I J) : Go G (fr G m_ON_below d P) 0 [none, none] [] I J := by
  refine g_iconst (v := 1) dc_ON_below_0 rfl (by decide) ?_
  exact g_iret rfl dc_ON_below_1 q1
theorem dc_ON_extend_0 : decode prog_9_method_3_code 0 = .ok (.aload_n 0, 1) := by decide +kernel
theorem dc_ON_extend_1 : decode prog_9_method_3_code 1 = .ok (.getfield 18, 3) := by decide +kernel
theorem dc_ON_extend_4 : decode prog_9_method_3_code 4 = .ok (.bipush 40, 2) := by decide +kernel
theorem dc_ON_extend_6 : decode prog_9_method_3_code 6 = .ok (.if_icmp .lt 4, 3) := by decide +kernel
theorem dc_ON_extend_9 : decode prog_9_method_3_code 9 = .ok (.return_, 1) := by decide +kernel
theorem dc_ON_extend_10 : decode prog_9_method_3_code 10 = .ok (.aload_n 1, 1) := by decide +kernel
theorem dc_ON_extend_11 : decode prog_9_method_3_code 11 = .ok (.getfield 31, 3) := by decide +kernel
theorem dc_ON_extend_14 : decode prog_9_method_3_code 14 = .ok (.iload_n 2, 1) := by decide +kernel
theorem dc_ON_extend_15 : decode prog_9_method_3_code 15 = .ok (.iaload, 1) := by decide +kernel
theorem dc_ON_extend_16 : decode prog_9_method_3_code 16 = .ok (.istore_n 3, 1) := by decide +kernel
theorem dc_ON_extend_17 : decode prog_9_method_3_code 17 = .ok (.aload_n 0, 1) := by decide +kernel
theorem dc_ON_extend_18 : decode prog_9_method_3_code 18 = .ok (.getfield 9, 3) := by decide +kernel
theorem dc_ON_extend_21 : decode prog_9_method_3_code 21 = .ok (.iload_n 3, 1) := by decide +kernel
theorem dc_ON_extend_22 : decode prog_9_method_3_code 22 = .ok (.iaload, 1) := by decide +kernel
theorem dc_ON_extend_23 : decode prog_9_method_3_code 23 = .ok (.iconst 1, 1) := by decide +kernel
theorem dc_ON_extend_24 : decode prog_9_method_3_code 24 = .ok (.iadd, 1) := by decide +kernel
theorem dc_ON_extend_25 : decode prog_9_method_3_code 25 = .ok (.istore 4, 2) := by decide +kernel
theorem dc_ON_extend_27 : decode prog_9_method_3_code 27 = .ok (.aload_n 0, 1) := by decide +kernel
theorem dc_ON_extend_28 : decode prog_9_method_3_code 28 = .ok (.getfield 15, 3) := by decide +kernel
theorem dc_ON_extend_31 : decode prog_9_method_3_code 31 = .ok (.iload 4, 2) := by decide +kernel
theorem dc_ON_extend_33 : decode prog_9_method_3_code 33 = .ok (.iconst 1, 1) := by decide +kernel
theorem dc_ON_extend_34 : decode prog_9_method_3_code 34 = .ok (.isub, 1) := by decide +kernel
theorem dc_ON_extend_35 : decode prog_9_method_3_code 35 = .ok (.dup2, 1) := by decide +kernel
theorem dc_ON_extend_36 : decode prog_9_method_3_code 36 = .ok (.iaload, 1) := by decide +kernel
theorem dc_ON_extend_37 : decode prog_9_method_3_code 37 = .ok (.iconst 1, 1) := by decide +kernel
theorem dc_ON_extend_38 : decode prog_9_method_3_code 38 = .ok (.isub, 1) := by decide +kernel
theorem dc_ON_extend_39 : decode prog_9_method_3_code 39 = .ok (.iastore, 1) := by decide +kernel
theorem dc_ON_extend_40 : decode prog_9_method_3_code 40 = .ok (.aload_n 0, 1) := by decide +kernel
theorem dc_ON_extend_41 : decode prog_9_method_3_code 41 = .ok (.getfield 15, 3) := by decide +kernel
theorem dc_ON_extend_44 : decode prog_9_method_3_code 44 = .ok (.iload 4, 2) := by decide +kernel
theorem dc_ON_extend_46 : decode prog_9_method_3_code 46 = .ok (.dup2, 1) := by decide +kernel
theorem dc_ON_extend_47 : decode prog_9_method_3_code 47 = .ok (.iaload, 1) := by decide +kernel
theorem dc_ON_extend_48 : decode prog_9_method_3_code 48 = .ok (.iconst 1, 1) := by decide +kernel
theorem dc_ON_extend_49 : decode prog_9_method_3_code 49 = .ok (.iadd, 1) := by decide +kernel
theorem dc_ON_extend_50 : decode prog_9_method_3_code 50 = .ok (.iastore, 1) := by decide +kernel
theorem dc_ON_extend_51 : decode prog_9_method_3_code 51 = .ok (.aload_n 0, 1) := by decide +kernel
theorem dc_ON_extend_52 : decode prog_9_method_3_code 52 = .ok (.getfield 9, 3) := by decide +kernel
theorem dc_ON_extend_55 : decode prog_9_method_3_code 55 = .ok (.iload_n 3, 1) := by decide +kernel
theorem dc_ON_extend_56 : decode prog_9_method_3_code 56 = .ok (.iload 4, 2) := by decide +kernel
theorem dc_ON_extend_58 : decode prog_9_method_3_code 58 = .ok (.iastore, 1) := by decide +kernel
theorem dc_ON_extend_59 : decode prog_9_method_3_code 59 = .ok (.aload_n 0, 1) := by decide +kernel
theorem dc_ON_extend_60 : decode prog_9_method_3_code 60 = .ok (.aload_n 0, 1) := by decide +kernel
theorem dc_ON_extend_61 : decode prog_9_method_3_code 61 = .ok (.getfield 22, 3) := by decide +kernel
theorem dc_ON_extend_64 : decode prog_9_method_3_code 64 = .ok (.iload 4, 2) := by decide +kernel
theorem dc_ON_extend_66 : decode prog_9_method_3_code 66 = .ok (.invokestatic 36, 3) := by decide +kernel
theorem dc_ON_extend_69 : decode prog_9_method_3_code 69 = .ok (.putfield 22, 3) := by decide +kernel
theorem dc_ON_extend_72 : decode prog_9_method_3_code 72 = .ok (.aload_n 0, 1) := by decide +kernel
theorem dc_ON_extend_73 : decode prog_9_method_3_code 73 = .ok (.dup, 1) := by decide +kernel
theorem dc_ON_extend_74 : decode prog_9_method_3_code 74 = .ok (.getfield 18, 3) := by decide +kernel
theorem dc_ON_extend_77 : decode prog_9_method_3_code 77 = .ok (.iconst 1, 1) := by decide +kernel
theorem dc_ON_extend_78 : decode prog_9_method_3_code 78 = .ok (.iadd, 1) := by decide +kernel
theorem dc_ON_extend_79 : decode prog_9_method_3_code 79 = .ok (.putfield 18, 3) := by decide +kernel
theorem dc_ON_extend_82 : decode prog_9_method_3_code 82 = .ok (.return_, 1) := by decide +kernel
theorem w_ON_extend_0 {G : GC} {d : Nat} {P : PT} {I : MI} {J : MJ} {o1 : Nat} (h1 : PtsAt o1) {x2 : Int32} (b1 : ((I 39 0) < 40) → vp_in x2 40) (b2 : ((I 39 0) < 40) → vp_in (I (o1 + 4) x2.toNatClampNeg) 40) (b3 : ((I 39 0) < 40) → vp_in (((I 40 (I (o1 + 4) x2.toNatClampNeg).toNatClampNeg) + 1) - 1) 41) (b4 : ((I 39 0) < 40) → vp_in ((I 40 (I (o1 + 4) x2.toNatClampNeg).toNatClampNeg) + 1) 41) (q5 : ((I 39 0) < 40) → P none (u2 (u2 (u2 (u2 (u2 I 41 (((I 40 (I (o1 + 4) x2.toNatClampNeg).toNatClampNeg) + 1) - 1).toNatClampNeg ((I 41 (((I 40 (I (o1 + 4) x2.toNatClampNeg).toNatClampNeg) + 1) - 1).toNatClampNeg) - 1)) 41 ((I 40 (I (o1 + 4) x2.toNatClampNeg).toNatClampNeg) + 1).toNatClampNeg (((u2 I 41 (((I 40 (I (o1 + 4) x2.toNatClampNeg).toNatClampNeg) + 1) - 1).toNatClampNeg ((I 41 (((I 40 (I (o1 + 4) x2.toNatClampNeg).toNatClampNeg) + 1) - 1).toNatClampNeg) - 1)) 41 ((I 40 (I (o1 + 4) x2.toNatClampNeg).toNatClampNeg) + 1).toNatClampNeg) + 1)) 40 (I (o1 + 4) x2.toNatClampNeg).toNatClampNeg ((I 40 (I (o1 + 4) x2.toNatClampNeg).toNatClampNeg) + 1)) 39 3 (f_JM_max_II (I 39 3) ((I 40 (I (o1 + 4) x2.toNatClampNeg).toNatClampNeg) + 1))) 39 0 ((I 39 0) + 1)) J) (q6 : (¬ ((I 39 0) < 40)) → P none I J) : Go G (fr G m_ON_extend (d + 1) P) 0 [some (.ref 39), some (.ref o1), some (.int x2), none, none] [] I J := by
  refine g_aload_n dc_ON_extend_0 rfl rfl rfl ?_
  refine g_get (C := "LevelBreaks$One") (T := T_ON) (N := 4) (k := 0) (v := .int (I 39 0)) sh_39 (by decide) rfl rfl i_ON (by decide) fl_ON_18 (Or.inr sf_ON_size) rfl dc_ON_extend_1 rfl ?_
  refine g_bipush (v := 40) dc_ON_extend_4 rfl (by decide) ?_
  refine g_ic_lt (tgt := 10) dc_ON_extend_6 rfl (by decide) (fun c1 => ?_) (fun c1 => ?_)
  · refine g_aload_n dc_ON_extend_10 rfl rfl rfl ?_
    refine g_get (C := "LevelBreaks$Points") (T := T_PO) (N := 5) (k := 3) (v := .ref (o1 + 4)) h1.1 (by decide) rfl rfl i_PO (by decide) fl_ON_31 (Or.inl rfl) rfl dc_ON_extend_11 rfl ?_
    refine g_iload_n dc_ON_extend_14 rfl rfl rfl ?_
    refine g_ialdv (v := (I (o1 + 4) x2.toNatClampNeg)) h1.2.2.2.2 (b1 c1) rfl dc_ON_extend_15 rfl ?_
    refine g_istore_n (L' := [some (.ref 39), some (.ref o1), some (.int x2), some (.int (I (o1 + 4) x2.toNatClampNeg)), none]) dc_ON_extend_16 rfl rfl (Nat.le_of_ble_eq_true rfl) rfl ?_
    refine g_aload_n dc_ON_extend_17 rfl rfl rfl ?_
    refine g_get (C := "LevelBreaks$One") (T := T_ON) (N := 4) (k := 1) (v := .ref 40) sh_39 (by decide) rfl rfl i_ON (by decide) fl_ON_9 (Or.inl rfl) rfl dc_ON_extend_18 rfl ?_
    refine g_iload_n dc_ON_extend_21 rfl rfl rfl ?_
    refine g_ialdv (v := (I 40 (I (o1 + 4) x2.toNatClampNeg).toNatClampNeg)) sh_40 (b2 c1) rfl dc_ON_extend_22 rfl ?_
    refine g_iconst (v := 1) dc_ON_extend_23 rfl (by decide) ?_
    refine g_iadd dc_ON_extend_24 rfl ?_
    refine g_istore (L' := [some (.ref 39), some (.ref o1), some (.int x2), some (.int (I (o1 + 4) x2.toNatClampNeg)), some (.int ((I 40 (I (o1 + 4) x2.toNatClampNeg).toNatClampNeg) + 1))]) dc_ON_extend_25 rfl (Nat.le_of_ble_eq_true rfl) rfl ?_
    refine g_aload_n dc_ON_extend_27 rfl rfl rfl ?_
    refine g_get (C := "LevelBreaks$One") (T := T_ON) (N := 4) (k := 2) (v := .ref 41) sh_39 (by decide) rfl rfl i_ON (by decide) fl_ON_15 (Or.inl rfl) rfl dc_ON_extend_28 rfl ?_
    refine g_iload dc_ON_extend_31 rfl rfl ?_
    refine g_iconst (v := 1) dc_ON_extend_33 rfl (by decide) ?_
    refine g_isub dc_ON_extend_34 rfl ?_
    refine g_dup2 dc_ON_extend_35 rfl rfl rfl ?_
    refine g_ialdv (v := (I 41 (((I 40 (I (o1 + 4) x2.toNatClampNeg).toNatClampNeg) + 1) - 1).toNatClampNeg)) sh_41 (b3 c1) rfl dc_ON_extend_36 rfl ?_
    refine g_iconst (v := 1) dc_ON_extend_37 rfl (by decide) ?_
    refine g_isub dc_ON_extend_38 rfl ?_
    refine g_iast sh_41 (b3 c1) dc_ON_extend_39 rfl ?_
    refine g_aload_n dc_ON_extend_40 rfl rfl rfl ?_
    refine g_get (C := "LevelBreaks$One") (T := T_ON) (N := 4) (k := 2) (v := .ref 41) sh_39 (by decide) rfl rfl i_ON (by decide) fl_ON_15 (Or.inl rfl) rfl dc_ON_extend_41 rfl ?_
    refine g_iload dc_ON_extend_44 rfl rfl ?_
    refine g_dup2 dc_ON_extend_46 rfl rfl rfl ?_
    refine g_ialdv (v := ((u2 I 41 (((I 40 (I (o1 + 4) x2.toNatClampNeg).toNatClampNeg) + 1) - 1).toNatClampNeg ((I 41 (((I 40 (I (o1 + 4) x2.toNatClampNeg).toNatClampNeg) + 1) - 1).toNatClampNeg) - 1)) 41 ((I 40 (I (o1 + 4) x2.toNatClampNeg).toNatClampNeg) + 1).toNatClampNeg)) sh_41 (b4 c1) (by simp [u2]) dc_ON_extend_47 rfl ?_
    refine g_iconst (v := 1) dc_ON_extend_48 rfl (by decide) ?_
    refine g_iadd dc_ON_extend_49 rfl ?_
    refine g_iast sh_41 (b4 c1) dc_ON_extend_50 rfl ?_
    refine g_aload_n dc_ON_extend_51 rfl rfl rfl ?_
    refine g_get (C := "LevelBreaks$One") (T := T_ON) (N := 4) (k := 1) (v := .ref 40) sh_39 (by decide) rfl rfl i_ON (by decide) fl_ON_9 (Or.inl rfl) rfl dc_ON_extend_52 rfl ?_
    refine g_iload_n dc_ON_extend_55 rfl rfl rfl ?_
    refine g_iload dc_ON_extend_56 rfl rfl ?_
    refine g_iast sh_40 (b2 c1) dc_ON_extend_58 rfl ?_
    refine g_aload_n dc_ON_extend_59 rfl rfl rfl ?_
    refine g_aload_n dc_ON_extend_60 rfl rfl rfl ?_
    refine g_get (C := "LevelBreaks$One") (T := T_ON) (N := 4) (k := 3) (v := .int (I 39 3)) sh_39 (by decide) rfl rfl i_ON (by decide) fl_ON_22 (Or.inl rfl) rfl dc_ON_extend_61 rfl ?_
    refine g_iload dc_ON_extend_64 rfl rfl ?_
    refine g_callS (M := m_JM_max_II) (As := [.int (I 39 3), .int ((I 40 (I (o1 + 4) x2.toNatClampNeg).toNatClampNeg) + 1)]) (rest := [.ref 39]) ok_JM_max_II st_JM_max_II ml_ON_36 rfl rfl (Nat.le_of_ble_eq_true rfl) dc_ON_extend_66 rfl rOk_fr (c_JM_max_II ?_)
    show Go G (fr G m_ON_extend (d + 1) P) 69 [some (.ref 39), some (.ref o1), some (.int x2), some (.int (I (o1 + 4) x2.toNatClampNeg)), some (.int ((I 40 (I (o1 + 4) x2.toNatClampNeg).toNatClampNeg) + 1))] [.int (f_JM_max_II (I 39 3) ((I 40 (I (o1 + 4) x2.toNatClampNeg).toNatClampNeg) + 1)), .ref 39] (u2 (u2 (u2 I 41 (((I 40 (I (o1 + 4) x2.toNatClampNeg).toNatClampNeg) + 1) - 1).toNatClampNeg ((I 41 (((I 40 (I (o1 + 4) x2.toNatClampNeg).toNatClampNeg) + 1) - 1).toNatClampNeg) - 1)) 41 ((I 40 (I (o1 + 4) x2.toNatClampNeg).toNatClampNeg) + 1).toNatClampNeg (((u2 I 41 (((I 40 (I (o1 + 4) x2.toNatClampNeg).toNatClampNeg) + 1) - 1).toNatClampNeg ((I 41 (((I 40 (I (o1 + 4) x2.toNatClampNeg).toNatClampNeg) + 1) - 1).toNatClampNeg) - 1)) 41 ((I 40 (I (o1 + 4) x2.toNatClampNeg).toNatClampNeg) + 1).toNatClampNeg) + 1)) 40 (I (o1 + 4) x2.toNatClampNeg).toNatClampNeg ((I 40 (I (o1 + 4) x2.toNatClampNeg).toNatClampNeg) + 1)) J
    refine g_putI (C := "LevelBreaks$One") (T := T_ON) (N := 4) (k := 3) (ty := t_ON) sh_39 (by decide) rfl rfl i_ON p_ON n_ON (by decide) fl_ON_22 (Or.inl rfl) rfl (by decide) dc_ON_extend_69 rfl ?_
    refine g_aload_n dc_ON_extend_72 rfl rfl rfl ?_
    refine g_dup dc_ON_extend_73 rfl rfl ?_
    refine g_get (C := "LevelBreaks$One") (T := T_ON) (N := 4) (k := 0) (v := .int (I 39 0)) sh_39 (by decide) rfl rfl i_ON (by decide) fl_ON_18 (Or.inr sf_ON_size) rfl dc_ON_extend_74 rfl ?_
    refine g_iconst (v := 1) dc_ON_extend_77 rfl (by decide) ?_
    refine g_iadd dc_ON_extend_78 rfl ?_
    refine g_putI (C := "LevelBreaks$One") (T := T_ON) (N := 4) (k := 0) (ty := t_ON) sh_39 (by decide) rfl rfl i_ON p_ON n_ON (by decide) fl_ON_18 (Or.inr sf_ON_size) rfl (by decide) dc_ON_extend_79 rfl ?_
    exact g_vret rfl dc_ON_extend_82 (q5 c1)
  · exact g_vret rfl dc_ON_extend_9 (q6 c1)
theorem dc_ON_mostWithout_0 : decode prog_9_method_6_code 0 = .ok (.aload_n 0, 1) := by decide +kernel
theorem dc_ON_mostWithout_1 : decode prog_9_method_6_code 1 = .ok (.getfield 9, 3) := by decide +kernel
theorem dc_ON_mostWithout_4 : decode prog_9_method_6_code 4 = .ok (.iload_n 1, 1) := by decide +kernel
theorem dc_ON_mostWithout_5 : decode prog_9_method_6_code 5 = .ok (.iaload, 1) := by decide +kernel
theorem dc_ON_mostWithout_6 : decode prog_9_method_6_code 6 = .ok (.aload_n 0, 1) := by decide +kernel
theorem dc_ON_mostWithout_7 : decode prog_9_method_6_code 7 = .ok (.getfield 22, 3) := by decide +kernel
theorem dc_ON_mostWithout_10 : decode prog_9_method_6_code 10 = .ok (.if_icmp .ne 7, 3) := by decide +kernel
theorem dc_ON_mostWithout_13 : decode prog_9_method_6_code 13 = .ok (.iconst 1, 1) := by decide +kernel
theorem dc_ON_mostWithout_14 : decode prog_9_method_6_code 14 = .ok (.goto 4, 3) := by decide +kernel
theorem dc_ON_mostWithout_17 : decode prog_9_method_6_code 17 = .ok (.iconst 0, 1) := by decide +kernel
theorem dc_ON_mostWithout_18 : decode prog_9_method_6_code 18 = .ok (.istore_n 3, 1) := by decide +kernel
theorem dc_ON_mostWithout_19 : decode prog_9_method_6_code 19 = .ok (.iload_n 2, 1) := by decide +kernel
theorem dc_ON_mostWithout_20 : decode prog_9_method_6_code 20 = .ok (.iconst (-1), 1) := by decide +kernel
theorem dc_ON_mostWithout_21 : decode prog_9_method_6_code 21 = .ok (.if_icmp .eq 19, 3) := by decide +kernel
theorem dc_ON_mostWithout_24 : decode prog_9_method_6_code 24 = .ok (.aload_n 0, 1) := by decide +kernel
theorem dc_ON_mostWithout_25 : decode prog_9_method_6_code 25 = .ok (.getfield 9, 3) := by decide +kernel
theorem dc_ON_mostWithout_28 : decode prog_9_method_6_code 28 = .ok (.iload_n 2, 1) := by decide +kernel
theorem dc_ON_mostWithout_29 : decode prog_9_method_6_code 29 = .ok (.iaload, 1) := by decide +kernel
theorem dc_ON_mostWithout_30 : decode prog_9_method_6_code 30 = .ok (.aload_n 0, 1) := by decide +kernel
theorem dc_ON_mostWithout_31 : decode prog_9_method_6_code 31 = .ok (.getfield 22, 3) := by decide +kernel
theorem dc_ON_mostWithout_34 : decode prog_9_method_6_code 34 = .ok (.if_icmp .ne 6, 3) := by decide +kernel
theorem dc_ON_mostWithout_37 : decode prog_9_method_6_code 37 = .ok (.iinc 3 1, 3) := by decide +kernel
theorem dc_ON_mostWithout_40 : decode prog_9_method_6_code 40 = .ok (.aload_n 0, 1) := by decide +kernel
theorem dc_ON_mostWithout_41 : decode prog_9_method_6_code 41 = .ok (.getfield 15, 3) := by decide +kernel
theorem dc_ON_mostWithout_44 : decode prog_9_method_6_code 44 = .ok (.aload_n 0, 1) := by decide +kernel
theorem dc_ON_mostWithout_45 : decode prog_9_method_6_code 45 = .ok (.getfield 22, 3) := by decide +kernel
theorem dc_ON_mostWithout_48 : decode prog_9_method_6_code 48 = .ok (.iaload, 1) := by decide +kernel
theorem dc_ON_mostWithout_49 : decode prog_9_method_6_code 49 = .ok (.iload_n 3, 1) := by decide +kernel
theorem dc_ON_mostWithout_50 : decode prog_9_method_6_code 50 = .ok (.if_icmp .le 10, 3) := by decide +kernel
theorem dc_ON_mostWithout_53 : decode prog_9_method_6_code 53 = .ok (.aload_n 0, 1) := by decide +kernel
theorem dc_ON_mostWithout_54 : decode prog_9_method_6_code 54 = .ok (.getfield 22, 3) := by decide +kernel
theorem dc_ON_mostWithout_57 : decode prog_9_method_6_code 57 = .ok (.goto 9, 3) := by decide +kernel
theorem dc_ON_mostWithout_60 : decode prog_9_method_6_code 60 = .ok (.aload_n 0, 1) := by decide +kernel
theorem dc_ON_mostWithout_61 : decode prog_9_method_6_code 61 = .ok (.getfield 22, 3) := by decide +kernel
theorem dc_ON_mostWithout_64 : decode prog_9_method_6_code 64 = .ok (.iconst 1, 1) := by decide +kernel
theorem dc_ON_mostWithout_65 : decode prog_9_method_6_code 65 = .ok (.isub, 1) := by decide +kernel
theorem dc_ON_mostWithout_66 : decode prog_9_method_6_code 66 = .ok (.ireturn, 1) := by decide +kernel
theorem w_ON_mostWithout_0 {G : GC} {d : Nat} {P : PT} {I : MI} {J : MJ} {x1 : Int32} {x2 : Int32} (b1 : vp_in x1 40) (k2 : (¬ (I 40 x1.toNatClampNeg) = (I 39 3)) → Go G (fr G m_ON_mostWithout d P) 18 [some (.ref 39), none, some (.int x2), none] [.int 0] I J) (k3 : ((I 40 x1.toNatClampNeg) = (I 39 3)) → Go G (fr G m_ON_mostWithout d P) 18 [some (.ref 39), none, some (.int x2), none] [.int 1] I J) : Go G (fr G m_ON_mostWithout d P) 0 [some (.ref 39), some (.int x1), some (.int x2), none] [] I J := by
  refine g_aload_n dc_ON_mostWithout_0 rfl rfl rfl ?_
  refine g_get (C := "LevelBreaks$One") (T := T_ON) (N := 4) (k := 1) (v := .ref 40) sh_39 (by decide) rfl rfl i_ON (by decide) fl_ON_9 (Or.inl rfl) rfl dc_ON_mostWithout_1 rfl ?_
  refine g_iload_n dc_ON_mostWithout_4 rfl rfl rfl ?_
  refine g_ialdv (v := (I 40 x1.toNatClampNeg)) sh_40 b1 rfl dc_ON_mostWithout_5 rfl ?_
  refine g_aload_n dc_ON_mostWithout_6 rfl rfl rfl ?_
  refine g_get (C := "LevelBreaks$One") (T := T_ON) (N := 4) (k := 3) (v := .int (I 39 3)) sh_39 (by decide) rfl rfl i_ON (by decide) fl_ON_22 (Or.inl rfl) rfl dc_ON_mostWithout_7 rfl ?_
  refine g_ic_ne (tgt := 17) dc_ON_mostWithout_10 rfl (by decide) (fun c1 => ?_) (fun c1 => ?_)
  · refine g_iconst (v := 0) dc_ON_mostWithout_17 rfl (by decide) ?_
    refine g_weak [some (.ref 39), none, some (.int x2), none] ⟨rfl, ⟨rfl, trivial⟩⟩ ?_
    exact (k2 c1)
  · refine g_iconst (v := 1) dc_ON_mostWithout_13 rfl (by decide) ?_
    refine g_goto (tgt := 18) dc_ON_mostWithout_14 (by decide) ?_
    refine g_weak [some (.ref 39), none, some (.int x2), none] ⟨rfl, ⟨rfl, trivial⟩⟩ ?_
    exact (k3 c1)
theorem w_ON_mostWithout_18 {G : GC} {d : Nat} {P : PT} {I : MI} {J : MJ} {x2 : Int32} {y0 : Int32} (k1 : (x2 = (-1)) → Go G (fr G m_ON_mostWithout d P) 40 [some (.ref 39), none, none, some (.int y0)] [] I J) (b2 : (¬ (x2 = (-1))) → vp_in x2 40) (k3 : (¬ (x2 = (-1))) → (¬ (I 40 x2.toNatClampNeg) = (I 39 3)) → Go G (fr G m_ON_mostWithout d P) 40 [some (.ref 39), none, none, some (.int y0)] [] I J) (k4 : (¬ (x2 = (-1))) → ((I 40 x2.toNatClampNeg) = (I 39 3)) → Go G (fr G m_ON_mostWithout d P) 40 [some (.ref 39), none, none, some (.int (y0 + 1))] [] I J) : Go G (fr G m_ON_mostWithout d P) 18 [some (.ref 39), none, some (.int x2), none] [.int y0] I J := by
  refine g_istore_n (L' := [some (.ref 39), none, some (.int x2), some (.int y0)]) dc_ON_mostWithout_18 rfl rfl (Nat.le_of_ble_eq_true rfl) rfl ?_
  refine g_iload_n dc_ON_mostWithout_19 rfl rfl rfl ?_
  refine g_iconst (v := (-1)) dc_ON_mostWithout_20 rfl (by decide) ?_
  refine g_ic_eq (tgt := 40) dc_ON_mostWithout_21 rfl (by decide) (fun c1 => ?_) (fun c1 => ?_)
  · refine g_weak [some (.ref 39), none, none, some (.int y0)] ⟨rfl, ⟨rfl, trivial⟩⟩ ?_
    exact (k1 c1)
  · refine g_aload_n dc_ON_mostWithout_24 rfl rfl rfl ?_
    refine g_get (C := "LevelBreaks$One") (T := T_ON) (N := 4) (k := 1) (v := .ref 40) sh_39 (by decide) rfl rfl i_ON (by decide) fl_ON_9 (Or.inl rfl) rfl dc_ON_mostWithout_25 rfl ?_
    refine g_iload_n dc_ON_mostWithout_28 rfl rfl rfl ?_
    refine g_ialdv (v := (I 40 x2.toNatClampNeg)) sh_40 (b2 c1) rfl dc_ON_mostWithout_29 rfl ?_
    refine g_aload_n dc_ON_mostWithout_30 rfl rfl rfl ?_
    refine g_get (C := "LevelBreaks$One") (T := T_ON) (N := 4) (k := 3) (v := .int (I 39 3)) sh_39 (by decide) rfl rfl i_ON (by decide) fl_ON_22 (Or.inl rfl) rfl dc_ON_mostWithout_31 rfl ?_
    refine g_ic_ne (tgt := 40) dc_ON_mostWithout_34 rfl (by decide) (fun c2 => ?_) (fun c2 => ?_)
    · refine g_weak [some (.ref 39), none, none, some (.int y0)] ⟨rfl, ⟨rfl, trivial⟩⟩ ?_
      exact (k3 c1 c2)
    · refine g_iinc (v := (y0 + 1)) (L' := [some (.ref 39), none, some (.int x2), some (.int (y0 + 1))]) dc_ON_mostWithout_37 rfl rfl (by rw [show Int32.ofInt 1 = 1 from by decide]) (Nat.le_of_ble_eq_true rfl) rfl ?_
      refine g_weak [some (.ref 39), none, none, some (.int (y0 + 1))] ⟨rfl, ⟨rfl, trivial⟩⟩ ?_
      exact (k4 c1 c2)
theorem w_ON_mostWithout_40 {G : GC} {d : Nat} {P : PT} {I : MI} {J : MJ} {x3 : Int32} (b1 : vp_in (I 39 3) 41) (q2 : ((I 41 (I 39 3).toNatClampNeg) ≤ x3) → P (some (.int ((I 39 3) - 1))) I J) (q3 : (¬ ((I 41 (I 39 3).toNatClampNeg) ≤ x3)) → P (some (.int (I 39 3))) I J) : Go G (fr G m_ON_mostWithout d P) 40 [some (.ref 39), none, none, some (.int x3)] [] I J := by
  refine g_aload_n dc_ON_mostWithout_40 rfl rfl rfl ?_
  refine g_get (C := "LevelBreaks$One") (T := T_ON) (N := 4) (k := 2) (v := .ref 41) sh_39 (by decide) rfl rfl i_ON (by decide) fl_ON_15 (Or.inl rfl) rfl dc_ON_mostWithout_41 rfl ?_
  refine g_aload_n dc_ON_mostWithout_44 rfl rfl rfl ?_
  refine g_get (C := "LevelBreaks$One") (T := T_ON) (N := 4) (k := 3) (v := .int (I 39 3)) sh_39 (by decide) rfl rfl i_ON (by decide) fl_ON_22 (Or.inl rfl) rfl dc_ON_mostWithout_45 rfl ?_
  refine g_ialdv (v := (I 41 (I 39 3).toNatClampNeg)) sh_41 b1 rfl dc_ON_mostWithout_48 rfl ?_
  refine g_iload_n dc_ON_mostWithout_49 rfl rfl rfl ?_
  refine g_ic_le (tgt := 60) dc_ON_mostWithout_50 rfl (by decide) (fun c1 => ?_) (fun c1 => ?_)
  · refine g_aload_n dc_ON_mostWithout_60 rfl rfl rfl ?_
    refine g_get (C := "LevelBreaks$One") (T := T_ON) (N := 4) (k := 3) (v := .int (I 39 3)) sh_39 (by decide) rfl rfl i_ON (by decide) fl_ON_22 (Or.inl rfl) rfl dc_ON_mostWithout_61 rfl ?_
    refine g_iconst (v := 1) dc_ON_mostWithout_64 rfl (by decide) ?_
    refine g_isub dc_ON_mostWithout_65 rfl ?_
    exact g_iret rfl dc_ON_mostWithout_66 (q2 c1)
  · refine g_aload_n dc_ON_mostWithout_53 rfl rfl rfl ?_
    refine g_get (C := "LevelBreaks$One") (T := T_ON) (N := 4) (k := 3) (v := .int (I 39 3)) sh_39 (by decide) rfl rfl i_ON (by decide) fl_ON_22 (Or.inl rfl) rfl dc_ON_mostWithout_54 rfl ?_
    refine g_goto (tgt := 66) dc_ON_mostWithout_57 (by decide) ?_
    exact g_iret rfl dc_ON_mostWithout_66 (q3 c1)
theorem dc_ON_mostWithoutTwoOf_0 : decode prog_9_method_7_code 0 = .ok (.aload_n 0, 1) := by decide +kernel
theorem dc_ON_mostWithoutTwoOf_1 : decode prog_9_method_7_code 1 = .ok (.getfield 22, 3) := by decide +kernel
theorem dc_ON_mostWithoutTwoOf_4 : decode prog_9_method_7_code 4 = .ok (.iconst 2, 1) := by decide +kernel
theorem dc_ON_mostWithoutTwoOf_5 : decode prog_9_method_7_code 5 = .ok (.if_icmp .lt 29, 3) := by decide +kernel
theorem dc_ON_mostWithoutTwoOf_8 : decode prog_9_method_7_code 8 = .ok (.aload_n 0, 1) := by decide +kernel
theorem dc_ON_mostWithoutTwoOf_9 : decode prog_9_method_7_code 9 = .ok (.getfield 9, 3) := by decide +kernel
theorem dc_ON_mostWithoutTwoOf_12 : decode prog_9_method_7_code 12 = .ok (.iload_n 1, 1) := by decide +kernel
theorem dc_ON_mostWithoutTwoOf_13 : decode prog_9_method_7_code 13 = .ok (.iaload, 1) := by decide +kernel
theorem dc_ON_mostWithoutTwoOf_14 : decode prog_9_method_7_code 14 = .ok (.aload_n 0, 1) := by decide +kernel
theorem dc_ON_mostWithoutTwoOf_15 : decode prog_9_method_7_code 15 = .ok (.getfield 22, 3) := by decide +kernel
theorem dc_ON_mostWithoutTwoOf_18 : decode prog_9_method_7_code 18 = .ok (.if_icmp .lt 16, 3) := by decide +kernel
theorem dc_ON_mostWithoutTwoOf_21 : decode prog_9_method_7_code 21 = .ok (.aload_n 0, 1) := by decide +kernel
theorem dc_ON_mostWithoutTwoOf_22 : decode prog_9_method_7_code 22 = .ok (.getfield 15, 3) := by decide +kernel
theorem dc_ON_mostWithoutTwoOf_25 : decode prog_9_method_7_code 25 = .ok (.aload_n 0, 1) := by decide +kernel
theorem dc_ON_mostWithoutTwoOf_26 : decode prog_9_method_7_code 26 = .ok (.getfield 22, 3) := by decide +kernel
theorem dc_ON_mostWithoutTwoOf_29 : decode prog_9_method_7_code 29 = .ok (.iaload, 1) := by decide +kernel
theorem dc_ON_mostWithoutTwoOf_30 : decode prog_9_method_7_code 30 = .ok (.iconst 1, 1) := by decide +kernel
theorem dc_ON_mostWithoutTwoOf_31 : decode prog_9_method_7_code 31 = .ok (.if_icmp .le 8, 3) := by decide +kernel
theorem dc_ON_mostWithoutTwoOf_34 : decode prog_9_method_7_code 34 = .ok (.aload_n 0, 1) := by decide +kernel
theorem dc_ON_mostWithoutTwoOf_35 : decode prog_9_method_7_code 35 = .ok (.getfield 22, 3) := by decide +kernel
theorem dc_ON_mostWithoutTwoOf_38 : decode prog_9_method_7_code 38 = .ok (.ireturn, 1) := by decide +kernel
theorem dc_ON_mostWithoutTwoOf_39 : decode prog_9_method_7_code 39 = .ok (.aload_n 0, 1) := by decide +kernel
theorem dc_ON_mostWithoutTwoOf_40 : decode prog_9_method_7_code 40 = .ok (.getfield 15, 3) := by decide +kernel
theorem dc_ON_mostWithoutTwoOf_43 : decode prog_9_method_7_code 43 = .ok (.aload_n 0, 1) := by decide +kernel
theorem dc_ON_mostWithoutTwoOf_44 : decode prog_9_method_7_code 44 = .ok (.getfield 22, 3) := by decide +kernel
theorem dc_ON_mostWithoutTwoOf_47 : decode prog_9_method_7_code 47 = .ok (.iconst 1, 1) := by decide +kernel
theorem dc_ON_mostWithoutTwoOf_48 : decode prog_9_method_7_code 48 = .ok (.isub, 1) := by decide +kernel
theorem dc_ON_mostWithoutTwoOf_49 : decode prog_9_method_7_code 49 = .ok (.iaload, 1) := by decide +kernel
theorem dc_ON_mostWithoutTwoOf_50 : decode prog_9_method_7_code 50 = .ok (.ifCond .le 12, 3) := by decide +kernel
theorem dc_ON_mostWithoutTwoOf_53 : decode prog_9_method_7_code 53 = .ok (.aload_n 0, 1) := by decide +kernel
theorem dc_ON_mostWithoutTwoOf_54 : decode prog_9_method_7_code 54 = .ok (.getfield 22, 3) := by decide +kernel
theorem dc_ON_mostWithoutTwoOf_57 : decode prog_9_method_7_code 57 = .ok (.iconst 1, 1) := by decide +kernel
theorem dc_ON_mostWithoutTwoOf_58 : decode prog_9_method_7_code 58 = .ok (.isub, 1) := by decide +kernel
theorem dc_ON_mostWithoutTwoOf_59 : decode prog_9_method_7_code 59 = .ok (.goto 9, 3) := by decide +kernel
theorem dc_ON_mostWithoutTwoOf_62 : decode prog_9_method_7_code 62 = .ok (.aload_n 0, 1) := by decide +kernel
theorem dc_ON_mostWithoutTwoOf_63 : decode prog_9_method_7_code 63 = .ok (.getfield 22, 3) := by decide +kernel
theorem dc_ON_mostWithoutTwoOf_66 : decode prog_9_method_7_code 66 = .ok (.iconst 2, 1) := by decide +kernel
theorem dc_ON_mostWithoutTwoOf_67 : decode prog_9_method_7_code 67 = .ok (.isub, 1) := by decide +kernel
theorem dc_ON_mostWithoutTwoOf_68 : decode prog_9_method_7_code 68 = .ok (.ireturn, 1) := by decide +kernel
theorem w_ON_mostWithoutTwoOf_0 {G : GC} {d : Nat} {P : PT} {I : MI} {J : MJ} {x1 : Int32} (k1 : ((I 39 3) < 2) → Go G (fr G m_ON_mostWithoutTwoOf d P) 34 [some (.ref 39), none] [] I J) (b2 : (¬ ((I 39 3) < 2)) → vp_in x1 40) (k3 : (¬ ((I 39 3) < 2)) → ((I 40 x1.toNatClampNeg) < (I 39 3)) → Go G (fr G m_ON_mostWithoutTwoOf d P) 34 [some (.ref 39), none] [] I J) (b4 : (¬ ((I 39 3) < 2)) → (¬ ((I 40 x1.toNatClampNeg) < (I 39 3))) → vp_in (I 39 3) 41) (b5 : (¬ ((I 39 3) < 2)) → (¬ ((I 40 x1.toNatClampNeg) < (I 39 3))) → ((I 41 (I 39 3).toNatClampNeg) ≤ 1) → vp_in ((I 39 3) - 1) 41) (q6 : (¬ ((I 39 3) < 2)) → (¬ ((I 40 x1.toNatClampNeg) < (I 39 3))) → ((I 41 (I 39 3).toNatClampNeg) ≤ 1) → ((I 41 ((I 39 3) - 1).toNatClampNeg) ≤ 0) → P (some (.int ((I 39 3) - 2))) I J) (q7 : (¬ ((I 39 3) < 2)) → (¬ ((I 40 x1.toNatClampNeg) < (I 39 3))) → ((I 41 (I 39 3).toNatClampNeg) ≤ 1) → (¬ ((I 41 ((I 39 3) - 1).toNatClampNeg) ≤ 0)) → P (some (.int ((I 39 3) - 1))) I J) (k8 : (¬ ((I 39 3) < 2)) → (¬ ((I 40 x1.toNatClampNeg) < (I 39 3))) → (¬ ((I 41 (I 39 3).toNatClampNeg) ≤ 1)) → Go G (fr G m_ON_mostWithoutTwoOf d P) 34 [some (.ref 39), none] [] I J) : Go G (fr G m_ON_mostWithoutTwoOf d P) 0 [some (.ref 39), some (.int x1)] [] I J := by
  refine g_aload_n dc_ON_mostWithoutTwoOf_0 rfl rfl rfl ?_
  refine g_get (C := "LevelBreaks$One") (T := T_ON) (N := 4) (k := 3) (v := .int (I 39 3)) sh_39 (by decide) rfl rfl i_ON (by decide) fl_ON_22 (Or.inl rfl) rfl dc_ON_mostWithoutTwoOf_1 rfl ?_
  refine g_iconst (v := 2) dc_ON_mostWithoutTwoOf_4 rfl (by decide) ?_
  refine g_ic_lt (tgt := 34) dc_ON_mostWithoutTwoOf_5 rfl (by decide) (fun c1 => ?_) (fun c1 => ?_)
  · refine g_weak [some (.ref 39), none] ⟨rfl, trivial⟩ ?_
    exact (k1 c1)
  · refine g_aload_n dc_ON_mostWithoutTwoOf_8 rfl rfl rfl ?_
    refine g_get (C := "LevelBreaks$One") (T := T_ON) (N := 4) (k := 1) (v := .ref 40) sh_39 (by decide) rfl rfl i_ON (by decide) fl_ON_9 (Or.inl rfl) rfl dc_ON_mostWithoutTwoOf_9 rfl ?_
    refine g_iload_n dc_ON_mostWithoutTwoOf_12 rfl rfl rfl ?_
    refine g_ialdv (v := (I 40 x1.toNatClampNeg)) sh_40 (b2 c1) rfl dc_ON_mostWithoutTwoOf_13 rfl ?_
    refine g_aload_n dc_ON_mostWithoutTwoOf_14 rfl rfl rfl ?_
    refine g_get (C := "LevelBreaks$One") (T := T_ON) (N := 4) (k := 3) (v := .int (I 39 3)) sh_39 (by decide) rfl rfl i_ON (by decide) fl_ON_22 (Or.inl rfl) rfl dc_ON_mostWithoutTwoOf_15 rfl ?_
    refine g_ic_lt (tgt := 34) dc_ON_mostWithoutTwoOf_18 rfl (by decide) (fun c2 => ?_) (fun c2 => ?_)
    · refine g_weak [some (.ref 39), none] ⟨rfl, trivial⟩ ?_
      exact (k3 c1 c2)
    · refine g_aload_n dc_ON_mostWithoutTwoOf_21 rfl rfl rfl ?_
      refine g_get (C := "LevelBreaks$One") (T := T_ON) (N := 4) (k := 2) (v := .ref 41) sh_39 (by decide) rfl rfl i_ON (by decide) fl_ON_15 (Or.inl rfl) rfl dc_ON_mostWithoutTwoOf_22 rfl ?_
      refine g_aload_n dc_ON_mostWithoutTwoOf_25 rfl rfl rfl ?_
      refine g_get (C := "LevelBreaks$One") (T := T_ON) (N := 4) (k := 3) (v := .int (I 39 3)) sh_39 (by decide) rfl rfl i_ON (by decide) fl_ON_22 (Or.inl rfl) rfl dc_ON_mostWithoutTwoOf_26 rfl ?_
      refine g_ialdv (v := (I 41 (I 39 3).toNatClampNeg)) sh_41 (b4 c1 c2) rfl dc_ON_mostWithoutTwoOf_29 rfl ?_
      refine g_iconst (v := 1) dc_ON_mostWithoutTwoOf_30 rfl (by decide) ?_
      refine g_ic_le (tgt := 39) dc_ON_mostWithoutTwoOf_31 rfl (by decide) (fun c3 => ?_) (fun c3 => ?_)
      · refine g_aload_n dc_ON_mostWithoutTwoOf_39 rfl rfl rfl ?_
        refine g_get (C := "LevelBreaks$One") (T := T_ON) (N := 4) (k := 2) (v := .ref 41) sh_39 (by decide) rfl rfl i_ON (by decide) fl_ON_15 (Or.inl rfl) rfl dc_ON_mostWithoutTwoOf_40 rfl ?_
        refine g_aload_n dc_ON_mostWithoutTwoOf_43 rfl rfl rfl ?_
        refine g_get (C := "LevelBreaks$One") (T := T_ON) (N := 4) (k := 3) (v := .int (I 39 3)) sh_39 (by decide) rfl rfl i_ON (by decide) fl_ON_22 (Or.inl rfl) rfl dc_ON_mostWithoutTwoOf_44 rfl ?_
        refine g_iconst (v := 1) dc_ON_mostWithoutTwoOf_47 rfl (by decide) ?_
        refine g_isub dc_ON_mostWithoutTwoOf_48 rfl ?_
        refine g_ialdv (v := (I 41 ((I 39 3) - 1).toNatClampNeg)) sh_41 (b5 c1 c2 c3) rfl dc_ON_mostWithoutTwoOf_49 rfl ?_
        refine g_if_le (tgt := 62) dc_ON_mostWithoutTwoOf_50 rfl (by decide) (fun c4 => ?_) (fun c4 => ?_)
        · refine g_aload_n dc_ON_mostWithoutTwoOf_62 rfl rfl rfl ?_
          refine g_get (C := "LevelBreaks$One") (T := T_ON) (N := 4) (k := 3) (v := .int (I 39 3)) sh_39 (by decide) rfl rfl i_ON (by decide) fl_ON_22 (Or.inl rfl) rfl dc_ON_mostWithoutTwoOf_63 rfl ?_
          refine g_iconst (v := 2) dc_ON_mostWithoutTwoOf_66 rfl (by decide) ?_
          refine g_isub dc_ON_mostWithoutTwoOf_67 rfl ?_
          exact g_iret rfl dc_ON_mostWithoutTwoOf_68 (q6 c1 c2 c3 c4)
        · refine g_aload_n dc_ON_mostWithoutTwoOf_53 rfl rfl rfl ?_
          refine g_get (C := "LevelBreaks$One") (T := T_ON) (N := 4) (k := 3) (v := .int (I 39 3)) sh_39 (by decide) rfl rfl i_ON (by decide) fl_ON_22 (Or.inl rfl) rfl dc_ON_mostWithoutTwoOf_54 rfl ?_
          refine g_iconst (v := 1) dc_ON_mostWithoutTwoOf_57 rfl (by decide) ?_
          refine g_isub dc_ON_mostWithoutTwoOf_58 rfl ?_
          refine g_goto (tgt := 68) dc_ON_mostWithoutTwoOf_59 (by decide) ?_
          exact g_iret rfl dc_ON_mostWithoutTwoOf_68 (q7 c1 c2 c3 c4)
      · refine g_weak [some (.ref 39), none] ⟨rfl, trivial⟩ ?_
        exact (k8 c1 c2 c3)
theorem w_ON_mostWithoutTwoOf_34 {G : GC} {d : Nat} {P : PT} {I : MI} {J : MJ}  (q1 : P (some (.int (I 39 3))) I J) : Go G (fr G m_ON_mostWithoutTwoOf d P) 34 [some (.ref 39), none] [] I J := by
  refine g_aload_n dc_ON_mostWithoutTwoOf_34 rfl rfl rfl ?_
  refine g_get (C := "LevelBreaks$One") (T := T_ON) (N := 4) (k := 3) (v := .int (I 39 3)) sh_39 (by decide) rfl rfl i_ON (by decide) fl_ON_22 (Or.inl rfl) rfl dc_ON_mostWithoutTwoOf_35 rfl ?_
  exact g_iret rfl dc_ON_mostWithoutTwoOf_38 q1
theorem dc_ON_restart_0 : decode prog_9_method_2_code 0 = .ok (.aload_n 0, 1) := by decide +kernel
theorem dc_ON_restart_1 : decode prog_9_method_2_code 1 = .ok (.iconst 0, 1) := by decide +kernel
theorem dc_ON_restart_2 : decode prog_9_method_2_code 2 = .ok (.putfield 18, 3) := by decide +kernel
theorem dc_ON_restart_5 : decode prog_9_method_2_code 5 = .ok (.aload_n 0, 1) := by decide +kernel
theorem dc_ON_restart_6 : decode prog_9_method_2_code 6 = .ok (.iconst 0, 1) := by decide +kernel
theorem dc_ON_restart_7 : decode prog_9_method_2_code 7 = .ok (.putfield 22, 3) := by decide +kernel
theorem dc_ON_restart_10 : decode prog_9_method_2_code 10 = .ok (.aload_n 0, 1) := by decide +kernel
theorem dc_ON_restart_11 : decode prog_9_method_2_code 11 = .ok (.getfield 9, 3) := by decide +kernel
theorem dc_ON_restart_14 : decode prog_9_method_2_code 14 = .ok (.iconst 0, 1) := by decide +kernel
theorem dc_ON_restart_15 : decode prog_9_method_2_code 15 = .ok (.invokestatic 25, 3) := by decide +kernel
theorem dc_ON_restart_18 : decode prog_9_method_2_code 18 = .ok (.aload_n 0, 1) := by decide +kernel
theorem dc_ON_restart_19 : decode prog_9_method_2_code 19 = .ok (.getfield 15, 3) := by decide +kernel
theorem dc_ON_restart_22 : decode prog_9_method_2_code 22 = .ok (.iconst 0, 1) := by decide +kernel
theorem dc_ON_restart_23 : decode prog_9_method_2_code 23 = .ok (.invokestatic 25, 3) := by decide +kernel
theorem dc_ON_restart_26 : decode prog_9_method_2_code 26 = .ok (.return_, 1) := by decide +kernel
theorem w_ON_restart_0 {G : GC} {d : Nat} {P : PT} {I : MI} {J : MJ}  (k1 : Ct G d m_JA_fill_AII [.ref 40, .int 0] (fun r I' J' => Go G (fr G m_ON_restart (d + 1) P) 18 [some (.ref 39)] (r.toList ++ []) I' J') (u2 (u2 I 39 0 0) 39 3 0) J) : Go G (fr G m_ON_restart (d + 1) P) 0 [some (.ref 39)] [] I J := by
  refine g_aload_n dc_ON_restart_0 rfl rfl rfl ?_
  refine g_iconst (v := 0) dc_ON_restart_1 rfl (by decide) ?_
  refine g_putI (C := "LevelBreaks$One") (T := T_ON) (N := 4) (k := 0) (ty := t_ON) sh_39 (by decide) rfl rfl i_ON p_ON n_ON (by decide) fl_ON_18 (Or.inr sf_ON_size) rfl (by decide) dc_ON_restart_2 rfl ?_
  refine g_aload_n dc_ON_restart_5 rfl rfl rfl ?_
  refine g_iconst (v := 0) dc_ON_restart_6 rfl (by decide) ?_
  refine g_putI (C := "LevelBreaks$One") (T := T_ON) (N := 4) (k := 3) (ty := t_ON) sh_39 (by decide) rfl rfl i_ON p_ON n_ON (by decide) fl_ON_22 (Or.inl rfl) rfl (by decide) dc_ON_restart_7 rfl ?_
  refine g_aload_n dc_ON_restart_10 rfl rfl rfl ?_
  refine g_get (C := "LevelBreaks$One") (T := T_ON) (N := 4) (k := 1) (v := .ref 40) sh_39 (by decide) rfl rfl i_ON (by decide) fl_ON_9 (Or.inl rfl) rfl dc_ON_restart_11 rfl ?_
  refine g_iconst (v := 0) dc_ON_restart_14 rfl (by decide) ?_
  exact g_callS (As := [.ref 40, .int 0]) (rest := []) ok_JA_fill_AII st_JA_fill_AII ml_ON_25 rfl rfl (Nat.le_of_ble_eq_true rfl) dc_ON_restart_15 rfl rOk_fr k1
theorem w_ON_restart_18 {G : GC} {d : Nat} {P : PT} {I : MI} {J : MJ}  (k1 : Ct G d m_JA_fill_AII [.ref 41, .int 0] (fun r I' J' => Go G (fr G m_ON_restart (d + 1) P) 26 [none] (r.toList ++ []) I' J') I J) : Go G (fr G m_ON_restart (d + 1) P) 18 [some (.ref 39)] [] I J := by
  refine g_aload_n dc_ON_restart_18 rfl rfl rfl ?_
  refine g_get (C := "LevelBreaks$One") (T := T_ON) (N := 4) (k := 2) (v := .ref 41) sh_39 (by decide) rfl rfl i_ON (by decide) fl_ON_15 (Or.inl rfl) rfl dc_ON_restart_19 rfl ?_
  refine g_iconst (v := 0) dc_ON_restart_22 rfl (by decide) ?_
  refine g_weak [none] trivial ?_
  exact g_callS (As := [.ref 41, .int 0]) (rest := []) ok_JA_fill_AII st_JA_fill_AII ml_ON_25 rfl rfl (Nat.le_of_ble_eq_true rfl) dc_ON_restart_23 rfl rOk_fr k1
theorem w_ON_restart_26 {G : GC} {d : Nat} {P : PT} {I : MI} {J : MJ}  (q1 : P none I J) : Go G (fr G m_ON_restart (d + 1) P) 26 [none] [] I J := by
  exact g_vret rfl dc_ON_restart_26 q1
