-- ===== PART A: goes FIRST, ahead of the names: the tables' words, and 'selects' of the private methods out of them =====
/-- a private method of a class that the tables say can be made, by its rows of tables_1 -/
def lw_okq (q : MethodName × Nat) : Prop := (q.1.cls ≠ "java/lang/invoke/MethodHandle" ∧ q.1.cls ≠ "java/lang/invoke/VarHandle") ∧ Cond.instantiable q.1.cls q.2 ∈ tables_1 ∧ Cond.privateMethod q.1 ∈ tables_1 ∧ Cond.instanceMethod q.1 ∈ tables_1
theorem lw_p0 : lw_okq (⟨"LevelBreaks", "isNextTime", "(I)Z"⟩, 11) := ⟨⟨by decide +kernel, by decide +kernel⟩, List.mem_of_getElem? (i := 18) (by decide +kernel), List.mem_of_getElem? (i := 324) (by decide +kernel), List.mem_of_getElem? (i := 325) (by decide +kernel)⟩
theorem lw_p1 : lw_okq (⟨"LevelBreaks", "refresh", "(I)V"⟩, 11) := ⟨⟨by decide +kernel, by decide +kernel⟩, List.mem_of_getElem? (i := 18) (by decide +kernel), List.mem_of_getElem? (i := 336) (by decide +kernel), List.mem_of_getElem? (i := 337) (by decide +kernel)⟩
theorem lw_p2 : lw_okq (⟨"LevelBreaks$Points", "findLike", "(I)I"⟩, 5) := ⟨⟨by decide +kernel, by decide +kernel⟩, List.mem_of_getElem? (i := 52) (by decide +kernel), List.mem_of_getElem? (i := 355) (by decide +kernel), List.mem_of_getElem? (i := 356) (by decide +kernel)⟩
theorem lw_p3 : lw_okq (⟨"LevelBreaks", "found", "(I)I"⟩, 11) := ⟨⟨by decide +kernel, by decide +kernel⟩, List.mem_of_getElem? (i := 18) (by decide +kernel), List.mem_of_getElem? (i := 370) (by decide +kernel), List.mem_of_getElem? (i := 371) (by decide +kernel)⟩
theorem lw_p4 : lw_okq (⟨"LevelBreaks$Middle", "outside", "(IIII)I"⟩, 3) := ⟨⟨by decide +kernel, by decide +kernel⟩, List.mem_of_getElem? (i := 137) (by decide +kernel), List.mem_of_getElem? (i := 424) (by decide +kernel), List.mem_of_getElem? (i := 425) (by decide +kernel)⟩
theorem lw_p5 : lw_okq (⟨"LevelBreaks$Middle", "orderedWithout", "(III)I"⟩, 3) := ⟨⟨by decide +kernel, by decide +kernel⟩, List.mem_of_getElem? (i := 137) (by decide +kernel), List.mem_of_getElem? (i := 428) (by decide +kernel), List.mem_of_getElem? (i := 429) (by decide +kernel)⟩
theorem lw_p6 : lw_okq (⟨"LevelBreaks$One", "mostWithoutTwoOf", "(I)I"⟩, 4) := ⟨⟨by decide +kernel, by decide +kernel⟩, List.mem_of_getElem? (i := 151) (by decide +kernel), List.mem_of_getElem? (i := 454) (by decide +kernel), List.mem_of_getElem? (i := 455) (by decide +kernel)⟩
theorem lw_p7 : lw_okq (⟨"LevelBreaks$One", "mostWithout", "(II)I"⟩, 4) := ⟨⟨by decide +kernel, by decide +kernel⟩, List.mem_of_getElem? (i := 151) (by decide +kernel), List.mem_of_getElem? (i := 458) (by decide +kernel), List.mem_of_getElem? (i := 459) (by decide +kernel)⟩
theorem lw_p8 : lw_okq (⟨"LevelBreaks$Sums", "bestTilt", "(JJ)J"⟩, 7) := ⟨⟨by decide +kernel, by decide +kernel⟩, List.mem_of_getElem? (i := 99) (by decide +kernel), List.mem_of_getElem? (i := 465) (by decide +kernel), List.mem_of_getElem? (i := 466) (by decide +kernel)⟩
theorem lw_p9 : lw_okq (⟨"LevelBreaks", "cutRow", "(III)Z"⟩, 11) := ⟨⟨by decide +kernel, by decide +kernel⟩, List.mem_of_getElem? (i := 18) (by decide +kernel), List.mem_of_getElem? (i := 501) (by decide +kernel), List.mem_of_getElem? (i := 502) (by decide +kernel)⟩
theorem lw_p10 : lw_okq (⟨"LevelBreaks$Cuts", "begin", "(III)V"⟩, 13) := ⟨⟨by decide +kernel, by decide +kernel⟩, List.mem_of_getElem? (i := 91) (by decide +kernel), List.mem_of_getElem? (i := 509) (by decide +kernel), List.mem_of_getElem? (i := 510) (by decide +kernel)⟩
theorem lw_p11 : lw_okq (⟨"LevelBreaks$Cuts", "offerWhole", "(LLevelBreaks$Points;LLevelBreaks$Measure;III)V"⟩, 13) := ⟨⟨by decide +kernel, by decide +kernel⟩, List.mem_of_getElem? (i := 91) (by decide +kernel), List.mem_of_getElem? (i := 523) (by decide +kernel), List.mem_of_getElem? (i := 524) (by decide +kernel)⟩
theorem lw_p12 : lw_okq (⟨"LevelBreaks$Cuts", "offer", "(IIIJII)V"⟩, 13) := ⟨⟨by decide +kernel, by decide +kernel⟩, List.mem_of_getElem? (i := 91) (by decide +kernel), List.mem_of_getElem? (i := 529) (by decide +kernel), List.mem_of_getElem? (i := 530) (by decide +kernel)⟩
theorem lw_p13 : lw_okq (⟨"LevelBreaks$Cuts", "keepIfBetter", "(IIJJII)V"⟩, 13) := ⟨⟨by decide +kernel, by decide +kernel⟩, List.mem_of_getElem? (i := 91) (by decide +kernel), List.mem_of_getElem? (i := 534) (by decide +kernel), List.mem_of_getElem? (i := 535) (by decide +kernel)⟩
theorem lw_p14 : lw_okq (⟨"LevelBreaks$Cuts", "isBetter", "(IJJI)Z"⟩, 13) := ⟨⟨by decide +kernel, by decide +kernel⟩, List.mem_of_getElem? (i := 91) (by decide +kernel), List.mem_of_getElem? (i := 538) (by decide +kernel), List.mem_of_getElem? (i := 539) (by decide +kernel)⟩
theorem lw_p15 : lw_okq (⟨"LevelBreaks$Cuts", "offerWithoutOne", "(LLevelBreaks$Points;LLevelBreaks$Measure;III)V"⟩, 13) := ⟨⟨by decide +kernel, by decide +kernel⟩, List.mem_of_getElem? (i := 91) (by decide +kernel), List.mem_of_getElem? (i := 542) (by decide +kernel), List.mem_of_getElem? (i := 543) (by decide +kernel)⟩
def lw_privs_1 : List (MethodName × Nat) := [(⟨"LevelBreaks", "isNextTime", "(I)Z"⟩, 11), (⟨"LevelBreaks", "refresh", "(I)V"⟩, 11), (⟨"LevelBreaks$Points", "findLike", "(I)I"⟩, 5), (⟨"LevelBreaks", "found", "(I)I"⟩, 11), (⟨"LevelBreaks$Middle", "outside", "(IIII)I"⟩, 3), (⟨"LevelBreaks$Middle", "orderedWithout", "(III)I"⟩, 3), (⟨"LevelBreaks$One", "mostWithoutTwoOf", "(I)I"⟩, 4), (⟨"LevelBreaks$One", "mostWithout", "(II)I"⟩, 4), (⟨"LevelBreaks$Sums", "bestTilt", "(JJ)J"⟩, 7), (⟨"LevelBreaks", "cutRow", "(III)Z"⟩, 11), (⟨"LevelBreaks$Cuts", "begin", "(III)V"⟩, 13), (⟨"LevelBreaks$Cuts", "offerWhole", "(LLevelBreaks$Points;LLevelBreaks$Measure;III)V"⟩, 13), (⟨"LevelBreaks$Cuts", "offer", "(IIIJII)V"⟩, 13), (⟨"LevelBreaks$Cuts", "keepIfBetter", "(IIJJII)V"⟩, 13), (⟨"LevelBreaks$Cuts", "isBetter", "(IJJI)Z"⟩, 13), (⟨"LevelBreaks$Cuts", "offerWithoutOne", "(LLevelBreaks$Points;LLevelBreaks$Measure;III)V"⟩, 13)]
theorem lw_r1 : ∀ q ∈ lw_privs_1, lw_okq q := List.forall_mem_cons.mpr ⟨lw_p0, List.forall_mem_cons.mpr ⟨lw_p1, List.forall_mem_cons.mpr ⟨lw_p2, List.forall_mem_cons.mpr ⟨lw_p3, List.forall_mem_cons.mpr ⟨lw_p4, List.forall_mem_cons.mpr ⟨lw_p5, List.forall_mem_cons.mpr ⟨lw_p6, List.forall_mem_cons.mpr ⟨lw_p7, List.forall_mem_cons.mpr ⟨lw_p8, List.forall_mem_cons.mpr ⟨lw_p9, List.forall_mem_cons.mpr ⟨lw_p10, List.forall_mem_cons.mpr ⟨lw_p11, List.forall_mem_cons.mpr ⟨lw_p12, List.forall_mem_cons.mpr ⟨lw_p13, List.forall_mem_cons.mpr ⟨lw_p14, List.forall_mem_cons.mpr ⟨lw_p15, fun _ h => absurd h List.not_mem_nil⟩⟩⟩⟩⟩⟩⟩⟩⟩⟩⟩⟩⟩⟩⟩⟩
theorem lw_p16 : lw_okq (⟨"LevelBreaks$Cuts", "offerWithoutTwo", "(LLevelBreaks$Points;LLevelBreaks$Measure;III)V"⟩, 13) := ⟨⟨by decide +kernel, by decide +kernel⟩, List.mem_of_getElem? (i := 91) (by decide +kernel), List.mem_of_getElem? (i := 546) (by decide +kernel), List.mem_of_getElem? (i := 547) (by decide +kernel)⟩
theorem lw_p17 : lw_okq (⟨"LevelBreaks$Cuts", "trace", "(I)Z"⟩, 13) := ⟨⟨by decide +kernel, by decide +kernel⟩, List.mem_of_getElem? (i := 91) (by decide +kernel), List.mem_of_getElem? (i := 550) (by decide +kernel), List.mem_of_getElem? (i := 551) (by decide +kernel)⟩
theorem lw_p18 : lw_okq (⟨"LevelBreaks$Cuts", "setBound", "(II)V"⟩, 13) := ⟨⟨by decide +kernel, by decide +kernel⟩, List.mem_of_getElem? (i := 91) (by decide +kernel), List.mem_of_getElem? (i := 588) (by decide +kernel), List.mem_of_getElem? (i := 589) (by decide +kernel)⟩
theorem lw_p19 : lw_okq (⟨"LevelBreaks$Cuts", "measureHeads", "(LLevelBreaks$Points;LLevelBreaks$Measure;I)V"⟩, 13) := ⟨⟨by decide +kernel, by decide +kernel⟩, List.mem_of_getElem? (i := 91) (by decide +kernel), List.mem_of_getElem? (i := 592) (by decide +kernel), List.mem_of_getElem? (i := 593) (by decide +kernel)⟩
theorem lw_p20 : lw_okq (⟨"LevelBreaks$Cuts", "countTail", "(JJI)I"⟩, 13) := ⟨⟨by decide +kernel, by decide +kernel⟩, List.mem_of_getElem? (i := 91) (by decide +kernel), List.mem_of_getElem? (i := 596) (by decide +kernel), List.mem_of_getElem? (i := 597) (by decide +kernel)⟩
theorem lw_p21 : lw_okq (⟨"LevelBreaks$Cuts", "countMiddles", "(LLevelBreaks$Points;LLevelBreaks$Measure;II)I"⟩, 13) := ⟨⟨by decide +kernel, by decide +kernel⟩, List.mem_of_getElem? (i := 91) (by decide +kernel), List.mem_of_getElem? (i := 601) (by decide +kernel), List.mem_of_getElem? (i := 602) (by decide +kernel)⟩
theorem lw_p22 : lw_okq (⟨"LevelBreaks$Cuts", "addDaysCost", "(LLevelBreaks$Points;LLevelBreaks$Measure;II)V"⟩, 13) := ⟨⟨by decide +kernel, by decide +kernel⟩, List.mem_of_getElem? (i := 91) (by decide +kernel), List.mem_of_getElem? (i := 622) (by decide +kernel), List.mem_of_getElem? (i := 623) (by decide +kernel)⟩
theorem lw_p23 : lw_okq (⟨"LevelBreaks", "keepStartDays", "(LLevelBreaks$Points;I)V"⟩, 11) := ⟨⟨by decide +kernel, by decide +kernel⟩, List.mem_of_getElem? (i := 18) (by decide +kernel), List.mem_of_getElem? (i := 638) (by decide +kernel), List.mem_of_getElem? (i := 639) (by decide +kernel)⟩
theorem lw_p24 : lw_okq (⟨"LevelBreaks", "startsAsKept", "(LLevelBreaks$Points;I)Z"⟩, 11) := ⟨⟨by decide +kernel, by decide +kernel⟩, List.mem_of_getElem? (i := 18) (by decide +kernel), List.mem_of_getElem? (i := 646) (by decide +kernel), List.mem_of_getElem? (i := 647) (by decide +kernel)⟩
theorem lw_p25 : lw_okq (⟨"LevelBreaks", "daysNear", "(LLevelBreaks$Points;II)I"⟩, 11) := ⟨⟨by decide +kernel, by decide +kernel⟩, List.mem_of_getElem? (i := 18) (by decide +kernel), List.mem_of_getElem? (i := 690) (by decide +kernel), List.mem_of_getElem? (i := 691) (by decide +kernel)⟩
theorem lw_p26 : lw_okq (⟨"LevelBreaks$Beforehand", "readPart", "()V"⟩, 8) := ⟨⟨by decide +kernel, by decide +kernel⟩, List.mem_of_getElem? (i := 221) (by decide +kernel), List.mem_of_getElem? (i := 752) (by decide +kernel), List.mem_of_getElem? (i := 753) (by decide +kernel)⟩
theorem lw_p27 : lw_okq (⟨"LevelBreaks$Beforehand", "readDay", "()I"⟩, 8) := ⟨⟨by decide +kernel, by decide +kernel⟩, List.mem_of_getElem? (i := 221) (by decide +kernel), List.mem_of_getElem? (i := 756) (by decide +kernel), List.mem_of_getElem? (i := 757) (by decide +kernel)⟩
theorem lw_p28 : lw_okq (⟨"LevelBreaks$Beforehand", "readFigures", "(I)I"⟩, 8) := ⟨⟨by decide +kernel, by decide +kernel⟩, List.mem_of_getElem? (i := 221) (by decide +kernel), List.mem_of_getElem? (i := 760) (by decide +kernel), List.mem_of_getElem? (i := 761) (by decide +kernel)⟩
theorem lw_p29 : lw_okq (⟨"LevelBreaks$Beforehand", "byteHere", "()I"⟩, 8) := ⟨⟨by decide +kernel, by decide +kernel⟩, List.mem_of_getElem? (i := 221) (by decide +kernel), List.mem_of_getElem? (i := 764) (by decide +kernel), List.mem_of_getElem? (i := 765) (by decide +kernel)⟩
theorem lw_p30 : lw_okq (⟨"LevelBreaks$Beforehand", "readNumber", "(I)I"⟩, 8) := ⟨⟨by decide +kernel, by decide +kernel⟩, List.mem_of_getElem? (i := 221) (by decide +kernel), List.mem_of_getElem? (i := 769) (by decide +kernel), List.mem_of_getElem? (i := 770) (by decide +kernel)⟩
theorem lw_p31 : lw_okq (⟨"LevelBreaks$Beforehand", "readSpread", "()I"⟩, 8) := ⟨⟨by decide +kernel, by decide +kernel⟩, List.mem_of_getElem? (i := 221) (by decide +kernel), List.mem_of_getElem? (i := 773) (by decide +kernel), List.mem_of_getElem? (i := 774) (by decide +kernel)⟩
def lw_privs_2 : List (MethodName × Nat) := [(⟨"LevelBreaks$Cuts", "offerWithoutTwo", "(LLevelBreaks$Points;LLevelBreaks$Measure;III)V"⟩, 13), (⟨"LevelBreaks$Cuts", "trace", "(I)Z"⟩, 13), (⟨"LevelBreaks$Cuts", "setBound", "(II)V"⟩, 13), (⟨"LevelBreaks$Cuts", "measureHeads", "(LLevelBreaks$Points;LLevelBreaks$Measure;I)V"⟩, 13), (⟨"LevelBreaks$Cuts", "countTail", "(JJI)I"⟩, 13), (⟨"LevelBreaks$Cuts", "countMiddles", "(LLevelBreaks$Points;LLevelBreaks$Measure;II)I"⟩, 13), (⟨"LevelBreaks$Cuts", "addDaysCost", "(LLevelBreaks$Points;LLevelBreaks$Measure;II)V"⟩, 13), (⟨"LevelBreaks", "keepStartDays", "(LLevelBreaks$Points;I)V"⟩, 11), (⟨"LevelBreaks", "startsAsKept", "(LLevelBreaks$Points;I)Z"⟩, 11), (⟨"LevelBreaks", "daysNear", "(LLevelBreaks$Points;II)I"⟩, 11), (⟨"LevelBreaks$Beforehand", "readPart", "()V"⟩, 8), (⟨"LevelBreaks$Beforehand", "readDay", "()I"⟩, 8), (⟨"LevelBreaks$Beforehand", "readFigures", "(I)I"⟩, 8), (⟨"LevelBreaks$Beforehand", "byteHere", "()I"⟩, 8), (⟨"LevelBreaks$Beforehand", "readNumber", "(I)I"⟩, 8), (⟨"LevelBreaks$Beforehand", "readSpread", "()I"⟩, 8)]
theorem lw_r2 : ∀ q ∈ lw_privs_2, lw_okq q := List.forall_mem_cons.mpr ⟨lw_p16, List.forall_mem_cons.mpr ⟨lw_p17, List.forall_mem_cons.mpr ⟨lw_p18, List.forall_mem_cons.mpr ⟨lw_p19, List.forall_mem_cons.mpr ⟨lw_p20, List.forall_mem_cons.mpr ⟨lw_p21, List.forall_mem_cons.mpr ⟨lw_p22, List.forall_mem_cons.mpr ⟨lw_p23, List.forall_mem_cons.mpr ⟨lw_p24, List.forall_mem_cons.mpr ⟨lw_p25, List.forall_mem_cons.mpr ⟨lw_p26, List.forall_mem_cons.mpr ⟨lw_p27, List.forall_mem_cons.mpr ⟨lw_p28, List.forall_mem_cons.mpr ⟨lw_p29, List.forall_mem_cons.mpr ⟨lw_p30, List.forall_mem_cons.mpr ⟨lw_p31, fun _ h => absurd h List.not_mem_nil⟩⟩⟩⟩⟩⟩⟩⟩⟩⟩⟩⟩⟩⟩⟩⟩
theorem lw_p32 : lw_okq (⟨"LevelBreaks$Beforehand", "offAt", "(LLevelBreaks$Points;I)I"⟩, 8) := ⟨⟨by decide +kernel, by decide +kernel⟩, List.mem_of_getElem? (i := 221) (by decide +kernel), List.mem_of_getElem? (i := 785) (by decide +kernel), List.mem_of_getElem? (i := 786) (by decide +kernel)⟩
theorem lw_p33 : lw_okq (⟨"LevelBreaksModel", "tells", "(IIII)I"⟩, 45) := ⟨⟨by decide +kernel, by decide +kernel⟩, List.mem_of_getElem? (i := 858) (by decide +kernel), List.mem_of_getElem? (i := 1005) (by decide +kernel), List.mem_of_getElem? (i := 1006) (by decide +kernel)⟩
theorem lw_p34 : lw_okq (⟨"LevelBreaksModel", "lastTime", "()I"⟩, 45) := ⟨⟨by decide +kernel, by decide +kernel⟩, List.mem_of_getElem? (i := 858) (by decide +kernel), List.mem_of_getElem? (i := 1018) (by decide +kernel), List.mem_of_getElem? (i := 1019) (by decide +kernel)⟩
theorem lw_p35 : lw_okq (⟨"LevelBreaksModel", "meets", "(I)I"⟩, 45) := ⟨⟨by decide +kernel, by decide +kernel⟩, List.mem_of_getElem? (i := 858) (by decide +kernel), List.mem_of_getElem? (i := 1029) (by decide +kernel), List.mem_of_getElem? (i := 1030) (by decide +kernel)⟩
theorem lw_p36 : lw_okq (⟨"LevelBreaksModel", "valueAt", "(III)I"⟩, 45) := ⟨⟨by decide +kernel, by decide +kernel⟩, List.mem_of_getElem? (i := 858) (by decide +kernel), List.mem_of_getElem? (i := 1045) (by decide +kernel), List.mem_of_getElem? (i := 1046) (by decide +kernel)⟩
theorem lw_p37 : lw_okq (⟨"LevelBreaksModel", "manyOf", "(I)I"⟩, 45) := ⟨⟨by decide +kernel, by decide +kernel⟩, List.mem_of_getElem? (i := 858) (by decide +kernel), List.mem_of_getElem? (i := 1053) (by decide +kernel), List.mem_of_getElem? (i := 1054) (by decide +kernel)⟩
theorem lw_p38 : lw_okq (⟨"LevelBreaksModel", "pointsBy", "(II)V"⟩, 45) := ⟨⟨by decide +kernel, by decide +kernel⟩, List.mem_of_getElem? (i := 858) (by decide +kernel), List.mem_of_getElem? (i := 1057) (by decide +kernel), List.mem_of_getElem? (i := 1058) (by decide +kernel)⟩
theorem lw_p39 : lw_okq (⟨"LevelBreaksModel", "costs", "(I)V"⟩, 45) := ⟨⟨by decide +kernel, by decide +kernel⟩, List.mem_of_getElem? (i := 858) (by decide +kernel), List.mem_of_getElem? (i := 1069) (by decide +kernel), List.mem_of_getElem? (i := 1070) (by decide +kernel)⟩
theorem lw_p40 : lw_okq (⟨"LevelBreaksModel", "costsBySums", "(IZ)V"⟩, 45) := ⟨⟨by decide +kernel, by decide +kernel⟩, List.mem_of_getElem? (i := 858) (by decide +kernel), List.mem_of_getElem? (i := 1073) (by decide +kernel), List.mem_of_getElem? (i := 1074) (by decide +kernel)⟩
theorem lw_p41 : lw_okq (⟨"LevelBreaksModel", "keeps", "(IJJ)V"⟩, 45) := ⟨⟨by decide +kernel, by decide +kernel⟩, List.mem_of_getElem? (i := 858) (by decide +kernel), List.mem_of_getElem? (i := 1084) (by decide +kernel), List.mem_of_getElem? (i := 1085) (by decide +kernel)⟩
theorem lw_p42 : lw_okq (⟨"LevelBreaksModel", "costsBySorting", "(IZ)V"⟩, 45) := ⟨⟨by decide +kernel, by decide +kernel⟩, List.mem_of_getElem? (i := 858) (by decide +kernel), List.mem_of_getElem? (i := 1091) (by decide +kernel), List.mem_of_getElem? (i := 1092) (by decide +kernel)⟩
theorem lw_p43 : lw_okq (⟨"LevelBreaksModel", "finds", "(IIII)Z"⟩, 45) := ⟨⟨by decide +kernel, by decide +kernel⟩, List.mem_of_getElem? (i := 858) (by decide +kernel), List.mem_of_getElem? (i := 1105) (by decide +kernel), List.mem_of_getElem? (i := 1106) (by decide +kernel)⟩
theorem lw_p44 : lw_okq (⟨"LevelBreaksModel", "cuts", "(II)V"⟩, 45) := ⟨⟨by decide +kernel, by decide +kernel⟩, List.mem_of_getElem? (i := 858) (by decide +kernel), List.mem_of_getElem? (i := 1109) (by decide +kernel), List.mem_of_getElem? (i := 1110) (by decide +kernel)⟩
theorem lw_p45 : lw_okq (⟨"LevelBreaksModel", "adds", "(II)V"⟩, 45) := ⟨⟨by decide +kernel, by decide +kernel⟩, List.mem_of_getElem? (i := 858) (by decide +kernel), List.mem_of_getElem? (i := 1113) (by decide +kernel), List.mem_of_getElem? (i := 1114) (by decide +kernel)⟩
theorem lw_p46 : lw_okq (⟨"LevelBreaksModel", "against", "(I)I"⟩, 45) := ⟨⟨by decide +kernel, by decide +kernel⟩, List.mem_of_getElem? (i := 858) (by decide +kernel), List.mem_of_getElem? (i := 1117) (by decide +kernel), List.mem_of_getElem? (i := 1118) (by decide +kernel)⟩
theorem lw_p47 : lw_okq (⟨"LevelBreaksModel", "follows", "(II)V"⟩, 45) := ⟨⟨by decide +kernel, by decide +kernel⟩, List.mem_of_getElem? (i := 858) (by decide +kernel), List.mem_of_getElem? (i := 1121) (by decide +kernel), List.mem_of_getElem? (i := 1122) (by decide +kernel)⟩
def lw_privs_3 : List (MethodName × Nat) := [(⟨"LevelBreaks$Beforehand", "offAt", "(LLevelBreaks$Points;I)I"⟩, 8), (⟨"LevelBreaksModel", "tells", "(IIII)I"⟩, 45), (⟨"LevelBreaksModel", "lastTime", "()I"⟩, 45), (⟨"LevelBreaksModel", "meets", "(I)I"⟩, 45), (⟨"LevelBreaksModel", "valueAt", "(III)I"⟩, 45), (⟨"LevelBreaksModel", "manyOf", "(I)I"⟩, 45), (⟨"LevelBreaksModel", "pointsBy", "(II)V"⟩, 45), (⟨"LevelBreaksModel", "costs", "(I)V"⟩, 45), (⟨"LevelBreaksModel", "costsBySums", "(IZ)V"⟩, 45), (⟨"LevelBreaksModel", "keeps", "(IJJ)V"⟩, 45), (⟨"LevelBreaksModel", "costsBySorting", "(IZ)V"⟩, 45), (⟨"LevelBreaksModel", "finds", "(IIII)Z"⟩, 45), (⟨"LevelBreaksModel", "cuts", "(II)V"⟩, 45), (⟨"LevelBreaksModel", "adds", "(II)V"⟩, 45), (⟨"LevelBreaksModel", "against", "(I)I"⟩, 45), (⟨"LevelBreaksModel", "follows", "(II)V"⟩, 45)]
theorem lw_r3 : ∀ q ∈ lw_privs_3, lw_okq q := List.forall_mem_cons.mpr ⟨lw_p32, List.forall_mem_cons.mpr ⟨lw_p33, List.forall_mem_cons.mpr ⟨lw_p34, List.forall_mem_cons.mpr ⟨lw_p35, List.forall_mem_cons.mpr ⟨lw_p36, List.forall_mem_cons.mpr ⟨lw_p37, List.forall_mem_cons.mpr ⟨lw_p38, List.forall_mem_cons.mpr ⟨lw_p39, List.forall_mem_cons.mpr ⟨lw_p40, List.forall_mem_cons.mpr ⟨lw_p41, List.forall_mem_cons.mpr ⟨lw_p42, List.forall_mem_cons.mpr ⟨lw_p43, List.forall_mem_cons.mpr ⟨lw_p44, List.forall_mem_cons.mpr ⟨lw_p45, List.forall_mem_cons.mpr ⟨lw_p46, List.forall_mem_cons.mpr ⟨lw_p47, fun _ h => absurd h List.not_mem_nil⟩⟩⟩⟩⟩⟩⟩⟩⟩⟩⟩⟩⟩⟩⟩⟩
theorem lw_p48 : lw_okq (⟨"LevelBreaksModel", "bestTold", "(II)J"⟩, 45) := ⟨⟨by decide +kernel, by decide +kernel⟩, List.mem_of_getElem? (i := 858) (by decide +kernel), List.mem_of_getElem? (i := 1125) (by decide +kernel), List.mem_of_getElem? (i := 1126) (by decide +kernel)⟩
theorem lw_p49 : lw_okq (⟨"LevelBreaksModel", "total", "(IJ)J"⟩, 45) := ⟨⟨by decide +kernel, by decide +kernel⟩, List.mem_of_getElem? (i := 858) (by decide +kernel), List.mem_of_getElem? (i := 1143) (by decide +kernel), List.mem_of_getElem? (i := 1144) (by decide +kernel)⟩
theorem lw_p50 : lw_okq (⟨"LevelBreaksModel", "isNear", "(JJII)Z"⟩, 45) := ⟨⟨by decide +kernel, by decide +kernel⟩, List.mem_of_getElem? (i := 858) (by decide +kernel), List.mem_of_getElem? (i := 1147) (by decide +kernel), List.mem_of_getElem? (i := 1148) (by decide +kernel)⟩
theorem lw_p51 : lw_okq (⟨"LevelBreaksModel", "shares", "(III)Z"⟩, 45) := ⟨⟨by decide +kernel, by decide +kernel⟩, List.mem_of_getElem? (i := 858) (by decide +kernel), List.mem_of_getElem? (i := 1159) (by decide +kernel), List.mem_of_getElem? (i := 1160) (by decide +kernel)⟩
theorem lw_p52 : lw_okq (⟨"LevelBreaksModel", "commonCosts", "(II)V"⟩, 45) := ⟨⟨by decide +kernel, by decide +kernel⟩, List.mem_of_getElem? (i := 858) (by decide +kernel), List.mem_of_getElem? (i := 1163) (by decide +kernel), List.mem_of_getElem? (i := 1164) (by decide +kernel)⟩
theorem lw_p53 : lw_okq (⟨"LevelBreaksModel", "pointFrom", "(I)I"⟩, 45) := ⟨⟨by decide +kernel, by decide +kernel⟩, List.mem_of_getElem? (i := 858) (by decide +kernel), List.mem_of_getElem? (i := 1167) (by decide +kernel), List.mem_of_getElem? (i := 1168) (by decide +kernel)⟩
theorem lw_p54 : lw_okq (⟨"LevelBreaksModel", "isCommon", "(III)Z"⟩, 45) := ⟨⟨by decide +kernel, by decide +kernel⟩, List.mem_of_getElem? (i := 858) (by decide +kernel), List.mem_of_getElem? (i := 1172) (by decide +kernel), List.mem_of_getElem? (i := 1173) (by decide +kernel)⟩
theorem lw_p55 : lw_okq (⟨"LevelBreaksModel", "isSame", "(IIII)Z"⟩, 45) := ⟨⟨by decide +kernel, by decide +kernel⟩, List.mem_of_getElem? (i := 858) (by decide +kernel), List.mem_of_getElem? (i := 1184) (by decide +kernel), List.mem_of_getElem? (i := 1185) (by decide +kernel)⟩
theorem lw_p56 : lw_okq (⟨"LevelBreaksModel", "but", "(II)V"⟩, 45) := ⟨⟨by decide +kernel, by decide +kernel⟩, List.mem_of_getElem? (i := 858) (by decide +kernel), List.mem_of_getElem? (i := 1200) (by decide +kernel), List.mem_of_getElem? (i := 1201) (by decide +kernel)⟩
theorem lw_p57 : lw_okq (⟨"LevelBreaksModel", "isNearDay", "(III)Z"⟩, 45) := ⟨⟨by decide +kernel, by decide +kernel⟩, List.mem_of_getElem? (i := 858) (by decide +kernel), List.mem_of_getElem? (i := 1208) (by decide +kernel), List.mem_of_getElem? (i := 1209) (by decide +kernel)⟩
theorem lw_p58 : lw_okq (⟨"LevelBreaksModel", "watches", "(IIII)V"⟩, 45) := ⟨⟨by decide +kernel, by decide +kernel⟩, List.mem_of_getElem? (i := 858) (by decide +kernel), List.mem_of_getElem? (i := 1223) (by decide +kernel), List.mem_of_getElem? (i := 1224) (by decide +kernel)⟩
theorem lw_p59 : lw_okq (⟨"LevelBreaksModel", "firstFrom", "(I)I"⟩, 45) := ⟨⟨by decide +kernel, by decide +kernel⟩, List.mem_of_getElem? (i := 858) (by decide +kernel), List.mem_of_getElem? (i := 1231) (by decide +kernel), List.mem_of_getElem? (i := 1232) (by decide +kernel)⟩
theorem lw_p60 : lw_okq (⟨"LevelBreaksModel", "before", "(I)I"⟩, 45) := ⟨⟨by decide +kernel, by decide +kernel⟩, List.mem_of_getElem? (i := 858) (by decide +kernel), List.mem_of_getElem? (i := 1235) (by decide +kernel), List.mem_of_getElem? (i := 1236) (by decide +kernel)⟩
theorem lw_p61 : lw_okq (⟨"LevelBreaksModel", "faultNow", "()I"⟩, 45) := ⟨⟨by decide +kernel, by decide +kernel⟩, List.mem_of_getElem? (i := 858) (by decide +kernel), List.mem_of_getElem? (i := 1255) (by decide +kernel), List.mem_of_getElem? (i := 1256) (by decide +kernel)⟩
theorem lw_p62 : lw_okq (⟨"LevelBreaksModel", "part", "()V"⟩, 45) := ⟨⟨by decide +kernel, by decide +kernel⟩, List.mem_of_getElem? (i := 858) (by decide +kernel), List.mem_of_getElem? (i := 1259) (by decide +kernel), List.mem_of_getElem? (i := 1260) (by decide +kernel)⟩
theorem lw_p63 : lw_okq (⟨"LevelBreaksModel", "figures", "(IZII)I"⟩, 45) := ⟨⟨by decide +kernel, by decide +kernel⟩, List.mem_of_getElem? (i := 858) (by decide +kernel), List.mem_of_getElem? (i := 1263) (by decide +kernel), List.mem_of_getElem? (i := 1264) (by decide +kernel)⟩
def lw_privs_4 : List (MethodName × Nat) := [(⟨"LevelBreaksModel", "bestTold", "(II)J"⟩, 45), (⟨"LevelBreaksModel", "total", "(IJ)J"⟩, 45), (⟨"LevelBreaksModel", "isNear", "(JJII)Z"⟩, 45), (⟨"LevelBreaksModel", "shares", "(III)Z"⟩, 45), (⟨"LevelBreaksModel", "commonCosts", "(II)V"⟩, 45), (⟨"LevelBreaksModel", "pointFrom", "(I)I"⟩, 45), (⟨"LevelBreaksModel", "isCommon", "(III)Z"⟩, 45), (⟨"LevelBreaksModel", "isSame", "(IIII)Z"⟩, 45), (⟨"LevelBreaksModel", "but", "(II)V"⟩, 45), (⟨"LevelBreaksModel", "isNearDay", "(III)Z"⟩, 45), (⟨"LevelBreaksModel", "watches", "(IIII)V"⟩, 45), (⟨"LevelBreaksModel", "firstFrom", "(I)I"⟩, 45), (⟨"LevelBreaksModel", "before", "(I)I"⟩, 45), (⟨"LevelBreaksModel", "faultNow", "()I"⟩, 45), (⟨"LevelBreaksModel", "part", "()V"⟩, 45), (⟨"LevelBreaksModel", "figures", "(IZII)I"⟩, 45)]
theorem lw_r4 : ∀ q ∈ lw_privs_4, lw_okq q := List.forall_mem_cons.mpr ⟨lw_p48, List.forall_mem_cons.mpr ⟨lw_p49, List.forall_mem_cons.mpr ⟨lw_p50, List.forall_mem_cons.mpr ⟨lw_p51, List.forall_mem_cons.mpr ⟨lw_p52, List.forall_mem_cons.mpr ⟨lw_p53, List.forall_mem_cons.mpr ⟨lw_p54, List.forall_mem_cons.mpr ⟨lw_p55, List.forall_mem_cons.mpr ⟨lw_p56, List.forall_mem_cons.mpr ⟨lw_p57, List.forall_mem_cons.mpr ⟨lw_p58, List.forall_mem_cons.mpr ⟨lw_p59, List.forall_mem_cons.mpr ⟨lw_p60, List.forall_mem_cons.mpr ⟨lw_p61, List.forall_mem_cons.mpr ⟨lw_p62, List.forall_mem_cons.mpr ⟨lw_p63, fun _ h => absurd h List.not_mem_nil⟩⟩⟩⟩⟩⟩⟩⟩⟩⟩⟩⟩⟩⟩⟩⟩
theorem lw_p64 : lw_okq (⟨"LevelBreaksModel", "byteAt", "(I)I"⟩, 45) := ⟨⟨by decide +kernel, by decide +kernel⟩, List.mem_of_getElem? (i := 858) (by decide +kernel), List.mem_of_getElem? (i := 1267) (by decide +kernel), List.mem_of_getElem? (i := 1268) (by decide +kernel)⟩
theorem lw_p65 : lw_okq (⟨"LevelBreaksModel", "offOn", "(I)I"⟩, 45) := ⟨⟨by decide +kernel, by decide +kernel⟩, List.mem_of_getElem? (i := 858) (by decide +kernel), List.mem_of_getElem? (i := 1275) (by decide +kernel), List.mem_of_getElem? (i := 1276) (by decide +kernel)⟩
theorem lw_p66 : lw_okq (⟨"LevelBreaksModel", "lacks", "(III)I"⟩, 45) := ⟨⟨by decide +kernel, by decide +kernel⟩, List.mem_of_getElem? (i := 858) (by decide +kernel), List.mem_of_getElem? (i := 1291) (by decide +kernel), List.mem_of_getElem? (i := 1292) (by decide +kernel)⟩
theorem lw_p67 : lw_okq (⟨"LevelBreaksModel", "lay", "(III)V"⟩, 45) := ⟨⟨by decide +kernel, by decide +kernel⟩, List.mem_of_getElem? (i := 858) (by decide +kernel), List.mem_of_getElem? (i := 1295) (by decide +kernel), List.mem_of_getElem? (i := 1296) (by decide +kernel)⟩
def lw_privs_5 : List (MethodName × Nat) := [(⟨"LevelBreaksModel", "byteAt", "(I)I"⟩, 45), (⟨"LevelBreaksModel", "offOn", "(I)I"⟩, 45), (⟨"LevelBreaksModel", "lacks", "(III)I"⟩, 45), (⟨"LevelBreaksModel", "lay", "(III)V"⟩, 45)]
theorem lw_r5 : ∀ q ∈ lw_privs_5, lw_okq q := List.forall_mem_cons.mpr ⟨lw_p64, List.forall_mem_cons.mpr ⟨lw_p65, List.forall_mem_cons.mpr ⟨lw_p66, List.forall_mem_cons.mpr ⟨lw_p67, fun _ h => absurd h List.not_mem_nil⟩⟩⟩⟩
def lw_privs : List (MethodName × Nat) := lw_privs_1 ++ (lw_privs_2 ++ (lw_privs_3 ++ (lw_privs_4 ++ (lw_privs_5))))
def lw_tbl : List Cond := k2_sels lw_privs ++ tables_1
theorem lw_privs_ok : ∀ q ∈ lw_privs, lw_okq q := by
  show ∀ q ∈ lw_privs_1 ++ (lw_privs_2 ++ (lw_privs_3 ++ (lw_privs_4 ++ (lw_privs_5)))), lw_okq q
  exact List.forall_mem_append.mpr ⟨lw_r1, List.forall_mem_append.mpr ⟨lw_r2, List.forall_mem_append.mpr ⟨lw_r3, List.forall_mem_append.mpr ⟨lw_r4, lw_r5⟩⟩⟩⟩

def GW : List Cond := lw_tbl.filter goodWord
theorem gw_of {w : Cond} (i : Nat) (h : tables_1[i]? = some w) (hg : goodWord w = true) : w ∈ GW := List.mem_filter.mpr ⟨List.mem_append_right _ (List.mem_of_getElem? h), hg⟩
theorem gw_1 {w : Cond} (i : Nat) (h : tables_1_1[i]? = some w) (hg : goodWord w = true) : w ∈ GW := List.mem_filter.mpr ⟨List.mem_append_right _ (show w ∈ tables_1 from List.mem_append_left _ (List.mem_of_getElem? h)), hg⟩
theorem gw_2 {w : Cond} (i : Nat) (h : tables_1_2[i]? = some w) (hg : goodWord w = true) : w ∈ GW := List.mem_filter.mpr ⟨List.mem_append_right _ (show w ∈ tables_1 from List.mem_append_right _ (List.mem_append_left _ (List.mem_of_getElem? h))), hg⟩
theorem gw_3 {w : Cond} (i : Nat) (h : tables_1_3[i]? = some w) (hg : goodWord w = true) : w ∈ GW := List.mem_filter.mpr ⟨List.mem_append_right _ (show w ∈ tables_1 from List.mem_append_right _ (List.mem_append_right _ (List.mem_append_left _ (List.mem_of_getElem? h)))), hg⟩
theorem gw_4 {w : Cond} (i : Nat) (h : tables_1_4[i]? = some w) (hg : goodWord w = true) : w ∈ GW := List.mem_filter.mpr ⟨List.mem_append_right _ (show w ∈ tables_1 from List.mem_append_right _ (List.mem_append_right _ (List.mem_append_right _ (List.mem_append_left _ (List.mem_of_getElem? h))))), hg⟩
theorem gw_5 {w : Cond} (i : Nat) (h : tables_1_5[i]? = some w) (hg : goodWord w = true) : w ∈ GW := List.mem_filter.mpr ⟨List.mem_append_right _ (show w ∈ tables_1 from List.mem_append_right _ (List.mem_append_right _ (List.mem_append_right _ (List.mem_append_right _ (List.mem_append_left _ (List.mem_of_getElem? h)))))), hg⟩
theorem gw_6 {w : Cond} (i : Nat) (h : tables_1_6[i]? = some w) (hg : goodWord w = true) : w ∈ GW := List.mem_filter.mpr ⟨List.mem_append_right _ (show w ∈ tables_1 from List.mem_append_right _ (List.mem_append_right _ (List.mem_append_right _ (List.mem_append_right _ (List.mem_append_right _ (List.mem_of_getElem? h)))))), hg⟩
theorem gw_sel {w : Cond} (i : Nat) (h : (k2_sels lw_privs)[i]? = some w) (hg : goodWord w = true) : w ∈ GW := List.mem_filter.mpr ⟨List.mem_append_left _ (List.mem_of_getElem? h), hg⟩
theorem gw_in {w : Cond} (h : w ∈ GW) : w ∈ lw_tbl := (List.mem_filter.mp h).1
theorem gw_good : GoodIn GW GW := fun w h => ⟨h, good_of_word (List.mem_filter.mp h).2⟩
def T_AL : u_T := fun k => match k with
  | _ => ("LevelBreaks$Alarms", "rung", "[I", true)
def t_AL : Nat → FieldType := fun k => match k with
  | _ => .array .int
theorem n_AL : ∀ a, a < 1 → ∀ b, b < 1 → a ≠ b → (T_AL a).2.1 ≠ (T_AL b).2.1 := by decide +kernel
theorem p_AL : ∀ k, k < 1 → parseFieldDescriptor (T_AL k).2.2.1 = some (t_AL k) := by decide +kernel
theorem i_AL : ∀ w ∈ u_ws "LevelBreaks$Alarms" T_AL 1, w ∈ GW := by decide +kernel
def T_BF : u_T := fun k => match k with
  | 0 => ("LevelBreaks$Beforehand", "text", "[I", true)
  | 1 => ("LevelBreaks$Beforehand", "size", "I", false)
  | 2 => ("LevelBreaks$Beforehand", "partDay", "[I", true)
  | 3 => ("LevelBreaks$Beforehand", "partMiddle", "[I", true)
  | 4 => ("LevelBreaks$Beforehand", "partSpread", "[I", true)
  | 5 => ("LevelBreaks$Beforehand", "parts", "I", false)
  | 6 => ("LevelBreaks$Beforehand", "at", "I", false)
  | _ => ("LevelBreaks$Beforehand", "wrong", "I", false)
def t_BF : Nat → FieldType := fun k => match k with
  | 0 => .array .int
  | 1 => .int
  | 2 => .array .int
  | 3 => .array .int
  | 4 => .array .int
  | 5 => .int
  | 6 => .int
  | _ => .int
theorem n_BF : ∀ a, a < 8 → ∀ b, b < 8 → a ≠ b → (T_BF a).2.1 ≠ (T_BF b).2.1 := by decide +kernel
theorem p_BF : ∀ k, k < 8 → parseFieldDescriptor (T_BF k).2.2.1 = some (t_BF k) := by decide +kernel
theorem i_BF : ∀ w ∈ u_ws "LevelBreaks$Beforehand" T_BF 8, w ∈ GW := by decide +kernel
def T_CU : u_T := fun k => match k with
  | 0 => ("LevelBreaks$Cuts", "measures", "[LLevelBreaks$Measure;", true)
  | 1 => ("LevelBreaks$Cuts", "whole", "[J", true)
  | 2 => ("LevelBreaks$Cuts", "rest", "[J", true)
  | 3 => ("LevelBreaks$Cuts", "drop", "[I", true)
  | 4 => ("LevelBreaks$Cuts", "next", "[I", true)
  | 5 => ("LevelBreaks$Cuts", "headWhole", "[J", true)
  | 6 => ("LevelBreaks$Cuts", "headRest", "[J", true)
  | 7 => ("LevelBreaks$Cuts", "daysCost", "[J", true)
  | 8 => ("LevelBreaks$Cuts", "stretches", "I", false)
  | 9 => ("LevelBreaks$Cuts", "drops", "I", false)
  | 10 => ("LevelBreaks$Cuts", "boundWhole", "J", false)
  | 11 => ("LevelBreaks$Cuts", "boundRest", "J", false)
  | _ => ("LevelBreaks$Cuts", "start", "[I", true)
def t_CU : Nat → FieldType := fun k => match k with
  | 0 => .array (.object "LevelBreaks$Measure")
  | 1 => .array .long
  | 2 => .array .long
  | 3 => .array .int
  | 4 => .array .int
  | 5 => .array .long
  | 6 => .array .long
  | 7 => .array .long
  | 8 => .int
  | 9 => .int
  | 10 => .long
  | 11 => .long
  | _ => .array .int
theorem n_CU : ∀ a, a < 13 → ∀ b, b < 13 → a ≠ b → (T_CU a).2.1 ≠ (T_CU b).2.1 := by decide +kernel
theorem p_CU : ∀ k, k < 13 → parseFieldDescriptor (T_CU k).2.2.1 = some (t_CU k) := by decide +kernel
theorem i_CU : ∀ w ∈ u_ws "LevelBreaks$Cuts" T_CU 13, w ∈ GW := by decide +kernel
def T_LE : u_T := fun k => match k with
  | 0 => ("LevelBreaks$Ledger", "row", "[I", true)
  | 1 => ("LevelBreaks$Ledger", "day", "[I", true)
  | 2 => ("LevelBreaks$Ledger", "worth", "[I", true)
  | 3 => ("LevelBreaks$Ledger", "time", "[I", true)
  | _ => ("LevelBreaks$Ledger", "size", "I", false)
def t_LE : Nat → FieldType := fun k => match k with
  | 0 => .array .int
  | 1 => .array .int
  | 2 => .array .int
  | 3 => .array .int
  | _ => .int
theorem n_LE : ∀ a, a < 5 → ∀ b, b < 5 → a ≠ b → (T_LE a).2.1 ≠ (T_LE b).2.1 := by decide +kernel
theorem p_LE : ∀ k, k < 5 → parseFieldDescriptor (T_LE k).2.2.1 = some (t_LE k) := by decide +kernel
theorem i_LE : ∀ w ∈ u_ws "LevelBreaks$Ledger" T_LE 5, w ∈ GW := by decide +kernel
def T_MI : u_T := fun k => match k with
  | 0 => ("LevelBreaks$Measure", "size", "I", false)
  | 1 => ("LevelBreaks$Middle", "ordered", "[I", true)
  | _ => ("LevelBreaks$Middle", "total", "J", false)
def t_MI : Nat → FieldType := fun k => match k with
  | 0 => .int
  | 1 => .array .int
  | _ => .long
theorem n_MI : ∀ a, a < 3 → ∀ b, b < 3 → a ≠ b → (T_MI a).2.1 ≠ (T_MI b).2.1 := by decide +kernel
theorem p_MI : ∀ k, k < 3 → parseFieldDescriptor (T_MI k).2.2.1 = some (t_MI k) := by decide +kernel
theorem i_MI : ∀ w ∈ u_ws "LevelBreaks$Middle" T_MI 3, w ∈ GW := by decide +kernel
def T_ON : u_T := fun k => match k with
  | 0 => ("LevelBreaks$Measure", "size", "I", false)
  | 1 => ("LevelBreaks$One", "often", "[I", true)
  | 2 => ("LevelBreaks$One", "valuesSoOften", "[I", true)
  | _ => ("LevelBreaks$One", "most", "I", false)
def t_ON : Nat → FieldType := fun k => match k with
  | 0 => .int
  | 1 => .array .int
  | 2 => .array .int
  | _ => .int
theorem n_ON : ∀ a, a < 4 → ∀ b, b < 4 → a ≠ b → (T_ON a).2.1 ≠ (T_ON b).2.1 := by decide +kernel
theorem p_ON : ∀ k, k < 4 → parseFieldDescriptor (T_ON k).2.2.1 = some (t_ON k) := by decide +kernel
theorem i_ON : ∀ w ∈ u_ws "LevelBreaks$One" T_ON 4, w ∈ GW := by decide +kernel
def T_PO : u_T := fun k => match k with
  | 0 => ("LevelBreaks$Points", "onDay", "[I", true)
  | 1 => ("LevelBreaks$Points", "day", "[I", true)
  | 2 => ("LevelBreaks$Points", "worth", "[I", true)
  | 3 => ("LevelBreaks$Points", "firstLike", "[I", true)
  | _ => ("LevelBreaks$Points", "size", "I", false)
def t_PO : Nat → FieldType := fun k => match k with
  | 0 => .array .int
  | 1 => .array .int
  | 2 => .array .int
  | 3 => .array .int
  | _ => .int
theorem n_PO : ∀ a, a < 5 → ∀ b, b < 5 → a ≠ b → (T_PO a).2.1 ≠ (T_PO b).2.1 := by decide +kernel
theorem p_PO : ∀ k, k < 5 → parseFieldDescriptor (T_PO k).2.2.1 = some (t_PO k) := by decide +kernel
theorem i_PO : ∀ w ∈ u_ws "LevelBreaks$Points" T_PO 5, w ∈ GW := by decide +kernel
def T_SH : u_T := fun k => match k with
  | 0 => ("LevelBreaks$Sheet", "item", "[I", true)
  | 1 => ("LevelBreaks$Sheet", "kind", "I", false)
  | _ => ("LevelBreaks$Sheet", "size", "I", false)
def t_SH : Nat → FieldType := fun k => match k with
  | 0 => .array .int
  | 1 => .int
  | _ => .int
theorem n_SH : ∀ a, a < 3 → ∀ b, b < 3 → a ≠ b → (T_SH a).2.1 ≠ (T_SH b).2.1 := by decide +kernel
theorem p_SH : ∀ k, k < 3 → parseFieldDescriptor (T_SH k).2.2.1 = some (t_SH k) := by decide +kernel
theorem i_SH : ∀ w ∈ u_ws "LevelBreaks$Sheet" T_SH 3, w ∈ GW := by decide +kernel
def T_SU : u_T := fun k => match k with
  | 0 => ("LevelBreaks$Measure", "size", "I", false)
  | 1 => ("LevelBreaks$Sums", "steepest", "J", true)
  | 2 => ("LevelBreaks$Sums", "values", "J", false)
  | 3 => ("LevelBreaks$Sums", "squares", "J", false)
  | 4 => ("LevelBreaks$Sums", "days", "J", false)
  | 5 => ("LevelBreaks$Sums", "daySquares", "J", false)
  | _ => ("LevelBreaks$Sums", "products", "J", false)
def t_SU : Nat → FieldType := fun k => match k with
  | 0 => .int
  | 1 => .long
  | 2 => .long
  | 3 => .long
  | 4 => .long
  | 5 => .long
  | _ => .long
theorem n_SU : ∀ a, a < 7 → ∀ b, b < 7 → a ≠ b → (T_SU a).2.1 ≠ (T_SU b).2.1 := by decide +kernel
theorem p_SU : ∀ k, k < 7 → parseFieldDescriptor (T_SU k).2.2.1 = some (t_SU k) := by decide +kernel
theorem i_SU : ∀ w ∈ u_ws "LevelBreaks$Sums" T_SU 7, w ∈ GW := by decide +kernel
def T_LB : u_T := fun k => match k with
  | 0 => ("LevelBreaks", "ledger", "LLevelBreaks$Ledger;", true)
  | 1 => ("LevelBreaks", "now", "[LLevelBreaks$Points;", true)
  | 2 => ("LevelBreaks", "earlier", "LLevelBreaks$Points;", true)
  | 3 => ("LevelBreaks", "leastOf", "[I", true)
  | 4 => ("LevelBreaks", "cuts", "LLevelBreaks$Cuts;", true)
  | 5 => ("LevelBreaks", "startDays", "[I", true)
  | 6 => ("LevelBreaks", "alarms", "LLevelBreaks$Alarms;", true)
  | 7 => ("LevelBreaks", "beforehand", "LLevelBreaks$Beforehand;", true)
  | 8 => ("LevelBreaks", "sheets", "[LLevelBreaks$Sheet;", true)
  | 9 => ("LevelBreaks", "asOfTime", "I", false)
  | _ => ("LevelBreaks", "finding", "I", false)
def t_LB : Nat → FieldType := fun k => match k with
  | 0 => .object "LevelBreaks$Ledger"
  | 1 => .array (.object "LevelBreaks$Points")
  | 2 => .object "LevelBreaks$Points"
  | 3 => .array .int
  | 4 => .object "LevelBreaks$Cuts"
  | 5 => .array .int
  | 6 => .object "LevelBreaks$Alarms"
  | 7 => .object "LevelBreaks$Beforehand"
  | 8 => .array (.object "LevelBreaks$Sheet")
  | 9 => .int
  | _ => .int
theorem n_LB : ∀ a, a < 11 → ∀ b, b < 11 → a ≠ b → (T_LB a).2.1 ≠ (T_LB b).2.1 := by decide +kernel
theorem p_LB : ∀ k, k < 11 → parseFieldDescriptor (T_LB k).2.2.1 = some (t_LB k) := by decide +kernel
theorem i_LB : ∀ w ∈ u_ws "LevelBreaks" T_LB 11, w ∈ GW := by decide +kernel
def T_RM : u_T := fun k => match k with
  | 0 => ("LevelBreaksModel", "told", "I", false)
  | 1 => ("LevelBreaksModel", "toldRow", "[I", true)
  | 2 => ("LevelBreaksModel", "toldDay", "[I", true)
  | 3 => ("LevelBreaksModel", "toldValue", "[I", true)
  | 4 => ("LevelBreaksModel", "toldTime", "[I", true)
  | 5 => ("LevelBreaksModel", "knownTo", "I", false)
  | 6 => ("LevelBreaksModel", "leastOf", "[I", true)
  | 7 => ("LevelBreaksModel", "points", "I", false)
  | 8 => ("LevelBreaksModel", "pointValue", "[I", true)
  | 9 => ("LevelBreaksModel", "pointDay", "[I", true)
  | 10 => ("LevelBreaksModel", "dayValue", "[I", true)
  | 11 => ("LevelBreaksModel", "whole", "[J", true)
  | 12 => ("LevelBreaksModel", "above", "[J", true)
  | 13 => ("LevelBreaksModel", "below", "[J", true)
  | 14 => ("LevelBreaksModel", "sorted", "[I", true)
  | 15 => ("LevelBreaksModel", "bestWhole", "[J", true)
  | 16 => ("LevelBreaksModel", "bestAbove", "[J", true)
  | 17 => ("LevelBreaksModel", "bestBelow", "[J", true)
  | 18 => ("LevelBreaksModel", "sumWhole", "J", false)
  | 19 => ("LevelBreaksModel", "sumAbove", "J", false)
  | 20 => ("LevelBreaksModel", "sumBelow", "J", false)
  | 21 => ("LevelBreaksModel", "begins", "[I", true)
  | 22 => ("LevelBreaksModel", "commonCost", "[J", true)
  | 23 => ("LevelBreaksModel", "commonBest", "[J", true)
  | 24 => ("LevelBreaksModel", "daysNow", "[I", true)
  | 25 => ("LevelBreaksModel", "keptMany", "I", false)
  | 26 => ("LevelBreaksModel", "keptValue", "[I", true)
  | 27 => ("LevelBreaksModel", "keptDay", "[I", true)
  | 28 => ("LevelBreaksModel", "otherDays", "[I", true)
  | 29 => ("LevelBreaksModel", "alarmMany", "I", false)
  | 30 => ("LevelBreaksModel", "isAlarm", "[Z", true)
  | 31 => ("LevelBreaksModel", "typed", "I", false)
  | 32 => ("LevelBreaksModel", "text", "[I", true)
  | 33 => ("LevelBreaksModel", "at", "I", false)
  | 34 => ("LevelBreaksModel", "fault", "I", false)
  | 35 => ("LevelBreaksModel", "parts", "I", false)
  | 36 => ("LevelBreaksModel", "partDay", "[I", true)
  | 37 => ("LevelBreaksModel", "partValue", "[I", true)
  | 38 => ("LevelBreaksModel", "partOff", "[I", true)
  | 39 => ("LevelBreaksModel", "isThere", "[Z", true)
  | 40 => ("LevelBreaksModel", "types", "[I", true)
  | 41 => ("LevelBreaksModel", "sizes", "[I", true)
  | 42 => ("LevelBreaksModel", "items", "[I", true)
  | 43 => ("LevelBreaksModel", "moved", "[I", true)
  | _ => ("LevelBreaksModel", "finding", "I", false)
def t_RM : Nat → FieldType := fun k => match k with
  | 0 => .int
  | 1 => .array .int
  | 2 => .array .int
  | 3 => .array .int
  | 4 => .array .int
  | 5 => .int
  | 6 => .array .int
  | 7 => .int
  | 8 => .array .int
  | 9 => .array .int
  | 10 => .array .int
  | 11 => .array .long
  | 12 => .array .long
  | 13 => .array .long
  | 14 => .array .int
  | 15 => .array .long
  | 16 => .array .long
  | 17 => .array .long
  | 18 => .long
  | 19 => .long
  | 20 => .long
  | 21 => .array .int
  | 22 => .array .long
  | 23 => .array .long
  | 24 => .array .int
  | 25 => .int
  | 26 => .array .int
  | 27 => .array .int
  | 28 => .array .int
  | 29 => .int
  | 30 => .array (.boolean)
  | 31 => .int
  | 32 => .array .int
  | 33 => .int
  | 34 => .int
  | 35 => .int
  | 36 => .array .int
  | 37 => .array .int
  | 38 => .array .int
  | 39 => .array (.boolean)
  | 40 => .array .int
  | 41 => .array .int
  | 42 => .array .int
  | 43 => .array .int
  | _ => .int
theorem n_RM : ∀ a, a < 45 → ∀ b, b < 45 → a ≠ b → (T_RM a).2.1 ≠ (T_RM b).2.1 := by decide +kernel
theorem p_RM : ∀ k, k < 45 → parseFieldDescriptor (T_RM k).2.2.1 = some (t_RM k) := by decide +kernel
theorem i_RM : ∀ w ∈ u_ws "LevelBreaksModel" T_RM 45, w ∈ GW := by decide +kernel
abbrev clz : List vw_C := [("LevelBreaks$Alarms", T_AL, 1), ("LevelBreaks$Beforehand", T_BF, 8), ("LevelBreaks$Cuts", T_CU, 13), ("LevelBreaks$Ledger", T_LE, 5), ("LevelBreaks$Middle", T_MI, 3), ("LevelBreaks$One", T_ON, 4), ("LevelBreaks$Points", T_PO, 5), ("LevelBreaks$Sheet", T_SH, 3), ("LevelBreaks$Sums", T_SU, 7), ("LevelBreaks", T_LB, 11), ("LevelBreaksModel", T_RM, 45)]
def SHP : List (Nat × Nat × List Nat) := [(9, 11, [3, 8, 29, 34, 35, 52, 53, 55, 60, 0, 0]), (3, 5, [4, 5, 6, 7, 0]), (20, 200, []), (20, 200, []), (20, 200, []), (20, 200, []), (24, 4, [7, 12, 17, 22]), (6, 5, [10, 11, 12, 13, 0]), (20, 40, []), (20, 40, []), (20, 40, []), (20, 40, []), (6, 5, [15, 16, 17, 18, 0]), (20, 40, []), (20, 40, []), (20, 40, []), (20, 40, []), (6, 5, [20, 21, 22, 23, 0]), (20, 40, []), (20, 40, []), (20, 40, []), (20, 40, []), (6, 5, [25, 26, 27, 28, 0]), (20, 40, []), (20, 40, []), (20, 40, []), (20, 40, []), (6, 5, [30, 31, 32, 33, 0]), (20, 40, []), (20, 40, []), (20, 40, []), (20, 40, []), (20, 4, []), (2, 13, [36, 44, 45, 46, 47, 48, 49, 50, 0, 0, 1, 1, 51]), (23, 4, [35, 36, 38, 39]), (8, 7, [0, 1, 1, 1, 1, 1, 1]), (4, 3, [0, 39, 1]), (20, 40, []), (8, 7, [0, 1, 1, 1, 1, 1, 1]), (5, 4, [0, 42, 43, 0]), (20, 40, []), (20, 41, []), (21, 861, []), (21, 861, []), (20, 861, []), (20, 861, []), (21, 40, []), (21, 40, []), (21, 40, []), (20, 6, []), (20, 6, []), (0, 1, [54]), (20, 40, []), (1, 8, [56, 0, 57, 58, 59, 0, 0, 0]), (20, 100, []), (20, 40, []), (20, 40, []), (20, 40, []), (25, 4, [59, 61, 63, 65]), (7, 3, [62, 0, 0]), (20, 60, []), (7, 3, [64, 0, 0]), (20, 60, []), (7, 3, [66, 0, 0]), (20, 60, []), (7, 3, [68, 0, 0]), (20, 60, []), (10, 45, [0, 70, 71, 72, 73, 0, 74, 0, 75, 76, 77, 78, 79, 80, 81, 82, 83, 84, 1, 1, 1, 85, 86, 87, 88, 0, 89, 90, 91, 0, 92, 0, 93, 0, 0, 0, 94, 95, 96, 97, 98, 99, 100, 101, 0]), (20, 200, []), (20, 200, []), (20, 200, []), (20, 200, []), (20, 4, []), (20, 40, []), (20, 40, []), (20, 40, []), (21, 1600, []), (21, 1600, []), (21, 1600, []), (20, 40, []), (21, 287, []), (21, 287, []), (21, 287, []), (20, 7, []), (21, 1600, []), (21, 287, []), (20, 6, []), (20, 40, []), (20, 40, []), (20, 6, []), (22, 40, []), (20, 100, []), (20, 40, []), (20, 40, []), (20, 40, []), (22, 4, []), (20, 4, []), (20, 4, []), (20, 240, []), (20, 60, [])]
def NWL : List Cond := [(Jvm.Cond.methodLinkNest "LevelBreaks" (9 : Nat) ({ cls := "LevelBreaks$Ledger", name := "<init>", desc := "()V" } : Jvm.MethodName) "LevelBreaks"), (Jvm.Cond.methodLinkNest "LevelBreaks" (33 : Nat) ({ cls := "LevelBreaks$Cuts", name := "<init>", desc := "()V" } : Jvm.MethodName) "LevelBreaks"), (Jvm.Cond.methodLinkNest "LevelBreaks$Sums" (3 : Nat) ({ cls := "LevelBreaks$Measure", name := "<init>", desc := "()V" } : Jvm.MethodName) "LevelBreaks"), (Jvm.Cond.methodLinkNest "LevelBreaks$Cuts" (20 : Nat) ({ cls := "LevelBreaks$Middle", name := "<init>", desc := "()V" } : Jvm.MethodName) "LevelBreaks"), (Jvm.Cond.methodLinkNest "LevelBreaks$Middle" (3 : Nat) ({ cls := "LevelBreaks$Measure", name := "<init>", desc := "()V" } : Jvm.MethodName) "LevelBreaks"), (Jvm.Cond.methodLinkNest "LevelBreaks$Cuts" (23 : Nat) ({ cls := "LevelBreaks$One", name := "<init>", desc := "()V" } : Jvm.MethodName) "LevelBreaks"), (Jvm.Cond.methodLinkNest "LevelBreaks$One" (3 : Nat) ({ cls := "LevelBreaks$Measure", name := "<init>", desc := "()V" } : Jvm.MethodName) "LevelBreaks"), (Jvm.Cond.methodLinkNest "LevelBreaks" (43 : Nat) ({ cls := "LevelBreaks$Alarms", name := "<init>", desc := "()V" } : Jvm.MethodName) "LevelBreaks"), (Jvm.Cond.methodLinkNest "LevelBreaks" (50 : Nat) ({ cls := "LevelBreaks$Beforehand", name := "<init>", desc := "()V" } : Jvm.MethodName) "LevelBreaks"), (Jvm.Cond.methodLinkNest "LevelBreaks" (57 : Nat) ({ cls := "LevelBreaks$Sheet", name := "<init>", desc := "()V" } : Jvm.MethodName) "LevelBreaks"), (Jvm.Cond.declares ({ cls := "LevelBreaks$Measure", name := "restart", desc := "()V" } : Jvm.MethodName)), (Jvm.Cond.declares ({ cls := "LevelBreaks$Measure", name := "extend", desc := "(LLevelBreaks$Points;I)V" } : Jvm.MethodName)), (Jvm.Cond.declares ({ cls := "LevelBreaks$Measure", name := "above", desc := "(LLevelBreaks$Points;II)J" } : Jvm.MethodName)), (Jvm.Cond.declares ({ cls := "LevelBreaks$Measure", name := "below", desc := "(I)I" } : Jvm.MethodName)), (Jvm.Cond.methodLinkNest "LevelBreaks$Beforehand" (57 : Nat) ({ cls := "LevelBreaks", name := "isWithin", desc := "(III)Z" } : Jvm.MethodName) "LevelBreaks")]
