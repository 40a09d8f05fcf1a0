section
-- written by wip/gen/gen.py out of the claim's printed tables; PART A of the skeleton first
-- ===== PART A: goes FIRST, ahead of the names: the tables' words, and 'selects' of the private methods out of them =====
/-- a private method of a class that the tables say can be made, by its rows of tables_1 -/
def lw_okq (q : MethodName × Nat) : Prop := (q.1.cls ≠ "java/lang/invoke/MethodHandle" ∧ q.1.cls ≠ "java/lang/invoke/VarHandle") ∧ Cond.instantiable q.1.cls q.2 ∈ tables_1 ∧ Cond.privateMethod q.1 ∈ tables_1 ∧ Cond.instanceMethod q.1 ∈ tables_1
theorem lw_p0 : lw_okq (⟨"TableMapper", "cutsOfK", "()LTableMapper$Cuts;"⟩, 9) := ⟨⟨by decide +kernel, by decide +kernel⟩, List.mem_of_getElem? (i := 19) (by decide +kernel), List.mem_of_getElem? (i := 430) (by decide +kernel), List.mem_of_getElem? (i := 431) (by decide +kernel)⟩
theorem lw_p1 : lw_okq (⟨"TableMapper$Cuts", "belowAtLevel", "(II)J"⟩, 9) := ⟨⟨by decide +kernel, by decide +kernel⟩, List.mem_of_getElem? (i := 152) (by decide +kernel), List.mem_of_getElem? (i := 450) (by decide +kernel), List.mem_of_getElem? (i := 451) (by decide +kernel)⟩
theorem lw_p2 : lw_okq (⟨"TableMapper$Ways", "findWay", "(J)I"⟩, 8) := ⟨⟨by decide +kernel, by decide +kernel⟩, List.mem_of_getElem? (i := 104) (by decide +kernel), List.mem_of_getElem? (i := 460) (by decide +kernel), List.mem_of_getElem? (i := 461) (by decide +kernel)⟩
theorem lw_p3 : lw_okq (⟨"TableMapper$Ways", "seeUppers", "(JI)V"⟩, 8) := ⟨⟨by decide +kernel, by decide +kernel⟩, List.mem_of_getElem? (i := 104) (by decide +kernel), List.mem_of_getElem? (i := 464) (by decide +kernel), List.mem_of_getElem? (i := 465) (by decide +kernel)⟩
theorem lw_p4 : lw_okq (⟨"TableMapper$Ways", "seeLower", "(II)V"⟩, 8) := ⟨⟨by decide +kernel, by decide +kernel⟩, List.mem_of_getElem? (i := 104) (by decide +kernel), List.mem_of_getElem? (i := 469) (by decide +kernel), List.mem_of_getElem? (i := 470) (by decide +kernel)⟩
theorem lw_p5 : lw_okq (⟨"TableMapper$Ways", "layWay", "(I)V"⟩, 8) := ⟨⟨by decide +kernel, by decide +kernel⟩, List.mem_of_getElem? (i := 104) (by decide +kernel), List.mem_of_getElem? (i := 474) (by decide +kernel), List.mem_of_getElem? (i := 475) (by decide +kernel)⟩
theorem lw_p6 : lw_okq (⟨"TableMapper$Cuts", "learnKept", "(I)V"⟩, 9) := ⟨⟨by decide +kernel, by decide +kernel⟩, List.mem_of_getElem? (i := 152) (by decide +kernel), List.mem_of_getElem? (i := 478) (by decide +kernel), List.mem_of_getElem? (i := 479) (by decide +kernel)⟩
theorem lw_p7 : lw_okq (⟨"TableMapper$Cuts", "placeInRow", "(J)J"⟩, 9) := ⟨⟨by decide +kernel, by decide +kernel⟩, List.mem_of_getElem? (i := 152) (by decide +kernel), List.mem_of_getElem? (i := 486) (by decide +kernel), List.mem_of_getElem? (i := 487) (by decide +kernel)⟩
theorem lw_p8 : lw_okq (⟨"TableMapper$Cuts", "choices", "(II)I"⟩, 9) := ⟨⟨by decide +kernel, by decide +kernel⟩, List.mem_of_getElem? (i := 152) (by decide +kernel), List.mem_of_getElem? (i := 494) (by decide +kernel), List.mem_of_getElem? (i := 495) (by decide +kernel)⟩
theorem lw_p9 : lw_okq (⟨"TableMapper$Cuts", "choice", "(III)J"⟩, 9) := ⟨⟨by decide +kernel, by decide +kernel⟩, List.mem_of_getElem? (i := 152) (by decide +kernel), List.mem_of_getElem? (i := 502) (by decide +kernel), List.mem_of_getElem? (i := 503) (by decide +kernel)⟩
theorem lw_p10 : lw_okq (⟨"TableMapper$Cuts", "addWithThird", "(IJ)V"⟩, 9) := ⟨⟨by decide +kernel, by decide +kernel⟩, List.mem_of_getElem? (i := 152) (by decide +kernel), List.mem_of_getElem? (i := 506) (by decide +kernel), List.mem_of_getElem? (i := 507) (by decide +kernel)⟩
theorem lw_p11 : lw_okq (⟨"TableMapper$Cuts", "takeKept", "(I)V"⟩, 9) := ⟨⟨by decide +kernel, by decide +kernel⟩, List.mem_of_getElem? (i := 152) (by decide +kernel), List.mem_of_getElem? (i := 511) (by decide +kernel), List.mem_of_getElem? (i := 512) (by decide +kernel)⟩
theorem lw_p12 : lw_okq (⟨"TableMapper$Row", "dropAllWith", "(J)V"⟩, 3) := ⟨⟨by decide +kernel, by decide +kernel⟩, List.mem_of_getElem? (i := 135) (by decide +kernel), List.mem_of_getElem? (i := 519) (by decide +kernel), List.mem_of_getElem? (i := 520) (by decide +kernel)⟩
theorem lw_p13 : lw_okq (⟨"TableMapper$Cover", "arrivalBy", "(J)I"⟩, 5) := ⟨⟨by decide +kernel, by decide +kernel⟩, List.mem_of_getElem? (i := 190) (by decide +kernel), List.mem_of_getElem? (i := 529) (by decide +kernel), List.mem_of_getElem? (i := 530) (by decide +kernel)⟩
theorem lw_p14 : lw_okq (⟨"TableMapper$Cover", "withChosen", "(JII)J"⟩, 5) := ⟨⟨by decide +kernel, by decide +kernel⟩, List.mem_of_getElem? (i := 190) (by decide +kernel), List.mem_of_getElem? (i := 543) (by decide +kernel), List.mem_of_getElem? (i := 544) (by decide +kernel)⟩
theorem lw_p15 : lw_okq (⟨"TableMapper", "followCover", "()V"⟩, 9) := ⟨⟨by decide +kernel, by decide +kernel⟩, List.mem_of_getElem? (i := 19) (by decide +kernel), List.mem_of_getElem? (i := 548) (by decide +kernel), List.mem_of_getElem? (i := 549) (by decide +kernel)⟩
def lw_privs_1 : List (MethodName × Nat) := [(⟨"TableMapper", "cutsOfK", "()LTableMapper$Cuts;"⟩, 9), (⟨"TableMapper$Cuts", "belowAtLevel", "(II)J"⟩, 9), (⟨"TableMapper$Ways", "findWay", "(J)I"⟩, 8), (⟨"TableMapper$Ways", "seeUppers", "(JI)V"⟩, 8), (⟨"TableMapper$Ways", "seeLower", "(II)V"⟩, 8), (⟨"TableMapper$Ways", "layWay", "(I)V"⟩, 8), (⟨"TableMapper$Cuts", "learnKept", "(I)V"⟩, 9), (⟨"TableMapper$Cuts", "placeInRow", "(J)J"⟩, 9), (⟨"TableMapper$Cuts", "choices", "(II)I"⟩, 9), (⟨"TableMapper$Cuts", "choice", "(III)J"⟩, 9), (⟨"TableMapper$Cuts", "addWithThird", "(IJ)V"⟩, 9), (⟨"TableMapper$Cuts", "takeKept", "(I)V"⟩, 9), (⟨"TableMapper$Row", "dropAllWith", "(J)V"⟩, 3), (⟨"TableMapper$Cover", "arrivalBy", "(J)I"⟩, 5), (⟨"TableMapper$Cover", "withChosen", "(JII)J"⟩, 5), (⟨"TableMapper", "followCover", "()V"⟩, 9)]
theorem lw_r1 : ∀ q ∈ lw_privs_1, lw_okq q := List.forall_mem_cons.mpr ⟨lw_p0, List.forall_mem_cons.mpr ⟨lw_p1, List.forall_mem_cons.mpr ⟨lw_p2, List.forall_mem_cons.mpr ⟨lw_p3, List.forall_mem_cons.mpr ⟨lw_p4, List.forall_mem_cons.mpr ⟨lw_p5, List.forall_mem_cons.mpr ⟨lw_p6, List.forall_mem_cons.mpr ⟨lw_p7, List.forall_mem_cons.mpr ⟨lw_p8, List.forall_mem_cons.mpr ⟨lw_p9, List.forall_mem_cons.mpr ⟨lw_p10, List.forall_mem_cons.mpr ⟨lw_p11, List.forall_mem_cons.mpr ⟨lw_p12, List.forall_mem_cons.mpr ⟨lw_p13, List.forall_mem_cons.mpr ⟨lw_p14, List.forall_mem_cons.mpr ⟨lw_p15, fun _ h => absurd h List.not_mem_nil⟩⟩⟩⟩⟩⟩⟩⟩⟩⟩⟩⟩⟩⟩⟩⟩
theorem lw_p16 : lw_okq (⟨"TableMapper$Cells", "findMates", "(I)V"⟩, 11) := ⟨⟨by decide +kernel, by decide +kernel⟩, List.mem_of_getElem? (i := 240) (by decide +kernel), List.mem_of_getElem? (i := 560) (by decide +kernel), List.mem_of_getElem? (i := 561) (by decide +kernel)⟩
theorem lw_p17 : lw_okq (⟨"TableMapper$Cells", "pairTables", "()V"⟩, 11) := ⟨⟨by decide +kernel, by decide +kernel⟩, List.mem_of_getElem? (i := 240) (by decide +kernel), List.mem_of_getElem? (i := 568) (by decide +kernel), List.mem_of_getElem? (i := 569) (by decide +kernel)⟩
theorem lw_p18 : lw_okq (⟨"TableMapper$Cells", "layTables", "()V"⟩, 11) := ⟨⟨by decide +kernel, by decide +kernel⟩, List.mem_of_getElem? (i := 240) (by decide +kernel), List.mem_of_getElem? (i := 573) (by decide +kernel), List.mem_of_getElem? (i := 574) (by decide +kernel)⟩
theorem lw_p19 : lw_okq (⟨"TableMapper$Cells", "addCell", "(JJJ)V"⟩, 11) := ⟨⟨by decide +kernel, by decide +kernel⟩, List.mem_of_getElem? (i := 240) (by decide +kernel), List.mem_of_getElem? (i := 577) (by decide +kernel), List.mem_of_getElem? (i := 578) (by decide +kernel)⟩
theorem lw_p20 : lw_okq (⟨"TableMapper$Cells", "join", "(II)V"⟩, 11) := ⟨⟨by decide +kernel, by decide +kernel⟩, List.mem_of_getElem? (i := 240) (by decide +kernel), List.mem_of_getElem? (i := 581) (by decide +kernel), List.mem_of_getElem? (i := 582) (by decide +kernel)⟩
theorem lw_p21 : lw_okq (⟨"TableMapper$Cells", "layRegisters", "()V"⟩, 11) := ⟨⟨by decide +kernel, by decide +kernel⟩, List.mem_of_getElem? (i := 240) (by decide +kernel), List.mem_of_getElem? (i := 585) (by decide +kernel), List.mem_of_getElem? (i := 586) (by decide +kernel)⟩
theorem lw_p22 : lw_okq (⟨"TableMapper$Cells", "usedByTables", "()J"⟩, 11) := ⟨⟨by decide +kernel, by decide +kernel⟩, List.mem_of_getElem? (i := 240) (by decide +kernel), List.mem_of_getElem? (i := 589) (by decide +kernel), List.mem_of_getElem? (i := 590) (by decide +kernel)⟩
theorem lw_p23 : lw_okq (⟨"TableMapper$Cells", "fedToSeveral", "()J"⟩, 11) := ⟨⟨by decide +kernel, by decide +kernel⟩, List.mem_of_getElem? (i := 240) (by decide +kernel), List.mem_of_getElem? (i := 593) (by decide +kernel), List.mem_of_getElem? (i := 594) (by decide +kernel)⟩
theorem lw_p24 : lw_okq (⟨"TableMapper$Cover", "findDue", "(JI)V"⟩, 5) := ⟨⟨by decide +kernel, by decide +kernel⟩, List.mem_of_getElem? (i := 190) (by decide +kernel), List.mem_of_getElem? (i := 615) (by decide +kernel), List.mem_of_getElem? (i := 616) (by decide +kernel)⟩
theorem lw_p25 : lw_okq (⟨"TableMapper$Cover", "bestCut", "(LTableMapper$Cuts;IJ)J"⟩, 5) := ⟨⟨by decide +kernel, by decide +kernel⟩, List.mem_of_getElem? (i := 190) (by decide +kernel), List.mem_of_getElem? (i := 622) (by decide +kernel), List.mem_of_getElem? (i := 623) (by decide +kernel)⟩
theorem lw_p26 : lw_okq (⟨"TableMapper$Cover", "tablesWith", "(JJI)J"⟩, 5) := ⟨⟨by decide +kernel, by decide +kernel⟩, List.mem_of_getElem? (i := 190) (by decide +kernel), List.mem_of_getElem? (i := 626) (by decide +kernel), List.mem_of_getElem? (i := 627) (by decide +kernel)⟩
theorem lw_p27 : lw_okq (⟨"TableMapper$Signals", "registersNext", "()J"⟩, 3) := ⟨⟨by decide +kernel, by decide +kernel⟩, List.mem_of_getElem? (i := 87) (by decide +kernel), List.mem_of_getElem? (i := 657) (by decide +kernel), List.mem_of_getElem? (i := 658) (by decide +kernel)⟩
theorem lw_p28 : lw_okq (⟨"TableMapper$Signals", "nodesOn", "(J)J"⟩, 3) := ⟨⟨by decide +kernel, by decide +kernel⟩, List.mem_of_getElem? (i := 87) (by decide +kernel), List.mem_of_getElem? (i := 665) (by decide +kernel), List.mem_of_getElem? (i := 666) (by decide +kernel)⟩
theorem lw_p29 : lw_okq (⟨"TableMapper$Contents", "findBits", "(I)J"⟩, 5) := ⟨⟨by decide +kernel, by decide +kernel⟩, List.mem_of_getElem? (i := 218) (by decide +kernel), List.mem_of_getElem? (i := 753) (by decide +kernel), List.mem_of_getElem? (i := 754) (by decide +kernel)⟩
theorem lw_p30 : lw_okq (⟨"TableMapper$Clustering", "withMostNetsIn", "()I"⟩, 8) := ⟨⟨by decide +kernel, by decide +kernel⟩, List.mem_of_getElem? (i := 290) (by decide +kernel), List.mem_of_getElem? (i := 804) (by decide +kernel), List.mem_of_getElem? (i := 805) (by decide +kernel)⟩
theorem lw_p31 : lw_okq (⟨"TableMapper$Clustering", "take", "(I)V"⟩, 8) := ⟨⟨by decide +kernel, by decide +kernel⟩, List.mem_of_getElem? (i := 290) (by decide +kernel), List.mem_of_getElem? (i := 810) (by decide +kernel), List.mem_of_getElem? (i := 811) (by decide +kernel)⟩
def lw_privs_2 : List (MethodName × Nat) := [(⟨"TableMapper$Cells", "findMates", "(I)V"⟩, 11), (⟨"TableMapper$Cells", "pairTables", "()V"⟩, 11), (⟨"TableMapper$Cells", "layTables", "()V"⟩, 11), (⟨"TableMapper$Cells", "addCell", "(JJJ)V"⟩, 11), (⟨"TableMapper$Cells", "join", "(II)V"⟩, 11), (⟨"TableMapper$Cells", "layRegisters", "()V"⟩, 11), (⟨"TableMapper$Cells", "usedByTables", "()J"⟩, 11), (⟨"TableMapper$Cells", "fedToSeveral", "()J"⟩, 11), (⟨"TableMapper$Cover", "findDue", "(JI)V"⟩, 5), (⟨"TableMapper$Cover", "bestCut", "(LTableMapper$Cuts;IJ)J"⟩, 5), (⟨"TableMapper$Cover", "tablesWith", "(JJI)J"⟩, 5), (⟨"TableMapper$Signals", "registersNext", "()J"⟩, 3), (⟨"TableMapper$Signals", "nodesOn", "(J)J"⟩, 3), (⟨"TableMapper$Contents", "findBits", "(I)J"⟩, 5), (⟨"TableMapper$Clustering", "withMostNetsIn", "()I"⟩, 8), (⟨"TableMapper$Clustering", "take", "(I)V"⟩, 8)]
theorem lw_r2 : ∀ q ∈ lw_privs_2, lw_okq q := List.forall_mem_cons.mpr ⟨lw_p16, List.forall_mem_cons.mpr ⟨lw_p17, List.forall_mem_cons.mpr ⟨lw_p18, List.forall_mem_cons.mpr ⟨lw_p19, List.forall_mem_cons.mpr ⟨lw_p20, List.forall_mem_cons.mpr ⟨lw_p21, List.forall_mem_cons.mpr ⟨lw_p22, List.forall_mem_cons.mpr ⟨lw_p23, List.forall_mem_cons.mpr ⟨lw_p24, List.forall_mem_cons.mpr ⟨lw_p25, List.forall_mem_cons.mpr ⟨lw_p26, List.forall_mem_cons.mpr ⟨lw_p27, List.forall_mem_cons.mpr ⟨lw_p28, List.forall_mem_cons.mpr ⟨lw_p29, List.forall_mem_cons.mpr ⟨lw_p30, List.forall_mem_cons.mpr ⟨lw_p31, fun _ h => absurd h List.not_mem_nil⟩⟩⟩⟩⟩⟩⟩⟩⟩⟩⟩⟩⟩⟩⟩⟩
theorem lw_p32 : lw_okq (⟨"TableMapper$Clustering", "bestToCome", "(I)I"⟩, 8) := ⟨⟨by decide +kernel, by decide +kernel⟩, List.mem_of_getElem? (i := 290) (by decide +kernel), List.mem_of_getElem? (i := 819) (by decide +kernel), List.mem_of_getElem? (i := 820) (by decide +kernel)⟩
theorem lw_p33 : lw_okq (⟨"TableMapper$Cover", "latestOf", "(J)I"⟩, 5) := ⟨⟨by decide +kernel, by decide +kernel⟩, List.mem_of_getElem? (i := 190) (by decide +kernel), List.mem_of_getElem? (i := 867) (by decide +kernel), List.mem_of_getElem? (i := 868) (by decide +kernel)⟩
theorem lw_p34 : lw_okq (⟨"java/lang/Throwable", "fillInStackTrace", "(I)Ljava/lang/Throwable;"⟩, 6) := ⟨⟨by decide +kernel, by decide +kernel⟩, List.mem_of_getElem? (i := 919) (by decide +kernel), List.mem_of_getElem? (i := 917) (by decide +kernel), List.mem_of_getElem? (i := 918) (by decide +kernel)⟩
theorem lw_p35 : lw_okq (⟨"TableMapperModel", "adds", "(I)I"⟩, 45) := ⟨⟨by decide +kernel, by decide +kernel⟩, List.mem_of_getElem? (i := 950) (by decide +kernel), List.mem_of_getElem? (i := 1101) (by decide +kernel), List.mem_of_getElem? (i := 1102) (by decide +kernel)⟩
theorem lw_p36 : lw_okq (⟨"TableMapperModel", "changes", "()V"⟩, 45) := ⟨⟨by decide +kernel, by decide +kernel⟩, List.mem_of_getElem? (i := 950) (by decide +kernel), List.mem_of_getElem? (i := 1105) (by decide +kernel), List.mem_of_getElem? (i := 1106) (by decide +kernel)⟩
theorem lw_p37 : lw_okq (⟨"TableMapperModel", "isNode", "(I)Z"⟩, 45) := ⟨⟨by decide +kernel, by decide +kernel⟩, List.mem_of_getElem? (i := 950) (by decide +kernel), List.mem_of_getElem? (i := 1116) (by decide +kernel), List.mem_of_getElem? (i := 1117) (by decide +kernel)⟩
theorem lw_p38 : lw_okq (⟨"TableMapperModel", "isRegister", "(I)Z"⟩, 45) := ⟨⟨by decide +kernel, by decide +kernel⟩, List.mem_of_getElem? (i := 950) (by decide +kernel), List.mem_of_getElem? (i := 1131) (by decide +kernel), List.mem_of_getElem? (i := 1132) (by decide +kernel)⟩
theorem lw_p39 : lw_okq (⟨"TableMapperModel", "lays", "()V"⟩, 45) := ⟨⟨by decide +kernel, by decide +kernel⟩, List.mem_of_getElem? (i := 950) (by decide +kernel), List.mem_of_getElem? (i := 1153) (by decide +kernel), List.mem_of_getElem? (i := 1154) (by decide +kernel)⟩
theorem lw_p40 : lw_okq (⟨"TableMapperModel", "isCutOff", "(II)Z"⟩, 45) := ⟨⟨by decide +kernel, by decide +kernel⟩, List.mem_of_getElem? (i := 950) (by decide +kernel), List.mem_of_getElem? (i := 1157) (by decide +kernel), List.mem_of_getElem? (i := 1158) (by decide +kernel)⟩
theorem lw_p41 : lw_okq (⟨"TableMapperModel", "spreads", "(II)I"⟩, 45) := ⟨⟨by decide +kernel, by decide +kernel⟩, List.mem_of_getElem? (i := 950) (by decide +kernel), List.mem_of_getElem? (i := 1161) (by decide +kernel), List.mem_of_getElem? (i := 1162) (by decide +kernel)⟩
theorem lw_p42 : lw_okq (⟨"TableMapperModel", "comes", "(II)V"⟩, 45) := ⟨⟨by decide +kernel, by decide +kernel⟩, List.mem_of_getElem? (i := 950) (by decide +kernel), List.mem_of_getElem? (i := 1165) (by decide +kernel), List.mem_of_getElem? (i := 1166) (by decide +kernel)⟩
theorem lw_p43 : lw_okq (⟨"TableMapperModel", "spreadsOut", "(I)V"⟩, 45) := ⟨⟨by decide +kernel, by decide +kernel⟩, List.mem_of_getElem? (i := 950) (by decide +kernel), List.mem_of_getElem? (i := 1169) (by decide +kernel), List.mem_of_getElem? (i := 1170) (by decide +kernel)⟩
theorem lw_p44 : lw_okq (⟨"TableMapperModel", "spreadsIn", "(IJI)V"⟩, 45) := ⟨⟨by decide +kernel, by decide +kernel⟩, List.mem_of_getElem? (i := 950) (by decide +kernel), List.mem_of_getElem? (i := 1173) (by decide +kernel), List.mem_of_getElem? (i := 1174) (by decide +kernel)⟩
theorem lw_p45 : lw_okq (⟨"TableMapperModel", "room", "(II)I"⟩, 45) := ⟨⟨by decide +kernel, by decide +kernel⟩, List.mem_of_getElem? (i := 950) (by decide +kernel), List.mem_of_getElem? (i := 1177) (by decide +kernel), List.mem_of_getElem? (i := 1178) (by decide +kernel)⟩
theorem lw_p46 : lw_okq (⟨"TableMapperModel", "flows", "(I)V"⟩, 45) := ⟨⟨by decide +kernel, by decide +kernel⟩, List.mem_of_getElem? (i := 950) (by decide +kernel), List.mem_of_getElem? (i := 1181) (by decide +kernel), List.mem_of_getElem? (i := 1182) (by decide +kernel)⟩
theorem lw_p47 : lw_okq (⟨"TableMapperModel", "slotOf", "(IIZ)I"⟩, 45) := ⟨⟨by decide +kernel, by decide +kernel⟩, List.mem_of_getElem? (i := 950) (by decide +kernel), List.mem_of_getElem? (i := 1185) (by decide +kernel), List.mem_of_getElem? (i := 1186) (by decide +kernel)⟩
def lw_privs_3 : List (MethodName × Nat) := [(⟨"TableMapper$Clustering", "bestToCome", "(I)I"⟩, 8), (⟨"TableMapper$Cover", "latestOf", "(J)I"⟩, 5), (⟨"java/lang/Throwable", "fillInStackTrace", "(I)Ljava/lang/Throwable;"⟩, 6), (⟨"TableMapperModel", "adds", "(I)I"⟩, 45), (⟨"TableMapperModel", "changes", "()V"⟩, 45), (⟨"TableMapperModel", "isNode", "(I)Z"⟩, 45), (⟨"TableMapperModel", "isRegister", "(I)Z"⟩, 45), (⟨"TableMapperModel", "lays", "()V"⟩, 45), (⟨"TableMapperModel", "isCutOff", "(II)Z"⟩, 45), (⟨"TableMapperModel", "spreads", "(II)I"⟩, 45), (⟨"TableMapperModel", "comes", "(II)V"⟩, 45), (⟨"TableMapperModel", "spreadsOut", "(I)V"⟩, 45), (⟨"TableMapperModel", "spreadsIn", "(IJI)V"⟩, 45), (⟨"TableMapperModel", "room", "(II)I"⟩, 45), (⟨"TableMapperModel", "flows", "(I)V"⟩, 45), (⟨"TableMapperModel", "slotOf", "(IIZ)I"⟩, 45)]
theorem lw_r3 : ∀ q ∈ lw_privs_3, lw_okq q := List.forall_mem_cons.mpr ⟨lw_p32, List.forall_mem_cons.mpr ⟨lw_p33, List.forall_mem_cons.mpr ⟨lw_p34, List.forall_mem_cons.mpr ⟨lw_p35, List.forall_mem_cons.mpr ⟨lw_p36, List.forall_mem_cons.mpr ⟨lw_p37, List.forall_mem_cons.mpr ⟨lw_p38, List.forall_mem_cons.mpr ⟨lw_p39, List.forall_mem_cons.mpr ⟨lw_p40, List.forall_mem_cons.mpr ⟨lw_p41, List.forall_mem_cons.mpr ⟨lw_p42, List.forall_mem_cons.mpr ⟨lw_p43, List.forall_mem_cons.mpr ⟨lw_p44, List.forall_mem_cons.mpr ⟨lw_p45, List.forall_mem_cons.mpr ⟨lw_p46, List.forall_mem_cons.mpr ⟨lw_p47, fun _ h => absurd h List.not_mem_nil⟩⟩⟩⟩⟩⟩⟩⟩⟩⟩⟩⟩⟩⟩⟩⟩
theorem lw_p48 : lw_okq (⟨"TableMapperModel", "laysKept", "(I)V"⟩, 45) := ⟨⟨by decide +kernel, by decide +kernel⟩, List.mem_of_getElem? (i := 950) (by decide +kernel), List.mem_of_getElem? (i := 1189) (by decide +kernel), List.mem_of_getElem? (i := 1190) (by decide +kernel)⟩
theorem lw_p49 : lw_okq (⟨"TableMapperModel", "makes", "(J)V"⟩, 45) := ⟨⟨by decide +kernel, by decide +kernel⟩, List.mem_of_getElem? (i := 950) (by decide +kernel), List.mem_of_getElem? (i := 1193) (by decide +kernel), List.mem_of_getElem? (i := 1194) (by decide +kernel)⟩
theorem lw_p50 : lw_okq (⟨"TableMapperModel", "setOf", "(II)J"⟩, 45) := ⟨⟨by decide +kernel, by decide +kernel⟩, List.mem_of_getElem? (i := 950) (by decide +kernel), List.mem_of_getElem? (i := 1197) (by decide +kernel), List.mem_of_getElem? (i := 1198) (by decide +kernel)⟩
theorem lw_p51 : lw_okq (⟨"TableMapperModel", "puts", "(IJI)I"⟩, 45) := ⟨⟨by decide +kernel, by decide +kernel⟩, List.mem_of_getElem? (i := 950) (by decide +kernel), List.mem_of_getElem? (i := 1202) (by decide +kernel), List.mem_of_getElem? (i := 1203) (by decide +kernel)⟩
theorem lw_p52 : lw_okq (⟨"TableMapperModel", "isAhead", "(JJ)Z"⟩, 45) := ⟨⟨by decide +kernel, by decide +kernel⟩, List.mem_of_getElem? (i := 950) (by decide +kernel), List.mem_of_getElem? (i := 1206) (by decide +kernel), List.mem_of_getElem? (i := 1207) (by decide +kernel)⟩
theorem lw_p53 : lw_okq (⟨"TableMapperModel", "greatestIn", "(J)I"⟩, 45) := ⟨⟨by decide +kernel, by decide +kernel⟩, List.mem_of_getElem? (i := 950) (by decide +kernel), List.mem_of_getElem? (i := 1210) (by decide +kernel), List.mem_of_getElem? (i := 1211) (by decide +kernel)⟩
theorem lw_p54 : lw_okq (⟨"TableMapperModel", "roots", "()J"⟩, 45) := ⟨⟨by decide +kernel, by decide +kernel⟩, List.mem_of_getElem? (i := 950) (by decide +kernel), List.mem_of_getElem? (i := 1217) (by decide +kernel), List.mem_of_getElem? (i := 1218) (by decide +kernel)⟩
theorem lw_p55 : lw_okq (⟨"TableMapperModel", "fed", "()J"⟩, 45) := ⟨⟨by decide +kernel, by decide +kernel⟩, List.mem_of_getElem? (i := 950) (by decide +kernel), List.mem_of_getElem? (i := 1221) (by decide +kernel), List.mem_of_getElem? (i := 1222) (by decide +kernel)⟩
theorem lw_p56 : lw_okq (⟨"TableMapperModel", "isGate", "(I)Z"⟩, 45) := ⟨⟨by decide +kernel, by decide +kernel⟩, List.mem_of_getElem? (i := 950) (by decide +kernel), List.mem_of_getElem? (i := 1229) (by decide +kernel), List.mem_of_getElem? (i := 1230) (by decide +kernel)⟩
theorem lw_p57 : lw_okq (⟨"TableMapperModel", "coneOf", "(IJ)J"⟩, 45) := ⟨⟨by decide +kernel, by decide +kernel⟩, List.mem_of_getElem? (i := 950) (by decide +kernel), List.mem_of_getElem? (i := 1237) (by decide +kernel), List.mem_of_getElem? (i := 1238) (by decide +kernel)⟩
theorem lw_p58 : lw_okq (⟨"TableMapperModel", "rootDepth", "()I"⟩, 45) := ⟨⟨by decide +kernel, by decide +kernel⟩, List.mem_of_getElem? (i := 950) (by decide +kernel), List.mem_of_getElem? (i := 1253) (by decide +kernel), List.mem_of_getElem? (i := 1254) (by decide +kernel)⟩
theorem lw_p59 : lw_okq (⟨"TableMapperModel", "looks", "()V"⟩, 45) := ⟨⟨by decide +kernel, by decide +kernel⟩, List.mem_of_getElem? (i := 950) (by decide +kernel), List.mem_of_getElem? (i := 1261) (by decide +kernel), List.mem_of_getElem? (i := 1262) (by decide +kernel)⟩
theorem lw_p60 : lw_okq (⟨"TableMapperModel", "laysTables", "()V"⟩, 45) := ⟨⟨by decide +kernel, by decide +kernel⟩, List.mem_of_getElem? (i := 950) (by decide +kernel), List.mem_of_getElem? (i := 1265) (by decide +kernel), List.mem_of_getElem? (i := 1266) (by decide +kernel)⟩
theorem lw_p61 : lw_okq (⟨"TableMapperModel", "gates", "()J"⟩, 45) := ⟨⟨by decide +kernel, by decide +kernel⟩, List.mem_of_getElem? (i := 950) (by decide +kernel), List.mem_of_getElem? (i := 1269) (by decide +kernel), List.mem_of_getElem? (i := 1270) (by decide +kernel)⟩
theorem lw_p62 : lw_okq (⟨"TableMapperModel", "laysArrival", "()V"⟩, 45) := ⟨⟨by decide +kernel, by decide +kernel⟩, List.mem_of_getElem? (i := 950) (by decide +kernel), List.mem_of_getElem? (i := 1273) (by decide +kernel), List.mem_of_getElem? (i := 1274) (by decide +kernel)⟩
theorem lw_p63 : lw_okq (⟨"TableMapperModel", "arrivalBy", "(J)I"⟩, 45) := ⟨⟨by decide +kernel, by decide +kernel⟩, List.mem_of_getElem? (i := 950) (by decide +kernel), List.mem_of_getElem? (i := 1277) (by decide +kernel), List.mem_of_getElem? (i := 1278) (by decide +kernel)⟩
def lw_privs_4 : List (MethodName × Nat) := [(⟨"TableMapperModel", "laysKept", "(I)V"⟩, 45), (⟨"TableMapperModel", "makes", "(J)V"⟩, 45), (⟨"TableMapperModel", "setOf", "(II)J"⟩, 45), (⟨"TableMapperModel", "puts", "(IJI)I"⟩, 45), (⟨"TableMapperModel", "isAhead", "(JJ)Z"⟩, 45), (⟨"TableMapperModel", "greatestIn", "(J)I"⟩, 45), (⟨"TableMapperModel", "roots", "()J"⟩, 45), (⟨"TableMapperModel", "fed", "()J"⟩, 45), (⟨"TableMapperModel", "isGate", "(I)Z"⟩, 45), (⟨"TableMapperModel", "coneOf", "(IJ)J"⟩, 45), (⟨"TableMapperModel", "rootDepth", "()I"⟩, 45), (⟨"TableMapperModel", "looks", "()V"⟩, 45), (⟨"TableMapperModel", "laysTables", "()V"⟩, 45), (⟨"TableMapperModel", "gates", "()J"⟩, 45), (⟨"TableMapperModel", "laysArrival", "()V"⟩, 45), (⟨"TableMapperModel", "arrivalBy", "(J)I"⟩, 45)]
theorem lw_r4 : ∀ q ∈ lw_privs_4, lw_okq q := List.forall_mem_cons.mpr ⟨lw_p48, List.forall_mem_cons.mpr ⟨lw_p49, List.forall_mem_cons.mpr ⟨lw_p50, List.forall_mem_cons.mpr ⟨lw_p51, List.forall_mem_cons.mpr ⟨lw_p52, List.forall_mem_cons.mpr ⟨lw_p53, List.forall_mem_cons.mpr ⟨lw_p54, List.forall_mem_cons.mpr ⟨lw_p55, List.forall_mem_cons.mpr ⟨lw_p56, List.forall_mem_cons.mpr ⟨lw_p57, List.forall_mem_cons.mpr ⟨lw_p58, List.forall_mem_cons.mpr ⟨lw_p59, List.forall_mem_cons.mpr ⟨lw_p60, List.forall_mem_cons.mpr ⟨lw_p61, List.forall_mem_cons.mpr ⟨lw_p62, List.forall_mem_cons.mpr ⟨lw_p63, fun _ h => absurd h List.not_mem_nil⟩⟩⟩⟩⟩⟩⟩⟩⟩⟩⟩⟩⟩⟩⟩⟩
theorem lw_p64 : lw_okq (⟨"TableMapperModel", "laysDue", "(I)V"⟩, 45) := ⟨⟨by decide +kernel, by decide +kernel⟩, List.mem_of_getElem? (i := 950) (by decide +kernel), List.mem_of_getElem? (i := 1285) (by decide +kernel), List.mem_of_getElem? (i := 1286) (by decide +kernel)⟩
theorem lw_p65 : lw_okq (⟨"TableMapperModel", "choosesAgain", "(I)V"⟩, 45) := ⟨⟨by decide +kernel, by decide +kernel⟩, List.mem_of_getElem? (i := 950) (by decide +kernel), List.mem_of_getElem? (i := 1289) (by decide +kernel), List.mem_of_getElem? (i := 1290) (by decide +kernel)⟩
theorem lw_p66 : lw_okq (⟨"TableMapperModel", "tablesBy", "(IJ)I"⟩, 45) := ⟨⟨by decide +kernel, by decide +kernel⟩, List.mem_of_getElem? (i := 950) (by decide +kernel), List.mem_of_getElem? (i := 1293) (by decide +kernel), List.mem_of_getElem? (i := 1294) (by decide +kernel)⟩
theorem lw_p67 : lw_okq (⟨"TableMapperModel", "holdsOf", "(I)J"⟩, 45) := ⟨⟨by decide +kernel, by decide +kernel⟩, List.mem_of_getElem? (i := 950) (by decide +kernel), List.mem_of_getElem? (i := 1305) (by decide +kernel), List.mem_of_getElem? (i := 1306) (by decide +kernel)⟩
theorem lw_p68 : lw_okq (⟨"TableMapperModel", "fixes", "(JI)V"⟩, 45) := ⟨⟨by decide +kernel, by decide +kernel⟩, List.mem_of_getElem? (i := 950) (by decide +kernel), List.mem_of_getElem? (i := 1309) (by decide +kernel), List.mem_of_getElem? (i := 1310) (by decide +kernel)⟩
theorem lw_p69 : lw_okq (⟨"TableMapperModel", "works", "(J)V"⟩, 45) := ⟨⟨by decide +kernel, by decide +kernel⟩, List.mem_of_getElem? (i := 950) (by decide +kernel), List.mem_of_getElem? (i := 1313) (by decide +kernel), List.mem_of_getElem? (i := 1314) (by decide +kernel)⟩
theorem lw_p70 : lw_okq (⟨"TableMapperModel", "gateIs", "(I)Z"⟩, 45) := ⟨⟨by decide +kernel, by decide +kernel⟩, List.mem_of_getElem? (i := 950) (by decide +kernel), List.mem_of_getElem? (i := 1317) (by decide +kernel), List.mem_of_getElem? (i := 1318) (by decide +kernel)⟩
theorem lw_p71 : lw_okq (⟨"TableMapperModel", "laysCells", "()V"⟩, 45) := ⟨⟨by decide +kernel, by decide +kernel⟩, List.mem_of_getElem? (i := 950) (by decide +kernel), List.mem_of_getElem? (i := 1348) (by decide +kernel), List.mem_of_getElem? (i := 1349) (by decide +kernel)⟩
theorem lw_p72 : lw_okq (⟨"TableMapperModel", "laysPairs", "()V"⟩, 45) := ⟨⟨by decide +kernel, by decide +kernel⟩, List.mem_of_getElem? (i := 950) (by decide +kernel), List.mem_of_getElem? (i := 1352) (by decide +kernel), List.mem_of_getElem? (i := 1353) (by decide +kernel)⟩
theorem lw_p73 : lw_okq (⟨"TableMapperModel", "isPair", "(II)Z"⟩, 45) := ⟨⟨by decide +kernel, by decide +kernel⟩, List.mem_of_getElem? (i := 950) (by decide +kernel), List.mem_of_getElem? (i := 1356) (by decide +kernel), List.mem_of_getElem? (i := 1357) (by decide +kernel)⟩
theorem lw_p74 : lw_okq (⟨"TableMapperModel", "newCell", "(III)V"⟩, 45) := ⟨⟨by decide +kernel, by decide +kernel⟩, List.mem_of_getElem? (i := 950) (by decide +kernel), List.mem_of_getElem? (i := 1360) (by decide +kernel), List.mem_of_getElem? (i := 1361) (by decide +kernel)⟩
theorem lw_p75 : lw_okq (⟨"TableMapperModel", "isPacked", "(I)Z"⟩, 45) := ⟨⟨by decide +kernel, by decide +kernel⟩, List.mem_of_getElem? (i := 950) (by decide +kernel), List.mem_of_getElem? (i := 1364) (by decide +kernel), List.mem_of_getElem? (i := 1365) (by decide +kernel)⟩
theorem lw_p76 : lw_okq (⟨"TableMapperModel", "usesOf", "(I)I"⟩, 45) := ⟨⟨by decide +kernel, by decide +kernel⟩, List.mem_of_getElem? (i := 950) (by decide +kernel), List.mem_of_getElem? (i := 1368) (by decide +kernel), List.mem_of_getElem? (i := 1369) (by decide +kernel)⟩
theorem lw_p77 : lw_okq (⟨"TableMapperModel", "packs", "(I)V"⟩, 45) := ⟨⟨by decide +kernel, by decide +kernel⟩, List.mem_of_getElem? (i := 950) (by decide +kernel), List.mem_of_getElem? (i := 1372) (by decide +kernel), List.mem_of_getElem? (i := 1373) (by decide +kernel)⟩
theorem lw_p78 : lw_okq (⟨"TableMapperModel", "caresOf", "(I)I"⟩, 45) := ⟨⟨by decide +kernel, by decide +kernel⟩, List.mem_of_getElem? (i := 950) (by decide +kernel), List.mem_of_getElem? (i := 1376) (by decide +kernel), List.mem_of_getElem? (i := 1377) (by decide +kernel)⟩
theorem lw_p79 : lw_okq (⟨"TableMapperModel", "slowest", "()I"⟩, 45) := ⟨⟨by decide +kernel, by decide +kernel⟩, List.mem_of_getElem? (i := 950) (by decide +kernel), List.mem_of_getElem? (i := 1384) (by decide +kernel), List.mem_of_getElem? (i := 1385) (by decide +kernel)⟩
def lw_privs_5 : List (MethodName × Nat) := [(⟨"TableMapperModel", "laysDue", "(I)V"⟩, 45), (⟨"TableMapperModel", "choosesAgain", "(I)V"⟩, 45), (⟨"TableMapperModel", "tablesBy", "(IJ)I"⟩, 45), (⟨"TableMapperModel", "holdsOf", "(I)J"⟩, 45), (⟨"TableMapperModel", "fixes", "(JI)V"⟩, 45), (⟨"TableMapperModel", "works", "(J)V"⟩, 45), (⟨"TableMapperModel", "gateIs", "(I)Z"⟩, 45), (⟨"TableMapperModel", "laysCells", "()V"⟩, 45), (⟨"TableMapperModel", "laysPairs", "()V"⟩, 45), (⟨"TableMapperModel", "isPair", "(II)Z"⟩, 45), (⟨"TableMapperModel", "newCell", "(III)V"⟩, 45), (⟨"TableMapperModel", "isPacked", "(I)Z"⟩, 45), (⟨"TableMapperModel", "usesOf", "(I)I"⟩, 45), (⟨"TableMapperModel", "packs", "(I)V"⟩, 45), (⟨"TableMapperModel", "caresOf", "(I)I"⟩, 45), (⟨"TableMapperModel", "slowest", "()I"⟩, 45)]
theorem lw_r5 : ∀ q ∈ lw_privs_5, lw_okq q := List.forall_mem_cons.mpr ⟨lw_p64, List.forall_mem_cons.mpr ⟨lw_p65, List.forall_mem_cons.mpr ⟨lw_p66, List.forall_mem_cons.mpr ⟨lw_p67, List.forall_mem_cons.mpr ⟨lw_p68, List.forall_mem_cons.mpr ⟨lw_p69, List.forall_mem_cons.mpr ⟨lw_p70, List.forall_mem_cons.mpr ⟨lw_p71, List.forall_mem_cons.mpr ⟨lw_p72, List.forall_mem_cons.mpr ⟨lw_p73, List.forall_mem_cons.mpr ⟨lw_p74, List.forall_mem_cons.mpr ⟨lw_p75, List.forall_mem_cons.mpr ⟨lw_p76, List.forall_mem_cons.mpr ⟨lw_p77, List.forall_mem_cons.mpr ⟨lw_p78, List.forall_mem_cons.mpr ⟨lw_p79, fun _ h => absurd h List.not_mem_nil⟩⟩⟩⟩⟩⟩⟩⟩⟩⟩⟩⟩⟩⟩⟩⟩
theorem lw_p80 : lw_okq (⟨"TableMapperModel", "mostPairs", "()I"⟩, 45) := ⟨⟨by decide +kernel, by decide +kernel⟩, List.mem_of_getElem? (i := 950) (by decide +kernel), List.mem_of_getElem? (i := 1388) (by decide +kernel), List.mem_of_getElem? (i := 1389) (by decide +kernel)⟩
theorem lw_p81 : lw_okq (⟨"TableMapperModel", "laysClusters", "(II)Z"⟩, 45) := ⟨⟨by decide +kernel, by decide +kernel⟩, List.mem_of_getElem? (i := 950) (by decide +kernel), List.mem_of_getElem? (i := 1400) (by decide +kernel), List.mem_of_getElem? (i := 1401) (by decide +kernel)⟩
theorem lw_p82 : lw_okq (⟨"TableMapperModel", "beginning", "()I"⟩, 45) := ⟨⟨by decide +kernel, by decide +kernel⟩, List.mem_of_getElem? (i := 950) (by decide +kernel), List.mem_of_getElem? (i := 1404) (by decide +kernel), List.mem_of_getElem? (i := 1405) (by decide +kernel)⟩
theorem lw_p83 : lw_okq (⟨"TableMapperModel", "joins", "(I)V"⟩, 45) := ⟨⟨by decide +kernel, by decide +kernel⟩, List.mem_of_getElem? (i := 950) (by decide +kernel), List.mem_of_getElem? (i := 1408) (by decide +kernel), List.mem_of_getElem? (i := 1409) (by decide +kernel)⟩
theorem lw_p84 : lw_okq (⟨"TableMapperModel", "nextTo", "(I)I"⟩, 45) := ⟨⟨by decide +kernel, by decide +kernel⟩, List.mem_of_getElem? (i := 950) (by decide +kernel), List.mem_of_getElem? (i := 1412) (by decide +kernel), List.mem_of_getElem? (i := 1413) (by decide +kernel)⟩
def lw_privs_6 : List (MethodName × Nat) := [(⟨"TableMapperModel", "mostPairs", "()I"⟩, 45), (⟨"TableMapperModel", "laysClusters", "(II)Z"⟩, 45), (⟨"TableMapperModel", "beginning", "()I"⟩, 45), (⟨"TableMapperModel", "joins", "(I)V"⟩, 45), (⟨"TableMapperModel", "nextTo", "(I)I"⟩, 45)]
theorem lw_r6 : ∀ q ∈ lw_privs_6, lw_okq q := List.forall_mem_cons.mpr ⟨lw_p80, List.forall_mem_cons.mpr ⟨lw_p81, List.forall_mem_cons.mpr ⟨lw_p82, List.forall_mem_cons.mpr ⟨lw_p83, List.forall_mem_cons.mpr ⟨lw_p84, fun _ h => absurd h List.not_mem_nil⟩⟩⟩⟩⟩
def lw_privs : List (MethodName × Nat) := lw_privs_1 ++ (lw_privs_2 ++ (lw_privs_3 ++ (lw_privs_4 ++ (lw_privs_5 ++ (lw_privs_6)))))
def lw_tbl : List Cond := k2_sels lw_privs ++ tables_1
theorem lw_privs_ok : ∀ q ∈ lw_privs, lw_okq q := by
  show ∀ q ∈ lw_privs_1 ++ (lw_privs_2 ++ (lw_privs_3 ++ (lw_privs_4 ++ (lw_privs_5 ++ (lw_privs_6))))), lw_okq q
  exact List.forall_mem_append.mpr ⟨lw_r1, List.forall_mem_append.mpr ⟨lw_r2, List.forall_mem_append.mpr ⟨lw_r3, List.forall_mem_append.mpr ⟨lw_r4, List.forall_mem_append.mpr ⟨lw_r5, lw_r6⟩⟩⟩⟩⟩
def RX0 : String := "TableMapper$Cells"
def TX0 : u_T := fun k => match k with
  | 0 => ("TableMapper$Cells", "network", "LTableMapper$Network;", true)
  | 1 => ("TableMapper$Cells", "cover", "LTableMapper$Cover;", true)
  | 2 => ("TableMapper$Cells", "mates", "[J", true)
  | 3 => ("TableMapper$Cells", "partner", "[I", true)
  | 4 => ("TableMapper$Cells", "cellOf", "[I", true)
  | 5 => ("TableMapper$Cells", "tablesIn", "[J", true)
  | 6 => ("TableMapper$Cells", "registersIn", "[J", true)
  | 7 => ("TableMapper$Cells", "netsIn", "[J", true)
  | 8 => ("TableMapper$Cells", "packed", "J", false)
  | 9 => ("TableMapper$Cells", "pairs", "I", false)
  | _ => ("TableMapper$Cells", "size", "I", false)
def tyX0 : Nat → FieldType := fun k => match k with
  | 0 => .object "TableMapper$Network"
  | 1 => .object "TableMapper$Cover"
  | 2 => .array .long
  | 3 => .array .int
  | 4 => .array .int
  | 5 => .array .long
  | 6 => .array .long
  | 7 => .array .long
  | 8 => .long
  | 9 => .int
  | _ => .int
abbrev wsX00 : List Cond := u_ws RX0 TX0 11
theorem nmX0 : ∀ a, a < 11 → ∀ b, b < 11 → a ≠ b → (TX0 a).2.1 ≠ (TX0 b).2.1 := by decide +kernel
theorem tyX0_ok : ∀ k, k < 11 → parseFieldDescriptor (TX0 k).2.2.1 = some (tyX0 k) := by decide +kernel
def RX1 : String := "TableMapper$Clustering"
def TX1 : u_T := fun k => match k with
  | 0 => ("TableMapper$Clustering", "cells", "LTableMapper$Cells;", true)
  | 1 => ("TableMapper$Clustering", "clusterOf", "[I", true)
  | 2 => ("TableMapper$Clustering", "size", "I", false)
  | 3 => ("TableMapper$Clustering", "filledCells", "I", false)
  | 4 => ("TableMapper$Clustering", "filledNets", "I", false)
  | 5 => ("TableMapper$Clustering", "left", "J", false)
  | 6 => ("TableMapper$Clustering", "netsIn", "J", false)
  | _ => ("TableMapper$Clustering", "netsOut", "J", false)
def tyX1 : Nat → FieldType := fun k => match k with
  | 0 => .object "TableMapper$Cells"
  | 1 => .array .int
  | 2 => .int
  | 3 => .int
  | 4 => .int
  | 5 => .long
  | 6 => .long
  | _ => .long
abbrev wsX10 : List Cond := u_ws RX1 TX1 8
theorem nmX1 : ∀ a, a < 8 → ∀ b, b < 8 → a ≠ b → (TX1 a).2.1 ≠ (TX1 b).2.1 := by decide +kernel
theorem tyX1_ok : ∀ k, k < 8 → parseFieldDescriptor (TX1 k).2.2.1 = some (tyX1 k) := by decide +kernel
def RX2 : String := "TableMapper$Contents"
def TX2 : u_T := fun k => match k with
  | 0 => ("TableMapper$Contents", "network", "LTableMapper$Network;", true)
  | 1 => ("TableMapper$Contents", "cover", "LTableMapper$Cover;", true)
  | 2 => ("TableMapper$Contents", "bits", "[J", true)
  | 3 => ("TableMapper$Contents", "values", "[J", true)
  | _ => ("TableMapper$Contents", "known", "J", false)
def tyX2 : Nat → FieldType := fun k => match k with
  | 0 => .object "TableMapper$Network"
  | 1 => .object "TableMapper$Cover"
  | 2 => .array .long
  | 3 => .array .long
  | _ => .long
abbrev wsX20 : List Cond := u_ws RX2 TX2 5
theorem nmX2 : ∀ a, a < 5 → ∀ b, b < 5 → a ≠ b → (TX2 a).2.1 ≠ (TX2 b).2.1 := by decide +kernel
theorem tyX2_ok : ∀ k, k < 5 → parseFieldDescriptor (TX2 k).2.2.1 = some (tyX2 k) := by decide +kernel
def RX3 : String := "TableMapper$Cover"
def TX3 : u_T := fun k => match k with
  | 0 => ("TableMapper$Cover", "network", "LTableMapper$Network;", true)
  | 1 => ("TableMapper$Cover", "due", "[I", true)
  | 2 => ("TableMapper$Cover", "chosen", "[J", true)
  | 3 => ("TableMapper$Cover", "arrival", "[I", true)
  | _ => ("TableMapper$Cover", "tables", "J", false)
def tyX3 : Nat → FieldType := fun k => match k with
  | 0 => .object "TableMapper$Network"
  | 1 => .array .int
  | 2 => .array .long
  | 3 => .array .int
  | _ => .long
abbrev wsX30 : List Cond := u_ws RX3 TX3 5
theorem nmX3 : ∀ a, a < 5 → ∀ b, b < 5 → a ≠ b → (TX3 a).2.1 ≠ (TX3 b).2.1 := by decide +kernel
theorem tyX3_ok : ∀ k, k < 5 → parseFieldDescriptor (TX3 k).2.2.1 = some (tyX3 k) := by decide +kernel
def RX4 : String := "TableMapper$Cuts"
def TX4 : u_T := fun k => match k with
  | 0 => ("TableMapper$Cuts", "network", "LTableMapper$Network;", true)
  | 1 => ("TableMapper$Cuts", "ways", "LTableMapper$Ways;", true)
  | 2 => ("TableMapper$Cuts", "row", "LTableMapper$Row;", true)
  | 3 => ("TableMapper$Cuts", "k", "I", true)
  | 4 => ("TableMapper$Cuts", "level", "[I", true)
  | 5 => ("TableMapper$Cuts", "near", "[J", true)
  | 6 => ("TableMapper$Cuts", "kept", "[J", true)
  | 7 => ("TableMapper$Cuts", "keptSize", "[I", true)
  | _ => ("TableMapper$Cuts", "learnt", "I", false)
def tyX4 : Nat → FieldType := fun k => match k with
  | 0 => .object "TableMapper$Network"
  | 1 => .object "TableMapper$Ways"
  | 2 => .object "TableMapper$Row"
  | 3 => .int
  | 4 => .array .int
  | 5 => .array .long
  | 6 => .array .long
  | 7 => .array .int
  | _ => .int
abbrev wsX40 : List Cond := u_ws RX4 TX4 9
theorem nmX4 : ∀ a, a < 9 → ∀ b, b < 9 → a ≠ b → (TX4 a).2.1 ≠ (TX4 b).2.1 := by decide +kernel
theorem tyX4_ok : ∀ k, k < 9 → parseFieldDescriptor (TX4 k).2.2.1 = some (tyX4 k) := by decide +kernel
def RX5 : String := "TableMapper$Network"
def TX5 : u_T := fun k => match k with
  | 0 => ("TableMapper$Network", "kind", "[I", true)
  | 1 => ("TableMapper$Network", "source", "[I", true)
  | 2 => ("TableMapper$Network", "feeds", "[I", true)
  | 3 => ("TableMapper$Network", "sources", "[J", true)
  | 4 => ("TableMapper$Network", "below", "[J", true)
  | 5 => ("TableMapper$Network", "inputs", "J", false)
  | 6 => ("TableMapper$Network", "gates", "J", false)
  | 7 => ("TableMapper$Network", "registers", "J", false)
  | 8 => ("TableMapper$Network", "outputs", "J", false)
  | _ => ("TableMapper$Network", "size", "I", false)
def tyX5 : Nat → FieldType := fun k => match k with
  | 0 => .array .int
  | 1 => .array .int
  | 2 => .array .int
  | 3 => .array .long
  | 4 => .array .long
  | 5 => .long
  | 6 => .long
  | 7 => .long
  | 8 => .long
  | _ => .int
abbrev wsX50 : List Cond := u_ws RX5 TX5 10
theorem nmX5 : ∀ a, a < 10 → ∀ b, b < 10 → a ≠ b → (TX5 a).2.1 ≠ (TX5 b).2.1 := by decide +kernel
theorem tyX5_ok : ∀ k, k < 10 → parseFieldDescriptor (TX5 k).2.2.1 = some (tyX5 k) := by decide +kernel
def RX6 : String := "TableMapper$Row"
def TX6 : u_T := fun k => match k with
  | 0 => ("TableMapper$Row", "cuts", "[J", true)
  | 1 => ("TableMapper$Row", "places", "[J", true)
  | _ => ("TableMapper$Row", "size", "I", false)
def tyX6 : Nat → FieldType := fun k => match k with
  | 0 => .array .long
  | 1 => .array .long
  | _ => .int
abbrev wsX60 : List Cond := u_ws RX6 TX6 3
theorem nmX6 : ∀ a, a < 3 → ∀ b, b < 3 → a ≠ b → (TX6 a).2.1 ≠ (TX6 b).2.1 := by decide +kernel
theorem tyX6_ok : ∀ k, k < 3 → parseFieldDescriptor (TX6 k).2.2.1 = some (tyX6 k) := by decide +kernel
def RX7 : String := "TableMapper$Signals"
def TX7 : u_T := fun k => match k with
  | 0 => ("TableMapper$Signals", "network", "LTableMapper$Network;", true)
  | 1 => ("TableMapper$Signals", "values", "[J", true)
  | _ => ("TableMapper$Signals", "leavesOn", "J", false)
def tyX7 : Nat → FieldType := fun k => match k with
  | 0 => .object "TableMapper$Network"
  | 1 => .array .long
  | _ => .long
abbrev wsX70 : List Cond := u_ws RX7 TX7 3
theorem nmX7 : ∀ a, a < 3 → ∀ b, b < 3 → a ≠ b → (TX7 a).2.1 ≠ (TX7 b).2.1 := by decide +kernel
theorem tyX7_ok : ∀ k, k < 3 → parseFieldDescriptor (TX7 k).2.2.1 = some (tyX7 k) := by decide +kernel
def RX8 : String := "TableMapper$Ways"
def TX8 : u_T := fun k => match k with
  | 0 => ("TableMapper$Ways", "cameFrom", "[I", true)
  | 1 => ("TableMapper$Ways", "queue", "[I", true)
  | 2 => ("TableMapper$Ways", "aheadOnWay", "[I", true)
  | 3 => ("TableMapper$Ways", "network", "LTableMapper$Network;", true)
  | 4 => ("TableMapper$Ways", "onWays", "J", false)
  | 5 => ("TableMapper$Ways", "upperSeen", "J", false)
  | 6 => ("TableMapper$Ways", "lowerSeen", "J", false)
  | _ => ("TableMapper$Ways", "queued", "I", false)
def tyX8 : Nat → FieldType := fun k => match k with
  | 0 => .array .int
  | 1 => .array .int
  | 2 => .array .int
  | 3 => .object "TableMapper$Network"
  | 4 => .long
  | 5 => .long
  | 6 => .long
  | _ => .int
abbrev wsX80 : List Cond := u_ws RX8 TX8 8
theorem nmX8 : ∀ a, a < 8 → ∀ b, b < 8 → a ≠ b → (TX8 a).2.1 ≠ (TX8 b).2.1 := by decide +kernel
theorem tyX8_ok : ∀ k, k < 8 → parseFieldDescriptor (TX8 k).2.2.1 = some (tyX8 k) := by decide +kernel
def RX9 : String := "TableMapper"
def TX9 : u_T := fun k => match k with
  | 0 => ("TableMapper", "network", "LTableMapper$Network;", true)
  | 1 => ("TableMapper", "signals", "LTableMapper$Signals;", true)
  | 2 => ("TableMapper", "cutsByK", "[LTableMapper$Cuts;", true)
  | 3 => ("TableMapper", "cover", "LTableMapper$Cover;", true)
  | 4 => ("TableMapper", "contents", "LTableMapper$Contents;", true)
  | 5 => ("TableMapper", "cells", "LTableMapper$Cells;", true)
  | 6 => ("TableMapper", "clustering", "LTableMapper$Clustering;", true)
  | 7 => ("TableMapper", "k", "I", false)
  | _ => ("TableMapper", "isMapped", "Z", false)
def tyX9 : Nat → FieldType := fun k => match k with
  | 0 => .object "TableMapper$Network"
  | 1 => .object "TableMapper$Signals"
  | 2 => .array (.object "TableMapper$Cuts")
  | 3 => .object "TableMapper$Cover"
  | 4 => .object "TableMapper$Contents"
  | 5 => .object "TableMapper$Cells"
  | 6 => .object "TableMapper$Clustering"
  | 7 => .int
  | _ => .boolean
abbrev wsX90 : List Cond := u_ws RX9 TX9 9
theorem nmX9 : ∀ a, a < 9 → ∀ b, b < 9 → a ≠ b → (TX9 a).2.1 ≠ (TX9 b).2.1 := by decide +kernel
theorem tyX9_ok : ∀ k, k < 9 → parseFieldDescriptor (TX9 k).2.2.1 = some (tyX9 k) := by decide +kernel
def RX10 : String := "TableMapperModel"
def TX10 : u_T := fun k => match k with
  | 0 => ("TableMapperModel", "thrown", "I", false)
  | 1 => ("TableMapperModel", "nodes", "I", false)
  | 2 => ("TableMapperModel", "sort", "[I", true)
  | 3 => ("TableMapperModel", "kind", "[I", true)
  | 4 => ("TableMapperModel", "source", "[I", true)
  | 5 => ("TableMapperModel", "below", "[J", true)
  | 6 => ("TableMapperModel", "outputs", "J", false)
  | 7 => ("TableMapperModel", "width", "I", false)
  | 8 => ("TableMapperModel", "isMapped", "Z", false)
  | 9 => ("TableMapperModel", "isLaid", "Z", false)
  | 10 => ("TableMapperModel", "state", "[Z", true)
  | 11 => ("TableMapperModel", "level", "[I", true)
  | 12 => ("TableMapperModel", "near", "[J", true)
  | 13 => ("TableMapperModel", "through", "[I", true)
  | 14 => ("TableMapperModel", "along", "[I", true)
  | 15 => ("TableMapperModel", "from", "[I", true)
  | 16 => ("TableMapperModel", "queue", "[I", true)
  | 17 => ("TableMapperModel", "queued", "I", false)
  | 18 => ("TableMapperModel", "kept", "[J", true)
  | 19 => ("TableMapperModel", "keptMany", "[I", true)
  | 20 => ("TableMapperModel", "made", "[J", true)
  | 21 => ("TableMapperModel", "madeMany", "I", false)
  | 22 => ("TableMapperModel", "chosen", "[J", true)
  | 23 => ("TableMapperModel", "arrival", "[I", true)
  | 24 => ("TableMapperModel", "due", "[I", true)
  | 25 => ("TableMapperModel", "tables", "J", false)
  | 26 => ("TableMapperModel", "value", "[Z", true)
  | 27 => ("TableMapperModel", "byTables", "[Z", true)
  | 28 => ("TableMapperModel", "paired", "[I", true)
  | 29 => ("TableMapperModel", "cellOf", "[I", true)
  | 30 => ("TableMapperModel", "lower", "[I", true)
  | 31 => ("TableMapperModel", "higher", "[I", true)
  | 32 => ("TableMapperModel", "first", "[I", true)
  | 33 => ("TableMapperModel", "second", "[I", true)
  | 34 => ("TableMapperModel", "netsIn", "[J", true)
  | 35 => ("TableMapperModel", "netsOut", "[J", true)
  | 36 => ("TableMapperModel", "cells", "I", false)
  | 37 => ("TableMapperModel", "packed", "I", false)
  | 38 => ("TableMapperModel", "pairs", "I", false)
  | 39 => ("TableMapperModel", "mostOf", "[I", true)
  | 40 => ("TableMapperModel", "few", "[I", true)
  | 41 => ("TableMapperModel", "clusterOf", "[I", true)
  | 42 => ("TableMapperModel", "clusterIn", "[J", true)
  | 43 => ("TableMapperModel", "clusterOut", "[J", true)
  | _ => ("TableMapperModel", "clusters", "I", false)
def tyX10 : Nat → FieldType := fun k => match k with
  | 0 => .int
  | 1 => .int
  | 2 => .array .int
  | 3 => .array .int
  | 4 => .array .int
  | 5 => .array .long
  | 6 => .long
  | 7 => .int
  | 8 => .boolean
  | 9 => .boolean
  | 10 => .array .boolean
  | 11 => .array .int
  | 12 => .array .long
  | 13 => .array .int
  | 14 => .array .int
  | 15 => .array .int
  | 16 => .array .int
  | 17 => .int
  | 18 => .array .long
  | 19 => .array .int
  | 20 => .array .long
  | 21 => .int
  | 22 => .array .long
  | 23 => .array .int
  | 24 => .array .int
  | 25 => .long
  | 26 => .array .boolean
  | 27 => .array .boolean
  | 28 => .array .int
  | 29 => .array .int
  | 30 => .array .int
  | 31 => .array .int
  | 32 => .array .int
  | 33 => .array .int
  | 34 => .array .long
  | 35 => .array .long
  | 36 => .int
  | 37 => .int
  | 38 => .int
  | 39 => .array .int
  | 40 => .array .int
  | 41 => .array .int
  | 42 => .array .long
  | 43 => .array .long
  | _ => .int
abbrev wsX100 : List Cond := u_ws RX10 TX10 45
theorem nmX10 : ∀ a, a < 45 → ∀ b, b < 45 → a ≠ b → (TX10 a).2.1 ≠ (TX10 b).2.1 := by decide +kernel
theorem tyX10_ok : ∀ k, k < 45 → parseFieldDescriptor (TX10 k).2.2.1 = some (tyX10 k) := by decide +kernel
abbrev vwCl : List vw_C := [(RX0, TX0, 11), (RX1, TX1, 8), (RX2, TX2, 5), (RX3, TX3, 5), (RX4, TX4, 9), (RX5, TX5, 10), (RX6, TX6, 3), (RX7, TX7, 3), (RX8, TX8, 8), (RX9, TX9, 9), (RX10, TX10, 45)]
def RJ13 : String := "java/lang/Long"
def RJ9 : String := "java/lang/Math"
def RL : String := "TableMapperLaw"
abbrev cX0_init : ByteArray := prog_2_method_1_code
def yX0_init : MethodName := ⟨RX0, "<init>", "(LTableMapper$Network;LTableMapper$Cover;)V"⟩
abbrev cX0_isCell : ByteArray := prog_2_method_2_code
def yX0_isCell : MethodName := ⟨RX0, "isCell", "(I)Z"⟩
abbrev cX0_netsOut : ByteArray := prog_2_method_3_code
def yX0_netsOut : MethodName := ⟨RX0, "netsOut", "(I)J"⟩
abbrev cX0_fillAnew : ByteArray := prog_2_method_4_code
def yX0_fillAnew : MethodName := ⟨RX0, "fillAnew", "(I)V"⟩
abbrev cX0_mostPairs : ByteArray := prog_2_method_5_code
def yX0_mostPairs : MethodName := ⟨RX0, "mostPairs", "()I"⟩
abbrev cX0_findMates : ByteArray := prog_2_method_6_code
def yX0_findMates : MethodName := ⟨RX0, "findMates", "(I)V"⟩
abbrev cX0_pairTables : ByteArray := prog_2_method_7_code
def yX0_pairTables : MethodName := ⟨RX0, "pairTables", "()V"⟩
abbrev cX0_layTables : ByteArray := prog_2_method_8_code
def yX0_layTables : MethodName := ⟨RX0, "layTables", "()V"⟩
abbrev cX0_addCell : ByteArray := prog_2_method_9_code
def yX0_addCell : MethodName := ⟨RX0, "addCell", "(JJJ)V"⟩
abbrev cX0_join : ByteArray := prog_2_method_10_code
def yX0_join : MethodName := ⟨RX0, "join", "(II)V"⟩
abbrev cX0_layRegisters : ByteArray := prog_2_method_11_code
def yX0_layRegisters : MethodName := ⟨RX0, "layRegisters", "()V"⟩
abbrev cX0_usedByTables : ByteArray := prog_2_method_12_code
def yX0_usedByTables : MethodName := ⟨RX0, "usedByTables", "()J"⟩
abbrev cX0_fedToSeveral : ByteArray := prog_2_method_13_code
def yX0_fedToSeveral : MethodName := ⟨RX0, "fedToSeveral", "()J"⟩
abbrev cX0_mostPairsOf : ByteArray := prog_2_method_14_code
def yX0_mostPairsOf : MethodName := ⟨RX0, "mostPairsOf", "([JJI)I"⟩
abbrev cX0_withMates : ByteArray := prog_2_method_15_code
def yX0_withMates : MethodName := ⟨RX0, "withMates", "([JJ)J"⟩
abbrev cX0_withFewestMates : ByteArray := prog_2_method_16_code
def yX0_withFewestMates : MethodName := ⟨RX0, "withFewestMates", "([JJ)I"⟩
abbrev cX1_init : ByteArray := prog_3_method_1_code
def yX1_init : MethodName := ⟨RX1, "<init>", "(LTableMapper$Cells;)V"⟩
abbrev cX1_isLimit : ByteArray := prog_3_method_2_code
def yX1_isLimit : MethodName := ⟨RX1, "isLimit", "(II)Z"⟩
abbrev cX1_forget : ByteArray := prog_3_method_3_code
def yX1_forget : MethodName := ⟨RX1, "forget", "()V"⟩
abbrev cX1_fill : ByteArray := prog_3_method_4_code
def yX1_fill : MethodName := ⟨RX1, "fill", "(II)V"⟩
abbrev cX1_countCrossing : ByteArray := prog_3_method_5_code
def yX1_countCrossing : MethodName := ⟨RX1, "countCrossing", "()I"⟩
abbrev cX1_take : ByteArray := prog_3_method_6_code
def yX1_take : MethodName := ⟨RX1, "take", "(I)V"⟩
abbrev cX1_withMostNetsIn : ByteArray := prog_3_method_7_code
def yX1_withMostNetsIn : MethodName := ⟨RX1, "withMostNetsIn", "()I"⟩
abbrev cX1_bestToCome : ByteArray := prog_3_method_8_code
def yX1_bestToCome : MethodName := ⟨RX1, "bestToCome", "(I)I"⟩
abbrev cX2_init : ByteArray := prog_4_method_1_code
def yX2_init : MethodName := ⟨RX2, "<init>", "(LTableMapper$Network;LTableMapper$Cover;)V"⟩
abbrev cX2_forget : ByteArray := prog_4_method_2_code
def yX2_forget : MethodName := ⟨RX2, "forget", "()V"⟩
abbrev cX2_bitsOf : ByteArray := prog_4_method_3_code
def yX2_bitsOf : MethodName := ⟨RX2, "bitsOf", "(I)J"⟩
abbrev cX2_caresOf : ByteArray := prog_4_method_4_code
def yX2_caresOf : MethodName := ⟨RX2, "caresOf", "(I)I"⟩
abbrev cX2_nodesByTables : ByteArray := prog_4_method_5_code
def yX2_nodesByTables : MethodName := ⟨RX2, "nodesByTables", "(JI)J"⟩
abbrev cX2_told : ByteArray := prog_4_method_6_code
def yX2_told : MethodName := ⟨RX2, "told", "(JJ)I"⟩
abbrev cX2_findBits : ByteArray := prog_4_method_7_code
def yX2_findBits : MethodName := ⟨RX2, "findBits", "(I)J"⟩
abbrev cX3_init : ByteArray := prog_5_method_1_code
def yX3_init : MethodName := ⟨RX3, "<init>", "(LTableMapper$Network;)V"⟩
abbrev cX3_takeNearCuts : ByteArray := prog_5_method_2_code
def yX3_takeNearCuts : MethodName := ⟨RX3, "takeNearCuts", "(LTableMapper$Cuts;)V"⟩
abbrev cX3_chooseAgain : ByteArray := prog_5_method_3_code
def yX3_chooseAgain : MethodName := ⟨RX3, "chooseAgain", "(LTableMapper$Cuts;I)I"⟩
abbrev cX3_greatestArrival : ByteArray := prog_5_method_4_code
def yX3_greatestArrival : MethodName := ⟨RX3, "greatestArrival", "(J)I"⟩
abbrev cX3_usesOf : ByteArray := prog_5_method_5_code
def yX3_usesOf : MethodName := ⟨RX3, "usesOf", "(I)I"⟩
abbrev cX3_onSlowWay : ByteArray := prog_5_method_6_code
def yX3_onSlowWay : MethodName := ⟨RX3, "onSlowWay", "(I)I"⟩
abbrev cX3_latestOf : ByteArray := prog_5_method_7_code
def yX3_latestOf : MethodName := ⟨RX3, "latestOf", "(J)I"⟩
abbrev cX3_arrivalBy : ByteArray := prog_5_method_8_code
def yX3_arrivalBy : MethodName := ⟨RX3, "arrivalBy", "(J)I"⟩
abbrev cX3_withChosen : ByteArray := prog_5_method_9_code
def yX3_withChosen : MethodName := ⟨RX3, "withChosen", "(JII)J"⟩
abbrev cX3_tablesWith : ByteArray := prog_5_method_10_code
def yX3_tablesWith : MethodName := ⟨RX3, "tablesWith", "(JJI)J"⟩
abbrev cX3_findDue : ByteArray := prog_5_method_11_code
def yX3_findDue : MethodName := ⟨RX3, "findDue", "(JI)V"⟩
abbrev cX3_bestCut : ByteArray := prog_5_method_12_code
def yX3_bestCut : MethodName := ⟨RX3, "bestCut", "(LTableMapper$Cuts;IJ)J"⟩
abbrev cX4_init : ByteArray := prog_6_method_1_code
def yX4_init : MethodName := ⟨RX4, "<init>", "(LTableMapper$Network;LTableMapper$Ways;LTableMapper$Row;I)V"⟩
abbrev cX4_learn : ByteArray := prog_6_method_2_code
def yX4_learn : MethodName := ⟨RX4, "learn", "(I)V"⟩
abbrev cX4_greatestLevel : ByteArray := prog_6_method_3_code
def yX4_greatestLevel : MethodName := ⟨RX4, "greatestLevel", "(J)I"⟩
abbrev cX4_keptCut : ByteArray := prog_6_method_4_code
def yX4_keptCut : MethodName := ⟨RX4, "keptCut", "(II)J"⟩
abbrev cX4_belowAtLevel : ByteArray := prog_6_method_5_code
def yX4_belowAtLevel : MethodName := ⟨RX4, "belowAtLevel", "(II)J"⟩
abbrev cX4_learnKept : ByteArray := prog_6_method_6_code
def yX4_learnKept : MethodName := ⟨RX4, "learnKept", "(I)V"⟩
abbrev cX4_takeKept : ByteArray := prog_6_method_7_code
def yX4_takeKept : MethodName := ⟨RX4, "takeKept", "(I)V"⟩
abbrev cX4_addWithThird : ByteArray := prog_6_method_8_code
def yX4_addWithThird : MethodName := ⟨RX4, "addWithThird", "(IJ)V"⟩
abbrev cX4_choices : ByteArray := prog_6_method_9_code
def yX4_choices : MethodName := ⟨RX4, "choices", "(II)I"⟩
abbrev cX4_choice : ByteArray := prog_6_method_10_code
def yX4_choice : MethodName := ⟨RX4, "choice", "(III)J"⟩
abbrev cX4_placeInRow : ByteArray := prog_6_method_11_code
def yX4_placeInRow : MethodName := ⟨RX4, "placeInRow", "(J)J"⟩
abbrev cX5_init : ByteArray := prog_7_method_1_code
def yX5_init : MethodName := ⟨RX5, "<init>", "()V"⟩
abbrev cX5_isKind : ByteArray := prog_7_method_2_code
def yX5_isKind : MethodName := ⟨RX5, "isKind", "(I)Z"⟩
abbrev cX5_sourcesOf : ByteArray := prog_7_method_3_code
def yX5_sourcesOf : MethodName := ⟨RX5, "sourcesOf", "(I)I"⟩
abbrev cX5_isFull : ByteArray := prog_7_method_4_code
def yX5_isFull : MethodName := ⟨RX5, "isFull", "()Z"⟩
abbrev cX5_isNode : ByteArray := prog_7_method_5_code
def yX5_isNode : MethodName := ⟨RX5, "isNode", "(I)Z"⟩
abbrev cX5_isInput : ByteArray := prog_7_method_6_code
def yX5_isInput : MethodName := ⟨RX5, "isInput", "(I)Z"⟩
abbrev cX5_isGate : ByteArray := prog_7_method_7_code
def yX5_isGate : MethodName := ⟨RX5, "isGate", "(I)Z"⟩
abbrev cX5_isRegister : ByteArray := prog_7_method_8_code
def yX5_isRegister : MethodName := ⟨RX5, "isRegister", "(I)Z"⟩
abbrev cX5_addInput : ByteArray := prog_7_method_9_code
def yX5_addInput : MethodName := ⟨RX5, "addInput", "()I"⟩
abbrev cX5_addRegister : ByteArray := prog_7_method_10_code
def yX5_addRegister : MethodName := ⟨RX5, "addRegister", "()I"⟩
abbrev cX5_addGate : ByteArray := prog_7_method_11_code
def yX5_addGate : MethodName := ⟨RX5, "addGate", "(IIII)I"⟩
abbrev cX5_setFeed : ByteArray := prog_7_method_12_code
def yX5_setFeed : MethodName := ⟨RX5, "setFeed", "(II)V"⟩
abbrev cX5_kindOf : ByteArray := prog_7_method_13_code
def yX5_kindOf : MethodName := ⟨RX5, "kindOf", "(I)I"⟩
abbrev cX5_feedOf : ByteArray := prog_7_method_14_code
def yX5_feedOf : MethodName := ⟨RX5, "feedOf", "(I)I"⟩
abbrev cX5_sourceOf : ByteArray := prog_7_method_15_code
def yX5_sourceOf : MethodName := ⟨RX5, "sourceOf", "(II)I"⟩
abbrev cX5_sourceOrFeed : ByteArray := prog_7_method_16_code
def yX5_sourceOrFeed : MethodName := ⟨RX5, "sourceOrFeed", "(II)I"⟩
abbrev cX5_roots : ByteArray := prog_7_method_17_code
def yX5_roots : MethodName := ⟨RX5, "roots", "()J"⟩
abbrev cX5_reached : ByteArray := prog_7_method_18_code
def yX5_reached : MethodName := ⟨RX5, "reached", "(IJ)J"⟩
abbrev cX5_separates : ByteArray := prog_7_method_19_code
def yX5_separates : MethodName := ⟨RX5, "separates", "(IJ)Z"⟩
abbrev cX5_valueOf : ByteArray := prog_7_method_20_code
def yX5_valueOf : MethodName := ⟨RX5, "valueOf", "(I[J)J"⟩
abbrev cX6_init : ByteArray := prog_8_method_1_code
def yX6_init : MethodName := ⟨RX6, "<init>", "()V"⟩
abbrev cX6_clear : ByteArray := prog_8_method_2_code
def yX6_clear : MethodName := ⟨RX6, "clear", "()V"⟩
abbrev cX6_add : ByteArray := prog_8_method_3_code
def yX6_add : MethodName := ⟨RX6, "add", "(JJ)V"⟩
abbrev cX6_takeFirst : ByteArray := prog_8_method_4_code
def yX6_takeFirst : MethodName := ⟨RX6, "takeFirst", "()J"⟩
abbrev cX6_dropAllWith : ByteArray := prog_8_method_5_code
def yX6_dropAllWith : MethodName := ⟨RX6, "dropAllWith", "(J)V"⟩
abbrev cX7_init : ByteArray := prog_9_method_1_code
def yX7_init : MethodName := ⟨RX7, "<init>", "(LTableMapper$Network;)V"⟩
abbrev cX7_setInput : ByteArray := prog_9_method_2_code
def yX7_setInput : MethodName := ⟨RX7, "setInput", "(IZ)I"⟩
abbrev cX7_now : ByteArray := prog_9_method_3_code
def yX7_now : MethodName := ⟨RX7, "now", "()J"⟩
abbrev cX7_changedBy : ByteArray := prog_9_method_4_code
def yX7_changedBy : MethodName := ⟨RX7, "changedBy", "(I)J"⟩
abbrev cX7_run : ByteArray := prog_9_method_5_code
def yX7_run : MethodName := ⟨RX7, "run", "(I)I"⟩
abbrev cX7_registersNext : ByteArray := prog_9_method_6_code
def yX7_registersNext : MethodName := ⟨RX7, "registersNext", "()J"⟩
abbrev cX7_nodesOn : ByteArray := prog_9_method_7_code
def yX7_nodesOn : MethodName := ⟨RX7, "nodesOn", "(J)J"⟩
abbrev cX8_init : ByteArray := prog_10_method_1_code
def yX8_init : MethodName := ⟨RX8, "<init>", "(LTableMapper$Network;)V"⟩
abbrev cX8_nearestCut : ByteArray := prog_10_method_2_code
def yX8_nearestCut : MethodName := ⟨RX8, "nearestCut", "(JI)J"⟩
abbrev cX8_findWay : ByteArray := prog_10_method_3_code
def yX8_findWay : MethodName := ⟨RX8, "findWay", "(J)I"⟩
abbrev cX8_seeUppers : ByteArray := prog_10_method_4_code
def yX8_seeUppers : MethodName := ⟨RX8, "seeUppers", "(JI)V"⟩
abbrev cX8_seeLower : ByteArray := prog_10_method_5_code
def yX8_seeLower : MethodName := ⟨RX8, "seeLower", "(II)V"⟩
abbrev cX8_layWay : ByteArray := prog_10_method_6_code
def yX8_layWay : MethodName := ⟨RX8, "layWay", "(I)V"⟩
abbrev cX9_init : ByteArray := prog_1_method_1_code
def yX9_init : MethodName := ⟨RX9, "<init>", "()V"⟩
abbrev cX9_input : ByteArray := prog_1_method_2_code
def yX9_input : MethodName := ⟨RX9, "input", "()I"⟩
abbrev cX9_gate : ByteArray := prog_1_method_3_code
def yX9_gate : MethodName := ⟨RX9, "gate", "(IIII)I"⟩
abbrev cX9_register : ByteArray := prog_1_method_4_code
def yX9_register : MethodName := ⟨RX9, "register", "()I"⟩
abbrev cX9_feed : ByteArray := prog_1_method_5_code
def yX9_feed : MethodName := ⟨RX9, "feed", "(II)Z"⟩
abbrev cX9_output : ByteArray := prog_1_method_6_code
def yX9_output : MethodName := ⟨RX9, "output", "(I)I"⟩
abbrev cX9_inputs : ByteArray := prog_1_method_7_code
def yX9_inputs : MethodName := ⟨RX9, "inputs", "(I)I"⟩
abbrev cX9_map : ByteArray := prog_1_method_8_code
def yX9_map : MethodName := ⟨RX9, "map", "()I"⟩
abbrev cX9_again : ByteArray := prog_1_method_9_code
def yX9_again : MethodName := ⟨RX9, "again", "(I)I"⟩
abbrev cX9_set : ByteArray := prog_1_method_10_code
def yX9_set : MethodName := ⟨RX9, "set", "(IZ)I"⟩
abbrev cX9_clock : ByteArray := prog_1_method_11_code
def yX9_clock : MethodName := ⟨RX9, "clock", "(I)I"⟩
abbrev cX9_node : ByteArray := prog_1_method_12_code
def yX9_node : MethodName := ⟨RX9, "node", "(II)I"⟩
abbrev cX9_near : ByteArray := prog_1_method_13_code
def yX9_near : MethodName := ⟨RX9, "near", "(II)I"⟩
abbrev cX9_cone : ByteArray := prog_1_method_14_code
def yX9_cone : MethodName := ⟨RX9, "cone", "(I)I"⟩
abbrev cX9_kept : ByteArray := prog_1_method_15_code
def yX9_kept : MethodName := ⟨RX9, "kept", "(II)J"⟩
abbrev cX9_isCut : ByteArray := prog_1_method_16_code
def yX9_isCut : MethodName := ⟨RX9, "isCut", "(IJ)Z"⟩
abbrev cX9_depth : ByteArray := prog_1_method_17_code
def yX9_depth : MethodName := ⟨RX9, "depth", "()I"⟩
abbrev cX9_chosen : ByteArray := prog_1_method_18_code
def yX9_chosen : MethodName := ⟨RX9, "chosen", "(I)J"⟩
abbrev cX9_table : ByteArray := prog_1_method_19_code
def yX9_table : MethodName := ⟨RX9, "table", "(II)I"⟩
abbrev cX9_holds : ByteArray := prog_1_method_20_code
def yX9_holds : MethodName := ⟨RX9, "holds", "(I)J"⟩
abbrev cX9_mapped : ByteArray := prog_1_method_21_code
def yX9_mapped : MethodName := ⟨RX9, "mapped", "(I)I"⟩
abbrev cX9_cell : ByteArray := prog_1_method_22_code
def yX9_cell : MethodName := ⟨RX9, "cell", "(II)I"⟩
abbrev cX9_clusters : ByteArray := prog_1_method_23_code
def yX9_clusters : MethodName := ⟨RX9, "clusters", "(II)I"⟩
abbrev cX9_cluster : ByteArray := prog_1_method_24_code
def yX9_cluster : MethodName := ⟨RX9, "cluster", "(III)I"⟩
abbrev cX9_cross : ByteArray := prog_1_method_25_code
def yX9_cross : MethodName := ⟨RX9, "cross", "(II)I"⟩
abbrev cX9_is : ByteArray := prog_1_method_26_code
def yX9_is : MethodName := ⟨RX9, "is", "(I)I"⟩
abbrev cX9_comes : ByteArray := prog_1_method_27_code
def yX9_comes : MethodName := ⟨RX9, "comes", "(I)I"⟩
abbrev cX9_differs : ByteArray := prog_1_method_28_code
def yX9_differs : MethodName := ⟨RX9, "differs", "(II)I"⟩
abbrev cX9_slow : ByteArray := prog_1_method_29_code
def yX9_slow : MethodName := ⟨RX9, "slow", "(I)I"⟩
abbrev cX9_count : ByteArray := prog_1_method_30_code
def yX9_count : MethodName := ⟨RX9, "count", "(I)I"⟩
abbrev cX9_cutsOfK : ByteArray := prog_1_method_31_code
def yX9_cutsOfK : MethodName := ⟨RX9, "cutsOfK", "()LTableMapper$Cuts;"⟩
abbrev cX9_followCover : ByteArray := prog_1_method_32_code
def yX9_followCover : MethodName := ⟨RX9, "followCover", "()V"⟩
abbrev cX9_bit : ByteArray := prog_1_method_33_code
def yX9_bit : MethodName := ⟨RX9, "bit", "(I)J"⟩
abbrev cX9_has : ByteArray := prog_1_method_34_code
def yX9_has : MethodName := ⟨RX9, "has", "(JI)Z"⟩
abbrev cX9_lowest : ByteArray := prog_1_method_35_code
def yX9_lowest : MethodName := ⟨RX9, "lowest", "(J)I"⟩
abbrev cX9_nthOf : ByteArray := prog_1_method_36_code
def yX9_nthOf : MethodName := ⟨RX9, "nthOf", "(JI)I"⟩
abbrev cX10_init : ByteArray := prog_12_method_1_code
def yX10_init : MethodName := ⟨RX10, "<init>", "()V"⟩
abbrev cX10_thrown : ByteArray := prog_12_method_2_code
def yX10_thrown : MethodName := ⟨RX10, "thrown", "()I"⟩
abbrev cX10_within : ByteArray := prog_12_method_3_code
def yX10_within : MethodName := ⟨RX10, "within", "(III)Z"⟩
abbrev cX10_has : ByteArray := prog_12_method_4_code
def yX10_has : MethodName := ⟨RX10, "has", "(JI)Z"⟩
abbrev cX10_manyOf : ByteArray := prog_12_method_5_code
def yX10_manyOf : MethodName := ⟨RX10, "manyOf", "(J)I"⟩
abbrev cX10_lowest : ByteArray := prog_12_method_6_code
def yX10_lowest : MethodName := ⟨RX10, "lowest", "(J)I"⟩
abbrev cX10_sourcesOf : ByteArray := prog_12_method_7_code
def yX10_sourcesOf : MethodName := ⟨RX10, "sourcesOf", "(I)I"⟩
abbrev cX10_isNode : ByteArray := prog_12_method_8_code
def yX10_isNode : MethodName := ⟨RX10, "isNode", "(I)Z"⟩
abbrev cX10_isGate : ByteArray := prog_12_method_9_code
def yX10_isGate : MethodName := ⟨RX10, "isGate", "(I)Z"⟩
abbrev cX10_isRegister : ByteArray := prog_12_method_10_code
def yX10_isRegister : MethodName := ⟨RX10, "isRegister", "(I)Z"⟩
abbrev cX10_changes : ByteArray := prog_12_method_11_code
def yX10_changes : MethodName := ⟨RX10, "changes", "()V"⟩
abbrev cX10_adds : ByteArray := prog_12_method_12_code
def yX10_adds : MethodName := ⟨RX10, "adds", "(I)I"⟩
abbrev cX10_input : ByteArray := prog_12_method_13_code
def yX10_input : MethodName := ⟨RX10, "input", "()I"⟩
abbrev cX10_gate : ByteArray := prog_12_method_14_code
def yX10_gate : MethodName := ⟨RX10, "gate", "(IIII)I"⟩
abbrev cX10_register : ByteArray := prog_12_method_15_code
def yX10_register : MethodName := ⟨RX10, "register", "()I"⟩
abbrev cX10_feed : ByteArray := prog_12_method_16_code
def yX10_feed : MethodName := ⟨RX10, "feed", "(II)Z"⟩
abbrev cX10_output : ByteArray := prog_12_method_17_code
def yX10_output : MethodName := ⟨RX10, "output", "(I)I"⟩
abbrev cX10_inputs : ByteArray := prog_12_method_18_code
def yX10_inputs : MethodName := ⟨RX10, "inputs", "(I)I"⟩
abbrev cX10_fed : ByteArray := prog_12_method_19_code
def yX10_fed : MethodName := ⟨RX10, "fed", "()J"⟩
abbrev cX10_roots : ByteArray := prog_12_method_20_code
def yX10_roots : MethodName := ⟨RX10, "roots", "()J"⟩
abbrev cX10_gates : ByteArray := prog_12_method_21_code
def yX10_gates : MethodName := ⟨RX10, "gates", "()J"⟩
abbrev cX10_comes : ByteArray := prog_12_method_22_code
def yX10_comes : MethodName := ⟨RX10, "comes", "(II)V"⟩
abbrev cX10_room : ByteArray := prog_12_method_23_code
def yX10_room : MethodName := ⟨RX10, "room", "(II)I"⟩
abbrev cX10_spreadsOut : ByteArray := prog_12_method_24_code
def yX10_spreadsOut : MethodName := ⟨RX10, "spreadsOut", "(I)V"⟩
abbrev cX10_spreadsIn : ByteArray := prog_12_method_25_code
def yX10_spreadsIn : MethodName := ⟨RX10, "spreadsIn", "(IJI)V"⟩
abbrev cX10_spreads : ByteArray := prog_12_method_26_code
def yX10_spreads : MethodName := ⟨RX10, "spreads", "(II)I"⟩
abbrev cX10_slotOf : ByteArray := prog_12_method_27_code
def yX10_slotOf : MethodName := ⟨RX10, "slotOf", "(IIZ)I"⟩
abbrev cX10_flows : ByteArray := prog_12_method_28_code
def yX10_flows : MethodName := ⟨RX10, "flows", "(I)V"⟩
abbrev cX10_isCutOff : ByteArray := prog_12_method_29_code
def yX10_isCutOff : MethodName := ⟨RX10, "isCutOff", "(II)Z"⟩
abbrev cX10_greatestIn : ByteArray := prog_12_method_30_code
def yX10_greatestIn : MethodName := ⟨RX10, "greatestIn", "(J)I"⟩
abbrev cX10_isAhead : ByteArray := prog_12_method_31_code
def yX10_isAhead : MethodName := ⟨RX10, "isAhead", "(JJ)Z"⟩
abbrev cX10_makes : ByteArray := prog_12_method_32_code
def yX10_makes : MethodName := ⟨RX10, "makes", "(J)V"⟩
abbrev cX10_setOf : ByteArray := prog_12_method_33_code
def yX10_setOf : MethodName := ⟨RX10, "setOf", "(II)J"⟩
abbrev cX10_laysKept : ByteArray := prog_12_method_34_code
def yX10_laysKept : MethodName := ⟨RX10, "laysKept", "(I)V"⟩
abbrev cX10_puts : ByteArray := prog_12_method_35_code
def yX10_puts : MethodName := ⟨RX10, "puts", "(IJI)I"⟩
abbrev cX10_lays : ByteArray := prog_12_method_36_code
def yX10_lays : MethodName := ⟨RX10, "lays", "()V"⟩
abbrev cX10_coneOf : ByteArray := prog_12_method_37_code
def yX10_coneOf : MethodName := ⟨RX10, "coneOf", "(IJ)J"⟩
abbrev cX10_rootDepth : ByteArray := prog_12_method_38_code
def yX10_rootDepth : MethodName := ⟨RX10, "rootDepth", "()I"⟩
abbrev cX10_node : ByteArray := prog_12_method_39_code
def yX10_node : MethodName := ⟨RX10, "node", "(II)I"⟩
abbrev cX10_near : ByteArray := prog_12_method_40_code
def yX10_near : MethodName := ⟨RX10, "near", "(II)I"⟩
abbrev cX10_cone : ByteArray := prog_12_method_41_code
def yX10_cone : MethodName := ⟨RX10, "cone", "(I)I"⟩
abbrev cX10_kept : ByteArray := prog_12_method_42_code
def yX10_kept : MethodName := ⟨RX10, "kept", "(II)J"⟩
abbrev cX10_isCut : ByteArray := prog_12_method_43_code
def yX10_isCut : MethodName := ⟨RX10, "isCut", "(IJ)Z"⟩
abbrev cX10_depth : ByteArray := prog_12_method_44_code
def yX10_depth : MethodName := ⟨RX10, "depth", "()I"⟩
abbrev cX10_laysTables : ByteArray := prog_12_method_45_code
def yX10_laysTables : MethodName := ⟨RX10, "laysTables", "()V"⟩
abbrev cX10_arrivalBy : ByteArray := prog_12_method_46_code
def yX10_arrivalBy : MethodName := ⟨RX10, "arrivalBy", "(J)I"⟩
abbrev cX10_laysArrival : ByteArray := prog_12_method_47_code
def yX10_laysArrival : MethodName := ⟨RX10, "laysArrival", "()V"⟩
abbrev cX10_looks : ByteArray := prog_12_method_48_code
def yX10_looks : MethodName := ⟨RX10, "looks", "()V"⟩
abbrev cX10_map : ByteArray := prog_12_method_49_code
def yX10_map : MethodName := ⟨RX10, "map", "()I"⟩
abbrev cX10_laysDue : ByteArray := prog_12_method_50_code
def yX10_laysDue : MethodName := ⟨RX10, "laysDue", "(I)V"⟩
abbrev cX10_tablesBy : ByteArray := prog_12_method_51_code
def yX10_tablesBy : MethodName := ⟨RX10, "tablesBy", "(IJ)I"⟩
abbrev cX10_choosesAgain : ByteArray := prog_12_method_52_code
def yX10_choosesAgain : MethodName := ⟨RX10, "choosesAgain", "(I)V"⟩
abbrev cX10_again : ByteArray := prog_12_method_53_code
def yX10_again : MethodName := ⟨RX10, "again", "(I)I"⟩
abbrev cX10_chosen : ByteArray := prog_12_method_54_code
def yX10_chosen : MethodName := ⟨RX10, "chosen", "(I)J"⟩
abbrev cX10_gateIs : ByteArray := prog_12_method_55_code
def yX10_gateIs : MethodName := ⟨RX10, "gateIs", "(I)Z"⟩
abbrev cX10_works : ByteArray := prog_12_method_56_code
def yX10_works : MethodName := ⟨RX10, "works", "(J)V"⟩
abbrev cX10_fixes : ByteArray := prog_12_method_57_code
def yX10_fixes : MethodName := ⟨RX10, "fixes", "(JI)V"⟩
abbrev cX10_holdsOf : ByteArray := prog_12_method_58_code
def yX10_holdsOf : MethodName := ⟨RX10, "holdsOf", "(I)J"⟩
abbrev cX10_holds : ByteArray := prog_12_method_59_code
def yX10_holds : MethodName := ⟨RX10, "holds", "(I)J"⟩
abbrev cX10_caresOf : ByteArray := prog_12_method_60_code
def yX10_caresOf : MethodName := ⟨RX10, "caresOf", "(I)I"⟩
abbrev cX10_has64 : ByteArray := prog_12_method_61_code
def yX10_has64 : MethodName := ⟨RX10, "has64", "(JI)Z"⟩
abbrev cX10_set : ByteArray := prog_12_method_62_code
def yX10_set : MethodName := ⟨RX10, "set", "(IZ)I"⟩
abbrev cX10_clock : ByteArray := prog_12_method_63_code
def yX10_clock : MethodName := ⟨RX10, "clock", "(I)I"⟩
abbrev cX10_is : ByteArray := prog_12_method_64_code
def yX10_is : MethodName := ⟨RX10, "is", "(I)I"⟩
abbrev cX10_comes_ : ByteArray := prog_12_method_65_code
def yX10_comes_ : MethodName := ⟨RX10, "comes", "(I)I"⟩
abbrev cX10_differs : ByteArray := prog_12_method_66_code
def yX10_differs : MethodName := ⟨RX10, "differs", "(II)I"⟩
abbrev cX10_isPair : ByteArray := prog_12_method_67_code
def yX10_isPair : MethodName := ⟨RX10, "isPair", "(II)Z"⟩
abbrev cX10_laysPairs : ByteArray := prog_12_method_68_code
def yX10_laysPairs : MethodName := ⟨RX10, "laysPairs", "()V"⟩
abbrev cX10_usesOf : ByteArray := prog_12_method_69_code
def yX10_usesOf : MethodName := ⟨RX10, "usesOf", "(I)I"⟩
abbrev cX10_isPacked : ByteArray := prog_12_method_70_code
def yX10_isPacked : MethodName := ⟨RX10, "isPacked", "(I)Z"⟩
abbrev cX10_newCell : ByteArray := prog_12_method_71_code
def yX10_newCell : MethodName := ⟨RX10, "newCell", "(III)V"⟩
abbrev cX10_packs : ByteArray := prog_12_method_72_code
def yX10_packs : MethodName := ⟨RX10, "packs", "(I)V"⟩
abbrev cX10_laysCells : ByteArray := prog_12_method_73_code
def yX10_laysCells : MethodName := ⟨RX10, "laysCells", "()V"⟩
abbrev cX10_mostPairs : ByteArray := prog_12_method_74_code
def yX10_mostPairs : MethodName := ⟨RX10, "mostPairs", "()I"⟩
abbrev cX10_table : ByteArray := prog_12_method_75_code
def yX10_table : MethodName := ⟨RX10, "table", "(II)I"⟩
abbrev cX10_slowest : ByteArray := prog_12_method_76_code
def yX10_slowest : MethodName := ⟨RX10, "slowest", "()I"⟩
abbrev cX10_mapped : ByteArray := prog_12_method_77_code
def yX10_mapped : MethodName := ⟨RX10, "mapped", "(I)I"⟩
abbrev cX10_cell : ByteArray := prog_12_method_78_code
def yX10_cell : MethodName := ⟨RX10, "cell", "(II)I"⟩
abbrev cX10_beginning : ByteArray := prog_12_method_79_code
def yX10_beginning : MethodName := ⟨RX10, "beginning", "()I"⟩
abbrev cX10_nextTo : ByteArray := prog_12_method_80_code
def yX10_nextTo : MethodName := ⟨RX10, "nextTo", "(I)I"⟩
abbrev cX10_joins : ByteArray := prog_12_method_81_code
def yX10_joins : MethodName := ⟨RX10, "joins", "(I)V"⟩
abbrev cX10_laysClusters : ByteArray := prog_12_method_82_code
def yX10_laysClusters : MethodName := ⟨RX10, "laysClusters", "(II)Z"⟩
abbrev cX10_clusters : ByteArray := prog_12_method_83_code
def yX10_clusters : MethodName := ⟨RX10, "clusters", "(II)I"⟩
abbrev cX10_cluster : ByteArray := prog_12_method_84_code
def yX10_cluster : MethodName := ⟨RX10, "cluster", "(III)I"⟩
abbrev cX10_cross : ByteArray := prog_12_method_85_code
def yX10_cross : MethodName := ⟨RX10, "cross", "(II)I"⟩
abbrev cX10_slow : ByteArray := prog_12_method_86_code
def yX10_slow : MethodName := ⟨RX10, "slow", "(I)I"⟩
abbrev cX10_count : ByteArray := prog_12_method_87_code
def yX10_count : MethodName := ⟨RX10, "count", "(I)I"⟩
abbrev cJ13_bitCount_95d88 : ByteArray := prog_15_method_50_code
def yJ13_bitCount_95d88 : MethodName := ⟨RJ13, "bitCount", "(J)I"⟩
abbrev cJ9_max_7cf53 : ByteArray := prog_16_method_65_code
def yJ9_max_7cf53 : MethodName := ⟨RJ9, "max", "(II)I"⟩
abbrev cJ9_min_7cf53 : ByteArray := prog_16_method_69_code
def yJ9_min_7cf53 : MethodName := ⟨RJ9, "min", "(II)I"⟩
abbrev cL_holds : ByteArray := method_3_code
def yL_holds : MethodName := ⟨RL, "holds", "(LTableMapper;I[J)I"⟩
abbrev cL_law : ByteArray := code
def yL_law : MethodName := ⟨RL, "law", "([I)Z"⟩
end
section
-- written by wip/gen/gen.py: the instructions of each method, held against decode
def iX0_isCell : List (Nat × Instr × Nat) := [(0, .iload_n 1, 1), (1, .ifCond .lt 15, 3), (4, .iload_n 1, 1), (5, .aload_n 0, 1), (6, .getfield 39, 3), (9, .if_icmp .ge 7, 3), (12, .iconst 1, 1), (13, .goto 4, 3), (16, .iconst 0, 1), (17, .ireturn, 1)]
set_option maxRecDepth 100000 in
theorem iX0_isCell_ok : iX0_isCell.all (fun q => decide (decode cX0_isCell q.1 = .ok (q.2.1, q.2.2))) = true := by decide +kernel
def iX0_netsOut : List (Nat × Instr × Nat) := [(0, .aload_n 0, 1), (1, .getfield 22, 3), (4, .iload_n 1, 1), (5, .laload, 1), (6, .aload_n 0, 1), (7, .getfield 25, 3), (10, .iload_n 1, 1), (11, .laload, 1), (12, .lor, 1), (13, .lreturn, 1)]
set_option maxRecDepth 100000 in
theorem iX0_netsOut_ok : iX0_netsOut.all (fun q => decide (decode cX0_netsOut q.1 = .ok (q.2.1, q.2.2))) = true := by decide +kernel
def iX0_fillAnew : List (Nat × Instr × Nat) := [(0, .aload_n 0, 1), (1, .iload_n 1, 1), (2, .iconst 1, 1), (3, .isub, 1), (4, .invokevirtual 43, 3), (7, .aload_n 0, 1), (8, .invokevirtual 47, 3), (11, .aload_n 0, 1), (12, .invokevirtual 50, 3), (15, .aload_n 0, 1), (16, .invokevirtual 53, 3), (19, .return_, 1)]
set_option maxRecDepth 100000 in
theorem iX0_fillAnew_ok : iX0_fillAnew.all (fun q => decide (decode cX0_fillAnew q.1 = .ok (q.2.1, q.2.2))) = true := by decide +kernel
def iX0_mostPairs : List (Nat × Instr × Nat) := [(0, .aload_n 0, 1), (1, .getfield 35, 3), (4, .getfield 56, 3), (7, .invokestatic 62, 3), (10, .bipush 14, 2), (12, .if_icmp .le 7, 3), (15, .iconst (-1), 1), (16, .goto 18, 3), (19, .aload_n 0, 1), (20, .getfield 9, 3), (23, .aload_n 0, 1), (24, .getfield 35, 3), (27, .getfield 56, 3), (30, .iconst 0, 1), (31, .invokestatic 68, 3), (34, .ireturn, 1)]
set_option maxRecDepth 100000 in
theorem iX0_mostPairs_ok : iX0_mostPairs.all (fun q => decide (decode cX0_mostPairs q.1 = .ok (q.2.1, q.2.2))) = true := by decide +kernel
def iX0_findMates : List (Nat × Instr × Nat) := [(0, .iconst 0, 1), (1, .istore_n 2, 1), (2, .iload_n 2, 1), (3, .aload_n 0, 1), (4, .getfield 31, 3), (7, .getfield 72, 3), (10, .if_icmp .ge 16, 3), (13, .aload_n 0, 1), (14, .getfield 9, 3), (17, .iload_n 2, 1), (18, .lconst 0, 1), (19, .lastore, 1), (20, .iinc 2 1, 3), (23, .goto (-21), 3), (26, .aload_n 0, 1), (27, .getfield 35, 3), (30, .getfield 56, 3), (33, .lstore_n 2, 1), (34, .lload_n 2, 1), (35, .lconst 0, 1), (36, .lcmp, 1), (37, .ifCond .eq 127, 3), (40, .lload_n 2, 1), (41, .invokestatic 75, 3), (44, .istore 4, 2), (46, .lload_n 2, 1), (47, .lload_n 2, 1), (48, .lconst 1, 1), (49, .lsub, 1), (50, .land, 1), (51, .lstore 5, 2), (53, .lload 5, 2), (55, .lconst 0, 1), (56, .lcmp, 1), (57, .ifCond .eq 98, 3), (60, .lload 5, 2), (62, .invokestatic 75, 3), (65, .istore 7, 2), (67, .aload_n 0, 1), (68, .getfield 35, 3), (71, .getfield 78, 3), (74, .iload 7, 2), (76, .laload, 1), (77, .iload 4, 2), (79, .invokestatic 81, 3), (82, .ifCond .ne 61, 3), (85, .aload_n 0, 1), (86, .getfield 35, 3), (89, .getfield 78, 3), (92, .iload 4, 2), (94, .laload, 1), (95, .aload_n 0, 1), (96, .getfield 35, 3), (99, .getfield 78, 3), (102, .iload 7, 2), (104, .laload, 1), (105, .lor, 1), (106, .invokestatic 62, 3), (109, .iload_n 1, 1), (110, .if_icmp .gt 33, 3), (113, .aload_n 0, 1), (114, .getfield 9, 3), (117, .iload 4, 2), (119, .dup2, 1), (120, .laload, 1), (121, .iload 7, 2), (123, .invokestatic 85, 3), (126, .lor, 1), (127, .lastore, 1), (128, .aload_n 0, 1), (129, .getfield 9, 3), (132, .iload 7, 2), (134, .dup2, 1), (135, .laload, 1), (136, .iload 4, 2), (138, .invokestatic 85, 3), (141, .lor, 1), (142, .lastore, 1), (143, .lload 5, 2), (145, .lload 5, 2), (147, .lconst 1, 1), (148, .lsub, 1), (149, .land, 1), (150, .lstore 5, 2), (152, .goto (-99), 3), (155, .lload_n 2, 1), (156, .lload_n 2, 1), (157, .lconst 1, 1), (158, .lsub, 1), (159, .land, 1), (160, .lstore_n 2, 1), (161, .goto (-127), 3), (164, .return_, 1)]
set_option maxRecDepth 100000 in
theorem iX0_findMates_ok : iX0_findMates.all (fun q => decide (decode cX0_findMates q.1 = .ok (q.2.1, q.2.2))) = true := by decide +kernel
def iX0_pairTables : List (Nat × Instr × Nat) := [(0, .aload_n 0, 1), (1, .iconst 0, 1), (2, .putfield 89, 3), (5, .iconst 0, 1), (6, .istore_n 1, 1), (7, .iload_n 1, 1), (8, .aload_n 0, 1), (9, .getfield 31, 3), (12, .getfield 72, 3), (15, .if_icmp .ge 16, 3), (18, .aload_n 0, 1), (19, .getfield 15, 3), (22, .iload_n 1, 1), (23, .iconst (-1), 1), (24, .iastore, 1), (25, .iinc 1 1, 3), (28, .goto (-21), 3), (31, .aload_n 0, 1), (32, .getfield 35, 3), (35, .getfield 56, 3), (38, .lstore_n 1, 1), (39, .aload_n 0, 1), (40, .getfield 35, 3), (43, .getfield 56, 3), (46, .lstore_n 3, 1), (47, .lload_n 3, 1), (48, .lconst 0, 1), (49, .lcmp, 1), (50, .ifCond .eq 100, 3), (53, .lload_n 3, 1), (54, .invokestatic 75, 3), (57, .istore 5, 2), (59, .aload_n 0, 1), (60, .getfield 9, 3), (63, .iload 5, 2), (65, .laload, 1), (66, .lload_n 1, 1), (67, .land, 1), (68, .lload_n 3, 1), (69, .land, 1), (70, .lstore 6, 2), (72, .lload_n 1, 1), (73, .iload 5, 2), (75, .invokestatic 81, 3), (78, .ifCond .eq 63, 3), (81, .lload 6, 2), (83, .lconst 0, 1), (84, .lcmp, 1), (85, .ifCond .eq 56, 3), (88, .lload 6, 2), (90, .invokestatic 75, 3), (93, .istore 8, 2), (95, .aload_n 0, 1), (96, .getfield 15, 3), (99, .iload 5, 2), (101, .iload 8, 2), (103, .iastore, 1), (104, .aload_n 0, 1), (105, .getfield 15, 3), (108, .iload 8, 2), (110, .iload 5, 2), (112, .iastore, 1), (113, .lload_n 1, 1), (114, .iload 5, 2), (116, .invokestatic 85, 3), (119, .iload 8, 2), (121, .invokestatic 85, 3), (124, .lor, 1), (125, .ldc2_w 92, 3), (128, .lxor, 1), (129, .land, 1), (130, .lstore_n 1, 1), (131, .aload_n 0, 1), (132, .dup, 1), (133, .getfield 89, 3), (136, .iconst 1, 1), (137, .iadd, 1), (138, .putfield 89, 3), (141, .lload_n 3, 1), (142, .lload_n 3, 1), (143, .lconst 1, 1), (144, .lsub, 1), (145, .land, 1), (146, .lstore_n 3, 1), (147, .goto (-100), 3), (150, .return_, 1)]
set_option maxRecDepth 100000 in
theorem iX0_pairTables_ok : iX0_pairTables.all (fun q => decide (decode cX0_pairTables q.1 = .ok (q.2.1, q.2.2))) = true := by decide +kernel
def iX0_layTables : List (Nat × Instr × Nat) := [(0, .aload_n 0, 1), (1, .iconst 0, 1), (2, .putfield 39, 3), (5, .iconst 0, 1), (6, .istore_n 1, 1), (7, .iload_n 1, 1), (8, .aload_n 0, 1), (9, .getfield 31, 3), (12, .getfield 72, 3), (15, .if_icmp .ge 16, 3), (18, .aload_n 0, 1), (19, .getfield 19, 3), (22, .iload_n 1, 1), (23, .iconst (-1), 1), (24, .iastore, 1), (25, .iinc 1 1, 3), (28, .goto (-21), 3), (31, .aload_n 0, 1), (32, .getfield 35, 3), (35, .getfield 56, 3), (38, .lstore_n 1, 1), (39, .lload_n 1, 1), (40, .lconst 0, 1), (41, .lcmp, 1), (42, .ifCond .eq 83, 3), (45, .lload_n 1, 1), (46, .invokestatic 75, 3), (49, .istore_n 3, 1), (50, .aload_n 0, 1), (51, .getfield 19, 3), (54, .iload_n 3, 1), (55, .iaload, 1), (56, .iconst (-1), 1), (57, .if_icmp .ne 59, 3), (60, .aload_n 0, 1), (61, .iload_n 3, 1), (62, .invokestatic 85, 3), (65, .lconst 0, 1), (66, .aload_n 0, 1), (67, .getfield 35, 3), (70, .getfield 78, 3), (73, .iload_n 3, 1), (74, .laload, 1), (75, .invokevirtual 94, 3), (78, .aload_n 0, 1), (79, .getfield 19, 3), (82, .iload_n 3, 1), (83, .aload_n 0, 1), (84, .getfield 39, 3), (87, .iconst 1, 1), (88, .isub, 1), (89, .iastore, 1), (90, .aload_n 0, 1), (91, .getfield 15, 3), (94, .iload_n 3, 1), (95, .iaload, 1), (96, .iconst (-1), 1), (97, .if_icmp .eq 19, 3), (100, .aload_n 0, 1), (101, .aload_n 0, 1), (102, .getfield 15, 3), (105, .iload_n 3, 1), (106, .iaload, 1), (107, .aload_n 0, 1), (108, .getfield 39, 3), (111, .iconst 1, 1), (112, .isub, 1), (113, .invokevirtual 98, 3), (116, .lload_n 1, 1), (117, .lload_n 1, 1), (118, .lconst 1, 1), (119, .lsub, 1), (120, .land, 1), (121, .lstore_n 1, 1), (122, .goto (-83), 3), (125, .return_, 1)]
set_option maxRecDepth 100000 in
theorem iX0_layTables_ok : iX0_layTables.all (fun q => decide (decode cX0_layTables q.1 = .ok (q.2.1, q.2.2))) = true := by decide +kernel
def iX0_addCell : List (Nat × Instr × Nat) := [(0, .aload_n 0, 1), (1, .getfield 22, 3), (4, .aload_n 0, 1), (5, .getfield 39, 3), (8, .lload_n 1, 1), (9, .lastore, 1), (10, .aload_n 0, 1), (11, .getfield 25, 3), (14, .aload_n 0, 1), (15, .getfield 39, 3), (18, .lload_n 3, 1), (19, .lastore, 1), (20, .aload_n 0, 1), (21, .getfield 28, 3), (24, .aload_n 0, 1), (25, .getfield 39, 3), (28, .lload 5, 2), (30, .lastore, 1), (31, .aload_n 0, 1), (32, .dup, 1), (33, .getfield 39, 3), (36, .iconst 1, 1), (37, .iadd, 1), (38, .putfield 39, 3), (41, .return_, 1)]
set_option maxRecDepth 100000 in
theorem iX0_addCell_ok : iX0_addCell.all (fun q => decide (decode cX0_addCell q.1 = .ok (q.2.1, q.2.2))) = true := by decide +kernel
def iX0_join : List (Nat × Instr × Nat) := [(0, .aload_n 0, 1), (1, .getfield 22, 3), (4, .iload_n 2, 1), (5, .dup2, 1), (6, .laload, 1), (7, .iload_n 1, 1), (8, .invokestatic 85, 3), (11, .lor, 1), (12, .lastore, 1), (13, .aload_n 0, 1), (14, .getfield 28, 3), (17, .iload_n 2, 1), (18, .dup2, 1), (19, .laload, 1), (20, .aload_n 0, 1), (21, .getfield 35, 3), (24, .getfield 78, 3), (27, .iload_n 1, 1), (28, .laload, 1), (29, .lor, 1), (30, .lastore, 1), (31, .aload_n 0, 1), (32, .getfield 19, 3), (35, .iload_n 1, 1), (36, .iload_n 2, 1), (37, .iastore, 1), (38, .return_, 1)]
set_option maxRecDepth 100000 in
theorem iX0_join_ok : iX0_join.all (fun q => decide (decode cX0_join q.1 = .ok (q.2.1, q.2.2))) = true := by decide +kernel
def iX0_layRegisters : List (Nat × Instr × Nat) := [(0, .aload_n 0, 1), (1, .lconst 0, 1), (2, .putfield 102, 3), (5, .aload_n 0, 1), (6, .getfield 35, 3), (9, .getfield 56, 3), (12, .aload_n 0, 1), (13, .getfield 31, 3), (16, .getfield 105, 3), (19, .ldc2_w 92, 3), (22, .lxor, 1), (23, .land, 1), (24, .aload_n 0, 1), (25, .invokevirtual 108, 3), (28, .ldc2_w 92, 3), (31, .lxor, 1), (32, .land, 1), (33, .aload_n 0, 1), (34, .invokevirtual 112, 3), (37, .ldc2_w 92, 3), (40, .lxor, 1), (41, .land, 1), (42, .lstore_n 1, 1), (43, .aload_n 0, 1), (44, .getfield 31, 3), (47, .getfield 115, 3), (50, .lstore_n 3, 1), (51, .lload_n 3, 1), (52, .lconst 0, 1), (53, .lcmp, 1), (54, .ifCond .eq 90, 3), (57, .lload_n 3, 1), (58, .invokestatic 75, 3), (61, .istore 5, 2), (63, .aload_n 0, 1), (64, .getfield 31, 3), (67, .iload 5, 2), (69, .invokevirtual 118, 3), (72, .istore 6, 2), (74, .lload_n 1, 1), (75, .iload 6, 2), (77, .invokestatic 81, 3), (80, .ifCond .eq 40, 3), (83, .aload_n 0, 1), (84, .getfield 25, 3), (87, .aload_n 0, 1), (88, .getfield 19, 3), (91, .iload 6, 2), (93, .iaload, 1), (94, .dup2, 1), (95, .laload, 1), (96, .iload 5, 2), (98, .invokestatic 85, 3), (101, .lor, 1), (102, .lastore, 1), (103, .aload_n 0, 1), (104, .dup, 1), (105, .getfield 102, 3), (108, .iload 5, 2), (110, .invokestatic 85, 3), (113, .lor, 1), (114, .putfield 102, 3), (117, .goto 18, 3), (120, .aload_n 0, 1), (121, .lconst 0, 1), (122, .iload 5, 2), (124, .invokestatic 85, 3), (127, .iload 6, 2), (129, .invokestatic 85, 3), (132, .invokevirtual 94, 3), (135, .lload_n 3, 1), (136, .lload_n 3, 1), (137, .lconst 1, 1), (138, .lsub, 1), (139, .land, 1), (140, .lstore_n 3, 1), (141, .goto (-90), 3), (144, .return_, 1)]
set_option maxRecDepth 100000 in
theorem iX0_layRegisters_ok : iX0_layRegisters.all (fun q => decide (decode cX0_layRegisters q.1 = .ok (q.2.1, q.2.2))) = true := by decide +kernel
def iX0_usedByTables : List (Nat × Instr × Nat) := [(0, .lconst 0, 1), (1, .lstore_n 1, 1), (2, .aload_n 0, 1), (3, .getfield 35, 3), (6, .getfield 56, 3), (9, .lstore_n 3, 1), (10, .lload_n 3, 1), (11, .lconst 0, 1), (12, .lcmp, 1), (13, .ifCond .eq 27, 3), (16, .lload_n 1, 1), (17, .aload_n 0, 1), (18, .getfield 35, 3), (21, .getfield 78, 3), (24, .lload_n 3, 1), (25, .invokestatic 75, 3), (28, .laload, 1), (29, .lor, 1), (30, .lstore_n 1, 1), (31, .lload_n 3, 1), (32, .lload_n 3, 1), (33, .lconst 1, 1), (34, .lsub, 1), (35, .land, 1), (36, .lstore_n 3, 1), (37, .goto (-27), 3), (40, .lload_n 1, 1), (41, .lreturn, 1)]
set_option maxRecDepth 100000 in
theorem iX0_usedByTables_ok : iX0_usedByTables.all (fun q => decide (decode cX0_usedByTables q.1 = .ok (q.2.1, q.2.2))) = true := by decide +kernel
def iX0_fedToSeveral : List (Nat × Instr × Nat) := [(0, .lconst 0, 1), (1, .lstore_n 1, 1), (2, .lconst 0, 1), (3, .lstore_n 3, 1), (4, .aload_n 0, 1), (5, .getfield 31, 3), (8, .getfield 115, 3), (11, .lstore 5, 2), (13, .lload 5, 2), (15, .lconst 0, 1), (16, .lcmp, 1), (17, .ifCond .eq 44, 3), (20, .aload_n 0, 1), (21, .getfield 31, 3), (24, .lload 5, 2), (26, .invokestatic 75, 3), (29, .invokevirtual 118, 3), (32, .invokestatic 85, 3), (35, .lstore 7, 2), (37, .lload_n 3, 1), (38, .lload_n 1, 1), (39, .lload 7, 2), (41, .land, 1), (42, .lor, 1), (43, .lstore_n 3, 1), (44, .lload_n 1, 1), (45, .lload 7, 2), (47, .lor, 1), (48, .lstore_n 1, 1), (49, .lload 5, 2), (51, .lload 5, 2), (53, .lconst 1, 1), (54, .lsub, 1), (55, .land, 1), (56, .lstore 5, 2), (58, .goto (-45), 3), (61, .lload_n 3, 1), (62, .lreturn, 1)]
set_option maxRecDepth 100000 in
theorem iX0_fedToSeveral_ok : iX0_fedToSeveral.all (fun q => decide (decode cX0_fedToSeveral q.1 = .ok (q.2.1, q.2.2))) = true := by decide +kernel
def iX0_mostPairsOf : List (Nat × Instr × Nat) := [(0, .aload_n 0, 1), (1, .lload_n 1, 1), (2, .invokestatic 122, 3), (5, .lstore 4, 2), (7, .lload 4, 2), (9, .lconst 0, 1), (10, .lcmp, 1), (11, .ifCond .eq 9, 3), (14, .iload_n 3, 1), (15, .bipush 14, 2), (17, .if_icmp .le 5, 3), (20, .iconst 0, 1), (21, .ireturn, 1), (22, .aload_n 0, 1), (23, .lload 4, 2), (25, .invokestatic 126, 3), (28, .istore 6, 2), (30, .lload 4, 2), (32, .invokestatic 62, 3), (35, .iconst 2, 1), (36, .idiv, 1), (37, .istore 7, 2), (39, .iconst 0, 1), (40, .istore 8, 2), (42, .aload_n 0, 1), (43, .iload 6, 2), (45, .laload, 1), (46, .lload 4, 2), (48, .land, 1), (49, .lstore 9, 2), (51, .lload 9, 2), (53, .lconst 0, 1), (54, .lcmp, 1), (55, .ifCond .eq 67, 3), (58, .iload 8, 2), (60, .iload 7, 2), (62, .if_icmp .ge 60, 3), (65, .lload 4, 2), (67, .iload 6, 2), (69, .invokestatic 85, 3), (72, .ldc2_w 92, 3), (75, .lxor, 1), (76, .land, 1), (77, .lload 9, 2), (79, .invokestatic 75, 3), (82, .invokestatic 85, 3), (85, .ldc2_w 92, 3), (88, .lxor, 1), (89, .land, 1), (90, .lstore 11, 2), (92, .iload 8, 2), (94, .iconst 1, 1), (95, .aload_n 0, 1), (96, .lload 11, 2), (98, .iload_n 3, 1), (99, .iconst 1, 1), (100, .iadd, 1), (101, .invokestatic 68, 3), (104, .iadd, 1), (105, .invokestatic 130, 3), (108, .istore 8, 2), (110, .lload 9, 2), (112, .lload 9, 2), (114, .lconst 1, 1), (115, .lsub, 1), (116, .land, 1), (117, .lstore 9, 2), (119, .goto (-68), 3), (122, .iload 8, 2), (124, .ireturn, 1)]
set_option maxRecDepth 100000 in
theorem iX0_mostPairsOf_ok : iX0_mostPairsOf.all (fun q => decide (decode cX0_mostPairsOf q.1 = .ok (q.2.1, q.2.2))) = true := by decide +kernel
def iX0_withMates : List (Nat × Instr × Nat) := [(0, .lconst 0, 1), (1, .lstore_n 3, 1), (2, .lload_n 1, 1), (3, .lstore 5, 2), (5, .lload 5, 2), (7, .lconst 0, 1), (8, .lcmp, 1), (9, .ifCond .eq 41, 3), (12, .lload 5, 2), (14, .invokestatic 75, 3), (17, .istore 7, 2), (19, .aload_n 0, 1), (20, .iload 7, 2), (22, .laload, 1), (23, .lload_n 1, 1), (24, .land, 1), (25, .lconst 0, 1), (26, .lcmp, 1), (27, .ifCond .eq 11, 3), (30, .lload_n 3, 1), (31, .iload 7, 2), (33, .invokestatic 85, 3), (36, .lor, 1), (37, .lstore_n 3, 1), (38, .lload 5, 2), (40, .lload 5, 2), (42, .lconst 1, 1), (43, .lsub, 1), (44, .land, 1), (45, .lstore 5, 2), (47, .goto (-42), 3), (50, .lload_n 3, 1), (51, .lreturn, 1)]
set_option maxRecDepth 100000 in
theorem iX0_withMates_ok : iX0_withMates.all (fun q => decide (decode cX0_withMates q.1 = .ok (q.2.1, q.2.2))) = true := by decide +kernel
def iX0_withFewestMates : List (Nat × Instr × Nat) := [(0, .lload_n 1, 1), (1, .invokestatic 75, 3), (4, .istore_n 3, 1), (5, .lload_n 1, 1), (6, .lstore 4, 2), (8, .lload 4, 2), (10, .lconst 0, 1), (11, .lcmp, 1), (12, .ifCond .eq 45, 3), (15, .lload 4, 2), (17, .invokestatic 75, 3), (20, .istore 6, 2), (22, .aload_n 0, 1), (23, .iload 6, 2), (25, .laload, 1), (26, .lload_n 1, 1), (27, .land, 1), (28, .invokestatic 62, 3), (31, .aload_n 0, 1), (32, .iload_n 3, 1), (33, .laload, 1), (34, .lload_n 1, 1), (35, .land, 1), (36, .invokestatic 62, 3), (39, .if_icmp .ge 6, 3), (42, .iload 6, 2), (44, .istore_n 3, 1), (45, .lload 4, 2), (47, .lload 4, 2), (49, .lconst 1, 1), (50, .lsub, 1), (51, .land, 1), (52, .lstore 4, 2), (54, .goto (-46), 3), (57, .iload_n 3, 1), (58, .ireturn, 1)]
set_option maxRecDepth 100000 in
theorem iX0_withFewestMates_ok : iX0_withFewestMates.all (fun q => decide (decode cX0_withFewestMates q.1 = .ok (q.2.1, q.2.2))) = true := by decide +kernel
def iX1_isLimit : List (Nat × Instr × Nat) := [(0, .iload_n 0, 1), (1, .iconst 1, 1), (2, .if_icmp .lt 25, 3), (5, .iload_n 0, 1), (6, .bipush 8, 2), (8, .if_icmp .gt 19, 3), (11, .iload_n 1, 1), (12, .bipush 6, 2), (14, .if_icmp .lt 13, 3), (17, .iload_n 1, 1), (18, .bipush 16, 2), (20, .if_icmp .gt 7, 3), (23, .iconst 1, 1), (24, .goto 4, 3), (27, .iconst 0, 1), (28, .ireturn, 1)]
set_option maxRecDepth 100000 in
theorem iX1_isLimit_ok : iX1_isLimit.all (fun q => decide (decode cX1_isLimit q.1 = .ok (q.2.1, q.2.2))) = true := by decide +kernel
def iX1_forget : List (Nat × Instr × Nat) := [(0, .aload_n 0, 1), (1, .iconst 0, 1), (2, .putfield 19, 3), (5, .aload_n 0, 1), (6, .iconst 0, 1), (7, .putfield 23, 3), (10, .return_, 1)]
set_option maxRecDepth 100000 in
theorem iX1_forget_ok : iX1_forget.all (fun q => decide (decode cX1_forget q.1 = .ok (q.2.1, q.2.2))) = true := by decide +kernel
def iX1_fill : List (Nat × Instr × Nat) := [(0, .iload_n 1, 1), (1, .aload_n 0, 1), (2, .getfield 19, 3), (5, .if_icmp .ne 12, 3), (8, .iload_n 2, 1), (9, .aload_n 0, 1), (10, .getfield 23, 3), (13, .if_icmp .ne 4, 3), (16, .return_, 1), (17, .aload_n 0, 1), (18, .iload_n 1, 1), (19, .putfield 19, 3), (22, .aload_n 0, 1), (23, .iload_n 2, 1), (24, .putfield 23, 3), (27, .aload_n 0, 1), (28, .aload_n 0, 1), (29, .getfield 15, 3), (32, .getfield 26, 3), (35, .invokestatic 31, 3), (38, .lconst 1, 1), (39, .lsub, 1), (40, .putfield 35, 3), (43, .aload_n 0, 1), (44, .iconst 0, 1), (45, .putfield 39, 3), (48, .iconst 0, 1), (49, .istore_n 3, 1), (50, .iload_n 3, 1), (51, .bipush 40, 2), (53, .if_icmp .ge 87, 3), (56, .aload_n 0, 1), (57, .getfield 35, 3), (60, .lconst 0, 1), (61, .lcmp, 1), (62, .ifCond .eq 78, 3), (65, .aload_n 0, 1), (66, .lconst 0, 1), (67, .putfield 40, 3), (70, .aload_n 0, 1), (71, .lconst 0, 1), (72, .putfield 43, 3), (75, .aload_n 0, 1), (76, .aload_n 0, 1), (77, .invokevirtual 46, 3), (80, .invokevirtual 50, 3), (83, .aload_n 0, 1), (84, .iload_n 2, 1), (85, .invokevirtual 54, 3), (88, .istore 4, 2), (90, .iconst 1, 1), (91, .istore 5, 2), (93, .iload 5, 2), (95, .iload_n 1, 1), (96, .if_icmp .ge 28, 3), (99, .iload 4, 2), (101, .iconst (-1), 1), (102, .if_icmp .eq 22, 3), (105, .aload_n 0, 1), (106, .iload 4, 2), (108, .invokevirtual 50, 3), (111, .aload_n 0, 1), (112, .iload_n 2, 1), (113, .invokevirtual 54, 3), (116, .istore 4, 2), (118, .iinc 5 1, 3), (121, .goto (-28), 3), (124, .aload_n 0, 1), (125, .dup, 1), (126, .getfield 39, 3), (129, .iconst 1, 1), (130, .iadd, 1), (131, .putfield 39, 3), (134, .iinc 3 1, 3), (137, .goto (-87), 3), (140, .return_, 1)]
set_option maxRecDepth 100000 in
theorem iX1_fill_ok : iX1_fill.all (fun q => decide (decode cX1_fill q.1 = .ok (q.2.1, q.2.2))) = true := by decide +kernel
def iX1_countCrossing : List (Nat × Instr × Nat) := [(0, .lconst 0, 1), (1, .lstore_n 1, 1), (2, .iconst 0, 1), (3, .istore_n 3, 1), (4, .iload_n 3, 1), (5, .aload_n 0, 1), (6, .getfield 15, 3), (9, .getfield 26, 3), (12, .if_icmp .ge 68, 3), (15, .iconst 0, 1), (16, .istore 4, 2), (18, .iload 4, 2), (20, .aload_n 0, 1), (21, .getfield 15, 3), (24, .getfield 26, 3), (27, .if_icmp .ge 47, 3), (30, .aload_n 0, 1), (31, .getfield 9, 3), (34, .iload_n 3, 1), (35, .iaload, 1), (36, .aload_n 0, 1), (37, .getfield 9, 3), (40, .iload 4, 2), (42, .iaload, 1), (43, .if_icmp .eq 25, 3), (46, .lload_n 1, 1), (47, .aload_n 0, 1), (48, .getfield 15, 3), (51, .iload_n 3, 1), (52, .invokevirtual 58, 3), (55, .aload_n 0, 1), (56, .getfield 15, 3), (59, .getfield 60, 3), (62, .iload 4, 2), (64, .laload, 1), (65, .land, 1), (66, .lor, 1), (67, .lstore_n 1, 1), (68, .iinc 4 1, 3), (71, .goto (-53), 3), (74, .iinc 3 1, 3), (77, .goto (-73), 3), (80, .lload_n 1, 1), (81, .invokestatic 63, 3), (84, .ireturn, 1)]
set_option maxRecDepth 100000 in
theorem iX1_countCrossing_ok : iX1_countCrossing.all (fun q => decide (decode cX1_countCrossing q.1 = .ok (q.2.1, q.2.2))) = true := by decide +kernel
def iX1_take : List (Nat × Instr × Nat) := [(0, .aload_n 0, 1), (1, .getfield 9, 3), (4, .iload_n 1, 1), (5, .aload_n 0, 1), (6, .getfield 39, 3), (9, .iastore, 1), (10, .aload_n 0, 1), (11, .dup, 1), (12, .getfield 40, 3), (15, .aload_n 0, 1), (16, .getfield 15, 3), (19, .getfield 60, 3), (22, .iload_n 1, 1), (23, .laload, 1), (24, .lor, 1), (25, .putfield 40, 3), (28, .aload_n 0, 1), (29, .dup, 1), (30, .getfield 43, 3), (33, .aload_n 0, 1), (34, .getfield 15, 3), (37, .iload_n 1, 1), (38, .invokevirtual 58, 3), (41, .lor, 1), (42, .putfield 43, 3), (45, .aload_n 0, 1), (46, .dup, 1), (47, .getfield 35, 3), (50, .iload_n 1, 1), (51, .invokestatic 31, 3), (54, .ldc2_w 69, 3), (57, .lxor, 1), (58, .land, 1), (59, .putfield 35, 3), (62, .return_, 1)]
set_option maxRecDepth 100000 in
theorem iX1_take_ok : iX1_take.all (fun q => decide (decode cX1_take q.1 = .ok (q.2.1, q.2.2))) = true := by decide +kernel
def iX1_withMostNetsIn : List (Nat × Instr × Nat) := [(0, .aload_n 0, 1), (1, .getfield 35, 3), (4, .invokestatic 71, 3), (7, .istore_n 1, 1), (8, .aload_n 0, 1), (9, .getfield 35, 3), (12, .lstore_n 2, 1), (13, .lload_n 2, 1), (14, .lconst 0, 1), (15, .lcmp, 1), (16, .ifCond .eq 49, 3), (19, .lload_n 2, 1), (20, .invokestatic 71, 3), (23, .istore 4, 2), (25, .aload_n 0, 1), (26, .getfield 15, 3), (29, .getfield 60, 3), (32, .iload 4, 2), (34, .laload, 1), (35, .invokestatic 63, 3), (38, .aload_n 0, 1), (39, .getfield 15, 3), (42, .getfield 60, 3), (45, .iload_n 1, 1), (46, .laload, 1), (47, .invokestatic 63, 3), (50, .if_icmp .le 6, 3), (53, .iload 4, 2), (55, .istore_n 1, 1), (56, .lload_n 2, 1), (57, .lload_n 2, 1), (58, .lconst 1, 1), (59, .lsub, 1), (60, .land, 1), (61, .lstore_n 2, 1), (62, .goto (-49), 3), (65, .iload_n 1, 1), (66, .ireturn, 1)]
set_option maxRecDepth 100000 in
theorem iX1_withMostNetsIn_ok : iX1_withMostNetsIn.all (fun q => decide (decode cX1_withMostNetsIn q.1 = .ok (q.2.1, q.2.2))) = true := by decide +kernel
def iX1_bestToCome : List (Nat × Instr × Nat) := [(0, .iconst (-1), 1), (1, .istore_n 2, 1), (2, .iconst (-1), 1), (3, .istore_n 3, 1), (4, .aload_n 0, 1), (5, .getfield 35, 3), (8, .lstore 4, 2), (10, .lload 4, 2), (12, .lconst 0, 1), (13, .lcmp, 1), (14, .ifCond .eq 107, 3), (17, .lload 4, 2), (19, .invokestatic 71, 3), (22, .istore 6, 2), (24, .aload_n 0, 1), (25, .getfield 15, 3), (28, .getfield 60, 3), (31, .iload 6, 2), (33, .laload, 1), (34, .lstore 7, 2), (36, .aload_n 0, 1), (37, .getfield 15, 3), (40, .iload 6, 2), (42, .invokevirtual 58, 3), (45, .lstore 9, 2), (47, .lload 7, 2), (49, .lload 9, 2), (51, .lor, 1), (52, .aload_n 0, 1), (53, .getfield 40, 3), (56, .aload_n 0, 1), (57, .getfield 43, 3), (60, .lor, 1), (61, .land, 1), (62, .invokestatic 63, 3), (65, .istore 11, 2), (67, .aload_n 0, 1), (68, .getfield 40, 3), (71, .lload 7, 2), (73, .lor, 1), (74, .aload_n 0, 1), (75, .getfield 43, 3), (78, .lload 9, 2), (80, .lor, 1), (81, .ldc2_w 69, 3), (84, .lxor, 1), (85, .land, 1), (86, .invokestatic 63, 3), (89, .istore 12, 2), (91, .iload 11, 2), (93, .iload_n 3, 1), (94, .if_icmp .le 15, 3), (97, .iload 12, 2), (99, .iload_n 1, 1), (100, .if_icmp .gt 9, 3), (103, .iload 6, 2), (105, .istore_n 2, 1), (106, .iload 11, 2), (108, .istore_n 3, 1), (109, .lload 4, 2), (111, .lload 4, 2), (113, .lconst 1, 1), (114, .lsub, 1), (115, .land, 1), (116, .lstore 4, 2), (118, .goto (-108), 3), (121, .iload_n 2, 1), (122, .ireturn, 1)]
set_option maxRecDepth 100000 in
theorem iX1_bestToCome_ok : iX1_bestToCome.all (fun q => decide (decode cX1_bestToCome q.1 = .ok (q.2.1, q.2.2))) = true := by decide +kernel
def iX2_forget : List (Nat × Instr × Nat) := [(0, .aload_n 0, 1), (1, .lconst 0, 1), (2, .putfield 26, 3), (5, .return_, 1)]
set_option maxRecDepth 100000 in
theorem iX2_forget_ok : iX2_forget.all (fun q => decide (decode cX2_forget q.1 = .ok (q.2.1, q.2.2))) = true := by decide +kernel
def iX2_bitsOf : List (Nat × Instr × Nat) := [(0, .aload_n 0, 1), (1, .getfield 26, 3), (4, .iload_n 1, 1), (5, .invokestatic 30, 3), (8, .ifCond .ne 27, 3), (11, .aload_n 0, 1), (12, .getfield 9, 3), (15, .iload_n 1, 1), (16, .aload_n 0, 1), (17, .iload_n 1, 1), (18, .invokevirtual 34, 3), (21, .lastore, 1), (22, .aload_n 0, 1), (23, .dup, 1), (24, .getfield 26, 3), (27, .iload_n 1, 1), (28, .invokestatic 38, 3), (31, .lor, 1), (32, .putfield 26, 3), (35, .aload_n 0, 1), (36, .getfield 9, 3), (39, .iload_n 1, 1), (40, .laload, 1), (41, .lreturn, 1)]
set_option maxRecDepth 100000 in
theorem iX2_bitsOf_ok : iX2_bitsOf.all (fun q => decide (decode cX2_bitsOf q.1 = .ok (q.2.1, q.2.2))) = true := by decide +kernel
def iX2_caresOf : List (Nat × Instr × Nat) := [(0, .aload_n 0, 1), (1, .iload_n 1, 1), (2, .invokevirtual 41, 3), (5, .lstore_n 2, 1), (6, .aload_n 0, 1), (7, .getfield 22, 3), (10, .getfield 44, 3), (13, .iload_n 1, 1), (14, .laload, 1), (15, .invokestatic 49, 3), (18, .istore 4, 2), (20, .iconst 0, 1), (21, .istore 5, 2), (23, .iconst 0, 1), (24, .istore 6, 2), (26, .iload 6, 2), (28, .iload 4, 2), (30, .if_icmp .ge 64, 3), (33, .iload 6, 2), (35, .getstatic 55, 3), (38, .arraylength, 1), (39, .if_icmp .ge 55, 3), (42, .lload_n 2, 1), (43, .getstatic 55, 3), (46, .iload 6, 2), (48, .laload, 1), (49, .land, 1), (50, .iconst 1, 1), (51, .iload 6, 2), (53, .ishl, 1), (54, .lushr, 1), (55, .lstore 7, 2), (57, .lload_n 2, 1), (58, .getstatic 55, 3), (61, .iload 6, 2), (63, .laload, 1), (64, .ldc2_w 58, 3), (67, .lxor, 1), (68, .land, 1), (69, .lstore 9, 2), (71, .lload 7, 2), (73, .lload 9, 2), (75, .lcmp, 1), (76, .ifCond .eq 12, 3), (79, .iload 5, 2), (81, .iconst 1, 1), (82, .iload 6, 2), (84, .ishl, 1), (85, .ior, 1), (86, .istore 5, 2), (88, .iinc 6 1, 3), (91, .goto (-65), 3), (94, .iload 5, 2), (96, .ireturn, 1)]
set_option maxRecDepth 100000 in
theorem iX2_caresOf_ok : iX2_caresOf.all (fun q => decide (decode cX2_caresOf q.1 = .ok (q.2.1, q.2.2))) = true := by decide +kernel
def iX2_nodesByTables : List (Nat × Instr × Nat) := [(0, .lconst 0, 1), (1, .lstore 4, 2), (3, .iconst 0, 1), (4, .istore 6, 2), (6, .iload 6, 2), (8, .iload_n 3, 1), (9, .if_icmp .gt 84, 3), (12, .aload_n 0, 1), (13, .getfield 18, 3), (16, .getfield 60, 3), (19, .iload 6, 2), (21, .invokestatic 30, 3), (24, .ifCond .eq 40, 3), (27, .aload_n 0, 1), (28, .iload 6, 2), (30, .invokevirtual 41, 3), (33, .aload_n 0, 1), (34, .getfield 22, 3), (37, .getfield 44, 3), (40, .iload 6, 2), (42, .laload, 1), (43, .lload 4, 2), (45, .invokestatic 65, 3), (48, .lushr, 1), (49, .lconst 1, 1), (50, .land, 1), (51, .lconst 0, 1), (52, .lcmp, 1), (53, .ifCond .eq 7, 3), (56, .iconst 1, 1), (57, .goto 13, 3), (60, .iconst 0, 1), (61, .goto 9, 3), (64, .lload_n 1, 1), (65, .iload 6, 2), (67, .invokestatic 30, 3), (70, .istore 7, 2), (72, .iload 7, 2), (74, .ifCond .eq 13, 3), (77, .lload 4, 2), (79, .iload 6, 2), (81, .invokestatic 38, 3), (84, .lor, 1), (85, .lstore 4, 2), (87, .iinc 6 1, 3), (90, .goto (-84), 3), (93, .lload 4, 2), (95, .lreturn, 1)]
set_option maxRecDepth 100000 in
theorem iX2_nodesByTables_ok : iX2_nodesByTables.all (fun q => decide (decode cX2_nodesByTables q.1 = .ok (q.2.1, q.2.2))) = true := by decide +kernel
def iX2_told : List (Nat × Instr × Nat) := [(0, .iconst 0, 1), (1, .istore 4, 2), (3, .iconst 0, 1), (4, .istore 5, 2), (6, .lload_n 0, 1), (7, .lstore 6, 2), (9, .lload 6, 2), (11, .lconst 0, 1), (12, .lcmp, 1), (13, .ifCond .eq 39, 3), (16, .lload_n 2, 1), (17, .lload 6, 2), (19, .invokestatic 69, 3), (22, .invokestatic 30, 3), (25, .ifCond .eq 12, 3), (28, .iload 4, 2), (30, .iconst 1, 1), (31, .iload 5, 2), (33, .ishl, 1), (34, .ior, 1), (35, .istore 4, 2), (37, .iinc 5 1, 3), (40, .lload 6, 2), (42, .lload 6, 2), (44, .lconst 1, 1), (45, .lsub, 1), (46, .land, 1), (47, .lstore 6, 2), (49, .goto (-40), 3), (52, .iload 4, 2), (54, .ireturn, 1)]
set_option maxRecDepth 100000 in
theorem iX2_told_ok : iX2_told.all (fun q => decide (decode cX2_told q.1 = .ok (q.2.1, q.2.2))) = true := by decide +kernel
def iX2_findBits : List (Nat × Instr × Nat) := [(0, .aload_n 0, 1), (1, .getfield 22, 3), (4, .getfield 44, 3), (7, .iload_n 1, 1), (8, .laload, 1), (9, .lstore_n 2, 1), (10, .iconst 0, 1), (11, .istore 4, 2), (13, .lload_n 2, 1), (14, .lstore 5, 2), (16, .lload 5, 2), (18, .lconst 0, 1), (19, .lcmp, 1), (20, .ifCond .eq 43, 3), (23, .iload 4, 2), (25, .getstatic 55, 3), (28, .arraylength, 1), (29, .if_icmp .ge 34, 3), (32, .aload_n 0, 1), (33, .getfield 15, 3), (36, .lload 5, 2), (38, .invokestatic 69, 3), (41, .getstatic 55, 3), (44, .iload 4, 2), (46, .laload, 1), (47, .lastore, 1), (48, .iinc 4 1, 3), (51, .lload 5, 2), (53, .lload 5, 2), (55, .lconst 1, 1), (56, .lsub, 1), (57, .land, 1), (58, .lstore 5, 2), (60, .goto (-44), 3), (63, .aload_n 0, 1), (64, .getfield 18, 3), (67, .iload_n 1, 1), (68, .lload_n 2, 1), (69, .invokevirtual 72, 3), (72, .aload_n 0, 1), (73, .getfield 18, 3), (76, .getfield 60, 3), (79, .land, 1), (80, .lstore 5, 2), (82, .lload 5, 2), (84, .lconst 0, 1), (85, .lcmp, 1), (86, .ifCond .eq 42, 3), (89, .lload 5, 2), (91, .invokestatic 69, 3), (94, .istore 7, 2), (96, .aload_n 0, 1), (97, .getfield 15, 3), (100, .iload 7, 2), (102, .aload_n 0, 1), (103, .getfield 18, 3), (106, .iload 7, 2), (108, .aload_n 0, 1), (109, .getfield 15, 3), (112, .invokevirtual 76, 3), (115, .lastore, 1), (116, .lload 5, 2), (118, .lload 5, 2), (120, .lconst 1, 1), (121, .lsub, 1), (122, .land, 1), (123, .lstore 5, 2), (125, .goto (-43), 3), (128, .iload 4, 2), (130, .getstatic 55, 3), (133, .arraylength, 1), (134, .if_icmp .ne 12, 3), (137, .aload_n 0, 1), (138, .getfield 15, 3), (141, .iload_n 1, 1), (142, .laload, 1), (143, .goto 18, 3), (146, .aload_n 0, 1), (147, .getfield 15, 3), (150, .iload_n 1, 1), (151, .laload, 1), (152, .lconst 1, 1), (153, .iconst 1, 1), (154, .iload 4, 2), (156, .ishl, 1), (157, .lshl, 1), (158, .lconst 1, 1), (159, .lsub, 1), (160, .land, 1), (161, .lreturn, 1)]
set_option maxRecDepth 100000 in
theorem iX2_findBits_ok : iX2_findBits.all (fun q => decide (decode cX2_findBits q.1 = .ok (q.2.1, q.2.2))) = true := by decide +kernel
def iX3_takeNearCuts : List (Nat × Instr × Nat) := [(0, .aload_n 0, 1), (1, .getfield 22, 3), (4, .getfield 26, 3), (7, .lstore_n 2, 1), (8, .lload_n 2, 1), (9, .lconst 0, 1), (10, .lcmp, 1), (11, .ifCond .eq 50, 3), (14, .lload_n 2, 1), (15, .invokestatic 32, 3), (18, .istore 4, 2), (20, .aload_n 0, 1), (21, .getfield 15, 3), (24, .iload 4, 2), (26, .aload_n 1, 1), (27, .getfield 36, 3), (30, .iload 4, 2), (32, .laload, 1), (33, .lastore, 1), (34, .aload_n 0, 1), (35, .getfield 19, 3), (38, .iload 4, 2), (40, .aload_n 0, 1), (41, .aload_n 0, 1), (42, .getfield 15, 3), (45, .iload 4, 2), (47, .laload, 1), (48, .invokevirtual 41, 3), (51, .iastore, 1), (52, .lload_n 2, 1), (53, .lload_n 2, 1), (54, .lconst 1, 1), (55, .lsub, 1), (56, .land, 1), (57, .lstore_n 2, 1), (58, .goto (-50), 3), (61, .aload_n 0, 1), (62, .aload_n 0, 1), (63, .aload_n 0, 1), (64, .getfield 22, 3), (67, .invokevirtual 44, 3), (70, .aload_n 0, 1), (71, .getfield 22, 3), (74, .getfield 26, 3), (77, .land, 1), (78, .aload_n 0, 1), (79, .getfield 22, 3), (82, .getfield 48, 3), (85, .iconst 1, 1), (86, .isub, 1), (87, .iconst 0, 1), (88, .invokevirtual 52, 3), (91, .putfield 56, 3), (94, .return_, 1)]
set_option maxRecDepth 100000 in
theorem iX3_takeNearCuts_ok : iX3_takeNearCuts.all (fun q => decide (decode cX3_takeNearCuts q.1 = .ok (q.2.1, q.2.2))) = true := by decide +kernel
def iX3_chooseAgain : List (Nat × Instr × Nat) := [(0, .aload_n 0, 1), (1, .getfield 56, 3), (4, .invokestatic 59, 3), (7, .istore_n 3, 1), (8, .aload_n 0, 1), (9, .getfield 22, 3), (12, .invokevirtual 44, 3), (15, .lstore 4, 2), (17, .aload_n 0, 1), (18, .lload 4, 2), (20, .aload_n 1, 1), (21, .lload 4, 2), (23, .invokevirtual 64, 3), (26, .iload_n 2, 1), (27, .iadd, 1), (28, .invokevirtual 67, 3), (31, .aload_n 0, 1), (32, .getfield 22, 3), (35, .getfield 26, 3), (38, .lstore 6, 2), (40, .lload 6, 2), (42, .lconst 0, 1), (43, .lcmp, 1), (44, .ifCond .eq 116, 3), (47, .lload 6, 2), (49, .invokestatic 32, 3), (52, .istore 8, 2), (54, .aload_n 0, 1), (55, .getfield 56, 3), (58, .iload 8, 2), (60, .invokestatic 71, 3), (63, .ifCond .eq 67, 3), (66, .aload_n 0, 1), (67, .lload 4, 2), (69, .aload_n 0, 1), (70, .getfield 22, 3), (73, .getfield 26, 3), (76, .land, 1), (77, .aload_n 0, 1), (78, .getfield 22, 3), (81, .getfield 48, 3), (84, .iconst 1, 1), (85, .isub, 1), (86, .iload 8, 2), (88, .iconst 1, 1), (89, .iadd, 1), (90, .invokevirtual 52, 3), (93, .lstore 9, 2), (95, .aload_n 0, 1), (96, .getfield 15, 3), (99, .iload 8, 2), (101, .aload_n 0, 1), (102, .aload_n 1, 1), (103, .iload 8, 2), (105, .lload 9, 2), (107, .invokevirtual 75, 3), (110, .lastore, 1), (111, .aload_n 0, 1), (112, .aload_n 0, 1), (113, .aload_n 0, 1), (114, .getfield 15, 3), (117, .iload 8, 2), (119, .laload, 1), (120, .lload 9, 2), (122, .iload 8, 2), (124, .invokevirtual 79, 3), (127, .putfield 56, 3), (130, .aload_n 0, 1), (131, .getfield 19, 3), (134, .iload 8, 2), (136, .aload_n 0, 1), (137, .aload_n 0, 1), (138, .getfield 15, 3), (141, .iload 8, 2), (143, .laload, 1), (144, .invokevirtual 41, 3), (147, .iastore, 1), (148, .lload 6, 2), (150, .lload 6, 2), (152, .lconst 1, 1), (153, .lsub, 1), (154, .land, 1), (155, .lstore 6, 2), (157, .goto (-117), 3), (160, .iload_n 3, 1), (161, .aload_n 0, 1), (162, .getfield 56, 3), (165, .invokestatic 59, 3), (168, .isub, 1), (169, .ireturn, 1)]
set_option maxRecDepth 100000 in
theorem iX3_chooseAgain_ok : iX3_chooseAgain.all (fun q => decide (decode cX3_chooseAgain q.1 = .ok (q.2.1, q.2.2))) = true := by decide +kernel
def iX3_greatestArrival : List (Nat × Instr × Nat) := [(0, .iconst 0, 1), (1, .istore_n 3, 1), (2, .lload_n 1, 1), (3, .lstore 4, 2), (5, .lload 4, 2), (7, .lconst 0, 1), (8, .lcmp, 1), (9, .ifCond .eq 30, 3), (12, .iload_n 3, 1), (13, .aload_n 0, 1), (14, .getfield 19, 3), (17, .lload 4, 2), (19, .invokestatic 32, 3), (22, .iaload, 1), (23, .invokestatic 83, 3), (26, .istore_n 3, 1), (27, .lload 4, 2), (29, .lload 4, 2), (31, .lconst 1, 1), (32, .lsub, 1), (33, .land, 1), (34, .lstore 4, 2), (36, .goto (-31), 3), (39, .iload_n 3, 1), (40, .ireturn, 1)]
set_option maxRecDepth 100000 in
theorem iX3_greatestArrival_ok : iX3_greatestArrival.all (fun q => decide (decode cX3_greatestArrival q.1 = .ok (q.2.1, q.2.2))) = true := by decide +kernel
def iX3_usesOf : List (Nat × Instr × Nat) := [(0, .iconst 0, 1), (1, .istore_n 2, 1), (2, .aload_n 0, 1), (3, .getfield 56, 3), (6, .lstore_n 3, 1), (7, .lload_n 3, 1), (8, .lconst 0, 1), (9, .lcmp, 1), (10, .ifCond .eq 31, 3), (13, .aload_n 0, 1), (14, .getfield 15, 3), (17, .lload_n 3, 1), (18, .invokestatic 32, 3), (21, .laload, 1), (22, .iload_n 1, 1), (23, .invokestatic 71, 3), (26, .ifCond .eq 6, 3), (29, .iinc 2 1, 3), (32, .lload_n 3, 1), (33, .lload_n 3, 1), (34, .lconst 1, 1), (35, .lsub, 1), (36, .land, 1), (37, .lstore_n 3, 1), (38, .goto (-31), 3), (41, .iload_n 2, 1), (42, .ireturn, 1)]
set_option maxRecDepth 100000 in
theorem iX3_usesOf_ok : iX3_usesOf.all (fun q => decide (decode cX3_usesOf q.1 = .ok (q.2.1, q.2.2))) = true := by decide +kernel
def iX3_onSlowWay : List (Nat × Instr × Nat) := [(0, .aload_n 0, 1), (1, .getfield 22, 3), (4, .invokevirtual 44, 3), (7, .lstore_n 2, 1), (8, .iconst (-1), 1), (9, .istore 4, 2), (11, .iconst 0, 1), (12, .istore 5, 2), (14, .iload 5, 2), (16, .iload_n 1, 1), (17, .if_icmp .gt 51, 3), (20, .lload_n 2, 1), (21, .lconst 0, 1), (22, .lcmp, 1), (23, .ifCond .ne 5, 3), (26, .iconst (-1), 1), (27, .ireturn, 1), (28, .aload_n 0, 1), (29, .lload_n 2, 1), (30, .invokevirtual 89, 3), (33, .istore 4, 2), (35, .aload_n 0, 1), (36, .getfield 22, 3), (39, .getfield 26, 3), (42, .iload 4, 2), (44, .invokestatic 71, 3), (47, .ifCond .eq 13, 3), (50, .aload_n 0, 1), (51, .getfield 15, 3), (54, .iload 4, 2), (56, .laload, 1), (57, .goto 4, 3), (60, .lconst 0, 1), (61, .lstore_n 2, 1), (62, .iinc 5 1, 3), (65, .goto (-51), 3), (68, .iload 4, 2), (70, .ireturn, 1)]
set_option maxRecDepth 100000 in
theorem iX3_onSlowWay_ok : iX3_onSlowWay.all (fun q => decide (decode cX3_onSlowWay q.1 = .ok (q.2.1, q.2.2))) = true := by decide +kernel
def iX3_latestOf : List (Nat × Instr × Nat) := [(0, .lload_n 1, 1), (1, .invokestatic 32, 3), (4, .istore_n 3, 1), (5, .lload_n 1, 1), (6, .lstore 4, 2), (8, .lload 4, 2), (10, .lconst 0, 1), (11, .lcmp, 1), (12, .ifCond .eq 41, 3), (15, .lload 4, 2), (17, .invokestatic 32, 3), (20, .istore 6, 2), (22, .aload_n 0, 1), (23, .getfield 19, 3), (26, .iload 6, 2), (28, .iaload, 1), (29, .aload_n 0, 1), (30, .getfield 19, 3), (33, .iload_n 3, 1), (34, .iaload, 1), (35, .if_icmp .le 6, 3), (38, .iload 6, 2), (40, .istore_n 3, 1), (41, .lload 4, 2), (43, .lload 4, 2), (45, .lconst 1, 1), (46, .lsub, 1), (47, .land, 1), (48, .lstore 4, 2), (50, .goto (-42), 3), (53, .iload_n 3, 1), (54, .ireturn, 1)]
set_option maxRecDepth 100000 in
theorem iX3_latestOf_ok : iX3_latestOf.all (fun q => decide (decode cX3_latestOf q.1 = .ok (q.2.1, q.2.2))) = true := by decide +kernel
def iX3_arrivalBy : List (Nat × Instr × Nat) := [(0, .iconst 1, 1), (1, .aload_n 0, 1), (2, .lload_n 1, 1), (3, .invokevirtual 92, 3), (6, .iadd, 1), (7, .ireturn, 1)]
set_option maxRecDepth 100000 in
theorem iX3_arrivalBy_ok : iX3_arrivalBy.all (fun q => decide (decode cX3_arrivalBy q.1 = .ok (q.2.1, q.2.2))) = true := by decide +kernel
def iX3_withChosen : List (Nat × Instr × Nat) := [(0, .lload_n 1, 1), (1, .lstore 5, 2), (3, .iload_n 3, 1), (4, .istore 7, 2), (6, .iload 7, 2), (8, .iload 4, 2), (10, .if_icmp .lt 39, 3), (13, .lload 5, 2), (15, .iload 7, 2), (17, .invokestatic 71, 3), (20, .ifCond .eq 23, 3), (23, .lload 5, 2), (25, .aload_n 0, 1), (26, .getfield 15, 3), (29, .iload 7, 2), (31, .laload, 1), (32, .aload_n 0, 1), (33, .getfield 22, 3), (36, .getfield 26, 3), (39, .land, 1), (40, .lor, 1), (41, .lstore 5, 2), (43, .iinc 7 (-1), 3), (46, .goto (-40), 3), (49, .lload 5, 2), (51, .lreturn, 1)]
set_option maxRecDepth 100000 in
theorem iX3_withChosen_ok : iX3_withChosen.all (fun q => decide (decode cX3_withChosen q.1 = .ok (q.2.1, q.2.2))) = true := by decide +kernel
def iX3_tablesWith : List (Nat × Instr × Nat) := [(0, .aload_n 0, 1), (1, .lload_n 3, 1), (2, .lload_n 1, 1), (3, .aload_n 0, 1), (4, .getfield 22, 3), (7, .getfield 26, 3), (10, .land, 1), (11, .lor, 1), (12, .iload 5, 2), (14, .iconst 1, 1), (15, .isub, 1), (16, .iconst 0, 1), (17, .invokevirtual 52, 3), (20, .lreturn, 1)]
set_option maxRecDepth 100000 in
theorem iX3_tablesWith_ok : iX3_tablesWith.all (fun q => decide (decode cX3_tablesWith q.1 = .ok (q.2.1, q.2.2))) = true := by decide +kernel
def iX3_findDue : List (Nat × Instr × Nat) := [(0, .iconst 0, 1), (1, .istore 4, 2), (3, .iload 4, 2), (5, .aload_n 0, 1), (6, .getfield 22, 3), (9, .getfield 48, 3), (12, .if_icmp .ge 32, 3), (15, .aload_n 0, 1), (16, .getfield 9, 3), (19, .iload 4, 2), (21, .lload_n 1, 1), (22, .iload 4, 2), (24, .invokestatic 71, 3), (27, .ifCond .eq 7, 3), (30, .iload_n 3, 1), (31, .goto 6, 3), (34, .sipush 1000, 3), (37, .iastore, 1), (38, .iinc 4 1, 3), (41, .goto (-38), 3), (44, .aload_n 0, 1), (45, .getfield 22, 3), (48, .getfield 48, 3), (51, .iconst 1, 1), (52, .isub, 1), (53, .istore 4, 2), (55, .iload 4, 2), (57, .ifCond .lt 82, 3), (60, .aload_n 0, 1), (61, .getfield 56, 3), (64, .iload 4, 2), (66, .invokestatic 71, 3), (69, .ifCond .eq 64, 3), (72, .aload_n 0, 1), (73, .getfield 15, 3), (76, .iload 4, 2), (78, .laload, 1), (79, .lstore 5, 2), (81, .lload 5, 2), (83, .lconst 0, 1), (84, .lcmp, 1), (85, .ifCond .eq 48, 3), (88, .lload 5, 2), (90, .invokestatic 32, 3), (93, .istore 7, 2), (95, .aload_n 0, 1), (96, .getfield 9, 3), (99, .iload 7, 2), (101, .aload_n 0, 1), (102, .getfield 9, 3), (105, .iload 7, 2), (107, .iaload, 1), (108, .aload_n 0, 1), (109, .getfield 9, 3), (112, .iload 4, 2), (114, .iaload, 1), (115, .iconst 1, 1), (116, .isub, 1), (117, .invokestatic 95, 3), (120, .iastore, 1), (121, .lload 5, 2), (123, .lload 5, 2), (125, .lconst 1, 1), (126, .lsub, 1), (127, .land, 1), (128, .lstore 5, 2), (130, .goto (-49), 3), (133, .iinc 4 (-1), 3), (136, .goto (-81), 3), (139, .return_, 1)]
set_option maxRecDepth 100000 in
theorem iX3_findDue_ok : iX3_findDue.all (fun q => decide (decode cX3_findDue q.1 = .ok (q.2.1, q.2.2))) = true := by decide +kernel
def iX3_bestCut : List (Nat × Instr × Nat) := [(0, .aload_n 0, 1), (1, .getfield 15, 3), (4, .iload_n 2, 1), (5, .laload, 1), (6, .lstore 5, 2), (8, .aload_n 0, 1), (9, .lload 5, 2), (11, .lload_n 3, 1), (12, .iload_n 2, 1), (13, .invokevirtual 79, 3), (16, .invokestatic 59, 3), (19, .istore 7, 2), (21, .aload_n 0, 1), (22, .lload 5, 2), (24, .invokevirtual 41, 3), (27, .istore 8, 2), (29, .iconst 0, 1), (30, .istore 9, 2), (32, .iload 9, 2), (34, .bipush 8, 2), (36, .if_icmp .ge 93, 3), (39, .aload_n 1, 1), (40, .iload_n 2, 1), (41, .iload 9, 2), (43, .invokevirtual 98, 3), (46, .lstore 10, 2), (48, .lload 10, 2), (50, .lconst 0, 1), (51, .lcmp, 1), (52, .ifCond .ne 6, 3), (55, .goto 74, 3), (58, .aload_n 0, 1), (59, .lload 10, 2), (61, .invokevirtual 41, 3), (64, .istore 12, 2), (66, .iload 12, 2), (68, .aload_n 0, 1), (69, .getfield 9, 3), (72, .iload_n 2, 1), (73, .iaload, 1), (74, .if_icmp .gt 49, 3), (77, .aload_n 0, 1), (78, .lload 10, 2), (80, .lload_n 3, 1), (81, .iload_n 2, 1), (82, .invokevirtual 79, 3), (85, .invokestatic 59, 3), (88, .istore 13, 2), (90, .iload 13, 2), (92, .iload 7, 2), (94, .if_icmp .lt 17, 3), (97, .iload 13, 2), (99, .iload 7, 2), (101, .if_icmp .ne 22, 3), (104, .iload 12, 2), (106, .iload 8, 2), (108, .if_icmp .ge 15, 3), (111, .lload 10, 2), (113, .lstore 5, 2), (115, .iload 13, 2), (117, .istore 7, 2), (119, .iload 12, 2), (121, .istore 8, 2), (123, .iinc 9 1, 3), (126, .goto (-94), 3), (129, .lload 5, 2), (131, .lreturn, 1)]
set_option maxRecDepth 100000 in
theorem iX3_bestCut_ok : iX3_bestCut.all (fun q => decide (decode cX3_bestCut q.1 = .ok (q.2.1, q.2.2))) = true := by decide +kernel
def iX4_learn : List (Nat × Instr × Nat) := [(0, .aload_n 0, 1), (1, .iload_n 1, 1), (2, .iconst 1, 1), (3, .iadd, 1), (4, .putfield 41, 3), (7, .aload_n 0, 1), (8, .getfield 25, 3), (11, .getfield 44, 3), (14, .iload_n 1, 1), (15, .invokestatic 50, 3), (18, .ifCond .ne 4, 3), (21, .return_, 1), (22, .aload_n 0, 1), (23, .aload_n 0, 1), (24, .getfield 25, 3), (27, .getfield 54, 3), (30, .iload_n 1, 1), (31, .laload, 1), (32, .invokevirtual 57, 3), (35, .istore_n 2, 1), (36, .iload_n 2, 1), (37, .ifCond .ne 7, 3), (40, .lconst 0, 1), (41, .goto 25, 3), (44, .aload_n 0, 1), (45, .getfield 29, 3), (48, .iload_n 1, 1), (49, .invokestatic 61, 3), (52, .aload_n 0, 1), (53, .iload_n 1, 1), (54, .iload_n 2, 1), (55, .invokevirtual 65, 3), (58, .lor, 1), (59, .aload_n 0, 1), (60, .getfield 37, 3), (63, .invokevirtual 69, 3), (66, .lstore_n 3, 1), (67, .lload_n 3, 1), (68, .lconst 0, 1), (69, .lcmp, 1), (70, .ifCond .eq 20, 3), (73, .aload_n 0, 1), (74, .getfield 9, 3), (77, .iload_n 1, 1), (78, .iload_n 2, 1), (79, .iastore, 1), (80, .aload_n 0, 1), (81, .getfield 15, 3), (84, .iload_n 1, 1), (85, .lload_n 3, 1), (86, .lastore, 1), (87, .goto 33, 3), (90, .aload_n 0, 1), (91, .getfield 9, 3), (94, .iload_n 1, 1), (95, .iload_n 2, 1), (96, .iconst 1, 1), (97, .iadd, 1), (98, .iastore, 1), (99, .aload_n 0, 1), (100, .getfield 15, 3), (103, .iload_n 1, 1), (104, .aload_n 0, 1), (105, .getfield 29, 3), (108, .iload_n 1, 1), (109, .invokestatic 61, 3), (112, .aload_n 0, 1), (113, .getfield 37, 3), (116, .invokevirtual 69, 3), (119, .lastore, 1), (120, .aload_n 0, 1), (121, .iload_n 1, 1), (122, .invokevirtual 75, 3), (125, .return_, 1)]
set_option maxRecDepth 100000 in
theorem iX4_learn_ok : iX4_learn.all (fun q => decide (decode cX4_learn q.1 = .ok (q.2.1, q.2.2))) = true := by decide +kernel
def iX4_greatestLevel : List (Nat × Instr × Nat) := [(0, .iconst 0, 1), (1, .istore_n 3, 1), (2, .lload_n 1, 1), (3, .lstore 4, 2), (5, .lload 4, 2), (7, .lconst 0, 1), (8, .lcmp, 1), (9, .ifCond .eq 30, 3), (12, .iload_n 3, 1), (13, .aload_n 0, 1), (14, .getfield 9, 3), (17, .lload 4, 2), (19, .invokestatic 79, 3), (22, .iaload, 1), (23, .invokestatic 82, 3), (26, .istore_n 3, 1), (27, .lload 4, 2), (29, .lload 4, 2), (31, .lconst 1, 1), (32, .lsub, 1), (33, .land, 1), (34, .lstore 4, 2), (36, .goto (-31), 3), (39, .iload_n 3, 1), (40, .ireturn, 1)]
set_option maxRecDepth 100000 in
theorem iX4_greatestLevel_ok : iX4_greatestLevel.all (fun q => decide (decode cX4_greatestLevel q.1 = .ok (q.2.1, q.2.2))) = true := by decide +kernel
def iX4_keptCut : List (Nat × Instr × Nat) := [(0, .iload_n 2, 1), (1, .aload_n 0, 1), (2, .getfield 22, 3), (5, .iload_n 1, 1), (6, .iaload, 1), (7, .if_icmp .ge 17, 3), (10, .aload_n 0, 1), (11, .getfield 19, 3), (14, .iload_n 1, 1), (15, .bipush 8, 2), (17, .imul, 1), (18, .iload_n 2, 1), (19, .iadd, 1), (20, .laload, 1), (21, .goto 4, 3), (24, .lconst 0, 1), (25, .lreturn, 1)]
set_option maxRecDepth 100000 in
theorem iX4_keptCut_ok : iX4_keptCut.all (fun q => decide (decode cX4_keptCut q.1 = .ok (q.2.1, q.2.2))) = true := by decide +kernel
def iX4_belowAtLevel : List (Nat × Instr × Nat) := [(0, .lconst 0, 1), (1, .lstore_n 3, 1), (2, .aload_n 0, 1), (3, .getfield 25, 3), (6, .getfield 88, 3), (9, .iload_n 1, 1), (10, .laload, 1), (11, .lstore 5, 2), (13, .lload 5, 2), (15, .lconst 0, 1), (16, .lcmp, 1), (17, .ifCond .eq 41, 3), (20, .lload 5, 2), (22, .invokestatic 79, 3), (25, .istore 7, 2), (27, .aload_n 0, 1), (28, .getfield 9, 3), (31, .iload 7, 2), (33, .iaload, 1), (34, .iload_n 2, 1), (35, .if_icmp .ne 11, 3), (38, .lload_n 3, 1), (39, .iload 7, 2), (41, .invokestatic 61, 3), (44, .lor, 1), (45, .lstore_n 3, 1), (46, .lload 5, 2), (48, .lload 5, 2), (50, .lconst 1, 1), (51, .lsub, 1), (52, .land, 1), (53, .lstore 5, 2), (55, .goto (-42), 3), (58, .lload_n 3, 1), (59, .lreturn, 1)]
set_option maxRecDepth 100000 in
theorem iX4_belowAtLevel_ok : iX4_belowAtLevel.all (fun q => decide (decode cX4_belowAtLevel q.1 = .ok (q.2.1, q.2.2))) = true := by decide +kernel
def iX4_learnKept : List (Nat × Instr × Nat) := [(0, .aload_n 0, 1), (1, .getfield 33, 3), (4, .invokevirtual 91, 3), (7, .aload_n 0, 1), (8, .getfield 33, 3), (11, .aload_n 0, 1), (12, .getfield 15, 3), (15, .iload_n 1, 1), (16, .laload, 1), (17, .aload_n 0, 1), (18, .aload_n 0, 1), (19, .getfield 15, 3), (22, .iload_n 1, 1), (23, .laload, 1), (24, .invokevirtual 96, 3), (27, .invokevirtual 100, 3), (30, .aload_n 0, 1), (31, .iload_n 1, 1), (32, .iconst 0, 1), (33, .invokevirtual 104, 3), (36, .istore_n 2, 1), (37, .aload_n 0, 1), (38, .iload_n 1, 1), (39, .iconst 1, 1), (40, .invokevirtual 104, 3), (43, .istore_n 3, 1), (44, .iconst 0, 1), (45, .istore 4, 2), (47, .iload 4, 2), (49, .iload_n 2, 1), (50, .if_icmp .ge 46, 3), (53, .iconst 0, 1), (54, .istore 5, 2), (56, .iload 5, 2), (58, .iload_n 3, 1), (59, .if_icmp .ge 31, 3), (62, .aload_n 0, 1), (63, .iload_n 1, 1), (64, .aload_n 0, 1), (65, .iload_n 1, 1), (66, .iconst 0, 1), (67, .iload 4, 2), (69, .invokevirtual 107, 3), (72, .aload_n 0, 1), (73, .iload_n 1, 1), (74, .iconst 1, 1), (75, .iload 5, 2), (77, .invokevirtual 107, 3), (80, .lor, 1), (81, .invokevirtual 111, 3), (84, .iinc 5 1, 3), (87, .goto (-31), 3), (90, .iinc 4 1, 3), (93, .goto (-46), 3), (96, .aload_n 0, 1), (97, .iload_n 1, 1), (98, .invokevirtual 115, 3), (101, .return_, 1)]
set_option maxRecDepth 100000 in
theorem iX4_learnKept_ok : iX4_learnKept.all (fun q => decide (decode cX4_learnKept q.1 = .ok (q.2.1, q.2.2))) = true := by decide +kernel
def iX4_takeKept : List (Nat × Instr × Nat) := [(0, .aload_n 0, 1), (1, .getfield 22, 3), (4, .iload_n 1, 1), (5, .iconst 0, 1), (6, .iastore, 1), (7, .iconst 0, 1), (8, .istore_n 2, 1), (9, .iload_n 2, 1), (10, .bipush 8, 2), (12, .if_icmp .ge 45, 3), (15, .aload_n 0, 1), (16, .getfield 33, 3), (19, .invokevirtual 118, 3), (22, .lstore_n 3, 1), (23, .lload_n 3, 1), (24, .lconst 0, 1), (25, .lcmp, 1), (26, .ifCond .ne 4, 3), (29, .return_, 1), (30, .aload_n 0, 1), (31, .getfield 19, 3), (34, .iload_n 1, 1), (35, .bipush 8, 2), (37, .imul, 1), (38, .iload_n 2, 1), (39, .iadd, 1), (40, .lload_n 3, 1), (41, .lastore, 1), (42, .aload_n 0, 1), (43, .getfield 22, 3), (46, .iload_n 1, 1), (47, .iload_n 2, 1), (48, .iconst 1, 1), (49, .iadd, 1), (50, .iastore, 1), (51, .iinc 2 1, 3), (54, .goto (-45), 3), (57, .return_, 1)]
set_option maxRecDepth 100000 in
theorem iX4_takeKept_ok : iX4_takeKept.all (fun q => decide (decode cX4_takeKept q.1 = .ok (q.2.1, q.2.2))) = true := by decide +kernel
def iX4_addWithThird : List (Nat × Instr × Nat) := [(0, .lload_n 2, 1), (1, .invokestatic 122, 3), (4, .aload_n 0, 1), (5, .getfield 37, 3), (8, .if_icmp .le 4, 3), (11, .return_, 1), (12, .aload_n 0, 1), (13, .iload_n 1, 1), (14, .iconst 2, 1), (15, .invokevirtual 104, 3), (18, .istore 4, 2), (20, .iconst 0, 1), (21, .istore 5, 2), (23, .iload 5, 2), (25, .iload 4, 2), (27, .if_icmp .ge 48, 3), (30, .lload_n 2, 1), (31, .aload_n 0, 1), (32, .iload_n 1, 1), (33, .iconst 2, 1), (34, .iload 5, 2), (36, .invokevirtual 107, 3), (39, .lor, 1), (40, .lstore 6, 2), (42, .lload 6, 2), (44, .invokestatic 122, 3), (47, .aload_n 0, 1), (48, .getfield 37, 3), (51, .if_icmp .gt 18, 3), (54, .aload_n 0, 1), (55, .getfield 33, 3), (58, .lload 6, 2), (60, .aload_n 0, 1), (61, .lload 6, 2), (63, .invokevirtual 96, 3), (66, .invokevirtual 100, 3), (69, .iinc 5 1, 3), (72, .goto (-49), 3), (75, .return_, 1)]
set_option maxRecDepth 100000 in
theorem iX4_addWithThird_ok : iX4_addWithThird.all (fun q => decide (decode cX4_addWithThird q.1 = .ok (q.2.1, q.2.2))) = true := by decide +kernel
def iX4_choices : List (Nat × Instr × Nat) := [(0, .aload_n 0, 1), (1, .getfield 25, 3), (4, .iload_n 1, 1), (5, .iload_n 2, 1), (6, .invokevirtual 127, 3), (9, .istore_n 3, 1), (10, .iload_n 3, 1), (11, .iconst (-1), 1), (12, .if_icmp .ne 7, 3), (15, .iconst 1, 1), (16, .goto 11, 3), (19, .iconst 1, 1), (20, .aload_n 0, 1), (21, .getfield 22, 3), (24, .iload_n 3, 1), (25, .iaload, 1), (26, .iadd, 1), (27, .ireturn, 1)]
set_option maxRecDepth 100000 in
theorem iX4_choices_ok : iX4_choices.all (fun q => decide (decode cX4_choices q.1 = .ok (q.2.1, q.2.2))) = true := by decide +kernel
def iX4_choice : List (Nat × Instr × Nat) := [(0, .aload_n 0, 1), (1, .getfield 25, 3), (4, .iload_n 1, 1), (5, .iload_n 2, 1), (6, .invokevirtual 127, 3), (9, .istore 4, 2), (11, .iload 4, 2), (13, .iconst (-1), 1), (14, .if_icmp .ne 5, 3), (17, .lconst 0, 1), (18, .lreturn, 1), (19, .iload_n 3, 1), (20, .ifCond .ne 11, 3), (23, .iload 4, 2), (25, .invokestatic 61, 3), (28, .goto 17, 3), (31, .aload_n 0, 1), (32, .getfield 19, 3), (35, .iload 4, 2), (37, .bipush 8, 2), (39, .imul, 1), (40, .iload_n 3, 1), (41, .iadd, 1), (42, .iconst 1, 1), (43, .isub, 1), (44, .laload, 1), (45, .lreturn, 1)]
set_option maxRecDepth 100000 in
theorem iX4_choice_ok : iX4_choice.all (fun q => decide (decode cX4_choice q.1 = .ok (q.2.1, q.2.2))) = true := by decide +kernel
def iX4_placeInRow : List (Nat × Instr × Nat) := [(0, .lconst 0, 1), (1, .lstore_n 3, 1), (2, .iconst 0, 1), (3, .istore 5, 2), (5, .iconst 0, 1), (6, .istore 6, 2), (8, .lload_n 1, 1), (9, .lstore 7, 2), (11, .lload 7, 2), (13, .lconst 0, 1), (14, .lcmp, 1), (15, .ifCond .eq 55, 3), (18, .iload 5, 2), (20, .bipush 6, 2), (22, .if_icmp .ge 48, 3), (25, .lload 7, 2), (27, .invokestatic 79, 3), (30, .istore 9, 2), (32, .lload_n 3, 1), (33, .bipush 6, 2), (35, .lshl, 1), (36, .iload 9, 2), (38, .i2l, 1), (39, .lor, 1), (40, .lstore_n 3, 1), (41, .iload 6, 2), (43, .aload_n 0, 1), (44, .getfield 9, 3), (47, .iload 9, 2), (49, .iaload, 1), (50, .invokestatic 82, 3), (53, .istore 6, 2), (55, .iinc 5 1, 3), (58, .lload 7, 2), (60, .lload 7, 2), (62, .lconst 1, 1), (63, .lsub, 1), (64, .land, 1), (65, .lstore 7, 2), (67, .goto (-56), 3), (70, .iload 6, 2), (72, .i2l, 1), (73, .iconst 3, 1), (74, .lshl, 1), (75, .iload 5, 2), (77, .i2l, 1), (78, .lor, 1), (79, .lstore 7, 2), (81, .lload 7, 2), (83, .bipush 36, 2), (85, .lshl, 1), (86, .lload_n 3, 1), (87, .bipush 6, 2), (89, .bipush 6, 2), (91, .iload 5, 2), (93, .isub, 1), (94, .imul, 1), (95, .lshl, 1), (96, .lor, 1), (97, .lreturn, 1)]
set_option maxRecDepth 100000 in
theorem iX4_placeInRow_ok : iX4_placeInRow.all (fun q => decide (decode cX4_placeInRow q.1 = .ok (q.2.1, q.2.2))) = true := by decide +kernel
def iX5_isKind : List (Nat × Instr × Nat) := [(0, .iload_n 0, 1), (1, .ifCond .lt 15, 3), (4, .iload_n 0, 1), (5, .getstatic 28, 3), (8, .arraylength, 1), (9, .if_icmp .ge 7, 3), (12, .iconst 1, 1), (13, .goto 4, 3), (16, .iconst 0, 1), (17, .ireturn, 1)]
set_option maxRecDepth 100000 in
theorem iX5_isKind_ok : iX5_isKind.all (fun q => decide (decode cX5_isKind q.1 = .ok (q.2.1, q.2.2))) = true := by decide +kernel
def iX5_sourcesOf : List (Nat × Instr × Nat) := [(0, .getstatic 28, 3), (3, .iload_n 0, 1), (4, .iaload, 1), (5, .ireturn, 1)]
set_option maxRecDepth 100000 in
theorem iX5_sourcesOf_ok : iX5_sourcesOf.all (fun q => decide (decode cX5_sourcesOf q.1 = .ok (q.2.1, q.2.2))) = true := by decide +kernel
def iX5_isFull : List (Nat × Instr × Nat) := [(0, .aload_n 0, 1), (1, .getfield 31, 3), (4, .bipush 40, 2), (6, .if_icmp .lt 7, 3), (9, .iconst 1, 1), (10, .goto 4, 3), (13, .iconst 0, 1), (14, .ireturn, 1)]
set_option maxRecDepth 100000 in
theorem iX5_isFull_ok : iX5_isFull.all (fun q => decide (decode cX5_isFull q.1 = .ok (q.2.1, q.2.2))) = true := by decide +kernel
def iX5_isNode : List (Nat × Instr × Nat) := [(0, .iload_n 1, 1), (1, .ifCond .lt 15, 3), (4, .iload_n 1, 1), (5, .aload_n 0, 1), (6, .getfield 31, 3), (9, .if_icmp .ge 7, 3), (12, .iconst 1, 1), (13, .goto 4, 3), (16, .iconst 0, 1), (17, .ireturn, 1)]
set_option maxRecDepth 100000 in
theorem iX5_isNode_ok : iX5_isNode.all (fun q => decide (decode cX5_isNode q.1 = .ok (q.2.1, q.2.2))) = true := by decide +kernel
def iX5_isInput : List (Nat × Instr × Nat) := [(0, .aload_n 0, 1), (1, .iload_n 1, 1), (2, .invokevirtual 35, 3), (5, .ifCond .eq 18, 3), (8, .aload_n 0, 1), (9, .getfield 39, 3), (12, .iload_n 1, 1), (13, .invokestatic 43, 3), (16, .ifCond .eq 7, 3), (19, .iconst 1, 1), (20, .goto 4, 3), (23, .iconst 0, 1), (24, .ireturn, 1)]
set_option maxRecDepth 100000 in
theorem iX5_isInput_ok : iX5_isInput.all (fun q => decide (decode cX5_isInput q.1 = .ok (q.2.1, q.2.2))) = true := by decide +kernel
def iX5_isGate : List (Nat × Instr × Nat) := [(0, .aload_n 0, 1), (1, .iload_n 1, 1), (2, .invokevirtual 35, 3), (5, .ifCond .eq 18, 3), (8, .aload_n 0, 1), (9, .getfield 47, 3), (12, .iload_n 1, 1), (13, .invokestatic 43, 3), (16, .ifCond .eq 7, 3), (19, .iconst 1, 1), (20, .goto 4, 3), (23, .iconst 0, 1), (24, .ireturn, 1)]
set_option maxRecDepth 100000 in
theorem iX5_isGate_ok : iX5_isGate.all (fun q => decide (decode cX5_isGate q.1 = .ok (q.2.1, q.2.2))) = true := by decide +kernel
def iX5_isRegister : List (Nat × Instr × Nat) := [(0, .aload_n 0, 1), (1, .iload_n 1, 1), (2, .invokevirtual 35, 3), (5, .ifCond .eq 18, 3), (8, .aload_n 0, 1), (9, .getfield 50, 3), (12, .iload_n 1, 1), (13, .invokestatic 43, 3), (16, .ifCond .eq 7, 3), (19, .iconst 1, 1), (20, .goto 4, 3), (23, .iconst 0, 1), (24, .ireturn, 1)]
set_option maxRecDepth 100000 in
theorem iX5_isRegister_ok : iX5_isRegister.all (fun q => decide (decode cX5_isRegister q.1 = .ok (q.2.1, q.2.2))) = true := by decide +kernel
def iX5_addInput : List (Nat × Instr × Nat) := [(0, .aload_n 0, 1), (1, .dup, 1), (2, .getfield 39, 3), (5, .aload_n 0, 1), (6, .getfield 31, 3), (9, .invokestatic 53, 3), (12, .lor, 1), (13, .putfield 39, 3), (16, .aload_n 0, 1), (17, .dup, 1), (18, .getfield 31, 3), (21, .dup_x1, 1), (22, .iconst 1, 1), (23, .iadd, 1), (24, .putfield 31, 3), (27, .ireturn, 1)]
set_option maxRecDepth 100000 in
theorem iX5_addInput_ok : iX5_addInput.all (fun q => decide (decode cX5_addInput q.1 = .ok (q.2.1, q.2.2))) = true := by decide +kernel
def iX5_addRegister : List (Nat × Instr × Nat) := [(0, .aload_n 0, 1), (1, .dup, 1), (2, .getfield 50, 3), (5, .aload_n 0, 1), (6, .getfield 31, 3), (9, .invokestatic 53, 3), (12, .lor, 1), (13, .putfield 50, 3), (16, .aload_n 0, 1), (17, .getfield 18, 3), (20, .aload_n 0, 1), (21, .getfield 31, 3), (24, .aload_n 0, 1), (25, .getfield 31, 3), (28, .iastore, 1), (29, .aload_n 0, 1), (30, .dup, 1), (31, .getfield 31, 3), (34, .dup_x1, 1), (35, .iconst 1, 1), (36, .iadd, 1), (37, .putfield 31, 3), (40, .ireturn, 1)]
set_option maxRecDepth 100000 in
theorem iX5_addRegister_ok : iX5_addRegister.all (fun q => decide (decode cX5_addRegister q.1 = .ok (q.2.1, q.2.2))) = true := by decide +kernel
def iX5_addGate : List (Nat × Instr × Nat) := [(0, .aload_n 0, 1), (1, .dup, 1), (2, .getfield 47, 3), (5, .aload_n 0, 1), (6, .getfield 31, 3), (9, .invokestatic 53, 3), (12, .lor, 1), (13, .putfield 47, 3), (16, .aload_n 0, 1), (17, .getfield 9, 3), (20, .aload_n 0, 1), (21, .getfield 31, 3), (24, .iload_n 1, 1), (25, .iastore, 1), (26, .aload_n 0, 1), (27, .getfield 15, 3), (30, .aload_n 0, 1), (31, .getfield 31, 3), (34, .iconst 3, 1), (35, .imul, 1), (36, .iload_n 2, 1), (37, .iastore, 1), (38, .aload_n 0, 1), (39, .getfield 15, 3), (42, .aload_n 0, 1), (43, .getfield 31, 3), (46, .iconst 3, 1), (47, .imul, 1), (48, .iconst 1, 1), (49, .iadd, 1), (50, .iload_n 3, 1), (51, .iastore, 1), (52, .aload_n 0, 1), (53, .getfield 15, 3), (56, .aload_n 0, 1), (57, .getfield 31, 3), (60, .iconst 3, 1), (61, .imul, 1), (62, .iconst 2, 1), (63, .iadd, 1), (64, .iload 4, 2), (66, .iastore, 1), (67, .aload_n 0, 1), (68, .getfield 21, 3), (71, .aload_n 0, 1), (72, .getfield 31, 3), (75, .iload_n 2, 1), (76, .invokestatic 53, 3), (79, .iload_n 3, 1), (80, .invokestatic 53, 3), (83, .lor, 1), (84, .iload 4, 2), (86, .invokestatic 53, 3), (89, .lor, 1), (90, .lastore, 1), (91, .aload_n 0, 1), (92, .getfield 25, 3), (95, .aload_n 0, 1), (96, .getfield 31, 3), (99, .aload_n 0, 1), (100, .getfield 21, 3), (103, .aload_n 0, 1), (104, .getfield 31, 3), (107, .laload, 1), (108, .aload_n 0, 1), (109, .getfield 25, 3), (112, .iload_n 2, 1), (113, .laload, 1), (114, .lor, 1), (115, .aload_n 0, 1), (116, .getfield 25, 3), (119, .iload_n 3, 1), (120, .laload, 1), (121, .lor, 1), (122, .aload_n 0, 1), (123, .getfield 25, 3), (126, .iload 4, 2), (128, .laload, 1), (129, .lor, 1), (130, .lastore, 1), (131, .aload_n 0, 1), (132, .dup, 1), (133, .getfield 31, 3), (136, .dup_x1, 1), (137, .iconst 1, 1), (138, .iadd, 1), (139, .putfield 31, 3), (142, .ireturn, 1)]
set_option maxRecDepth 100000 in
theorem iX5_addGate_ok : iX5_addGate.all (fun q => decide (decode cX5_addGate q.1 = .ok (q.2.1, q.2.2))) = true := by decide +kernel
def iX5_setFeed : List (Nat × Instr × Nat) := [(0, .aload_n 0, 1), (1, .getfield 18, 3), (4, .iload_n 1, 1), (5, .iload_n 2, 1), (6, .iastore, 1), (7, .return_, 1)]
set_option maxRecDepth 100000 in
theorem iX5_setFeed_ok : iX5_setFeed.all (fun q => decide (decode cX5_setFeed q.1 = .ok (q.2.1, q.2.2))) = true := by decide +kernel
def iX5_kindOf : List (Nat × Instr × Nat) := [(0, .aload_n 0, 1), (1, .getfield 9, 3), (4, .iload_n 1, 1), (5, .iaload, 1), (6, .ireturn, 1)]
set_option maxRecDepth 100000 in
theorem iX5_kindOf_ok : iX5_kindOf.all (fun q => decide (decode cX5_kindOf q.1 = .ok (q.2.1, q.2.2))) = true := by decide +kernel
def iX5_feedOf : List (Nat × Instr × Nat) := [(0, .aload_n 0, 1), (1, .getfield 18, 3), (4, .iload_n 1, 1), (5, .iaload, 1), (6, .ireturn, 1)]
set_option maxRecDepth 100000 in
theorem iX5_feedOf_ok : iX5_feedOf.all (fun q => decide (decode cX5_feedOf q.1 = .ok (q.2.1, q.2.2))) = true := by decide +kernel
def iX5_sourceOf : List (Nat × Instr × Nat) := [(0, .iload_n 2, 1), (1, .getstatic 28, 3), (4, .aload_n 0, 1), (5, .getfield 9, 3), (8, .iload_n 1, 1), (9, .iaload, 1), (10, .iaload, 1), (11, .if_icmp .ge 16, 3), (14, .aload_n 0, 1), (15, .getfield 15, 3), (18, .iload_n 1, 1), (19, .iconst 3, 1), (20, .imul, 1), (21, .iload_n 2, 1), (22, .iadd, 1), (23, .iaload, 1), (24, .goto 4, 3), (27, .iconst (-1), 1), (28, .ireturn, 1)]
set_option maxRecDepth 100000 in
theorem iX5_sourceOf_ok : iX5_sourceOf.all (fun q => decide (decode cX5_sourceOf q.1 = .ok (q.2.1, q.2.2))) = true := by decide +kernel
def iX5_sourceOrFeed : List (Nat × Instr × Nat) := [(0, .aload_n 0, 1), (1, .iload_n 1, 1), (2, .invokevirtual 57, 3), (5, .ifCond .eq 10, 3), (8, .aload_n 0, 1), (9, .iload_n 1, 1), (10, .iload_n 2, 1), (11, .invokevirtual 60, 3), (14, .ireturn, 1), (15, .aload_n 0, 1), (16, .iload_n 1, 1), (17, .invokevirtual 64, 3), (20, .ifCond .eq 16, 3), (23, .iload_n 2, 1), (24, .ifCond .ne 12, 3), (27, .aload_n 0, 1), (28, .getfield 18, 3), (31, .iload_n 1, 1), (32, .iaload, 1), (33, .goto 4, 3), (36, .iconst (-1), 1), (37, .ireturn, 1)]
set_option maxRecDepth 100000 in
theorem iX5_sourceOrFeed_ok : iX5_sourceOrFeed.all (fun q => decide (decode cX5_sourceOrFeed q.1 = .ok (q.2.1, q.2.2))) = true := by decide +kernel
def iX5_roots : List (Nat × Instr × Nat) := [(0, .aload_n 0, 1), (1, .getfield 67, 3), (4, .lstore_n 1, 1), (5, .aload_n 0, 1), (6, .getfield 50, 3), (9, .lstore_n 3, 1), (10, .lload_n 3, 1), (11, .lconst 0, 1), (12, .lcmp, 1), (13, .ifCond .eq 27, 3), (16, .lload_n 1, 1), (17, .aload_n 0, 1), (18, .getfield 18, 3), (21, .lload_n 3, 1), (22, .invokestatic 70, 3), (25, .iaload, 1), (26, .invokestatic 53, 3), (29, .lor, 1), (30, .lstore_n 1, 1), (31, .lload_n 3, 1), (32, .lload_n 3, 1), (33, .lconst 1, 1), (34, .lsub, 1), (35, .land, 1), (36, .lstore_n 3, 1), (37, .goto (-27), 3), (40, .lload_n 1, 1), (41, .lreturn, 1)]
set_option maxRecDepth 100000 in
theorem iX5_roots_ok : iX5_roots.all (fun q => decide (decode cX5_roots q.1 = .ok (q.2.1, q.2.2))) = true := by decide +kernel
def iX5_reached : List (Nat × Instr × Nat) := [(0, .iload_n 1, 1), (1, .invokestatic 53, 3), (4, .lstore 4, 2), (6, .iload_n 1, 1), (7, .istore 6, 2), (9, .iload 6, 2), (11, .ifCond .lt 37, 3), (14, .lload 4, 2), (16, .iload 6, 2), (18, .invokestatic 43, 3), (21, .ifCond .eq 21, 3), (24, .lload 4, 2), (26, .aload_n 0, 1), (27, .getfield 21, 3), (30, .iload 6, 2), (32, .laload, 1), (33, .lload_n 2, 1), (34, .ldc2_w 74, 3), (37, .lxor, 1), (38, .land, 1), (39, .lor, 1), (40, .lstore 4, 2), (42, .iinc 6 (-1), 3), (45, .goto (-36), 3), (48, .lload 4, 2), (50, .lreturn, 1)]
set_option maxRecDepth 100000 in
theorem iX5_reached_ok : iX5_reached.all (fun q => decide (decode cX5_reached q.1 = .ok (q.2.1, q.2.2))) = true := by decide +kernel
def iX5_separates : List (Nat × Instr × Nat) := [(0, .lload_n 2, 1), (1, .aload_n 0, 1), (2, .getfield 25, 3), (5, .iload_n 1, 1), (6, .laload, 1), (7, .ldc2_w 74, 3), (10, .lxor, 1), (11, .land, 1), (12, .lconst 0, 1), (13, .lcmp, 1), (14, .ifCond .ne 27, 3), (17, .aload_n 0, 1), (18, .iload_n 1, 1), (19, .lload_n 2, 1), (20, .invokevirtual 76, 3), (23, .aload_n 0, 1), (24, .getfield 47, 3), (27, .ldc2_w 74, 3), (30, .lxor, 1), (31, .land, 1), (32, .lconst 0, 1), (33, .lcmp, 1), (34, .ifCond .ne 7, 3), (37, .iconst 1, 1), (38, .goto 4, 3), (41, .iconst 0, 1), (42, .ireturn, 1)]
set_option maxRecDepth 100000 in
theorem iX5_separates_ok : iX5_separates.all (fun q => decide (decode cX5_separates q.1 = .ok (q.2.1, q.2.2))) = true := by decide +kernel
def iX5_valueOf : List (Nat × Instr × Nat) := [(0, .aload_n 2, 1), (1, .aload_n 0, 1), (2, .getfield 15, 3), (5, .iload_n 1, 1), (6, .iconst 3, 1), (7, .imul, 1), (8, .iaload, 1), (9, .laload, 1), (10, .lstore_n 3, 1), (11, .aload_n 2, 1), (12, .aload_n 0, 1), (13, .getfield 15, 3), (16, .iload_n 1, 1), (17, .iconst 3, 1), (18, .imul, 1), (19, .iconst 1, 1), (20, .iadd, 1), (21, .iaload, 1), (22, .laload, 1), (23, .lstore 5, 2), (25, .aload_n 2, 1), (26, .aload_n 0, 1), (27, .getfield 15, 3), (30, .iload_n 1, 1), (31, .iconst 3, 1), (32, .imul, 1), (33, .iconst 2, 1), (34, .iadd, 1), (35, .iaload, 1), (36, .laload, 1), (37, .lstore 7, 2), (39, .aload_n 0, 1), (40, .getfield 9, 3), (43, .iload_n 1, 1), (44, .iaload, 1), (45, .tableswitch 83 0 5 #[39, 45, 50, 55, 60, 69], 39), (84, .lload_n 3, 1), (85, .ldc2_w 74, 3), (88, .lxor, 1), (89, .lreturn, 1), (90, .lload_n 3, 1), (91, .lload 5, 2), (93, .land, 1), (94, .lreturn, 1), (95, .lload_n 3, 1), (96, .lload 5, 2), (98, .lor, 1), (99, .lreturn, 1), (100, .lload_n 3, 1), (101, .lload 5, 2), (103, .lxor, 1), (104, .lreturn, 1), (105, .lload_n 3, 1), (106, .lload 5, 2), (108, .land, 1), (109, .ldc2_w 74, 3), (112, .lxor, 1), (113, .lreturn, 1), (114, .lload_n 3, 1), (115, .lload 5, 2), (117, .land, 1), (118, .lload_n 3, 1), (119, .ldc2_w 74, 3), (122, .lxor, 1), (123, .lload 7, 2), (125, .land, 1), (126, .lor, 1), (127, .lreturn, 1), (128, .lload_n 3, 1), (129, .lload 5, 2), (131, .land, 1), (132, .lload_n 3, 1), (133, .lload 7, 2), (135, .land, 1), (136, .lor, 1), (137, .lload 5, 2), (139, .lload 7, 2), (141, .land, 1), (142, .lor, 1), (143, .lreturn, 1)]
set_option maxRecDepth 100000 in
theorem iX5_valueOf_ok : iX5_valueOf.all (fun q => decide (decode cX5_valueOf q.1 = .ok (q.2.1, q.2.2))) = true := by decide +kernel
def iX6_clear : List (Nat × Instr × Nat) := [(0, .aload_n 0, 1), (1, .iconst 0, 1), (2, .putfield 18, 3), (5, .return_, 1)]
set_option maxRecDepth 100000 in
theorem iX6_clear_ok : iX6_clear.all (fun q => decide (decode cX6_clear q.1 = .ok (q.2.1, q.2.2))) = true := by decide +kernel
def iX6_add : List (Nat × Instr × Nat) := [(0, .aload_n 0, 1), (1, .getfield 18, 3), (4, .sipush 730, 3), (7, .if_icmp .ge 33, 3), (10, .aload_n 0, 1), (11, .getfield 11, 3), (14, .aload_n 0, 1), (15, .getfield 18, 3), (18, .lload_n 1, 1), (19, .lastore, 1), (20, .aload_n 0, 1), (21, .getfield 15, 3), (24, .aload_n 0, 1), (25, .getfield 18, 3), (28, .lload_n 3, 1), (29, .lastore, 1), (30, .aload_n 0, 1), (31, .dup, 1), (32, .getfield 18, 3), (35, .iconst 1, 1), (36, .iadd, 1), (37, .putfield 18, 3), (40, .return_, 1)]
set_option maxRecDepth 100000 in
theorem iX6_add_ok : iX6_add.all (fun q => decide (decode cX6_add q.1 = .ok (q.2.1, q.2.2))) = true := by decide +kernel
def iX6_takeFirst : List (Nat × Instr × Nat) := [(0, .aload_n 0, 1), (1, .getfield 18, 3), (4, .ifCond .ne 5, 3), (7, .lconst 0, 1), (8, .lreturn, 1), (9, .iconst 0, 1), (10, .istore_n 1, 1), (11, .iconst 1, 1), (12, .istore_n 2, 1), (13, .iload_n 2, 1), (14, .aload_n 0, 1), (15, .getfield 18, 3), (18, .if_icmp .ge 27, 3), (21, .aload_n 0, 1), (22, .getfield 15, 3), (25, .iload_n 2, 1), (26, .laload, 1), (27, .aload_n 0, 1), (28, .getfield 15, 3), (31, .iload_n 1, 1), (32, .laload, 1), (33, .lcmp, 1), (34, .ifCond .ge 5, 3), (37, .iload_n 2, 1), (38, .istore_n 1, 1), (39, .iinc 2 1, 3), (42, .goto (-29), 3), (45, .aload_n 0, 1), (46, .getfield 11, 3), (49, .iload_n 1, 1), (50, .laload, 1), (51, .lstore_n 2, 1), (52, .aload_n 0, 1), (53, .lload_n 2, 1), (54, .invokevirtual 22, 3), (57, .lload_n 2, 1), (58, .lreturn, 1)]
set_option maxRecDepth 100000 in
theorem iX6_takeFirst_ok : iX6_takeFirst.all (fun q => decide (decode cX6_takeFirst q.1 = .ok (q.2.1, q.2.2))) = true := by decide +kernel
def iX6_dropAllWith : List (Nat × Instr × Nat) := [(0, .iconst 0, 1), (1, .istore_n 3, 1), (2, .iconst 0, 1), (3, .istore 4, 2), (5, .iload 4, 2), (7, .aload_n 0, 1), (8, .getfield 18, 3), (11, .if_icmp .ge 56, 3), (14, .lload_n 1, 1), (15, .aload_n 0, 1), (16, .getfield 11, 3), (19, .iload 4, 2), (21, .laload, 1), (22, .ldc2_w 26, 3), (25, .lxor, 1), (26, .land, 1), (27, .lconst 0, 1), (28, .lcmp, 1), (29, .ifCond .eq 32, 3), (32, .aload_n 0, 1), (33, .getfield 11, 3), (36, .iload_n 3, 1), (37, .aload_n 0, 1), (38, .getfield 11, 3), (41, .iload 4, 2), (43, .laload, 1), (44, .lastore, 1), (45, .aload_n 0, 1), (46, .getfield 15, 3), (49, .iload_n 3, 1), (50, .aload_n 0, 1), (51, .getfield 15, 3), (54, .iload 4, 2), (56, .laload, 1), (57, .lastore, 1), (58, .iinc 3 1, 3), (61, .iinc 4 1, 3), (64, .goto (-59), 3), (67, .aload_n 0, 1), (68, .iload_n 3, 1), (69, .putfield 18, 3), (72, .return_, 1)]
set_option maxRecDepth 100000 in
theorem iX6_dropAllWith_ok : iX6_dropAllWith.all (fun q => decide (decode cX6_dropAllWith q.1 = .ok (q.2.1, q.2.2))) = true := by decide +kernel
def iX7_setInput : List (Nat × Instr × Nat) := [(0, .aload_n 0, 1), (1, .getfield 19, 3), (4, .iload_n 1, 1), (5, .invokestatic 23, 3), (8, .ifCond .eq 7, 3), (11, .iconst 1, 1), (12, .goto 4, 3), (15, .iconst 0, 1), (16, .istore_n 3, 1), (17, .aload_n 0, 1), (18, .iload_n 2, 1), (19, .ifCond .eq 15, 3), (22, .aload_n 0, 1), (23, .getfield 19, 3), (26, .iload_n 1, 1), (27, .invokestatic 27, 3), (30, .lor, 1), (31, .goto 16, 3), (34, .aload_n 0, 1), (35, .getfield 19, 3), (38, .iload_n 1, 1), (39, .invokestatic 27, 3), (42, .ldc2_w 31, 3), (45, .lxor, 1), (46, .land, 1), (47, .putfield 19, 3), (50, .iload_n 3, 1), (51, .ireturn, 1)]
set_option maxRecDepth 100000 in
theorem iX7_setInput_ok : iX7_setInput.all (fun q => decide (decode cX7_setInput q.1 = .ok (q.2.1, q.2.2))) = true := by decide +kernel
def iX7_now : List (Nat × Instr × Nat) := [(0, .aload_n 0, 1), (1, .aload_n 0, 1), (2, .getfield 19, 3), (5, .invokevirtual 33, 3), (8, .lreturn, 1)]
set_option maxRecDepth 100000 in
theorem iX7_now_ok : iX7_now.all (fun q => decide (decode cX7_now q.1 = .ok (q.2.1, q.2.2))) = true := by decide +kernel
def iX7_changedBy : List (Nat × Instr × Nat) := [(0, .aload_n 0, 1), (1, .aload_n 0, 1), (2, .getfield 19, 3), (5, .invokevirtual 33, 3), (8, .aload_n 0, 1), (9, .aload_n 0, 1), (10, .getfield 19, 3), (13, .iload_n 1, 1), (14, .invokestatic 27, 3), (17, .lxor, 1), (18, .invokevirtual 33, 3), (21, .lxor, 1), (22, .lreturn, 1)]
set_option maxRecDepth 100000 in
theorem iX7_changedBy_ok : iX7_changedBy.all (fun q => decide (decode cX7_changedBy q.1 = .ok (q.2.1, q.2.2))) = true := by decide +kernel
def iX7_run : List (Nat × Instr × Nat) := [(0, .iconst 0, 1), (1, .istore_n 2, 1), (2, .iconst 0, 1), (3, .istore_n 3, 1), (4, .iload_n 3, 1), (5, .iload_n 1, 1), (6, .if_icmp .ge 45, 3), (9, .aload_n 0, 1), (10, .getfield 19, 3), (13, .aload_n 0, 1), (14, .getfield 15, 3), (17, .getfield 37, 3), (20, .land, 1), (21, .aload_n 0, 1), (22, .invokevirtual 42, 3), (25, .lor, 1), (26, .lstore 4, 2), (28, .lload 4, 2), (30, .aload_n 0, 1), (31, .getfield 19, 3), (34, .lxor, 1), (35, .invokestatic 46, 3), (38, .istore_n 2, 1), (39, .aload_n 0, 1), (40, .lload 4, 2), (42, .putfield 19, 3), (45, .iinc 3 1, 3), (48, .goto (-44), 3), (51, .iload_n 2, 1), (52, .ireturn, 1)]
set_option maxRecDepth 100000 in
theorem iX7_run_ok : iX7_run.all (fun q => decide (decode cX7_run q.1 = .ok (q.2.1, q.2.2))) = true := by decide +kernel
def iX7_registersNext : List (Nat × Instr × Nat) := [(0, .aload_n 0, 1), (1, .invokevirtual 52, 3), (4, .lstore_n 1, 1), (5, .lconst 0, 1), (6, .lstore_n 3, 1), (7, .aload_n 0, 1), (8, .getfield 15, 3), (11, .getfield 55, 3), (14, .lstore 5, 2), (16, .lload 5, 2), (18, .lconst 0, 1), (19, .lcmp, 1), (20, .ifCond .eq 46, 3), (23, .lload 5, 2), (25, .invokestatic 58, 3), (28, .istore 7, 2), (30, .lload_n 1, 1), (31, .aload_n 0, 1), (32, .getfield 15, 3), (35, .iload 7, 2), (37, .invokevirtual 61, 3), (40, .invokestatic 23, 3), (43, .ifCond .eq 11, 3), (46, .lload_n 3, 1), (47, .iload 7, 2), (49, .invokestatic 27, 3), (52, .lor, 1), (53, .lstore_n 3, 1), (54, .lload 5, 2), (56, .lload 5, 2), (58, .lconst 1, 1), (59, .lsub, 1), (60, .land, 1), (61, .lstore 5, 2), (63, .goto (-47), 3), (66, .lload_n 3, 1), (67, .lreturn, 1)]
set_option maxRecDepth 100000 in
theorem iX7_registersNext_ok : iX7_registersNext.all (fun q => decide (decode cX7_registersNext q.1 = .ok (q.2.1, q.2.2))) = true := by decide +kernel
def iX7_nodesOn : List (Nat × Instr × Nat) := [(0, .lconst 0, 1), (1, .lstore_n 3, 1), (2, .iconst 0, 1), (3, .istore 5, 2), (5, .iload 5, 2), (7, .aload_n 0, 1), (8, .getfield 15, 3), (11, .getfield 65, 3), (14, .if_icmp .ge 66, 3), (17, .aload_n 0, 1), (18, .getfield 9, 3), (21, .iload 5, 2), (23, .aload_n 0, 1), (24, .getfield 15, 3), (27, .getfield 69, 3), (30, .iload 5, 2), (32, .invokestatic 23, 3), (35, .ifCond .eq 19, 3), (38, .aload_n 0, 1), (39, .getfield 15, 3), (42, .iload 5, 2), (44, .aload_n 0, 1), (45, .getfield 9, 3), (48, .invokevirtual 72, 3), (51, .goto 7, 3), (54, .lload_n 1, 1), (55, .iload 5, 2), (57, .lshr, 1), (58, .lastore, 1), (59, .lload_n 3, 1), (60, .aload_n 0, 1), (61, .getfield 9, 3), (64, .iload 5, 2), (66, .laload, 1), (67, .lconst 1, 1), (68, .land, 1), (69, .iload 5, 2), (71, .lshl, 1), (72, .lor, 1), (73, .lstore_n 3, 1), (74, .iinc 5 1, 3), (77, .goto (-72), 3), (80, .lload_n 3, 1), (81, .lreturn, 1)]
set_option maxRecDepth 100000 in
theorem iX7_nodesOn_ok : iX7_nodesOn.all (fun q => decide (decode cX7_nodesOn q.1 = .ok (q.2.1, q.2.2))) = true := by decide +kernel
def iX8_nearestCut : List (Nat × Instr × Nat) := [(0, .lconst 0, 1), (1, .lstore 4, 2), (3, .lload_n 1, 1), (4, .lstore 6, 2), (6, .lload 6, 2), (8, .lconst 0, 1), (9, .lcmp, 1), (10, .ifCond .eq 33, 3), (13, .lload 4, 2), (15, .aload_n 0, 1), (16, .getfield 21, 3), (19, .getfield 25, 3), (22, .lload 6, 2), (24, .invokestatic 31, 3), (27, .laload, 1), (28, .lor, 1), (29, .lstore 4, 2), (31, .lload 6, 2), (33, .lload 6, 2), (35, .lconst 1, 1), (36, .lsub, 1), (37, .land, 1), (38, .lstore 6, 2), (40, .goto (-34), 3), (43, .lload 4, 2), (45, .lload_n 1, 1), (46, .ldc2_w 35, 3), (49, .lxor, 1), (50, .land, 1), (51, .lstore 4, 2), (53, .aload_n 0, 1), (54, .lconst 0, 1), (55, .putfield 37, 3), (58, .iconst 0, 1), (59, .istore 6, 2), (61, .iload 6, 2), (63, .iload_n 3, 1), (64, .if_icmp .gt 46, 3), (67, .aload_n 0, 1), (68, .lload 4, 2), (70, .invokevirtual 41, 3), (73, .istore 7, 2), (75, .iload 7, 2), (77, .iconst (-1), 1), (78, .if_icmp .ne 17, 3), (81, .aload_n 0, 1), (82, .getfield 44, 3), (85, .aload_n 0, 1), (86, .getfield 47, 3), (89, .ldc2_w 35, 3), (92, .lxor, 1), (93, .land, 1), (94, .lreturn, 1), (95, .aload_n 0, 1), (96, .iload 7, 2), (98, .bipush 40, 2), (100, .iadd, 1), (101, .invokevirtual 50, 3), (104, .iinc 6 1, 3), (107, .goto (-46), 3), (110, .lconst 0, 1), (111, .lreturn, 1)]
set_option maxRecDepth 100000 in
theorem iX8_nearestCut_ok : iX8_nearestCut.all (fun q => decide (decode cX8_nearestCut q.1 = .ok (q.2.1, q.2.2))) = true := by decide +kernel
def iX8_findWay : List (Nat × Instr × Nat) := [(0, .aload_n 0, 1), (1, .lconst 0, 1), (2, .putfield 44, 3), (5, .aload_n 0, 1), (6, .lconst 0, 1), (7, .putfield 47, 3), (10, .aload_n 0, 1), (11, .iconst 0, 1), (12, .putfield 54, 3), (15, .aload_n 0, 1), (16, .lload_n 1, 1), (17, .iconst (-1), 1), (18, .invokevirtual 58, 3), (21, .iconst 0, 1), (22, .istore_n 3, 1), (23, .iload_n 3, 1), (24, .aload_n 0, 1), (25, .getfield 54, 3), (28, .if_icmp .ge 128, 3), (31, .aload_n 0, 1), (32, .getfield 15, 3), (35, .iload_n 3, 1), (36, .iaload, 1), (37, .istore 4, 2), (39, .iload 4, 2), (41, .bipush 40, 2), (43, .if_icmp .ge 8, 3), (46, .iload 4, 2), (48, .goto 8, 3), (51, .iload 4, 2), (53, .bipush 40, 2), (55, .isub, 1), (56, .istore 5, 2), (58, .iload 4, 2), (60, .iload 5, 2), (62, .if_icmp .ne 36, 3), (65, .aload_n 0, 1), (66, .aload_n 0, 1), (67, .getfield 37, 3), (70, .iload 5, 2), (72, .invokestatic 62, 3), (75, .ifCond .eq 13, 3), (78, .aload_n 0, 1), (79, .getfield 18, 3), (82, .iload 5, 2), (84, .iaload, 1), (85, .goto 5, 3), (88, .iload 5, 2), (90, .iload 4, 2), (92, .invokevirtual 66, 3), (95, .goto 55, 3), (98, .aload_n 0, 1), (99, .getfield 21, 3), (102, .getfield 70, 3), (105, .iload 5, 2), (107, .invokestatic 62, 3), (110, .ifCond .eq 37, 3), (113, .aload_n 0, 1), (114, .getfield 37, 3), (117, .iload 5, 2), (119, .invokestatic 73, 3), (122, .land, 1), (123, .lstore 6, 2), (125, .aload_n 0, 1), (126, .aload_n 0, 1), (127, .getfield 21, 3), (130, .getfield 25, 3), (133, .iload 5, 2), (135, .laload, 1), (136, .lload 6, 2), (138, .lor, 1), (139, .iload 4, 2), (141, .invokevirtual 58, 3), (144, .goto 6, 3), (147, .iload 5, 2), (149, .ireturn, 1), (150, .iinc 3 1, 3), (153, .goto (-130), 3), (156, .iconst (-1), 1), (157, .ireturn, 1)]
set_option maxRecDepth 100000 in
theorem iX8_findWay_ok : iX8_findWay.all (fun q => decide (decode cX8_findWay q.1 = .ok (q.2.1, q.2.2))) = true := by decide +kernel
def iX8_seeUppers : List (Nat × Instr × Nat) := [(0, .lload_n 1, 1), (1, .aload_n 0, 1), (2, .getfield 44, 3), (5, .ldc2_w 35, 3), (8, .lxor, 1), (9, .land, 1), (10, .lstore 4, 2), (12, .lload 4, 2), (14, .lconst 0, 1), (15, .lcmp, 1), (16, .ifCond .eq 48, 3), (19, .lload 4, 2), (21, .invokestatic 31, 3), (24, .istore 6, 2), (26, .aload_n 0, 1), (27, .getfield 9, 3), (30, .iload 6, 2), (32, .iload_n 3, 1), (33, .iastore, 1), (34, .aload_n 0, 1), (35, .getfield 15, 3), (38, .aload_n 0, 1), (39, .dup, 1), (40, .getfield 54, 3), (43, .dup_x1, 1), (44, .iconst 1, 1), (45, .iadd, 1), (46, .putfield 54, 3), (49, .iload 6, 2), (51, .iastore, 1), (52, .lload 4, 2), (54, .lload 4, 2), (56, .lconst 1, 1), (57, .lsub, 1), (58, .land, 1), (59, .lstore 4, 2), (61, .goto (-49), 3), (64, .aload_n 0, 1), (65, .dup, 1), (66, .getfield 44, 3), (69, .lload_n 1, 1), (70, .lor, 1), (71, .putfield 44, 3), (74, .return_, 1)]
set_option maxRecDepth 100000 in
theorem iX8_seeUppers_ok : iX8_seeUppers.all (fun q => decide (decode cX8_seeUppers q.1 = .ok (q.2.1, q.2.2))) = true := by decide +kernel
def iX8_seeLower : List (Nat × Instr × Nat) := [(0, .iload_n 1, 1), (1, .iconst (-1), 1), (2, .if_icmp .eq 57, 3), (5, .aload_n 0, 1), (6, .getfield 47, 3), (9, .iload_n 1, 1), (10, .invokestatic 62, 3), (13, .ifCond .ne 46, 3), (16, .aload_n 0, 1), (17, .dup, 1), (18, .getfield 47, 3), (21, .iload_n 1, 1), (22, .invokestatic 73, 3), (25, .lor, 1), (26, .putfield 47, 3), (29, .aload_n 0, 1), (30, .getfield 9, 3), (33, .iload_n 1, 1), (34, .bipush 40, 2), (36, .iadd, 1), (37, .iload_n 2, 1), (38, .iastore, 1), (39, .aload_n 0, 1), (40, .getfield 15, 3), (43, .aload_n 0, 1), (44, .dup, 1), (45, .getfield 54, 3), (48, .dup_x1, 1), (49, .iconst 1, 1), (50, .iadd, 1), (51, .putfield 54, 3), (54, .iload_n 1, 1), (55, .bipush 40, 2), (57, .iadd, 1), (58, .iastore, 1), (59, .return_, 1)]
set_option maxRecDepth 100000 in
theorem iX8_seeLower_ok : iX8_seeLower.all (fun q => decide (decode cX8_seeLower q.1 = .ok (q.2.1, q.2.2))) = true := by decide +kernel
def iX8_layWay : List (Nat × Instr × Nat) := [(0, .iload_n 1, 1), (1, .istore_n 2, 1), (2, .iconst 0, 1), (3, .istore_n 3, 1), (4, .iload_n 3, 1), (5, .bipush 80, 2), (7, .if_icmp .ge 107, 3), (10, .iload_n 2, 1), (11, .iconst (-1), 1), (12, .if_icmp .eq 102, 3), (15, .aload_n 0, 1), (16, .getfield 9, 3), (19, .iload_n 2, 1), (20, .iaload, 1), (21, .istore 4, 2), (23, .iload_n 2, 1), (24, .bipush 40, 2), (26, .if_icmp .lt 29, 3), (29, .iload 4, 2), (31, .iload_n 2, 1), (32, .bipush 40, 2), (34, .isub, 1), (35, .if_icmp .ne 70, 3), (38, .aload_n 0, 1), (39, .dup, 1), (40, .getfield 37, 3), (43, .iload 4, 2), (45, .invokestatic 73, 3), (48, .lor, 1), (49, .putfield 37, 3), (52, .goto 53, 3), (55, .iload 4, 2), (57, .iload_n 2, 1), (58, .bipush 40, 2), (60, .iadd, 1), (61, .if_icmp .ne 23, 3), (64, .aload_n 0, 1), (65, .dup, 1), (66, .getfield 37, 3), (69, .iload_n 2, 1), (70, .invokestatic 73, 3), (73, .ldc2_w 35, 3), (76, .lxor, 1), (77, .land, 1), (78, .putfield 37, 3), (81, .goto 24, 3), (84, .aload_n 0, 1), (85, .getfield 18, 3), (88, .iload_n 2, 1), (89, .iload 4, 2), (91, .iconst (-1), 1), (92, .if_icmp .ne 7, 3), (95, .iconst (-1), 1), (96, .goto 8, 3), (99, .iload 4, 2), (101, .bipush 40, 2), (103, .isub, 1), (104, .iastore, 1), (105, .iload 4, 2), (107, .istore_n 2, 1), (108, .iinc 3 1, 3), (111, .goto (-107), 3), (114, .return_, 1)]
set_option maxRecDepth 100000 in
theorem iX8_layWay_ok : iX8_layWay.all (fun q => decide (decode cX8_layWay q.1 = .ok (q.2.1, q.2.2))) = true := by decide +kernel
def iX9_input : List (Nat × Instr × Nat) := [(0, .aload_n 0, 1), (1, .getfield 10, 3), (4, .invokevirtual 80, 3), (7, .ifCond .eq 5, 3), (10, .iconst (-1), 1), (11, .ireturn, 1), (12, .aload_n 0, 1), (13, .iconst 0, 1), (14, .putfield 76, 3), (17, .aload_n 0, 1), (18, .getfield 10, 3), (21, .invokevirtual 84, 3), (24, .ireturn, 1)]
set_option maxRecDepth 100000 in
theorem iX9_input_ok : iX9_input.all (fun q => decide (decode cX9_input q.1 = .ok (q.2.1, q.2.2))) = true := by decide +kernel
def iX9_gate : List (Nat × Instr × Nat) := [(0, .aload_n 0, 1), (1, .getfield 10, 3), (4, .invokevirtual 80, 3), (7, .ifCond .ne 10, 3), (10, .iload_n 1, 1), (11, .invokestatic 88, 3), (14, .ifCond .ne 5, 3), (17, .iconst (-1), 1), (18, .ireturn, 1), (19, .iload_n 1, 1), (20, .invokestatic 92, 3), (23, .istore 5, 2), (25, .aload_n 0, 1), (26, .getfield 10, 3), (29, .iload_n 2, 1), (30, .invokevirtual 96, 3), (33, .ifCond .eq 38, 3), (36, .iload 5, 2), (38, .iconst 1, 1), (39, .if_icmp .le 14, 3), (42, .aload_n 0, 1), (43, .getfield 10, 3), (46, .iload_n 3, 1), (47, .invokevirtual 96, 3), (50, .ifCond .eq 21, 3), (53, .iload 5, 2), (55, .iconst 2, 1), (56, .if_icmp .le 17, 3), (59, .aload_n 0, 1), (60, .getfield 10, 3), (63, .iload 4, 2), (65, .invokevirtual 96, 3), (68, .ifCond .ne 5, 3), (71, .iconst (-1), 1), (72, .ireturn, 1), (73, .aload_n 0, 1), (74, .iconst 0, 1), (75, .putfield 76, 3), (78, .aload_n 0, 1), (79, .getfield 10, 3), (82, .iload_n 1, 1), (83, .iload_n 2, 1), (84, .iload 5, 2), (86, .iconst 1, 1), (87, .if_icmp .le 7, 3), (90, .iload_n 3, 1), (91, .goto 4, 3), (94, .iload_n 2, 1), (95, .iload 5, 2), (97, .iconst 2, 1), (98, .if_icmp .le 8, 3), (101, .iload 4, 2), (103, .goto 4, 3), (106, .iload_n 2, 1), (107, .invokevirtual 99, 3), (110, .ireturn, 1)]
set_option maxRecDepth 100000 in
theorem iX9_gate_ok : iX9_gate.all (fun q => decide (decode cX9_gate q.1 = .ok (q.2.1, q.2.2))) = true := by decide +kernel
def iX9_register : List (Nat × Instr × Nat) := [(0, .aload_n 0, 1), (1, .getfield 10, 3), (4, .invokevirtual 80, 3), (7, .ifCond .eq 5, 3), (10, .iconst (-1), 1), (11, .ireturn, 1), (12, .aload_n 0, 1), (13, .iconst 0, 1), (14, .putfield 76, 3), (17, .aload_n 0, 1), (18, .getfield 10, 3), (21, .invokevirtual 103, 3), (24, .ireturn, 1)]
set_option maxRecDepth 100000 in
theorem iX9_register_ok : iX9_register.all (fun q => decide (decode cX9_register q.1 = .ok (q.2.1, q.2.2))) = true := by decide +kernel
def iX9_feed : List (Nat × Instr × Nat) := [(0, .aload_n 0, 1), (1, .getfield 10, 3), (4, .iload_n 1, 1), (5, .invokevirtual 106, 3), (8, .ifCond .eq 14, 3), (11, .aload_n 0, 1), (12, .getfield 10, 3), (15, .iload_n 2, 1), (16, .invokevirtual 96, 3), (19, .ifCond .ne 5, 3), (22, .iconst 0, 1), (23, .ireturn, 1), (24, .aload_n 0, 1), (25, .iconst 0, 1), (26, .putfield 76, 3), (29, .aload_n 0, 1), (30, .getfield 10, 3), (33, .iload_n 1, 1), (34, .iload_n 2, 1), (35, .invokevirtual 109, 3), (38, .iconst 1, 1), (39, .ireturn, 1)]
set_option maxRecDepth 100000 in
theorem iX9_feed_ok : iX9_feed.all (fun q => decide (decode cX9_feed q.1 = .ok (q.2.1, q.2.2))) = true := by decide +kernel
def iX9_output : List (Nat × Instr × Nat) := [(0, .aload_n 0, 1), (1, .getfield 10, 3), (4, .iload_n 1, 1), (5, .invokevirtual 96, 3), (8, .ifCond .eq 32, 3), (11, .aload_n 0, 1), (12, .getfield 10, 3), (15, .getfield 113, 3), (18, .iload_n 1, 1), (19, .invokestatic 117, 3), (22, .ifCond .ne 18, 3), (25, .aload_n 0, 1), (26, .getfield 10, 3), (29, .getfield 113, 3), (32, .invokestatic 121, 3), (35, .bipush 12, 2), (37, .if_icmp .lt 5, 3), (40, .iconst (-1), 1), (41, .ireturn, 1), (42, .aload_n 0, 1), (43, .iconst 0, 1), (44, .putfield 76, 3), (47, .aload_n 0, 1), (48, .getfield 10, 3), (51, .dup, 1), (52, .getfield 113, 3), (55, .iload_n 1, 1), (56, .invokestatic 127, 3), (59, .lor, 1), (60, .putfield 113, 3), (63, .aload_n 0, 1), (64, .getfield 10, 3), (67, .getfield 113, 3), (70, .invokestatic 121, 3), (73, .ireturn, 1)]
set_option maxRecDepth 100000 in
theorem iX9_output_ok : iX9_output.all (fun q => decide (decode cX9_output q.1 = .ok (q.2.1, q.2.2))) = true := by decide +kernel
def iX9_inputs : List (Nat × Instr × Nat) := [(0, .iload_n 1, 1), (1, .iconst 3, 1), (2, .if_icmp .lt 9, 3), (5, .iload_n 1, 1), (6, .bipush 6, 2), (8, .if_icmp .le 5, 3), (11, .iconst (-1), 1), (12, .ireturn, 1), (13, .aload_n 0, 1), (14, .getfield 72, 3), (17, .istore_n 2, 1), (18, .iload_n 1, 1), (19, .iload_n 2, 1), (20, .if_icmp .eq 8, 3), (23, .aload_n 0, 1), (24, .iconst 0, 1), (25, .putfield 76, 3), (28, .aload_n 0, 1), (29, .iload_n 1, 1), (30, .putfield 72, 3), (33, .iload_n 2, 1), (34, .ireturn, 1)]
set_option maxRecDepth 100000 in
theorem iX9_inputs_ok : iX9_inputs.all (fun q => decide (decode cX9_inputs q.1 = .ok (q.2.1, q.2.2))) = true := by decide +kernel
def iX9_map : List (Nat × Instr × Nat) := [(0, .aload_n 0, 1), (1, .getfield 43, 3), (4, .aload_n 0, 1), (5, .invokevirtual 131, 3), (8, .invokevirtual 135, 3), (11, .aload_n 0, 1), (12, .iconst 1, 1), (13, .putfield 76, 3), (16, .aload_n 0, 1), (17, .invokevirtual 139, 3), (20, .aload_n 0, 1), (21, .getfield 43, 3), (24, .getfield 142, 3), (27, .invokestatic 121, 3), (30, .ireturn, 1)]
set_option maxRecDepth 100000 in
theorem iX9_map_ok : iX9_map.all (fun q => decide (decode cX9_map q.1 = .ok (q.2.1, q.2.2))) = true := by decide +kernel
def iX9_again : List (Nat × Instr × Nat) := [(0, .aload_n 0, 1), (1, .getfield 76, 3), (4, .ifCond .eq 12, 3), (7, .iload_n 1, 1), (8, .ifCond .lt 8, 3), (11, .iload_n 1, 1), (12, .iconst 5, 1), (13, .if_icmp .le 5, 3), (16, .iconst (-1), 1), (17, .ireturn, 1), (18, .aload_n 0, 1), (19, .getfield 43, 3), (22, .aload_n 0, 1), (23, .invokevirtual 131, 3), (26, .iload_n 1, 1), (27, .invokevirtual 145, 3), (30, .istore_n 2, 1), (31, .aload_n 0, 1), (32, .invokevirtual 139, 3), (35, .iload_n 2, 1), (36, .ireturn, 1)]
set_option maxRecDepth 100000 in
theorem iX9_again_ok : iX9_again.all (fun q => decide (decode cX9_again q.1 = .ok (q.2.1, q.2.2))) = true := by decide +kernel
def iX9_set : List (Nat × Instr × Nat) := [(0, .aload_n 0, 1), (1, .getfield 10, 3), (4, .iload_n 1, 1), (5, .invokevirtual 149, 3), (8, .ifCond .ne 5, 3), (11, .iconst (-1), 1), (12, .ireturn, 1), (13, .aload_n 0, 1), (14, .getfield 21, 3), (17, .iload_n 1, 1), (18, .iload_n 2, 1), (19, .invokevirtual 152, 3), (22, .ireturn, 1)]
set_option maxRecDepth 100000 in
theorem iX9_set_ok : iX9_set.all (fun q => decide (decode cX9_set q.1 = .ok (q.2.1, q.2.2))) = true := by decide +kernel
def iX9_clock : List (Nat × Instr × Nat) := [(0, .iload_n 1, 1), (1, .iconst 1, 1), (2, .if_icmp .lt 9, 3), (5, .iload_n 1, 1), (6, .bipush 64, 2), (8, .if_icmp .le 5, 3), (11, .iconst (-1), 1), (12, .ireturn, 1), (13, .aload_n 0, 1), (14, .getfield 21, 3), (17, .iload_n 1, 1), (18, .invokevirtual 156, 3), (21, .ireturn, 1)]
set_option maxRecDepth 100000 in
theorem iX9_clock_ok : iX9_clock.all (fun q => decide (decode cX9_clock q.1 = .ok (q.2.1, q.2.2))) = true := by decide +kernel
def iX9_node : List (Nat × Instr × Nat) := [(0, .aload_n 0, 1), (1, .getfield 10, 3), (4, .iload_n 1, 1), (5, .invokevirtual 96, 3), (8, .ifCond .ne 5, 3), (11, .iconst (-1), 1), (12, .ireturn, 1), (13, .iload_n 2, 1), (14, .tableswitch 157 0 7 #[46, 78, 102, 102, 102, 114, 124, 144], 46), (60, .aload_n 0, 1), (61, .getfield 10, 3), (64, .iload_n 1, 1), (65, .invokevirtual 159, 3), (68, .ifCond .eq 7, 3), (71, .iconst 1, 1), (72, .goto 19, 3), (75, .aload_n 0, 1), (76, .getfield 10, 3), (79, .iload_n 1, 1), (80, .invokevirtual 106, 3), (83, .ifCond .eq 7, 3), (86, .iconst 2, 1), (87, .goto 4, 3), (90, .iconst 0, 1), (91, .ireturn, 1), (92, .aload_n 0, 1), (93, .getfield 10, 3), (96, .iload_n 1, 1), (97, .invokevirtual 159, 3), (100, .ifCond .eq 14, 3), (103, .aload_n 0, 1), (104, .getfield 10, 3), (107, .iload_n 1, 1), (108, .invokevirtual 162, 3), (111, .goto 4, 3), (114, .iconst (-1), 1), (115, .ireturn, 1), (116, .aload_n 0, 1), (117, .getfield 10, 3), (120, .iload_n 1, 1), (121, .iload_n 2, 1), (122, .iconst 2, 1), (123, .isub, 1), (124, .invokevirtual 165, 3), (127, .ireturn, 1), (128, .aload_n 0, 1), (129, .invokevirtual 131, 3), (132, .getfield 169, 3), (135, .iload_n 1, 1), (136, .iaload, 1), (137, .ireturn, 1), (138, .aload_n 0, 1), (139, .getfield 10, 3), (142, .invokevirtual 173, 3), (145, .iload_n 1, 1), (146, .invokestatic 117, 3), (149, .ifCond .eq 7, 3), (152, .iconst 1, 1), (153, .goto 4, 3), (156, .iconst 0, 1), (157, .ireturn, 1), (158, .aload_n 0, 1), (159, .getfield 10, 3), (162, .getfield 177, 3), (165, .iload_n 1, 1), (166, .laload, 1), (167, .invokestatic 121, 3), (170, .ireturn, 1), (171, .iconst (-1), 1), (172, .ireturn, 1)]
set_option maxRecDepth 100000 in
theorem iX9_node_ok : iX9_node.all (fun q => decide (decode cX9_node q.1 = .ok (q.2.1, q.2.2))) = true := by decide +kernel
def iX9_near : List (Nat × Instr × Nat) := [(0, .aload_n 0, 1), (1, .getfield 10, 3), (4, .iload_n 1, 1), (5, .invokevirtual 159, 3), (8, .ifCond .ne 5, 3), (11, .iconst (-1), 1), (12, .ireturn, 1), (13, .aload_n 0, 1), (14, .invokevirtual 131, 3), (17, .getfield 181, 3), (20, .iload_n 1, 1), (21, .laload, 1), (22, .lstore_n 3, 1), (23, .iload_n 2, 1), (24, .iconst (-1), 1), (25, .if_icmp .ne 10, 3), (28, .lload_n 3, 1), (29, .invokestatic 121, 3), (32, .goto 8, 3), (35, .lload_n 3, 1), (36, .iload_n 2, 1), (37, .invokestatic 184, 3), (40, .ireturn, 1)]
set_option maxRecDepth 100000 in
theorem iX9_near_ok : iX9_near.all (fun q => decide (decode cX9_near q.1 = .ok (q.2.1, q.2.2))) = true := by decide +kernel
def iX9_cone : List (Nat × Instr × Nat) := [(0, .aload_n 0, 1), (1, .getfield 10, 3), (4, .iload_n 1, 1), (5, .invokevirtual 159, 3), (8, .ifCond .ne 5, 3), (11, .iconst (-1), 1), (12, .ireturn, 1), (13, .aload_n 0, 1), (14, .getfield 10, 3), (17, .iload_n 1, 1), (18, .aload_n 0, 1), (19, .invokevirtual 131, 3), (22, .getfield 181, 3), (25, .iload_n 1, 1), (26, .laload, 1), (27, .invokevirtual 188, 3), (30, .invokestatic 121, 3), (33, .ireturn, 1)]
set_option maxRecDepth 100000 in
theorem iX9_cone_ok : iX9_cone.all (fun q => decide (decode cX9_cone q.1 = .ok (q.2.1, q.2.2))) = true := by decide +kernel
def iX9_kept : List (Nat × Instr × Nat) := [(0, .aload_n 0, 1), (1, .getfield 10, 3), (4, .iload_n 1, 1), (5, .invokevirtual 159, 3), (8, .ifCond .eq 13, 3), (11, .iload_n 2, 1), (12, .ifCond .lt 9, 3), (15, .iload_n 2, 1), (16, .bipush 8, 2), (18, .if_icmp .lt 5, 3), (21, .lconst 0, 1), (22, .lreturn, 1), (23, .aload_n 0, 1), (24, .invokevirtual 131, 3), (27, .iload_n 1, 1), (28, .iload_n 2, 1), (29, .invokevirtual 192, 3), (32, .lreturn, 1)]
set_option maxRecDepth 100000 in
theorem iX9_kept_ok : iX9_kept.all (fun q => decide (decode cX9_kept q.1 = .ok (q.2.1, q.2.2))) = true := by decide +kernel
def iX9_isCut : List (Nat × Instr × Nat) := [(0, .aload_n 0, 1), (1, .getfield 10, 3), (4, .iload_n 1, 1), (5, .invokevirtual 159, 3), (8, .ifCond .eq 30, 3), (11, .lload_n 2, 1), (12, .invokestatic 121, 3), (15, .aload_n 0, 1), (16, .getfield 72, 3), (19, .if_icmp .gt 19, 3), (22, .aload_n 0, 1), (23, .getfield 10, 3), (26, .iload_n 1, 1), (27, .lload_n 2, 1), (28, .invokevirtual 196, 3), (31, .ifCond .eq 7, 3), (34, .iconst 1, 1), (35, .goto 4, 3), (38, .iconst 0, 1), (39, .ireturn, 1)]
set_option maxRecDepth 100000 in
theorem iX9_isCut_ok : iX9_isCut.all (fun q => decide (decode cX9_isCut q.1 = .ok (q.2.1, q.2.2))) = true := by decide +kernel
def iX9_depth : List (Nat × Instr × Nat) := [(0, .aload_n 0, 1), (1, .invokevirtual 131, 3), (4, .aload_n 0, 1), (5, .getfield 10, 3), (8, .invokevirtual 173, 3), (11, .invokevirtual 200, 3), (14, .ireturn, 1)]
set_option maxRecDepth 100000 in
theorem iX9_depth_ok : iX9_depth.all (fun q => decide (decode cX9_depth q.1 = .ok (q.2.1, q.2.2))) = true := by decide +kernel
def iX9_chosen : List (Nat × Instr × Nat) := [(0, .aload_n 0, 1), (1, .getfield 76, 3), (4, .ifCond .eq 26, 3), (7, .aload_n 0, 1), (8, .getfield 10, 3), (11, .iload_n 1, 1), (12, .invokevirtual 159, 3), (15, .ifCond .eq 15, 3), (18, .aload_n 0, 1), (19, .getfield 43, 3), (22, .getfield 203, 3), (25, .iload_n 1, 1), (26, .laload, 1), (27, .goto 4, 3), (30, .lconst 0, 1), (31, .lreturn, 1)]
set_option maxRecDepth 100000 in
theorem iX9_chosen_ok : iX9_chosen.all (fun q => decide (decode cX9_chosen q.1 = .ok (q.2.1, q.2.2))) = true := by decide +kernel
def iX9_table : List (Nat × Instr × Nat) := [(0, .aload_n 0, 1), (1, .getfield 76, 3), (4, .ifCond .eq 14, 3), (7, .aload_n 0, 1), (8, .getfield 10, 3), (11, .iload_n 1, 1), (12, .invokevirtual 159, 3), (15, .ifCond .ne 5, 3), (18, .iconst (-1), 1), (19, .ireturn, 1), (20, .iload_n 2, 1), (21, .tableswitch 107 0 5 #[39, 59, 69, 78, 88, 98], 39), (60, .aload_n 0, 1), (61, .getfield 43, 3), (64, .getfield 142, 3), (67, .iload_n 1, 1), (68, .invokestatic 117, 3), (71, .ifCond .eq 7, 3), (74, .iconst 1, 1), (75, .goto 4, 3), (78, .iconst 0, 1), (79, .ireturn, 1), (80, .aload_n 0, 1), (81, .getfield 43, 3), (84, .getfield 206, 3), (87, .iload_n 1, 1), (88, .iaload, 1), (89, .ireturn, 1), (90, .aload_n 0, 1), (91, .getfield 43, 3), (94, .iload_n 1, 1), (95, .invokevirtual 209, 3), (98, .ireturn, 1), (99, .aload_n 0, 1), (100, .getfield 59, 3), (103, .getfield 212, 3), (106, .iload_n 1, 1), (107, .iaload, 1), (108, .ireturn, 1), (109, .aload_n 0, 1), (110, .getfield 59, 3), (113, .getfield 215, 3), (116, .iload_n 1, 1), (117, .iaload, 1), (118, .ireturn, 1), (119, .aload_n 0, 1), (120, .getfield 52, 3), (123, .iload_n 1, 1), (124, .invokevirtual 218, 3), (127, .ireturn, 1), (128, .iconst (-1), 1), (129, .ireturn, 1)]
set_option maxRecDepth 100000 in
theorem iX9_table_ok : iX9_table.all (fun q => decide (decode cX9_table q.1 = .ok (q.2.1, q.2.2))) = true := by decide +kernel
def iX9_holds : List (Nat × Instr × Nat) := [(0, .aload_n 0, 1), (1, .getfield 76, 3), (4, .ifCond .eq 14, 3), (7, .aload_n 0, 1), (8, .getfield 10, 3), (11, .iload_n 1, 1), (12, .invokevirtual 159, 3), (15, .ifCond .ne 13, 3), (18, .new 221, 3), (21, .dup, 1), (22, .ldc 223, 2), (24, .invokespecial 225, 3), (27, .athrow, 1), (28, .aload_n 0, 1), (29, .getfield 52, 3), (32, .iload_n 1, 1), (33, .invokevirtual 228, 3), (36, .lreturn, 1)]
set_option maxRecDepth 100000 in
theorem iX9_holds_ok : iX9_holds.all (fun q => decide (decode cX9_holds q.1 = .ok (q.2.1, q.2.2))) = true := by decide +kernel
def iX9_mapped : List (Nat × Instr × Nat) := [(0, .aload_n 0, 1), (1, .getfield 76, 3), (4, .ifCond .ne 5, 3), (7, .iconst (-1), 1), (8, .ireturn, 1), (9, .iload_n 1, 1), (10, .tableswitch 99 0 5 #[38, 49, 64, 72, 80, 88], 38), (48, .aload_n 0, 1), (49, .getfield 43, 3), (52, .getfield 142, 3), (55, .invokestatic 121, 3), (58, .ireturn, 1), (59, .aload_n 0, 1), (60, .getfield 43, 3), (63, .aload_n 0, 1), (64, .getfield 10, 3), (67, .invokevirtual 173, 3), (70, .invokevirtual 231, 3), (73, .ireturn, 1), (74, .aload_n 0, 1), (75, .getfield 59, 3), (78, .getfield 234, 3), (81, .ireturn, 1), (82, .aload_n 0, 1), (83, .getfield 59, 3), (86, .invokevirtual 237, 3), (89, .ireturn, 1), (90, .aload_n 0, 1), (91, .getfield 59, 3), (94, .getfield 240, 3), (97, .ireturn, 1), (98, .aload_n 0, 1), (99, .getfield 59, 3), (102, .getfield 243, 3), (105, .invokestatic 121, 3), (108, .ireturn, 1), (109, .iconst (-1), 1), (110, .ireturn, 1)]
set_option maxRecDepth 100000 in
theorem iX9_mapped_ok : iX9_mapped.all (fun q => decide (decode cX9_mapped q.1 = .ok (q.2.1, q.2.2))) = true := by decide +kernel
def iX9_cell : List (Nat × Instr × Nat) := [(0, .aload_n 0, 1), (1, .getfield 76, 3), (4, .ifCond .eq 14, 3), (7, .aload_n 0, 1), (8, .getfield 59, 3), (11, .iload_n 1, 1), (12, .invokevirtual 246, 3), (15, .ifCond .ne 6, 3), (18, .bipush (-2), 2), (20, .ireturn, 1), (21, .iload_n 2, 1), (22, .tableswitch 77 0 4 #[34, 34, 48, 48, 64], 34), (56, .aload_n 0, 1), (57, .getfield 59, 3), (60, .getfield 249, 3), (63, .iload_n 1, 1), (64, .laload, 1), (65, .iload_n 2, 1), (66, .invokestatic 184, 3), (69, .ireturn, 1), (70, .aload_n 0, 1), (71, .getfield 59, 3), (74, .getfield 252, 3), (77, .iload_n 1, 1), (78, .laload, 1), (79, .iload_n 2, 1), (80, .iconst 2, 1), (81, .isub, 1), (82, .invokestatic 184, 3), (85, .ireturn, 1), (86, .aload_n 0, 1), (87, .getfield 59, 3), (90, .getfield 255, 3), (93, .iload_n 1, 1), (94, .laload, 1), (95, .invokestatic 121, 3), (98, .ireturn, 1), (99, .bipush (-2), 2), (101, .ireturn, 1)]
set_option maxRecDepth 100000 in
theorem iX9_cell_ok : iX9_cell.all (fun q => decide (decode cX9_cell q.1 = .ok (q.2.1, q.2.2))) = true := by decide +kernel
def iX9_clusters : List (Nat × Instr × Nat) := [(0, .aload_n 0, 1), (1, .getfield 76, 3), (4, .ifCond .eq 11, 3), (7, .iload_n 1, 1), (8, .iload_n 2, 1), (9, .invokestatic 258, 3), (12, .ifCond .ne 5, 3), (15, .iconst (-1), 1), (16, .ireturn, 1), (17, .aload_n 0, 1), (18, .getfield 68, 3), (21, .iload_n 1, 1), (22, .iload_n 2, 1), (23, .invokevirtual 262, 3), (26, .aload_n 0, 1), (27, .getfield 68, 3), (30, .getfield 265, 3), (33, .ireturn, 1)]
set_option maxRecDepth 100000 in
theorem iX9_clusters_ok : iX9_clusters.all (fun q => decide (decode cX9_clusters q.1 = .ok (q.2.1, q.2.2))) = true := by decide +kernel
def iX9_cluster : List (Nat × Instr × Nat) := [(0, .aload_n 0, 1), (1, .getfield 76, 3), (4, .ifCond .eq 22, 3), (7, .iload_n 1, 1), (8, .iload_n 2, 1), (9, .invokestatic 258, 3), (12, .ifCond .eq 14, 3), (15, .aload_n 0, 1), (16, .getfield 59, 3), (19, .iload_n 3, 1), (20, .invokevirtual 246, 3), (23, .ifCond .ne 5, 3), (26, .iconst (-1), 1), (27, .ireturn, 1), (28, .aload_n 0, 1), (29, .getfield 68, 3), (32, .iload_n 1, 1), (33, .iload_n 2, 1), (34, .invokevirtual 262, 3), (37, .aload_n 0, 1), (38, .getfield 68, 3), (41, .getfield 266, 3), (44, .iload_n 3, 1), (45, .iaload, 1), (46, .ireturn, 1)]
set_option maxRecDepth 100000 in
theorem iX9_cluster_ok : iX9_cluster.all (fun q => decide (decode cX9_cluster q.1 = .ok (q.2.1, q.2.2))) = true := by decide +kernel
def iX9_cross : List (Nat × Instr × Nat) := [(0, .aload_n 0, 1), (1, .getfield 76, 3), (4, .ifCond .eq 11, 3), (7, .iload_n 1, 1), (8, .iload_n 2, 1), (9, .invokestatic 258, 3), (12, .ifCond .ne 5, 3), (15, .iconst (-1), 1), (16, .ireturn, 1), (17, .aload_n 0, 1), (18, .getfield 68, 3), (21, .iload_n 1, 1), (22, .iload_n 2, 1), (23, .invokevirtual 262, 3), (26, .aload_n 0, 1), (27, .getfield 68, 3), (30, .invokevirtual 269, 3), (33, .ireturn, 1)]
set_option maxRecDepth 100000 in
theorem iX9_cross_ok : iX9_cross.all (fun q => decide (decode cX9_cross q.1 = .ok (q.2.1, q.2.2))) = true := by decide +kernel
def iX9_is : List (Nat × Instr × Nat) := [(0, .aload_n 0, 1), (1, .getfield 10, 3), (4, .iload_n 1, 1), (5, .invokevirtual 96, 3), (8, .ifCond .ne 5, 3), (11, .iconst (-1), 1), (12, .ireturn, 1), (13, .aload_n 0, 1), (14, .getfield 21, 3), (17, .invokevirtual 272, 3), (20, .iload_n 1, 1), (21, .invokestatic 117, 3), (24, .ifCond .eq 7, 3), (27, .iconst 1, 1), (28, .goto 4, 3), (31, .iconst 0, 1), (32, .ireturn, 1)]
set_option maxRecDepth 100000 in
theorem iX9_is_ok : iX9_is.all (fun q => decide (decode cX9_is q.1 = .ok (q.2.1, q.2.2))) = true := by decide +kernel
def iX9_comes : List (Nat × Instr × Nat) := [(0, .aload_n 0, 1), (1, .getfield 76, 3), (4, .ifCond .eq 14, 3), (7, .aload_n 0, 1), (8, .getfield 10, 3), (11, .iload_n 1, 1), (12, .invokevirtual 96, 3), (15, .ifCond .ne 5, 3), (18, .iconst (-1), 1), (19, .ireturn, 1), (20, .aload_n 0, 1), (21, .getfield 52, 3), (24, .aload_n 0, 1), (25, .getfield 21, 3), (28, .getfield 275, 3), (31, .iload_n 1, 1), (32, .invokevirtual 278, 3), (35, .iload_n 1, 1), (36, .invokestatic 117, 3), (39, .ifCond .eq 7, 3), (42, .iconst 1, 1), (43, .goto 4, 3), (46, .iconst 0, 1), (47, .ireturn, 1)]
set_option maxRecDepth 100000 in
theorem iX9_comes_ok : iX9_comes.all (fun q => decide (decode cX9_comes q.1 = .ok (q.2.1, q.2.2))) = true := by decide +kernel
def iX9_differs : List (Nat × Instr × Nat) := [(0, .aload_n 0, 1), (1, .getfield 10, 3), (4, .iload_n 1, 1), (5, .invokevirtual 96, 3), (8, .ifCond .eq 14, 3), (11, .aload_n 0, 1), (12, .getfield 10, 3), (15, .iload_n 2, 1), (16, .invokevirtual 149, 3), (19, .ifCond .ne 5, 3), (22, .iconst (-1), 1), (23, .ireturn, 1), (24, .aload_n 0, 1), (25, .getfield 21, 3), (28, .iload_n 2, 1), (29, .invokevirtual 282, 3), (32, .iload_n 1, 1), (33, .invokestatic 117, 3), (36, .ifCond .eq 7, 3), (39, .iconst 1, 1), (40, .goto 4, 3), (43, .iconst 0, 1), (44, .ireturn, 1)]
set_option maxRecDepth 100000 in
theorem iX9_differs_ok : iX9_differs.all (fun q => decide (decode cX9_differs q.1 = .ok (q.2.1, q.2.2))) = true := by decide +kernel
def iX9_slow : List (Nat × Instr × Nat) := [(0, .aload_n 0, 1), (1, .getfield 76, 3), (4, .ifCond .eq 13, 3), (7, .iload_n 1, 1), (8, .ifCond .lt 9, 3), (11, .iload_n 1, 1), (12, .bipush 40, 2), (14, .if_icmp .lt 5, 3), (17, .iconst (-1), 1), (18, .ireturn, 1), (19, .aload_n 0, 1), (20, .getfield 43, 3), (23, .iload_n 1, 1), (24, .invokevirtual 285, 3), (27, .ireturn, 1)]
set_option maxRecDepth 100000 in
theorem iX9_slow_ok : iX9_slow.all (fun q => decide (decode cX9_slow q.1 = .ok (q.2.1, q.2.2))) = true := by decide +kernel
def iX9_count : List (Nat × Instr × Nat) := [(0, .iload_n 1, 1), (1, .tableswitch 128 0 7 #[47, 55, 66, 77, 88, 99, 104, 117], 47), (48, .aload_n 0, 1), (49, .getfield 10, 3), (52, .getfield 288, 3), (55, .ireturn, 1), (56, .aload_n 0, 1), (57, .getfield 10, 3), (60, .getfield 289, 3), (63, .invokestatic 121, 3), (66, .ireturn, 1), (67, .aload_n 0, 1), (68, .getfield 10, 3), (71, .getfield 292, 3), (74, .invokestatic 121, 3), (77, .ireturn, 1), (78, .aload_n 0, 1), (79, .getfield 10, 3), (82, .getfield 295, 3), (85, .invokestatic 121, 3), (88, .ireturn, 1), (89, .aload_n 0, 1), (90, .getfield 10, 3), (93, .getfield 113, 3), (96, .invokestatic 121, 3), (99, .ireturn, 1), (100, .aload_n 0, 1), (101, .getfield 72, 3), (104, .ireturn, 1), (105, .aload_n 0, 1), (106, .getfield 76, 3), (109, .ifCond .eq 7, 3), (112, .iconst 1, 1), (113, .goto 4, 3), (116, .iconst 0, 1), (117, .ireturn, 1), (118, .aload_n 0, 1), (119, .getfield 10, 3), (122, .invokevirtual 173, 3), (125, .invokestatic 121, 3), (128, .ireturn, 1), (129, .iconst (-1), 1), (130, .ireturn, 1)]
set_option maxRecDepth 100000 in
theorem iX9_count_ok : iX9_count.all (fun q => decide (decode cX9_count q.1 = .ok (q.2.1, q.2.2))) = true := by decide +kernel
def iX9_cutsOfK : List (Nat × Instr × Nat) := [(0, .aload_n 0, 1), (1, .getfield 33, 3), (4, .aload_n 0, 1), (5, .getfield 72, 3), (8, .iconst 3, 1), (9, .isub, 1), (10, .aaload, 1), (11, .astore_n 1, 1), (12, .aload_n 1, 1), (13, .getfield 298, 3), (16, .istore_n 2, 1), (17, .iload_n 2, 1), (18, .aload_n 0, 1), (19, .getfield 10, 3), (22, .getfield 288, 3), (25, .if_icmp .ge 14, 3), (28, .aload_n 1, 1), (29, .iload_n 2, 1), (30, .invokevirtual 301, 3), (33, .iinc 2 1, 3), (36, .goto (-19), 3), (39, .aload_n 1, 1), (40, .areturn, 1)]
set_option maxRecDepth 100000 in
theorem iX9_cutsOfK_ok : iX9_cutsOfK.all (fun q => decide (decode cX9_cutsOfK q.1 = .ok (q.2.1, q.2.2))) = true := by decide +kernel
def iX9_followCover : List (Nat × Instr × Nat) := [(0, .aload_n 0, 1), (1, .getfield 52, 3), (4, .invokevirtual 305, 3), (7, .aload_n 0, 1), (8, .getfield 59, 3), (11, .aload_n 0, 1), (12, .getfield 72, 3), (15, .invokevirtual 308, 3), (18, .aload_n 0, 1), (19, .getfield 68, 3), (22, .invokevirtual 311, 3), (25, .return_, 1)]
set_option maxRecDepth 100000 in
theorem iX9_followCover_ok : iX9_followCover.all (fun q => decide (decode cX9_followCover q.1 = .ok (q.2.1, q.2.2))) = true := by decide +kernel
def iX9_bit : List (Nat × Instr × Nat) := [(0, .lconst 1, 1), (1, .iload_n 0, 1), (2, .lshl, 1), (3, .lreturn, 1)]
set_option maxRecDepth 100000 in
theorem iX9_bit_ok : iX9_bit.all (fun q => decide (decode cX9_bit q.1 = .ok (q.2.1, q.2.2))) = true := by decide +kernel
def iX9_has : List (Nat × Instr × Nat) := [(0, .lload_n 0, 1), (1, .iload_n 2, 1), (2, .lshr, 1), (3, .lconst 1, 1), (4, .land, 1), (5, .lconst 0, 1), (6, .lcmp, 1), (7, .ifCond .eq 7, 3), (10, .iconst 1, 1), (11, .goto 4, 3), (14, .iconst 0, 1), (15, .ireturn, 1)]
set_option maxRecDepth 100000 in
theorem iX9_has_ok : iX9_has.all (fun q => decide (decode cX9_has q.1 = .ok (q.2.1, q.2.2))) = true := by decide +kernel
def iX9_lowest : List (Nat × Instr × Nat) := [(0, .lload_n 0, 1), (1, .lload_n 0, 1), (2, .lneg, 1), (3, .land, 1), (4, .lconst 1, 1), (5, .lsub, 1), (6, .invokestatic 121, 3), (9, .ireturn, 1)]
set_option maxRecDepth 100000 in
theorem iX9_lowest_ok : iX9_lowest.all (fun q => decide (decode cX9_lowest q.1 = .ok (q.2.1, q.2.2))) = true := by decide +kernel
def iX9_nthOf : List (Nat × Instr × Nat) := [(0, .iconst 0, 1), (1, .istore_n 3, 1), (2, .lload_n 0, 1), (3, .lstore 4, 2), (5, .lload 4, 2), (7, .lconst 0, 1), (8, .lcmp, 1), (9, .ifCond .eq 29, 3), (12, .iload_n 3, 1), (13, .iload_n 2, 1), (14, .if_icmp .ne 9, 3), (17, .lload 4, 2), (19, .invokestatic 312, 3), (22, .ireturn, 1), (23, .iinc 3 1, 3), (26, .lload 4, 2), (28, .lload 4, 2), (30, .lconst 1, 1), (31, .lsub, 1), (32, .land, 1), (33, .lstore 4, 2), (35, .goto (-30), 3), (38, .iconst (-1), 1), (39, .ireturn, 1)]
set_option maxRecDepth 100000 in
theorem iX9_nthOf_ok : iX9_nthOf.all (fun q => decide (decode cX9_nthOf q.1 = .ok (q.2.1, q.2.2))) = true := by decide +kernel
def iX10_thrown : List (Nat × Instr × Nat) := [(0, .aload_n 0, 1), (1, .getfield 112, 3), (4, .ireturn, 1)]
set_option maxRecDepth 100000 in
theorem iX10_thrown_ok : iX10_thrown.all (fun q => decide (decode cX10_thrown q.1 = .ok (q.2.1, q.2.2))) = true := by decide +kernel
def iX10_within : List (Nat × Instr × Nat) := [(0, .iload_n 0, 1), (1, .iload_n 1, 1), (2, .if_icmp .lt 12, 3), (5, .iload_n 0, 1), (6, .iload_n 2, 1), (7, .if_icmp .gt 7, 3), (10, .iconst 1, 1), (11, .goto 4, 3), (14, .iconst 0, 1), (15, .ireturn, 1)]
set_option maxRecDepth 100000 in
theorem iX10_within_ok : iX10_within.all (fun q => decide (decode cX10_within q.1 = .ok (q.2.1, q.2.2))) = true := by decide +kernel
def iX10_has : List (Nat × Instr × Nat) := [(0, .lload_n 0, 1), (1, .iload_n 2, 1), (2, .lshr, 1), (3, .lconst 1, 1), (4, .land, 1), (5, .lconst 1, 1), (6, .lcmp, 1), (7, .ifCond .ne 7, 3), (10, .iconst 1, 1), (11, .goto 4, 3), (14, .iconst 0, 1), (15, .ireturn, 1)]
set_option maxRecDepth 100000 in
theorem iX10_has_ok : iX10_has.all (fun q => decide (decode cX10_has q.1 = .ok (q.2.1, q.2.2))) = true := by decide +kernel
def iX10_manyOf : List (Nat × Instr × Nat) := [(0, .iconst 0, 1), (1, .istore_n 2, 1), (2, .iconst 0, 1), (3, .istore_n 3, 1), (4, .iload_n 3, 1), (5, .bipush 40, 2), (7, .if_icmp .ge 25, 3), (10, .iload_n 2, 1), (11, .lload_n 0, 1), (12, .iload_n 3, 1), (13, .invokestatic 115, 3), (16, .ifCond .eq 7, 3), (19, .iconst 1, 1), (20, .goto 4, 3), (23, .iconst 0, 1), (24, .iadd, 1), (25, .istore_n 2, 1), (26, .iinc 3 1, 3), (29, .goto (-25), 3), (32, .iload_n 2, 1), (33, .ireturn, 1)]
set_option maxRecDepth 100000 in
theorem iX10_manyOf_ok : iX10_manyOf.all (fun q => decide (decode cX10_manyOf q.1 = .ok (q.2.1, q.2.2))) = true := by decide +kernel
def iX10_lowest : List (Nat × Instr × Nat) := [(0, .iconst 0, 1), (1, .istore_n 2, 1), (2, .lload_n 0, 1), (3, .iload_n 2, 1), (4, .invokestatic 115, 3), (7, .ifCond .ne 9, 3), (10, .iinc 2 1, 3), (13, .goto (-11), 3), (16, .iload_n 2, 1), (17, .ireturn, 1)]
set_option maxRecDepth 100000 in
theorem iX10_lowest_ok : iX10_lowest.all (fun q => decide (decode cX10_lowest q.1 = .ok (q.2.1, q.2.2))) = true := by decide +kernel
def iX10_sourcesOf : List (Nat × Instr × Nat) := [(0, .iload_n 0, 1), (1, .ifCond .ne 7, 3), (4, .iconst 1, 1), (5, .goto 13, 3), (8, .iload_n 0, 1), (9, .iconst 5, 1), (10, .if_icmp .ge 7, 3), (13, .iconst 2, 1), (14, .goto 4, 3), (17, .iconst 3, 1), (18, .ireturn, 1)]
set_option maxRecDepth 100000 in
theorem iX10_sourcesOf_ok : iX10_sourcesOf.all (fun q => decide (decode cX10_sourcesOf q.1 = .ok (q.2.1, q.2.2))) = true := by decide +kernel
def iX10_isNode : List (Nat × Instr × Nat) := [(0, .iload_n 1, 1), (1, .ifCond .lt 15, 3), (4, .iload_n 1, 1), (5, .aload_n 0, 1), (6, .getfield 119, 3), (9, .if_icmp .ge 7, 3), (12, .iconst 1, 1), (13, .goto 4, 3), (16, .iconst 0, 1), (17, .ireturn, 1)]
set_option maxRecDepth 100000 in
theorem iX10_isNode_ok : iX10_isNode.all (fun q => decide (decode cX10_isNode q.1 = .ok (q.2.1, q.2.2))) = true := by decide +kernel
def iX10_isGate : List (Nat × Instr × Nat) := [(0, .aload_n 0, 1), (1, .iload_n 1, 1), (2, .invokevirtual 122, 3), (5, .ifCond .eq 17, 3), (8, .aload_n 0, 1), (9, .getfield 7, 3), (12, .iload_n 1, 1), (13, .iaload, 1), (14, .iconst 1, 1), (15, .if_icmp .ne 7, 3), (18, .iconst 1, 1), (19, .goto 4, 3), (22, .iconst 0, 1), (23, .ireturn, 1)]
set_option maxRecDepth 100000 in
theorem iX10_isGate_ok : iX10_isGate.all (fun q => decide (decode cX10_isGate q.1 = .ok (q.2.1, q.2.2))) = true := by decide +kernel
def iX10_isRegister : List (Nat × Instr × Nat) := [(0, .aload_n 0, 1), (1, .iload_n 1, 1), (2, .invokevirtual 122, 3), (5, .ifCond .eq 17, 3), (8, .aload_n 0, 1), (9, .getfield 7, 3), (12, .iload_n 1, 1), (13, .iaload, 1), (14, .iconst 2, 1), (15, .if_icmp .ne 7, 3), (18, .iconst 1, 1), (19, .goto 4, 3), (22, .iconst 0, 1), (23, .ireturn, 1)]
set_option maxRecDepth 100000 in
theorem iX10_isRegister_ok : iX10_isRegister.all (fun q => decide (decode cX10_isRegister q.1 = .ok (q.2.1, q.2.2))) = true := by decide +kernel
def iX10_changes : List (Nat × Instr × Nat) := [(0, .aload_n 0, 1), (1, .iconst 0, 1), (2, .putfield 126, 3), (5, .aload_n 0, 1), (6, .iconst 0, 1), (7, .putfield 130, 3), (10, .return_, 1)]
set_option maxRecDepth 100000 in
theorem iX10_changes_ok : iX10_changes.all (fun q => decide (decode cX10_changes q.1 = .ok (q.2.1, q.2.2))) = true := by decide +kernel
def iX10_adds : List (Nat × Instr × Nat) := [(0, .aload_n 0, 1), (1, .getfield 7, 3), (4, .aload_n 0, 1), (5, .getfield 119, 3), (8, .iload_n 1, 1), (9, .iastore, 1), (10, .aload_n 0, 1), (11, .getfield 13, 3), (14, .aload_n 0, 1), (15, .getfield 119, 3), (18, .iconst (-1), 1), (19, .iastore, 1), (20, .iconst 0, 1), (21, .istore_n 2, 1), (22, .iload_n 2, 1), (23, .iconst 3, 1), (24, .if_icmp .ge 23, 3), (27, .aload_n 0, 1), (28, .getfield 16, 3), (31, .iconst 3, 1), (32, .aload_n 0, 1), (33, .getfield 119, 3), (36, .imul, 1), (37, .iload_n 2, 1), (38, .iadd, 1), (39, .iconst (-1), 1), (40, .iastore, 1), (41, .iinc 2 1, 3), (44, .goto (-22), 3), (47, .aload_n 0, 1), (48, .getfield 19, 3), (51, .aload_n 0, 1), (52, .getfield 119, 3), (55, .lconst 0, 1), (56, .lastore, 1), (57, .aload_n 0, 1), (58, .getfield 27, 3), (61, .aload_n 0, 1), (62, .getfield 119, 3), (65, .iconst 0, 1), (66, .bastore, 1), (67, .aload_n 0, 1), (68, .dup, 1), (69, .getfield 119, 3), (72, .iconst 1, 1), (73, .iadd, 1), (74, .putfield 119, 3), (77, .aload_n 0, 1), (78, .invokevirtual 133, 3), (81, .aload_n 0, 1), (82, .getfield 119, 3), (85, .iconst 1, 1), (86, .isub, 1), (87, .ireturn, 1)]
set_option maxRecDepth 100000 in
theorem iX10_adds_ok : iX10_adds.all (fun q => decide (decode cX10_adds q.1 = .ok (q.2.1, q.2.2))) = true := by decide +kernel
def iX10_input : List (Nat × Instr × Nat) := [(0, .aload_n 0, 1), (1, .iconst 0, 1), (2, .putfield 112, 3), (5, .aload_n 0, 1), (6, .getfield 119, 3), (9, .bipush 40, 2), (11, .if_icmp .ne 7, 3), (14, .iconst (-1), 1), (15, .goto 8, 3), (18, .aload_n 0, 1), (19, .iconst 0, 1), (20, .invokevirtual 136, 3), (23, .ireturn, 1)]
set_option maxRecDepth 100000 in
theorem iX10_input_ok : iX10_input.all (fun q => decide (decode cX10_input q.1 = .ok (q.2.1, q.2.2))) = true := by decide +kernel
def iX10_gate : List (Nat × Instr × Nat) := [(0, .aload_n 0, 1), (1, .iconst 0, 1), (2, .putfield 112, 3), (5, .iload_n 1, 1), (6, .iconst 0, 1), (7, .bipush 6, 2), (9, .invokestatic 140, 3), (12, .ifCond .eq 24, 3), (15, .aload_n 0, 1), (16, .getfield 119, 3), (19, .bipush 40, 2), (21, .if_icmp .ge 15, 3), (24, .aload_n 0, 1), (25, .iload_n 2, 1), (26, .invokevirtual 122, 3), (29, .ifCond .eq 7, 3), (32, .iconst 1, 1), (33, .goto 4, 3), (36, .iconst 0, 1), (37, .istore 5, 2), (39, .iload 5, 2), (41, .ifCond .eq 10, 3), (44, .iload_n 1, 1), (45, .invokestatic 144, 3), (48, .goto 4, 3), (51, .iconst 0, 1), (52, .istore 6, 2), (54, .iload 5, 2), (56, .ifCond .eq 32, 3), (59, .iload 6, 2), (61, .iconst 1, 1), (62, .if_icmp .le 11, 3), (65, .aload_n 0, 1), (66, .iload_n 3, 1), (67, .invokevirtual 122, 3), (70, .ifCond .eq 18, 3), (73, .iload 6, 2), (75, .iconst 2, 1), (76, .if_icmp .le 14, 3), (79, .aload_n 0, 1), (80, .iload 4, 2), (82, .invokevirtual 122, 3), (85, .ifCond .ne 5, 3), (88, .iconst (-1), 1), (89, .ireturn, 1), (90, .aload_n 0, 1), (91, .iconst 1, 1), (92, .invokevirtual 136, 3), (95, .istore 7, 2), (97, .aload_n 0, 1), (98, .getfield 13, 3), (101, .iload 7, 2), (103, .iload_n 1, 1), (104, .iastore, 1), (105, .iconst 0, 1), (106, .istore 8, 2), (108, .iload 8, 2), (110, .iload 6, 2), (112, .if_icmp .ge 68, 3), (115, .iload 8, 2), (117, .ifCond .ne 7, 3), (120, .iload_n 2, 1), (121, .goto 15, 3), (124, .iload 8, 2), (126, .iconst 1, 1), (127, .if_icmp .ne 7, 3), (130, .iload_n 3, 1), (131, .goto 5, 3), (134, .iload 4, 2), (136, .istore 9, 2), (138, .aload_n 0, 1), (139, .getfield 16, 3), (142, .iconst 3, 1), (143, .iload 7, 2), (145, .imul, 1), (146, .iload 8, 2), (148, .iadd, 1), (149, .iload 9, 2), (151, .iastore, 1), (152, .aload_n 0, 1), (153, .getfield 19, 3), (156, .iload 7, 2), (158, .dup2, 1), (159, .laload, 1), (160, .aload_n 0, 1), (161, .getfield 19, 3), (164, .iload 9, 2), (166, .laload, 1), (167, .lconst 1, 1), (168, .iload 9, 2), (170, .lshl, 1), (171, .lor, 1), (172, .lor, 1), (173, .lastore, 1), (174, .iinc 8 1, 3), (177, .goto (-69), 3), (180, .iload 7, 2), (182, .ireturn, 1)]
set_option maxRecDepth 100000 in
theorem iX10_gate_ok : iX10_gate.all (fun q => decide (decode cX10_gate q.1 = .ok (q.2.1, q.2.2))) = true := by decide +kernel
def iX10_register : List (Nat × Instr × Nat) := [(0, .aload_n 0, 1), (1, .iconst 0, 1), (2, .putfield 112, 3), (5, .aload_n 0, 1), (6, .getfield 119, 3), (9, .bipush 40, 2), (11, .if_icmp .ne 5, 3), (14, .iconst (-1), 1), (15, .ireturn, 1), (16, .aload_n 0, 1), (17, .iconst 2, 1), (18, .invokevirtual 136, 3), (21, .istore_n 1, 1), (22, .aload_n 0, 1), (23, .getfield 16, 3), (26, .iconst 3, 1), (27, .iload_n 1, 1), (28, .imul, 1), (29, .iload_n 1, 1), (30, .iastore, 1), (31, .iload_n 1, 1), (32, .ireturn, 1)]
set_option maxRecDepth 100000 in
theorem iX10_register_ok : iX10_register.all (fun q => decide (decode cX10_register q.1 = .ok (q.2.1, q.2.2))) = true := by decide +kernel
def iX10_feed : List (Nat × Instr × Nat) := [(0, .aload_n 0, 1), (1, .iconst 0, 1), (2, .putfield 112, 3), (5, .aload_n 0, 1), (6, .iload_n 1, 1), (7, .invokevirtual 147, 3), (10, .ifCond .eq 11, 3), (13, .aload_n 0, 1), (14, .iload_n 2, 1), (15, .invokevirtual 122, 3), (18, .ifCond .ne 5, 3), (21, .iconst 0, 1), (22, .ireturn, 1), (23, .aload_n 0, 1), (24, .getfield 16, 3), (27, .iconst 3, 1), (28, .iload_n 1, 1), (29, .imul, 1), (30, .iload_n 2, 1), (31, .iastore, 1), (32, .aload_n 0, 1), (33, .invokevirtual 133, 3), (36, .iconst 1, 1), (37, .ireturn, 1)]
set_option maxRecDepth 100000 in
theorem iX10_feed_ok : iX10_feed.all (fun q => decide (decode cX10_feed q.1 = .ok (q.2.1, q.2.2))) = true := by decide +kernel
def iX10_output : List (Nat × Instr × Nat) := [(0, .aload_n 0, 1), (1, .iconst 0, 1), (2, .putfield 112, 3), (5, .aload_n 0, 1), (6, .iload_n 1, 1), (7, .invokevirtual 122, 3), (10, .ifCond .eq 26, 3), (13, .aload_n 0, 1), (14, .getfield 150, 3), (17, .iload_n 1, 1), (18, .invokestatic 115, 3), (21, .ifCond .ne 15, 3), (24, .aload_n 0, 1), (25, .getfield 150, 3), (28, .invokestatic 154, 3), (31, .bipush 12, 2), (33, .if_icmp .ne 5, 3), (36, .iconst (-1), 1), (37, .ireturn, 1), (38, .aload_n 0, 1), (39, .dup, 1), (40, .getfield 150, 3), (43, .lconst 1, 1), (44, .iload_n 1, 1), (45, .lshl, 1), (46, .lor, 1), (47, .putfield 150, 3), (50, .aload_n 0, 1), (51, .invokevirtual 133, 3), (54, .aload_n 0, 1), (55, .getfield 150, 3), (58, .invokestatic 154, 3), (61, .ireturn, 1)]
set_option maxRecDepth 100000 in
theorem iX10_output_ok : iX10_output.all (fun q => decide (decode cX10_output q.1 = .ok (q.2.1, q.2.2))) = true := by decide +kernel
def iX10_inputs : List (Nat × Instr × Nat) := [(0, .aload_n 0, 1), (1, .iconst 0, 1), (2, .putfield 112, 3), (5, .iload_n 1, 1), (6, .iconst 3, 1), (7, .bipush 6, 2), (9, .invokestatic 140, 3), (12, .ifCond .ne 5, 3), (15, .iconst (-1), 1), (16, .ireturn, 1), (17, .aload_n 0, 1), (18, .getfield 23, 3), (21, .istore_n 2, 1), (22, .aload_n 0, 1), (23, .iload_n 1, 1), (24, .putfield 23, 3), (27, .iload_n 2, 1), (28, .iload_n 1, 1), (29, .if_icmp .eq 7, 3), (32, .aload_n 0, 1), (33, .invokevirtual 133, 3), (36, .iload_n 2, 1), (37, .ireturn, 1)]
set_option maxRecDepth 100000 in
theorem iX10_inputs_ok : iX10_inputs.all (fun q => decide (decode cX10_inputs q.1 = .ok (q.2.1, q.2.2))) = true := by decide +kernel
def iX10_fed : List (Nat × Instr × Nat) := [(0, .lconst 0, 1), (1, .lstore_n 1, 1), (2, .iconst 0, 1), (3, .istore_n 3, 1), (4, .iload_n 3, 1), (5, .aload_n 0, 1), (6, .getfield 119, 3), (9, .if_icmp .ge 36, 3), (12, .lload_n 1, 1), (13, .aload_n 0, 1), (14, .getfield 7, 3), (17, .iload_n 3, 1), (18, .iaload, 1), (19, .iconst 2, 1), (20, .if_icmp .ne 16, 3), (23, .lconst 1, 1), (24, .aload_n 0, 1), (25, .getfield 16, 3), (28, .iconst 3, 1), (29, .iload_n 3, 1), (30, .imul, 1), (31, .iaload, 1), (32, .lshl, 1), (33, .goto 4, 3), (36, .lconst 0, 1), (37, .lor, 1), (38, .lstore_n 1, 1), (39, .iinc 3 1, 3), (42, .goto (-38), 3), (45, .lload_n 1, 1), (46, .lreturn, 1)]
set_option maxRecDepth 100000 in
theorem iX10_fed_ok : iX10_fed.all (fun q => decide (decode cX10_fed q.1 = .ok (q.2.1, q.2.2))) = true := by decide +kernel
def iX10_roots : List (Nat × Instr × Nat) := [(0, .aload_n 0, 1), (1, .getfield 150, 3), (4, .aload_n 0, 1), (5, .invokevirtual 158, 3), (8, .lor, 1), (9, .lreturn, 1)]
set_option maxRecDepth 100000 in
theorem iX10_roots_ok : iX10_roots.all (fun q => decide (decode cX10_roots q.1 = .ok (q.2.1, q.2.2))) = true := by decide +kernel
def iX10_gates : List (Nat × Instr × Nat) := [(0, .lconst 0, 1), (1, .lstore_n 1, 1), (2, .iconst 0, 1), (3, .istore_n 3, 1), (4, .iload_n 3, 1), (5, .aload_n 0, 1), (6, .getfield 119, 3), (9, .if_icmp .ge 29, 3), (12, .lload_n 1, 1), (13, .aload_n 0, 1), (14, .getfield 7, 3), (17, .iload_n 3, 1), (18, .iaload, 1), (19, .iconst 1, 1), (20, .if_icmp .ne 9, 3), (23, .lconst 1, 1), (24, .iload_n 3, 1), (25, .lshl, 1), (26, .goto 4, 3), (29, .lconst 0, 1), (30, .lor, 1), (31, .lstore_n 1, 1), (32, .iinc 3 1, 3), (35, .goto (-31), 3), (38, .lload_n 1, 1), (39, .lreturn, 1)]
set_option maxRecDepth 100000 in
theorem iX10_gates_ok : iX10_gates.all (fun q => decide (decode cX10_gates q.1 = .ok (q.2.1, q.2.2))) = true := by decide +kernel
def iX10_comes : List (Nat × Instr × Nat) := [(0, .aload_n 0, 1), (1, .getfield 43, 3), (4, .iload_n 1, 1), (5, .iaload, 1), (6, .iconst (-1), 1), (7, .if_icmp .ne 30, 3), (10, .aload_n 0, 1), (11, .getfield 43, 3), (14, .iload_n 1, 1), (15, .iload_n 2, 1), (16, .iastore, 1), (17, .aload_n 0, 1), (18, .getfield 46, 3), (21, .aload_n 0, 1), (22, .getfield 162, 3), (25, .iload_n 1, 1), (26, .iastore, 1), (27, .aload_n 0, 1), (28, .dup, 1), (29, .getfield 162, 3), (32, .iconst 1, 1), (33, .iadd, 1), (34, .putfield 162, 3), (37, .return_, 1)]
set_option maxRecDepth 100000 in
theorem iX10_comes_ok : iX10_comes.all (fun q => decide (decode cX10_comes q.1 = .ok (q.2.1, q.2.2))) = true := by decide +kernel
def iX10_room : List (Nat × Instr × Nat) := [(0, .aload_n 0, 1), (1, .getfield 31, 3), (4, .iload_n 1, 1), (5, .iaload, 1), (6, .iload_n 2, 1), (7, .if_icmp .ge 7, 3), (10, .iconst 1, 1), (11, .goto 6, 3), (14, .sipush 1000, 3), (17, .ireturn, 1)]
set_option maxRecDepth 100000 in
theorem iX10_room_ok : iX10_room.all (fun q => decide (decode cX10_room q.1 = .ok (q.2.1, q.2.2))) = true := by decide +kernel
def iX10_spreadsOut : List (Nat × Instr × Nat) := [(0, .iconst 0, 1), (1, .istore_n 2, 1), (2, .iload_n 2, 1), (3, .iconst 3, 1), (4, .if_icmp .ge 47, 3), (7, .aload_n 0, 1), (8, .getfield 7, 3), (11, .iload_n 1, 1), (12, .iaload, 1), (13, .iconst 1, 1), (14, .if_icmp .ne 16, 3), (17, .aload_n 0, 1), (18, .getfield 16, 3), (21, .iconst 3, 1), (22, .iload_n 1, 1), (23, .imul, 1), (24, .iload_n 2, 1), (25, .iadd, 1), (26, .iaload, 1), (27, .goto 4, 3), (30, .iconst (-1), 1), (31, .istore_n 3, 1), (32, .iload_n 3, 1), (33, .ifCond .lt 12, 3), (36, .aload_n 0, 1), (37, .iload_n 3, 1), (38, .bipush 40, 2), (40, .iload_n 1, 1), (41, .iadd, 1), (42, .invokevirtual 165, 3), (45, .iinc 2 1, 3), (48, .goto (-46), 3), (51, .aload_n 0, 1), (52, .getfield 37, 3), (55, .iload_n 1, 1), (56, .iaload, 1), (57, .ifCond .le 12, 3), (60, .aload_n 0, 1), (61, .iload_n 1, 1), (62, .bipush 40, 2), (64, .iload_n 1, 1), (65, .iadd, 1), (66, .invokevirtual 165, 3), (69, .return_, 1)]
set_option maxRecDepth 100000 in
theorem iX10_spreadsOut_ok : iX10_spreadsOut.all (fun q => decide (decode cX10_spreadsOut q.1 = .ok (q.2.1, q.2.2))) = true := by decide +kernel
def iX10_spreadsIn : List (Nat × Instr × Nat) := [(0, .aload_n 0, 1), (1, .getfield 37, 3), (4, .iload_n 1, 1), (5, .iaload, 1), (6, .aload_n 0, 1), (7, .iload_n 1, 1), (8, .iload 4, 2), (10, .invokevirtual 169, 3), (13, .if_icmp .ge 12, 3), (16, .aload_n 0, 1), (17, .bipush 40, 2), (19, .iload_n 1, 1), (20, .iadd, 1), (21, .iload_n 1, 1), (22, .invokevirtual 165, 3), (25, .iconst 0, 1), (26, .istore 5, 2), (28, .iload 5, 2), (30, .aload_n 0, 1), (31, .getfield 119, 3), (34, .if_icmp .ge 85, 3), (37, .iconst 0, 1), (38, .istore 6, 2), (40, .iload 6, 2), (42, .iconst 3, 1), (43, .if_icmp .ge 70, 3), (46, .lload_n 2, 1), (47, .iload 5, 2), (49, .invokestatic 115, 3), (52, .ifCond .eq 61, 3), (55, .aload_n 0, 1), (56, .getfield 7, 3), (59, .iload 5, 2), (61, .iaload, 1), (62, .iconst 1, 1), (63, .if_icmp .ne 50, 3), (66, .aload_n 0, 1), (67, .getfield 16, 3), (70, .iconst 3, 1), (71, .iload 5, 2), (73, .imul, 1), (74, .iload 6, 2), (76, .iadd, 1), (77, .iaload, 1), (78, .iload_n 1, 1), (79, .if_icmp .ne 28, 3), (82, .aload_n 0, 1), (83, .getfield 40, 3), (86, .iconst 3, 1), (87, .iload 5, 2), (89, .imul, 1), (90, .iload 6, 2), (92, .iadd, 1), (93, .iaload, 1), (94, .ifCond .le 13, 3), (97, .aload_n 0, 1), (98, .bipush 40, 2), (100, .iload 5, 2), (102, .iadd, 1), (103, .iload_n 1, 1), (104, .invokevirtual 165, 3), (107, .iinc 6 1, 3), (110, .goto (-70), 3), (113, .iinc 5 1, 3), (116, .goto (-88), 3), (119, .return_, 1)]
set_option maxRecDepth 100000 in
theorem iX10_spreadsIn_ok : iX10_spreadsIn.all (fun q => decide (decode cX10_spreadsIn q.1 = .ok (q.2.1, q.2.2))) = true := by decide +kernel
def iX10_spreads : List (Nat × Instr × Nat) := [(0, .iconst 0, 1), (1, .istore_n 3, 1), (2, .iload_n 3, 1), (3, .bipush 80, 2), (5, .if_icmp .ge 16, 3), (8, .aload_n 0, 1), (9, .getfield 43, 3), (12, .iload_n 3, 1), (13, .iconst (-1), 1), (14, .iastore, 1), (15, .iinc 3 1, 3), (18, .goto (-16), 3), (21, .aload_n 0, 1), (22, .iconst 0, 1), (23, .putfield 162, 3), (26, .aload_n 0, 1), (27, .getfield 19, 3), (30, .iload_n 1, 1), (31, .laload, 1), (32, .lconst 1, 1), (33, .iload_n 1, 1), (34, .lshl, 1), (35, .lor, 1), (36, .lstore_n 3, 1), (37, .aload_n 0, 1), (38, .bipush 40, 2), (40, .iload_n 1, 1), (41, .iadd, 1), (42, .sipush 1000, 3), (45, .invokevirtual 165, 3), (48, .iconst 0, 1), (49, .istore 5, 2), (51, .iload 5, 2), (53, .aload_n 0, 1), (54, .getfield 162, 3), (57, .if_icmp .ge 75, 3), (60, .aload_n 0, 1), (61, .getfield 46, 3), (64, .iload 5, 2), (66, .iaload, 1), (67, .istore 6, 2), (69, .iload 6, 2), (71, .bipush 40, 2), (73, .if_icmp .lt 20, 3), (76, .aload_n 0, 1), (77, .getfield 7, 3), (80, .iload 6, 2), (82, .bipush 40, 2), (84, .isub, 1), (85, .iaload, 1), (86, .iconst 1, 1), (87, .if_icmp .eq 6, 3), (90, .iload 6, 2), (92, .ireturn, 1), (93, .iload 6, 2), (95, .bipush 40, 2), (97, .if_icmp .lt 15, 3), (100, .aload_n 0, 1), (101, .iload 6, 2), (103, .bipush 40, 2), (105, .isub, 1), (106, .invokevirtual 173, 3), (109, .goto 17, 3), (112, .iload 6, 2), (114, .iload_n 1, 1), (115, .if_icmp .eq 11, 3), (118, .aload_n 0, 1), (119, .iload 6, 2), (121, .lload_n 3, 1), (122, .iload_n 2, 1), (123, .invokevirtual 177, 3), (126, .iinc 5 1, 3), (129, .goto (-78), 3), (132, .iconst (-1), 1), (133, .ireturn, 1)]
set_option maxRecDepth 100000 in
theorem iX10_spreads_ok : iX10_spreads.all (fun q => decide (decode cX10_spreads q.1 = .ok (q.2.1, q.2.2))) = true := by decide +kernel
def iX10_slotOf : List (Nat × Instr × Nat) := [(0, .iconst 0, 1), (1, .istore 4, 2), (3, .iload 4, 2), (5, .iconst 3, 1), (6, .if_icmp .ge 49, 3), (9, .aload_n 0, 1), (10, .getfield 16, 3), (13, .iconst 3, 1), (14, .iload_n 1, 1), (15, .imul, 1), (16, .iload 4, 2), (18, .iadd, 1), (19, .iaload, 1), (20, .iload_n 2, 1), (21, .if_icmp .ne 28, 3), (24, .iload_n 3, 1), (25, .ifCond .eq 17, 3), (28, .aload_n 0, 1), (29, .getfield 40, 3), (32, .iconst 3, 1), (33, .iload_n 1, 1), (34, .imul, 1), (35, .iload 4, 2), (37, .iadd, 1), (38, .iaload, 1), (39, .ifCond .le 10, 3), (42, .iconst 3, 1), (43, .iload_n 1, 1), (44, .imul, 1), (45, .iload 4, 2), (47, .iadd, 1), (48, .ireturn, 1), (49, .iinc 4 1, 3), (52, .goto (-49), 3), (55, .iconst (-1), 1), (56, .ireturn, 1)]
set_option maxRecDepth 100000 in
theorem iX10_slotOf_ok : iX10_slotOf.all (fun q => decide (decode cX10_slotOf q.1 = .ok (q.2.1, q.2.2))) = true := by decide +kernel
def iX10_flows : List (Nat × Instr × Nat) := [(0, .iload_n 1, 1), (1, .istore_n 2, 1), (2, .aload_n 0, 1), (3, .getfield 43, 3), (6, .iload_n 2, 1), (7, .iaload, 1), (8, .sipush 1000, 3), (11, .if_icmp .eq 103, 3), (14, .aload_n 0, 1), (15, .getfield 43, 3), (18, .iload_n 2, 1), (19, .iaload, 1), (20, .istore_n 3, 1), (21, .iload_n 3, 1), (22, .bipush 40, 2), (24, .irem, 1), (25, .istore 4, 2), (27, .iload_n 2, 1), (28, .bipush 40, 2), (30, .irem, 1), (31, .istore 5, 2), (33, .iload 4, 2), (35, .iload 5, 2), (37, .if_icmp .ne 27, 3), (40, .aload_n 0, 1), (41, .getfield 37, 3), (44, .iload 4, 2), (46, .dup2, 1), (47, .iaload, 1), (48, .iload_n 3, 1), (49, .bipush 40, 2), (51, .if_icmp .ge 7, 3), (54, .iconst 1, 1), (55, .goto 4, 3), (58, .iconst (-1), 1), (59, .iadd, 1), (60, .iastore, 1), (61, .goto 48, 3), (64, .iload_n 3, 1), (65, .bipush 40, 2), (67, .if_icmp .lt 24, 3), (70, .aload_n 0, 1), (71, .getfield 40, 3), (74, .aload_n 0, 1), (75, .iload 4, 2), (77, .iload 5, 2), (79, .iconst 0, 1), (80, .invokevirtual 181, 3), (83, .dup2, 1), (84, .iaload, 1), (85, .iconst 1, 1), (86, .iadd, 1), (87, .iastore, 1), (88, .goto 21, 3), (91, .aload_n 0, 1), (92, .getfield 40, 3), (95, .aload_n 0, 1), (96, .iload 5, 2), (98, .iload 4, 2), (100, .iconst 1, 1), (101, .invokevirtual 181, 3), (104, .dup2, 1), (105, .iaload, 1), (106, .iconst 1, 1), (107, .isub, 1), (108, .iastore, 1), (109, .iload_n 3, 1), (110, .istore_n 2, 1), (111, .goto (-109), 3), (114, .return_, 1)]
set_option maxRecDepth 100000 in
theorem iX10_flows_ok : iX10_flows.all (fun q => decide (decode cX10_flows q.1 = .ok (q.2.1, q.2.2))) = true := by decide +kernel
def iX10_isCutOff : List (Nat × Instr × Nat) := [(0, .iconst 0, 1), (1, .istore_n 3, 1), (2, .iload_n 3, 1), (3, .bipush 120, 2), (5, .if_icmp .ge 16, 3), (8, .aload_n 0, 1), (9, .getfield 40, 3), (12, .iload_n 3, 1), (13, .iconst 0, 1), (14, .iastore, 1), (15, .iinc 3 1, 3), (18, .goto (-16), 3), (21, .iconst 0, 1), (22, .istore_n 3, 1), (23, .iload_n 3, 1), (24, .bipush 40, 2), (26, .if_icmp .ge 16, 3), (29, .aload_n 0, 1), (30, .getfield 37, 3), (33, .iload_n 3, 1), (34, .iconst 0, 1), (35, .iastore, 1), (36, .iinc 3 1, 3), (39, .goto (-16), 3), (42, .iconst 0, 1), (43, .istore_n 3, 1), (44, .aload_n 0, 1), (45, .iload_n 1, 1), (46, .iload_n 2, 1), (47, .invokevirtual 185, 3), (50, .istore 4, 2), (52, .iload 4, 2), (54, .ifCond .lt 31, 3), (57, .iload_n 3, 1), (58, .aload_n 0, 1), (59, .getfield 23, 3), (62, .if_icmp .gt 23, 3), (65, .aload_n 0, 1), (66, .iload 4, 2), (68, .invokevirtual 188, 3), (71, .iinc 3 1, 3), (74, .aload_n 0, 1), (75, .iload_n 1, 1), (76, .iload_n 2, 1), (77, .invokevirtual 185, 3), (80, .istore 4, 2), (82, .goto (-30), 3), (85, .aload_n 0, 1), (86, .getfield 34, 3), (89, .iload_n 1, 1), (90, .lconst 0, 1), (91, .lastore, 1), (92, .iconst 0, 1), (93, .istore 5, 2), (95, .iload 5, 2), (97, .aload_n 0, 1), (98, .getfield 119, 3), (101, .if_icmp .ge 51, 3), (104, .aload_n 0, 1), (105, .getfield 34, 3), (108, .iload_n 1, 1), (109, .dup2, 1), (110, .laload, 1), (111, .aload_n 0, 1), (112, .getfield 43, 3), (115, .iload 5, 2), (117, .iaload, 1), (118, .iconst (-1), 1), (119, .if_icmp .eq 24, 3), (122, .aload_n 0, 1), (123, .getfield 43, 3), (126, .bipush 40, 2), (128, .iload 5, 2), (130, .iadd, 1), (131, .iaload, 1), (132, .iconst (-1), 1), (133, .if_icmp .ne 10, 3), (136, .lconst 1, 1), (137, .iload 5, 2), (139, .lshl, 1), (140, .goto 4, 3), (143, .lconst 0, 1), (144, .lor, 1), (145, .lastore, 1), (146, .iinc 5 1, 3), (149, .goto (-54), 3), (152, .iload 4, 2), (154, .ifCond .ge 15, 3), (157, .iload_n 3, 1), (158, .aload_n 0, 1), (159, .getfield 23, 3), (162, .if_icmp .gt 7, 3), (165, .iconst 1, 1), (166, .goto 4, 3), (169, .iconst 0, 1), (170, .ireturn, 1)]
set_option maxRecDepth 100000 in
theorem iX10_isCutOff_ok : iX10_isCutOff.all (fun q => decide (decode cX10_isCutOff q.1 = .ok (q.2.1, q.2.2))) = true := by decide +kernel
def iX10_greatestIn : List (Nat × Instr × Nat) := [(0, .iconst 0, 1), (1, .istore_n 3, 1), (2, .iconst 0, 1), (3, .istore 4, 2), (5, .iload 4, 2), (7, .aload_n 0, 1), (8, .getfield 119, 3), (11, .if_icmp .ge 41, 3), (14, .lload_n 1, 1), (15, .iload 4, 2), (17, .invokestatic 115, 3), (20, .ifCond .eq 24, 3), (23, .aload_n 0, 1), (24, .getfield 31, 3), (27, .iload 4, 2), (29, .iaload, 1), (30, .iload_n 3, 1), (31, .if_icmp .le 13, 3), (34, .aload_n 0, 1), (35, .getfield 31, 3), (38, .iload 4, 2), (40, .iaload, 1), (41, .goto 4, 3), (44, .iload_n 3, 1), (45, .istore_n 3, 1), (46, .iinc 4 1, 3), (49, .goto (-44), 3), (52, .iload_n 3, 1), (53, .ireturn, 1)]
set_option maxRecDepth 100000 in
theorem iX10_greatestIn_ok : iX10_greatestIn.all (fun q => decide (decode cX10_greatestIn q.1 = .ok (q.2.1, q.2.2))) = true := by decide +kernel
def iX10_isAhead : List (Nat × Instr × Nat) := [(0, .aload_n 0, 1), (1, .lload_n 1, 1), (2, .invokevirtual 191, 3), (5, .istore 5, 2), (7, .aload_n 0, 1), (8, .lload_n 3, 1), (9, .invokevirtual 191, 3), (12, .istore 6, 2), (14, .iload 5, 2), (16, .iload 6, 2), (18, .if_icmp .ne 14, 3), (21, .lload_n 1, 1), (22, .invokestatic 154, 3), (25, .lload_n 3, 1), (26, .invokestatic 154, 3), (29, .if_icmp .eq 42, 3), (32, .iload 5, 2), (34, .iload 6, 2), (36, .if_icmp .eq 18, 3), (39, .iload 5, 2), (41, .iload 6, 2), (43, .if_icmp .ge 7, 3), (46, .iconst 1, 1), (47, .goto 23, 3), (50, .iconst 0, 1), (51, .goto 19, 3), (54, .lload_n 1, 1), (55, .invokestatic 154, 3), (58, .lload_n 3, 1), (59, .invokestatic 154, 3), (62, .if_icmp .ge 7, 3), (65, .iconst 1, 1), (66, .goto 4, 3), (69, .iconst 0, 1), (70, .ireturn, 1), (71, .lload_n 1, 1), (72, .lload_n 3, 1), (73, .lcmp, 1), (74, .ifCond .eq 20, 3), (77, .lload_n 1, 1), (78, .lload_n 1, 1), (79, .lload_n 3, 1), (80, .lxor, 1), (81, .invokestatic 194, 3), (84, .invokestatic 115, 3), (87, .ifCond .eq 7, 3), (90, .iconst 1, 1), (91, .goto 4, 3), (94, .iconst 0, 1), (95, .ireturn, 1)]
set_option maxRecDepth 100000 in
theorem iX10_isAhead_ok : iX10_isAhead.all (fun q => decide (decode cX10_isAhead q.1 = .ok (q.2.1, q.2.2))) = true := by decide +kernel
def iX10_makes : List (Nat × Instr × Nat) := [(0, .lload_n 1, 1), (1, .invokestatic 154, 3), (4, .aload_n 0, 1), (5, .getfield 23, 3), (8, .if_icmp .gt 7, 3), (11, .iconst 1, 1), (12, .goto 4, 3), (15, .iconst 0, 1), (16, .istore_n 3, 1), (17, .iconst 0, 1), (18, .istore 4, 2), (20, .iload 4, 2), (22, .aload_n 0, 1), (23, .getfield 197, 3), (26, .if_icmp .ge 31, 3), (29, .iload_n 3, 1), (30, .ifCond .eq 19, 3), (33, .aload_n 0, 1), (34, .getfield 55, 3), (37, .iload 4, 2), (39, .laload, 1), (40, .lload_n 1, 1), (41, .lcmp, 1), (42, .ifCond .eq 7, 3), (45, .iconst 1, 1), (46, .goto 4, 3), (49, .iconst 0, 1), (50, .istore_n 3, 1), (51, .iinc 4 1, 3), (54, .goto (-34), 3), (57, .iload_n 3, 1), (58, .ifCond .eq 23, 3), (61, .aload_n 0, 1), (62, .getfield 55, 3), (65, .aload_n 0, 1), (66, .getfield 197, 3), (69, .lload_n 1, 1), (70, .lastore, 1), (71, .aload_n 0, 1), (72, .dup, 1), (73, .getfield 197, 3), (76, .iconst 1, 1), (77, .iadd, 1), (78, .putfield 197, 3), (81, .return_, 1)]
set_option maxRecDepth 100000 in
theorem iX10_makes_ok : iX10_makes.all (fun q => decide (decode cX10_makes q.1 = .ok (q.2.1, q.2.2))) = true := by decide +kernel
def iX10_setOf : List (Nat × Instr × Nat) := [(0, .iload_n 2, 1), (1, .ifCond .ne 9, 3), (4, .lconst 1, 1), (5, .iload_n 1, 1), (6, .lshl, 1), (7, .goto 40, 3), (10, .aload_n 0, 1), (11, .getfield 7, 3), (14, .iload_n 1, 1), (15, .iaload, 1), (16, .iconst 1, 1), (17, .if_icmp .ne 29, 3), (20, .iload_n 2, 1), (21, .aload_n 0, 1), (22, .getfield 52, 3), (25, .iload_n 1, 1), (26, .iaload, 1), (27, .if_icmp .gt 19, 3), (30, .aload_n 0, 1), (31, .getfield 49, 3), (34, .bipush 8, 2), (36, .iload_n 1, 1), (37, .imul, 1), (38, .iload_n 2, 1), (39, .iadd, 1), (40, .iconst 1, 1), (41, .isub, 1), (42, .laload, 1), (43, .goto 4, 3), (46, .lconst 0, 1), (47, .lreturn, 1)]
set_option maxRecDepth 100000 in
theorem iX10_setOf_ok : iX10_setOf.all (fun q => decide (decode cX10_setOf q.1 = .ok (q.2.1, q.2.2))) = true := by decide +kernel
def iX10_laysKept : List (Nat × Instr × Nat) := [(0, .aload_n 0, 1), (1, .iconst 0, 1), (2, .putfield 197, 3), (5, .aload_n 0, 1), (6, .aload_n 0, 1), (7, .getfield 34, 3), (10, .iload_n 1, 1), (11, .laload, 1), (12, .invokevirtual 200, 3), (15, .aload_n 0, 1), (16, .getfield 13, 3), (19, .iload_n 1, 1), (20, .iaload, 1), (21, .invokestatic 144, 3), (24, .istore_n 2, 1), (25, .bipush 9, 2), (27, .istore_n 3, 1), (28, .iconst 0, 1), (29, .istore 4, 2), (31, .iload 4, 2), (33, .iload_n 2, 1), (34, .iconst 1, 1), (35, .if_icmp .ne 7, 3), (38, .iload_n 3, 1), (39, .goto 19, 3), (42, .iload_n 2, 1), (43, .iconst 2, 1), (44, .if_icmp .ne 9, 3), (47, .iload_n 3, 1), (48, .iload_n 3, 1), (49, .imul, 1), (50, .goto 8, 3), (53, .iload_n 3, 1), (54, .iload_n 3, 1), (55, .imul, 1), (56, .iload_n 3, 1), (57, .imul, 1), (58, .if_icmp .ge 124, 3), (61, .aload_n 0, 1), (62, .aload_n 0, 1), (63, .getfield 16, 3), (66, .iconst 3, 1), (67, .iload_n 1, 1), (68, .imul, 1), (69, .iaload, 1), (70, .iload 4, 2), (72, .iload_n 3, 1), (73, .irem, 1), (74, .invokevirtual 204, 3), (77, .lstore 5, 2), (79, .iload_n 2, 1), (80, .iconst 1, 1), (81, .if_icmp .le 26, 3), (84, .aload_n 0, 1), (85, .aload_n 0, 1), (86, .getfield 16, 3), (89, .iconst 3, 1), (90, .iload_n 1, 1), (91, .imul, 1), (92, .iconst 1, 1), (93, .iadd, 1), (94, .iaload, 1), (95, .iload 4, 2), (97, .iload_n 3, 1), (98, .idiv, 1), (99, .iload_n 3, 1), (100, .irem, 1), (101, .invokevirtual 204, 3), (104, .goto 5, 3), (107, .lload 5, 2), (109, .lstore 7, 2), (111, .iload_n 2, 1), (112, .iconst 2, 1), (113, .if_icmp .le 26, 3), (116, .aload_n 0, 1), (117, .aload_n 0, 1), (118, .getfield 16, 3), (121, .iconst 3, 1), (122, .iload_n 1, 1), (123, .imul, 1), (124, .iconst 2, 1), (125, .iadd, 1), (126, .iaload, 1), (127, .iload 4, 2), (129, .iload_n 3, 1), (130, .idiv, 1), (131, .iload_n 3, 1), (132, .idiv, 1), (133, .invokevirtual 204, 3), (136, .goto 5, 3), (139, .lload 5, 2), (141, .lstore 9, 2), (143, .lload 5, 2), (145, .lconst 0, 1), (146, .lcmp, 1), (147, .ifCond .eq 29, 3), (150, .lload 7, 2), (152, .lconst 0, 1), (153, .lcmp, 1), (154, .ifCond .eq 22, 3), (157, .lload 9, 2), (159, .lconst 0, 1), (160, .lcmp, 1), (161, .ifCond .eq 15, 3), (164, .aload_n 0, 1), (165, .lload 5, 2), (167, .lload 7, 2), (169, .lor, 1), (170, .lload 9, 2), (172, .lor, 1), (173, .invokevirtual 200, 3), (176, .iinc 4 1, 3), (179, .goto (-148), 3), (182, .iconst 0, 1), (183, .istore 4, 2), (185, .iconst 0, 1), (186, .istore 5, 2), (188, .iload 5, 2), (190, .aload_n 0, 1), (191, .getfield 197, 3), (194, .if_icmp .ge 99, 3), (197, .iconst 1, 1), (198, .istore 6, 2), (200, .iconst 0, 1), (201, .istore 7, 2), (203, .iload 7, 2), (205, .aload_n 0, 1), (206, .getfield 197, 3), (209, .if_icmp .ge 52, 3), (212, .iload 6, 2), (214, .ifCond .eq 38, 3), (217, .iload 7, 2), (219, .iload 5, 2), (221, .if_icmp .eq 27, 3), (224, .aload_n 0, 1), (225, .getfield 55, 3), (228, .iload 7, 2), (230, .laload, 1), (231, .aload_n 0, 1), (232, .getfield 55, 3), (235, .iload 5, 2), (237, .laload, 1), (238, .ldc2_w 208, 3), (241, .lxor, 1), (242, .land, 1), (243, .lconst 0, 1), (244, .lcmp, 1), (245, .ifCond .eq 7, 3), (248, .iconst 1, 1), (249, .goto 4, 3), (252, .iconst 0, 1), (253, .istore 6, 2), (255, .iinc 7 1, 3), (258, .goto (-55), 3), (261, .iload 6, 2), (263, .ifCond .eq 20, 3), (266, .aload_n 0, 1), (267, .iload_n 1, 1), (268, .aload_n 0, 1), (269, .getfield 55, 3), (272, .iload 5, 2), (274, .laload, 1), (275, .iload 4, 2), (277, .invokevirtual 210, 3), (280, .goto 5, 3), (283, .iload 4, 2), (285, .istore 4, 2), (287, .iinc 5 1, 3), (290, .goto (-102), 3), (293, .aload_n 0, 1), (294, .getfield 52, 3), (297, .iload_n 1, 1), (298, .iload 4, 2), (300, .iastore, 1), (301, .return_, 1)]
set_option maxRecDepth 100000 in
theorem iX10_laysKept_ok : iX10_laysKept.all (fun q => decide (decode cX10_laysKept q.1 = .ok (q.2.1, q.2.2))) = true := by decide +kernel
def iX10_puts : List (Nat × Instr × Nat) := [(0, .iload 4, 2), (2, .istore 5, 2), (4, .iload 5, 2), (6, .ifCond .le 31, 3), (9, .aload_n 0, 1), (10, .lload_n 2, 1), (11, .aload_n 0, 1), (12, .getfield 49, 3), (15, .bipush 8, 2), (17, .iload_n 1, 1), (18, .imul, 1), (19, .iload 5, 2), (21, .iadd, 1), (22, .iconst 1, 1), (23, .isub, 1), (24, .laload, 1), (25, .invokevirtual 214, 3), (28, .ifCond .eq 9, 3), (31, .iinc 5 (-1), 3), (34, .goto (-30), 3), (37, .iload 5, 2), (39, .bipush 8, 2), (41, .if_icmp .ne 6, 3), (44, .iload 4, 2), (46, .ireturn, 1), (47, .iload 4, 2), (49, .bipush 8, 2), (51, .if_icmp .ge 8, 3), (54, .iload 4, 2), (56, .goto 5, 3), (59, .bipush 7, 2), (61, .istore 6, 2), (63, .iload 6, 2), (65, .istore 7, 2), (67, .iload 7, 2), (69, .iload 5, 2), (71, .if_icmp .le 35, 3), (74, .aload_n 0, 1), (75, .getfield 49, 3), (78, .bipush 8, 2), (80, .iload_n 1, 1), (81, .imul, 1), (82, .iload 7, 2), (84, .iadd, 1), (85, .aload_n 0, 1), (86, .getfield 49, 3), (89, .bipush 8, 2), (91, .iload_n 1, 1), (92, .imul, 1), (93, .iload 7, 2), (95, .iadd, 1), (96, .iconst 1, 1), (97, .isub, 1), (98, .laload, 1), (99, .lastore, 1), (100, .iinc 7 (-1), 3), (103, .goto (-36), 3), (106, .aload_n 0, 1), (107, .getfield 49, 3), (110, .bipush 8, 2), (112, .iload_n 1, 1), (113, .imul, 1), (114, .iload 5, 2), (116, .iadd, 1), (117, .lload_n 2, 1), (118, .lastore, 1), (119, .iload 4, 2), (121, .bipush 8, 2), (123, .if_icmp .ge 10, 3), (126, .iload 4, 2), (128, .iconst 1, 1), (129, .iadd, 1), (130, .goto 5, 3), (133, .iload 4, 2), (135, .ireturn, 1)]
set_option maxRecDepth 100000 in
theorem iX10_puts_ok : iX10_puts.all (fun q => decide (decode cX10_puts q.1 = .ok (q.2.1, q.2.2))) = true := by decide +kernel
def iX10_lays : List (Nat × Instr × Nat) := [(0, .aload_n 0, 1), (1, .getfield 130, 3), (4, .ifCond .eq 4, 3), (7, .return_, 1), (8, .aload_n 0, 1), (9, .iconst 1, 1), (10, .putfield 130, 3), (13, .iconst 0, 1), (14, .istore_n 1, 1), (15, .iload_n 1, 1), (16, .aload_n 0, 1), (17, .getfield 119, 3), (20, .if_icmp .ge 78, 3), (23, .aload_n 0, 1), (24, .getfield 31, 3), (27, .iload_n 1, 1), (28, .iconst 0, 1), (29, .iastore, 1), (30, .aload_n 0, 1), (31, .getfield 34, 3), (34, .iload_n 1, 1), (35, .lconst 0, 1), (36, .lastore, 1), (37, .aload_n 0, 1), (38, .getfield 52, 3), (41, .iload_n 1, 1), (42, .iconst 0, 1), (43, .iastore, 1), (44, .aload_n 0, 1), (45, .getfield 7, 3), (48, .iload_n 1, 1), (49, .iaload, 1), (50, .iconst 1, 1), (51, .if_icmp .ne 41, 3), (54, .aload_n 0, 1), (55, .getfield 31, 3), (58, .iload_n 1, 1), (59, .sipush 1000, 3), (62, .iastore, 1), (63, .iconst 1, 1), (64, .istore_n 2, 1), (65, .aload_n 0, 1), (66, .iload_n 1, 1), (67, .iload_n 2, 1), (68, .invokevirtual 218, 3), (71, .ifCond .ne 9, 3), (74, .iinc 2 1, 3), (77, .goto (-12), 3), (80, .aload_n 0, 1), (81, .getfield 31, 3), (84, .iload_n 1, 1), (85, .iload_n 2, 1), (86, .iastore, 1), (87, .aload_n 0, 1), (88, .iload_n 1, 1), (89, .invokevirtual 222, 3), (92, .iinc 1 1, 3), (95, .goto (-80), 3), (98, .return_, 1)]
set_option maxRecDepth 100000 in
theorem iX10_lays_ok : iX10_lays.all (fun q => decide (decode cX10_lays q.1 = .ok (q.2.1, q.2.2))) = true := by decide +kernel
def iX10_coneOf : List (Nat × Instr × Nat) := [(0, .lconst 1, 1), (1, .iload_n 1, 1), (2, .lshl, 1), (3, .lstore 4, 2), (5, .iload_n 1, 1), (6, .istore 6, 2), (8, .iload 6, 2), (10, .ifCond .lt 86, 3), (13, .iconst 0, 1), (14, .istore 7, 2), (16, .iload 7, 2), (18, .iconst 3, 1), (19, .if_icmp .ge 71, 3), (22, .lload 4, 2), (24, .iload 6, 2), (26, .invokestatic 115, 3), (29, .ifCond .eq 61, 3), (32, .aload_n 0, 1), (33, .getfield 16, 3), (36, .iconst 3, 1), (37, .iload 6, 2), (39, .imul, 1), (40, .iload 7, 2), (42, .iadd, 1), (43, .iaload, 1), (44, .istore 8, 2), (46, .lload 4, 2), (48, .iload 8, 2), (50, .ifCond .lt 30, 3), (53, .aload_n 0, 1), (54, .getfield 7, 3), (57, .iload 8, 2), (59, .iaload, 1), (60, .iconst 1, 1), (61, .if_icmp .ne 19, 3), (64, .lload_n 2, 1), (65, .iload 8, 2), (67, .invokestatic 115, 3), (70, .ifCond .ne 10, 3), (73, .lconst 1, 1), (74, .iload 8, 2), (76, .lshl, 1), (77, .goto 4, 3), (80, .lconst 0, 1), (81, .lor, 1), (82, .lstore 4, 2), (84, .iinc 7 1, 3), (87, .goto (-71), 3), (90, .iinc 6 (-1), 3), (93, .goto (-85), 3), (96, .lload 4, 2), (98, .lreturn, 1)]
set_option maxRecDepth 100000 in
theorem iX10_coneOf_ok : iX10_coneOf.all (fun q => decide (decode cX10_coneOf q.1 = .ok (q.2.1, q.2.2))) = true := by decide +kernel
def iX10_rootDepth : List (Nat × Instr × Nat) := [(0, .aload_n 0, 1), (1, .aload_n 0, 1), (2, .invokevirtual 225, 3), (5, .invokevirtual 191, 3), (8, .ireturn, 1)]
set_option maxRecDepth 100000 in
theorem iX10_rootDepth_ok : iX10_rootDepth.all (fun q => decide (decode cX10_rootDepth q.1 = .ok (q.2.1, q.2.2))) = true := by decide +kernel
def iX10_node : List (Nat × Instr × Nat) := [(0, .aload_n 0, 1), (1, .iconst 0, 1), (2, .putfield 112, 3), (5, .aload_n 0, 1), (6, .invokevirtual 228, 3), (9, .aload_n 0, 1), (10, .iload_n 1, 1), (11, .invokevirtual 122, 3), (14, .ifCond .ne 5, 3), (17, .iconst (-1), 1), (18, .ireturn, 1), (19, .iload_n 2, 1), (20, .tableswitch 109 0 7 #[48, 55, 62, 62, 62, 75, 82, 99], 48), (68, .aload_n 0, 1), (69, .getfield 7, 3), (72, .iload_n 1, 1), (73, .iaload, 1), (74, .ireturn, 1), (75, .aload_n 0, 1), (76, .getfield 13, 3), (79, .iload_n 1, 1), (80, .iaload, 1), (81, .ireturn, 1), (82, .aload_n 0, 1), (83, .getfield 16, 3), (86, .iconst 3, 1), (87, .iload_n 1, 1), (88, .imul, 1), (89, .iload_n 2, 1), (90, .iadd, 1), (91, .iconst 2, 1), (92, .isub, 1), (93, .iaload, 1), (94, .ireturn, 1), (95, .aload_n 0, 1), (96, .getfield 31, 3), (99, .iload_n 1, 1), (100, .iaload, 1), (101, .ireturn, 1), (102, .aload_n 0, 1), (103, .invokevirtual 225, 3), (106, .iload_n 1, 1), (107, .invokestatic 115, 3), (110, .ifCond .eq 7, 3), (113, .iconst 1, 1), (114, .goto 4, 3), (117, .iconst 0, 1), (118, .ireturn, 1), (119, .aload_n 0, 1), (120, .getfield 19, 3), (123, .iload_n 1, 1), (124, .laload, 1), (125, .invokestatic 154, 3), (128, .ireturn, 1), (129, .iconst (-1), 1), (130, .ireturn, 1)]
set_option maxRecDepth 100000 in
theorem iX10_node_ok : iX10_node.all (fun q => decide (decode cX10_node q.1 = .ok (q.2.1, q.2.2))) = true := by decide +kernel
def iX10_near : List (Nat × Instr × Nat) := [(0, .aload_n 0, 1), (1, .iconst 0, 1), (2, .putfield 112, 3), (5, .aload_n 0, 1), (6, .invokevirtual 228, 3), (9, .aload_n 0, 1), (10, .iload_n 1, 1), (11, .invokevirtual 231, 3), (14, .ifCond .eq 8, 3), (17, .iload_n 2, 1), (18, .iconst (-1), 1), (19, .if_icmp .ge 5, 3), (22, .iconst (-1), 1), (23, .ireturn, 1), (24, .iconst 0, 1), (25, .istore_n 3, 1), (26, .iconst 0, 1), (27, .istore 4, 2), (29, .iload 4, 2), (31, .aload_n 0, 1), (32, .getfield 119, 3), (35, .if_icmp .ge 34, 3), (38, .aload_n 0, 1), (39, .getfield 34, 3), (42, .iload_n 1, 1), (43, .laload, 1), (44, .iload 4, 2), (46, .invokestatic 115, 3), (49, .ifCond .eq 14, 3), (52, .iload_n 3, 1), (53, .iload_n 2, 1), (54, .if_icmp .ne 6, 3), (57, .iload 4, 2), (59, .ireturn, 1), (60, .iinc 3 1, 3), (63, .iinc 4 1, 3), (66, .goto (-37), 3), (69, .iload_n 2, 1), (70, .iconst (-1), 1), (71, .if_icmp .ne 7, 3), (74, .iload_n 3, 1), (75, .goto 4, 3), (78, .iconst (-1), 1), (79, .ireturn, 1)]
set_option maxRecDepth 100000 in
theorem iX10_near_ok : iX10_near.all (fun q => decide (decode cX10_near q.1 = .ok (q.2.1, q.2.2))) = true := by decide +kernel
def iX10_cone : List (Nat × Instr × Nat) := [(0, .aload_n 0, 1), (1, .iconst 0, 1), (2, .putfield 112, 3), (5, .aload_n 0, 1), (6, .invokevirtual 228, 3), (9, .aload_n 0, 1), (10, .iload_n 1, 1), (11, .invokevirtual 231, 3), (14, .ifCond .eq 20, 3), (17, .aload_n 0, 1), (18, .iload_n 1, 1), (19, .aload_n 0, 1), (20, .getfield 34, 3), (23, .iload_n 1, 1), (24, .laload, 1), (25, .invokevirtual 234, 3), (28, .invokestatic 154, 3), (31, .goto 4, 3), (34, .iconst (-1), 1), (35, .ireturn, 1)]
set_option maxRecDepth 100000 in
theorem iX10_cone_ok : iX10_cone.all (fun q => decide (decode cX10_cone q.1 = .ok (q.2.1, q.2.2))) = true := by decide +kernel
def iX10_kept : List (Nat × Instr × Nat) := [(0, .aload_n 0, 1), (1, .iconst 0, 1), (2, .putfield 112, 3), (5, .aload_n 0, 1), (6, .invokevirtual 228, 3), (9, .aload_n 0, 1), (10, .iload_n 1, 1), (11, .invokevirtual 231, 3), (14, .ifCond .eq 31, 3), (17, .iload_n 2, 1), (18, .ifCond .lt 27, 3), (21, .iload_n 2, 1), (22, .aload_n 0, 1), (23, .getfield 52, 3), (26, .iload_n 1, 1), (27, .iaload, 1), (28, .if_icmp .ge 17, 3), (31, .aload_n 0, 1), (32, .getfield 49, 3), (35, .bipush 8, 2), (37, .iload_n 1, 1), (38, .imul, 1), (39, .iload_n 2, 1), (40, .iadd, 1), (41, .laload, 1), (42, .goto 4, 3), (45, .lconst 0, 1), (46, .lreturn, 1)]
set_option maxRecDepth 100000 in
theorem iX10_kept_ok : iX10_kept.all (fun q => decide (decode cX10_kept q.1 = .ok (q.2.1, q.2.2))) = true := by decide +kernel
def iX10_isCut : List (Nat × Instr × Nat) := [(0, .aload_n 0, 1), (1, .iconst 0, 1), (2, .putfield 112, 3), (5, .aload_n 0, 1), (6, .iload_n 1, 1), (7, .invokevirtual 231, 3), (10, .ifCond .eq 31, 3), (13, .lload_n 2, 1), (14, .aload_n 0, 1), (15, .getfield 19, 3), (18, .iload_n 1, 1), (19, .laload, 1), (20, .ldc2_w 208, 3), (23, .lxor, 1), (24, .land, 1), (25, .lconst 0, 1), (26, .lcmp, 1), (27, .ifCond .ne 14, 3), (30, .lload_n 2, 1), (31, .invokestatic 154, 3), (34, .aload_n 0, 1), (35, .getfield 23, 3), (38, .if_icmp .le 5, 3), (41, .iconst 0, 1), (42, .ireturn, 1), (43, .aload_n 0, 1), (44, .iload_n 1, 1), (45, .lload_n 2, 1), (46, .invokevirtual 234, 3), (49, .lstore 4, 2), (51, .iconst 1, 1), (52, .istore 6, 2), (54, .iconst 0, 1), (55, .istore 7, 2), (57, .iload 7, 2), (59, .aload_n 0, 1), (60, .getfield 119, 3), (63, .if_icmp .ge 85, 3), (66, .iconst 0, 1), (67, .istore 8, 2), (69, .iload 8, 2), (71, .iconst 3, 1), (72, .if_icmp .ge 70, 3), (75, .lload 4, 2), (77, .iload 7, 2), (79, .invokestatic 115, 3), (82, .ifCond .eq 60, 3), (85, .aload_n 0, 1), (86, .getfield 16, 3), (89, .iconst 3, 1), (90, .iload 7, 2), (92, .imul, 1), (93, .iload 8, 2), (95, .iadd, 1), (96, .iaload, 1), (97, .istore 9, 2), (99, .iload 6, 2), (101, .ifCond .eq 32, 3), (104, .iload 9, 2), (106, .ifCond .lt 23, 3), (109, .aload_n 0, 1), (110, .getfield 7, 3), (113, .iload 9, 2), (115, .iaload, 1), (116, .iconst 1, 1), (117, .if_icmp .eq 12, 3), (120, .lload_n 2, 1), (121, .iload 9, 2), (123, .invokestatic 115, 3), (126, .ifCond .eq 7, 3), (129, .iconst 1, 1), (130, .goto 4, 3), (133, .iconst 0, 1), (134, .istore 6, 2), (136, .iinc 8 1, 3), (139, .goto (-70), 3), (142, .iinc 7 1, 3), (145, .goto (-88), 3), (148, .iload 6, 2), (150, .ireturn, 1)]
set_option maxRecDepth 100000 in
theorem iX10_isCut_ok : iX10_isCut.all (fun q => decide (decode cX10_isCut q.1 = .ok (q.2.1, q.2.2))) = true := by decide +kernel
def iX10_depth : List (Nat × Instr × Nat) := [(0, .aload_n 0, 1), (1, .iconst 0, 1), (2, .putfield 112, 3), (5, .aload_n 0, 1), (6, .invokevirtual 228, 3), (9, .aload_n 0, 1), (10, .invokevirtual 238, 3), (13, .ireturn, 1)]
set_option maxRecDepth 100000 in
theorem iX10_depth_ok : iX10_depth.all (fun q => decide (decode cX10_depth q.1 = .ok (q.2.1, q.2.2))) = true := by decide +kernel
def iX10_laysTables : List (Nat × Instr × Nat) := [(0, .aload_n 0, 1), (1, .aload_n 0, 1), (2, .invokevirtual 225, 3), (5, .aload_n 0, 1), (6, .invokevirtual 242, 3), (9, .land, 1), (10, .putfield 245, 3), (13, .aload_n 0, 1), (14, .getfield 119, 3), (17, .iconst 1, 1), (18, .isub, 1), (19, .istore_n 1, 1), (20, .iload_n 1, 1), (21, .ifCond .lt 44, 3), (24, .aload_n 0, 1), (25, .dup, 1), (26, .getfield 245, 3), (29, .aload_n 0, 1), (30, .getfield 245, 3), (33, .iload_n 1, 1), (34, .invokestatic 115, 3), (37, .ifCond .eq 17, 3), (40, .aload_n 0, 1), (41, .getfield 58, 3), (44, .iload_n 1, 1), (45, .laload, 1), (46, .aload_n 0, 1), (47, .invokevirtual 242, 3), (50, .land, 1), (51, .goto 4, 3), (54, .lconst 0, 1), (55, .lor, 1), (56, .putfield 245, 3), (59, .iinc 1 (-1), 3), (62, .goto (-42), 3), (65, .return_, 1)]
set_option maxRecDepth 100000 in
theorem iX10_laysTables_ok : iX10_laysTables.all (fun q => decide (decode cX10_laysTables q.1 = .ok (q.2.1, q.2.2))) = true := by decide +kernel
def iX10_arrivalBy : List (Nat × Instr × Nat) := [(0, .iconst 0, 1), (1, .istore_n 3, 1), (2, .iconst 0, 1), (3, .istore 4, 2), (5, .iload 4, 2), (7, .aload_n 0, 1), (8, .getfield 119, 3), (11, .if_icmp .ge 41, 3), (14, .lload_n 1, 1), (15, .iload 4, 2), (17, .invokestatic 115, 3), (20, .ifCond .eq 24, 3), (23, .aload_n 0, 1), (24, .getfield 61, 3), (27, .iload 4, 2), (29, .iaload, 1), (30, .iload_n 3, 1), (31, .if_icmp .le 13, 3), (34, .aload_n 0, 1), (35, .getfield 61, 3), (38, .iload 4, 2), (40, .iaload, 1), (41, .goto 4, 3), (44, .iload_n 3, 1), (45, .istore_n 3, 1), (46, .iinc 4 1, 3), (49, .goto (-44), 3), (52, .iload_n 3, 1), (53, .iconst 1, 1), (54, .iadd, 1), (55, .ireturn, 1)]
set_option maxRecDepth 100000 in
theorem iX10_arrivalBy_ok : iX10_arrivalBy.all (fun q => decide (decode cX10_arrivalBy q.1 = .ok (q.2.1, q.2.2))) = true := by decide +kernel
def iX10_laysArrival : List (Nat × Instr × Nat) := [(0, .iconst 0, 1), (1, .istore_n 1, 1), (2, .iload_n 1, 1), (3, .aload_n 0, 1), (4, .getfield 119, 3), (7, .if_icmp .ge 39, 3), (10, .aload_n 0, 1), (11, .getfield 61, 3), (14, .iload_n 1, 1), (15, .aload_n 0, 1), (16, .getfield 7, 3), (19, .iload_n 1, 1), (20, .iaload, 1), (21, .iconst 1, 1), (22, .if_icmp .ne 16, 3), (25, .aload_n 0, 1), (26, .aload_n 0, 1), (27, .getfield 58, 3), (30, .iload_n 1, 1), (31, .laload, 1), (32, .invokevirtual 248, 3), (35, .goto 4, 3), (38, .iconst 0, 1), (39, .iastore, 1), (40, .iinc 1 1, 3), (43, .goto (-41), 3), (46, .return_, 1)]
set_option maxRecDepth 100000 in
theorem iX10_laysArrival_ok : iX10_laysArrival.all (fun q => decide (decode cX10_laysArrival q.1 = .ok (q.2.1, q.2.2))) = true := by decide +kernel
def iX10_looks : List (Nat × Instr × Nat) := [(0, .aload_n 0, 1), (1, .invokevirtual 251, 3), (4, .aload_n 0, 1), (5, .invokevirtual 254, 3), (8, .return_, 1)]
set_option maxRecDepth 100000 in
theorem iX10_looks_ok : iX10_looks.all (fun q => decide (decode cX10_looks q.1 = .ok (q.2.1, q.2.2))) = true := by decide +kernel
def iX10_map : List (Nat × Instr × Nat) := [(0, .aload_n 0, 1), (1, .iconst 0, 1), (2, .putfield 112, 3), (5, .aload_n 0, 1), (6, .invokevirtual 228, 3), (9, .iconst 0, 1), (10, .istore_n 1, 1), (11, .iload_n 1, 1), (12, .aload_n 0, 1), (13, .getfield 119, 3), (16, .if_icmp .ge 21, 3), (19, .aload_n 0, 1), (20, .getfield 58, 3), (23, .iload_n 1, 1), (24, .aload_n 0, 1), (25, .getfield 34, 3), (28, .iload_n 1, 1), (29, .laload, 1), (30, .lastore, 1), (31, .iinc 1 1, 3), (34, .goto (-23), 3), (37, .aload_n 0, 1), (38, .iconst 1, 1), (39, .putfield 126, 3), (42, .aload_n 0, 1), (43, .invokevirtual 257, 3), (46, .aload_n 0, 1), (47, .getfield 245, 3), (50, .invokestatic 154, 3), (53, .ireturn, 1)]
set_option maxRecDepth 100000 in
theorem iX10_map_ok : iX10_map.all (fun q => decide (decode cX10_map q.1 = .ok (q.2.1, q.2.2))) = true := by decide +kernel
def iX10_laysDue : List (Nat × Instr × Nat) := [(0, .aload_n 0, 1), (1, .invokevirtual 225, 3), (4, .lstore_n 2, 1), (5, .aload_n 0, 1), (6, .getfield 119, 3), (9, .iconst 1, 1), (10, .isub, 1), (11, .istore 4, 2), (13, .iload 4, 2), (15, .ifCond .lt 37, 3), (18, .aload_n 0, 1), (19, .getfield 64, 3), (22, .iload 4, 2), (24, .lload_n 2, 1), (25, .iload 4, 2), (27, .invokestatic 115, 3), (30, .ifCond .eq 12, 3), (33, .aload_n 0, 1), (34, .invokevirtual 238, 3), (37, .iload_n 1, 1), (38, .iadd, 1), (39, .goto 6, 3), (42, .sipush 1000, 3), (45, .iastore, 1), (46, .iinc 4 (-1), 3), (49, .goto (-36), 3), (52, .aload_n 0, 1), (53, .getfield 119, 3), (56, .iconst 1, 1), (57, .isub, 1), (58, .istore 4, 2), (60, .iload 4, 2), (62, .ifCond .lt 99, 3), (65, .iconst 0, 1), (66, .istore 5, 2), (68, .iload 5, 2), (70, .aload_n 0, 1), (71, .getfield 119, 3), (74, .if_icmp .ge 81, 3), (77, .aload_n 0, 1), (78, .getfield 245, 3), (81, .iload 4, 2), (83, .invokestatic 115, 3), (86, .ifCond .eq 69, 3), (89, .aload_n 0, 1), (90, .getfield 64, 3), (93, .iload 5, 2), (95, .aload_n 0, 1), (96, .getfield 58, 3), (99, .iload 4, 2), (101, .laload, 1), (102, .iload 5, 2), (104, .invokestatic 115, 3), (107, .ifCond .eq 34, 3), (110, .aload_n 0, 1), (111, .getfield 64, 3), (114, .iload 4, 2), (116, .iaload, 1), (117, .iconst 1, 1), (118, .isub, 1), (119, .aload_n 0, 1), (120, .getfield 64, 3), (123, .iload 5, 2), (125, .iaload, 1), (126, .if_icmp .ge 15, 3), (129, .aload_n 0, 1), (130, .getfield 64, 3), (133, .iload 4, 2), (135, .iaload, 1), (136, .iconst 1, 1), (137, .isub, 1), (138, .goto 10, 3), (141, .aload_n 0, 1), (142, .getfield 64, 3), (145, .iload 5, 2), (147, .iaload, 1), (148, .iastore, 1), (149, .iinc 5 1, 3), (152, .goto (-84), 3), (155, .iinc 4 (-1), 3), (158, .goto (-98), 3), (161, .return_, 1)]
set_option maxRecDepth 100000 in
theorem iX10_laysDue_ok : iX10_laysDue.all (fun q => decide (decode cX10_laysDue q.1 = .ok (q.2.1, q.2.2))) = true := by decide +kernel
def iX10_tablesBy : List (Nat × Instr × Nat) := [(0, .aload_n 0, 1), (1, .getfield 58, 3), (4, .iload_n 1, 1), (5, .laload, 1), (6, .lstore 4, 2), (8, .aload_n 0, 1), (9, .getfield 58, 3), (12, .iload_n 1, 1), (13, .lload_n 2, 1), (14, .lastore, 1), (15, .aload_n 0, 1), (16, .invokevirtual 251, 3), (19, .aload_n 0, 1), (20, .getfield 58, 3), (23, .iload_n 1, 1), (24, .lload 4, 2), (26, .lastore, 1), (27, .aload_n 0, 1), (28, .getfield 245, 3), (31, .invokestatic 154, 3), (34, .ireturn, 1)]
set_option maxRecDepth 100000 in
theorem iX10_tablesBy_ok : iX10_tablesBy.all (fun q => decide (decode cX10_tablesBy q.1 = .ok (q.2.1, q.2.2))) = true := by decide +kernel
def iX10_choosesAgain : List (Nat × Instr × Nat) := [(0, .aload_n 0, 1), (1, .getfield 58, 3), (4, .iload_n 1, 1), (5, .laload, 1), (6, .lstore_n 2, 1), (7, .aload_n 0, 1), (8, .iload_n 1, 1), (9, .lload_n 2, 1), (10, .invokevirtual 260, 3), (13, .istore 4, 2), (15, .aload_n 0, 1), (16, .lload_n 2, 1), (17, .invokevirtual 248, 3), (20, .istore 5, 2), (22, .iconst 0, 1), (23, .istore 6, 2), (25, .iload 6, 2), (27, .aload_n 0, 1), (28, .getfield 52, 3), (31, .iload_n 1, 1), (32, .iaload, 1), (33, .if_icmp .ge 83, 3), (36, .aload_n 0, 1), (37, .getfield 49, 3), (40, .bipush 8, 2), (42, .iload_n 1, 1), (43, .imul, 1), (44, .iload 6, 2), (46, .iadd, 1), (47, .laload, 1), (48, .lstore 7, 2), (50, .aload_n 0, 1), (51, .iload_n 1, 1), (52, .lload 7, 2), (54, .invokevirtual 260, 3), (57, .istore 9, 2), (59, .aload_n 0, 1), (60, .lload 7, 2), (62, .invokevirtual 248, 3), (65, .istore 10, 2), (67, .iload 10, 2), (69, .aload_n 0, 1), (70, .getfield 64, 3), (73, .iload_n 1, 1), (74, .iaload, 1), (75, .if_icmp .gt 35, 3), (78, .iload 9, 2), (80, .iload 4, 2), (82, .if_icmp .lt 17, 3), (85, .iload 9, 2), (87, .iload 4, 2), (89, .if_icmp .ne 21, 3), (92, .iload 10, 2), (94, .iload 5, 2), (96, .if_icmp .ge 14, 3), (99, .lload 7, 2), (101, .lstore_n 2, 1), (102, .iload 9, 2), (104, .istore 4, 2), (106, .iload 10, 2), (108, .istore 5, 2), (110, .iinc 6 1, 3), (113, .goto (-88), 3), (116, .aload_n 0, 1), (117, .getfield 58, 3), (120, .iload_n 1, 1), (121, .lload_n 2, 1), (122, .lastore, 1), (123, .aload_n 0, 1), (124, .invokevirtual 257, 3), (127, .return_, 1)]
set_option maxRecDepth 100000 in
theorem iX10_choosesAgain_ok : iX10_choosesAgain.all (fun q => decide (decode cX10_choosesAgain q.1 = .ok (q.2.1, q.2.2))) = true := by decide +kernel
def iX10_again : List (Nat × Instr × Nat) := [(0, .aload_n 0, 1), (1, .iconst 0, 1), (2, .putfield 112, 3), (5, .aload_n 0, 1), (6, .getfield 126, 3), (9, .ifCond .eq 12, 3), (12, .iload_n 1, 1), (13, .iconst 0, 1), (14, .iconst 5, 1), (15, .invokestatic 140, 3), (18, .ifCond .ne 5, 3), (21, .iconst (-1), 1), (22, .ireturn, 1), (23, .aload_n 0, 1), (24, .invokevirtual 228, 3), (27, .aload_n 0, 1), (28, .invokevirtual 257, 3), (31, .aload_n 0, 1), (32, .iload_n 1, 1), (33, .invokevirtual 264, 3), (36, .aload_n 0, 1), (37, .getfield 245, 3), (40, .invokestatic 154, 3), (43, .istore_n 2, 1), (44, .iconst 0, 1), (45, .istore_n 3, 1), (46, .iload_n 3, 1), (47, .aload_n 0, 1), (48, .getfield 119, 3), (51, .if_icmp .ge 25, 3), (54, .aload_n 0, 1), (55, .getfield 245, 3), (58, .iload_n 3, 1), (59, .invokestatic 115, 3), (62, .ifCond .eq 8, 3), (65, .aload_n 0, 1), (66, .iload_n 3, 1), (67, .invokevirtual 267, 3), (70, .iinc 3 1, 3), (73, .goto (-27), 3), (76, .iload_n 2, 1), (77, .aload_n 0, 1), (78, .getfield 245, 3), (81, .invokestatic 154, 3), (84, .isub, 1), (85, .ireturn, 1)]
set_option maxRecDepth 100000 in
theorem iX10_again_ok : iX10_again.all (fun q => decide (decode cX10_again q.1 = .ok (q.2.1, q.2.2))) = true := by decide +kernel
def iX10_chosen : List (Nat × Instr × Nat) := [(0, .aload_n 0, 1), (1, .iconst 0, 1), (2, .putfield 112, 3), (5, .aload_n 0, 1), (6, .iload_n 1, 1), (7, .invokevirtual 231, 3), (10, .ifCond .eq 19, 3), (13, .aload_n 0, 1), (14, .getfield 126, 3), (17, .ifCond .eq 12, 3), (20, .aload_n 0, 1), (21, .getfield 58, 3), (24, .iload_n 1, 1), (25, .laload, 1), (26, .goto 4, 3), (29, .lconst 0, 1), (30, .lreturn, 1)]
set_option maxRecDepth 100000 in
theorem iX10_chosen_ok : iX10_chosen.all (fun q => decide (decode cX10_chosen q.1 = .ok (q.2.1, q.2.2))) = true := by decide +kernel
def iX10_gateIs : List (Nat × Instr × Nat) := [(0, .aload_n 0, 1), (1, .getfield 67, 3), (4, .aload_n 0, 1), (5, .getfield 16, 3), (8, .iconst 3, 1), (9, .iload_n 1, 1), (10, .imul, 1), (11, .iaload, 1), (12, .baload, 1), (13, .istore_n 2, 1), (14, .aload_n 0, 1), (15, .getfield 16, 3), (18, .iconst 3, 1), (19, .iload_n 1, 1), (20, .imul, 1), (21, .iconst 1, 1), (22, .iadd, 1), (23, .iaload, 1), (24, .ifCond .lt 25, 3), (27, .aload_n 0, 1), (28, .getfield 67, 3), (31, .aload_n 0, 1), (32, .getfield 16, 3), (35, .iconst 3, 1), (36, .iload_n 1, 1), (37, .imul, 1), (38, .iconst 1, 1), (39, .iadd, 1), (40, .iaload, 1), (41, .baload, 1), (42, .ifCond .eq 7, 3), (45, .iconst 1, 1), (46, .goto 4, 3), (49, .iconst 0, 1), (50, .istore_n 3, 1), (51, .aload_n 0, 1), (52, .getfield 16, 3), (55, .iconst 3, 1), (56, .iload_n 1, 1), (57, .imul, 1), (58, .iconst 2, 1), (59, .iadd, 1), (60, .iaload, 1), (61, .ifCond .lt 25, 3), (64, .aload_n 0, 1), (65, .getfield 67, 3), (68, .aload_n 0, 1), (69, .getfield 16, 3), (72, .iconst 3, 1), (73, .iload_n 1, 1), (74, .imul, 1), (75, .iconst 2, 1), (76, .iadd, 1), (77, .iaload, 1), (78, .baload, 1), (79, .ifCond .eq 7, 3), (82, .iconst 1, 1), (83, .goto 4, 3), (86, .iconst 0, 1), (87, .istore 4, 2), (89, .aload_n 0, 1), (90, .getfield 13, 3), (93, .iload_n 1, 1), (94, .iaload, 1), (95, .tableswitch 111 0 5 #[37, 47, 61, 75, 86, 100], 37), (132, .iload_n 2, 1), (133, .ifCond .ne 7, 3), (136, .iconst 1, 1), (137, .goto 4, 3), (140, .iconst 0, 1), (141, .ireturn, 1), (142, .iload_n 2, 1), (143, .ifCond .eq 11, 3), (146, .iload_n 3, 1), (147, .ifCond .eq 7, 3), (150, .iconst 1, 1), (151, .goto 4, 3), (154, .iconst 0, 1), (155, .ireturn, 1), (156, .iload_n 2, 1), (157, .ifCond .ne 7, 3), (160, .iload_n 3, 1), (161, .ifCond .eq 7, 3), (164, .iconst 1, 1), (165, .goto 4, 3), (168, .iconst 0, 1), (169, .ireturn, 1), (170, .iload_n 2, 1), (171, .iload_n 3, 1), (172, .if_icmp .eq 7, 3), (175, .iconst 1, 1), (176, .goto 4, 3), (179, .iconst 0, 1), (180, .ireturn, 1), (181, .iload_n 2, 1), (182, .ifCond .eq 7, 3), (185, .iload_n 3, 1), (186, .ifCond .ne 7, 3), (189, .iconst 1, 1), (190, .goto 4, 3), (193, .iconst 0, 1), (194, .ireturn, 1), (195, .iload_n 2, 1), (196, .ifCond .eq 7, 3), (199, .iload_n 3, 1), (200, .goto 5, 3), (203, .iload 4, 2), (205, .ireturn, 1), (206, .iload_n 2, 1), (207, .ifCond .eq 7, 3), (210, .iload_n 3, 1), (211, .ifCond .ne 21, 3), (214, .iload_n 2, 1), (215, .ifCond .eq 8, 3), (218, .iload 4, 2), (220, .ifCond .ne 12, 3), (223, .iload_n 3, 1), (224, .ifCond .eq 12, 3), (227, .iload 4, 2), (229, .ifCond .eq 7, 3), (232, .iconst 1, 1), (233, .goto 4, 3), (236, .iconst 0, 1), (237, .ireturn, 1)]
set_option maxRecDepth 100000 in
theorem iX10_gateIs_ok : iX10_gateIs.all (fun q => decide (decode cX10_gateIs q.1 = .ok (q.2.1, q.2.2))) = true := by decide +kernel
def iX10_works : List (Nat × Instr × Nat) := [(0, .iconst 0, 1), (1, .istore_n 3, 1), (2, .iload_n 3, 1), (3, .aload_n 0, 1), (4, .getfield 119, 3), (7, .if_icmp .ge 47, 3), (10, .lload_n 1, 1), (11, .iload_n 3, 1), (12, .invokestatic 115, 3), (15, .ifCond .ne 33, 3), (18, .aload_n 0, 1), (19, .getfield 67, 3), (22, .iload_n 3, 1), (23, .aload_n 0, 1), (24, .getfield 7, 3), (27, .iload_n 3, 1), (28, .iaload, 1), (29, .iconst 1, 1), (30, .if_icmp .ne 11, 3), (33, .aload_n 0, 1), (34, .iload_n 3, 1), (35, .invokevirtual 270, 3), (38, .goto 9, 3), (41, .aload_n 0, 1), (42, .getfield 27, 3), (45, .iload_n 3, 1), (46, .baload, 1), (47, .bastore, 1), (48, .iinc 3 1, 3), (51, .goto (-49), 3), (54, .return_, 1)]
set_option maxRecDepth 100000 in
theorem iX10_works_ok : iX10_works.all (fun q => decide (decode cX10_works q.1 = .ok (q.2.1, q.2.2))) = true := by decide +kernel
def iX10_fixes : List (Nat × Instr × Nat) := [(0, .iconst 0, 1), (1, .istore 4, 2), (3, .iconst 0, 1), (4, .istore 5, 2), (6, .iload 5, 2), (8, .aload_n 0, 1), (9, .getfield 119, 3), (12, .if_icmp .ge 43, 3), (15, .lload_n 1, 1), (16, .iload 5, 2), (18, .invokestatic 115, 3), (21, .ifCond .eq 28, 3), (24, .aload_n 0, 1), (25, .getfield 67, 3), (28, .iload 5, 2), (30, .iload_n 3, 1), (31, .iload 4, 2), (33, .ishr, 1), (34, .iconst 1, 1), (35, .iand, 1), (36, .iconst 1, 1), (37, .if_icmp .ne 7, 3), (40, .iconst 1, 1), (41, .goto 4, 3), (44, .iconst 0, 1), (45, .bastore, 1), (46, .iinc 4 1, 3), (49, .iinc 5 1, 3), (52, .goto (-46), 3), (55, .return_, 1)]
set_option maxRecDepth 100000 in
theorem iX10_fixes_ok : iX10_fixes.all (fun q => decide (decode cX10_fixes q.1 = .ok (q.2.1, q.2.2))) = true := by decide +kernel
def iX10_holdsOf : List (Nat × Instr × Nat) := [(0, .lconst 0, 1), (1, .lstore_n 2, 1), (2, .iconst 0, 1), (3, .istore 4, 2), (5, .iload 4, 2), (7, .iconst 1, 1), (8, .aload_n 0, 1), (9, .getfield 58, 3), (12, .iload_n 1, 1), (13, .laload, 1), (14, .invokestatic 154, 3), (17, .ishl, 1), (18, .if_icmp .ge 51, 3), (21, .aload_n 0, 1), (22, .aload_n 0, 1), (23, .getfield 58, 3), (26, .iload_n 1, 1), (27, .laload, 1), (28, .iload 4, 2), (30, .invokevirtual 273, 3), (33, .aload_n 0, 1), (34, .aload_n 0, 1), (35, .getfield 58, 3), (38, .iload_n 1, 1), (39, .laload, 1), (40, .invokevirtual 277, 3), (43, .lload_n 2, 1), (44, .aload_n 0, 1), (45, .getfield 67, 3), (48, .iload_n 1, 1), (49, .baload, 1), (50, .ifCond .eq 10, 3), (53, .lconst 1, 1), (54, .iload 4, 2), (56, .lshl, 1), (57, .goto 4, 3), (60, .lconst 0, 1), (61, .lor, 1), (62, .lstore_n 2, 1), (63, .iinc 4 1, 3), (66, .goto (-61), 3), (69, .lload_n 2, 1), (70, .lreturn, 1)]
set_option maxRecDepth 100000 in
theorem iX10_holdsOf_ok : iX10_holdsOf.all (fun q => decide (decode cX10_holdsOf q.1 = .ok (q.2.1, q.2.2))) = true := by decide +kernel
def iX10_holds : List (Nat × Instr × Nat) := [(0, .aload_n 0, 1), (1, .aload_n 0, 1), (2, .iload_n 1, 1), (3, .invokevirtual 231, 3), (6, .ifCond .eq 14, 3), (9, .aload_n 0, 1), (10, .getfield 126, 3), (13, .ifCond .eq 7, 3), (16, .iconst 0, 1), (17, .goto 4, 3), (20, .iconst 1, 1), (21, .putfield 112, 3), (24, .aload_n 0, 1), (25, .getfield 112, 3), (28, .ifCond .le 7, 3), (31, .lconst 0, 1), (32, .goto 8, 3), (35, .aload_n 0, 1), (36, .iload_n 1, 1), (37, .invokevirtual 280, 3), (40, .lreturn, 1)]
set_option maxRecDepth 100000 in
theorem iX10_holds_ok : iX10_holds.all (fun q => decide (decode cX10_holds q.1 = .ok (q.2.1, q.2.2))) = true := by decide +kernel
def iX10_caresOf : List (Nat × Instr × Nat) := [(0, .aload_n 0, 1), (1, .iload_n 1, 1), (2, .invokevirtual 280, 3), (5, .lstore_n 2, 1), (6, .aload_n 0, 1), (7, .getfield 58, 3), (10, .iload_n 1, 1), (11, .laload, 1), (12, .invokestatic 154, 3), (15, .istore 4, 2), (17, .iconst 0, 1), (18, .istore 5, 2), (20, .iconst 0, 1), (21, .istore 6, 2), (23, .iload 6, 2), (25, .iload 4, 2), (27, .if_icmp .ge 60, 3), (30, .iconst 0, 1), (31, .istore 7, 2), (33, .iload 7, 2), (35, .iconst 1, 1), (36, .iload 4, 2), (38, .ishl, 1), (39, .if_icmp .ge 42, 3), (42, .iload 5, 2), (44, .lload_n 2, 1), (45, .iload 7, 2), (47, .invokestatic 284, 3), (50, .lload_n 2, 1), (51, .iload 7, 2), (53, .iconst 1, 1), (54, .iload 6, 2), (56, .ishl, 1), (57, .ixor, 1), (58, .invokestatic 284, 3), (61, .if_icmp .eq 10, 3), (64, .iconst 1, 1), (65, .iload 6, 2), (67, .ishl, 1), (68, .goto 4, 3), (71, .iconst 0, 1), (72, .ior, 1), (73, .istore 5, 2), (75, .iinc 7 1, 3), (78, .goto (-45), 3), (81, .iinc 6 1, 3), (84, .goto (-61), 3), (87, .iload 5, 2), (89, .ireturn, 1)]
set_option maxRecDepth 100000 in
theorem iX10_caresOf_ok : iX10_caresOf.all (fun q => decide (decode cX10_caresOf q.1 = .ok (q.2.1, q.2.2))) = true := by decide +kernel
def iX10_has64 : List (Nat × Instr × Nat) := [(0, .lload_n 0, 1), (1, .iload_n 2, 1), (2, .lushr, 1), (3, .lconst 1, 1), (4, .land, 1), (5, .lconst 1, 1), (6, .lcmp, 1), (7, .ifCond .ne 7, 3), (10, .iconst 1, 1), (11, .goto 4, 3), (14, .iconst 0, 1), (15, .ireturn, 1)]
set_option maxRecDepth 100000 in
theorem iX10_has64_ok : iX10_has64.all (fun q => decide (decode cX10_has64 q.1 = .ok (q.2.1, q.2.2))) = true := by decide +kernel
def iX10_set : List (Nat × Instr × Nat) := [(0, .aload_n 0, 1), (1, .iconst 0, 1), (2, .putfield 112, 3), (5, .aload_n 0, 1), (6, .iload_n 1, 1), (7, .invokevirtual 122, 3), (10, .ifCond .eq 12, 3), (13, .aload_n 0, 1), (14, .getfield 7, 3), (17, .iload_n 1, 1), (18, .iaload, 1), (19, .ifCond .eq 5, 3), (22, .iconst (-1), 1), (23, .ireturn, 1), (24, .aload_n 0, 1), (25, .getfield 27, 3), (28, .iload_n 1, 1), (29, .baload, 1), (30, .ifCond .eq 7, 3), (33, .iconst 1, 1), (34, .goto 4, 3), (37, .iconst 0, 1), (38, .istore_n 3, 1), (39, .aload_n 0, 1), (40, .getfield 27, 3), (43, .iload_n 1, 1), (44, .iload_n 2, 1), (45, .bastore, 1), (46, .iload_n 3, 1), (47, .ireturn, 1)]
set_option maxRecDepth 100000 in
theorem iX10_set_ok : iX10_set.all (fun q => decide (decode cX10_set q.1 = .ok (q.2.1, q.2.2))) = true := by decide +kernel
def iX10_clock : List (Nat × Instr × Nat) := [(0, .aload_n 0, 1), (1, .iconst 0, 1), (2, .putfield 112, 3), (5, .iload_n 1, 1), (6, .iconst 1, 1), (7, .bipush 64, 2), (9, .invokestatic 140, 3), (12, .ifCond .ne 5, 3), (15, .iconst (-1), 1), (16, .ireturn, 1), (17, .iconst 0, 1), (18, .istore_n 2, 1), (19, .iconst 0, 1), (20, .istore_n 3, 1), (21, .iload_n 3, 1), (22, .iload_n 1, 1), (23, .if_icmp .ge 98, 3), (26, .aload_n 0, 1), (27, .lconst 0, 1), (28, .invokevirtual 277, 3), (31, .iconst 0, 1), (32, .istore_n 2, 1), (33, .iconst 0, 1), (34, .istore 4, 2), (36, .iload 4, 2), (38, .aload_n 0, 1), (39, .getfield 119, 3), (42, .if_icmp .ge 73, 3), (45, .aload_n 0, 1), (46, .getfield 7, 3), (49, .iload 4, 2), (51, .iaload, 1), (52, .iconst 2, 1), (53, .if_icmp .ne 56, 3), (56, .iload_n 2, 1), (57, .aload_n 0, 1), (58, .getfield 27, 3), (61, .iload 4, 2), (63, .baload, 1), (64, .aload_n 0, 1), (65, .getfield 67, 3), (68, .aload_n 0, 1), (69, .getfield 16, 3), (72, .iconst 3, 1), (73, .iload 4, 2), (75, .imul, 1), (76, .iaload, 1), (77, .baload, 1), (78, .if_icmp .eq 7, 3), (81, .iconst 1, 1), (82, .goto 4, 3), (85, .iconst 0, 1), (86, .iadd, 1), (87, .istore_n 2, 1), (88, .aload_n 0, 1), (89, .getfield 27, 3), (92, .iload 4, 2), (94, .aload_n 0, 1), (95, .getfield 67, 3), (98, .aload_n 0, 1), (99, .getfield 16, 3), (102, .iconst 3, 1), (103, .iload 4, 2), (105, .imul, 1), (106, .iaload, 1), (107, .baload, 1), (108, .bastore, 1), (109, .iinc 4 1, 3), (112, .goto (-76), 3), (115, .iinc 3 1, 3), (118, .goto (-97), 3), (121, .iload_n 2, 1), (122, .ireturn, 1)]
set_option maxRecDepth 100000 in
theorem iX10_clock_ok : iX10_clock.all (fun q => decide (decode cX10_clock q.1 = .ok (q.2.1, q.2.2))) = true := by decide +kernel
def iX10_is : List (Nat × Instr × Nat) := [(0, .aload_n 0, 1), (1, .iconst 0, 1), (2, .putfield 112, 3), (5, .aload_n 0, 1), (6, .iload_n 1, 1), (7, .invokevirtual 122, 3), (10, .ifCond .ne 5, 3), (13, .iconst (-1), 1), (14, .ireturn, 1), (15, .aload_n 0, 1), (16, .lconst 0, 1), (17, .invokevirtual 277, 3), (20, .aload_n 0, 1), (21, .getfield 67, 3), (24, .iload_n 1, 1), (25, .baload, 1), (26, .ifCond .eq 7, 3), (29, .iconst 1, 1), (30, .goto 4, 3), (33, .iconst 0, 1), (34, .ireturn, 1)]
set_option maxRecDepth 100000 in
theorem iX10_is_ok : iX10_is.all (fun q => decide (decode cX10_is q.1 = .ok (q.2.1, q.2.2))) = true := by decide +kernel
def iX10_comes_ : List (Nat × Instr × Nat) := [(0, .aload_n 0, 1), (1, .iconst 0, 1), (2, .putfield 112, 3), (5, .aload_n 0, 1), (6, .iload_n 1, 1), (7, .invokevirtual 122, 3), (10, .ifCond .eq 10, 3), (13, .aload_n 0, 1), (14, .getfield 126, 3), (17, .ifCond .ne 5, 3), (20, .iconst (-1), 1), (21, .ireturn, 1), (22, .iconst 0, 1), (23, .istore_n 2, 1), (24, .iload_n 2, 1), (25, .iload_n 1, 1), (26, .if_icmp .gt 111, 3), (29, .iconst 0, 1), (30, .istore_n 3, 1), (31, .iconst 0, 1), (32, .istore 4, 2), (34, .iconst 0, 1), (35, .istore 5, 2), (37, .iload 5, 2), (39, .iload_n 2, 1), (40, .if_icmp .ge 57, 3), (43, .aload_n 0, 1), (44, .getfield 7, 3), (47, .iload_n 2, 1), (48, .iaload, 1), (49, .iconst 1, 1), (50, .if_icmp .ne 41, 3), (53, .aload_n 0, 1), (54, .getfield 58, 3), (57, .iload_n 2, 1), (58, .laload, 1), (59, .iload 5, 2), (61, .invokestatic 115, 3), (64, .ifCond .eq 27, 3), (67, .iload_n 3, 1), (68, .aload_n 0, 1), (69, .getfield 70, 3), (72, .iload 5, 2), (74, .baload, 1), (75, .ifCond .eq 10, 3), (78, .iconst 1, 1), (79, .iload 4, 2), (81, .ishl, 1), (82, .goto 4, 3), (85, .iconst 0, 1), (86, .ior, 1), (87, .istore_n 3, 1), (88, .iinc 4 1, 3), (91, .iinc 5 1, 3), (94, .goto (-57), 3), (97, .aload_n 0, 1), (98, .getfield 70, 3), (101, .iload_n 2, 1), (102, .aload_n 0, 1), (103, .getfield 7, 3), (106, .iload_n 2, 1), (107, .iaload, 1), (108, .iconst 1, 1), (109, .if_icmp .ne 15, 3), (112, .aload_n 0, 1), (113, .iload_n 2, 1), (114, .invokevirtual 280, 3), (117, .iload_n 3, 1), (118, .invokestatic 284, 3), (121, .goto 9, 3), (124, .aload_n 0, 1), (125, .getfield 27, 3), (128, .iload_n 2, 1), (129, .baload, 1), (130, .bastore, 1), (131, .iinc 2 1, 3), (134, .goto (-110), 3), (137, .aload_n 0, 1), (138, .getfield 70, 3), (141, .iload_n 1, 1), (142, .baload, 1), (143, .ifCond .eq 7, 3), (146, .iconst 1, 1), (147, .goto 4, 3), (150, .iconst 0, 1), (151, .ireturn, 1)]
set_option maxRecDepth 100000 in
theorem iX10_comes__ok : iX10_comes_.all (fun q => decide (decode cX10_comes_ q.1 = .ok (q.2.1, q.2.2))) = true := by decide +kernel
def iX10_differs : List (Nat × Instr × Nat) := [(0, .aload_n 0, 1), (1, .iconst 0, 1), (2, .putfield 112, 3), (5, .aload_n 0, 1), (6, .iload_n 1, 1), (7, .invokevirtual 122, 3), (10, .ifCond .eq 20, 3), (13, .aload_n 0, 1), (14, .iload_n 2, 1), (15, .invokevirtual 122, 3), (18, .ifCond .eq 12, 3), (21, .aload_n 0, 1), (22, .getfield 7, 3), (25, .iload_n 2, 1), (26, .iaload, 1), (27, .ifCond .eq 5, 3), (30, .iconst (-1), 1), (31, .ireturn, 1), (32, .aload_n 0, 1), (33, .lconst 0, 1), (34, .invokevirtual 277, 3), (37, .aload_n 0, 1), (38, .getfield 67, 3), (41, .iload_n 1, 1), (42, .baload, 1), (43, .istore_n 3, 1), (44, .aload_n 0, 1), (45, .getfield 27, 3), (48, .iload_n 2, 1), (49, .aload_n 0, 1), (50, .getfield 27, 3), (53, .iload_n 2, 1), (54, .baload, 1), (55, .ifCond .ne 7, 3), (58, .iconst 1, 1), (59, .goto 4, 3), (62, .iconst 0, 1), (63, .bastore, 1), (64, .aload_n 0, 1), (65, .lconst 0, 1), (66, .invokevirtual 277, 3), (69, .aload_n 0, 1), (70, .getfield 27, 3), (73, .iload_n 2, 1), (74, .aload_n 0, 1), (75, .getfield 27, 3), (78, .iload_n 2, 1), (79, .baload, 1), (80, .ifCond .ne 7, 3), (83, .iconst 1, 1), (84, .goto 4, 3), (87, .iconst 0, 1), (88, .bastore, 1), (89, .aload_n 0, 1), (90, .getfield 67, 3), (93, .iload_n 1, 1), (94, .baload, 1), (95, .iload_n 3, 1), (96, .if_icmp .eq 7, 3), (99, .iconst 1, 1), (100, .goto 4, 3), (103, .iconst 0, 1), (104, .ireturn, 1)]
set_option maxRecDepth 100000 in
theorem iX10_differs_ok : iX10_differs.all (fun q => decide (decode cX10_differs q.1 = .ok (q.2.1, q.2.2))) = true := by decide +kernel
def iX10_isPair : List (Nat × Instr × Nat) := [(0, .aload_n 0, 1), (1, .getfield 58, 3), (4, .iload_n 1, 1), (5, .laload, 1), (6, .iload_n 2, 1), (7, .invokestatic 115, 3), (10, .ifCond .ne 45, 3), (13, .aload_n 0, 1), (14, .getfield 58, 3), (17, .iload_n 2, 1), (18, .laload, 1), (19, .iload_n 1, 1), (20, .invokestatic 115, 3), (23, .ifCond .ne 32, 3), (26, .aload_n 0, 1), (27, .getfield 58, 3), (30, .iload_n 1, 1), (31, .laload, 1), (32, .aload_n 0, 1), (33, .getfield 58, 3), (36, .iload_n 2, 1), (37, .laload, 1), (38, .lor, 1), (39, .invokestatic 154, 3), (42, .aload_n 0, 1), (43, .getfield 23, 3), (46, .iconst 1, 1), (47, .isub, 1), (48, .if_icmp .gt 7, 3), (51, .iconst 1, 1), (52, .goto 4, 3), (55, .iconst 0, 1), (56, .ireturn, 1)]
set_option maxRecDepth 100000 in
theorem iX10_isPair_ok : iX10_isPair.all (fun q => decide (decode cX10_isPair q.1 = .ok (q.2.1, q.2.2))) = true := by decide +kernel
def iX10_laysPairs : List (Nat × Instr × Nat) := [(0, .aload_n 0, 1), (1, .iconst 0, 1), (2, .putfield 287, 3), (5, .iconst 0, 1), (6, .istore_n 1, 1), (7, .iload_n 1, 1), (8, .aload_n 0, 1), (9, .getfield 119, 3), (12, .if_icmp .ge 16, 3), (15, .aload_n 0, 1), (16, .getfield 73, 3), (19, .iload_n 1, 1), (20, .iconst (-1), 1), (21, .iastore, 1), (22, .iinc 1 1, 3), (25, .goto (-18), 3), (28, .iconst 0, 1), (29, .istore_n 1, 1), (30, .iload_n 1, 1), (31, .aload_n 0, 1), (32, .getfield 119, 3), (35, .if_icmp .ge 100, 3), (38, .iload_n 1, 1), (39, .iconst 1, 1), (40, .iadd, 1), (41, .istore_n 2, 1), (42, .iload_n 2, 1), (43, .aload_n 0, 1), (44, .getfield 119, 3), (47, .if_icmp .ge 82, 3), (50, .aload_n 0, 1), (51, .getfield 245, 3), (54, .iload_n 1, 1), (55, .invokestatic 115, 3), (58, .ifCond .eq 71, 3), (61, .aload_n 0, 1), (62, .getfield 73, 3), (65, .iload_n 1, 1), (66, .iaload, 1), (67, .ifCond .ge 62, 3), (70, .aload_n 0, 1), (71, .getfield 245, 3), (74, .iload_n 2, 1), (75, .invokestatic 115, 3), (78, .ifCond .eq 45, 3), (81, .aload_n 0, 1), (82, .getfield 73, 3), (85, .iload_n 2, 1), (86, .iaload, 1), (87, .ifCond .ge 36, 3), (90, .aload_n 0, 1), (91, .iload_n 1, 1), (92, .iload_n 2, 1), (93, .invokevirtual 290, 3), (96, .ifCond .eq 27, 3), (99, .aload_n 0, 1), (100, .getfield 73, 3), (103, .iload_n 1, 1), (104, .iload_n 2, 1), (105, .iastore, 1), (106, .aload_n 0, 1), (107, .getfield 73, 3), (110, .iload_n 2, 1), (111, .iload_n 1, 1), (112, .iastore, 1), (113, .aload_n 0, 1), (114, .dup, 1), (115, .getfield 287, 3), (118, .iconst 1, 1), (119, .iadd, 1), (120, .putfield 287, 3), (123, .iinc 2 1, 3), (126, .goto (-84), 3), (129, .iinc 1 1, 3), (132, .goto (-102), 3), (135, .return_, 1)]
set_option maxRecDepth 100000 in
theorem iX10_laysPairs_ok : iX10_laysPairs.all (fun q => decide (decode cX10_laysPairs q.1 = .ok (q.2.1, q.2.2))) = true := by decide +kernel
def iX10_usesOf : List (Nat × Instr × Nat) := [(0, .iconst 0, 1), (1, .istore_n 2, 1), (2, .iconst 0, 1), (3, .istore_n 3, 1), (4, .iload_n 3, 1), (5, .aload_n 0, 1), (6, .getfield 119, 3), (9, .if_icmp .ge 41, 3), (12, .iload_n 2, 1), (13, .aload_n 0, 1), (14, .getfield 245, 3), (17, .iload_n 3, 1), (18, .invokestatic 115, 3), (21, .ifCond .eq 20, 3), (24, .aload_n 0, 1), (25, .getfield 58, 3), (28, .iload_n 3, 1), (29, .laload, 1), (30, .iload_n 1, 1), (31, .invokestatic 115, 3), (34, .ifCond .eq 7, 3), (37, .iconst 1, 1), (38, .goto 4, 3), (41, .iconst 0, 1), (42, .iadd, 1), (43, .istore_n 2, 1), (44, .iinc 3 1, 3), (47, .goto (-43), 3), (50, .iload_n 2, 1), (51, .ireturn, 1)]
set_option maxRecDepth 100000 in
theorem iX10_usesOf_ok : iX10_usesOf.all (fun q => decide (decode cX10_usesOf q.1 = .ok (q.2.1, q.2.2))) = true := by decide +kernel
def iX10_isPacked : List (Nat × Instr × Nat) := [(0, .aload_n 0, 1), (1, .getfield 16, 3), (4, .iconst 3, 1), (5, .iload_n 1, 1), (6, .imul, 1), (7, .iaload, 1), (8, .istore_n 2, 1), (9, .iconst 0, 1), (10, .istore_n 3, 1), (11, .iconst 0, 1), (12, .istore 4, 2), (14, .iload 4, 2), (16, .aload_n 0, 1), (17, .getfield 119, 3), (20, .if_icmp .ge 41, 3), (23, .iload_n 3, 1), (24, .aload_n 0, 1), (25, .getfield 7, 3), (28, .iload 4, 2), (30, .iaload, 1), (31, .iconst 2, 1), (32, .if_icmp .ne 20, 3), (35, .aload_n 0, 1), (36, .getfield 16, 3), (39, .iconst 3, 1), (40, .iload 4, 2), (42, .imul, 1), (43, .iaload, 1), (44, .iload_n 2, 1), (45, .if_icmp .ne 7, 3), (48, .iconst 1, 1), (49, .goto 4, 3), (52, .iconst 0, 1), (53, .iadd, 1), (54, .istore_n 3, 1), (55, .iinc 4 1, 3), (58, .goto (-44), 3), (61, .aload_n 0, 1), (62, .getfield 245, 3), (65, .iload_n 2, 1), (66, .invokestatic 115, 3), (69, .ifCond .eq 31, 3), (72, .aload_n 0, 1), (73, .getfield 150, 3), (76, .iload_n 2, 1), (77, .invokestatic 115, 3), (80, .ifCond .ne 20, 3), (83, .iload_n 3, 1), (84, .iconst 1, 1), (85, .if_icmp .ne 15, 3), (88, .aload_n 0, 1), (89, .iload_n 2, 1), (90, .invokevirtual 293, 3), (93, .ifCond .ne 7, 3), (96, .iconst 1, 1), (97, .goto 4, 3), (100, .iconst 0, 1), (101, .ireturn, 1)]
set_option maxRecDepth 100000 in
theorem iX10_isPacked_ok : iX10_isPacked.all (fun q => decide (decode cX10_isPacked q.1 = .ok (q.2.1, q.2.2))) = true := by decide +kernel
def iX10_newCell : List (Nat × Instr × Nat) := [(0, .aload_n 0, 1), (1, .getfield 79, 3), (4, .aload_n 0, 1), (5, .getfield 296, 3), (8, .iload_n 1, 1), (9, .iastore, 1), (10, .aload_n 0, 1), (11, .getfield 82, 3), (14, .aload_n 0, 1), (15, .getfield 296, 3), (18, .iload_n 2, 1), (19, .iastore, 1), (20, .aload_n 0, 1), (21, .getfield 85, 3), (24, .aload_n 0, 1), (25, .getfield 296, 3), (28, .iload_n 3, 1), (29, .iastore, 1), (30, .aload_n 0, 1), (31, .getfield 88, 3), (34, .aload_n 0, 1), (35, .getfield 296, 3), (38, .iconst (-1), 1), (39, .iastore, 1), (40, .aload_n 0, 1), (41, .getfield 91, 3), (44, .aload_n 0, 1), (45, .getfield 296, 3), (48, .iload_n 1, 1), (49, .ifCond .lt 27, 3), (52, .aload_n 0, 1), (53, .getfield 58, 3), (56, .iload_n 1, 1), (57, .laload, 1), (58, .iload_n 2, 1), (59, .ifCond .lt 12, 3), (62, .aload_n 0, 1), (63, .getfield 58, 3), (66, .iload_n 2, 1), (67, .laload, 1), (68, .goto 4, 3), (71, .lconst 0, 1), (72, .lor, 1), (73, .goto 13, 3), (76, .lconst 1, 1), (77, .aload_n 0, 1), (78, .getfield 16, 3), (81, .iconst 3, 1), (82, .iload_n 3, 1), (83, .imul, 1), (84, .iaload, 1), (85, .lshl, 1), (86, .lastore, 1), (87, .aload_n 0, 1), (88, .getfield 94, 3), (91, .aload_n 0, 1), (92, .getfield 296, 3), (95, .iload_n 1, 1), (96, .ifCond .lt 9, 3), (99, .lconst 1, 1), (100, .iload_n 1, 1), (101, .lshl, 1), (102, .goto 4, 3), (105, .lconst 0, 1), (106, .iload_n 2, 1), (107, .ifCond .lt 9, 3), (110, .lconst 1, 1), (111, .iload_n 2, 1), (112, .lshl, 1), (113, .goto 4, 3), (116, .lconst 0, 1), (117, .lor, 1), (118, .iload_n 3, 1), (119, .ifCond .lt 9, 3), (122, .lconst 1, 1), (123, .iload_n 3, 1), (124, .lshl, 1), (125, .goto 4, 3), (128, .lconst 0, 1), (129, .lor, 1), (130, .lastore, 1), (131, .aload_n 0, 1), (132, .dup, 1), (133, .getfield 296, 3), (136, .iconst 1, 1), (137, .iadd, 1), (138, .putfield 296, 3), (141, .return_, 1)]
set_option maxRecDepth 100000 in
theorem iX10_newCell_ok : iX10_newCell.all (fun q => decide (decode cX10_newCell q.1 = .ok (q.2.1, q.2.2))) = true := by decide +kernel
def iX10_packs : List (Nat × Instr × Nat) := [(0, .aload_n 0, 1), (1, .getfield 76, 3), (4, .aload_n 0, 1), (5, .getfield 16, 3), (8, .iconst 3, 1), (9, .iload_n 1, 1), (10, .imul, 1), (11, .iaload, 1), (12, .iaload, 1), (13, .istore_n 2, 1), (14, .aload_n 0, 1), (15, .getfield 85, 3), (18, .iload_n 2, 1), (19, .iaload, 1), (20, .ifCond .ge 13, 3), (23, .aload_n 0, 1), (24, .getfield 85, 3), (27, .iload_n 2, 1), (28, .iload_n 1, 1), (29, .iastore, 1), (30, .goto 10, 3), (33, .aload_n 0, 1), (34, .getfield 88, 3), (37, .iload_n 2, 1), (38, .iload_n 1, 1), (39, .iastore, 1), (40, .aload_n 0, 1), (41, .getfield 94, 3), (44, .iload_n 2, 1), (45, .dup2, 1), (46, .laload, 1), (47, .lconst 1, 1), (48, .iload_n 1, 1), (49, .lshl, 1), (50, .lor, 1), (51, .lastore, 1), (52, .aload_n 0, 1), (53, .dup, 1), (54, .getfield 299, 3), (57, .iconst 1, 1), (58, .iadd, 1), (59, .putfield 299, 3), (62, .return_, 1)]
set_option maxRecDepth 100000 in
theorem iX10_packs_ok : iX10_packs.all (fun q => decide (decode cX10_packs q.1 = .ok (q.2.1, q.2.2))) = true := by decide +kernel
def iX10_laysCells : List (Nat × Instr × Nat) := [(0, .aload_n 0, 1), (1, .invokevirtual 257, 3), (4, .aload_n 0, 1), (5, .invokevirtual 302, 3), (8, .aload_n 0, 1), (9, .iconst 0, 1), (10, .putfield 296, 3), (13, .aload_n 0, 1), (14, .iconst 0, 1), (15, .putfield 299, 3), (18, .iconst 0, 1), (19, .istore_n 1, 1), (20, .iload_n 1, 1), (21, .aload_n 0, 1), (22, .getfield 119, 3), (25, .if_icmp .ge 96, 3), (28, .aload_n 0, 1), (29, .getfield 76, 3), (32, .iload_n 1, 1), (33, .iconst (-1), 1), (34, .iastore, 1), (35, .aload_n 0, 1), (36, .getfield 245, 3), (39, .iload_n 1, 1), (40, .invokestatic 115, 3), (43, .ifCond .eq 72, 3), (46, .aload_n 0, 1), (47, .getfield 73, 3), (50, .iload_n 1, 1), (51, .iaload, 1), (52, .ifCond .lt 13, 3), (55, .aload_n 0, 1), (56, .getfield 73, 3), (59, .iload_n 1, 1), (60, .iaload, 1), (61, .iload_n 1, 1), (62, .if_icmp .le 7, 3), (65, .iconst 1, 1), (66, .goto 4, 3), (69, .iconst 0, 1), (70, .istore_n 2, 1), (71, .aload_n 0, 1), (72, .getfield 76, 3), (75, .iload_n 1, 1), (76, .iload_n 2, 1), (77, .ifCond .eq 10, 3), (80, .aload_n 0, 1), (81, .getfield 296, 3), (84, .goto 14, 3), (87, .aload_n 0, 1), (88, .getfield 76, 3), (91, .aload_n 0, 1), (92, .getfield 73, 3), (95, .iload_n 1, 1), (96, .iaload, 1), (97, .iaload, 1), (98, .iastore, 1), (99, .iload_n 2, 1), (100, .ifCond .eq 15, 3), (103, .aload_n 0, 1), (104, .iload_n 1, 1), (105, .aload_n 0, 1), (106, .getfield 73, 3), (109, .iload_n 1, 1), (110, .iaload, 1), (111, .iconst (-1), 1), (112, .invokevirtual 305, 3), (115, .iinc 1 1, 3), (118, .goto (-98), 3), (121, .iconst 0, 1), (122, .istore_n 1, 1), (123, .iload_n 1, 1), (124, .aload_n 0, 1), (125, .getfield 119, 3), (128, .if_icmp .ge 42, 3), (131, .aload_n 0, 1), (132, .getfield 7, 3), (135, .iload_n 1, 1), (136, .iaload, 1), (137, .iconst 2, 1), (138, .if_icmp .ne 26, 3), (141, .aload_n 0, 1), (142, .iload_n 1, 1), (143, .invokevirtual 309, 3), (146, .ifCond .eq 11, 3), (149, .aload_n 0, 1), (150, .iload_n 1, 1), (151, .invokevirtual 312, 3), (154, .goto 10, 3), (157, .aload_n 0, 1), (158, .iconst (-1), 1), (159, .iconst (-1), 1), (160, .iload_n 1, 1), (161, .invokevirtual 305, 3), (164, .iinc 1 1, 3), (167, .goto (-44), 3), (170, .return_, 1)]
set_option maxRecDepth 100000 in
theorem iX10_laysCells_ok : iX10_laysCells.all (fun q => decide (decode cX10_laysCells q.1 = .ok (q.2.1, q.2.2))) = true := by decide +kernel
def iX10_mostPairs : List (Nat × Instr × Nat) := [(0, .aload_n 0, 1), (1, .getfield 245, 3), (4, .invokestatic 154, 3), (7, .istore_n 1, 1), (8, .iload_n 1, 1), (9, .bipush 14, 2), (11, .if_icmp .le 5, 3), (14, .iconst (-1), 1), (15, .ireturn, 1), (16, .iconst 0, 1), (17, .istore_n 2, 1), (18, .iconst 0, 1), (19, .istore_n 3, 1), (20, .iload_n 3, 1), (21, .aload_n 0, 1), (22, .getfield 119, 3), (25, .if_icmp .ge 30, 3), (28, .aload_n 0, 1), (29, .getfield 245, 3), (32, .iload_n 3, 1), (33, .invokestatic 115, 3), (36, .ifCond .eq 13, 3), (39, .aload_n 0, 1), (40, .getfield 100, 3), (43, .iload_n 2, 1), (44, .iload_n 3, 1), (45, .iastore, 1), (46, .iinc 2 1, 3), (49, .iinc 3 1, 3), (52, .goto (-32), 3), (55, .aload_n 0, 1), (56, .getfield 97, 3), (59, .iconst 0, 1), (60, .iconst 0, 1), (61, .iastore, 1), (62, .iconst 1, 1), (63, .istore_n 3, 1), (64, .iload_n 3, 1), (65, .iconst 1, 1), (66, .iload_n 1, 1), (67, .ishl, 1), (68, .if_icmp .ge 147, 3), (71, .iload_n 3, 1), (72, .i2l, 1), (73, .invokestatic 194, 3), (76, .istore 4, 2), (78, .iload_n 3, 1), (79, .iconst 1, 1), (80, .iload 4, 2), (82, .ishl, 1), (83, .isub, 1), (84, .istore 5, 2), (86, .aload_n 0, 1), (87, .getfield 97, 3), (90, .iload_n 3, 1), (91, .aload_n 0, 1), (92, .getfield 97, 3), (95, .iload 5, 2), (97, .iaload, 1), (98, .iastore, 1), (99, .iload 4, 2), (101, .iconst 1, 1), (102, .iadd, 1), (103, .istore 6, 2), (105, .iload 6, 2), (107, .iload_n 1, 1), (108, .if_icmp .ge 101, 3), (111, .iload 5, 2), (113, .i2l, 1), (114, .iload 6, 2), (116, .invokestatic 115, 3), (119, .ifCond .eq 28, 3), (122, .aload_n 0, 1), (123, .aload_n 0, 1), (124, .getfield 100, 3), (127, .iload 4, 2), (129, .iaload, 1), (130, .aload_n 0, 1), (131, .getfield 100, 3), (134, .iload 6, 2), (136, .iaload, 1), (137, .invokevirtual 290, 3), (140, .ifCond .eq 7, 3), (143, .iconst 1, 1), (144, .goto 4, 3), (147, .iconst 0, 1), (148, .istore 7, 2), (150, .iload 7, 2), (152, .ifCond .eq 20, 3), (155, .aload_n 0, 1), (156, .getfield 97, 3), (159, .iload 5, 2), (161, .iconst 1, 1), (162, .iload 6, 2), (164, .ishl, 1), (165, .isub, 1), (166, .iaload, 1), (167, .iconst 1, 1), (168, .iadd, 1), (169, .goto 4, 3), (172, .iconst 0, 1), (173, .istore 8, 2), (175, .aload_n 0, 1), (176, .getfield 97, 3), (179, .iload_n 3, 1), (180, .iload 8, 2), (182, .aload_n 0, 1), (183, .getfield 97, 3), (186, .iload_n 3, 1), (187, .iaload, 1), (188, .if_icmp .le 8, 3), (191, .iload 8, 2), (193, .goto 9, 3), (196, .aload_n 0, 1), (197, .getfield 97, 3), (200, .iload_n 3, 1), (201, .iaload, 1), (202, .iastore, 1), (203, .iinc 6 1, 3), (206, .goto (-101), 3), (209, .iinc 3 1, 3), (212, .goto (-148), 3), (215, .aload_n 0, 1), (216, .getfield 97, 3), (219, .iconst 1, 1), (220, .iload_n 1, 1), (221, .ishl, 1), (222, .iconst 1, 1), (223, .isub, 1), (224, .iaload, 1), (225, .ireturn, 1)]
set_option maxRecDepth 100000 in
theorem iX10_mostPairs_ok : iX10_mostPairs.all (fun q => decide (decode cX10_mostPairs q.1 = .ok (q.2.1, q.2.2))) = true := by decide +kernel
def iX10_table : List (Nat × Instr × Nat) := [(0, .aload_n 0, 1), (1, .iconst 0, 1), (2, .putfield 112, 3), (5, .aload_n 0, 1), (6, .iload_n 1, 1), (7, .invokevirtual 231, 3), (10, .ifCond .eq 10, 3), (13, .aload_n 0, 1), (14, .getfield 126, 3), (17, .ifCond .ne 5, 3), (20, .iconst (-1), 1), (21, .ireturn, 1), (22, .aload_n 0, 1), (23, .invokevirtual 315, 3), (26, .iload_n 2, 1), (27, .tableswitch 87 0 5 #[37, 54, 61, 67, 74, 81], 37), (64, .aload_n 0, 1), (65, .getfield 245, 3), (68, .iload_n 1, 1), (69, .invokestatic 115, 3), (72, .ifCond .eq 7, 3), (75, .iconst 1, 1), (76, .goto 4, 3), (79, .iconst 0, 1), (80, .ireturn, 1), (81, .aload_n 0, 1), (82, .getfield 61, 3), (85, .iload_n 1, 1), (86, .iaload, 1), (87, .ireturn, 1), (88, .aload_n 0, 1), (89, .iload_n 1, 1), (90, .invokevirtual 293, 3), (93, .ireturn, 1), (94, .aload_n 0, 1), (95, .getfield 73, 3), (98, .iload_n 1, 1), (99, .iaload, 1), (100, .ireturn, 1), (101, .aload_n 0, 1), (102, .getfield 76, 3), (105, .iload_n 1, 1), (106, .iaload, 1), (107, .ireturn, 1), (108, .aload_n 0, 1), (109, .iload_n 1, 1), (110, .invokevirtual 318, 3), (113, .ireturn, 1), (114, .iconst (-1), 1), (115, .ireturn, 1)]
set_option maxRecDepth 100000 in
theorem iX10_table_ok : iX10_table.all (fun q => decide (decode cX10_table q.1 = .ok (q.2.1, q.2.2))) = true := by decide +kernel
def iX10_slowest : List (Nat × Instr × Nat) := [(0, .iconst 0, 1), (1, .istore_n 1, 1), (2, .iconst 0, 1), (3, .istore_n 2, 1), (4, .iload_n 2, 1), (5, .aload_n 0, 1), (6, .getfield 119, 3), (9, .if_icmp .ge 41, 3), (12, .aload_n 0, 1), (13, .invokevirtual 225, 3), (16, .iload_n 2, 1), (17, .invokestatic 115, 3), (20, .ifCond .eq 22, 3), (23, .aload_n 0, 1), (24, .getfield 61, 3), (27, .iload_n 2, 1), (28, .iaload, 1), (29, .iload_n 1, 1), (30, .if_icmp .le 12, 3), (33, .aload_n 0, 1), (34, .getfield 61, 3), (37, .iload_n 2, 1), (38, .iaload, 1), (39, .goto 4, 3), (42, .iload_n 1, 1), (43, .istore_n 1, 1), (44, .iinc 2 1, 3), (47, .goto (-43), 3), (50, .iload_n 1, 1), (51, .ireturn, 1)]
set_option maxRecDepth 100000 in
theorem iX10_slowest_ok : iX10_slowest.all (fun q => decide (decode cX10_slowest q.1 = .ok (q.2.1, q.2.2))) = true := by decide +kernel
def iX10_mapped : List (Nat × Instr × Nat) := [(0, .aload_n 0, 1), (1, .iconst 0, 1), (2, .putfield 112, 3), (5, .aload_n 0, 1), (6, .getfield 126, 3), (9, .ifCond .ne 5, 3), (12, .iconst (-1), 1), (13, .ireturn, 1), (14, .aload_n 0, 1), (15, .invokevirtual 315, 3), (18, .iload_n 1, 1), (19, .tableswitch 70 0 5 #[37, 45, 50, 55, 60, 65], 37), (56, .aload_n 0, 1), (57, .getfield 245, 3), (60, .invokestatic 154, 3), (63, .ireturn, 1), (64, .aload_n 0, 1), (65, .invokevirtual 321, 3), (68, .ireturn, 1), (69, .aload_n 0, 1), (70, .getfield 287, 3), (73, .ireturn, 1), (74, .aload_n 0, 1), (75, .invokevirtual 324, 3), (78, .ireturn, 1), (79, .aload_n 0, 1), (80, .getfield 296, 3), (83, .ireturn, 1), (84, .aload_n 0, 1), (85, .getfield 299, 3), (88, .ireturn, 1), (89, .iconst (-1), 1), (90, .ireturn, 1)]
set_option maxRecDepth 100000 in
theorem iX10_mapped_ok : iX10_mapped.all (fun q => decide (decode cX10_mapped q.1 = .ok (q.2.1, q.2.2))) = true := by decide +kernel
def iX10_cell : List (Nat × Instr × Nat) := [(0, .aload_n 0, 1), (1, .iconst 0, 1), (2, .putfield 112, 3), (5, .aload_n 0, 1), (6, .getfield 126, 3), (9, .ifCond .eq 12, 3), (12, .iload_n 2, 1), (13, .iconst 0, 1), (14, .iconst 4, 1), (15, .invokestatic 140, 3), (18, .ifCond .ne 6, 3), (21, .bipush (-2), 2), (23, .ireturn, 1), (24, .aload_n 0, 1), (25, .invokevirtual 315, 3), (28, .iload_n 1, 1), (29, .ifCond .lt 11, 3), (32, .iload_n 1, 1), (33, .aload_n 0, 1), (34, .getfield 296, 3), (37, .if_icmp .lt 6, 3), (40, .bipush (-2), 2), (42, .ireturn, 1), (43, .iload_n 2, 1), (44, .ifCond .ne 12, 3), (47, .aload_n 0, 1), (48, .getfield 79, 3), (51, .iload_n 1, 1), (52, .iaload, 1), (53, .goto 54, 3), (56, .iload_n 2, 1), (57, .iconst 1, 1), (58, .if_icmp .ne 12, 3), (61, .aload_n 0, 1), (62, .getfield 82, 3), (65, .iload_n 1, 1), (66, .iaload, 1), (67, .goto 40, 3), (70, .iload_n 2, 1), (71, .iconst 2, 1), (72, .if_icmp .ne 12, 3), (75, .aload_n 0, 1), (76, .getfield 85, 3), (79, .iload_n 1, 1), (80, .iaload, 1), (81, .goto 26, 3), (84, .iload_n 2, 1), (85, .iconst 3, 1), (86, .if_icmp .ne 12, 3), (89, .aload_n 0, 1), (90, .getfield 88, 3), (93, .iload_n 1, 1), (94, .iaload, 1), (95, .goto 12, 3), (98, .aload_n 0, 1), (99, .getfield 91, 3), (102, .iload_n 1, 1), (103, .laload, 1), (104, .invokestatic 154, 3), (107, .ireturn, 1)]
set_option maxRecDepth 100000 in
theorem iX10_cell_ok : iX10_cell.all (fun q => decide (decode cX10_cell q.1 = .ok (q.2.1, q.2.2))) = true := by decide +kernel
def iX10_beginning : List (Nat × Instr × Nat) := [(0, .iconst (-1), 1), (1, .istore_n 1, 1), (2, .iconst 0, 1), (3, .istore_n 2, 1), (4, .iload_n 2, 1), (5, .aload_n 0, 1), (6, .getfield 296, 3), (9, .if_icmp .ge 49, 3), (12, .aload_n 0, 1), (13, .getfield 103, 3), (16, .iload_n 2, 1), (17, .iaload, 1), (18, .ifCond .ge 32, 3), (21, .iload_n 1, 1), (22, .ifCond .lt 24, 3), (25, .aload_n 0, 1), (26, .getfield 91, 3), (29, .iload_n 2, 1), (30, .laload, 1), (31, .invokestatic 154, 3), (34, .aload_n 0, 1), (35, .getfield 91, 3), (38, .iload_n 1, 1), (39, .laload, 1), (40, .invokestatic 154, 3), (43, .if_icmp .le 7, 3), (46, .iload_n 2, 1), (47, .goto 4, 3), (50, .iload_n 1, 1), (51, .istore_n 1, 1), (52, .iinc 2 1, 3), (55, .goto (-51), 3), (58, .iload_n 1, 1), (59, .ireturn, 1)]
set_option maxRecDepth 100000 in
theorem iX10_beginning_ok : iX10_beginning.all (fun q => decide (decode cX10_beginning q.1 = .ok (q.2.1, q.2.2))) = true := by decide +kernel
def iX10_nextTo : List (Nat × Instr × Nat) := [(0, .iconst (-1), 1), (1, .istore_n 2, 1), (2, .iconst 0, 1), (3, .istore_n 3, 1), (4, .aload_n 0, 1), (5, .getfield 327, 3), (8, .iconst 1, 1), (9, .isub, 1), (10, .istore 4, 2), (12, .iconst 0, 1), (13, .istore 5, 2), (15, .iload 5, 2), (17, .aload_n 0, 1), (18, .getfield 296, 3), (21, .if_icmp .ge 125, 3), (24, .aload_n 0, 1), (25, .getfield 103, 3), (28, .iload 5, 2), (30, .iaload, 1), (31, .ifCond .ge 49, 3), (34, .aload_n 0, 1), (35, .getfield 106, 3), (38, .iload 4, 2), (40, .laload, 1), (41, .aload_n 0, 1), (42, .getfield 91, 3), (45, .iload 5, 2), (47, .laload, 1), (48, .lor, 1), (49, .aload_n 0, 1), (50, .getfield 109, 3), (53, .iload 4, 2), (55, .laload, 1), (56, .aload_n 0, 1), (57, .getfield 94, 3), (60, .iload 5, 2), (62, .laload, 1), (63, .lor, 1), (64, .ldc2_w 208, 3), (67, .lxor, 1), (68, .land, 1), (69, .invokestatic 154, 3), (72, .iload_n 1, 1), (73, .if_icmp .gt 7, 3), (76, .iconst 1, 1), (77, .goto 4, 3), (80, .iconst 0, 1), (81, .istore 6, 2), (83, .aload_n 0, 1), (84, .getfield 91, 3), (87, .iload 5, 2), (89, .laload, 1), (90, .aload_n 0, 1), (91, .getfield 94, 3), (94, .iload 5, 2), (96, .laload, 1), (97, .lor, 1), (98, .aload_n 0, 1), (99, .getfield 106, 3), (102, .iload 4, 2), (104, .laload, 1), (105, .aload_n 0, 1), (106, .getfield 109, 3), (109, .iload 4, 2), (111, .laload, 1), (112, .lor, 1), (113, .land, 1), (114, .invokestatic 154, 3), (117, .istore 7, 2), (119, .iload 6, 2), (121, .ifCond .eq 19, 3), (124, .iload_n 2, 1), (125, .ifCond .lt 9, 3), (128, .iload 7, 2), (130, .iload_n 3, 1), (131, .if_icmp .le 9, 3), (134, .iload 5, 2), (136, .istore_n 2, 1), (137, .iload 7, 2), (139, .istore_n 3, 1), (140, .iinc 5 1, 3), (143, .goto (-128), 3), (146, .iload_n 2, 1), (147, .ireturn, 1)]
set_option maxRecDepth 100000 in
theorem iX10_nextTo_ok : iX10_nextTo.all (fun q => decide (decode cX10_nextTo q.1 = .ok (q.2.1, q.2.2))) = true := by decide +kernel
def iX10_joins : List (Nat × Instr × Nat) := [(0, .aload_n 0, 1), (1, .getfield 327, 3), (4, .iconst 1, 1), (5, .isub, 1), (6, .istore_n 2, 1), (7, .aload_n 0, 1), (8, .getfield 103, 3), (11, .iload_n 1, 1), (12, .iload_n 2, 1), (13, .iastore, 1), (14, .aload_n 0, 1), (15, .getfield 106, 3), (18, .iload_n 2, 1), (19, .dup2, 1), (20, .laload, 1), (21, .aload_n 0, 1), (22, .getfield 91, 3), (25, .iload_n 1, 1), (26, .laload, 1), (27, .lor, 1), (28, .lastore, 1), (29, .aload_n 0, 1), (30, .getfield 109, 3), (33, .iload_n 2, 1), (34, .dup2, 1), (35, .laload, 1), (36, .aload_n 0, 1), (37, .getfield 94, 3), (40, .iload_n 1, 1), (41, .laload, 1), (42, .lor, 1), (43, .lastore, 1), (44, .return_, 1)]
set_option maxRecDepth 100000 in
theorem iX10_joins_ok : iX10_joins.all (fun q => decide (decode cX10_joins q.1 = .ok (q.2.1, q.2.2))) = true := by decide +kernel
def iX10_laysClusters : List (Nat × Instr × Nat) := [(0, .aload_n 0, 1), (1, .getfield 126, 3), (4, .ifCond .eq 24, 3), (7, .iload_n 1, 1), (8, .iconst 1, 1), (9, .bipush 8, 2), (11, .invokestatic 140, 3), (14, .ifCond .eq 14, 3), (17, .iload_n 2, 1), (18, .bipush 6, 2), (20, .bipush 16, 2), (22, .invokestatic 140, 3), (25, .ifCond .ne 5, 3), (28, .iconst 0, 1), (29, .ireturn, 1), (30, .aload_n 0, 1), (31, .invokevirtual 315, 3), (34, .aload_n 0, 1), (35, .iconst 0, 1), (36, .putfield 327, 3), (39, .iconst 0, 1), (40, .istore_n 3, 1), (41, .iload_n 3, 1), (42, .aload_n 0, 1), (43, .getfield 296, 3), (46, .if_icmp .ge 16, 3), (49, .aload_n 0, 1), (50, .getfield 103, 3), (53, .iload_n 3, 1), (54, .iconst (-1), 1), (55, .iastore, 1), (56, .iinc 3 1, 3), (59, .goto (-18), 3), (62, .aload_n 0, 1), (63, .invokevirtual 330, 3), (66, .istore_n 3, 1), (67, .iload_n 3, 1), (68, .ifCond .lt 75, 3), (71, .aload_n 0, 1), (72, .getfield 106, 3), (75, .aload_n 0, 1), (76, .getfield 327, 3), (79, .lconst 0, 1), (80, .lastore, 1), (81, .aload_n 0, 1), (82, .getfield 109, 3), (85, .aload_n 0, 1), (86, .getfield 327, 3), (89, .lconst 0, 1), (90, .lastore, 1), (91, .aload_n 0, 1), (92, .dup, 1), (93, .getfield 327, 3), (96, .iconst 1, 1), (97, .iadd, 1), (98, .putfield 327, 3), (101, .iconst 0, 1), (102, .istore 4, 2), (104, .iload_n 3, 1), (105, .ifCond .lt 30, 3), (108, .aload_n 0, 1), (109, .iload_n 3, 1), (110, .invokevirtual 333, 3), (113, .iinc 4 1, 3), (116, .iload 4, 2), (118, .iload_n 1, 1), (119, .if_icmp .ge 11, 3), (122, .aload_n 0, 1), (123, .iload_n 2, 1), (124, .invokevirtual 336, 3), (127, .goto 4, 3), (130, .iconst (-1), 1), (131, .istore_n 3, 1), (132, .goto (-28), 3), (135, .aload_n 0, 1), (136, .invokevirtual 330, 3), (139, .istore_n 3, 1), (140, .goto (-73), 3), (143, .iconst 1, 1), (144, .ireturn, 1)]
set_option maxRecDepth 100000 in
theorem iX10_laysClusters_ok : iX10_laysClusters.all (fun q => decide (decode cX10_laysClusters q.1 = .ok (q.2.1, q.2.2))) = true := by decide +kernel
def iX10_clusters : List (Nat × Instr × Nat) := [(0, .aload_n 0, 1), (1, .iconst 0, 1), (2, .putfield 112, 3), (5, .aload_n 0, 1), (6, .iload_n 1, 1), (7, .iload_n 2, 1), (8, .invokevirtual 339, 3), (11, .ifCond .eq 10, 3), (14, .aload_n 0, 1), (15, .getfield 327, 3), (18, .goto 4, 3), (21, .iconst (-1), 1), (22, .ireturn, 1)]
set_option maxRecDepth 100000 in
theorem iX10_clusters_ok : iX10_clusters.all (fun q => decide (decode cX10_clusters q.1 = .ok (q.2.1, q.2.2))) = true := by decide +kernel
def iX10_cluster : List (Nat × Instr × Nat) := [(0, .aload_n 0, 1), (1, .iconst 0, 1), (2, .putfield 112, 3), (5, .aload_n 0, 1), (6, .iload_n 1, 1), (7, .iload_n 2, 1), (8, .invokevirtual 339, 3), (11, .ifCond .eq 24, 3), (14, .iload_n 3, 1), (15, .ifCond .lt 20, 3), (18, .iload_n 3, 1), (19, .aload_n 0, 1), (20, .getfield 296, 3), (23, .if_icmp .ge 12, 3), (26, .aload_n 0, 1), (27, .getfield 103, 3), (30, .iload_n 3, 1), (31, .iaload, 1), (32, .goto 4, 3), (35, .iconst (-1), 1), (36, .ireturn, 1)]
set_option maxRecDepth 100000 in
theorem iX10_cluster_ok : iX10_cluster.all (fun q => decide (decode cX10_cluster q.1 = .ok (q.2.1, q.2.2))) = true := by decide +kernel
def iX10_cross : List (Nat × Instr × Nat) := [(0, .aload_n 0, 1), (1, .iconst 0, 1), (2, .putfield 112, 3), (5, .aload_n 0, 1), (6, .iload_n 1, 1), (7, .iload_n 2, 1), (8, .invokevirtual 339, 3), (11, .ifCond .ne 5, 3), (14, .iconst (-1), 1), (15, .ireturn, 1), (16, .lconst 0, 1), (17, .lstore_n 3, 1), (18, .iconst 0, 1), (19, .istore 5, 2), (21, .iload 5, 2), (23, .aload_n 0, 1), (24, .getfield 327, 3), (27, .if_icmp .ge 56, 3), (30, .iconst 0, 1), (31, .istore 6, 2), (33, .iload 6, 2), (35, .aload_n 0, 1), (36, .getfield 327, 3), (39, .if_icmp .ge 38, 3), (42, .lload_n 3, 1), (43, .iload 5, 2), (45, .iload 6, 2), (47, .if_icmp .eq 21, 3), (50, .aload_n 0, 1), (51, .getfield 109, 3), (54, .iload 5, 2), (56, .laload, 1), (57, .aload_n 0, 1), (58, .getfield 106, 3), (61, .iload 6, 2), (63, .laload, 1), (64, .land, 1), (65, .goto 4, 3), (68, .lconst 0, 1), (69, .lor, 1), (70, .lstore_n 3, 1), (71, .iinc 6 1, 3), (74, .goto (-41), 3), (77, .iinc 5 1, 3), (80, .goto (-59), 3), (83, .lload_n 3, 1), (84, .invokestatic 154, 3), (87, .ireturn, 1)]
set_option maxRecDepth 100000 in
theorem iX10_cross_ok : iX10_cross.all (fun q => decide (decode cX10_cross q.1 = .ok (q.2.1, q.2.2))) = true := by decide +kernel
def iX10_slow : List (Nat × Instr × Nat) := [(0, .aload_n 0, 1), (1, .iconst 0, 1), (2, .putfield 112, 3), (5, .aload_n 0, 1), (6, .getfield 126, 3), (9, .ifCond .eq 7, 3), (12, .iload_n 1, 1), (13, .ifCond .ge 5, 3), (16, .iconst (-1), 1), (17, .ireturn, 1), (18, .aload_n 0, 1), (19, .invokevirtual 257, 3), (22, .iconst (-1), 1), (23, .istore_n 2, 1), (24, .iconst 0, 1), (25, .istore_n 3, 1), (26, .iload_n 3, 1), (27, .aload_n 0, 1), (28, .getfield 119, 3), (31, .if_icmp .ge 57, 3), (34, .aload_n 0, 1), (35, .invokevirtual 225, 3), (38, .iload_n 3, 1), (39, .invokestatic 115, 3), (42, .ifCond .eq 26, 3), (45, .iload_n 2, 1), (46, .ifCond .lt 18, 3), (49, .aload_n 0, 1), (50, .getfield 61, 3), (53, .iload_n 3, 1), (54, .iaload, 1), (55, .aload_n 0, 1), (56, .getfield 61, 3), (59, .iload_n 2, 1), (60, .iaload, 1), (61, .if_icmp .le 7, 3), (64, .iconst 1, 1), (65, .goto 4, 3), (68, .iconst 0, 1), (69, .istore 4, 2), (71, .iload 4, 2), (73, .ifCond .eq 7, 3), (76, .iload_n 3, 1), (77, .goto 4, 3), (80, .iload_n 2, 1), (81, .istore_n 2, 1), (82, .iinc 3 1, 3), (85, .goto (-59), 3), (88, .iconst 0, 1), (89, .istore_n 3, 1), (90, .iload_n 3, 1), (91, .iload_n 1, 1), (92, .if_icmp .ge 104, 3), (95, .iload_n 2, 1), (96, .ifCond .lt 100, 3), (99, .iconst (-1), 1), (100, .istore 4, 2), (102, .iconst 0, 1), (103, .istore 5, 2), (105, .iload 5, 2), (107, .aload_n 0, 1), (108, .getfield 119, 3), (111, .if_icmp .ge 76, 3), (114, .aload_n 0, 1), (115, .getfield 7, 3), (118, .iload_n 2, 1), (119, .iaload, 1), (120, .iconst 1, 1), (121, .if_icmp .ne 66, 3), (124, .aload_n 0, 1), (125, .getfield 58, 3), (128, .iload_n 2, 1), (129, .laload, 1), (130, .iload 5, 2), (132, .invokestatic 115, 3), (135, .ifCond .eq 29, 3), (138, .iload 4, 2), (140, .ifCond .lt 20, 3), (143, .aload_n 0, 1), (144, .getfield 61, 3), (147, .iload 5, 2), (149, .iaload, 1), (150, .aload_n 0, 1), (151, .getfield 61, 3), (154, .iload 4, 2), (156, .iaload, 1), (157, .if_icmp .le 7, 3), (160, .iconst 1, 1), (161, .goto 4, 3), (164, .iconst 0, 1), (165, .istore 6, 2), (167, .iload 6, 2), (169, .ifCond .eq 8, 3), (172, .iload 5, 2), (174, .goto 5, 3), (177, .iload 4, 2), (179, .istore 4, 2), (181, .iinc 5 1, 3), (184, .goto (-79), 3), (187, .iload 4, 2), (189, .istore_n 2, 1), (190, .iinc 3 1, 3), (193, .goto (-103), 3), (196, .iload_n 2, 1), (197, .ireturn, 1)]
set_option maxRecDepth 100000 in
theorem iX10_slow_ok : iX10_slow.all (fun q => decide (decode cX10_slow q.1 = .ok (q.2.1, q.2.2))) = true := by decide +kernel
def iX10_count : List (Nat × Instr × Nat) := [(0, .aload_n 0, 1), (1, .iconst 0, 1), (2, .putfield 112, 3), (5, .iconst 0, 1), (6, .istore_n 2, 1), (7, .iload_n 1, 1), (8, .tableswitch 125 0 7 #[48, 53, 53, 53, 91, 99, 104, 117], 48), (56, .aload_n 0, 1), (57, .getfield 119, 3), (60, .ireturn, 1), (61, .iconst 0, 1), (62, .istore_n 3, 1), (63, .iload_n 3, 1), (64, .aload_n 0, 1), (65, .getfield 119, 3), (68, .if_icmp .ge 29, 3), (71, .iload_n 2, 1), (72, .aload_n 0, 1), (73, .getfield 7, 3), (76, .iload_n 3, 1), (77, .iaload, 1), (78, .iload_n 1, 1), (79, .iconst 1, 1), (80, .isub, 1), (81, .if_icmp .ne 7, 3), (84, .iconst 1, 1), (85, .goto 4, 3), (88, .iconst 0, 1), (89, .iadd, 1), (90, .istore_n 2, 1), (91, .iinc 3 1, 3), (94, .goto (-31), 3), (97, .iload_n 2, 1), (98, .ireturn, 1), (99, .aload_n 0, 1), (100, .getfield 150, 3), (103, .invokestatic 154, 3), (106, .ireturn, 1), (107, .aload_n 0, 1), (108, .getfield 23, 3), (111, .ireturn, 1), (112, .aload_n 0, 1), (113, .getfield 126, 3), (116, .ifCond .eq 7, 3), (119, .iconst 1, 1), (120, .goto 4, 3), (123, .iconst 0, 1), (124, .ireturn, 1), (125, .aload_n 0, 1), (126, .invokevirtual 225, 3), (129, .invokestatic 154, 3), (132, .ireturn, 1), (133, .iconst (-1), 1), (134, .ireturn, 1)]
set_option maxRecDepth 100000 in
theorem iX10_count_ok : iX10_count.all (fun q => decide (decode cX10_count q.1 = .ok (q.2.1, q.2.2))) = true := by decide +kernel
def iJ13_bitCount_95d88 : List (Nat × Instr × Nat) := [(0, .lload_n 0, 1), (1, .lload_n 0, 1), (2, .iconst 1, 1), (3, .lushr, 1), (4, .ldc2_w 314, 3), (7, .land, 1), (8, .lsub, 1), (9, .lstore_n 0, 1), (10, .lload_n 0, 1), (11, .ldc2_w 316, 3), (14, .land, 1), (15, .lload_n 0, 1), (16, .iconst 2, 1), (17, .lushr, 1), (18, .ldc2_w 316, 3), (21, .land, 1), (22, .ladd, 1), (23, .lstore_n 0, 1), (24, .lload_n 0, 1), (25, .lload_n 0, 1), (26, .iconst 4, 1), (27, .lushr, 1), (28, .ladd, 1), (29, .ldc2_w 318, 3), (32, .land, 1), (33, .lstore_n 0, 1), (34, .lload_n 0, 1), (35, .lload_n 0, 1), (36, .bipush 8, 2), (38, .lushr, 1), (39, .ladd, 1), (40, .lstore_n 0, 1), (41, .lload_n 0, 1), (42, .lload_n 0, 1), (43, .bipush 16, 2), (45, .lushr, 1), (46, .ladd, 1), (47, .lstore_n 0, 1), (48, .lload_n 0, 1), (49, .lload_n 0, 1), (50, .bipush 32, 2), (52, .lushr, 1), (53, .ladd, 1), (54, .lstore_n 0, 1), (55, .lload_n 0, 1), (56, .l2i, 1), (57, .bipush 127, 2), (59, .iand, 1), (60, .ireturn, 1)]
set_option maxRecDepth 100000 in
theorem iJ13_bitCount_95d88_ok : iJ13_bitCount_95d88.all (fun q => decide (decode cJ13_bitCount_95d88 q.1 = .ok (q.2.1, q.2.2))) = true := by decide +kernel
end
section
/-! THE ABSTRACT MACHINE: values, a store of the cells, one step, what runs to an end. Pure: no Java machine in it. -/
/-- an int, a long, a cell: its kind and which of that kind -/
abbrev jm_V : Type := Int32 ⊕ Int64 ⊕ (Nat × Nat)
/-- the store: what ints and what longs each cell holds (fields and elements by their places) -/
abbrev jm_G : Type := (Nat → Nat → Nat → Int32) × (Nat → Nat → Nat → Int64)
abbrev jm_L : Type := List (Option jm_V)
abbrev jm_S : Type := jm_G × Nat × jm_L × List jm_V
/-- what a call of a method by its number comes to -/
abbrev jm_C : Type := Nat → List jm_V → jm_G → (Option jm_V → jm_G → Prop) → Prop
abbrev jI (x : Int32) : jm_V := Sum.inl x
abbrev jJ (x : Int64) : jm_V := Sum.inr (Sum.inl x)
abbrev jR (t i : Nat) : jm_V := Sum.inr (Sum.inr (t, i))
def wI (σ : jm_G) (t i : Nat) (f : Nat → Int32) : jm_G := (fun a b => if a = t ∧ b = i then f else σ.1 a b, σ.2)
def wJ (σ : jm_G) (t i : Nat) (f : Nat → Int64) : jm_G := (σ.1, fun a b => if a = t ∧ b = i then f else σ.2 a b)
/-- next; with a condition; a branch; a return; a call; a switch -/
abbrev jm_R : Type := jm_S ⊕ (Prop × jm_S) ⊕ (Prop × jm_S × jm_S) ⊕ (Prop × Option jm_V × jm_G) ⊕ (Nat × List jm_V × jm_G × Nat × jm_L × List jm_V) ⊕ List (Prop × jm_S)
abbrev jm_nx (s : jm_S) : jm_R := .inl s
abbrev jm_ck (c : Prop) (s : jm_S) : jm_R := .inr (.inl (c, s))
abbrev jm_br (c : Prop) (s1 s2 : jm_S) : jm_R := .inr (.inr (.inl (c, s1, s2)))
abbrev jm_rt (c : Prop) (v : Option jm_V) (σ : jm_G) : jm_R := .inr (.inr (.inr (.inl (c, v, σ))))
abbrev jm_cl (k : Nat) (as : List jm_V) (σ : jm_G) (pc : Nat) (lv : jm_L) (st : List jm_V) : jm_R := .inr (.inr (.inr (.inr (.inl (k, as, σ, pc, lv, st)))))
abbrev jm_sw (l : List (Prop × jm_S)) : jm_R := .inr (.inr (.inr (.inr (.inr l))))
abbrev jm_no : jm_R := .inr (.inr (.inr (.inl (False, none, (fun _ _ _ => 0, fun _ _ _ => 0)))))
def jm_all (X : jm_S → Prop) : List (Prop × jm_S) → Prop
  | [] => True
  | q :: r => (q.1 → X q.2) ∧ jm_all X r
def jm_sem (X : jm_S → Prop) (Rt : Option jm_V → jm_G → Prop) (C : jm_C) (r : jm_R) : Prop := match r with
  | .inl s => X s
  | .inr (.inl (c, s)) => c ∧ X s
  | .inr (.inr (.inl (c, s1, s2))) => (c → X s1) ∧ (¬ c → X s2)
  | .inr (.inr (.inr (.inl (c, v, σ)))) => c ∧ Rt v σ
  | .inr (.inr (.inr (.inr (.inl (k, as, σ, pc, lv, st))))) => C k as σ (fun r σ' => X (σ', pc, lv, r.toList ++ st))
  | .inr (.inr (.inr (.inr (.inr l)))) => jm_all X l
def jm_int (n : Int) : Int32 := match n with
  | .ofNat k => nI k
  | .negSucc k => -(nI (k + 1))
def jm_look : List (Nat × Instr × Nat) → Nat → Option (Instr × Nat)
  | [], _ => none
  | q :: r, pc => match Nat.beq q.1 pc with
    | true => some q.2
    | false => jm_look r pc
def jm_key {α : Type} : List (Nat × Nat × α) → Nat → Nat → Option α
  | [], _, _ => none
  | q :: r, a, b => match Nat.beq q.1 a with
    | true => match Nat.beq q.2.1 b with
      | true => some q.2.2
      | false => jm_key r a b
    | false => jm_key r a b
/-- local i, if it stands -/
def jm_at : jm_L → Nat → Option jm_V
  | [], _ => none
  | v :: _, 0 => v
  | _ :: r, i + 1 => jm_at r i
def jm_kill : jm_L → Nat → jm_L
  | [], _ => []
  | v :: r, 0 => v :: r
  | v :: r, 1 => (match v with | some (.inr (.inl _)) => none | v => v) :: r
  | v :: r, i + 2 => v :: jm_kill r (i + 1)
def jm_set : jm_L → Nat → Option jm_V → jm_L
  | [], _, _ => []
  | _ :: r, 0, x => x :: r
  | v :: r, i + 1, x => v :: jm_set r i x
def jm_put1 (lv : jm_L) (i : Nat) (v : jm_V) : jm_L := jm_set (jm_kill lv i) i (some v)
def jm_put2 (lv : jm_L) (i : Nat) (v : jm_V) : jm_L := jm_set (jm_set (jm_kill lv i) i (some v)) (i + 1) none
/-- stores: an int or a cell at i, a long at i, i + 1 -/
def jm_sto (σ : jm_G) (pc : Nat) (lv : jm_L) (i : Nat) (st : List jm_V) (w : Nat) : jm_R := match st with
  | v :: r => match v with
    | .inr (.inl x) => match Nat.beq w 1, Nat.blt (i + 1) lv.length with
      | true, true => jm_nx (σ, pc, jm_put2 lv i (jJ x), r)
      | _, _ => jm_no
    | .inl x => match Nat.beq w 0, Nat.blt i lv.length with
      | true, true => jm_nx (σ, pc, jm_put1 lv i (jI x), r)
      | _, _ => jm_no
    | .inr (.inr q) => match Nat.beq w 2, Nat.blt i lv.length with
      | true, true => jm_nx (σ, pc, jm_put1 lv i (jR q.1 q.2), r)
      | _, _ => jm_no
  | [] => jm_no
def jm_lod (σ : jm_G) (pc : Nat) (lv : jm_L) (i : Nat) (st : List jm_V) (w : Nat) : jm_R := match jm_at lv i with
  | some v => match v with
    | .inl x => match Nat.beq w 0 with | true => jm_nx (σ, pc, lv, jI x :: st) | false => jm_no
    | .inr (.inl x) => match Nat.beq w 1 with | true => jm_nx (σ, pc, lv, jJ x :: st) | false => jm_no
    | .inr (.inr q) => match Nat.beq w 2 with | true => jm_nx (σ, pc, lv, jR q.1 q.2 :: st) | false => jm_no
  | none => jm_no
def jm_i (st : List jm_V) (f : Int32 → List jm_V → jm_R) : jm_R := match st with
  | .inl x :: r => f x r
  | _ => jm_no
def jm_ii (st : List jm_V) (f : Int32 → Int32 → List jm_V → jm_R) : jm_R := match st with
  | .inl y :: .inl x :: r => f x y r
  | _ => jm_no
def jm_j (st : List jm_V) (f : Int64 → List jm_V → jm_R) : jm_R := match st with
  | .inr (.inl x) :: r => f x r
  | _ => jm_no
def jm_jj (st : List jm_V) (f : Int64 → Int64 → List jm_V → jm_R) : jm_R := match st with
  | .inr (.inl y) :: .inr (.inl x) :: r => f x y r
  | _ => jm_no
def jm_ij (st : List jm_V) (f : Int64 → Int32 → List jm_V → jm_R) : jm_R := match st with
  | .inl y :: .inr (.inl x) :: r => f x y r
  | _ => jm_no
/-- the kinds of cells: how many of it, an object (class, what each field is: 0 an int, 1 a long, 2 a boolean, or a cell: of the same place among its kind?) or a row (length; of 0 ints, 1 longs, 2 booleans, 3 the cells of kind 17) -/
abbrev jm_F : Type := Nat ⊕ (Nat × Bool)
abbrev jm_H : Type := Nat × ((Nat × List jm_F) ⊕ (Nat × Nat))
def jm_nth {α : Type} : List α → Nat → Option α
  | [], _ => none
  | v :: _, 0 => some v
  | _ :: r, i + 1 => jm_nth r i
def jm_cat (st : List jm_V) : Nat := match st with
  | [] => 0
  | .inr (.inl _) :: r => jm_cat r + 2
  | _ :: r => jm_cat r + 1
/-- the first n of a stack, turned, and what is below -/
def jm_take : Nat → List jm_V → List jm_V → Option (List jm_V × List jm_V)
  | 0, st, a => some (a, st)
  | _ + 1, [], _ => none
  | n + 1, v :: r, a => jm_take n r (v :: a)
def jm_tgt (pc : Nat) (off : Int) : Nat := match (pc : Int) + off with
  | .ofNat k => k
  | .negSucc _ => 1000000
end
section
-- written by wip/gen/gen.py: kinds of cells, what pool numbers mean, the methods by number
def jm_sh : List jm_H := [(1, .inl (9, [.inr (2, false), .inr (8, false), .inr (1, false), .inr (22, false), .inr (26, false), .inr (29, false), .inr (36, false), .inl 0, .inl 2])),
  (1, .inr (4, 3)),
  (1, .inl (5, [.inr (3, false), .inr (4, false), .inr (5, false), .inr (6, false), .inr (7, false), .inl 1, .inl 1, .inl 1, .inl 1, .inl 0])),
  (1, .inr (40, 0)),
  (1, .inr (120, 0)),
  (1, .inr (40, 0)),
  (1, .inr (40, 1)),
  (1, .inr (40, 1)),
  (1, .inl (7, [.inr (2, false), .inr (9, false), .inl 1])),
  (1, .inr (40, 1)),
  (1, .inl (8, [.inr (11, false), .inr (12, false), .inr (13, false), .inr (2, false), .inl 1, .inl 1, .inl 1, .inl 0])),
  (1, .inr (80, 0)),
  (1, .inr (80, 0)),
  (1, .inr (40, 0)),
  (1, .inl (6, [.inr (15, false), .inr (16, false), .inl 0])),
  (1, .inr (730, 1)),
  (1, .inr (730, 1)),
  (4, .inl (4, [.inr (2, false), .inr (10, false), .inr (14, false), .inl 4, .inr (18, true), .inr (19, true), .inr (20, true), .inr (21, true), .inl 0])),
  (4, .inr (40, 0)),
  (4, .inr (40, 1)),
  (4, .inr (320, 1)),
  (4, .inr (40, 0)),
  (1, .inl (3, [.inr (2, false), .inr (23, false), .inr (24, false), .inr (25, false), .inl 1])),
  (1, .inr (40, 0)),
  (1, .inr (40, 1)),
  (1, .inr (40, 0)),
  (1, .inl (2, [.inr (2, false), .inr (22, false), .inr (27, false), .inr (28, false), .inl 1])),
  (1, .inr (40, 1)),
  (1, .inr (40, 1)),
  (1, .inl (0, [.inr (2, false), .inr (22, false), .inr (30, false), .inr (31, false), .inr (32, false), .inr (33, false), .inr (34, false), .inr (35, false), .inl 1, .inl 0, .inl 0])),
  (1, .inr (40, 1)),
  (1, .inr (40, 0)),
  (1, .inr (40, 0)),
  (1, .inr (40, 1)),
  (1, .inr (40, 1)),
  (1, .inr (40, 1)),
  (1, .inl (1, [.inr (29, false), .inr (37, false), .inl 0, .inl 0, .inl 0, .inl 1, .inl 1, .inl 1])),
  (1, .inr (40, 0)),
  (1, .inl (10, [.inl 0, .inl 0, .inr (39, false), .inr (40, false), .inr (41, false), .inr (42, false), .inl 1, .inl 0, .inl 2, .inl 2, .inr (43, false), .inr (44, false), .inr (45, false), .inr (46, false), .inr (47, false), .inr (48, false), .inr (49, false), .inl 0, .inr (50, false), .inr (51, false), .inr (52, false), .inl 0, .inr (53, false), .inr (54, false), .inr (55, false), .inl 1, .inr (56, false), .inr (57, false), .inr (58, false), .inr (59, false), .inr (60, false), .inr (61, false), .inr (62, false), .inr (63, false), .inr (64, false), .inr (65, false), .inl 0, .inl 0, .inl 0, .inr (66, false), .inr (67, false), .inr (68, false), .inr (69, false), .inr (70, false), .inl 0])),
  (1, .inr (40, 0)),
  (1, .inr (40, 0)),
  (1, .inr (120, 0)),
  (1, .inr (40, 1)),
  (1, .inr (40, 2)),
  (1, .inr (40, 0)),
  (1, .inr (40, 1)),
  (1, .inr (40, 0)),
  (1, .inr (120, 0)),
  (1, .inr (80, 0)),
  (1, .inr (80, 0)),
  (1, .inr (320, 1)),
  (1, .inr (40, 0)),
  (1, .inr (800, 1)),
  (1, .inr (40, 1)),
  (1, .inr (40, 0)),
  (1, .inr (40, 0)),
  (1, .inr (40, 2)),
  (1, .inr (40, 2)),
  (1, .inr (40, 0)),
  (1, .inr (40, 0)),
  (1, .inr (40, 0)),
  (1, .inr (40, 0)),
  (1, .inr (40, 0)),
  (1, .inr (40, 0)),
  (1, .inr (40, 1)),
  (1, .inr (40, 1)),
  (1, .inr (16384, 0)),
  (1, .inr (14, 0)),
  (1, .inr (40, 0)),
  (1, .inr (40, 1)),
  (1, .inr (40, 1)),
  (1, .inr (1, 1))]
def jm_fl : List (Nat × Nat × (Nat × Nat)) := [(9, 10, (9, 0)), (9, 21, (9, 1)), (9, 33, (9, 2)), (9, 43, (9, 3)), (9, 52, (9, 4)), (9, 59, (9, 5)), (9, 68, (9, 6)), (9, 72, (9, 7)), (9, 76, (9, 8)), (9, 113, (5, 8)), (9, 142, (3, 4)), (9, 169, (4, 4)), (9, 177, (5, 4)), (9, 181, (4, 5)), (9, 203, (3, 2)), (9, 206, (3, 3)), (9, 212, (0, 3)), (9, 215, (0, 4)), (9, 234, (0, 9)), (9, 240, (0, 10)), (9, 243, (0, 8)), (9, 249, (0, 5)), (9, 252, (0, 6)), (9, 255, (0, 7)), (9, 265, (1, 2)), (9, 266, (1, 1)), (9, 275, (7, 2)), (9, 288, (5, 9)), (9, 289, (5, 5)), (9, 292, (5, 6)), (9, 295, (5, 7)), (9, 298, (4, 8)), (0, 9, (0, 2)), (0, 15, (0, 3)), (0, 19, (0, 4)), (0, 22, (0, 5)), (0, 25, (0, 6)), (0, 28, (0, 7)), (0, 31, (0, 0)), (0, 35, (0, 1)), (0, 39, (0, 10)), (0, 56, (3, 4)), (0, 72, (5, 9)), (0, 78, (3, 2)), (0, 89, (0, 9)), (0, 102, (0, 8)), (0, 105, (5, 8)), (0, 115, (5, 7)), (1, 9, (1, 1)), (1, 15, (1, 0)), (1, 19, (1, 3)), (1, 23, (1, 4)), (1, 26, (0, 10)), (1, 35, (1, 5)), (1, 39, (1, 2)), (1, 40, (1, 6)), (1, 43, (1, 7)), (1, 60, (0, 7)), (2, 9, (2, 2)), (2, 15, (2, 3)), (2, 18, (2, 0)), (2, 22, (2, 1)), (2, 26, (2, 4)), (2, 44, (3, 2)), (2, 60, (5, 6)), (3, 9, (3, 1)), (3, 15, (3, 2)), (3, 19, (3, 3)), (3, 22, (3, 0)), (3, 26, (5, 6)), (3, 36, (4, 5)), (3, 48, (5, 9)), (3, 56, (3, 4)), (4, 9, (4, 4)), (4, 15, (4, 5)), (4, 19, (4, 6)), (4, 22, (4, 7)), (4, 25, (4, 0)), (4, 29, (4, 1)), (4, 33, (4, 2)), (4, 37, (4, 3)), (4, 41, (4, 8)), (4, 44, (5, 6)), (4, 54, (5, 3)), (4, 88, (5, 4)), (5, 9, (5, 0)), (5, 15, (5, 1)), (5, 18, (5, 2)), (5, 21, (5, 3)), (5, 25, (5, 4)), (5, 31, (5, 9)), (5, 39, (5, 5)), (5, 47, (5, 6)), (5, 50, (5, 7)), (5, 67, (5, 8)), (6, 11, (6, 0)), (6, 15, (6, 1)), (6, 18, (6, 2)), (7, 9, (7, 1)), (7, 15, (7, 0)), (7, 19, (7, 2)), (7, 37, (5, 5)), (7, 55, (5, 7)), (7, 65, (5, 9)), (7, 69, (5, 6)), (8, 9, (8, 0)), (8, 15, (8, 1)), (8, 18, (8, 2)), (8, 21, (8, 3)), (8, 25, (5, 3)), (8, 37, (8, 4)), (8, 44, (8, 5)), (8, 47, (8, 6)), (8, 54, (8, 7)), (8, 70, (5, 6)), (10, 7, (10, 2)), (10, 13, (10, 3)), (10, 16, (10, 4)), (10, 19, (10, 5)), (10, 23, (10, 7)), (10, 27, (10, 10)), (10, 31, (10, 11)), (10, 34, (10, 12)), (10, 37, (10, 13)), (10, 40, (10, 14)), (10, 43, (10, 15)), (10, 46, (10, 16)), (10, 49, (10, 18)), (10, 52, (10, 19)), (10, 55, (10, 20)), (10, 58, (10, 22)), (10, 61, (10, 23)), (10, 64, (10, 24)), (10, 67, (10, 26)), (10, 70, (10, 27)), (10, 73, (10, 28)), (10, 76, (10, 29)), (10, 79, (10, 30)), (10, 82, (10, 31)), (10, 85, (10, 32)), (10, 88, (10, 33)), (10, 91, (10, 34)), (10, 94, (10, 35)), (10, 97, (10, 39)), (10, 100, (10, 40)), (10, 103, (10, 41)), (10, 106, (10, 42)), (10, 109, (10, 43)), (10, 112, (10, 0)), (10, 119, (10, 1)), (10, 126, (10, 8)), (10, 130, (10, 9)), (10, 150, (10, 6)), (10, 162, (10, 17)), (10, 197, (10, 21)), (10, 245, (10, 25)), (10, 287, (10, 38)), (10, 296, (10, 36)), (10, 299, (10, 37)), (10, 327, (10, 44))]
def jm_gs : List (Nat × Nat × Nat) := [(2, 55, 101), (5, 28, 100)]
def jm_lc : List (Nat × Nat × Int64) := [(0, 92, -1), (1, 69, -1), (2, 58, -1), (5, 74, -1), (6, 26, -1), (7, 31, -1), (8, 35, -1), (11, 82, 4294967295), (10, 208, -1), (12, 314, 6148914691236517205), (12, 316, 3689348814741910323), (12, 318, 1085102592571150095)]
def jm_ml : List (Nat × Nat × (Nat × Nat × Nat)) := [(9, 80, (51, 1, 6)), (9, 84, (56, 1, 6)), (9, 88, (49, 1, 0)), (9, 92, (50, 1, 0)), (9, 96, (52, 2, 6)), (9, 99, (58, 5, 6)), (9, 103, (57, 1, 6)), (9, 106, (55, 2, 6)), (9, 109, (59, 3, 6)), (9, 117, (115, 2, 0)), (9, 121, (204, 1, 0)), (9, 127, (114, 1, 0)), (9, 131, (112, 1, 10)), (9, 135, (28, 2, 4)), (9, 139, (113, 1, 10)), (9, 145, (29, 3, 4)), (9, 149, (53, 2, 6)), (9, 152, (72, 3, 8)), (9, 156, (75, 2, 8)), (9, 159, (54, 2, 6)), (9, 162, (60, 2, 6)), (9, 165, (63, 3, 6)), (9, 173, (64, 1, 6)), (9, 184, (117, 2, 0)), (9, 188, (65, 3, 6)), (9, 192, (41, 3, 5)), (9, 196, (66, 3, 6)), (9, 200, (40, 2, 5)), (9, 209, (31, 2, 4)), (9, 218, (24, 2, 3)), (9, 228, (23, 2, 3)), (9, 231, (30, 2, 4)), (9, 237, (3, 1, 1)), (9, 246, (0, 2, 1)), (9, 258, (15, 2, 0)), (9, 262, (17, 3, 2)), (9, 269, (18, 1, 2)), (9, 272, (73, 1, 8)), (9, 278, (25, 3, 3)), (9, 282, (74, 2, 8)), (9, 285, (32, 2, 4)), (9, 301, (39, 2, 5)), (9, 305, (22, 1, 3)), (9, 308, (2, 2, 1)), (9, 311, (16, 1, 2)), (9, 312, (116, 1, 0)), (0, 43, (4, 2, 1)), (0, 47, (5, 1, 1)), (0, 50, (6, 1, 1)), (0, 53, (9, 1, 1)), (0, 62, (204, 1, 0)), (0, 68, (12, 3, 0)), (0, 75, (116, 1, 0)), (0, 81, (115, 2, 0)), (0, 85, (114, 1, 0)), (0, 94, (7, 4, 1)), (0, 98, (8, 3, 1)), (0, 108, (10, 1, 1)), (0, 112, (11, 1, 1)), (0, 118, (61, 2, 6)), (0, 122, (13, 2, 0)), (0, 126, (14, 2, 0)), (1, 31, (114, 1, 0)), (1, 46, (20, 1, 2)), (1, 50, (19, 2, 2)), (1, 54, (21, 2, 2)), (1, 58, (1, 2, 1)), (1, 63, (204, 1, 0)), (1, 71, (116, 1, 0)), (2, 30, (115, 2, 0)), (2, 34, (27, 2, 3)), (2, 38, (114, 1, 0)), (2, 41, (23, 2, 3)), (2, 49, (204, 1, 0)), (2, 65, (26, 2, 0)), (2, 69, (116, 1, 0)), (2, 72, (65, 3, 6)), (2, 76, (67, 3, 6)), (3, 32, (116, 1, 0)), (3, 41, (34, 2, 4)), (3, 44, (64, 1, 6)), (3, 52, (35, 4, 4)), (3, 59, (204, 1, 0)), (3, 64, (40, 2, 5)), (3, 67, (37, 3, 4)), (3, 71, (115, 2, 0)), (3, 75, (38, 4, 4)), (3, 79, (36, 4, 4)), (3, 89, (33, 2, 4)), (3, 92, (30, 2, 4)), (3, 98, (41, 3, 5)), (4, 50, (115, 2, 0)), (4, 57, (40, 2, 5)), (4, 61, (114, 1, 0)), (4, 65, (42, 3, 5)), (4, 69, (78, 3, 9)), (4, 75, (43, 2, 5)), (4, 79, (116, 1, 0)), (4, 91, (68, 1, 7)), (4, 96, (48, 2, 5)), (4, 100, (69, 3, 7)), (4, 104, (46, 3, 5)), (4, 107, (47, 4, 5)), (4, 111, (45, 3, 5)), (4, 115, (44, 2, 5)), (4, 118, (70, 1, 7)), (4, 122, (204, 1, 0)), (4, 127, (62, 3, 6)), (5, 35, (52, 2, 6)), (5, 43, (115, 2, 0)), (5, 53, (114, 1, 0)), (5, 57, (54, 2, 6)), (5, 60, (62, 3, 6)), (5, 64, (55, 2, 6)), (5, 70, (116, 1, 0)), (5, 76, (65, 3, 6)), (6, 22, (71, 2, 7)), (7, 23, (115, 2, 0)), (7, 27, (114, 1, 0)), (7, 33, (77, 2, 8)), (7, 42, (76, 1, 8)), (7, 46, (204, 1, 0)), (7, 52, (73, 1, 8)), (7, 58, (116, 1, 0)), (7, 61, (61, 2, 6)), (7, 72, (67, 3, 6)), (8, 31, (116, 1, 0)), (8, 41, (79, 2, 9)), (8, 50, (82, 2, 9)), (8, 58, (80, 3, 9)), (8, 62, (115, 2, 0)), (8, 66, (81, 3, 9)), (8, 73, (114, 1, 0)), (11, 7, (101, 2, 10)), (11, 19, (83, 1, 10)), (11, 23, (129, 1, 11)), (11, 24, (84, 5, 10)), (11, 28, (130, 5, 11)), (11, 29, (85, 1, 10)), (11, 32, (131, 1, 11)), (11, 33, (86, 3, 10)), (11, 37, (132, 3, 11)), (11, 38, (87, 2, 10)), (11, 42, (133, 2, 11)), (11, 43, (88, 2, 10)), (11, 46, (134, 2, 11)), (11, 47, (89, 1, 10)), (11, 50, (165, 1, 11)), (11, 51, (90, 2, 10)), (11, 54, (169, 2, 11)), (11, 55, (91, 3, 10)), (11, 59, (178, 3, 11)), (11, 60, (92, 2, 10)), (11, 63, (179, 2, 11)), (11, 64, (93, 3, 10)), (11, 68, (155, 3, 11)), (11, 69, (94, 3, 10)), (11, 72, (156, 3, 11)), (11, 73, (95, 2, 10)), (11, 76, (157, 2, 11)), (11, 77, (96, 3, 10)), (11, 81, (158, 3, 11)), (11, 84, (97, 3, 10)), (11, 88, (159, 3, 11)), (11, 89, (98, 1, 10)), (11, 92, (160, 1, 11)), (11, 93, (99, 2, 10)), (11, 96, (170, 2, 11)), (11, 97, (100, 3, 10)), (11, 100, (191, 3, 11)), (11, 106, (175, 2, 11)), (11, 107, (118, 1, 11)), (11, 110, (102, 2, 10)), (11, 113, (193, 2, 11)), (11, 114, (103, 3, 10)), (11, 117, (194, 3, 11)), (11, 118, (104, 3, 10)), (11, 121, (199, 3, 11)), (11, 122, (105, 4, 10)), (11, 126, (200, 4, 11)), (11, 127, (106, 3, 10)), (11, 130, (201, 3, 11)), (11, 131, (107, 2, 10)), (11, 134, (180, 2, 11)), (11, 135, (108, 2, 10)), (11, 138, (181, 2, 11)), (11, 139, (109, 3, 10)), (11, 142, (182, 3, 11)), (11, 143, (110, 2, 10)), (11, 146, (202, 2, 11)), (11, 147, (111, 2, 10)), (11, 150, (203, 2, 11)), (10, 115, (120, 2, 0)), (10, 122, (124, 2, 11)), (10, 133, (127, 1, 11)), (10, 136, (128, 2, 11)), (10, 140, (119, 3, 0)), (10, 144, (123, 1, 0)), (10, 147, (126, 2, 11)), (10, 154, (121, 1, 0)), (10, 158, (135, 1, 11)), (10, 165, (138, 3, 11)), (10, 169, (139, 3, 11)), (10, 173, (140, 2, 11)), (10, 177, (141, 4, 11)), (10, 181, (143, 4, 11)), (10, 185, (142, 3, 11)), (10, 188, (144, 2, 11)), (10, 191, (146, 2, 11)), (10, 194, (122, 1, 0)), (10, 200, (148, 2, 11)), (10, 204, (149, 3, 11)), (10, 210, (151, 4, 11)), (10, 214, (147, 3, 11)), (10, 218, (145, 3, 11)), (10, 222, (150, 2, 11)), (10, 225, (136, 1, 11)), (10, 228, (152, 1, 11)), (10, 231, (125, 2, 11)), (10, 234, (153, 3, 11)), (10, 238, (154, 1, 11)), (10, 242, (137, 1, 11)), (10, 248, (162, 2, 11)), (10, 251, (161, 1, 11)), (10, 254, (163, 1, 11)), (10, 257, (164, 1, 11)), (10, 260, (167, 3, 11)), (10, 264, (166, 2, 11)), (10, 267, (168, 2, 11)), (10, 270, (171, 2, 11)), (10, 273, (173, 3, 11)), (10, 277, (172, 2, 11)), (10, 280, (174, 2, 11)), (10, 284, (177, 2, 0)), (10, 290, (183, 3, 11)), (10, 293, (185, 2, 11)), (10, 302, (184, 1, 11)), (10, 305, (187, 4, 11)), (10, 309, (186, 2, 11)), (10, 312, (188, 2, 11)), (10, 315, (189, 1, 11)), (10, 318, (176, 2, 11)), (10, 321, (192, 1, 11)), (10, 324, (190, 1, 11)), (10, 330, (195, 1, 11)), (10, 333, (197, 2, 11)), (10, 336, (196, 2, 11)), (10, 339, (198, 3, 11))]
def jm_mm : List (Nat × Nat × Bool) := [(0, 130, true), (3, 83, true), (3, 95, false), (4, 82, true)]
def jm_mt : List (Nat × Nat × Nat × List (Nat × Instr × Nat)) := [(0, 3, 2, iX0_isCell), (0, 2, 2, iX0_netsOut), (0, 0, 2, iX0_fillAnew), (0, 1, 1, iX0_mostPairs), (0, 0, 8, iX0_findMates), (0, 0, 9, iX0_pairTables), (0, 0, 4, iX0_layTables), (0, 0, 7, iX0_addCell), (0, 0, 3, iX0_join), (0, 0, 7, iX0_layRegisters), (0, 2, 5, iX0_usedByTables), (0, 2, 9, iX0_fedToSeveral), (0, 1, 13, iX0_mostPairsOf), (0, 2, 8, iX0_withMates), (0, 1, 7, iX0_withFewestMates), (1, 3, 2, iX1_isLimit), (1, 0, 1, iX1_forget), (1, 0, 6, iX1_fill), (1, 1, 5, iX1_countCrossing), (1, 0, 2, iX1_take), (1, 1, 5, iX1_withMostNetsIn), (1, 1, 13, iX1_bestToCome), (2, 0, 1, iX2_forget), (2, 2, 2, iX2_bitsOf), (2, 1, 11, iX2_caresOf), (2, 2, 8, iX2_nodesByTables), (2, 1, 8, iX2_told), (2, 2, 8, iX2_findBits), (3, 0, 5, iX3_takeNearCuts), (3, 1, 11, iX3_chooseAgain), (3, 1, 6, iX3_greatestArrival), (3, 1, 5, iX3_usesOf), (3, 1, 6, iX3_onSlowWay), (3, 1, 7, iX3_latestOf), (3, 1, 3, iX3_arrivalBy), (3, 2, 8, iX3_withChosen), (3, 2, 6, iX3_tablesWith), (3, 0, 8, iX3_findDue), (3, 2, 14, iX3_bestCut), (4, 0, 5, iX4_learn), (4, 1, 6, iX4_greatestLevel), (4, 2, 3, iX4_keptCut), (4, 2, 8, iX4_belowAtLevel), (4, 0, 6, iX4_learnKept), (4, 0, 5, iX4_takeKept), (4, 0, 8, iX4_addWithThird), (4, 1, 4, iX4_choices), (4, 2, 5, iX4_choice), (4, 2, 10, iX4_placeInRow), (5, 3, 1, iX5_isKind), (5, 1, 1, iX5_sourcesOf), (5, 3, 1, iX5_isFull), (5, 3, 2, iX5_isNode), (5, 3, 2, iX5_isInput), (5, 3, 2, iX5_isGate), (5, 3, 2, iX5_isRegister), (5, 1, 1, iX5_addInput), (5, 1, 1, iX5_addRegister), (5, 1, 5, iX5_addGate), (5, 0, 3, iX5_setFeed), (5, 1, 2, iX5_kindOf), (5, 1, 2, iX5_feedOf), (5, 1, 3, iX5_sourceOf), (5, 1, 3, iX5_sourceOrFeed), (5, 2, 5, iX5_roots), (5, 2, 7, iX5_reached), (5, 3, 4, iX5_separates), (5, 2, 9, iX5_valueOf), (6, 0, 1, iX6_clear), (6, 0, 5, iX6_add), (6, 2, 4, iX6_takeFirst), (6, 0, 5, iX6_dropAllWith), (7, 1, 4, iX7_setInput), (7, 2, 1, iX7_now), (7, 2, 2, iX7_changedBy), (7, 1, 6, iX7_run), (7, 2, 8, iX7_registersNext), (7, 2, 6, iX7_nodesOn), (8, 2, 8, iX8_nearestCut), (8, 1, 8, iX8_findWay), (8, 0, 7, iX8_seeUppers), (8, 0, 3, iX8_seeLower), (8, 0, 5, iX8_layWay), (9, 1, 1, iX9_input), (9, 1, 6, iX9_gate), (9, 1, 1, iX9_register), (9, 3, 3, iX9_feed), (9, 1, 2, iX9_output), (9, 1, 3, iX9_inputs), (9, 1, 1, iX9_map), (9, 1, 3, iX9_again), (9, 1, 3, iX9_set), (9, 1, 2, iX9_clock), (9, 1, 3, iX9_node), (9, 1, 5, iX9_near), (9, 1, 2, iX9_cone), (9, 2, 3, iX9_kept), (9, 3, 4, iX9_isCut), (9, 1, 1, iX9_depth), (9, 2, 2, iX9_chosen), (9, 1, 3, iX9_table), (9, 2, 2, iX9_holds), (9, 1, 2, iX9_mapped), (9, 1, 3, iX9_cell), (9, 1, 3, iX9_clusters), (9, 1, 4, iX9_cluster), (9, 1, 3, iX9_cross), (9, 1, 2, iX9_is), (9, 1, 2, iX9_comes), (9, 1, 3, iX9_differs), (9, 1, 2, iX9_slow), (9, 1, 2, iX9_count), (9, 4, 3, iX9_cutsOfK), (9, 0, 1, iX9_followCover), (9, 2, 1, iX9_bit), (9, 3, 3, iX9_has), (9, 1, 2, iX9_lowest), (9, 1, 6, iX9_nthOf), (10, 1, 1, iX10_thrown), (10, 3, 3, iX10_within), (10, 3, 3, iX10_has), (10, 1, 4, iX10_manyOf), (10, 1, 3, iX10_lowest), (10, 1, 1, iX10_sourcesOf), (10, 3, 2, iX10_isNode), (10, 3, 2, iX10_isGate), (10, 3, 2, iX10_isRegister), (10, 0, 1, iX10_changes), (10, 1, 3, iX10_adds), (10, 1, 1, iX10_input), (10, 1, 10, iX10_gate), (10, 1, 2, iX10_register), (10, 3, 3, iX10_feed), (10, 1, 2, iX10_output), (10, 1, 3, iX10_inputs), (10, 2, 4, iX10_fed), (10, 2, 1, iX10_roots), (10, 2, 4, iX10_gates), (10, 0, 3, iX10_comes), (10, 1, 3, iX10_room), (10, 0, 4, iX10_spreadsOut), (10, 0, 7, iX10_spreadsIn), (10, 1, 7, iX10_spreads), (10, 1, 5, iX10_slotOf), (10, 0, 6, iX10_flows), (10, 3, 6, iX10_isCutOff), (10, 1, 5, iX10_greatestIn), (10, 3, 7, iX10_isAhead), (10, 0, 5, iX10_makes), (10, 2, 3, iX10_setOf), (10, 0, 11, iX10_laysKept), (10, 1, 8, iX10_puts), (10, 0, 3, iX10_lays), (10, 2, 9, iX10_coneOf), (10, 1, 1, iX10_rootDepth), (10, 1, 3, iX10_node), (10, 1, 5, iX10_near), (10, 1, 2, iX10_cone), (10, 2, 3, iX10_kept), (10, 3, 10, iX10_isCut), (10, 1, 1, iX10_depth), (10, 0, 2, iX10_laysTables), (10, 1, 5, iX10_arrivalBy), (10, 0, 2, iX10_laysArrival), (10, 0, 1, iX10_looks), (10, 1, 2, iX10_map), (10, 0, 6, iX10_laysDue), (10, 1, 6, iX10_tablesBy), (10, 0, 11, iX10_choosesAgain), (10, 1, 4, iX10_again), (10, 2, 2, iX10_chosen), (10, 3, 5, iX10_gateIs), (10, 0, 4, iX10_works), (10, 0, 6, iX10_fixes), (10, 2, 5, iX10_holdsOf), (10, 2, 2, iX10_holds), (10, 1, 8, iX10_caresOf), (10, 3, 3, iX10_has64), (10, 1, 4, iX10_set), (10, 1, 5, iX10_clock), (10, 1, 2, iX10_is), (10, 1, 6, iX10_comes_), (10, 1, 4, iX10_differs), (10, 3, 3, iX10_isPair), (10, 0, 3, iX10_laysPairs), (10, 1, 4, iX10_usesOf), (10, 3, 5, iX10_isPacked), (10, 0, 4, iX10_newCell), (10, 0, 3, iX10_packs), (10, 0, 3, iX10_laysCells), (10, 1, 9, iX10_mostPairs), (10, 1, 3, iX10_table), (10, 1, 3, iX10_slowest), (10, 1, 2, iX10_mapped), (10, 1, 3, iX10_cell), (10, 1, 3, iX10_beginning), (10, 1, 8, iX10_nextTo), (10, 0, 3, iX10_joins), (10, 3, 5, iX10_laysClusters), (10, 1, 3, iX10_clusters), (10, 1, 4, iX10_cluster), (10, 1, 7, iX10_cross), (10, 1, 7, iX10_slow), (10, 1, 4, iX10_count), (12, 1, 2, iJ13_bitCount_95d88)]
abbrev kX0_isCell : Nat := 0
abbrev kX0_netsOut : Nat := 1
abbrev kX0_fillAnew : Nat := 2
abbrev kX0_mostPairs : Nat := 3
abbrev kX0_findMates : Nat := 4
abbrev kX0_pairTables : Nat := 5
abbrev kX0_layTables : Nat := 6
abbrev kX0_addCell : Nat := 7
abbrev kX0_join : Nat := 8
abbrev kX0_layRegisters : Nat := 9
abbrev kX0_usedByTables : Nat := 10
abbrev kX0_fedToSeveral : Nat := 11
abbrev kX0_mostPairsOf : Nat := 12
abbrev kX0_withMates : Nat := 13
abbrev kX0_withFewestMates : Nat := 14
abbrev kX1_isLimit : Nat := 15
abbrev kX1_forget : Nat := 16
abbrev kX1_fill : Nat := 17
abbrev kX1_countCrossing : Nat := 18
abbrev kX1_take : Nat := 19
abbrev kX1_withMostNetsIn : Nat := 20
abbrev kX1_bestToCome : Nat := 21
abbrev kX2_forget : Nat := 22
abbrev kX2_bitsOf : Nat := 23
abbrev kX2_caresOf : Nat := 24
abbrev kX2_nodesByTables : Nat := 25
abbrev kX2_told : Nat := 26
abbrev kX2_findBits : Nat := 27
abbrev kX3_takeNearCuts : Nat := 28
abbrev kX3_chooseAgain : Nat := 29
abbrev kX3_greatestArrival : Nat := 30
abbrev kX3_usesOf : Nat := 31
abbrev kX3_onSlowWay : Nat := 32
abbrev kX3_latestOf : Nat := 33
abbrev kX3_arrivalBy : Nat := 34
abbrev kX3_withChosen : Nat := 35
abbrev kX3_tablesWith : Nat := 36
abbrev kX3_findDue : Nat := 37
abbrev kX3_bestCut : Nat := 38
abbrev kX4_learn : Nat := 39
abbrev kX4_greatestLevel : Nat := 40
abbrev kX4_keptCut : Nat := 41
abbrev kX4_belowAtLevel : Nat := 42
abbrev kX4_learnKept : Nat := 43
abbrev kX4_takeKept : Nat := 44
abbrev kX4_addWithThird : Nat := 45
abbrev kX4_choices : Nat := 46
abbrev kX4_choice : Nat := 47
abbrev kX4_placeInRow : Nat := 48
abbrev kX5_isKind : Nat := 49
abbrev kX5_sourcesOf : Nat := 50
abbrev kX5_isFull : Nat := 51
abbrev kX5_isNode : Nat := 52
abbrev kX5_isInput : Nat := 53
abbrev kX5_isGate : Nat := 54
abbrev kX5_isRegister : Nat := 55
abbrev kX5_addInput : Nat := 56
abbrev kX5_addRegister : Nat := 57
abbrev kX5_addGate : Nat := 58
abbrev kX5_setFeed : Nat := 59
abbrev kX5_kindOf : Nat := 60
abbrev kX5_feedOf : Nat := 61
abbrev kX5_sourceOf : Nat := 62
abbrev kX5_sourceOrFeed : Nat := 63
abbrev kX5_roots : Nat := 64
abbrev kX5_reached : Nat := 65
abbrev kX5_separates : Nat := 66
abbrev kX5_valueOf : Nat := 67
abbrev kX6_clear : Nat := 68
abbrev kX6_add : Nat := 69
abbrev kX6_takeFirst : Nat := 70
abbrev kX6_dropAllWith : Nat := 71
abbrev kX7_setInput : Nat := 72
abbrev kX7_now : Nat := 73
abbrev kX7_changedBy : Nat := 74
abbrev kX7_run : Nat := 75
abbrev kX7_registersNext : Nat := 76
abbrev kX7_nodesOn : Nat := 77
abbrev kX8_nearestCut : Nat := 78
abbrev kX8_findWay : Nat := 79
abbrev kX8_seeUppers : Nat := 80
abbrev kX8_seeLower : Nat := 81
abbrev kX8_layWay : Nat := 82
abbrev kX9_input : Nat := 83
abbrev kX9_gate : Nat := 84
abbrev kX9_register : Nat := 85
abbrev kX9_feed : Nat := 86
abbrev kX9_output : Nat := 87
abbrev kX9_inputs : Nat := 88
abbrev kX9_map : Nat := 89
abbrev kX9_again : Nat := 90
abbrev kX9_set : Nat := 91
abbrev kX9_clock : Nat := 92
abbrev kX9_node : Nat := 93
abbrev kX9_near : Nat := 94
abbrev kX9_cone : Nat := 95
abbrev kX9_kept : Nat := 96
abbrev kX9_isCut : Nat := 97
abbrev kX9_depth : Nat := 98
abbrev kX9_chosen : Nat := 99
abbrev kX9_table : Nat := 100
abbrev kX9_holds : Nat := 101
abbrev kX9_mapped : Nat := 102
abbrev kX9_cell : Nat := 103
abbrev kX9_clusters : Nat := 104
abbrev kX9_cluster : Nat := 105
abbrev kX9_cross : Nat := 106
abbrev kX9_is : Nat := 107
abbrev kX9_comes : Nat := 108
abbrev kX9_differs : Nat := 109
abbrev kX9_slow : Nat := 110
abbrev kX9_count : Nat := 111
abbrev kX9_cutsOfK : Nat := 112
abbrev kX9_followCover : Nat := 113
abbrev kX9_bit : Nat := 114
abbrev kX9_has : Nat := 115
abbrev kX9_lowest : Nat := 116
abbrev kX9_nthOf : Nat := 117
abbrev kX10_thrown : Nat := 118
abbrev kX10_within : Nat := 119
abbrev kX10_has : Nat := 120
abbrev kX10_manyOf : Nat := 121
abbrev kX10_lowest : Nat := 122
abbrev kX10_sourcesOf : Nat := 123
abbrev kX10_isNode : Nat := 124
abbrev kX10_isGate : Nat := 125
abbrev kX10_isRegister : Nat := 126
abbrev kX10_changes : Nat := 127
abbrev kX10_adds : Nat := 128
abbrev kX10_input : Nat := 129
abbrev kX10_gate : Nat := 130
abbrev kX10_register : Nat := 131
abbrev kX10_feed : Nat := 132
abbrev kX10_output : Nat := 133
abbrev kX10_inputs : Nat := 134
abbrev kX10_fed : Nat := 135
abbrev kX10_roots : Nat := 136
abbrev kX10_gates : Nat := 137
abbrev kX10_comes : Nat := 138
abbrev kX10_room : Nat := 139
abbrev kX10_spreadsOut : Nat := 140
abbrev kX10_spreadsIn : Nat := 141
abbrev kX10_spreads : Nat := 142
abbrev kX10_slotOf : Nat := 143
abbrev kX10_flows : Nat := 144
abbrev kX10_isCutOff : Nat := 145
abbrev kX10_greatestIn : Nat := 146
abbrev kX10_isAhead : Nat := 147
abbrev kX10_makes : Nat := 148
abbrev kX10_setOf : Nat := 149
abbrev kX10_laysKept : Nat := 150
abbrev kX10_puts : Nat := 151
abbrev kX10_lays : Nat := 152
abbrev kX10_coneOf : Nat := 153
abbrev kX10_rootDepth : Nat := 154
abbrev kX10_node : Nat := 155
abbrev kX10_near : Nat := 156
abbrev kX10_cone : Nat := 157
abbrev kX10_kept : Nat := 158
abbrev kX10_isCut : Nat := 159
abbrev kX10_depth : Nat := 160
abbrev kX10_laysTables : Nat := 161
abbrev kX10_arrivalBy : Nat := 162
abbrev kX10_laysArrival : Nat := 163
abbrev kX10_looks : Nat := 164
abbrev kX10_map : Nat := 165
abbrev kX10_laysDue : Nat := 166
abbrev kX10_tablesBy : Nat := 167
abbrev kX10_choosesAgain : Nat := 168
abbrev kX10_again : Nat := 169
abbrev kX10_chosen : Nat := 170
abbrev kX10_gateIs : Nat := 171
abbrev kX10_works : Nat := 172
abbrev kX10_fixes : Nat := 173
abbrev kX10_holdsOf : Nat := 174
abbrev kX10_holds : Nat := 175
abbrev kX10_caresOf : Nat := 176
abbrev kX10_has64 : Nat := 177
abbrev kX10_set : Nat := 178
abbrev kX10_clock : Nat := 179
abbrev kX10_is : Nat := 180
abbrev kX10_comes_ : Nat := 181
abbrev kX10_differs : Nat := 182
abbrev kX10_isPair : Nat := 183
abbrev kX10_laysPairs : Nat := 184
abbrev kX10_usesOf : Nat := 185
abbrev kX10_isPacked : Nat := 186
abbrev kX10_newCell : Nat := 187
abbrev kX10_packs : Nat := 188
abbrev kX10_laysCells : Nat := 189
abbrev kX10_mostPairs : Nat := 190
abbrev kX10_table : Nat := 191
abbrev kX10_slowest : Nat := 192
abbrev kX10_mapped : Nat := 193
abbrev kX10_cell : Nat := 194
abbrev kX10_beginning : Nat := 195
abbrev kX10_nextTo : Nat := 196
abbrev kX10_joins : Nat := 197
abbrev kX10_laysClusters : Nat := 198
abbrev kX10_clusters : Nat := 199
abbrev kX10_cluster : Nat := 200
abbrev kX10_cross : Nat := 201
abbrev kX10_slow : Nat := 202
abbrev kX10_count : Nat := 203
abbrev kJ13_bitCount_95d88 : Nat := 204
end
section
/-! ONE STEP of the abstract machine; what runs to an end; calls by depth -/
def jm_kind (L t : Nat) : Option jm_H := match Nat.blt t 100 with
  | true => jm_nth jm_sh t
  | false => match Nat.beq t 100, Nat.beq t 101, Nat.beq t 102 with
    | true, _, _ => some (1, .inr (7, 0))
    | _, true, _ => some (1, .inr (6, 1))
    | _, _, true => some (1, .inr (L, 0))
    | _, _, _ => none
def jm_pick (b : Bool) (i : Nat) : Nat := match b with
  | true => i
  | false => 0
def jm_val (σ : jm_G) (t i k : Nat) (f : jm_F) : jm_V := match f with
  | .inl w => match Nat.beq w 1 with
    | true => jJ (σ.2 t i k)
    | false => jI (σ.1 t i k)
  | .inr (t', b) => jR t' (jm_pick b i)
def jm_fld (L own idx t : Nat) : Option (Nat × jm_F) := match jm_key jm_fl own idx with
  | some (ci, k) => match jm_kind L t with
    | some (_, .inl (cj, fs)) => match Nat.beq ci cj with
      | true => match jm_nth fs k with
        | some f => some (k, f)
        | none => none
      | false => none
    | _ => none
  | none => none
def jm_getf (L own : Nat) (σ : jm_G) (pc : Nat) (lv : jm_L) (st : List jm_V) (idx : Nat) : jm_R := match st with
  | .inr (.inr (t, i)) :: r => match jm_fld L own idx t with
    | some (k, f) => jm_nx (σ, pc + 3, lv, jm_val σ t i k f :: r)
    | none => jm_no
  | _ => jm_no
def jm_putf (L own : Nat) (σ : jm_G) (pc : Nat) (lv : jm_L) (st : List jm_V) (idx : Nat) : jm_R := match st with
  | .inl x :: .inr (.inr (t, i)) :: r => match jm_fld L own idx t with
    | some (k, .inl w) => match Nat.beq w 0 with
      | true => jm_nx (wI σ t i (upd (σ.1 t i) k x), pc + 3, lv, r)
      | false => match Nat.beq w 2 with
        | true => jm_ck (x = 0 ∨ x = 1) (wI σ t i (upd (σ.1 t i) k x), pc + 3, lv, r)
        | false => jm_no
    | _ => jm_no
  | .inr (.inl x) :: .inr (.inr (t, i)) :: r => match jm_fld L own idx t with
    | some (k, .inl w) => match Nat.beq w 1 with
      | true => jm_nx (wJ σ t i (vp_updL (σ.2 t i) k x), pc + 3, lv, r)
      | false => jm_no
    | _ => jm_no
  | _ => jm_no
/-- the length of a row of such elements -/
def jm_row (L t w : Nat) : Option Nat := match jm_kind L t with
  | some (_, .inr (n, u)) => match Nat.beq u w with
    | true => some n
    | false => none
  | _ => none
def jm_ald (L : Nat) (st : List jm_V) (w : Nat) (f : Nat → Nat → Int32 → Nat → List jm_V → jm_R) : jm_R := match st with
  | .inl x :: .inr (.inr (t, i)) :: r => match jm_row L t w with
    | some n => f t i x n r
    | none => jm_no
  | _ => jm_no
def jm_ast (L : Nat) (σ : jm_G) (pc : Nat) (lv : jm_L) (st : List jm_V) (w : Nat) : jm_R := match st with
  | .inl y :: .inl x :: .inr (.inr (t, i)) :: r => match Nat.blt t 100, jm_row L t w with
    | true, some n => match Nat.beq w 0 with
      | true => jm_ck (vp_in x n) (wI σ t i (upd (σ.1 t i) x.toNatClampNeg y), pc, lv, r)
      | false => match Nat.beq w 2 with
        | true => jm_ck (vp_in x n ∧ (y = 0 ∨ y = 1)) (wI σ t i (upd (σ.1 t i) x.toNatClampNeg y), pc, lv, r)
        | false => jm_no
    | _, _ => jm_no
  | .inr (.inl y) :: .inl x :: .inr (.inr (t, i)) :: r => match Nat.blt t 100, jm_row L t w with
    | true, some n => match Nat.beq w 1 with
      | true => jm_ck (vp_in x n) (wJ σ t i (vp_updL (σ.2 t i) x.toNatClampNeg y), pc, lv, r)
      | false => jm_no
    | _, _ => jm_no
  | _ => jm_no
def jm_cond (c : ClassFile.Cond) (x : Int32) (s1 s2 : jm_S) : jm_R := match c with
  | .eq => jm_br (x = 0) s1 s2
  | .ne => jm_br (x = 0) s2 s1
  | .lt => jm_br (x < 0) s1 s2
  | .ge => jm_br (0 ≤ x) s1 s2
  | .gt => jm_br (0 < x) s1 s2
  | .le => jm_br (x ≤ 0) s1 s2
def jm_cmp (c : ClassFile.Cond) (x y : Int32) (s1 s2 : jm_S) : jm_R := match c with
  | .eq => jm_br (x = y) s1 s2
  | .ne => jm_br (x = y) s2 s1
  | .lt => jm_br (x < y) s1 s2
  | .ge => jm_br (y ≤ x) s1 s2
  | .gt => jm_br (y < x) s1 s2
  | .le => jm_br (x ≤ y) s1 s2
def jm_inv (L own : Nat) (σ : jm_G) (pc : Nat) (lv : jm_L) (st : List jm_V) (idx : Nat) (vt : Bool) : jm_R := match jm_key jm_ml own idx with
  | some (k, n, c) => match jm_take n st [] with
    | some (as, r) => match Nat.ble (jm_cat r) 8 with
      | true => match vt with
        | false => match Nat.beq c 0 with
          | true => jm_cl k as σ (pc + 3) lv r
          | false => jm_no
        | true => match as with
          | .inr (.inr (t, _)) :: _ => match jm_kind L t with
            | some (_, .inl (cj, _)) => match Nat.beq c (cj + 1) with
              | true => jm_cl k as σ (pc + 3) lv r
              | false => jm_no
            | _ => jm_no
          | _ => jm_no
      | false => jm_no
    | none => jm_no
  | none => jm_no
def jm_tsw (σ : jm_G) (pc : Nat) (lv : jm_L) (r : List jm_V) (x : Int32) : Int → List Int → List (Prop × jm_S)
  | _, [] => []
  | v, o :: os => (x = jm_int v, (σ, jm_tgt pc o, lv, r)) :: jm_tsw σ pc lv r x (v + 1) os
def jm_small (n : Int) (m : Nat) : Bool := match n with
  | .ofNat k => Nat.blt k m
  | .negSucc k => Nat.blt k m
def jm_st (L own rk : Nat) (i : Instr) (s : jm_S) : jm_R := match s with
  | (σ, pc, lv, st) => match i with
    | .aload_n k => jm_lod σ (pc + 1) lv k.val st 2
    | .aload k => jm_lod σ (pc + 2) lv k st 2
    | .iload_n k => jm_lod σ (pc + 1) lv k.val st 0
    | .iload k => jm_lod σ (pc + 2) lv k st 0
    | .lload_n k => jm_lod σ (pc + 1) lv k.val st 1
    | .lload k => jm_lod σ (pc + 2) lv k st 1
    | .astore_n k => jm_sto σ (pc + 1) lv k.val st 2
    | .astore k => jm_sto σ (pc + 2) lv k st 2
    | .istore_n k => jm_sto σ (pc + 1) lv k.val st 0
    | .istore k => jm_sto σ (pc + 2) lv k st 0
    | .lstore_n k => jm_sto σ (pc + 1) lv k.val st 1
    | .lstore k => jm_sto σ (pc + 2) lv k st 1
    | .iconst k => jm_nx (σ, pc + 1, lv, jI (jm_int k) :: st)
    | .bipush k => match jm_small k 128 with | true => jm_nx (σ, pc + 2, lv, jI (jm_int k) :: st) | false => jm_no
    | .sipush k => match jm_small k 32768 with | true => jm_nx (σ, pc + 3, lv, jI (jm_int k) :: st) | false => jm_no
    | .lconst k => jm_nx (σ, pc + 1, lv, jJ (lN k.val) :: st)
    | .ldc2_w k => match jm_key jm_lc own k with | some v => jm_nx (σ, pc + 3, lv, jJ v :: st) | none => jm_no
    | .iadd => jm_ii st fun x y r => jm_nx (σ, pc + 1, lv, jI (x + y) :: r)
    | .isub => jm_ii st fun x y r => jm_nx (σ, pc + 1, lv, jI (x - y) :: r)
    | .imul => jm_ii st fun x y r => jm_nx (σ, pc + 1, lv, jI (x * y) :: r)
    | .iand => jm_ii st fun x y r => jm_nx (σ, pc + 1, lv, jI (x &&& y) :: r)
    | .ior => jm_ii st fun x y r => jm_nx (σ, pc + 1, lv, jI (x ||| y) :: r)
    | .ixor => jm_ii st fun x y r => jm_nx (σ, pc + 1, lv, jI (x ^^^ y) :: r)
    | .ishl => jm_ii st fun x y r => jm_nx (σ, pc + 1, lv, jI (x <<< (y &&& 31)) :: r)
    | .ishr => jm_ii st fun x y r => jm_nx (σ, pc + 1, lv, jI (x >>> (y &&& 31)) :: r)
    | .idiv => jm_ii st fun x y r => jm_ck (¬ y = 0) (σ, pc + 1, lv, jI (x / y) :: r)
    | .irem => jm_ii st fun x y r => jm_ck (¬ y = 0) (σ, pc + 1, lv, jI (x - x / y * y) :: r)
    | .ladd => jm_jj st fun x y r => jm_nx (σ, pc + 1, lv, jJ (x + y) :: r)
    | .lsub => jm_jj st fun x y r => jm_nx (σ, pc + 1, lv, jJ (x - y) :: r)
    | .land => jm_jj st fun x y r => jm_nx (σ, pc + 1, lv, jJ (x &&& y) :: r)
    | .lor => jm_jj st fun x y r => jm_nx (σ, pc + 1, lv, jJ (x ||| y) :: r)
    | .lxor => jm_jj st fun x y r => jm_nx (σ, pc + 1, lv, jJ (x ^^^ y) :: r)
    | .lcmp => jm_jj st fun x y r => jm_nx (σ, pc + 1, lv, jI (lg_cmp x y) :: r)
    | .lneg => jm_j st fun x r => jm_nx (σ, pc + 1, lv, jJ (-x) :: r)
    | .lshl => jm_ij st fun x y r => jm_nx (σ, pc + 1, lv, jJ (x <<< (y.toInt64 &&& 63)) :: r)
    | .lshr => jm_ij st fun x y r => jm_nx (σ, pc + 1, lv, jJ (x >>> (y.toInt64 &&& 63)) :: r)
    | .lushr => jm_ij st fun x y r => jm_nx (σ, pc + 1, lv, jJ (x.toUInt64 >>> (y.toInt64.toUInt64 &&& Int64.toUInt64 63)).toInt64 :: r)
    | .i2l => jm_i st fun x r => jm_nx (σ, pc + 1, lv, jJ x.toInt64 :: r)
    | .l2i => jm_j st fun x r => jm_nx (σ, pc + 1, lv, jI x.toInt32 :: r)
    | .dup => match st with
      | .inl x :: r => jm_nx (σ, pc + 1, lv, jI x :: jI x :: r)
      | .inr (.inr q) :: r => jm_nx (σ, pc + 1, lv, .inr (.inr q) :: .inr (.inr q) :: r)
      | _ => jm_no
    | .dup2 => match st with
      | .inr (.inl x) :: r => jm_nx (σ, pc + 1, lv, jJ x :: jJ x :: r)
      | .inl x :: .inr (.inr q) :: r => jm_nx (σ, pc + 1, lv, jI x :: .inr (.inr q) :: jI x :: .inr (.inr q) :: r)
      | _ => jm_no
    | .dup_x1 => match st with
      | .inl x :: .inr (.inr q) :: r => jm_nx (σ, pc + 1, lv, jI x :: .inr (.inr q) :: jI x :: r)
      | _ => jm_no
    | .iinc k c => match jm_at lv k with
      | some (.inl x) => match Nat.blt k lv.length with
        | true => jm_nx (σ, pc + 3, jm_put1 lv k (jI (x + jm_int c)), st)
        | false => jm_no
      | _ => jm_no
    | .goto o => jm_nx (σ, jm_tgt pc o, lv, st)
    | .ifCond c o => jm_i st fun x r => jm_cond c x (σ, jm_tgt pc o, lv, r) (σ, pc + 3, lv, r)
    | .if_icmp c o => jm_ii st fun x y r => jm_cmp c x y (σ, jm_tgt pc o, lv, r) (σ, pc + 3, lv, r)
    | .tableswitch d lo hi os => jm_i st fun x r => jm_sw ((x.toInt < lo ∨ hi < x.toInt, (σ, jm_tgt pc d, lv, r)) :: jm_tsw σ pc lv r x lo os.toList)
    | .getfield idx => jm_getf L own σ pc lv st idx
    | .putfield idx => jm_putf L own σ pc lv st idx
    | .getstatic idx => match jm_key jm_gs own idx with | some t => jm_nx (σ, pc + 3, lv, jR t 0 :: st) | none => jm_no
    | .iaload => jm_ald L st 0 fun t i x n r => jm_ck (vp_in x n) (σ, pc + 1, lv, jI (σ.1 t i x.toNatClampNeg) :: r)
    | .baload => jm_ald L st 2 fun t i x n r => jm_ck (vp_in x n) (σ, pc + 1, lv, jI (σ.1 t i x.toNatClampNeg) :: r)
    | .laload => jm_ald L st 1 fun t i x n r => jm_ck (vp_in x n) (σ, pc + 1, lv, jJ (σ.2 t i x.toNatClampNeg) :: r)
    | .aaload => jm_ald L st 3 fun _ _ x n r => jm_ck (vp_in x n) (σ, pc + 1, lv, jR 17 x.toNatClampNeg :: r)
    | .iastore => jm_ast L σ (pc + 1) lv st 0
    | .bastore => jm_ast L σ (pc + 1) lv st 2
    | .lastore => jm_ast L σ (pc + 1) lv st 1
    | .arraylength => match st with
      | .inr (.inr (t, _)) :: r => match jm_kind L t with
        | some (_, .inr (n, _)) => jm_nx (σ, pc + 1, lv, jI (nI n) :: r)
        | _ => jm_no
      | _ => jm_no
    | .invokevirtual idx => jm_inv L own σ pc lv st idx true
    | .invokestatic idx => match jm_key jm_mm own idx with
      | some b => jm_ii st fun x y r => match Nat.ble (jm_cat r) 8 with
        | true => jm_nx (σ, pc + 3, lv, jI (match b with | true => if x < y then y else x | false => if y < x then y else x) :: r)
        | false => jm_no
      | none => jm_inv L own σ pc lv st idx false
    | .ireturn => match st with
      | [.inl x] => match Nat.beq rk 1 with
        | true => jm_rt True (some (jI x)) σ
        | false => match Nat.beq rk 3 with
          | true => jm_rt (x = 0 ∨ x = 1) (some (jI x)) σ
          | false => jm_no
      | _ => jm_no
    | .lreturn => match st, Nat.beq rk 2 with
      | [.inr (.inl x)], true => jm_rt True (some (jJ x)) σ
      | _, _ => jm_no
    | .areturn => match st, Nat.beq rk 4 with
      | [.inr (.inr q)], true => jm_rt True (some (.inr (.inr q))) σ
      | _, _ => jm_no
    | .return_ => match st, Nat.beq rk 0 with
      | [], true => jm_rt True none σ
      | _, _ => jm_no
    | _ => jm_no
def jm_1 (L own rk : Nat) (cd : List (Nat × Instr × Nat)) (s : jm_S) : jm_R := match jm_look cd s.2.1 with
  | some (i, _) => jm_st L own rk i s
  | none => jm_no
/-- locals of which some are forgotten -/
def jm_le : jm_L → jm_L → Prop
  | [], [] => True
  | none :: a, _ :: b => jm_le a b
  | some x :: a, y :: b => y = some x ∧ jm_le a b
  | _, _ => False
/-- from a state it comes to an end with Rt, or to one of K -/
def jm_runs (L own rk : Nat) (cd : List (Nat × Instr × Nat)) (C : jm_C) (Rt : Option jm_V → jm_G → Prop) (K : jm_S → Prop) (s : jm_S) : Prop :=
  ∀ X : jm_S → Prop, (∀ s, K s → X s) → (∀ s, jm_sem X Rt C (jm_1 L own rk cd s) → X s) → (∀ σ pc lv lv' st, jm_le lv' lv → X (σ, pc, lv', st) → X (σ, pc, lv, st)) → X s
def jm_mem : List Nat → Nat → Bool
  | [], _ => false
  | a :: r, n => match Nat.beq a n with
    | true => true
    | false => jm_mem r n
/-- so many steps at once, up to the next place of 'cut' -/
def jm_go (L own rk : Nat) (cd : List (Nat × Instr × Nat)) (C : jm_C) (Rt : Option jm_V → jm_G → Prop) (X : jm_S → Prop) (cut : List Nat) : Nat → jm_S → Prop
  | 0, s => X s
  | n + 1, s => jm_sem (fun s' => match jm_mem cut s'.2.1 with
    | true => X s'
    | false => jm_go L own rk cd C Rt X cut n s') Rt C (jm_1 L own rk cd s)
def jm_lay : List jm_V → jm_L
  | [] => []
  | .inr (.inl x) :: r => some (jJ x) :: none :: jm_lay r
  | .inl x :: r => some (jI x) :: jm_lay r
  | .inr (.inr q) :: r => some (.inr (.inr q)) :: jm_lay r
def jm_pad : Nat → jm_L → jm_L
  | 0, l => l
  | n + 1, [] => none :: jm_pad n []
  | n + 1, v :: l => v :: jm_pad n l
/-- a contract table is monotone in what comes behind -/
def jm_mon (C : jm_C) : Prop := ∀ k as σ (P Q : Option jm_V → jm_G → Prop), (∀ r σ', P r σ' → Q r σ') → C k as σ P → C k as σ Q
theorem jm_all_mono {X Y : jm_S → Prop} (h : ∀ s, X s → Y s) : ∀ l, jm_all X l → jm_all Y l
  | [], _ => trivial
  | _ :: r, hh => ⟨fun c => h _ (hh.1 c), jm_all_mono h r hh.2⟩
theorem jm_sem_mono {X Y : jm_S → Prop} {P Q : Option jm_V → jm_G → Prop} {C D : jm_C} (hC : jm_mon C) (h : ∀ s, X s → Y s) (hP : ∀ v σ, P v σ → Q v σ) (hD : ∀ k as σ p, C k as σ p → D k as σ p) : ∀ r, jm_sem X P C r → jm_sem Y Q D r := by
  intro r hr
  rcases r with s | ⟨c, s⟩ | ⟨c, s1, s2⟩ | ⟨c, v, σ⟩ | ⟨k, as, σ, pc, lv, st⟩ | l
  · exact h _ hr
  · exact ⟨hr.1, h _ hr.2⟩
  · exact ⟨fun q => h _ (hr.1 q), fun q => h _ (hr.2 q)⟩
  · exact ⟨hr.1, hP _ _ hr.2⟩
  · exact hD _ _ _ _ (hC _ _ _ _ _ (fun r σ' q => h _ q) hr)
  · exact jm_all_mono h l hr
theorem jm_go_ok {L own rk : Nat} {cd : List (Nat × Instr × Nat)} {C : jm_C} {Rt : Option jm_V → jm_G → Prop} {X : jm_S → Prop} (hC : jm_mon C) (hX : ∀ s, jm_sem X Rt C (jm_1 L own rk cd s) → X s) (cut : List Nat) : ∀ n s, jm_go L own rk cd C Rt X cut n s → X s
  | 0, _, h => h
  | n + 1, s, h => by
    refine hX s (jm_sem_mono hC (fun s' hs => ?_) (fun _ _ h => h) (fun _ _ _ _ h => h) _ h)
    revert hs
    cases jm_mem cut s'.2.1 with
    | true => exact fun h => h
    | false => exact fun h => jm_go_ok hC hX cut n s' h
/-- calls by depth -/
def jm_does (L : Nat) : Nat → jm_C
  | 0 => fun _ _ _ _ => False
  | d + 1 => fun k as σ post => match jm_nth jm_mt k with
    | some (own, rk, nL, cd) => (jm_lay as).length ≤ nL ∧ jm_runs L own rk cd (jm_does L d) post (fun _ => False) (σ, 0, jm_pad nL (jm_lay as), [])
    | none => False
theorem jm_runs_mono {L own rk : Nat} {cd : List (Nat × Instr × Nat)} {C D : jm_C} {P Q : Option jm_V → jm_G → Prop} {K : jm_S → Prop} {s : jm_S} (hC : jm_mon C) (hP : ∀ v σ, P v σ → Q v σ) (hD : ∀ k as σ p, C k as σ p → D k as σ p) (h : jm_runs L own rk cd C P K s) : jm_runs L own rk cd D Q K s :=
  fun X hK hX hW => h X hK (fun s hs => hX s (jm_sem_mono hC (fun _ h => h) hP hD _ hs)) hW
theorem jm_does_mon (L : Nat) : ∀ d, jm_mon (jm_does L d)
  | 0 => fun _ _ _ _ _ _ h => h
  | d + 1 => by
    intro k as σ P Q h hd
    unfold jm_does at hd ⊢
    cases hk : jm_nth jm_mt k with
    | none => rw [hk] at hd; exact hd
    | some q =>
      obtain ⟨own, rk, nL, cd⟩ := q
      rw [hk] at hd
      exact ⟨hd.1, jm_runs_mono (jm_does_mon L d) h (fun _ _ _ _ h => h) hd.2⟩
theorem jm_does_up (L : Nat) : ∀ d k as σ P, jm_does L d k as σ P → jm_does L (d + 1) k as σ P
  | 0 => fun _ _ _ _ h => h.elim
  | d + 1 => by
    intro k as σ P hd
    unfold jm_does at hd ⊢
    cases hk : jm_nth jm_mt k with
    | none => rw [hk] at hd; exact hd
    | some q =>
      obtain ⟨own, rk, nL, cd⟩ := q
      rw [hk] at hd
      exact ⟨hd.1, jm_runs_mono (jm_does_mon L d) (fun _ _ h => h) (jm_does_up L d) hd.2⟩
/-- a proof that a method runs: over an X closed under steps -/
theorem jm_run {L own rk : Nat} {cd : List (Nat × Instr × Nat)} {C : jm_C} {Rt : Option jm_V → jm_G → Prop} {K : jm_S → Prop} {s : jm_S} (hC : jm_mon C)
    (h : ∀ X : jm_S → Prop, (∀ s, K s → X s) → (∀ (cut : List Nat) (n : Nat) (s : jm_S), jm_go L own rk cd C Rt X cut n s → X s) → (∀ σ pc lv lv' st, jm_le lv' lv → X (σ, pc, lv', st) → X (σ, pc, lv, st)) → X s) : jm_runs L own rk cd C Rt K s :=
  fun X hK hX hW => h X hK (fun cut n s hs => jm_go_ok hC hX cut n s hs) hW
end
section
/-! plain facts to paste, each family by itself; over the kit's nI, lN and upd -/
/-! ===== drawers: more things than places ===== -/
theorem fb_holes : ∀ (m n : Nat) (f : Nat → Nat), (∀ i, i < n → f i < m) → (∀ i j, i < j → j < n → f i ≠ f j) → n ≤ m := by
  intro m
  induction m with
  | zero =>
    intro n f h1 _
    rcases Nat.eq_zero_or_pos n with h | h
    · omega
    · exact absurd (h1 0 h) (Nat.not_lt_zero _)
  | succ m ih =>
    intro n f h1 h2
    by_cases hx : ∃ i, i < n ∧ f i = m
    · obtain ⟨a, ha, hfa⟩ := hx
      have hg := ih (n - 1) (fun i => if i < a then f i else f (i + 1)) (by
        intro i hi
        by_cases q : i < a
        · simp only [if_pos q]
          have b1 := h1 i (by omega)
          have b2 := h2 i a q ha
          omega
        · simp only [if_neg q]
          have b1 := h1 (i + 1) (by omega)
          have b2 := h2 a (i + 1) (by omega) (by omega)
          omega) (by
        intro i j hij hj
        by_cases q : i < a
        · by_cases r : j < a
          · simp only [if_pos q, if_pos r]
            exact h2 i j hij (by omega)
          · simp only [if_pos q, if_neg r]
            exact h2 i (j + 1) (by omega) (by omega)
        · have r : ¬ j < a := by omega
          simp only [if_neg q, if_neg r]
          exact h2 (i + 1) (j + 1) (by omega) (by omega))
      omega
    · have hg := ih n f (fun i hi => by
        have b1 := h1 i hi
        have b2 : f i ≠ m := fun e => hx ⟨i, hi, e⟩
        omega) h2
      omega
/-- two of them in one place -/
theorem fb_twice {m n : Nat} {f : Nat → Nat} (h : ∀ i, i < n → f i < m) (hm : m < n) : ∃ i j, i < j ∧ j < n ∧ f i = f j := by
  refine Classical.byContradiction fun hx => ?_
  have := fb_holes m n f h (fun i j hij hj e => hx ⟨i, j, hij, hj, e⟩)
  omega
/-- as many as places, none twice: each place is taken -/
theorem fb_onto {n : Nat} {f : Nat → Nat} (h : ∀ i, i < n → f i < n) (h2 : ∀ i j, i < j → j < n → f i ≠ f j) {y : Nat} (hy : y < n) : ∃ i, i < n ∧ f i = y := by
  refine Classical.byContradiction fun hx => ?_
  have hne : ∀ i, i < n → f i ≠ y := fun i hi e => hx ⟨i, hi, e⟩
  have := fb_holes (n - 1) n (fun i => if f i < y then f i else f i - 1) (by
    intro i hi
    have b1 := h i hi
    have b2 := hne i hi
    by_cases q : f i < y
    · simp only [if_pos q]; omega
    · simp only [if_neg q]; omega) (by
    intro i j hij hj
    have b1 := hne i (by omega)
    have b2 := hne j hj
    have b3 := h2 i j hij hj
    by_cases q : f i < y
    · by_cases r : f j < y
      · simp only [if_pos q, if_pos r]; exact b3
      · simp only [if_pos q, if_neg r]; omega
    · by_cases r : f j < y
      · simp only [if_neg q, if_pos r]; omega
      · simp only [if_neg q, if_neg r]; omega)
  omega
/-! ===== how many places have a property ===== -/
def fb_ct (p : Nat → Bool) : Nat → Nat
  | 0 => 0
  | n + 1 => fb_ct p n + (if p n then 1 else 0)
theorem fb_ct_succ (p : Nat → Bool) (n : Nat) : fb_ct p (n + 1) = fb_ct p n + (if p n then 1 else 0) := rfl
theorem fb_ct_le (p : Nat → Bool) : ∀ n, fb_ct p n ≤ n
  | 0 => Nat.le_refl _
  | n + 1 => by
    have h := fb_ct_le p n
    rw [fb_ct_succ]
    split <;> omega
theorem fb_ct_step (p : Nat → Bool) (m : Nat) : ∀ n, fb_ct p m ≤ fb_ct p (m + n)
  | 0 => Nat.le_refl _
  | n + 1 => by
    have h := fb_ct_step p m n
    show fb_ct p m ≤ fb_ct p (m + n + 1)
    rw [fb_ct_succ]
    omega
theorem fb_ct_mono (p : Nat → Bool) {m n : Nat} (h : m ≤ n) : fb_ct p m ≤ fb_ct p n := by
  have := fb_ct_step p m (n - m)
  rwa [Nat.add_sub_cancel' h] at this
theorem fb_ct_cong {p q : Nat → Bool} : ∀ {n : Nat}, (∀ k, k < n → p k = q k) → fb_ct p n = fb_ct q n
  | 0, _ => rfl
  | n + 1, h => by
    rw [fb_ct_succ, fb_ct_succ, fb_ct_cong (fun k hk => h k (by omega)), h n (by omega)]
/-- one place changed -/
theorem fb_ct_out (p : Nat → Bool) (b : Bool) {i n : Nat} (h : n ≤ i) : fb_ct (fun k => if k = i then b else p k) n = fb_ct p n :=
  fb_ct_cong fun k hk => if_neg (by omega)
theorem fb_ct_upd (p : Nat → Bool) (b : Bool) {i : Nat} : ∀ {n : Nat}, i < n → fb_ct (fun k => if k = i then b else p k) n + (if p i then 1 else 0) = fb_ct p n + (if b then 1 else 0)
  | 0, h => absurd h (Nat.not_lt_zero i)
  | n + 1, h => by
    rw [fb_ct_succ, fb_ct_succ]
    rcases Nat.lt_or_ge i n with q | q
    · have := fb_ct_upd p b q
      have e : (if n = i then b else p n) = p n := if_neg (by omega)
      rw [e]
      omega
    · have e : i = n := by omega
      subst e
      rw [fb_ct_out p b (Nat.le_refl _)]
      simp only [if_true]
      omega
theorem fb_ct_sub {p q : Nat → Bool} : ∀ {n : Nat}, (∀ k, k < n → p k = true → q k = true) → fb_ct p n ≤ fb_ct q n
  | 0, _ => Nat.le_refl _
  | n + 1, h => by
    have h1 := fb_ct_sub (n := n) (p := p) (q := q) (fun k hk => h k (by omega))
    have h2 := h n (by omega)
    rw [fb_ct_succ, fb_ct_succ]
    cases hp : p n <;> cases hq : q n <;> simp_all <;> omega
theorem fb_ct_or {p q : Nat → Bool} : ∀ {n : Nat}, (∀ k, k < n → ¬ (p k = true ∧ q k = true)) → fb_ct (fun k => p k || q k) n = fb_ct p n + fb_ct q n
  | 0, _ => rfl
  | n + 1, h => by
    have h1 := fb_ct_or (n := n) (p := p) (q := q) (fun k hk => h k (by omega))
    have h2 := h n (by omega)
    rw [fb_ct_succ, fb_ct_succ, fb_ct_succ, h1]
    cases hp : p n <;> cases hq : q n <;> simp_all <;> omega
theorem fb_ct_not (p : Nat → Bool) : ∀ n, fb_ct p n + fb_ct (fun k => !p k) n = n
  | 0 => rfl
  | n + 1 => by
    have h := fb_ct_not p n
    rw [fb_ct_succ, fb_ct_succ]
    cases p n <;> simp <;> omega
theorem fb_ct_split (p : Nat → Bool) (m : Nat) : ∀ n, fb_ct p (m + n) = fb_ct p m + fb_ct (fun k => p (m + k)) n
  | 0 => rfl
  | n + 1 => by
    have h := fb_ct_split p m n
    show fb_ct p (m + n + 1) = _
    rw [fb_ct_succ, fb_ct_succ, h, Nat.add_assoc]
theorem fb_ct_zero {p : Nat → Bool} : ∀ {n : Nat}, fb_ct p n = 0 ↔ ∀ k, k < n → p k = false
  | 0 => ⟨fun _ k hk => absurd hk (Nat.not_lt_zero k), fun _ => rfl⟩
  | n + 1 => by
    have h := fb_ct_zero (p := p) (n := n)
    rw [fb_ct_succ]
    constructor
    · intro e k hk
      have e1 : fb_ct p n = 0 := by omega
      rcases Nat.lt_or_ge k n with q | q
      · exact h.mp e1 k q
      · have ek : k = n := by omega
        subst ek
        cases hp : p k
        · rfl
        · simp [hp] at e
    · intro a
      rw [h.mpr (fun k hk => a k (by omega)), a n (by omega)]
      rfl
theorem fb_ct_pos {p : Nat → Bool} {n : Nat} : 0 < fb_ct p n ↔ ∃ k, k < n ∧ p k = true := by
  constructor
  · intro h
    refine Classical.byContradiction fun hx => ?_
    have := fb_ct_zero.mpr (fun k hk => by
      cases hp : p k
      · rfl
      · exact absurd ⟨k, hk, hp⟩ hx : ∀ k, k < n → p k = false)
    omega
  · rintro ⟨k, hk, hp⟩
    rcases Nat.eq_zero_or_pos (fb_ct p n) with e | e
    · have := fb_ct_zero.mp e k hk
      rw [this] at hp
      cases hp
    · exact e
theorem fb_ct_all {p : Nat → Bool} {n : Nat} : fb_ct p n = n ↔ ∀ k, k < n → p k = true := by
  have h := fb_ct_not p n
  constructor
  · intro e k hk
    have z : fb_ct (fun k => !p k) n = 0 := by omega
    have := fb_ct_zero.mp z k hk
    cases hp : p k
    · simp [hp] at this
    · rfl
  · intro a
    have z : fb_ct (fun k => !p k) n = 0 := fb_ct_zero.mpr (fun k hk => by simp [a k hk])
    omega
/-- the k-th place with the property -/
theorem fb_ct_kth {p : Nat → Bool} {k : Nat} : ∀ {n : Nat}, k < fb_ct p n → ∃ i, i < n ∧ p i = true ∧ fb_ct p i = k
  | 0, h => absurd h (Nat.not_lt_zero k)
  | n + 1, h => by
    rcases Nat.lt_or_ge k (fb_ct p n) with q | q
    · obtain ⟨i, h1, h2⟩ := fb_ct_kth q
      exact ⟨i, by omega, h2⟩
    · rw [fb_ct_succ] at h
      cases hp : p n
      · simp [hp] at h; omega
      · simp [hp] at h
        exact ⟨n, by omega, hp, by omega⟩
theorem fb_ct_kth_one {p : Nat → Bool} {i j : Nat} (hi : p i = true) (hj : p j = true) (e : fb_ct p i = fb_ct p j) : i = j := by
  have key : ∀ a b : Nat, a < b → p a = true → fb_ct p a < fb_ct p b := by
    intro a b hab ha
    have h := fb_ct_mono p (show a + 1 ≤ b from hab)
    rw [fb_ct_succ, ha] at h
    simp at h
    omega
  rcases Nat.lt_trichotomy i j with q | q | q
  · have := key i j q hi; omega
  · exact q
  · have := key j i q hj; omega
/-! ===== sums over a range: one place changed, parts, bounds ===== -/
def fb_sm (f : Nat → Nat) : Nat → Nat
  | 0 => 0
  | n + 1 => fb_sm f n + f n
theorem fb_sm_succ (f : Nat → Nat) (n : Nat) : fb_sm f (n + 1) = fb_sm f n + f n := rfl
theorem fb_sm_cong {f g : Nat → Nat} : ∀ {n : Nat}, (∀ k, k < n → f k = g k) → fb_sm f n = fb_sm g n
  | 0, _ => rfl
  | n + 1, h => by rw [fb_sm_succ, fb_sm_succ, fb_sm_cong (fun k hk => h k (by omega)), h n (by omega)]
theorem fb_sm_out (f : Nat → Nat) (v : Nat) {i n : Nat} (h : n ≤ i) : fb_sm (fun k => if k = i then v else f k) n = fb_sm f n :=
  fb_sm_cong fun k hk => if_neg (by omega)
theorem fb_sm_upd (f : Nat → Nat) (v : Nat) {i : Nat} : ∀ {n : Nat}, i < n → fb_sm (fun k => if k = i then v else f k) n + f i = fb_sm f n + v
  | 0, h => absurd h (Nat.not_lt_zero i)
  | n + 1, h => by
    rw [fb_sm_succ, fb_sm_succ]
    rcases Nat.lt_or_ge i n with q | q
    · have := fb_sm_upd f v q
      have e : (if n = i then v else f n) = f n := if_neg (by omega)
      rw [e]
      omega
    · have e : i = n := by omega
      subst e
      rw [fb_sm_out f v (Nat.le_refl _)]
      simp only [if_true]
      omega
theorem fb_sm_add (f g : Nat → Nat) : ∀ n, fb_sm (fun k => f k + g k) n = fb_sm f n + fb_sm g n
  | 0 => rfl
  | n + 1 => by
    have h := fb_sm_add f g n
    rw [fb_sm_succ, fb_sm_succ, fb_sm_succ, h]
    omega
theorem fb_sm_le {f g : Nat → Nat} : ∀ {n : Nat}, (∀ k, k < n → f k ≤ g k) → fb_sm f n ≤ fb_sm g n
  | 0, _ => Nat.le_refl _
  | n + 1, h => by
    have h1 := fb_sm_le (n := n) (f := f) (g := g) (fun k hk => h k (by omega))
    have h2 := h n (by omega)
    rw [fb_sm_succ, fb_sm_succ]
    omega
theorem fb_sm_const (c : Nat) : ∀ n, fb_sm (fun _ => c) n = n * c
  | 0 => by rw [Nat.zero_mul]; rfl
  | n + 1 => by rw [fb_sm_succ, fb_sm_const c n, Nat.succ_mul]
theorem fb_sm_bound {f : Nat → Nat} {c n : Nat} (h : ∀ k, k < n → f k ≤ c) : fb_sm f n ≤ n * c := by
  rw [← fb_sm_const c n]
  exact fb_sm_le h
theorem fb_sm_mono (f : Nat → Nat) (m : Nat) : ∀ n, fb_sm f m ≤ fb_sm f (m + n)
  | 0 => Nat.le_refl _
  | n + 1 => by
    have h := fb_sm_mono f m n
    show fb_sm f m ≤ fb_sm f (m + n + 1)
    rw [fb_sm_succ]
    omega
theorem fb_sm_part (f : Nat → Nat) {i n : Nat} (h : i < n) : fb_sm f i + f i ≤ fb_sm f n := by
  have := fb_sm_mono f (i + 1) (n - (i + 1))
  rw [fb_sm_succ, show i + 1 + (n - (i + 1)) = n by omega] at this
  exact this
theorem fb_sm_split (f : Nat → Nat) (m : Nat) : ∀ n, fb_sm f (m + n) = fb_sm f m + fb_sm (fun k => f (m + k)) n
  | 0 => rfl
  | n + 1 => by
    have h := fb_sm_split f m n
    show fb_sm f (m + n + 1) = _
    rw [fb_sm_succ, fb_sm_succ, h, Nat.add_assoc]
theorem fb_sm_zero {f : Nat → Nat} {n : Nat} (h : fb_sm f n = 0) : ∀ k, k < n → f k = 0 := fun k hk => by
  have := fb_sm_part f hk
  omega
/-- the same over whole numbers -/
def fb_si (f : Nat → Int) : Nat → Int
  | 0 => 0
  | n + 1 => fb_si f n + f n
theorem fb_si_succ (f : Nat → Int) (n : Nat) : fb_si f (n + 1) = fb_si f n + f n := rfl
theorem fb_si_cong {f g : Nat → Int} : ∀ {n : Nat}, (∀ k, k < n → f k = g k) → fb_si f n = fb_si g n
  | 0, _ => rfl
  | n + 1, h => by rw [fb_si_succ, fb_si_succ, fb_si_cong (fun k hk => h k (by omega)), h n (by omega)]
theorem fb_si_out (f : Nat → Int) (v : Int) {i n : Nat} (h : n ≤ i) : fb_si (fun k => if k = i then v else f k) n = fb_si f n :=
  fb_si_cong fun k hk => if_neg (by omega)
theorem fb_si_upd (f : Nat → Int) (v : Int) {i : Nat} : ∀ {n : Nat}, i < n → fb_si (fun k => if k = i then v else f k) n = fb_si f n - f i + v
  | 0, h => absurd h (Nat.not_lt_zero i)
  | n + 1, h => by
    rw [fb_si_succ, fb_si_succ]
    rcases Nat.lt_or_ge i n with q | q
    · have := fb_si_upd f v q
      have e : (if n = i then v else f n) = f n := if_neg (by omega)
      rw [e]
      omega
    · have e : i = n := by omega
      subst e
      rw [fb_si_out f v (Nat.le_refl _)]
      simp only [if_true]
      omega
theorem fb_si_add (f g : Nat → Int) : ∀ n, fb_si (fun k => f k + g k) n = fb_si f n + fb_si g n
  | 0 => rfl
  | n + 1 => by
    have h := fb_si_add f g n
    rw [fb_si_succ, fb_si_succ, fb_si_succ, h]
    omega
theorem fb_si_sub (f g : Nat → Int) : ∀ n, fb_si (fun k => f k - g k) n = fb_si f n - fb_si g n
  | 0 => rfl
  | n + 1 => by
    have h := fb_si_sub f g n
    rw [fb_si_succ, fb_si_succ, fb_si_succ, h]
    omega
theorem fb_si_mul (c : Int) (f : Nat → Int) : ∀ n, fb_si (fun k => c * f k) n = c * fb_si f n
  | 0 => (Int.mul_zero c).symm
  | n + 1 => by
    have h := fb_si_mul c f n
    rw [fb_si_succ, fb_si_succ, h, Int.mul_add]
theorem fb_si_split (f : Nat → Int) (m : Nat) : ∀ n, fb_si f (m + n) = fb_si f m + fb_si (fun k => f (m + k)) n
  | 0 => (Int.add_zero _).symm
  | n + 1 => by
    have h := fb_si_split f m n
    show fb_si f (m + n + 1) = _
    rw [fb_si_succ, fb_si_succ, h, Int.add_assoc]
theorem fb_si_nat (f : Nat → Nat) : ∀ n, fb_si (fun k => (f k : Int)) n = (fb_sm f n : Int)
  | 0 => rfl
  | n + 1 => by
    have h := fb_si_nat f n
    rw [fb_si_succ, fb_sm_succ, h]
    omega
theorem fb_si_bound {f : Nat → Int} {c : Int} (hc : 0 ≤ c) : ∀ {n : Nat}, (∀ k, k < n → -c ≤ f k ∧ f k ≤ c) → -(n * c) ≤ fb_si f n ∧ fb_si f n ≤ n * c
  | 0, _ => by simp [fb_si]
  | n + 1, h => by
    have h1 := fb_si_bound (n := n) (f := f) hc (fun k hk => h k (by omega))
    have h2 := h n (by omega)
    have e : ((n + 1 : Nat) : Int) * c = n * c + c := by rw [Int.natCast_add, Int.add_mul]; simp
    rw [fb_si_succ, e]
    omega
/-! ===== bits of a long that isn't negative ===== -/
theorem fb_andL (a b : Nat) : lN a &&& lN b = lN (a &&& b) := by
  apply Int64.toBitVec_inj.1
  show BitVec.ofNat 64 a &&& BitVec.ofNat 64 b = BitVec.ofNat 64 (a &&& b)
  apply BitVec.eq_of_getLsbD_eq
  intro i hi
  simp [hi]
theorem fb_orL (a b : Nat) : lN a ||| lN b = lN (a ||| b) := by
  apply Int64.toBitVec_inj.1
  show BitVec.ofNat 64 a ||| BitVec.ofNat 64 b = BitVec.ofNat 64 (a ||| b)
  apply BitVec.eq_of_getLsbD_eq
  intro i hi
  simp [hi]
theorem fb_xorL (a b : Nat) : lN a ^^^ lN b = lN (a ^^^ b) := by
  apply Int64.toBitVec_inj.1
  show BitVec.ofNat 64 a ^^^ BitVec.ofNat 64 b = BitVec.ofNat 64 (a ^^^ b)
  apply BitVec.eq_of_getLsbD_eq
  intro i hi
  simp [hi]
theorem fb_xorI (a b : Nat) : nI a ^^^ nI b = nI (a ^^^ b) := by
  apply Int32.toBitVec_inj.1
  show BitVec.ofNat 32 a ^^^ BitVec.ofNat 32 b = BitVec.ofNat 32 (a ^^^ b)
  apply BitVec.eq_of_getLsbD_eq
  intro i hi
  simp [hi]
theorem fb_maskL (n k : Nat) : lN n &&& lN (2 ^ k - 1) = lN (n % 2 ^ k) := by rw [fb_andL, Nat.and_two_pow_sub_one_eq_mod]
theorem fb_or_sumL {a k : Nat} (b : Nat) (h : a < 2 ^ k) : lN (2 ^ k * b) ||| lN a = lN (2 ^ k * b + a) := by rw [fb_orL, Nat.two_pow_add_eq_or_of_lt h]
theorem fb_lN_inj {a b : Nat} (ha : a < 2 ^ 63) (hb : b < 2 ^ 63) : lN a = lN b ↔ a = b := by
  constructor
  · intro h
    have h1 : (BitVec.ofNat 64 a).toNat = (BitVec.ofNat 64 b).toNat := congrArg (fun x : Int64 => x.toBitVec.toNat) h
    rw [BitVec.toNat_ofNat, BitVec.toNat_ofNat, Nat.mod_eq_of_lt (by omega), Nat.mod_eq_of_lt (by omega)] at h1
    exact h1
  · rintro rfl; rfl
theorem fb_bit_nat (n j : Nat) : n &&& 2 ^ j = 0 ↔ n.testBit j = false := by
  constructor
  · intro h
    have h1 : (n &&& 2 ^ j).testBit j = false := by rw [h]; simp
    rw [Nat.testBit_and] at h1
    simpa using h1
  · intro h
    apply Nat.eq_of_testBit_eq
    intro i
    rw [Nat.testBit_and]
    by_cases hi : j = i
    · subst hi; simp [h]
    · first | (simp [Nat.testBit_two_pow, hi]; done) | (simp [Nat.testBit_two_pow_of_ne hi]; done)
/-- one bit of a long -/
theorem fb_bitL {n j : Nat} (hj : j < 63) : lN n &&& lN (2 ^ j) = 0 ↔ n.testBit j = false := by
  have h2 : (2 : Nat) ^ j < 2 ^ 63 := Nat.pow_lt_pow_right (by decide) hj
  have hle : n &&& 2 ^ j ≤ 2 ^ j := Nat.and_le_right
  rw [fb_andL, ← fb_bit_nat, show (0 : Int64) = lN 0 from rfl]
  exact fb_lN_inj (by omega) (by decide)
/-- a bit set, a bit taken off -/
theorem fb_bit_set (n j i : Nat) : (n ||| 2 ^ j).testBit i = (n.testBit i || decide (i = j)) := by
  rw [Nat.testBit_or]
  by_cases h : j = i
  · subst h; simp
  · have h2 : ¬ i = j := fun e => h e.symm
    first | (simp [Nat.testBit_two_pow, h, h2]; done) | (simp [Nat.testBit_two_pow_of_ne h, h2]; done)
theorem fb_bit_flip (n j i : Nat) : (n ^^^ 2 ^ j).testBit i = (n.testBit i ^^ decide (i = j)) := by
  rw [Nat.testBit_xor]
  by_cases h : j = i
  · subst h; simp
  · have h2 : ¬ i = j := fun e => h e.symm
    first | (simp [Nat.testBit_two_pow, h, h2]; done) | (simp [Nat.testBit_two_pow_of_ne h, h2]; done)
/-! ===== a stretch of an array written over by a function ===== -/
def fb_put {α : Type} (f g : Nat → α) (a n : Nat) : Nat → α := fun k => if a ≤ k ∧ k < a + n then g (k - a) else f k
theorem fb_put_0 {α : Type} (f g : Nat → α) (a : Nat) : fb_put f g a 0 = f := funext fun k => if_neg (by omega)
theorem fb_put_in {α : Type} {f g : Nat → α} {a n k : Nat} (h1 : a ≤ k) (h2 : k < a + n) : fb_put f g a n k = g (k - a) := if_pos ⟨h1, h2⟩
theorem fb_put_out {α : Type} {f g : Nat → α} {a n k : Nat} (h : k < a ∨ a + n ≤ k) : fb_put f g a n k = f k := if_neg (by omega)
theorem fb_put_succ (f g : Nat → Int32) (a n : Nat) : upd (fb_put f g a n) (a + n) (g n) = fb_put f g a (n + 1) := by
  funext k
  by_cases h : k = a + n
  · subst h
    simp [upd, fb_put]
  · by_cases h1 : a ≤ k ∧ k < a + n
    · have h2 : a ≤ k ∧ k < a + (n + 1) := by omega
      simp only [upd, fb_put, if_neg h, if_pos h1, if_pos h2]
    · have h2 : ¬ (a ≤ k ∧ k < a + (n + 1)) := by omega
      simp only [upd, fb_put, if_neg h, if_neg h1, if_neg h2]
/-- .. from the far end down -/
theorem fb_put_down (f g : Nat → Int32) {a n m : Nat} (h : m < n) : upd (fb_put f (fun k => g (k + (m + 1))) (a + (m + 1)) (n - (m + 1))) (a + m) (g m) = fb_put f (fun k => g (k + m)) (a + m) (n - m) := by
  funext k
  by_cases h0 : k = a + m
  · subst h0
    simp only [upd, if_true]
    rw [fb_put_in (by omega) (by omega)]
    exact congrArg g (by omega)
  · simp only [upd, if_neg h0]
    by_cases h1 : a + (m + 1) ≤ k ∧ k < a + (m + 1) + (n - (m + 1))
    · rw [fb_put_in h1.1 h1.2, fb_put_in (by omega) (by omega)]
      exact congrArg g (by omega)
    · rw [fb_put_out (by omega), fb_put_out (by omega)]
theorem fb_put_cong {α : Type} {f f2 g g2 : Nat → α} {a n : Nat} (hf : ∀ k, (k < a ∨ a + n ≤ k) → f k = f2 k) (hg : ∀ k, k < n → g k = g2 k) : fb_put f g a n = fb_put f2 g2 a n := by
  funext k
  by_cases h : a ≤ k ∧ k < a + n
  · rw [fb_put_in h.1 h.2, fb_put_in h.1 h.2, hg _ (by omega)]
  · rw [fb_put_out (by omega), fb_put_out (by omega), hf _ (by omega)]
/-! ===== the least, the first, the best so far; that there is one alone ===== -/
theorem fb_first {p : Nat → Prop} [DecidablePred p] : ∀ {n : Nat}, (∃ i, i < n ∧ p i) → ∃ i, i < n ∧ p i ∧ ∀ j, j < i → ¬ p j
  | 0, h => by obtain ⟨i, hi, -⟩ := h; exact absurd hi (Nat.not_lt_zero i)
  | n + 1, h => by
    by_cases q : ∃ i, i < n ∧ p i
    · obtain ⟨i, h1, h2⟩ := fb_first q
      exact ⟨i, by omega, h2⟩
    · obtain ⟨i, h1, h2⟩ := h
      have e : i = n := by
        rcases Nat.lt_or_ge i n with r | r
        · exact absurd ⟨i, r, h2⟩ q
        · omega
      subst e
      exact ⟨i, by omega, h2, fun j hj hp => q ⟨j, hj, hp⟩⟩
theorem fb_first_one {p : Nat → Prop} {i j : Nat} (hi : p i) (hi2 : ∀ k, k < i → ¬ p k) (hj : p j) (hj2 : ∀ k, k < j → ¬ p k) : i = j := by
  rcases Nat.lt_trichotomy i j with q | q | q
  · exact absurd hi (hj2 i q)
  · exact q
  · exact absurd hj (hi2 j q)
theorem fb_last {p : Nat → Prop} [DecidablePred p] : ∀ {n : Nat}, (∃ i, i < n ∧ p i) → ∃ i, i < n ∧ p i ∧ ∀ j, i < j → j < n → ¬ p j
  | 0, h => by obtain ⟨i, hi, -⟩ := h; exact absurd hi (Nat.not_lt_zero i)
  | n + 1, h => by
    by_cases q : p n
    · exact ⟨n, by omega, q, fun j h1 h2 => by omega⟩
    · obtain ⟨i, h1, h2⟩ := h
      have hi : i < n := by
        rcases Nat.lt_or_ge i n with r | r
        · exact r
        · have e : i = n := by omega
          subst e
          exact absurd h2 q
      obtain ⟨i2, a1, a2, a3⟩ := fb_last (n := n) ⟨i, hi, h2⟩
      refine ⟨i2, by omega, a2, fun j b1 b2 => ?_⟩
      rcases Nat.lt_or_ge j n with r | r
      · exact a3 j b1 r
      · have e : j = n := by omega
        subst e
        exact q
/-- the first greatest -/
theorem fb_best (f : Nat → Int) : ∀ {n : Nat}, 0 < n → ∃ i, i < n ∧ (∀ j, j < n → f j ≤ f i) ∧ ∀ j, j < i → f j < f i
  | 0, h => absurd h (Nat.lt_irrefl 0)
  | 1, _ => ⟨0, by omega, fun j hj => by have e : j = 0 := by omega
                                         subst e; exact Int.le_refl _, fun j hj => absurd hj (Nat.not_lt_zero j)⟩
  | n + 2, _ => by
    obtain ⟨i, h1, h2, h3⟩ := fb_best f (n := n + 1) (by omega)
    by_cases q : f i < f (n + 1)
    · refine ⟨n + 1, by omega, fun j hj => ?_, fun j hj => ?_⟩
      · rcases Nat.lt_or_ge j (n + 1) with r | r
        · have := h2 j r; omega
        · have e : j = n + 1 := by omega
          subst e; exact Int.le_refl _
      · have := h2 j hj; omega
    · refine ⟨i, by omega, fun j hj => ?_, h3⟩
      rcases Nat.lt_or_ge j (n + 1) with r | r
      · exact h2 j r
      · have e : j = n + 1 := by omega
        subst e; omega
theorem fb_best_one {f : Nat → Int} {n i j : Nat} (hi : i < n) (hi2 : ∀ k, k < n → f k ≤ f i) (hi3 : ∀ k, k < i → f k < f i) (hj : j < n) (hj2 : ∀ k, k < n → f k ≤ f j) (hj3 : ∀ k, k < j → f k < f j) : i = j := by
  rcases Nat.lt_trichotomy i j with q | q | q
  · have a := hj3 i q
    have b := hi2 j hj
    omega
  · exact q
  · have a := hi3 j q
    have b := hj2 i hi
    omega
/-- the first least -/
theorem fb_low (f : Nat → Int) {n : Nat} (h : 0 < n) : ∃ i, i < n ∧ (∀ j, j < n → f i ≤ f j) ∧ ∀ j, j < i → f i < f j := by
  obtain ⟨i, h1, h2, h3⟩ := fb_best (fun k => -f k) h
  exact ⟨i, h1, fun j hj => by have := h2 j hj; omega, fun j hj => by have := h3 j hj; omega⟩
/-! ===== signed ints as whole numbers, within bounds ===== -/
theorem fb_rng (x : Int32) : -2147483648 ≤ x.toInt ∧ x.toInt < 2147483648 := by
  have h1 := Int32.le_toInt x
  have h2 := Int32.toInt_lt x
  omega
theorem fb_bmod {z : Int} (h1 : -2147483648 ≤ z) (h2 : z < 2147483648) : z.bmod (2 ^ 32) = z := by
  rw [Int.bmod_eq_of_le (by omega) (by omega)]
theorem fb_addI {x y : Int32} (h1 : -2147483648 ≤ x.toInt + y.toInt) (h2 : x.toInt + y.toInt < 2147483648) : (x + y).toInt = x.toInt + y.toInt := by
  rw [Int32.toInt_add, fb_bmod h1 h2]
theorem fb_subI {x y : Int32} (h1 : -2147483648 ≤ x.toInt - y.toInt) (h2 : x.toInt - y.toInt < 2147483648) : (x - y).toInt = x.toInt - y.toInt := by
  rw [Int32.toInt_sub, fb_bmod h1 h2]
theorem fb_mulI {x y : Int32} (h1 : -2147483648 ≤ x.toInt * y.toInt) (h2 : x.toInt * y.toInt < 2147483648) : (x * y).toInt = x.toInt * y.toInt := by
  rw [Int32.toInt_mul, fb_bmod h1 h2]
theorem fb_negI {x : Int32} (h : x.toInt ≠ -2147483648) : (-x).toInt = -x.toInt := by
  have := fb_rng x
  rw [Int32.toInt_neg, fb_bmod (by omega) (by omega)]
theorem fb_ofI {z : Int} (h1 : -2147483648 ≤ z) (h2 : z < 2147483648) : (Int32.ofInt z).toInt = z := by
  rw [Int32.toInt_ofInt, fb_bmod h1 h2]
theorem fb_asI (x : Int32) : Int32.ofInt x.toInt = x := Int32.ofInt_toInt x
theorem fb_rngL (x : Int64) : -9223372036854775808 ≤ x.toInt ∧ x.toInt < 9223372036854775808 := by
  have h1 := Int64.le_toInt x
  have h2 := Int64.toInt_lt x
  omega
theorem fb_bmodL {z : Int} (h1 : -9223372036854775808 ≤ z) (h2 : z < 9223372036854775808) : z.bmod (2 ^ 64) = z := by
  rw [Int.bmod_eq_of_le (by omega) (by omega)]
theorem fb_addL {x y : Int64} (h1 : -9223372036854775808 ≤ x.toInt + y.toInt) (h2 : x.toInt + y.toInt < 9223372036854775808) : (x + y).toInt = x.toInt + y.toInt := by
  rw [Int64.toInt_add, fb_bmodL h1 h2]
theorem fb_subL {x y : Int64} (h1 : -9223372036854775808 ≤ x.toInt - y.toInt) (h2 : x.toInt - y.toInt < 9223372036854775808) : (x - y).toInt = x.toInt - y.toInt := by
  rw [Int64.toInt_sub, fb_bmodL h1 h2]
theorem fb_mulL {x y : Int64} (h1 : -9223372036854775808 ≤ x.toInt * y.toInt) (h2 : x.toInt * y.toInt < 9223372036854775808) : (x * y).toInt = x.toInt * y.toInt := by
  rw [Int64.toInt_mul, fb_bmodL h1 h2]
/-! ===== cuts of what is narrow already ===== -/
theorem fb_byte {x : Int32} (h1 : -128 ≤ x.toInt) (h2 : x.toInt < 128) : x.toInt8.toInt32 = x := by
  apply Int32.toInt_inj.1
  rw [Int8.toInt_toInt32, Int32.toInt_toInt8, Int.bmod_eq_of_le (by omega) (by omega)]
theorem fb_short {x : Int32} (h1 : -32768 ≤ x.toInt) (h2 : x.toInt < 32768) : x.toInt16.toInt32 = x := by
  apply Int32.toInt_inj.1
  rw [Int16.toInt_toInt32, Int32.toInt_toInt16, Int.bmod_eq_of_le (by omega) (by omega)]
theorem fb_byte_rng (x : Int32) : -128 ≤ x.toInt8.toInt32.toInt ∧ x.toInt8.toInt32.toInt < 128 := by
  rw [Int8.toInt_toInt32]
  have h1 := Int8.le_toInt x.toInt8
  have h2 := Int8.toInt_lt x.toInt8
  omega
theorem fb_short_rng (x : Int32) : -32768 ≤ x.toInt16.toInt32.toInt ∧ x.toInt16.toInt32.toInt < 32768 := by
  rw [Int16.toInt_toInt32]
  have h1 := Int16.le_toInt x.toInt16
  have h2 := Int16.toInt_lt x.toInt16
  omega
theorem fb_byte_twice (x : Int32) : x.toInt8.toInt32.toInt8.toInt32 = x.toInt8.toInt32 := fb_byte (fb_byte_rng x).1 (fb_byte_rng x).2
theorem fb_short_twice (x : Int32) : x.toInt16.toInt32.toInt16.toInt32 = x.toInt16.toInt32 := fb_short (fb_short_rng x).1 (fb_short_rng x).2
theorem fb_char {n : Nat} (h : n < 65536) : (nI n).toUInt32.toUInt16.toUInt32.toInt32 = nI n := by
  apply Int32.toBitVec_inj.1
  apply BitVec.eq_of_toNat_eq
  have e1 : (nI n).toBitVec.toNat = n := by
    show (BitVec.ofNat 32 n).toNat = n
    rw [BitVec.toNat_ofNat, Nat.mod_eq_of_lt (by omega)]
  have e2 : ((nI n).toUInt32.toUInt16.toUInt32).toNat = n := by
    rw [UInt16.toNat_toUInt32, UInt32.toNat_toUInt16]
    show (nI n).toBitVec.toNat % 2 ^ 16 = n
    rw [e1, Nat.mod_eq_of_lt (by omega)]
  rw [e1]
  exact e2
end
section
-- written by wip/gen/gen.py: the cells, and the words of the tables by their places
def sd_cells : List (Nat × Nat) := [(0, 0), (1, 0), (2, 0), (3, 0), (4, 0), (5, 0), (6, 0), (7, 0), (8, 0), (9, 0), (10, 0), (11, 0), (12, 0), (13, 0), (14, 0), (15, 0), (16, 0), (17, 0), (17, 1), (17, 2), (17, 3), (18, 0), (18, 1), (18, 2), (18, 3), (19, 0), (19, 1), (19, 2), (19, 3), (20, 0), (20, 1), (20, 2), (20, 3), (21, 0), (21, 1), (21, 2), (21, 3), (22, 0), (23, 0), (24, 0), (25, 0), (26, 0), (27, 0), (28, 0), (29, 0), (30, 0), (31, 0), (32, 0), (33, 0), (34, 0), (35, 0), (36, 0), (37, 0), (38, 0), (39, 0), (40, 0), (41, 0), (42, 0), (43, 0), (44, 0), (45, 0), (46, 0), (47, 0), (48, 0), (49, 0), (50, 0), (51, 0), (52, 0), (53, 0), (54, 0), (55, 0), (56, 0), (57, 0), (58, 0), (59, 0), (60, 0), (61, 0), (62, 0), (63, 0), (64, 0), (65, 0), (66, 0), (67, 0), (68, 0), (69, 0), (70, 0), (71, 0)]
theorem sd_nodup : sd_cells.Nodup := by decide +kernel
def sd_own (i : Nat) : String := (["TableMapper$Cells", "TableMapper$Clustering", "TableMapper$Contents", "TableMapper$Cover", "TableMapper$Cuts", "TableMapper$Network", "TableMapper$Row", "TableMapper$Signals", "TableMapper$Ways", "TableMapper", "TableMapperModel", "TableMapperLaw", "java/lang/Long", "java/lang/Math"] : List String).getD i ""
def sd_nestT : List (String × Nat × MethodName × String) := [("TableMapper$Cells", 75, ⟨"TableMapper", "lowest", "(J)I"⟩, "TableMapper"), ("TableMapper$Cells", 81, ⟨"TableMapper", "has", "(JI)Z"⟩, "TableMapper"), ("TableMapper$Cells", 85, ⟨"TableMapper", "bit", "(I)J"⟩, "TableMapper"), ("TableMapper$Clustering", 31, ⟨"TableMapper", "bit", "(I)J"⟩, "TableMapper"), ("TableMapper$Clustering", 71, ⟨"TableMapper", "lowest", "(J)I"⟩, "TableMapper"), ("TableMapper$Contents", 30, ⟨"TableMapper", "has", "(JI)Z"⟩, "TableMapper"), ("TableMapper$Contents", 38, ⟨"TableMapper", "bit", "(I)J"⟩, "TableMapper"), ("TableMapper$Contents", 69, ⟨"TableMapper", "lowest", "(J)I"⟩, "TableMapper"), ("TableMapper$Cover", 32, ⟨"TableMapper", "lowest", "(J)I"⟩, "TableMapper"), ("TableMapper$Cover", 71, ⟨"TableMapper", "has", "(JI)Z"⟩, "TableMapper"), ("TableMapper$Cuts", 50, ⟨"TableMapper", "has", "(JI)Z"⟩, "TableMapper"), ("TableMapper$Cuts", 61, ⟨"TableMapper", "bit", "(I)J"⟩, "TableMapper"), ("TableMapper$Cuts", 79, ⟨"TableMapper", "lowest", "(J)I"⟩, "TableMapper"), ("TableMapper$Network", 43, ⟨"TableMapper", "has", "(JI)Z"⟩, "TableMapper"), ("TableMapper$Network", 53, ⟨"TableMapper", "bit", "(I)J"⟩, "TableMapper"), ("TableMapper$Network", 70, ⟨"TableMapper", "lowest", "(J)I"⟩, "TableMapper"), ("TableMapper$Signals", 23, ⟨"TableMapper", "has", "(JI)Z"⟩, "TableMapper"), ("TableMapper$Signals", 27, ⟨"TableMapper", "bit", "(I)J"⟩, "TableMapper"), ("TableMapper$Signals", 58, ⟨"TableMapper", "lowest", "(J)I"⟩, "TableMapper"), ("TableMapper$Ways", 31, ⟨"TableMapper", "lowest", "(J)I"⟩, "TableMapper"), ("TableMapper$Ways", 62, ⟨"TableMapper", "has", "(JI)Z"⟩, "TableMapper"), ("TableMapper$Ways", 73, ⟨"TableMapper", "bit", "(I)J"⟩, "TableMapper")]
def sd_nest : List Cond := sd_nestT.map fun q => .methodLinkNest q.1 q.2.1 q.2.2.1 q.2.2.2
theorem sd_nest_in : ∀ w ∈ sd_nest, w ∈ lw_tbl := by
  intro w hw
  have h : sd_nest = [648, 649, 651, 887, 892, 836, 846, 843, 612, 631, 522, 533, 527, 487, 447, 626, 730, 731, 758, 542, 552, 557].filterMap (fun i => lw_tbl[i]?) := by decide +kernel
  rw [h] at hw
  obtain ⟨i, -, hi⟩ := List.mem_filterMap.mp hw
  exact List.mem_of_getElem? hi
def sd_W : List Cond := lw_tbl.filter goodWord
theorem sd_in {i : Nat} {w : Cond} (h : lw_tbl[i]? = some w) (hg : goodWord w = true) : w ∈ sd_W := List.mem_filter.mpr ⟨List.mem_of_getElem? h, hg⟩
theorem sd_inL {ws : List Cond} (ps : List Nat) (h : ws = ps.filterMap (fun i => lw_tbl[i]?)) (hg : ws.all goodWord = true) : ∀ w ∈ ws, w ∈ sd_W := by
  intro w hw
  have h1 := List.all_eq_true.mp hg w hw
  rw [h] at hw
  obtain ⟨i, -, hi⟩ := List.mem_filterMap.mp hw
  exact sd_in hi h1
def sd_clsOK (r : vw_C) : Prop := (∀ w ∈ u_ws r.1 r.2.1 r.2.2, w ∈ sd_W) ∧ ∃ ty0 : Nat → FieldType, (∀ k, k < r.2.2 → parseFieldDescriptor (r.2.1 k).2.2.1 = some (ty0 k)) ∧ (∀ a, a < r.2.2 → ∀ b, b < r.2.2 → a ≠ b → (r.2.1 a).2.1 ≠ (r.2.1 b).2.1)
set_option maxRecDepth 100000 in
theorem sd_cls0 : sd_clsOK (RX0, TX0, 11) := ⟨sd_inL [351, 353, 355, 357, 359, 361, 363, 365, 367, 369, 371] (by decide +kernel) (by decide +kernel), tyX0, tyX0_ok, nmX0⟩
set_option maxRecDepth 100000 in
theorem sd_cls1 : sd_clsOK (RX1, TX1, 8) := ⟨sd_inL [390, 392, 394, 396, 398, 400, 402, 404] (by decide +kernel) (by decide +kernel), tyX1, tyX1_ok, nmX1⟩
set_option maxRecDepth 100000 in
theorem sd_cls2 : sd_clsOK (RX2, TX2, 5) := ⟨sd_inL [313, 315, 317, 319, 321] (by decide +kernel) (by decide +kernel), tyX2, tyX2_ok, nmX2⟩
set_option maxRecDepth 100000 in
theorem sd_cls3 : sd_clsOK (RX3, TX3, 5) := ⟨sd_inL [291, 293, 295, 297, 299] (by decide +kernel) (by decide +kernel), tyX3, tyX3_ok, nmX3⟩
set_option maxRecDepth 100000 in
theorem sd_cls4 : sd_clsOK (RX4, TX4, 9) := ⟨sd_inL [255, 257, 259, 261, 263, 265, 267, 269, 271] (by decide +kernel) (by decide +kernel), tyX4, tyX4_ok, nmX4⟩
set_option maxRecDepth 100000 in
theorem sd_cls5 : sd_clsOK (RX5, TX5, 10) := ⟨sd_inL [148, 150, 152, 154, 156, 158, 160, 162, 164, 166] (by decide +kernel) (by decide +kernel), tyX5, tyX5_ok, nmX5⟩
set_option maxRecDepth 100000 in
theorem sd_cls6 : sd_clsOK (RX6, TX6, 3) := ⟨sd_inL [228, 230, 232] (by decide +kernel) (by decide +kernel), tyX6, tyX6_ok, nmX6⟩
set_option maxRecDepth 100000 in
theorem sd_cls7 : sd_clsOK (RX7, TX7, 3) := ⟨sd_inL [181, 183, 185] (by decide +kernel) (by decide +kernel), tyX7, tyX7_ok, nmX7⟩
set_option maxRecDepth 100000 in
theorem sd_cls8 : sd_clsOK (RX8, TX8, 8) := ⟨sd_inL [202, 204, 206, 208, 210, 212, 214, 216] (by decide +kernel) (by decide +kernel), tyX8, tyX8_ok, nmX8⟩
set_option maxRecDepth 100000 in
theorem sd_cls9 : sd_clsOK (RX9, TX9, 9) := ⟨sd_inL [416, 418, 420, 422, 424, 426, 428, 430, 432] (by decide +kernel) (by decide +kernel), tyX9, tyX9_ok, nmX9⟩
set_option maxRecDepth 100000 in
theorem sd_cls10 : sd_clsOK (RX10, TX10, 45) := ⟨sd_inL [1085, 1087, 1089, 1091, 1093, 1095, 1097, 1099, 1101, 1103, 1105, 1107, 1109, 1111, 1113, 1115, 1117, 1119, 1121, 1123, 1125, 1127, 1129, 1131, 1133, 1135, 1137, 1139, 1141, 1143, 1145, 1147, 1149, 1151, 1153, 1155, 1157, 1159, 1161, 1163, 1165, 1167, 1169, 1171, 1173] (by decide +kernel) (by decide +kernel), tyX10, tyX10_ok, nmX10⟩
theorem sd_cls : ∀ r ∈ vwCl, sd_clsOK r := by
  intro r hr
  simp only [vwCl, List.mem_cons, List.not_mem_nil, or_false] at hr
  rcases hr with rfl | rfl | rfl | rfl | rfl | rfl | rfl | rfl | rfl | rfl | rfl
  · exact sd_cls0
  · exact sd_cls1
  · exact sd_cls2
  · exact sd_cls3
  · exact sd_cls4
  · exact sd_cls5
  · exact sd_cls6
  · exact sd_cls7
  · exact sd_cls8
  · exact sd_cls9
  · exact sd_cls10
def sd_flW (q : Nat × Nat × (Nat × Nat)) : Option Cond := (vwCl[q.2.2.1]?).map fun r => Cond.fieldLink (sd_own q.1) q.2.1 r.1 (r.2.1 q.2.2.2).2.1 (r.2.1 q.2.2.2).2.2.1
def sd_flP : List Nat := [407, 408, 409, 410, 411, 412, 413, 414, 415, 140, 290, 247, 125, 250, 285, 287, 334, 336, 347, 350, 345, 338, 340, 343, 384, 382, 180, 147, 128, 135, 139, 254, 332, 333, 335, 337, 339, 341, 330, 331, 348, 289, 145, 284, 346, 344, 141, 138, 381, 380, 385, 386, 349, 387, 383, 388, 389, 342, 310, 311, 308, 309, 312, 283, 132, 281, 282, 286, 280, 129, 249, 143, 288, 246, 248, 251, 252, 242, 243, 244, 245, 253, 130, 122, 124, 117, 118, 119, 120, 123, 144, 127, 133, 137, 142, 225, 226, 227, 178, 177, 179, 126, 136, 146, 134, 194, 195, 196, 197, 121, 198, 199, 200, 201, 131, 1042, 1043, 1044, 1045, 1047, 1050, 1051, 1052, 1053, 1054, 1055, 1056, 1058, 1059, 1060, 1062, 1063, 1064, 1066, 1067, 1068, 1069, 1070, 1071, 1072, 1073, 1074, 1075, 1079, 1080, 1081, 1082, 1083, 1040, 1041, 1048, 1049, 1046, 1057, 1061, 1065, 1078, 1076, 1077, 1084]
set_option maxRecDepth 100000 in
theorem sd_fl1 : jm_fl.map sd_flW = sd_flP.map (fun i => lw_tbl[i]?) := by decide +kernel
set_option maxRecDepth 100000 in
theorem sd_fl2 : jm_fl.all (fun q => match vwCl[q.2.2.1]? with | some r => decide (q.2.2.2 < r.2.2) && decide ((r.2.1 q.2.2.2).1 = r.1) | none => false) = true := by decide +kernel
def sd_gsW (q : Nat × Nat × Nat) : Cond := if q.2.2 = 100 then .fieldLink (sd_own q.1) q.2.1 "TableMapper$Network" "SOURCES" "[I" else .fieldLink (sd_own q.1) q.2.1 "TableMapper$Contents" "PLACES" "[J"
theorem sd_gs1 : jm_gs.map (fun q => some (sd_gsW q)) = [841, 457].map (fun i => lw_tbl[i]?) := by decide +kernel
theorem sd_gs2 : jm_gs.all (fun q => decide (q.2.2 = 100 ∨ q.2.2 = 101)) = true := by decide +kernel
theorem sd_lc1 : jm_lc.map (fun q => some (Cond.constantLong (sd_own q.1) q.2.1 q.2.2)) = [656, 902, 848, 757, 607, 732, 543, 1516, 1285, 502, 503, 504].map (fun i => lw_tbl[i]?) := by decide +kernel
def sd_mmN (b : Bool) : MethodName := if b then Lib.Math.max.name else Lib.Math.min.name
theorem sd_mm1 : jm_mm.map (fun q => some (Cond.methodLink (sd_own q.1) q.2.1 (sd_mmN q.2.2))) = [867, 621, 703, 530].map (fun i => lw_tbl[i]?) := by decide +kernel
theorem sd_max : Cond.static Lib.Math.max.name ∈ lw_tbl ∧ Cond.initialized "java/lang/Math" ∈ lw_tbl ∧ Cond.code Lib.Math.max.name Lib.Math.max.code 2 (some .int) ∈ lw_tbl := ⟨List.mem_of_getElem? (i := 531) (by decide +kernel), List.mem_of_getElem? (i := 98) (by decide +kernel), List.mem_of_getElem? (i := 532) (by decide +kernel)⟩
theorem sd_min : Cond.static Lib.Math.min.name ∈ lw_tbl ∧ Cond.initialized "java/lang/Math" ∈ lw_tbl ∧ Cond.code Lib.Math.min.name Lib.Math.min.code 2 (some .int) ∈ lw_tbl := ⟨List.mem_of_getElem? (i := 704) (by decide +kernel), List.mem_of_getElem? (i := 98) (by decide +kernel), List.mem_of_getElem? (i := 705) (by decide +kernel)⟩
def sd_mt : List (MethodName × ByteArray × Nat × Option FieldType) := [(yX0_isCell, cX0_isCell, 2, some .boolean), (yX0_netsOut, cX0_netsOut, 2, some .long), (yX0_fillAnew, cX0_fillAnew, 2, none), (yX0_mostPairs, cX0_mostPairs, 1, some .int), (yX0_findMates, cX0_findMates, 8, none), (yX0_pairTables, cX0_pairTables, 9, none), (yX0_layTables, cX0_layTables, 4, none), (yX0_addCell, cX0_addCell, 7, none), (yX0_join, cX0_join, 3, none), (yX0_layRegisters, cX0_layRegisters, 7, none), (yX0_usedByTables, cX0_usedByTables, 5, some .long), (yX0_fedToSeveral, cX0_fedToSeveral, 9, some .long), (yX0_mostPairsOf, cX0_mostPairsOf, 13, some .int), (yX0_withMates, cX0_withMates, 8, some .long), (yX0_withFewestMates, cX0_withFewestMates, 7, some .int), (yX1_isLimit, cX1_isLimit, 2, some .boolean), (yX1_forget, cX1_forget, 1, none), (yX1_fill, cX1_fill, 6, none), (yX1_countCrossing, cX1_countCrossing, 5, some .int), (yX1_take, cX1_take, 2, none), (yX1_withMostNetsIn, cX1_withMostNetsIn, 5, some .int), (yX1_bestToCome, cX1_bestToCome, 13, some .int), (yX2_forget, cX2_forget, 1, none), (yX2_bitsOf, cX2_bitsOf, 2, some .long), (yX2_caresOf, cX2_caresOf, 11, some .int), (yX2_nodesByTables, cX2_nodesByTables, 8, some .long), (yX2_told, cX2_told, 8, some .int), (yX2_findBits, cX2_findBits, 8, some .long), (yX3_takeNearCuts, cX3_takeNearCuts, 5, none), (yX3_chooseAgain, cX3_chooseAgain, 11, some .int), (yX3_greatestArrival, cX3_greatestArrival, 6, some .int), (yX3_usesOf, cX3_usesOf, 5, some .int), (yX3_onSlowWay, cX3_onSlowWay, 6, some .int), (yX3_latestOf, cX3_latestOf, 7, some .int), (yX3_arrivalBy, cX3_arrivalBy, 3, some .int), (yX3_withChosen, cX3_withChosen, 8, some .long), (yX3_tablesWith, cX3_tablesWith, 6, some .long), (yX3_findDue, cX3_findDue, 8, none), (yX3_bestCut, cX3_bestCut, 14, some .long), (yX4_learn, cX4_learn, 5, none), (yX4_greatestLevel, cX4_greatestLevel, 6, some .int), (yX4_keptCut, cX4_keptCut, 3, some .long), (yX4_belowAtLevel, cX4_belowAtLevel, 8, some .long), (yX4_learnKept, cX4_learnKept, 6, none), (yX4_takeKept, cX4_takeKept, 5, none), (yX4_addWithThird, cX4_addWithThird, 8, none), (yX4_choices, cX4_choices, 4, some .int), (yX4_choice, cX4_choice, 5, some .long), (yX4_placeInRow, cX4_placeInRow, 10, some .long), (yX5_isKind, cX5_isKind, 1, some .boolean), (yX5_sourcesOf, cX5_sourcesOf, 1, some .int), (yX5_isFull, cX5_isFull, 1, some .boolean), (yX5_isNode, cX5_isNode, 2, some .boolean), (yX5_isInput, cX5_isInput, 2, some .boolean), (yX5_isGate, cX5_isGate, 2, some .boolean), (yX5_isRegister, cX5_isRegister, 2, some .boolean), (yX5_addInput, cX5_addInput, 1, some .int), (yX5_addRegister, cX5_addRegister, 1, some .int), (yX5_addGate, cX5_addGate, 5, some .int), (yX5_setFeed, cX5_setFeed, 3, none), (yX5_kindOf, cX5_kindOf, 2, some .int), (yX5_feedOf, cX5_feedOf, 2, some .int), (yX5_sourceOf, cX5_sourceOf, 3, some .int), (yX5_sourceOrFeed, cX5_sourceOrFeed, 3, some .int), (yX5_roots, cX5_roots, 5, some .long), (yX5_reached, cX5_reached, 7, some .long), (yX5_separates, cX5_separates, 4, some .boolean), (yX5_valueOf, cX5_valueOf, 9, some .long), (yX6_clear, cX6_clear, 1, none), (yX6_add, cX6_add, 5, none), (yX6_takeFirst, cX6_takeFirst, 4, some .long), (yX6_dropAllWith, cX6_dropAllWith, 5, none), (yX7_setInput, cX7_setInput, 4, some .int), (yX7_now, cX7_now, 1, some .long), (yX7_changedBy, cX7_changedBy, 2, some .long), (yX7_run, cX7_run, 6, some .int), (yX7_registersNext, cX7_registersNext, 8, some .long), (yX7_nodesOn, cX7_nodesOn, 6, some .long), (yX8_nearestCut, cX8_nearestCut, 8, some .long), (yX8_findWay, cX8_findWay, 8, some .int), (yX8_seeUppers, cX8_seeUppers, 7, none), (yX8_seeLower, cX8_seeLower, 3, none), (yX8_layWay, cX8_layWay, 5, none), (yX9_input, cX9_input, 1, some .int), (yX9_gate, cX9_gate, 6, some .int), (yX9_register, cX9_register, 1, some .int), (yX9_feed, cX9_feed, 3, some .boolean), (yX9_output, cX9_output, 2, some .int), (yX9_inputs, cX9_inputs, 3, some .int), (yX9_map, cX9_map, 1, some .int), (yX9_again, cX9_again, 3, some .int), (yX9_set, cX9_set, 3, some .int), (yX9_clock, cX9_clock, 2, some .int), (yX9_node, cX9_node, 3, some .int), (yX9_near, cX9_near, 5, some .int), (yX9_cone, cX9_cone, 2, some .int), (yX9_kept, cX9_kept, 3, some .long), (yX9_isCut, cX9_isCut, 4, some .boolean), (yX9_depth, cX9_depth, 1, some .int), (yX9_chosen, cX9_chosen, 2, some .long), (yX9_table, cX9_table, 3, some .int), (yX9_holds, cX9_holds, 2, some .long), (yX9_mapped, cX9_mapped, 2, some .int), (yX9_cell, cX9_cell, 3, some .int), (yX9_clusters, cX9_clusters, 3, some .int), (yX9_cluster, cX9_cluster, 4, some .int), (yX9_cross, cX9_cross, 3, some .int), (yX9_is, cX9_is, 2, some .int), (yX9_comes, cX9_comes, 2, some .int), (yX9_differs, cX9_differs, 3, some .int), (yX9_slow, cX9_slow, 2, some .int), (yX9_count, cX9_count, 2, some .int), (yX9_cutsOfK, cX9_cutsOfK, 3, some (.object "TableMapper$Cuts")), (yX9_followCover, cX9_followCover, 1, none), (yX9_bit, cX9_bit, 1, some .long), (yX9_has, cX9_has, 3, some .boolean), (yX9_lowest, cX9_lowest, 2, some .int), (yX9_nthOf, cX9_nthOf, 6, some .int), (yX10_thrown, cX10_thrown, 1, some .int), (yX10_within, cX10_within, 3, some .boolean), (yX10_has, cX10_has, 3, some .boolean), (yX10_manyOf, cX10_manyOf, 4, some .int), (yX10_lowest, cX10_lowest, 3, some .int), (yX10_sourcesOf, cX10_sourcesOf, 1, some .int), (yX10_isNode, cX10_isNode, 2, some .boolean), (yX10_isGate, cX10_isGate, 2, some .boolean), (yX10_isRegister, cX10_isRegister, 2, some .boolean), (yX10_changes, cX10_changes, 1, none), (yX10_adds, cX10_adds, 3, some .int), (yX10_input, cX10_input, 1, some .int), (yX10_gate, cX10_gate, 10, some .int), (yX10_register, cX10_register, 2, some .int), (yX10_feed, cX10_feed, 3, some .boolean), (yX10_output, cX10_output, 2, some .int), (yX10_inputs, cX10_inputs, 3, some .int), (yX10_fed, cX10_fed, 4, some .long), (yX10_roots, cX10_roots, 1, some .long), (yX10_gates, cX10_gates, 4, some .long), (yX10_comes, cX10_comes, 3, none), (yX10_room, cX10_room, 3, some .int), (yX10_spreadsOut, cX10_spreadsOut, 4, none), (yX10_spreadsIn, cX10_spreadsIn, 7, none), (yX10_spreads, cX10_spreads, 7, some .int), (yX10_slotOf, cX10_slotOf, 5, some .int), (yX10_flows, cX10_flows, 6, none), (yX10_isCutOff, cX10_isCutOff, 6, some .boolean), (yX10_greatestIn, cX10_greatestIn, 5, some .int), (yX10_isAhead, cX10_isAhead, 7, some .boolean), (yX10_makes, cX10_makes, 5, none), (yX10_setOf, cX10_setOf, 3, some .long), (yX10_laysKept, cX10_laysKept, 11, none), (yX10_puts, cX10_puts, 8, some .int), (yX10_lays, cX10_lays, 3, none), (yX10_coneOf, cX10_coneOf, 9, some .long), (yX10_rootDepth, cX10_rootDepth, 1, some .int), (yX10_node, cX10_node, 3, some .int), (yX10_near, cX10_near, 5, some .int), (yX10_cone, cX10_cone, 2, some .int), (yX10_kept, cX10_kept, 3, some .long), (yX10_isCut, cX10_isCut, 10, some .boolean), (yX10_depth, cX10_depth, 1, some .int), (yX10_laysTables, cX10_laysTables, 2, none), (yX10_arrivalBy, cX10_arrivalBy, 5, some .int), (yX10_laysArrival, cX10_laysArrival, 2, none), (yX10_looks, cX10_looks, 1, none), (yX10_map, cX10_map, 2, some .int), (yX10_laysDue, cX10_laysDue, 6, none), (yX10_tablesBy, cX10_tablesBy, 6, some .int), (yX10_choosesAgain, cX10_choosesAgain, 11, none), (yX10_again, cX10_again, 4, some .int), (yX10_chosen, cX10_chosen, 2, some .long), (yX10_gateIs, cX10_gateIs, 5, some .boolean), (yX10_works, cX10_works, 4, none), (yX10_fixes, cX10_fixes, 6, none), (yX10_holdsOf, cX10_holdsOf, 5, some .long), (yX10_holds, cX10_holds, 2, some .long), (yX10_caresOf, cX10_caresOf, 8, some .int), (yX10_has64, cX10_has64, 3, some .boolean), (yX10_set, cX10_set, 4, some .int), (yX10_clock, cX10_clock, 5, some .int), (yX10_is, cX10_is, 2, some .int), (yX10_comes_, cX10_comes_, 6, some .int), (yX10_differs, cX10_differs, 4, some .int), (yX10_isPair, cX10_isPair, 3, some .boolean), (yX10_laysPairs, cX10_laysPairs, 3, none), (yX10_usesOf, cX10_usesOf, 4, some .int), (yX10_isPacked, cX10_isPacked, 5, some .boolean), (yX10_newCell, cX10_newCell, 4, none), (yX10_packs, cX10_packs, 3, none), (yX10_laysCells, cX10_laysCells, 3, none), (yX10_mostPairs, cX10_mostPairs, 9, some .int), (yX10_table, cX10_table, 3, some .int), (yX10_slowest, cX10_slowest, 3, some .int), (yX10_mapped, cX10_mapped, 2, some .int), (yX10_cell, cX10_cell, 3, some .int), (yX10_beginning, cX10_beginning, 3, some .int), (yX10_nextTo, cX10_nextTo, 8, some .int), (yX10_joins, cX10_joins, 3, none), (yX10_laysClusters, cX10_laysClusters, 5, some .boolean), (yX10_clusters, cX10_clusters, 3, some .int), (yX10_cluster, cX10_cluster, 4, some .int), (yX10_cross, cX10_cross, 7, some .int), (yX10_slow, cX10_slow, 7, some .int), (yX10_count, cX10_count, 4, some .int), (yJ13_bitCount_95d88, cJ13_bitCount_95d88, 2, some .int)]
set_option maxRecDepth 100000 in
theorem sd_mc0 : Cond.code yX0_isCell cX0_isCell 2 (some .boolean) ∈ lw_tbl := List.mem_of_getElem? (i := 875) rfl
set_option maxRecDepth 100000 in
theorem sd_mc1 : Cond.code yX0_netsOut cX0_netsOut 2 (some .long) ∈ lw_tbl := List.mem_of_getElem? (i := 901) rfl
set_option maxRecDepth 100000 in
theorem sd_mc2 : Cond.code yX0_fillAnew cX0_fillAnew 2 (none) ∈ lw_tbl := List.mem_of_getElem? (i := 643) rfl
set_option maxRecDepth 100000 in
theorem sd_mc3 : Cond.code yX0_mostPairs cX0_mostPairs 1 (some .int) ∈ lw_tbl := List.mem_of_getElem? (i := 857) rfl
set_option maxRecDepth 100000 in
theorem sd_mc4 : Cond.code yX0_findMates cX0_findMates 8 (none) ∈ lw_tbl := List.mem_of_getElem? (i := 647) rfl
set_option maxRecDepth 100000 in
theorem sd_mc5 : Cond.code yX0_pairTables cX0_pairTables 9 (none) ∈ lw_tbl := List.mem_of_getElem? (i := 655) rfl
set_option maxRecDepth 100000 in
theorem sd_mc6 : Cond.code yX0_layTables cX0_layTables 4 (none) ∈ lw_tbl := List.mem_of_getElem? (i := 660) rfl
set_option maxRecDepth 100000 in
theorem sd_mc7 : Cond.code yX0_addCell cX0_addCell 7 (none) ∈ lw_tbl := List.mem_of_getElem? (i := 664) rfl
set_option maxRecDepth 100000 in
theorem sd_mc8 : Cond.code yX0_join cX0_join 3 (none) ∈ lw_tbl := List.mem_of_getElem? (i := 668) rfl
set_option maxRecDepth 100000 in
theorem sd_mc9 : Cond.code yX0_layRegisters cX0_layRegisters 7 (none) ∈ lw_tbl := List.mem_of_getElem? (i := 672) rfl
set_option maxRecDepth 100000 in
theorem sd_mc10 : Cond.code yX0_usedByTables cX0_usedByTables 5 (some .long) ∈ lw_tbl := List.mem_of_getElem? (i := 676) rfl
set_option maxRecDepth 100000 in
theorem sd_mc11 : Cond.code yX0_fedToSeveral cX0_fedToSeveral 9 (some .long) ∈ lw_tbl := List.mem_of_getElem? (i := 680) rfl
set_option maxRecDepth 100000 in
theorem sd_mc12 : Cond.code yX0_mostPairsOf cX0_mostPairsOf 13 (some .int) ∈ lw_tbl := List.mem_of_getElem? (i := 860) rfl
set_option maxRecDepth 100000 in
theorem sd_mc13 : Cond.code yX0_withMates cX0_withMates 8 (some .long) ∈ lw_tbl := List.mem_of_getElem? (i := 863) rfl
set_option maxRecDepth 100000 in
theorem sd_mc14 : Cond.code yX0_withFewestMates cX0_withFewestMates 7 (some .int) ∈ lw_tbl := List.mem_of_getElem? (i := 866) rfl
set_option maxRecDepth 100000 in
theorem sd_mc15 : Cond.code yX1_isLimit cX1_isLimit 2 (some .boolean) ∈ lw_tbl := List.mem_of_getElem? (i := 882) rfl
set_option maxRecDepth 100000 in
theorem sd_mc16 : Cond.code yX1_forget cX1_forget 1 (none) ∈ lw_tbl := List.mem_of_getElem? (i := 688) rfl
set_option maxRecDepth 100000 in
theorem sd_mc17 : Cond.code yX1_fill cX1_fill 6 (none) ∈ lw_tbl := List.mem_of_getElem? (i := 886) rfl
set_option maxRecDepth 100000 in
theorem sd_mc18 : Cond.code yX1_countCrossing cX1_countCrossing 5 (some .int) ∈ lw_tbl := List.mem_of_getElem? (i := 918) rfl
set_option maxRecDepth 100000 in
theorem sd_mc19 : Cond.code yX1_take cX1_take 2 (none) ∈ lw_tbl := List.mem_of_getElem? (i := 897) rfl
set_option maxRecDepth 100000 in
theorem sd_mc20 : Cond.code yX1_withMostNetsIn cX1_withMostNetsIn 5 (some .int) ∈ lw_tbl := List.mem_of_getElem? (i := 891) rfl
set_option maxRecDepth 100000 in
theorem sd_mc21 : Cond.code yX1_bestToCome cX1_bestToCome 13 (some .int) ∈ lw_tbl := List.mem_of_getElem? (i := 906) rfl
set_option maxRecDepth 100000 in
theorem sd_mc22 : Cond.code yX2_forget cX2_forget 1 (none) ∈ lw_tbl := List.mem_of_getElem? (i := 639) rfl
set_option maxRecDepth 100000 in
theorem sd_mc23 : Cond.code yX2_bitsOf cX2_bitsOf 2 (some .long) ∈ lw_tbl := List.mem_of_getElem? (i := 835) rfl
set_option maxRecDepth 100000 in
theorem sd_mc24 : Cond.code yX2_caresOf cX2_caresOf 11 (some .int) ∈ lw_tbl := List.mem_of_getElem? (i := 831) rfl
set_option maxRecDepth 100000 in
theorem sd_mc25 : Cond.code yX2_nodesByTables cX2_nodesByTables 8 (some .long) ∈ lw_tbl := List.mem_of_getElem? (i := 931) rfl
set_option maxRecDepth 100000 in
theorem sd_mc26 : Cond.code yX2_told cX2_told 8 (some .int) ∈ lw_tbl := List.mem_of_getElem? (i := 934) rfl
set_option maxRecDepth 100000 in
theorem sd_mc27 : Cond.code yX2_findBits cX2_findBits 8 (some .long) ∈ lw_tbl := List.mem_of_getElem? (i := 840) rfl
set_option maxRecDepth 100000 in
theorem sd_mc28 : Cond.code yX3_takeNearCuts cX3_takeNearCuts 5 (none) ∈ lw_tbl := List.mem_of_getElem? (i := 611) rfl
set_option maxRecDepth 100000 in
theorem sd_mc29 : Cond.code yX3_chooseAgain cX3_chooseAgain 11 (some .int) ∈ lw_tbl := List.mem_of_getElem? (i := 696) rfl
set_option maxRecDepth 100000 in
theorem sd_mc30 : Cond.code yX3_greatestArrival cX3_greatestArrival 6 (some .int) ∈ lw_tbl := List.mem_of_getElem? (i := 620) rfl
set_option maxRecDepth 100000 in
theorem sd_mc31 : Cond.code yX3_usesOf cX3_usesOf 5 (some .int) ∈ lw_tbl := List.mem_of_getElem? (i := 827) rfl
set_option maxRecDepth 100000 in
theorem sd_mc32 : Cond.code yX3_onSlowWay cX3_onSlowWay 6 (some .int) ∈ lw_tbl := List.mem_of_getElem? (i := 950) rfl
set_option maxRecDepth 100000 in
theorem sd_mc33 : Cond.code yX3_latestOf cX3_latestOf 7 (some .int) ∈ lw_tbl := List.mem_of_getElem? (i := 954) rfl
set_option maxRecDepth 100000 in
theorem sd_mc34 : Cond.code yX3_arrivalBy cX3_arrivalBy 3 (some .int) ∈ lw_tbl := List.mem_of_getElem? (i := 616) rfl
set_option maxRecDepth 100000 in
theorem sd_mc35 : Cond.code yX3_withChosen cX3_withChosen 8 (some .long) ∈ lw_tbl := List.mem_of_getElem? (i := 630) rfl
set_option maxRecDepth 100000 in
theorem sd_mc36 : Cond.code yX3_tablesWith cX3_tablesWith 6 (some .long) ∈ lw_tbl := List.mem_of_getElem? (i := 713) rfl
set_option maxRecDepth 100000 in
theorem sd_mc37 : Cond.code yX3_findDue cX3_findDue 8 (none) ∈ lw_tbl := List.mem_of_getElem? (i := 702) rfl
set_option maxRecDepth 100000 in
theorem sd_mc38 : Cond.code yX3_bestCut cX3_bestCut 14 (some .long) ∈ lw_tbl := List.mem_of_getElem? (i := 709) rfl
set_option maxRecDepth 100000 in
theorem sd_mc39 : Cond.code yX4_learn cX4_learn 5 (none) ∈ lw_tbl := List.mem_of_getElem? (i := 521) rfl
set_option maxRecDepth 100000 in
theorem sd_mc40 : Cond.code yX4_greatestLevel cX4_greatestLevel 6 (some .int) ∈ lw_tbl := List.mem_of_getElem? (i := 526) rfl
set_option maxRecDepth 100000 in
theorem sd_mc41 : Cond.code yX4_keptCut cX4_keptCut 3 (some .long) ∈ lw_tbl := List.mem_of_getElem? (i := 717) rfl
set_option maxRecDepth 100000 in
theorem sd_mc42 : Cond.code yX4_belowAtLevel cX4_belowAtLevel 8 (some .long) ∈ lw_tbl := List.mem_of_getElem? (i := 537) rfl
set_option maxRecDepth 100000 in
theorem sd_mc43 : Cond.code yX4_learnKept cX4_learnKept 6 (none) ∈ lw_tbl := List.mem_of_getElem? (i := 565) rfl
set_option maxRecDepth 100000 in
theorem sd_mc44 : Cond.code yX4_takeKept cX4_takeKept 5 (none) ∈ lw_tbl := List.mem_of_getElem? (i := 598) rfl
set_option maxRecDepth 100000 in
theorem sd_mc45 : Cond.code yX4_addWithThird cX4_addWithThird 8 (none) ∈ lw_tbl := List.mem_of_getElem? (i := 593) rfl
set_option maxRecDepth 100000 in
theorem sd_mc46 : Cond.code yX4_choices cX4_choices 4 (some .int) ∈ lw_tbl := List.mem_of_getElem? (i := 581) rfl
set_option maxRecDepth 100000 in
theorem sd_mc47 : Cond.code yX4_choice cX4_choice 5 (some .long) ∈ lw_tbl := List.mem_of_getElem? (i := 589) rfl
set_option maxRecDepth 100000 in
theorem sd_mc48 : Cond.code yX4_placeInRow cX4_placeInRow 10 (some .long) ∈ lw_tbl := List.mem_of_getElem? (i := 573) rfl
set_option maxRecDepth 100000 in
theorem sd_mc49 : Cond.code yX5_isKind cX5_isKind 1 (some .boolean) ∈ lw_tbl := List.mem_of_getElem? (i := 456) rfl
set_option maxRecDepth 100000 in
theorem sd_mc50 : Cond.code yX5_sourcesOf cX5_sourcesOf 1 (some .int) ∈ lw_tbl := List.mem_of_getElem? (i := 461) rfl
set_option maxRecDepth 100000 in
theorem sd_mc51 : Cond.code yX5_isFull cX5_isFull 1 (some .boolean) ∈ lw_tbl := List.mem_of_getElem? (i := 442) rfl
set_option maxRecDepth 100000 in
theorem sd_mc52 : Cond.code yX5_isNode cX5_isNode 2 (some .boolean) ∈ lw_tbl := List.mem_of_getElem? (i := 465) rfl
set_option maxRecDepth 100000 in
theorem sd_mc53 : Cond.code yX5_isInput cX5_isInput 2 (some .boolean) ∈ lw_tbl := List.mem_of_getElem? (i := 725) rfl
set_option maxRecDepth 100000 in
theorem sd_mc54 : Cond.code yX5_isGate cX5_isGate 2 (some .boolean) ∈ lw_tbl := List.mem_of_getElem? (i := 768) rfl
set_option maxRecDepth 100000 in
theorem sd_mc55 : Cond.code yX5_isRegister cX5_isRegister 2 (some .boolean) ∈ lw_tbl := List.mem_of_getElem? (i := 485) rfl
set_option maxRecDepth 100000 in
theorem sd_mc56 : Cond.code yX5_addInput cX5_addInput 1 (some .int) ∈ lw_tbl := List.mem_of_getElem? (i := 446) rfl
set_option maxRecDepth 100000 in
theorem sd_mc57 : Cond.code yX5_addRegister cX5_addRegister 1 (some .int) ∈ lw_tbl := List.mem_of_getElem? (i := 477) rfl
set_option maxRecDepth 100000 in
theorem sd_mc58 : Cond.code yX5_addGate cX5_addGate 5 (some .int) ∈ lw_tbl := List.mem_of_getElem? (i := 469) rfl
set_option maxRecDepth 100000 in
theorem sd_mc59 : Cond.code yX5_setFeed cX5_setFeed 3 (none) ∈ lw_tbl := List.mem_of_getElem? (i := 493) rfl
set_option maxRecDepth 100000 in
theorem sd_mc60 : Cond.code yX5_kindOf cX5_kindOf 2 (some .int) ∈ lw_tbl := List.mem_of_getElem? (i := 772) rfl
set_option maxRecDepth 100000 in
theorem sd_mc61 : Cond.code yX5_feedOf cX5_feedOf 2 (some .int) ∈ lw_tbl := List.mem_of_getElem? (i := 684) rfl
set_option maxRecDepth 100000 in
theorem sd_mc62 : Cond.code yX5_sourceOf cX5_sourceOf 3 (some .int) ∈ lw_tbl := List.mem_of_getElem? (i := 585) rfl
set_option maxRecDepth 100000 in
theorem sd_mc63 : Cond.code yX5_sourceOrFeed cX5_sourceOrFeed 3 (some .int) ∈ lw_tbl := List.mem_of_getElem? (i := 776) rfl
set_option maxRecDepth 100000 in
theorem sd_mc64 : Cond.code yX5_roots cX5_roots 5 (some .long) ∈ lw_tbl := List.mem_of_getElem? (i := 625) rfl
set_option maxRecDepth 100000 in
theorem sd_mc65 : Cond.code yX5_reached cX5_reached 7 (some .long) ∈ lw_tbl := List.mem_of_getElem? (i := 796) rfl
set_option maxRecDepth 100000 in
theorem sd_mc66 : Cond.code yX5_separates cX5_separates 4 (some .boolean) ∈ lw_tbl := List.mem_of_getElem? (i := 809) rfl
set_option maxRecDepth 100000 in
theorem sd_mc67 : Cond.code yX5_valueOf cX5_valueOf 9 (some .long) ∈ lw_tbl := List.mem_of_getElem? (i := 756) rfl
set_option maxRecDepth 100000 in
theorem sd_mc68 : Cond.code yX6_clear cX6_clear 1 (none) ∈ lw_tbl := List.mem_of_getElem? (i := 569) rfl
set_option maxRecDepth 100000 in
theorem sd_mc69 : Cond.code yX6_add cX6_add 5 (none) ∈ lw_tbl := List.mem_of_getElem? (i := 577) rfl
set_option maxRecDepth 100000 in
theorem sd_mc70 : Cond.code yX6_takeFirst cX6_takeFirst 4 (some .long) ∈ lw_tbl := List.mem_of_getElem? (i := 602) rfl
set_option maxRecDepth 100000 in
theorem sd_mc71 : Cond.code yX6_dropAllWith cX6_dropAllWith 5 (none) ∈ lw_tbl := List.mem_of_getElem? (i := 606) rfl
set_option maxRecDepth 100000 in
theorem sd_mc72 : Cond.code yX7_setInput cX7_setInput 4 (some .int) ∈ lw_tbl := List.mem_of_getElem? (i := 729) rfl
set_option maxRecDepth 100000 in
theorem sd_mc73 : Cond.code yX7_now cX7_now 1 (some .long) ∈ lw_tbl := List.mem_of_getElem? (i := 748) rfl
set_option maxRecDepth 100000 in
theorem sd_mc74 : Cond.code yX7_changedBy cX7_changedBy 2 (some .long) ∈ lw_tbl := List.mem_of_getElem? (i := 942) rfl
set_option maxRecDepth 100000 in
theorem sd_mc75 : Cond.code yX7_run cX7_run 6 (some .int) ∈ lw_tbl := List.mem_of_getElem? (i := 740) rfl
set_option maxRecDepth 100000 in
theorem sd_mc76 : Cond.code yX7_registersNext cX7_registersNext 8 (some .long) ∈ lw_tbl := List.mem_of_getElem? (i := 744) rfl
set_option maxRecDepth 100000 in
theorem sd_mc77 : Cond.code yX7_nodesOn cX7_nodesOn 6 (some .long) ∈ lw_tbl := List.mem_of_getElem? (i := 752) rfl
set_option maxRecDepth 100000 in
theorem sd_mc78 : Cond.code yX8_nearestCut cX8_nearestCut 8 (some .long) ∈ lw_tbl := List.mem_of_getElem? (i := 541) rfl
set_option maxRecDepth 100000 in
theorem sd_mc79 : Cond.code yX8_findWay cX8_findWay 8 (some .int) ∈ lw_tbl := List.mem_of_getElem? (i := 547) rfl
set_option maxRecDepth 100000 in
theorem sd_mc80 : Cond.code yX8_seeUppers cX8_seeUppers 7 (none) ∈ lw_tbl := List.mem_of_getElem? (i := 551) rfl
set_option maxRecDepth 100000 in
theorem sd_mc81 : Cond.code yX8_seeLower cX8_seeLower 3 (none) ∈ lw_tbl := List.mem_of_getElem? (i := 556) rfl
set_option maxRecDepth 100000 in
theorem sd_mc82 : Cond.code yX8_layWay cX8_layWay 5 (none) ∈ lw_tbl := List.mem_of_getElem? (i := 561) rfl
set_option maxRecDepth 100000 in
theorem sd_mc83 : Cond.code yX9_input cX9_input 1 (some .int) ∈ lw_tbl := List.mem_of_getElem? (i := 438) rfl
set_option maxRecDepth 100000 in
theorem sd_mc84 : Cond.code yX9_gate cX9_gate 6 (some .int) ∈ lw_tbl := List.mem_of_getElem? (i := 453) rfl
set_option maxRecDepth 100000 in
theorem sd_mc85 : Cond.code yX9_register cX9_register 1 (some .int) ∈ lw_tbl := List.mem_of_getElem? (i := 473) rfl
set_option maxRecDepth 100000 in
theorem sd_mc86 : Cond.code yX9_feed cX9_feed 3 (some .boolean) ∈ lw_tbl := List.mem_of_getElem? (i := 481) rfl
set_option maxRecDepth 100000 in
theorem sd_mc87 : Cond.code yX9_output cX9_output 2 (some .int) ∈ lw_tbl := List.mem_of_getElem? (i := 497) rfl
set_option maxRecDepth 100000 in
theorem sd_mc88 : Cond.code yX9_inputs cX9_inputs 3 (some .int) ∈ lw_tbl := List.mem_of_getElem? (i := 509) rfl
set_option maxRecDepth 100000 in
theorem sd_mc89 : Cond.code yX9_map cX9_map 1 (some .int) ∈ lw_tbl := List.mem_of_getElem? (i := 513) rfl
set_option maxRecDepth 100000 in
theorem sd_mc90 : Cond.code yX9_again cX9_again 3 (some .int) ∈ lw_tbl := List.mem_of_getElem? (i := 692) rfl
set_option maxRecDepth 100000 in
theorem sd_mc91 : Cond.code yX9_set cX9_set 3 (some .int) ∈ lw_tbl := List.mem_of_getElem? (i := 721) rfl
set_option maxRecDepth 100000 in
theorem sd_mc92 : Cond.code yX9_clock cX9_clock 2 (some .int) ∈ lw_tbl := List.mem_of_getElem? (i := 736) rfl
set_option maxRecDepth 100000 in
theorem sd_mc93 : Cond.code yX9_node cX9_node 3 (some .int) ∈ lw_tbl := List.mem_of_getElem? (i := 764) rfl
set_option maxRecDepth 100000 in
theorem sd_mc94 : Cond.code yX9_near cX9_near 5 (some .int) ∈ lw_tbl := List.mem_of_getElem? (i := 784) rfl
set_option maxRecDepth 100000 in
theorem sd_mc95 : Cond.code yX9_cone cX9_cone 2 (some .int) ∈ lw_tbl := List.mem_of_getElem? (i := 792) rfl
set_option maxRecDepth 100000 in
theorem sd_mc96 : Cond.code yX9_kept cX9_kept 3 (some .long) ∈ lw_tbl := List.mem_of_getElem? (i := 800) rfl
set_option maxRecDepth 100000 in
theorem sd_mc97 : Cond.code yX9_isCut cX9_isCut 4 (some .boolean) ∈ lw_tbl := List.mem_of_getElem? (i := 805) rfl
set_option maxRecDepth 100000 in
theorem sd_mc98 : Cond.code yX9_depth cX9_depth 1 (some .int) ∈ lw_tbl := List.mem_of_getElem? (i := 814) rfl
set_option maxRecDepth 100000 in
theorem sd_mc99 : Cond.code yX9_chosen cX9_chosen 2 (some .long) ∈ lw_tbl := List.mem_of_getElem? (i := 819) rfl
set_option maxRecDepth 100000 in
theorem sd_mc100 : Cond.code yX9_table cX9_table 3 (some .int) ∈ lw_tbl := List.mem_of_getElem? (i := 823) rfl
set_option maxRecDepth 100000 in
theorem sd_mc101 : Cond.code yX9_holds cX9_holds 2 (some .long) ∈ lw_tbl := List.mem_of_getElem? (i := 966) rfl
set_option maxRecDepth 100000 in
theorem sd_mc102 : Cond.code yX9_mapped cX9_mapped 2 (some .int) ∈ lw_tbl := List.mem_of_getElem? (i := 852) rfl
set_option maxRecDepth 100000 in
theorem sd_mc103 : Cond.code yX9_cell cX9_cell 3 (some .int) ∈ lw_tbl := List.mem_of_getElem? (i := 871) rfl
set_option maxRecDepth 100000 in
theorem sd_mc104 : Cond.code yX9_clusters cX9_clusters 3 (some .int) ∈ lw_tbl := List.mem_of_getElem? (i := 879) rfl
set_option maxRecDepth 100000 in
theorem sd_mc105 : Cond.code yX9_cluster cX9_cluster 4 (some .int) ∈ lw_tbl := List.mem_of_getElem? (i := 910) rfl
set_option maxRecDepth 100000 in
theorem sd_mc106 : Cond.code yX9_cross cX9_cross 3 (some .int) ∈ lw_tbl := List.mem_of_getElem? (i := 914) rfl
set_option maxRecDepth 100000 in
theorem sd_mc107 : Cond.code yX9_is cX9_is 2 (some .int) ∈ lw_tbl := List.mem_of_getElem? (i := 922) rfl
set_option maxRecDepth 100000 in
theorem sd_mc108 : Cond.code yX9_comes cX9_comes 2 (some .int) ∈ lw_tbl := List.mem_of_getElem? (i := 927) rfl
set_option maxRecDepth 100000 in
theorem sd_mc109 : Cond.code yX9_differs cX9_differs 3 (some .int) ∈ lw_tbl := List.mem_of_getElem? (i := 938) rfl
set_option maxRecDepth 100000 in
theorem sd_mc110 : Cond.code yX9_slow cX9_slow 2 (some .int) ∈ lw_tbl := List.mem_of_getElem? (i := 946) rfl
set_option maxRecDepth 100000 in
theorem sd_mc111 : Cond.code yX9_count cX9_count 2 (some .int) ∈ lw_tbl := List.mem_of_getElem? (i := 958) rfl
set_option maxRecDepth 100000 in
theorem sd_mc112 : Cond.code yX9_cutsOfK cX9_cutsOfK 3 (some (.object "TableMapper$Cuts")) ∈ lw_tbl := List.mem_of_getElem? (i := 517) rfl
set_option maxRecDepth 100000 in
theorem sd_mc113 : Cond.code yX9_followCover cX9_followCover 1 (none) ∈ lw_tbl := List.mem_of_getElem? (i := 635) rfl
set_option maxRecDepth 100000 in
theorem sd_mc114 : Cond.code yX9_bit cX9_bit 1 (some .long) ∈ lw_tbl := List.mem_of_getElem? (i := 449) rfl
set_option maxRecDepth 100000 in
theorem sd_mc115 : Cond.code yX9_has cX9_has 3 (some .boolean) ∈ lw_tbl := List.mem_of_getElem? (i := 489) rfl
set_option maxRecDepth 100000 in
theorem sd_mc116 : Cond.code yX9_lowest cX9_lowest 2 (some .int) ∈ lw_tbl := List.mem_of_getElem? (i := 529) rfl
set_option maxRecDepth 100000 in
theorem sd_mc117 : Cond.code yX9_nthOf cX9_nthOf 6 (some .int) ∈ lw_tbl := List.mem_of_getElem? (i := 787) rfl
set_option maxRecDepth 100000 in
theorem sd_mc118 : Cond.code yX10_thrown cX10_thrown 1 (some .int) ∈ lw_tbl := List.mem_of_getElem? (i := 1180) rfl
set_option maxRecDepth 100000 in
theorem sd_mc119 : Cond.code yX10_within cX10_within 3 (some .boolean) ∈ lw_tbl := List.mem_of_getElem? (i := 1199) rfl
set_option maxRecDepth 100000 in
theorem sd_mc120 : Cond.code yX10_has cX10_has 3 (some .boolean) ∈ lw_tbl := List.mem_of_getElem? (i := 1225) rfl
set_option maxRecDepth 100000 in
theorem sd_mc121 : Cond.code yX10_manyOf cX10_manyOf 4 (some .int) ∈ lw_tbl := List.mem_of_getElem? (i := 1228) rfl
set_option maxRecDepth 100000 in
theorem sd_mc122 : Cond.code yX10_lowest cX10_lowest 3 (some .int) ∈ lw_tbl := List.mem_of_getElem? (i := 1300) rfl
set_option maxRecDepth 100000 in
theorem sd_mc123 : Cond.code yX10_sourcesOf cX10_sourcesOf 1 (some .int) ∈ lw_tbl := List.mem_of_getElem? (i := 1206) rfl
set_option maxRecDepth 100000 in
theorem sd_mc124 : Cond.code yX10_isNode cX10_isNode 2 (some .boolean) ∈ lw_tbl := List.mem_of_getElem? (i := 1203) rfl
set_option maxRecDepth 100000 in
theorem sd_mc125 : Cond.code yX10_isGate cX10_isGate 2 (some .boolean) ∈ lw_tbl := List.mem_of_getElem? (i := 1316) rfl
set_option maxRecDepth 100000 in
theorem sd_mc126 : Cond.code yX10_isRegister cX10_isRegister 2 (some .boolean) ∈ lw_tbl := List.mem_of_getElem? (i := 1218) rfl
set_option maxRecDepth 100000 in
theorem sd_mc127 : Cond.code yX10_changes cX10_changes 1 (none) ∈ lw_tbl := List.mem_of_getElem? (i := 1192) rfl
set_option maxRecDepth 100000 in
theorem sd_mc128 : Cond.code yX10_adds cX10_adds 3 (some .int) ∈ lw_tbl := List.mem_of_getElem? (i := 1188) rfl
set_option maxRecDepth 100000 in
theorem sd_mc129 : Cond.code yX10_input cX10_input 1 (some .int) ∈ lw_tbl := List.mem_of_getElem? (i := 1184) rfl
set_option maxRecDepth 100000 in
theorem sd_mc130 : Cond.code yX10_gate cX10_gate 10 (some .int) ∈ lw_tbl := List.mem_of_getElem? (i := 1196) rfl
set_option maxRecDepth 100000 in
theorem sd_mc131 : Cond.code yX10_register cX10_register 2 (some .int) ∈ lw_tbl := List.mem_of_getElem? (i := 1210) rfl
set_option maxRecDepth 100000 in
theorem sd_mc132 : Cond.code yX10_feed cX10_feed 3 (some .boolean) ∈ lw_tbl := List.mem_of_getElem? (i := 1214) rfl
set_option maxRecDepth 100000 in
theorem sd_mc133 : Cond.code yX10_output cX10_output 2 (some .int) ∈ lw_tbl := List.mem_of_getElem? (i := 1222) rfl
set_option maxRecDepth 100000 in
theorem sd_mc134 : Cond.code yX10_inputs cX10_inputs 3 (some .int) ∈ lw_tbl := List.mem_of_getElem? (i := 1232) rfl
set_option maxRecDepth 100000 in
theorem sd_mc135 : Cond.code yX10_fed cX10_fed 4 (some .long) ∈ lw_tbl := List.mem_of_getElem? (i := 1308) rfl
set_option maxRecDepth 100000 in
theorem sd_mc136 : Cond.code yX10_roots cX10_roots 1 (some .long) ∈ lw_tbl := List.mem_of_getElem? (i := 1304) rfl
set_option maxRecDepth 100000 in
theorem sd_mc137 : Cond.code yX10_gates cX10_gates 4 (some .long) ∈ lw_tbl := List.mem_of_getElem? (i := 1356) rfl
set_option maxRecDepth 100000 in
theorem sd_mc138 : Cond.code yX10_comes cX10_comes 3 (none) ∈ lw_tbl := List.mem_of_getElem? (i := 1252) rfl
set_option maxRecDepth 100000 in
theorem sd_mc139 : Cond.code yX10_room cX10_room 3 (some .int) ∈ lw_tbl := List.mem_of_getElem? (i := 1264) rfl
set_option maxRecDepth 100000 in
theorem sd_mc140 : Cond.code yX10_spreadsOut cX10_spreadsOut 4 (none) ∈ lw_tbl := List.mem_of_getElem? (i := 1256) rfl
set_option maxRecDepth 100000 in
theorem sd_mc141 : Cond.code yX10_spreadsIn cX10_spreadsIn 7 (none) ∈ lw_tbl := List.mem_of_getElem? (i := 1260) rfl
set_option maxRecDepth 100000 in
theorem sd_mc142 : Cond.code yX10_spreads cX10_spreads 7 (some .int) ∈ lw_tbl := List.mem_of_getElem? (i := 1248) rfl
set_option maxRecDepth 100000 in
theorem sd_mc143 : Cond.code yX10_slotOf cX10_slotOf 5 (some .int) ∈ lw_tbl := List.mem_of_getElem? (i := 1272) rfl
set_option maxRecDepth 100000 in
theorem sd_mc144 : Cond.code yX10_flows cX10_flows 6 (none) ∈ lw_tbl := List.mem_of_getElem? (i := 1268) rfl
set_option maxRecDepth 100000 in
theorem sd_mc145 : Cond.code yX10_isCutOff cX10_isCutOff 6 (some .boolean) ∈ lw_tbl := List.mem_of_getElem? (i := 1244) rfl
set_option maxRecDepth 100000 in
theorem sd_mc146 : Cond.code yX10_greatestIn cX10_greatestIn 5 (some .int) ∈ lw_tbl := List.mem_of_getElem? (i := 1297) rfl
set_option maxRecDepth 100000 in
theorem sd_mc147 : Cond.code yX10_isAhead cX10_isAhead 7 (some .boolean) ∈ lw_tbl := List.mem_of_getElem? (i := 1293) rfl
set_option maxRecDepth 100000 in
theorem sd_mc148 : Cond.code yX10_makes cX10_makes 5 (none) ∈ lw_tbl := List.mem_of_getElem? (i := 1280) rfl
set_option maxRecDepth 100000 in
theorem sd_mc149 : Cond.code yX10_setOf cX10_setOf 3 (some .long) ∈ lw_tbl := List.mem_of_getElem? (i := 1284) rfl
set_option maxRecDepth 100000 in
theorem sd_mc150 : Cond.code yX10_laysKept cX10_laysKept 11 (none) ∈ lw_tbl := List.mem_of_getElem? (i := 1276) rfl
set_option maxRecDepth 100000 in
theorem sd_mc151 : Cond.code yX10_puts cX10_puts 8 (some .int) ∈ lw_tbl := List.mem_of_getElem? (i := 1289) rfl
set_option maxRecDepth 100000 in
theorem sd_mc152 : Cond.code yX10_lays cX10_lays 3 (none) ∈ lw_tbl := List.mem_of_getElem? (i := 1240) rfl
set_option maxRecDepth 100000 in
theorem sd_mc153 : Cond.code yX10_coneOf cX10_coneOf 9 (some .long) ∈ lw_tbl := List.mem_of_getElem? (i := 1324) rfl
set_option maxRecDepth 100000 in
theorem sd_mc154 : Cond.code yX10_rootDepth cX10_rootDepth 1 (some .int) ∈ lw_tbl := List.mem_of_getElem? (i := 1340) rfl
set_option maxRecDepth 100000 in
theorem sd_mc155 : Cond.code yX10_node cX10_node 3 (some .int) ∈ lw_tbl := List.mem_of_getElem? (i := 1236) rfl
set_option maxRecDepth 100000 in
theorem sd_mc156 : Cond.code yX10_near cX10_near 5 (some .int) ∈ lw_tbl := List.mem_of_getElem? (i := 1312) rfl
set_option maxRecDepth 100000 in
theorem sd_mc157 : Cond.code yX10_cone cX10_cone 2 (some .int) ∈ lw_tbl := List.mem_of_getElem? (i := 1320) rfl
set_option maxRecDepth 100000 in
theorem sd_mc158 : Cond.code yX10_kept cX10_kept 3 (some .long) ∈ lw_tbl := List.mem_of_getElem? (i := 1328) rfl
set_option maxRecDepth 100000 in
theorem sd_mc159 : Cond.code yX10_isCut cX10_isCut 10 (some .boolean) ∈ lw_tbl := List.mem_of_getElem? (i := 1332) rfl
set_option maxRecDepth 100000 in
theorem sd_mc160 : Cond.code yX10_depth cX10_depth 1 (some .int) ∈ lw_tbl := List.mem_of_getElem? (i := 1336) rfl
set_option maxRecDepth 100000 in
theorem sd_mc161 : Cond.code yX10_laysTables cX10_laysTables 2 (none) ∈ lw_tbl := List.mem_of_getElem? (i := 1352) rfl
set_option maxRecDepth 100000 in
theorem sd_mc162 : Cond.code yX10_arrivalBy cX10_arrivalBy 5 (some .int) ∈ lw_tbl := List.mem_of_getElem? (i := 1364) rfl
set_option maxRecDepth 100000 in
theorem sd_mc163 : Cond.code yX10_laysArrival cX10_laysArrival 2 (none) ∈ lw_tbl := List.mem_of_getElem? (i := 1360) rfl
set_option maxRecDepth 100000 in
theorem sd_mc164 : Cond.code yX10_looks cX10_looks 1 (none) ∈ lw_tbl := List.mem_of_getElem? (i := 1348) rfl
set_option maxRecDepth 100000 in
theorem sd_mc165 : Cond.code yX10_map cX10_map 2 (some .int) ∈ lw_tbl := List.mem_of_getElem? (i := 1344) rfl
set_option maxRecDepth 100000 in
theorem sd_mc166 : Cond.code yX10_laysDue cX10_laysDue 6 (none) ∈ lw_tbl := List.mem_of_getElem? (i := 1372) rfl
set_option maxRecDepth 100000 in
theorem sd_mc167 : Cond.code yX10_tablesBy cX10_tablesBy 6 (some .int) ∈ lw_tbl := List.mem_of_getElem? (i := 1380) rfl
set_option maxRecDepth 100000 in
theorem sd_mc168 : Cond.code yX10_choosesAgain cX10_choosesAgain 11 (none) ∈ lw_tbl := List.mem_of_getElem? (i := 1376) rfl
set_option maxRecDepth 100000 in
theorem sd_mc169 : Cond.code yX10_again cX10_again 4 (some .int) ∈ lw_tbl := List.mem_of_getElem? (i := 1368) rfl
set_option maxRecDepth 100000 in
theorem sd_mc170 : Cond.code yX10_chosen cX10_chosen 2 (some .long) ∈ lw_tbl := List.mem_of_getElem? (i := 1384) rfl
set_option maxRecDepth 100000 in
theorem sd_mc171 : Cond.code yX10_gateIs cX10_gateIs 5 (some .boolean) ∈ lw_tbl := List.mem_of_getElem? (i := 1404) rfl
set_option maxRecDepth 100000 in
theorem sd_mc172 : Cond.code yX10_works cX10_works 4 (none) ∈ lw_tbl := List.mem_of_getElem? (i := 1400) rfl
set_option maxRecDepth 100000 in
theorem sd_mc173 : Cond.code yX10_fixes cX10_fixes 6 (none) ∈ lw_tbl := List.mem_of_getElem? (i := 1396) rfl
set_option maxRecDepth 100000 in
theorem sd_mc174 : Cond.code yX10_holdsOf cX10_holdsOf 5 (some .long) ∈ lw_tbl := List.mem_of_getElem? (i := 1392) rfl
set_option maxRecDepth 100000 in
theorem sd_mc175 : Cond.code yX10_holds cX10_holds 2 (some .long) ∈ lw_tbl := List.mem_of_getElem? (i := 1388) rfl
set_option maxRecDepth 100000 in
theorem sd_mc176 : Cond.code yX10_caresOf cX10_caresOf 8 (some .int) ∈ lw_tbl := List.mem_of_getElem? (i := 1463) rfl
set_option maxRecDepth 100000 in
theorem sd_mc177 : Cond.code yX10_has64 cX10_has64 3 (some .boolean) ∈ lw_tbl := List.mem_of_getElem? (i := 1423) rfl
set_option maxRecDepth 100000 in
theorem sd_mc178 : Cond.code yX10_set cX10_set 4 (some .int) ∈ lw_tbl := List.mem_of_getElem? (i := 1408) rfl
set_option maxRecDepth 100000 in
theorem sd_mc179 : Cond.code yX10_clock cX10_clock 5 (some .int) ∈ lw_tbl := List.mem_of_getElem? (i := 1412) rfl
set_option maxRecDepth 100000 in
theorem sd_mc180 : Cond.code yX10_is cX10_is 2 (some .int) ∈ lw_tbl := List.mem_of_getElem? (i := 1416) rfl
set_option maxRecDepth 100000 in
theorem sd_mc181 : Cond.code yX10_comes_ cX10_comes_ 6 (some .int) ∈ lw_tbl := List.mem_of_getElem? (i := 1420) rfl
set_option maxRecDepth 100000 in
theorem sd_mc182 : Cond.code yX10_differs cX10_differs 4 (some .int) ∈ lw_tbl := List.mem_of_getElem? (i := 1427) rfl
set_option maxRecDepth 100000 in
theorem sd_mc183 : Cond.code yX10_isPair cX10_isPair 3 (some .boolean) ∈ lw_tbl := List.mem_of_getElem? (i := 1443) rfl
set_option maxRecDepth 100000 in
theorem sd_mc184 : Cond.code yX10_laysPairs cX10_laysPairs 3 (none) ∈ lw_tbl := List.mem_of_getElem? (i := 1439) rfl
set_option maxRecDepth 100000 in
theorem sd_mc185 : Cond.code yX10_usesOf cX10_usesOf 4 (some .int) ∈ lw_tbl := List.mem_of_getElem? (i := 1455) rfl
set_option maxRecDepth 100000 in
theorem sd_mc186 : Cond.code yX10_isPacked cX10_isPacked 5 (some .boolean) ∈ lw_tbl := List.mem_of_getElem? (i := 1451) rfl
set_option maxRecDepth 100000 in
theorem sd_mc187 : Cond.code yX10_newCell cX10_newCell 4 (none) ∈ lw_tbl := List.mem_of_getElem? (i := 1447) rfl
set_option maxRecDepth 100000 in
theorem sd_mc188 : Cond.code yX10_packs cX10_packs 3 (none) ∈ lw_tbl := List.mem_of_getElem? (i := 1459) rfl
set_option maxRecDepth 100000 in
theorem sd_mc189 : Cond.code yX10_laysCells cX10_laysCells 3 (none) ∈ lw_tbl := List.mem_of_getElem? (i := 1435) rfl
set_option maxRecDepth 100000 in
theorem sd_mc190 : Cond.code yX10_mostPairs cX10_mostPairs 9 (some .int) ∈ lw_tbl := List.mem_of_getElem? (i := 1475) rfl
set_option maxRecDepth 100000 in
theorem sd_mc191 : Cond.code yX10_table cX10_table 3 (some .int) ∈ lw_tbl := List.mem_of_getElem? (i := 1431) rfl
set_option maxRecDepth 100000 in
theorem sd_mc192 : Cond.code yX10_slowest cX10_slowest 3 (some .int) ∈ lw_tbl := List.mem_of_getElem? (i := 1471) rfl
set_option maxRecDepth 100000 in
theorem sd_mc193 : Cond.code yX10_mapped cX10_mapped 2 (some .int) ∈ lw_tbl := List.mem_of_getElem? (i := 1467) rfl
set_option maxRecDepth 100000 in
theorem sd_mc194 : Cond.code yX10_cell cX10_cell 3 (some .int) ∈ lw_tbl := List.mem_of_getElem? (i := 1479) rfl
set_option maxRecDepth 100000 in
theorem sd_mc195 : Cond.code yX10_beginning cX10_beginning 3 (some .int) ∈ lw_tbl := List.mem_of_getElem? (i := 1491) rfl
set_option maxRecDepth 100000 in
theorem sd_mc196 : Cond.code yX10_nextTo cX10_nextTo 8 (some .int) ∈ lw_tbl := List.mem_of_getElem? (i := 1499) rfl
set_option maxRecDepth 100000 in
theorem sd_mc197 : Cond.code yX10_joins cX10_joins 3 (none) ∈ lw_tbl := List.mem_of_getElem? (i := 1495) rfl
set_option maxRecDepth 100000 in
theorem sd_mc198 : Cond.code yX10_laysClusters cX10_laysClusters 5 (some .boolean) ∈ lw_tbl := List.mem_of_getElem? (i := 1487) rfl
set_option maxRecDepth 100000 in
theorem sd_mc199 : Cond.code yX10_clusters cX10_clusters 3 (some .int) ∈ lw_tbl := List.mem_of_getElem? (i := 1483) rfl
set_option maxRecDepth 100000 in
theorem sd_mc200 : Cond.code yX10_cluster cX10_cluster 4 (some .int) ∈ lw_tbl := List.mem_of_getElem? (i := 1503) rfl
set_option maxRecDepth 100000 in
theorem sd_mc201 : Cond.code yX10_cross cX10_cross 7 (some .int) ∈ lw_tbl := List.mem_of_getElem? (i := 1507) rfl
set_option maxRecDepth 100000 in
theorem sd_mc202 : Cond.code yX10_slow cX10_slow 7 (some .int) ∈ lw_tbl := List.mem_of_getElem? (i := 1511) rfl
set_option maxRecDepth 100000 in
theorem sd_mc203 : Cond.code yX10_count cX10_count 4 (some .int) ∈ lw_tbl := List.mem_of_getElem? (i := 1515) rfl
set_option maxRecDepth 100000 in
theorem sd_mc204 : Cond.code yJ13_bitCount_95d88 cJ13_bitCount_95d88 2 (some .int) ∈ lw_tbl := List.mem_of_getElem? (i := 501) rfl
set_option maxRecDepth 100000 in
theorem sd_mtL : sd_mt.length = 205 := rfl
set_option maxRecDepth 100000 in
theorem sd_mc : ∀ (k : Nat) (q : MethodName × ByteArray × Nat × Option FieldType), sd_mt[k]? = some q → Cond.code q.1 q.2.1 q.2.2.1 q.2.2.2 ∈ lw_tbl := by
  intro k q hq
  match k, hq with
  | 0, hq => cases hq; exact sd_mc0
  | 1, hq => cases hq; exact sd_mc1
  | 2, hq => cases hq; exact sd_mc2
  | 3, hq => cases hq; exact sd_mc3
  | 4, hq => cases hq; exact sd_mc4
  | 5, hq => cases hq; exact sd_mc5
  | 6, hq => cases hq; exact sd_mc6
  | 7, hq => cases hq; exact sd_mc7
  | 8, hq => cases hq; exact sd_mc8
  | 9, hq => cases hq; exact sd_mc9
  | 10, hq => cases hq; exact sd_mc10
  | 11, hq => cases hq; exact sd_mc11
  | 12, hq => cases hq; exact sd_mc12
  | 13, hq => cases hq; exact sd_mc13
  | 14, hq => cases hq; exact sd_mc14
  | 15, hq => cases hq; exact sd_mc15
  | 16, hq => cases hq; exact sd_mc16
  | 17, hq => cases hq; exact sd_mc17
  | 18, hq => cases hq; exact sd_mc18
  | 19, hq => cases hq; exact sd_mc19
  | 20, hq => cases hq; exact sd_mc20
  | 21, hq => cases hq; exact sd_mc21
  | 22, hq => cases hq; exact sd_mc22
  | 23, hq => cases hq; exact sd_mc23
  | 24, hq => cases hq; exact sd_mc24
  | 25, hq => cases hq; exact sd_mc25
  | 26, hq => cases hq; exact sd_mc26
  | 27, hq => cases hq; exact sd_mc27
  | 28, hq => cases hq; exact sd_mc28
  | 29, hq => cases hq; exact sd_mc29
  | 30, hq => cases hq; exact sd_mc30
  | 31, hq => cases hq; exact sd_mc31
  | 32, hq => cases hq; exact sd_mc32
  | 33, hq => cases hq; exact sd_mc33
  | 34, hq => cases hq; exact sd_mc34
  | 35, hq => cases hq; exact sd_mc35
  | 36, hq => cases hq; exact sd_mc36
  | 37, hq => cases hq; exact sd_mc37
  | 38, hq => cases hq; exact sd_mc38
  | 39, hq => cases hq; exact sd_mc39
  | 40, hq => cases hq; exact sd_mc40
  | 41, hq => cases hq; exact sd_mc41
  | 42, hq => cases hq; exact sd_mc42
  | 43, hq => cases hq; exact sd_mc43
  | 44, hq => cases hq; exact sd_mc44
  | 45, hq => cases hq; exact sd_mc45
  | 46, hq => cases hq; exact sd_mc46
  | 47, hq => cases hq; exact sd_mc47
  | 48, hq => cases hq; exact sd_mc48
  | 49, hq => cases hq; exact sd_mc49
  | 50, hq => cases hq; exact sd_mc50
  | 51, hq => cases hq; exact sd_mc51
  | 52, hq => cases hq; exact sd_mc52
  | 53, hq => cases hq; exact sd_mc53
  | 54, hq => cases hq; exact sd_mc54
  | 55, hq => cases hq; exact sd_mc55
  | 56, hq => cases hq; exact sd_mc56
  | 57, hq => cases hq; exact sd_mc57
  | 58, hq => cases hq; exact sd_mc58
  | 59, hq => cases hq; exact sd_mc59
  | 60, hq => cases hq; exact sd_mc60
  | 61, hq => cases hq; exact sd_mc61
  | 62, hq => cases hq; exact sd_mc62
  | 63, hq => cases hq; exact sd_mc63
  | 64, hq => cases hq; exact sd_mc64
  | 65, hq => cases hq; exact sd_mc65
  | 66, hq => cases hq; exact sd_mc66
  | 67, hq => cases hq; exact sd_mc67
  | 68, hq => cases hq; exact sd_mc68
  | 69, hq => cases hq; exact sd_mc69
  | 70, hq => cases hq; exact sd_mc70
  | 71, hq => cases hq; exact sd_mc71
  | 72, hq => cases hq; exact sd_mc72
  | 73, hq => cases hq; exact sd_mc73
  | 74, hq => cases hq; exact sd_mc74
  | 75, hq => cases hq; exact sd_mc75
  | 76, hq => cases hq; exact sd_mc76
  | 77, hq => cases hq; exact sd_mc77
  | 78, hq => cases hq; exact sd_mc78
  | 79, hq => cases hq; exact sd_mc79
  | 80, hq => cases hq; exact sd_mc80
  | 81, hq => cases hq; exact sd_mc81
  | 82, hq => cases hq; exact sd_mc82
  | 83, hq => cases hq; exact sd_mc83
  | 84, hq => cases hq; exact sd_mc84
  | 85, hq => cases hq; exact sd_mc85
  | 86, hq => cases hq; exact sd_mc86
  | 87, hq => cases hq; exact sd_mc87
  | 88, hq => cases hq; exact sd_mc88
  | 89, hq => cases hq; exact sd_mc89
  | 90, hq => cases hq; exact sd_mc90
  | 91, hq => cases hq; exact sd_mc91
  | 92, hq => cases hq; exact sd_mc92
  | 93, hq => cases hq; exact sd_mc93
  | 94, hq => cases hq; exact sd_mc94
  | 95, hq => cases hq; exact sd_mc95
  | 96, hq => cases hq; exact sd_mc96
  | 97, hq => cases hq; exact sd_mc97
  | 98, hq => cases hq; exact sd_mc98
  | 99, hq => cases hq; exact sd_mc99
  | 100, hq => cases hq; exact sd_mc100
  | 101, hq => cases hq; exact sd_mc101
  | 102, hq => cases hq; exact sd_mc102
  | 103, hq => cases hq; exact sd_mc103
  | 104, hq => cases hq; exact sd_mc104
  | 105, hq => cases hq; exact sd_mc105
  | 106, hq => cases hq; exact sd_mc106
  | 107, hq => cases hq; exact sd_mc107
  | 108, hq => cases hq; exact sd_mc108
  | 109, hq => cases hq; exact sd_mc109
  | 110, hq => cases hq; exact sd_mc110
  | 111, hq => cases hq; exact sd_mc111
  | 112, hq => cases hq; exact sd_mc112
  | 113, hq => cases hq; exact sd_mc113
  | 114, hq => cases hq; exact sd_mc114
  | 115, hq => cases hq; exact sd_mc115
  | 116, hq => cases hq; exact sd_mc116
  | 117, hq => cases hq; exact sd_mc117
  | 118, hq => cases hq; exact sd_mc118
  | 119, hq => cases hq; exact sd_mc119
  | 120, hq => cases hq; exact sd_mc120
  | 121, hq => cases hq; exact sd_mc121
  | 122, hq => cases hq; exact sd_mc122
  | 123, hq => cases hq; exact sd_mc123
  | 124, hq => cases hq; exact sd_mc124
  | 125, hq => cases hq; exact sd_mc125
  | 126, hq => cases hq; exact sd_mc126
  | 127, hq => cases hq; exact sd_mc127
  | 128, hq => cases hq; exact sd_mc128
  | 129, hq => cases hq; exact sd_mc129
  | 130, hq => cases hq; exact sd_mc130
  | 131, hq => cases hq; exact sd_mc131
  | 132, hq => cases hq; exact sd_mc132
  | 133, hq => cases hq; exact sd_mc133
  | 134, hq => cases hq; exact sd_mc134
  | 135, hq => cases hq; exact sd_mc135
  | 136, hq => cases hq; exact sd_mc136
  | 137, hq => cases hq; exact sd_mc137
  | 138, hq => cases hq; exact sd_mc138
  | 139, hq => cases hq; exact sd_mc139
  | 140, hq => cases hq; exact sd_mc140
  | 141, hq => cases hq; exact sd_mc141
  | 142, hq => cases hq; exact sd_mc142
  | 143, hq => cases hq; exact sd_mc143
  | 144, hq => cases hq; exact sd_mc144
  | 145, hq => cases hq; exact sd_mc145
  | 146, hq => cases hq; exact sd_mc146
  | 147, hq => cases hq; exact sd_mc147
  | 148, hq => cases hq; exact sd_mc148
  | 149, hq => cases hq; exact sd_mc149
  | 150, hq => cases hq; exact sd_mc150
  | 151, hq => cases hq; exact sd_mc151
  | 152, hq => cases hq; exact sd_mc152
  | 153, hq => cases hq; exact sd_mc153
  | 154, hq => cases hq; exact sd_mc154
  | 155, hq => cases hq; exact sd_mc155
  | 156, hq => cases hq; exact sd_mc156
  | 157, hq => cases hq; exact sd_mc157
  | 158, hq => cases hq; exact sd_mc158
  | 159, hq => cases hq; exact sd_mc159
  | 160, hq => cases hq; exact sd_mc160
  | 161, hq => cases hq; exact sd_mc161
  | 162, hq => cases hq; exact sd_mc162
  | 163, hq => cases hq; exact sd_mc163
  | 164, hq => cases hq; exact sd_mc164
  | 165, hq => cases hq; exact sd_mc165
  | 166, hq => cases hq; exact sd_mc166
  | 167, hq => cases hq; exact sd_mc167
  | 168, hq => cases hq; exact sd_mc168
  | 169, hq => cases hq; exact sd_mc169
  | 170, hq => cases hq; exact sd_mc170
  | 171, hq => cases hq; exact sd_mc171
  | 172, hq => cases hq; exact sd_mc172
  | 173, hq => cases hq; exact sd_mc173
  | 174, hq => cases hq; exact sd_mc174
  | 175, hq => cases hq; exact sd_mc175
  | 176, hq => cases hq; exact sd_mc176
  | 177, hq => cases hq; exact sd_mc177
  | 178, hq => cases hq; exact sd_mc178
  | 179, hq => cases hq; exact sd_mc179
  | 180, hq => cases hq; exact sd_mc180
  | 181, hq => cases hq; exact sd_mc181
  | 182, hq => cases hq; exact sd_mc182
  | 183, hq => cases hq; exact sd_mc183
  | 184, hq => cases hq; exact sd_mc184
  | 185, hq => cases hq; exact sd_mc185
  | 186, hq => cases hq; exact sd_mc186
  | 187, hq => cases hq; exact sd_mc187
  | 188, hq => cases hq; exact sd_mc188
  | 189, hq => cases hq; exact sd_mc189
  | 190, hq => cases hq; exact sd_mc190
  | 191, hq => cases hq; exact sd_mc191
  | 192, hq => cases hq; exact sd_mc192
  | 193, hq => cases hq; exact sd_mc193
  | 194, hq => cases hq; exact sd_mc194
  | 195, hq => cases hq; exact sd_mc195
  | 196, hq => cases hq; exact sd_mc196
  | 197, hq => cases hq; exact sd_mc197
  | 198, hq => cases hq; exact sd_mc198
  | 199, hq => cases hq; exact sd_mc199
  | 200, hq => cases hq; exact sd_mc200
  | 201, hq => cases hq; exact sd_mc201
  | 202, hq => cases hq; exact sd_mc202
  | 203, hq => cases hq; exact sd_mc203
  | 204, hq => cases hq; exact sd_mc204
  | k + 205, hq => rw [List.getElem?_eq_none (by rw [sd_mtL]; omega)] at hq; cases hq
def sd_decOK (q : MethodName × ByteArray × Nat × Option FieldType) (m : Nat × Nat × Nat × List (Nat × Instr × Nat)) : Prop := m.2.2.2.all (fun z => decide (decode q.2.1 z.1 = .ok (z.2.1, z.2.2))) = true
set_option maxRecDepth 100000 in
theorem sd_dec : ∀ (k : Nat) (q : MethodName × ByteArray × Nat × Option FieldType) (m : Nat × Nat × Nat × List (Nat × Instr × Nat)), sd_mt[k]? = some q → jm_mt[k]? = some m → sd_decOK q m := by
  intro k q m hq hm
  match k, hq, hm with
  | 0, hq, hm => cases hq; cases hm; exact iX0_isCell_ok
  | 1, hq, hm => cases hq; cases hm; exact iX0_netsOut_ok
  | 2, hq, hm => cases hq; cases hm; exact iX0_fillAnew_ok
  | 3, hq, hm => cases hq; cases hm; exact iX0_mostPairs_ok
  | 4, hq, hm => cases hq; cases hm; exact iX0_findMates_ok
  | 5, hq, hm => cases hq; cases hm; exact iX0_pairTables_ok
  | 6, hq, hm => cases hq; cases hm; exact iX0_layTables_ok
  | 7, hq, hm => cases hq; cases hm; exact iX0_addCell_ok
  | 8, hq, hm => cases hq; cases hm; exact iX0_join_ok
  | 9, hq, hm => cases hq; cases hm; exact iX0_layRegisters_ok
  | 10, hq, hm => cases hq; cases hm; exact iX0_usedByTables_ok
  | 11, hq, hm => cases hq; cases hm; exact iX0_fedToSeveral_ok
  | 12, hq, hm => cases hq; cases hm; exact iX0_mostPairsOf_ok
  | 13, hq, hm => cases hq; cases hm; exact iX0_withMates_ok
  | 14, hq, hm => cases hq; cases hm; exact iX0_withFewestMates_ok
  | 15, hq, hm => cases hq; cases hm; exact iX1_isLimit_ok
  | 16, hq, hm => cases hq; cases hm; exact iX1_forget_ok
  | 17, hq, hm => cases hq; cases hm; exact iX1_fill_ok
  | 18, hq, hm => cases hq; cases hm; exact iX1_countCrossing_ok
  | 19, hq, hm => cases hq; cases hm; exact iX1_take_ok
  | 20, hq, hm => cases hq; cases hm; exact iX1_withMostNetsIn_ok
  | 21, hq, hm => cases hq; cases hm; exact iX1_bestToCome_ok
  | 22, hq, hm => cases hq; cases hm; exact iX2_forget_ok
  | 23, hq, hm => cases hq; cases hm; exact iX2_bitsOf_ok
  | 24, hq, hm => cases hq; cases hm; exact iX2_caresOf_ok
  | 25, hq, hm => cases hq; cases hm; exact iX2_nodesByTables_ok
  | 26, hq, hm => cases hq; cases hm; exact iX2_told_ok
  | 27, hq, hm => cases hq; cases hm; exact iX2_findBits_ok
  | 28, hq, hm => cases hq; cases hm; exact iX3_takeNearCuts_ok
  | 29, hq, hm => cases hq; cases hm; exact iX3_chooseAgain_ok
  | 30, hq, hm => cases hq; cases hm; exact iX3_greatestArrival_ok
  | 31, hq, hm => cases hq; cases hm; exact iX3_usesOf_ok
  | 32, hq, hm => cases hq; cases hm; exact iX3_onSlowWay_ok
  | 33, hq, hm => cases hq; cases hm; exact iX3_latestOf_ok
  | 34, hq, hm => cases hq; cases hm; exact iX3_arrivalBy_ok
  | 35, hq, hm => cases hq; cases hm; exact iX3_withChosen_ok
  | 36, hq, hm => cases hq; cases hm; exact iX3_tablesWith_ok
  | 37, hq, hm => cases hq; cases hm; exact iX3_findDue_ok
  | 38, hq, hm => cases hq; cases hm; exact iX3_bestCut_ok
  | 39, hq, hm => cases hq; cases hm; exact iX4_learn_ok
  | 40, hq, hm => cases hq; cases hm; exact iX4_greatestLevel_ok
  | 41, hq, hm => cases hq; cases hm; exact iX4_keptCut_ok
  | 42, hq, hm => cases hq; cases hm; exact iX4_belowAtLevel_ok
  | 43, hq, hm => cases hq; cases hm; exact iX4_learnKept_ok
  | 44, hq, hm => cases hq; cases hm; exact iX4_takeKept_ok
  | 45, hq, hm => cases hq; cases hm; exact iX4_addWithThird_ok
  | 46, hq, hm => cases hq; cases hm; exact iX4_choices_ok
  | 47, hq, hm => cases hq; cases hm; exact iX4_choice_ok
  | 48, hq, hm => cases hq; cases hm; exact iX4_placeInRow_ok
  | 49, hq, hm => cases hq; cases hm; exact iX5_isKind_ok
  | 50, hq, hm => cases hq; cases hm; exact iX5_sourcesOf_ok
  | 51, hq, hm => cases hq; cases hm; exact iX5_isFull_ok
  | 52, hq, hm => cases hq; cases hm; exact iX5_isNode_ok
  | 53, hq, hm => cases hq; cases hm; exact iX5_isInput_ok
  | 54, hq, hm => cases hq; cases hm; exact iX5_isGate_ok
  | 55, hq, hm => cases hq; cases hm; exact iX5_isRegister_ok
  | 56, hq, hm => cases hq; cases hm; exact iX5_addInput_ok
  | 57, hq, hm => cases hq; cases hm; exact iX5_addRegister_ok
  | 58, hq, hm => cases hq; cases hm; exact iX5_addGate_ok
  | 59, hq, hm => cases hq; cases hm; exact iX5_setFeed_ok
  | 60, hq, hm => cases hq; cases hm; exact iX5_kindOf_ok
  | 61, hq, hm => cases hq; cases hm; exact iX5_feedOf_ok
  | 62, hq, hm => cases hq; cases hm; exact iX5_sourceOf_ok
  | 63, hq, hm => cases hq; cases hm; exact iX5_sourceOrFeed_ok
  | 64, hq, hm => cases hq; cases hm; exact iX5_roots_ok
  | 65, hq, hm => cases hq; cases hm; exact iX5_reached_ok
  | 66, hq, hm => cases hq; cases hm; exact iX5_separates_ok
  | 67, hq, hm => cases hq; cases hm; exact iX5_valueOf_ok
  | 68, hq, hm => cases hq; cases hm; exact iX6_clear_ok
  | 69, hq, hm => cases hq; cases hm; exact iX6_add_ok
  | 70, hq, hm => cases hq; cases hm; exact iX6_takeFirst_ok
  | 71, hq, hm => cases hq; cases hm; exact iX6_dropAllWith_ok
  | 72, hq, hm => cases hq; cases hm; exact iX7_setInput_ok
  | 73, hq, hm => cases hq; cases hm; exact iX7_now_ok
  | 74, hq, hm => cases hq; cases hm; exact iX7_changedBy_ok
  | 75, hq, hm => cases hq; cases hm; exact iX7_run_ok
  | 76, hq, hm => cases hq; cases hm; exact iX7_registersNext_ok
  | 77, hq, hm => cases hq; cases hm; exact iX7_nodesOn_ok
  | 78, hq, hm => cases hq; cases hm; exact iX8_nearestCut_ok
  | 79, hq, hm => cases hq; cases hm; exact iX8_findWay_ok
  | 80, hq, hm => cases hq; cases hm; exact iX8_seeUppers_ok
  | 81, hq, hm => cases hq; cases hm; exact iX8_seeLower_ok
  | 82, hq, hm => cases hq; cases hm; exact iX8_layWay_ok
  | 83, hq, hm => cases hq; cases hm; exact iX9_input_ok
  | 84, hq, hm => cases hq; cases hm; exact iX9_gate_ok
  | 85, hq, hm => cases hq; cases hm; exact iX9_register_ok
  | 86, hq, hm => cases hq; cases hm; exact iX9_feed_ok
  | 87, hq, hm => cases hq; cases hm; exact iX9_output_ok
  | 88, hq, hm => cases hq; cases hm; exact iX9_inputs_ok
  | 89, hq, hm => cases hq; cases hm; exact iX9_map_ok
  | 90, hq, hm => cases hq; cases hm; exact iX9_again_ok
  | 91, hq, hm => cases hq; cases hm; exact iX9_set_ok
  | 92, hq, hm => cases hq; cases hm; exact iX9_clock_ok
  | 93, hq, hm => cases hq; cases hm; exact iX9_node_ok
  | 94, hq, hm => cases hq; cases hm; exact iX9_near_ok
  | 95, hq, hm => cases hq; cases hm; exact iX9_cone_ok
  | 96, hq, hm => cases hq; cases hm; exact iX9_kept_ok
  | 97, hq, hm => cases hq; cases hm; exact iX9_isCut_ok
  | 98, hq, hm => cases hq; cases hm; exact iX9_depth_ok
  | 99, hq, hm => cases hq; cases hm; exact iX9_chosen_ok
  | 100, hq, hm => cases hq; cases hm; exact iX9_table_ok
  | 101, hq, hm => cases hq; cases hm; exact iX9_holds_ok
  | 102, hq, hm => cases hq; cases hm; exact iX9_mapped_ok
  | 103, hq, hm => cases hq; cases hm; exact iX9_cell_ok
  | 104, hq, hm => cases hq; cases hm; exact iX9_clusters_ok
  | 105, hq, hm => cases hq; cases hm; exact iX9_cluster_ok
  | 106, hq, hm => cases hq; cases hm; exact iX9_cross_ok
  | 107, hq, hm => cases hq; cases hm; exact iX9_is_ok
  | 108, hq, hm => cases hq; cases hm; exact iX9_comes_ok
  | 109, hq, hm => cases hq; cases hm; exact iX9_differs_ok
  | 110, hq, hm => cases hq; cases hm; exact iX9_slow_ok
  | 111, hq, hm => cases hq; cases hm; exact iX9_count_ok
  | 112, hq, hm => cases hq; cases hm; exact iX9_cutsOfK_ok
  | 113, hq, hm => cases hq; cases hm; exact iX9_followCover_ok
  | 114, hq, hm => cases hq; cases hm; exact iX9_bit_ok
  | 115, hq, hm => cases hq; cases hm; exact iX9_has_ok
  | 116, hq, hm => cases hq; cases hm; exact iX9_lowest_ok
  | 117, hq, hm => cases hq; cases hm; exact iX9_nthOf_ok
  | 118, hq, hm => cases hq; cases hm; exact iX10_thrown_ok
  | 119, hq, hm => cases hq; cases hm; exact iX10_within_ok
  | 120, hq, hm => cases hq; cases hm; exact iX10_has_ok
  | 121, hq, hm => cases hq; cases hm; exact iX10_manyOf_ok
  | 122, hq, hm => cases hq; cases hm; exact iX10_lowest_ok
  | 123, hq, hm => cases hq; cases hm; exact iX10_sourcesOf_ok
  | 124, hq, hm => cases hq; cases hm; exact iX10_isNode_ok
  | 125, hq, hm => cases hq; cases hm; exact iX10_isGate_ok
  | 126, hq, hm => cases hq; cases hm; exact iX10_isRegister_ok
  | 127, hq, hm => cases hq; cases hm; exact iX10_changes_ok
  | 128, hq, hm => cases hq; cases hm; exact iX10_adds_ok
  | 129, hq, hm => cases hq; cases hm; exact iX10_input_ok
  | 130, hq, hm => cases hq; cases hm; exact iX10_gate_ok
  | 131, hq, hm => cases hq; cases hm; exact iX10_register_ok
  | 132, hq, hm => cases hq; cases hm; exact iX10_feed_ok
  | 133, hq, hm => cases hq; cases hm; exact iX10_output_ok
  | 134, hq, hm => cases hq; cases hm; exact iX10_inputs_ok
  | 135, hq, hm => cases hq; cases hm; exact iX10_fed_ok
  | 136, hq, hm => cases hq; cases hm; exact iX10_roots_ok
  | 137, hq, hm => cases hq; cases hm; exact iX10_gates_ok
  | 138, hq, hm => cases hq; cases hm; exact iX10_comes_ok
  | 139, hq, hm => cases hq; cases hm; exact iX10_room_ok
  | 140, hq, hm => cases hq; cases hm; exact iX10_spreadsOut_ok
  | 141, hq, hm => cases hq; cases hm; exact iX10_spreadsIn_ok
  | 142, hq, hm => cases hq; cases hm; exact iX10_spreads_ok
  | 143, hq, hm => cases hq; cases hm; exact iX10_slotOf_ok
  | 144, hq, hm => cases hq; cases hm; exact iX10_flows_ok
  | 145, hq, hm => cases hq; cases hm; exact iX10_isCutOff_ok
  | 146, hq, hm => cases hq; cases hm; exact iX10_greatestIn_ok
  | 147, hq, hm => cases hq; cases hm; exact iX10_isAhead_ok
  | 148, hq, hm => cases hq; cases hm; exact iX10_makes_ok
  | 149, hq, hm => cases hq; cases hm; exact iX10_setOf_ok
  | 150, hq, hm => cases hq; cases hm; exact iX10_laysKept_ok
  | 151, hq, hm => cases hq; cases hm; exact iX10_puts_ok
  | 152, hq, hm => cases hq; cases hm; exact iX10_lays_ok
  | 153, hq, hm => cases hq; cases hm; exact iX10_coneOf_ok
  | 154, hq, hm => cases hq; cases hm; exact iX10_rootDepth_ok
  | 155, hq, hm => cases hq; cases hm; exact iX10_node_ok
  | 156, hq, hm => cases hq; cases hm; exact iX10_near_ok
  | 157, hq, hm => cases hq; cases hm; exact iX10_cone_ok
  | 158, hq, hm => cases hq; cases hm; exact iX10_kept_ok
  | 159, hq, hm => cases hq; cases hm; exact iX10_isCut_ok
  | 160, hq, hm => cases hq; cases hm; exact iX10_depth_ok
  | 161, hq, hm => cases hq; cases hm; exact iX10_laysTables_ok
  | 162, hq, hm => cases hq; cases hm; exact iX10_arrivalBy_ok
  | 163, hq, hm => cases hq; cases hm; exact iX10_laysArrival_ok
  | 164, hq, hm => cases hq; cases hm; exact iX10_looks_ok
  | 165, hq, hm => cases hq; cases hm; exact iX10_map_ok
  | 166, hq, hm => cases hq; cases hm; exact iX10_laysDue_ok
  | 167, hq, hm => cases hq; cases hm; exact iX10_tablesBy_ok
  | 168, hq, hm => cases hq; cases hm; exact iX10_choosesAgain_ok
  | 169, hq, hm => cases hq; cases hm; exact iX10_again_ok
  | 170, hq, hm => cases hq; cases hm; exact iX10_chosen_ok
  | 171, hq, hm => cases hq; cases hm; exact iX10_gateIs_ok
  | 172, hq, hm => cases hq; cases hm; exact iX10_works_ok
  | 173, hq, hm => cases hq; cases hm; exact iX10_fixes_ok
  | 174, hq, hm => cases hq; cases hm; exact iX10_holdsOf_ok
  | 175, hq, hm => cases hq; cases hm; exact iX10_holds_ok
  | 176, hq, hm => cases hq; cases hm; exact iX10_caresOf_ok
  | 177, hq, hm => cases hq; cases hm; exact iX10_has64_ok
  | 178, hq, hm => cases hq; cases hm; exact iX10_set_ok
  | 179, hq, hm => cases hq; cases hm; exact iX10_clock_ok
  | 180, hq, hm => cases hq; cases hm; exact iX10_is_ok
  | 181, hq, hm => cases hq; cases hm; exact iX10_comes__ok
  | 182, hq, hm => cases hq; cases hm; exact iX10_differs_ok
  | 183, hq, hm => cases hq; cases hm; exact iX10_isPair_ok
  | 184, hq, hm => cases hq; cases hm; exact iX10_laysPairs_ok
  | 185, hq, hm => cases hq; cases hm; exact iX10_usesOf_ok
  | 186, hq, hm => cases hq; cases hm; exact iX10_isPacked_ok
  | 187, hq, hm => cases hq; cases hm; exact iX10_newCell_ok
  | 188, hq, hm => cases hq; cases hm; exact iX10_packs_ok
  | 189, hq, hm => cases hq; cases hm; exact iX10_laysCells_ok
  | 190, hq, hm => cases hq; cases hm; exact iX10_mostPairs_ok
  | 191, hq, hm => cases hq; cases hm; exact iX10_table_ok
  | 192, hq, hm => cases hq; cases hm; exact iX10_slowest_ok
  | 193, hq, hm => cases hq; cases hm; exact iX10_mapped_ok
  | 194, hq, hm => cases hq; cases hm; exact iX10_cell_ok
  | 195, hq, hm => cases hq; cases hm; exact iX10_beginning_ok
  | 196, hq, hm => cases hq; cases hm; exact iX10_nextTo_ok
  | 197, hq, hm => cases hq; cases hm; exact iX10_joins_ok
  | 198, hq, hm => cases hq; cases hm; exact iX10_laysClusters_ok
  | 199, hq, hm => cases hq; cases hm; exact iX10_clusters_ok
  | 200, hq, hm => cases hq; cases hm; exact iX10_cluster_ok
  | 201, hq, hm => cases hq; cases hm; exact iX10_cross_ok
  | 202, hq, hm => cases hq; cases hm; exact iX10_slow_ok
  | 203, hq, hm => cases hq; cases hm; exact iX10_count_ok
  | 204, hq, hm => cases hq; cases hm; exact iJ13_bitCount_95d88_ok
  | k + 205, hq, hm => rw [List.getElem?_eq_none (by rw [sd_mtL]; omega)] at hq; cases hq
def sd_mlP : List (Bool × Nat) := [(true, 439), (true, 443), (true, 454), (true, 459), (true, 462), (true, 466), (true, 474), (true, 482), (true, 490), (true, 498), (true, 499), (true, 505), (true, 514), (true, 608), (true, 632), (true, 693), (true, 722), (true, 726), (true, 737), (true, 765), (true, 769), (true, 773), (true, 780), (true, 785), (true, 793), (true, 801), (true, 806), (true, 815), (true, 824), (true, 828), (true, 1033), (true, 853), (true, 854), (true, 872), (true, 880), (true, 883), (true, 915), (true, 923), (true, 928), (true, 939), (true, 947), (true, 518), (true, 636), (true, 640), (true, 685), (true, 788), (true, 644), (true, 652), (true, 657), (true, 669), (true, 650), (true, 858), (false, 0), (false, 1), (false, 2), (true, 661), (true, 665), (true, 673), (true, 677), (true, 681), (true, 861), (true, 864), (false, 3), (true, 888), (true, 894), (true, 903), (true, 898), (true, 893), (false, 4), (false, 5), (true, 837), (false, 6), (true, 832), (true, 847), (true, 932), (false, 7), (true, 844), (true, 845), (false, 8), (true, 613), (true, 622), (true, 627), (true, 697), (true, 698), (true, 699), (false, 9), (true, 706), (true, 710), (true, 951), (true, 617), (true, 714), (false, 10), (true, 523), (false, 11), (true, 534), (true, 538), (true, 562), (false, 12), (true, 566), (true, 570), (true, 574), (true, 578), (true, 586), (true, 590), (true, 595), (true, 599), (true, 594), (true, 582), (true, 486), (false, 13), (false, 14), (true, 777), (true, 778), (true, 779), (false, 15), (true, 810), (true, 603), (false, 16), (false, 17), (true, 749), (true, 741), (true, 760), (true, 745), (false, 18), (true, 759), (true, 753), (false, 19), (true, 544), (true, 558), (true, 548), (false, 20), (true, 553), (false, 21), (true, 963), (true, 435), (true, 1181), (true, 450), (true, 1193), (true, 470), (true, 1207), (true, 478), (true, 1211), (true, 494), (true, 1219), (true, 506), (true, 1229), (true, 510), (true, 1341), (true, 689), (true, 1365), (true, 718), (true, 1405), (true, 733), (true, 1409), (true, 761), (true, 1233), (true, 781), (true, 1309), (true, 789), (true, 1317), (true, 797), (true, 1325), (true, 802), (true, 1329), (true, 811), (true, 1333), (true, 816), (true, 1381), (true, 820), (true, 1428), (true, 1385), (true, 1177), (true, 849), (true, 1464), (true, 868), (true, 1476), (true, 876), (true, 1480), (true, 907), (true, 1500), (true, 911), (true, 1504), (true, 919), (true, 1413), (true, 924), (true, 1417), (true, 935), (true, 1424), (true, 943), (true, 1508), (true, 955), (true, 1512), (true, 1223), (true, 1200), (true, 1189), (true, 1185), (true, 1197), (true, 1204), (true, 1215), (true, 1226), (true, 1305), (true, 1249), (true, 1261), (true, 1253), (true, 1257), (true, 1269), (true, 1245), (true, 1265), (true, 1294), (true, 1298), (true, 1277), (true, 1281), (true, 1286), (true, 1290), (true, 1241), (true, 1273), (true, 1301), (true, 1237), (true, 1313), (true, 1321), (true, 1337), (true, 1353), (true, 1361), (true, 1349), (true, 1357), (true, 1345), (true, 1377), (true, 1369), (true, 1373), (true, 1401), (true, 1393), (true, 1397), (true, 1389), (true, 1421), (true, 1440), (true, 1452), (true, 1436), (true, 1444), (true, 1448), (true, 1456), (true, 1432), (true, 1460), (true, 1468), (true, 1472), (true, 1488), (true, 1492), (true, 1496), (true, 1484)]
def sd_hosts : List String := ["TableMapper", "TableMapper", "TableMapper", "TableMapper", "TableMapper", "TableMapper", "TableMapper", "TableMapper", "TableMapper", "TableMapper", "TableMapper", "TableMapper", "TableMapper", "TableMapper", "TableMapper", "TableMapper", "TableMapper", "TableMapper", "TableMapper", "TableMapper", "TableMapper", "TableMapper"]
def sd_mlQ (q : Nat × Nat × (Nat × Nat × Nat)) (z : Bool × Nat) : Bool := match sd_mt[q.2.2.1]? with
  | some m => if z.1 then decide (lw_tbl[z.2]? = some (.methodLink (sd_own q.1) q.2.1 m.1)) else decide (sd_nest[z.2]? = some (.methodLinkNest (sd_own q.1) q.2.1 m.1 (sd_hosts.getD z.2 "")))
  | none => false
def sd_mlX : List ((Nat × Nat × (Nat × Nat × Nat)) × (Bool × Nat)) := [((9, 80, (51, 1, 6)), (true, 439)), ((9, 84, (56, 1, 6)), (true, 443)), ((9, 88, (49, 1, 0)), (true, 454)), ((9, 92, (50, 1, 0)), (true, 459)), ((9, 96, (52, 2, 6)), (true, 462)), ((9, 99, (58, 5, 6)), (true, 466)), ((9, 103, (57, 1, 6)), (true, 474)), ((9, 106, (55, 2, 6)), (true, 482)), ((9, 109, (59, 3, 6)), (true, 490)), ((9, 117, (115, 2, 0)), (true, 498)), ((9, 121, (204, 1, 0)), (true, 499)), ((9, 127, (114, 1, 0)), (true, 505)), ((9, 131, (112, 1, 10)), (true, 514)), ((9, 135, (28, 2, 4)), (true, 608)), ((9, 139, (113, 1, 10)), (true, 632)), ((9, 145, (29, 3, 4)), (true, 693)), ((9, 149, (53, 2, 6)), (true, 722)), ((9, 152, (72, 3, 8)), (true, 726)), ((9, 156, (75, 2, 8)), (true, 737)), ((9, 159, (54, 2, 6)), (true, 765)), ((9, 162, (60, 2, 6)), (true, 769)), ((9, 165, (63, 3, 6)), (true, 773)), ((9, 173, (64, 1, 6)), (true, 780)), ((9, 184, (117, 2, 0)), (true, 785)), ((9, 188, (65, 3, 6)), (true, 793)), ((9, 192, (41, 3, 5)), (true, 801)), ((9, 196, (66, 3, 6)), (true, 806)), ((9, 200, (40, 2, 5)), (true, 815)), ((9, 209, (31, 2, 4)), (true, 824)), ((9, 218, (24, 2, 3)), (true, 828)), ((9, 228, (23, 2, 3)), (true, 1033)), ((9, 231, (30, 2, 4)), (true, 853)), ((9, 237, (3, 1, 1)), (true, 854)), ((9, 246, (0, 2, 1)), (true, 872)), ((9, 258, (15, 2, 0)), (true, 880)), ((9, 262, (17, 3, 2)), (true, 883)), ((9, 269, (18, 1, 2)), (true, 915)), ((9, 272, (73, 1, 8)), (true, 923)), ((9, 278, (25, 3, 3)), (true, 928)), ((9, 282, (74, 2, 8)), (true, 939)), ((9, 285, (32, 2, 4)), (true, 947)), ((9, 301, (39, 2, 5)), (true, 518)), ((9, 305, (22, 1, 3)), (true, 636)), ((9, 308, (2, 2, 1)), (true, 640)), ((9, 311, (16, 1, 2)), (true, 685)), ((9, 312, (116, 1, 0)), (true, 788)), ((0, 43, (4, 2, 1)), (true, 644)), ((0, 47, (5, 1, 1)), (true, 652)), ((0, 50, (6, 1, 1)), (true, 657)), ((0, 53, (9, 1, 1)), (true, 669)), ((0, 62, (204, 1, 0)), (true, 650)), ((0, 68, (12, 3, 0)), (true, 858)), ((0, 75, (116, 1, 0)), (false, 0)), ((0, 81, (115, 2, 0)), (false, 1)), ((0, 85, (114, 1, 0)), (false, 2)), ((0, 94, (7, 4, 1)), (true, 661)), ((0, 98, (8, 3, 1)), (true, 665)), ((0, 108, (10, 1, 1)), (true, 673)), ((0, 112, (11, 1, 1)), (true, 677)), ((0, 118, (61, 2, 6)), (true, 681)), ((0, 122, (13, 2, 0)), (true, 861)), ((0, 126, (14, 2, 0)), (true, 864)), ((1, 31, (114, 1, 0)), (false, 3)), ((1, 46, (20, 1, 2)), (true, 888)), ((1, 50, (19, 2, 2)), (true, 894)), ((1, 54, (21, 2, 2)), (true, 903)), ((1, 58, (1, 2, 1)), (true, 898)), ((1, 63, (204, 1, 0)), (true, 893)), ((1, 71, (116, 1, 0)), (false, 4)), ((2, 30, (115, 2, 0)), (false, 5)), ((2, 34, (27, 2, 3)), (true, 837)), ((2, 38, (114, 1, 0)), (false, 6)), ((2, 41, (23, 2, 3)), (true, 832)), ((2, 49, (204, 1, 0)), (true, 847)), ((2, 65, (26, 2, 0)), (true, 932)), ((2, 69, (116, 1, 0)), (false, 7)), ((2, 72, (65, 3, 6)), (true, 844)), ((2, 76, (67, 3, 6)), (true, 845)), ((3, 32, (116, 1, 0)), (false, 8)), ((3, 41, (34, 2, 4)), (true, 613)), ((3, 44, (64, 1, 6)), (true, 622)), ((3, 52, (35, 4, 4)), (true, 627)), ((3, 59, (204, 1, 0)), (true, 697)), ((3, 64, (40, 2, 5)), (true, 698)), ((3, 67, (37, 3, 4)), (true, 699)), ((3, 71, (115, 2, 0)), (false, 9)), ((3, 75, (38, 4, 4)), (true, 706)), ((3, 79, (36, 4, 4)), (true, 710)), ((3, 89, (33, 2, 4)), (true, 951)), ((3, 92, (30, 2, 4)), (true, 617)), ((3, 98, (41, 3, 5)), (true, 714)), ((4, 50, (115, 2, 0)), (false, 10)), ((4, 57, (40, 2, 5)), (true, 523)), ((4, 61, (114, 1, 0)), (false, 11)), ((4, 65, (42, 3, 5)), (true, 534)), ((4, 69, (78, 3, 9)), (true, 538)), ((4, 75, (43, 2, 5)), (true, 562)), ((4, 79, (116, 1, 0)), (false, 12)), ((4, 91, (68, 1, 7)), (true, 566)), ((4, 96, (48, 2, 5)), (true, 570)), ((4, 100, (69, 3, 7)), (true, 574)), ((4, 104, (46, 3, 5)), (true, 578)), ((4, 107, (47, 4, 5)), (true, 586)), ((4, 111, (45, 3, 5)), (true, 590)), ((4, 115, (44, 2, 5)), (true, 595)), ((4, 118, (70, 1, 7)), (true, 599)), ((4, 122, (204, 1, 0)), (true, 594)), ((4, 127, (62, 3, 6)), (true, 582)), ((5, 35, (52, 2, 6)), (true, 486)), ((5, 43, (115, 2, 0)), (false, 13)), ((5, 53, (114, 1, 0)), (false, 14)), ((5, 57, (54, 2, 6)), (true, 777)), ((5, 60, (62, 3, 6)), (true, 778)), ((5, 64, (55, 2, 6)), (true, 779)), ((5, 70, (116, 1, 0)), (false, 15)), ((5, 76, (65, 3, 6)), (true, 810)), ((6, 22, (71, 2, 7)), (true, 603)), ((7, 23, (115, 2, 0)), (false, 16)), ((7, 27, (114, 1, 0)), (false, 17)), ((7, 33, (77, 2, 8)), (true, 749)), ((7, 42, (76, 1, 8)), (true, 741)), ((7, 46, (204, 1, 0)), (true, 760)), ((7, 52, (73, 1, 8)), (true, 745)), ((7, 58, (116, 1, 0)), (false, 18)), ((7, 61, (61, 2, 6)), (true, 759)), ((7, 72, (67, 3, 6)), (true, 753)), ((8, 31, (116, 1, 0)), (false, 19)), ((8, 41, (79, 2, 9)), (true, 544)), ((8, 50, (82, 2, 9)), (true, 558)), ((8, 58, (80, 3, 9)), (true, 548)), ((8, 62, (115, 2, 0)), (false, 20)), ((8, 66, (81, 3, 9)), (true, 553)), ((8, 73, (114, 1, 0)), (false, 21)), ((11, 7, (101, 2, 10)), (true, 963)), ((11, 19, (83, 1, 10)), (true, 435)), ((11, 23, (129, 1, 11)), (true, 1181)), ((11, 24, (84, 5, 10)), (true, 450)), ((11, 28, (130, 5, 11)), (true, 1193)), ((11, 29, (85, 1, 10)), (true, 470)), ((11, 32, (131, 1, 11)), (true, 1207)), ((11, 33, (86, 3, 10)), (true, 478)), ((11, 37, (132, 3, 11)), (true, 1211)), ((11, 38, (87, 2, 10)), (true, 494)), ((11, 42, (133, 2, 11)), (true, 1219)), ((11, 43, (88, 2, 10)), (true, 506)), ((11, 46, (134, 2, 11)), (true, 1229)), ((11, 47, (89, 1, 10)), (true, 510)), ((11, 50, (165, 1, 11)), (true, 1341)), ((11, 51, (90, 2, 10)), (true, 689)), ((11, 54, (169, 2, 11)), (true, 1365)), ((11, 55, (91, 3, 10)), (true, 718)), ((11, 59, (178, 3, 11)), (true, 1405)), ((11, 60, (92, 2, 10)), (true, 733)), ((11, 63, (179, 2, 11)), (true, 1409)), ((11, 64, (93, 3, 10)), (true, 761)), ((11, 68, (155, 3, 11)), (true, 1233)), ((11, 69, (94, 3, 10)), (true, 781)), ((11, 72, (156, 3, 11)), (true, 1309)), ((11, 73, (95, 2, 10)), (true, 789)), ((11, 76, (157, 2, 11)), (true, 1317)), ((11, 77, (96, 3, 10)), (true, 797)), ((11, 81, (158, 3, 11)), (true, 1325)), ((11, 84, (97, 3, 10)), (true, 802)), ((11, 88, (159, 3, 11)), (true, 1329)), ((11, 89, (98, 1, 10)), (true, 811)), ((11, 92, (160, 1, 11)), (true, 1333)), ((11, 93, (99, 2, 10)), (true, 816)), ((11, 96, (170, 2, 11)), (true, 1381)), ((11, 97, (100, 3, 10)), (true, 820)), ((11, 100, (191, 3, 11)), (true, 1428)), ((11, 106, (175, 2, 11)), (true, 1385)), ((11, 107, (118, 1, 11)), (true, 1177)), ((11, 110, (102, 2, 10)), (true, 849)), ((11, 113, (193, 2, 11)), (true, 1464)), ((11, 114, (103, 3, 10)), (true, 868)), ((11, 117, (194, 3, 11)), (true, 1476)), ((11, 118, (104, 3, 10)), (true, 876)), ((11, 121, (199, 3, 11)), (true, 1480)), ((11, 122, (105, 4, 10)), (true, 907)), ((11, 126, (200, 4, 11)), (true, 1500)), ((11, 127, (106, 3, 10)), (true, 911)), ((11, 130, (201, 3, 11)), (true, 1504)), ((11, 131, (107, 2, 10)), (true, 919)), ((11, 134, (180, 2, 11)), (true, 1413)), ((11, 135, (108, 2, 10)), (true, 924)), ((11, 138, (181, 2, 11)), (true, 1417)), ((11, 139, (109, 3, 10)), (true, 935)), ((11, 142, (182, 3, 11)), (true, 1424)), ((11, 143, (110, 2, 10)), (true, 943)), ((11, 146, (202, 2, 11)), (true, 1508)), ((11, 147, (111, 2, 10)), (true, 955)), ((11, 150, (203, 2, 11)), (true, 1512)), ((10, 115, (120, 2, 0)), (true, 1223)), ((10, 122, (124, 2, 11)), (true, 1200)), ((10, 133, (127, 1, 11)), (true, 1189)), ((10, 136, (128, 2, 11)), (true, 1185)), ((10, 140, (119, 3, 0)), (true, 1197)), ((10, 144, (123, 1, 0)), (true, 1204)), ((10, 147, (126, 2, 11)), (true, 1215)), ((10, 154, (121, 1, 0)), (true, 1226)), ((10, 158, (135, 1, 11)), (true, 1305)), ((10, 165, (138, 3, 11)), (true, 1249)), ((10, 169, (139, 3, 11)), (true, 1261)), ((10, 173, (140, 2, 11)), (true, 1253)), ((10, 177, (141, 4, 11)), (true, 1257)), ((10, 181, (143, 4, 11)), (true, 1269)), ((10, 185, (142, 3, 11)), (true, 1245)), ((10, 188, (144, 2, 11)), (true, 1265)), ((10, 191, (146, 2, 11)), (true, 1294)), ((10, 194, (122, 1, 0)), (true, 1298)), ((10, 200, (148, 2, 11)), (true, 1277)), ((10, 204, (149, 3, 11)), (true, 1281)), ((10, 210, (151, 4, 11)), (true, 1286)), ((10, 214, (147, 3, 11)), (true, 1290)), ((10, 218, (145, 3, 11)), (true, 1241)), ((10, 222, (150, 2, 11)), (true, 1273)), ((10, 225, (136, 1, 11)), (true, 1301)), ((10, 228, (152, 1, 11)), (true, 1237)), ((10, 231, (125, 2, 11)), (true, 1313)), ((10, 234, (153, 3, 11)), (true, 1321)), ((10, 238, (154, 1, 11)), (true, 1337)), ((10, 242, (137, 1, 11)), (true, 1353)), ((10, 248, (162, 2, 11)), (true, 1361)), ((10, 251, (161, 1, 11)), (true, 1349)), ((10, 254, (163, 1, 11)), (true, 1357)), ((10, 257, (164, 1, 11)), (true, 1345)), ((10, 260, (167, 3, 11)), (true, 1377)), ((10, 264, (166, 2, 11)), (true, 1369)), ((10, 267, (168, 2, 11)), (true, 1373)), ((10, 270, (171, 2, 11)), (true, 1401)), ((10, 273, (173, 3, 11)), (true, 1393)), ((10, 277, (172, 2, 11)), (true, 1397)), ((10, 280, (174, 2, 11)), (true, 1389)), ((10, 284, (177, 2, 0)), (true, 1421)), ((10, 290, (183, 3, 11)), (true, 1440)), ((10, 293, (185, 2, 11)), (true, 1452)), ((10, 302, (184, 1, 11)), (true, 1436)), ((10, 305, (187, 4, 11)), (true, 1444)), ((10, 309, (186, 2, 11)), (true, 1448)), ((10, 312, (188, 2, 11)), (true, 1456)), ((10, 315, (189, 1, 11)), (true, 1432)), ((10, 318, (176, 2, 11)), (true, 1460)), ((10, 321, (192, 1, 11)), (true, 1468)), ((10, 324, (190, 1, 11)), (true, 1472)), ((10, 330, (195, 1, 11)), (true, 1488)), ((10, 333, (197, 2, 11)), (true, 1492)), ((10, 336, (196, 2, 11)), (true, 1496)), ((10, 339, (198, 3, 11)), (true, 1484))]
theorem sd_mlX1 : sd_mlX.map Prod.fst = jm_ml := by decide +kernel
set_option maxRecDepth 100000 in
theorem sd_ml1 : sd_mlX.all (fun q => sd_mlQ q.1 q.2) = true := by decide +kernel
theorem sd_ml1L : jm_ml.length = sd_mlP.length := by decide +kernel
def sd_stat : List Bool := [false, false, false, false, false, false, false, false, false, false, false, false, true, true, true, true, false, false, false, false, false, false, false, false, false, false, true, false, false, false, false, false, false, false, false, false, false, false, false, false, false, false, false, false, false, false, false, false, false, true, true, false, false, false, false, false, false, false, false, false, false, false, false, false, false, false, false, false, false, false, false, false, false, false, false, false, false, false, false, false, false, false, false, false, false, false, false, false, false, false, false, false, false, false, false, false, false, false, false, false, false, false, false, false, false, false, false, false, false, false, false, false, false, false, true, true, true, true, false, true, true, true, true, true, false, false, false, false, false, false, false, false, false, false, false, false, false, false, false, false, false, false, false, false, false, false, false, false, false, false, false, false, false, false, false, false, false, false, false, false, false, false, false, false, false, false, false, false, false, false, false, false, false, false, false, false, false, true, false, false, false, false, false, false, false, false, false, false, false, false, false, false, false, false, false, false, false, false, false, false, false, false, false, false, true]
def sd_mw (k : Nat) (m : MethodName × ByteArray × Nat × Option FieldType) : List Cond := match sd_stat.getD k true with
  | true => [.initialized m.1.cls, .static m.1]
  | false => [.initialized m.1.cls, .instanceMethod m.1, .selects m.1.cls m.1 m.1]
def sd_mwP : List (List Nat) := [[94, 873, 874], [94, 899, 900], [94, 641, 642], [94, 855, 856], [94, 646, 16], [94, 654, 17], [94, 659, 18], [94, 663, 19], [94, 667, 20], [94, 671, 21], [94, 675, 22], [94, 679, 23], [94, 859], [94, 862], [94, 865], [95, 881], [95, 686, 687], [95, 884, 885], [95, 916, 917], [95, 896, 31], [95, 890, 30], [95, 905, 32], [93, 637, 638], [93, 833, 834], [93, 829, 830], [93, 929, 930], [93, 933], [93, 839, 29], [92, 609, 610], [92, 694, 695], [92, 618, 619], [92, 825, 826], [92, 948, 949], [92, 953, 33], [92, 615, 13], [92, 629, 14], [92, 712, 26], [92, 701, 24], [92, 708, 25], [91, 519, 520], [91, 524, 525], [91, 715, 716], [91, 536, 1], [91, 564, 6], [91, 597, 11], [91, 592, 10], [91, 580, 8], [91, 588, 9], [91, 572, 7], [87, 455], [87, 460], [87, 440, 441], [87, 463, 464], [87, 723, 724], [87, 766, 767], [87, 483, 484], [87, 444, 445], [87, 475, 476], [87, 467, 468], [87, 491, 492], [87, 770, 771], [87, 682, 683], [87, 583, 584], [87, 774, 775], [87, 623, 624], [87, 794, 795], [87, 807, 808], [87, 754, 755], [90, 567, 568], [90, 575, 576], [90, 600, 601], [90, 605, 12], [88, 727, 728], [88, 746, 747], [88, 940, 941], [88, 738, 739], [88, 743, 27], [88, 751, 28], [89, 539, 540], [89, 546, 2], [89, 550, 3], [89, 555, 4], [89, 560, 5], [86, 436, 437], [86, 451, 452], [86, 471, 472], [86, 479, 480], [86, 495, 496], [86, 507, 508], [86, 511, 512], [86, 690, 691], [86, 719, 720], [86, 734, 735], [86, 762, 763], [86, 782, 783], [86, 790, 791], [86, 798, 799], [86, 803, 804], [86, 812, 813], [86, 817, 818], [86, 821, 822], [86, 964, 965], [86, 850, 851], [86, 869, 870], [86, 877, 878], [86, 908, 909], [86, 912, 913], [86, 920, 921], [86, 925, 926], [86, 936, 937], [86, 944, 945], [86, 956, 957], [86, 516, 0], [86, 634, 15], [86, 448], [86, 488], [86, 528], [86, 786], [96, 1178, 1179], [96, 1198], [96, 1224], [96, 1227], [96, 1299], [96, 1205], [96, 1202, 37], [96, 1315, 56], [96, 1217, 38], [96, 1191, 36], [96, 1187, 35], [96, 1182, 1183], [96, 1194, 1195], [96, 1208, 1209], [96, 1212, 1213], [96, 1220, 1221], [96, 1230, 1231], [96, 1307, 55], [96, 1303, 54], [96, 1355, 61], [96, 1251, 42], [96, 1263, 45], [96, 1255, 43], [96, 1259, 44], [96, 1247, 41], [96, 1271, 47], [96, 1267, 46], [96, 1243, 40], [96, 1296, 53], [96, 1292, 52], [96, 1279, 49], [96, 1283, 50], [96, 1275, 48], [96, 1288, 51], [96, 1239, 39], [96, 1323, 57], [96, 1339, 58], [96, 1234, 1235], [96, 1310, 1311], [96, 1318, 1319], [96, 1326, 1327], [96, 1330, 1331], [96, 1334, 1335], [96, 1351, 60], [96, 1363, 63], [96, 1359, 62], [96, 1347, 59], [96, 1342, 1343], [96, 1371, 64], [96, 1379, 66], [96, 1375, 65], [96, 1366, 1367], [96, 1382, 1383], [96, 1403, 70], [96, 1399, 69], [96, 1395, 68], [96, 1391, 67], [96, 1386, 1387], [96, 1462, 78], [96, 1422], [96, 1406, 1407], [96, 1410, 1411], [96, 1414, 1415], [96, 1418, 1419], [96, 1425, 1426], [96, 1442, 73], [96, 1438, 72], [96, 1454, 76], [96, 1450, 75], [96, 1446, 74], [96, 1458, 77], [96, 1434, 71], [96, 1474, 80], [96, 1429, 1430], [96, 1470, 79], [96, 1465, 1466], [96, 1477, 1478], [96, 1490, 82], [96, 1498, 84], [96, 1494, 83], [96, 1486, 81], [96, 1481, 1482], [96, 1501, 1502], [96, 1505, 1506], [96, 1509, 1510], [96, 1513, 1514], [97, 500]]
set_option maxRecDepth 100000 in
theorem sd_mw1 : (sd_mt.zipIdx.zip sd_mwP).all (fun q => decide ((sd_mw q.1.2 q.1.1).map some = q.2.map (fun i => lw_tbl[i]?)) && (sd_mw q.1.2 q.1.1).all goodWord) = true := by decide +kernel
theorem sd_mwL : sd_mt.length = sd_mwP.length ∧ sd_mt.length = jm_mt.length ∧ sd_mt.length = sd_stat.length := by decide +kernel
def sd_mkQ (q : (MethodName × ByteArray × Nat × Option FieldType) × (Nat × Nat × Nat × List (Nat × Instr × Nat))) : Bool := decide (q.1.2.2.1 = q.2.2.2.1) && decide (q.1.1.cls = sd_own q.2.1) && plainName q.1.1.cls && decide (q.1.1.cls ≠ "java/lang/invoke/MethodHandle") && decide (q.1.1.cls ≠ "java/lang/invoke/VarHandle") && (match q.2.2.1 with | 0 => decide (q.1.2.2.2 = none) | 1 => decide (q.1.2.2.2 = some .int) | 2 => decide (q.1.2.2.2 = some .long) | 3 => decide (q.1.2.2.2 = some .boolean) | 4 => (match q.1.2.2.2 with | some (.object _) => true | _ => false) | _ => false) && decide (q.1.2.2.1 ≤ 60)
set_option maxRecDepth 100000 in
theorem sd_mk1 : (sd_mt.zip jm_mt).all sd_mkQ = true := by decide +kernel
def sd_caC (cx : Nat) (cl : String) : Bool := match cx with
  | 0 => false
  | c + 1 => match vwCl[c]? with
    | some r => decide (r.1 = cl)
    | none => false
def sd_caQ (q : Nat × Nat × (Nat × Nat × Nat)) : Bool := match sd_mt[q.2.2.1]? with
  | some m => match sd_stat.getD q.2.2.1 true with
    | true => decide (q.2.2.2.2 = 0) && decide ((parseMethodDescriptor m.1.desc).map (fun d => d.parameters.length) = some q.2.2.2.1)
    | false => decide (0 < q.2.2.2.1) && decide ((parseMethodDescriptor m.1.desc).map (fun d => d.parameters.length) = some (q.2.2.2.1 - 1)) && sd_caC q.2.2.2.2 m.1.cls
  | none => false
set_option maxRecDepth 100000 in
theorem sd_ca1 : jm_ml.all sd_caQ = true := by decide +kernel
def sd_kty (w : Nat) : FieldType := match w with | 0 => .int | 1 => .long | 2 => .boolean | _ => .int
def sd_shQ (h : jm_H) : Bool := match h.2 with
  | .inl (ci, fs) => match vwCl[ci]? with
    | some r => decide (fs.length = r.2.2) && (List.range r.2.2).all (fun k => match jm_nth fs k with | some (.inl w) => decide (w < 5) && (decide (w = 4) || !(r.2.1 k).2.2.2) && decide (parseFieldDescriptor (r.2.1 k).2.2.1 = some (sd_kty w)) | _ => true)
    | none => false
  | .inr (_, w) => decide (w < 4)
set_option maxRecDepth 100000 in
theorem sd_sh1 : jm_sh.all sd_shQ = true := by decide +kernel
def sd_rfQ (q : Nat × Nat) : Bool := match jm_nth jm_sh q.1 with
  | some (c, .inl (_, fs)) => decide (q.2 < c) && fs.all (fun f => match f with | .inr (t, b) => sd_cells.contains (t, jm_pick b q.2) | _ => true)
  | some (c, _) => decide (q.2 < c)
  | none => false
set_option maxRecDepth 100000 in
theorem sd_rf1 : sd_cells.all sd_rfQ = true := by decide +kernel
theorem sd_17 : ∀ j, j < 4 → (17, j) ∈ sd_cells := by decide +kernel
end
section
/-! THE WORLD: the store of the abstract machine as cells of the heap -/
abbrev sd_Y : Type := ClassId × ClassId × ClassId × ClassId
def sd_tys (Y : sd_Y) : List (ClassId × FieldType) := [(Y.1, .int), (Y.2.1, .long), (Y.2.2.1, .boolean), (Y.2.2.2, .object "TableMapper$Cuts")]
def sd_c (ad : Nat → Nat → Nat) (v : jm_V) : Value := match v with
  | .inl x => .int x
  | .inr (.inl x) => .long x
  | .inr (.inr q) => .ref (ad q.1 q.2)
def sd_fs (ad : Nat → Nat → Nat) (σ : jm_G) (t i : Nat) : List jm_F → Nat → List Value
  | [], _ => []
  | f :: r, k => sd_c ad (jm_val σ t i k f) :: sd_fs ad σ t i r (k + 1)
def sd_ar (ad : Nat → Nat → Nat) (Y : sd_Y) (σ : jm_G) (t i n w : Nat) : va_E := match w with
  | 0 => .inl (Y.1, n, .inl (σ.1 t i))
  | 1 => .inl (Y.2.1, n, .inr (.inl (σ.2 t i)))
  | 2 => .inl (Y.2.2.1, n, .inl (σ.1 t i))
  | _ => .inl (Y.2.2.2, n, .inr (.inr (.inr (.inr fun j => some (ad 17 j)))))
def sd_en (ad : Nat → Nat → Nat) (Y : sd_Y) (σ : jm_G) (t i : Nat) : va_E := match jm_nth jm_sh t with
  | some (_, .inl (ci, fs)) => .inr (ci, sd_fs ad σ t i fs 0)
  | some (_, .inr (n, w)) => sd_ar ad Y σ t i n w
  | none => .inr (0, [])
def sd_ws (ad : Nat → Nat → Nat) (Y : sd_Y) (σ : jm_G) : va_W := sd_cells.map fun q => (ad q.1 q.2, sd_en ad Y σ q.1 q.2)
def sd_A (ad : Nat → Nat → Nat) : Nat → Prop := fun a => ∃ q ∈ sd_cells, a = ad q.1 q.2
def sd_ok (v : jm_V) : Prop := match v with
  | .inr (.inr q) => q ∈ sd_cells ∨ (q.2 = 0 ∧ (q.1 = 100 ∨ q.1 = 101 ∨ q.1 = 102))
  | _ => True
def sd_ro (σ ρ : jm_G) : Prop := σ.1 100 0 = ρ.1 100 0 ∧ σ.2 101 0 = ρ.2 101 0 ∧ σ.1 102 0 = ρ.1 102 0
def sd_st (L : Nat) (D : va_G) (Y : sd_Y) (ad : Nat → Nat → Nat) (ρ : jm_G) (U : State) (H : Heap) : Prop :=
  va_K D vwCl (sd_tys Y) U ∧ (∀ w ∈ sd_nest, va_Nw w U) ∧ (∀ p ∈ sd_cells, ∀ q ∈ sd_cells, ad p.1 p.2 = ad q.1 q.2 → p = q) ∧
  va_Z "TableMapper$Network" "SOURCES" "[I" (.ref (ad 100 0)) (sd_A ad) U H ∧ va_Z "TableMapper$Contents" "PLACES" "[J" (.ref (ad 101 0)) (sd_A ad) U H ∧
  va_T .int (ad 100 0) 7 (fun j => .int (ρ.1 100 0 j)) (sd_A ad) U H ∧ va_T .long (ad 101 0) 6 (fun j => .long (ρ.2 101 0 j)) (sd_A ad) U H ∧ va_T .int (ad 102 0) L (fun j => .int (ρ.1 102 0 j)) (sd_A ad) U H
theorem jm_nth_eq {α : Type} : ∀ (l : List α) (k : Nat), jm_nth l k = l[k]?
  | [], _ => by simp [jm_nth]
  | _ :: _, 0 => by simp [jm_nth]
  | _ :: r, k + 1 => by simp [jm_nth, jm_nth_eq r k]
theorem jm_key_in {α : Type} : ∀ {l : List (Nat × Nat × α)} {a b : Nat} {v : α}, jm_key l a b = some v → (a, b, v) ∈ l
  | [], _, _, _, h => by simp [jm_key] at h
  | q :: r, a, b, v, h => by
    unfold jm_key at h
    split at h
    · rename_i h1
      split at h
      · rename_i h2
        obtain ⟨x, y, z⟩ := q
        cases h
        have e1 : x = a := Nat.eq_of_beq_eq_true h1
        have e2 : y = b := Nat.eq_of_beq_eq_true h2
        subst e1; subst e2
        exact List.mem_cons_self
      · exact List.mem_cons_of_mem _ (jm_key_in h)
    · exact List.mem_cons_of_mem _ (jm_key_in h)
theorem sd_fs_get (ad : Nat → Nat → Nat) (σ : jm_G) (t i : Nat) : ∀ (fs : List jm_F) (k j : Nat), (sd_fs ad σ t i fs k)[j]? = (jm_nth fs j).map fun f => sd_c ad (jm_val σ t i (k + j) f)
  | [], _, _ => by simp [sd_fs, jm_nth]
  | _ :: _, _, 0 => by simp [sd_fs, jm_nth]
  | _ :: r, k, j + 1 => by
    simp only [sd_fs, jm_nth, List.getElem?_cons_succ]
    rw [sd_fs_get ad σ t i r (k + 1) j, show k + 1 + j = k + (j + 1) by omega]
theorem sd_fs_len (ad : Nat → Nat → Nat) (σ : jm_G) (t i : Nat) : ∀ (fs : List jm_F) (k : Nat), (sd_fs ad σ t i fs k).length = fs.length
  | [], _ => rfl
  | _ :: r, k => by simp [sd_fs, sd_fs_len ad σ t i r (k + 1)]
theorem jm_val_congr {σ τ : jm_G} {t i : Nat} (h1 : σ.1 t i = τ.1 t i) (h2 : σ.2 t i = τ.2 t i) (k : Nat) (f : jm_F) : jm_val σ t i k f = jm_val τ t i k f := by
  unfold jm_val
  split
  · split
    · rw [h2]
    · rw [h1]
  · rfl
theorem sd_fs_congr {ad : Nat → Nat → Nat} {σ τ : jm_G} {t i : Nat} (h1 : σ.1 t i = τ.1 t i) (h2 : σ.2 t i = τ.2 t i) : ∀ (fs : List jm_F) (k : Nat), sd_fs ad σ t i fs k = sd_fs ad τ t i fs k
  | [], _ => rfl
  | f :: r, k => by simp only [sd_fs, jm_val_congr h1 h2, sd_fs_congr h1 h2 r (k + 1)]
theorem sd_en_congr {ad : Nat → Nat → Nat} {Y : sd_Y} {σ τ : jm_G} {t i : Nat} (h1 : σ.1 t i = τ.1 t i) (h2 : σ.2 t i = τ.2 t i) : sd_en ad Y σ t i = sd_en ad Y τ t i := by
  unfold sd_en
  split
  · rw [sd_fs_congr h1 h2]
  · unfold sd_ar
    split <;> simp only [h1, h2]
  · rfl
theorem sd_get {t i : Nat} (h : (t, i) ∈ sd_cells) (ad : Nat → Nat → Nat) (Y : sd_Y) (σ : jm_G) : ∃ k : Nat, sd_cells[k]? = some (t, i) ∧ (sd_ws ad Y σ)[k]? = some (ad t i, sd_en ad Y σ t i) := by
  obtain ⟨k, hk⟩ := List.getElem?_of_mem h
  exact ⟨k, hk, by simp [sd_ws, hk]⟩
theorem sd_set {ad : Nat → Nat → Nat} {Y : sd_Y} {σ τ : jm_G} {t i k : Nat} (hk : sd_cells[k]? = some (t, i)) (h : ∀ a b : Nat, ¬ (a = t ∧ b = i) → σ.1 a b = τ.1 a b ∧ σ.2 a b = τ.2 a b) :
    (sd_ws ad Y σ).set k (ad t i, sd_en ad Y τ t i) = sd_ws ad Y τ := by
  apply List.ext_getElem?
  intro j
  by_cases hj : j = k
  · subst hj
    have hlt : j < (sd_ws ad Y σ).length := by
      simp only [sd_ws, List.length_map]
      exact (List.getElem?_eq_some_iff.mp hk).1
    rw [List.getElem?_set_self hlt]
    simp [sd_ws, hk]
  · rw [List.getElem?_set_ne (Ne.symm hj)]
    simp only [sd_ws, List.getElem?_map]
    cases hq : sd_cells[j]? with
    | none => rfl
    | some q =>
      obtain ⟨a, b⟩ := q
      have hne : ¬ (a = t ∧ b = i) := by
        rintro ⟨rfl, rfl⟩
        obtain ⟨lj, gj⟩ := List.getElem?_eq_some_iff.mp hq
        obtain ⟨lk, gk⟩ := List.getElem?_eq_some_iff.mp hk
        exact hj ((List.getElem?_inj lj sd_nodup).mp (hq.trans hk.symm))
      obtain ⟨e1, e2⟩ := h a b hne
      simp only [Option.map_some]
      rw [sd_en_congr e1 e2]
theorem sd_inD {ad : Nat → Nat → Nat} {Y : sd_Y} {σ : jm_G} (h : ∀ p ∈ sd_cells, ∀ q ∈ sd_cells, ad p.1 p.2 = ad q.1 q.2 → p = q) : va_D (sd_A ad) (sd_ws ad Y σ) := by
  refine ⟨?_, ?_⟩
  · intro i j p q hp hq he
    simp only [sd_ws, List.getElem?_map] at hp hq
    cases ha : sd_cells[i]? with
    | none => rw [ha] at hp; cases hp
    | some a =>
      cases hb : sd_cells[j]? with
      | none => rw [hb] at hq; cases hq
      | some b =>
        rw [ha] at hp; rw [hb] at hq
        cases hp; cases hq
        have e := h a (List.mem_of_getElem? ha) b (List.mem_of_getElem? hb) he
        obtain ⟨lj, gj⟩ := List.getElem?_eq_some_iff.mp ha
        obtain ⟨lk, gk⟩ := List.getElem?_eq_some_iff.mp hb
        exact (List.getElem?_inj lj sd_nodup).mp (ha.trans (by rw [e]; exact hb.symm))
  · intro k q hq
    simp only [sd_ws, List.getElem?_map] at hq
    cases ha : sd_cells[k]? with
    | none => rw [ha] at hq; cases hq
    | some a =>
      rw [ha] at hq
      cases hq
      exact ⟨a, List.mem_of_getElem? ha, rfl⟩
theorem wI_off {σ : jm_G} {t i : Nat} {f : Nat → Int32} : ∀ a b : Nat, ¬ (a = t ∧ b = i) → σ.1 a b = (wI σ t i f).1 a b ∧ σ.2 a b = (wI σ t i f).2 a b := fun a b h => ⟨by simp [wI, h], rfl⟩
theorem wJ_off {σ : jm_G} {t i : Nat} {f : Nat → Int64} : ∀ a b : Nat, ¬ (a = t ∧ b = i) → σ.1 a b = (wJ σ t i f).1 a b ∧ σ.2 a b = (wJ σ t i f).2 a b := fun a b h => ⟨rfl, by simp [wJ, h]⟩
theorem wI_at (σ : jm_G) (t i : Nat) (f : Nat → Int32) : (wI σ t i f).1 t i = f := by simp [wI]
theorem wJ_at (σ : jm_G) (t i : Nat) (f : Nat → Int64) : (wJ σ t i f).2 t i = f := by simp [wJ]
theorem sd_fsI {ad : Nat → Nat → Nat} {σ : jm_G} {t i k : Nat} {fs : List jm_F} {w : Nat} {x : Int32} (hf : jm_nth fs k = some (.inl w)) (hw : Nat.beq w 1 = false) : (sd_fs ad σ t i fs 0).set k (.int x) = sd_fs ad (wI σ t i (upd (σ.1 t i) k x)) t i fs 0 := by
  apply List.ext_getElem?
  intro j
  have hlt : k < fs.length := by
    rw [jm_nth_eq] at hf
    exact (List.getElem?_eq_some_iff.mp hf).1
  by_cases hj : j = k
  · subst hj
    rw [List.getElem?_set_self (by rw [sd_fs_len]; exact hlt), sd_fs_get, hf]
    simp [jm_val, hw, sd_c, wI_at, upd]
  · rw [List.getElem?_set_ne (Ne.symm hj), sd_fs_get, sd_fs_get]
    cases hq : jm_nth fs j with
    | none => rfl
    | some f =>
      simp only [Option.map_some]
      have : jm_val σ t i (0 + j) f = jm_val (wI σ t i (upd (σ.1 t i) k x)) t i (0 + j) f := by
        unfold jm_val
        split
        · split
          · rfl
          · rw [wI_at]
            have : upd (σ.1 t i) k x (0 + j) = σ.1 t i (0 + j) := pk_un (by omega)
            rw [this]
        · rfl
      rw [this]
theorem sd_fsJ {ad : Nat → Nat → Nat} {σ : jm_G} {t i k : Nat} {fs : List jm_F} {w : Nat} {x : Int64} (hf : jm_nth fs k = some (.inl w)) (hw : Nat.beq w 1 = true) : (sd_fs ad σ t i fs 0).set k (.long x) = sd_fs ad (wJ σ t i (vp_updL (σ.2 t i) k x)) t i fs 0 := by
  apply List.ext_getElem?
  intro j
  have hlt : k < fs.length := by
    rw [jm_nth_eq] at hf
    exact (List.getElem?_eq_some_iff.mp hf).1
  by_cases hj : j = k
  · subst hj
    rw [List.getElem?_set_self (by rw [sd_fs_len]; exact hlt), sd_fs_get, hf]
    simp [jm_val, hw, sd_c, wJ_at, vp_updL]
  · rw [List.getElem?_set_ne (Ne.symm hj), sd_fs_get, sd_fs_get]
    cases hq : jm_nth fs j with
    | none => rfl
    | some f =>
      simp only [Option.map_some]
      have : jm_val σ t i (0 + j) f = jm_val (wJ σ t i (vp_updL (σ.2 t i) k x)) t i (0 + j) f := by
        unfold jm_val
        split
        · split
          · rw [wJ_at]
            have : vp_updL (σ.2 t i) k x (0 + j) = σ.2 t i (0 + j) := pk_uLn (by omega)
            rw [this]
          · rfl
        · rfl
      rw [this]
end
section
/-! SOUNDNESS: a step of the abstract machine is steps of the machine -/
theorem jm_int_eq (n : Int) : Int32.ofInt n = jm_int n := by
  cases n with
  | ofNat k => rfl
  | negSucc k =>
    show Int32.ofInt (Int.negSucc k) = -(Int32.ofNat (k + 1))
    rw [Int.negSucc_eq, Int32.ofInt_neg]
    rfl
theorem jm_int8 {n : Int} (h : jm_small n 128 = true) : (Int8.ofInt n).toInt32 = jm_int n := by
  rw [← jm_int_eq]
  have h1 : -128 ≤ n ∧ n ≤ 127 := by
    cases n with
    | ofNat k => simp [jm_small] at h; simp; omega
    | negSucc k => simp [jm_small] at h; omega
  apply Int32.toInt_inj.mp
  rw [Int8.toInt_toInt32, Int8.toInt_ofInt_of_le (by simpa using h1.1) (by simp; omega), Int32.toInt_ofInt_of_le (by simp; omega) (by simp; omega)]
theorem jm_int16 {n : Int} (h : jm_small n 32768 = true) : (Int16.ofInt n).toInt32 = jm_int n := by
  rw [← jm_int_eq]
  have h1 : -32768 ≤ n ∧ n ≤ 32767 := by
    cases n with
    | ofNat k => simp [jm_small] at h; simp; omega
    | negSucc k => simp [jm_small] at h; omega
  apply Int32.toInt_inj.mp
  rw [Int16.toInt_toInt32, Int16.toInt_ofInt_of_le (by simpa using h1.1) (by simp; omega), Int32.toInt_ofInt_of_le (by simp; omega) (by simp; omega)]
theorem jm_tgt_ok {pc : Nat} {o : Int} (h : 0 ≤ (pc : Int) + o) : (pc : Int) + o = (jm_tgt pc o : Int) := by
  unfold jm_tgt
  cases hq : (pc : Int) + o with
  | ofNat k => rfl
  | negSucc k => rw [hq] at h; exact absurd h (by omega)
/-- lengths of instructions, and targets that aren't negative -/
def jm_lenQ (z : Nat × Instr × Nat) : Bool := match z.2.1 with
  | .aload_n _ | .iload_n _ | .lload_n _ | .astore_n _ | .istore_n _ | .lstore_n _ | .iconst _ | .lconst _ | .iadd | .isub | .imul | .iand | .ior | .ixor | .ishl | .ishr | .idiv | .irem | .ladd | .lsub | .land | .lor | .lxor | .lcmp | .lneg | .lshl | .lshr | .lushr | .i2l | .l2i | .dup | .dup2 | .dup_x1 | .iaload | .baload | .laload | .aaload | .iastore | .bastore | .lastore | .arraylength | .ireturn | .lreturn | .areturn | .return_ => Nat.beq z.2.2 1
  | .aload _ | .iload _ | .lload _ | .astore _ | .istore _ | .lstore _ | .bipush _ => Nat.beq z.2.2 2
  | .sipush _ | .ldc2_w _ | .iinc _ _ | .getfield _ | .putfield _ | .getstatic _ | .invokevirtual _ | .invokestatic _ => Nat.beq z.2.2 3
  | .goto o | .ifCond _ o | .if_icmp _ o => Nat.beq z.2.2 3 && decide (0 ≤ (z.1 : Int) + o)
  | .tableswitch d lo hi os => decide (0 ≤ (z.1 : Int) + d) && decide (hi - lo + 1 = (os.size : Int)) && os.toList.all (fun o => decide (0 ≤ (z.1 : Int) + o))
  | _ => true
theorem jm_look_in : ∀ {cd : List (Nat × Instr × Nat)} {pc : Nat} {q : Instr × Nat}, jm_look cd pc = some q → (pc, q) ∈ cd
  | [], _, _, h => by simp [jm_look] at h
  | z :: r, pc, q, h => by
    unfold jm_look at h
    split at h
    · rename_i h1
      obtain ⟨a, b⟩ := z
      cases h
      have e1 : a = pc := Nat.eq_of_beq_eq_true h1
      subst e1
      exact List.mem_cons_self
    · exact List.mem_cons_of_mem _ (jm_look_in h)
/-! locals -/
theorem jm_set_len : ∀ (lv : jm_L) (i : Nat) (x : Option jm_V), (jm_set lv i x).length = lv.length
  | [], _, _ => rfl
  | _ :: _, 0, _ => rfl
  | _ :: r, i + 1, x => by simp [jm_set, jm_set_len r i x]
theorem jm_kill_len : ∀ (lv : jm_L) (i : Nat), (jm_kill lv i).length = lv.length
  | [], _ => rfl
  | _ :: _, 0 => rfl
  | _ :: _, 1 => rfl
  | _ :: r, i + 2 => by simp [jm_kill, jm_kill_len r (i + 1)]
theorem jm_at_set : ∀ (lv : jm_L) (i : Nat) (x : Option jm_V) (j : Nat) {u : jm_V}, jm_at (jm_set lv i x) j = some u → (j = i ∧ x = some u) ∨ (j ≠ i ∧ jm_at lv j = some u)
  | [], _, _, _, _, h => by simp [jm_set, jm_at] at h
  | _ :: _, 0, _, 0, _, h => Or.inl ⟨rfl, h⟩
  | _ :: _, 0, _, j + 1, _, h => Or.inr ⟨by omega, h⟩
  | _ :: _, i + 1, _, 0, _, h => Or.inr ⟨by omega, h⟩
  | _ :: r, i + 1, x, j + 1, u, h => by
    rcases jm_at_set r i x j (u := u) h with ⟨e, h1⟩ | ⟨e, h1⟩
    · exact Or.inl ⟨by omega, h1⟩
    · exact Or.inr ⟨by omega, h1⟩
theorem jm_at_kill : ∀ (lv : jm_L) (i j : Nat) {u : jm_V}, jm_at (jm_kill lv i) j = some u → jm_at lv j = some u ∧ ¬ (j + 1 = i ∧ ∃ x, u = jJ x)
  | [], _, _, _, h => by simp [jm_kill, jm_at] at h
  | _ :: _, 0, j, _, h => ⟨h, by omega⟩
  | v :: _, 1, 0, u, h => by
    rcases v with _ | (x | x | q)
    · exact absurd h (by simp [jm_kill, jm_at])
    · have h' : some (jI x) = some u := h
      cases h'
      exact ⟨rfl, fun q => by obtain ⟨-, y, e⟩ := q; cases e⟩
    · exact absurd h (by simp [jm_kill, jm_at])
    · have h' : some (Sum.inr (Sum.inr q) : jm_V) = some u := h
      cases h'
      exact ⟨rfl, fun q => by obtain ⟨-, y, e⟩ := q; cases e⟩
  | _ :: _, 1, j + 1, _, h => ⟨h, by omega⟩
  | _ :: _, i + 2, 0, _, h => ⟨h, by omega⟩
  | _ :: r, i + 2, j + 1, u, h => by
    obtain ⟨h1, h2⟩ := jm_at_kill r (i + 1) j (u := u) h
    exact ⟨h1, fun q => h2 ⟨by omega, q.2⟩⟩
theorem jm_at_put1 {lv : jm_L} {i j : Nat} {v u : jm_V} (h : jm_at (jm_put1 lv i v) j = some u) : (j = i ∧ u = v) ∨ (j ≠ i ∧ jm_at lv j = some u ∧ ¬ (j + 1 = i ∧ ∃ x, u = jJ x)) := by
  rcases jm_at_set _ _ _ _ h with ⟨e, h1⟩ | ⟨e, h1⟩
  · exact Or.inl ⟨e, (Option.some.inj h1).symm⟩
  · exact Or.inr ⟨e, jm_at_kill _ _ _ h1⟩
theorem jm_at_put2 {lv : jm_L} {i j : Nat} {v u : jm_V} (h : jm_at (jm_put2 lv i v) j = some u) : (j = i ∧ u = v) ∨ (j ≠ i ∧ j ≠ i + 1 ∧ jm_at lv j = some u ∧ ¬ (j + 1 = i ∧ ∃ x, u = jJ x)) := by
  rcases jm_at_set _ _ _ _ h with ⟨e, h1⟩ | ⟨e, h1⟩
  · cases h1
  · rcases jm_at_put1 (v := v) h1 with h2 | ⟨e2, h2, h3⟩
    · exact Or.inl h2
    · exact Or.inr ⟨e2, e, h2, h3⟩
theorem jm_put1_len (lv : jm_L) (i : Nat) (v : jm_V) : (jm_put1 lv i v).length = lv.length := by simp [jm_put1, jm_set_len, jm_kill_len]
theorem jm_put2_len (lv : jm_L) (i : Nat) (v : jm_V) : (jm_put2 lv i v).length = lv.length := by simp [jm_put2, jm_set_len, jm_kill_len]
def sd_ll (ad : Nat → Nat → Nat) : jm_L → Nat → List (Nat × Value)
  | [], _ => []
  | none :: r, k => sd_ll ad r (k + 1)
  | some v :: r, k => (k, sd_c ad v) :: sd_ll ad r (k + 1)
theorem sd_ll_in {ad : Nat → Nat → Nat} : ∀ (lv : jm_L) (k : Nat) (j : Nat) (x : Value), (j, x) ∈ sd_ll ad lv k ↔ ∃ n v, j = k + n ∧ jm_at lv n = some v ∧ x = sd_c ad v
  | [], k, j, x => by simp [sd_ll, jm_at]
  | none :: r, k, j, x => by
    rw [sd_ll, sd_ll_in r (k + 1) j x]
    constructor
    · rintro ⟨n, v, e, h, h2⟩
      exact ⟨n + 1, v, by omega, h, h2⟩
    · rintro ⟨n, v, e, h, h2⟩
      cases n with
      | zero => exact absurd h (by simp [jm_at])
      | succ n => exact ⟨n, v, by omega, h, h2⟩
  | some w :: r, k, j, x => by
    rw [sd_ll, List.mem_cons, sd_ll_in r (k + 1) j x]
    constructor
    · rintro (e | ⟨n, v, e, h, h2⟩)
      · cases e
        exact ⟨0, w, rfl, rfl, rfl⟩
      · exact ⟨n + 1, v, by omega, h, h2⟩
    · rintro ⟨n, v, e, h, h2⟩
      cases n with
      | zero =>
        have h' : some w = some v := h
        cases h'
        exact Or.inl (by rw [h2, e]; rfl)
      | succ n => exact Or.inr ⟨n, v, by omega, h, h2⟩
theorem sd_at {ad : Nat → Nat → Nat} {ls : Array Slot} {nL : Nat} {lv : jm_L} (h : lv_has ls nL (sd_ll ad lv 0)) {i : Nat} {v : jm_V} (hv : jm_at lv i = some v) : ls[i]? = some (.val (sd_c ad v)) :=
  h.2.2 (i, sd_c ad v) ((sd_ll_in lv 0 i _).mpr ⟨i, v, by omega, hv, rfl⟩)
theorem sd_catg (ad : Nat → Nat → Nat) (v : jm_V) : ((sd_c ad v).category = 2 ↔ ∃ x, v = jJ x) := by
  rcases v with x | x | q
  · simp [sd_c, Value.category]
  · simp [sd_c, Value.category]
  · simp [sd_c, Value.category]
theorem sd_put1 {ad : Nat → Nat → Nat} {ls : Array Slot} {nL i : Nat} {lv : jm_L} {v : jm_V} (h : lv_has ls nL ((i, sd_c ad v) :: (sd_ll ad lv 0).filter (fun q => !(q.1 == i) && !(q.1 + 1 == i && q.2.category == 2)))) : lv_has ls nL (sd_ll ad (jm_put1 lv i v) 0) := by
  refine ⟨h.1, h.2.1, fun q hq => h.2.2 q ?_⟩
  obtain ⟨j, x⟩ := q
  obtain ⟨n, u, e, h1, h2⟩ := (sd_ll_in _ _ _ _).mp hq
  have e : j = n := by omega
  subst e; subst h2
  rcases jm_at_put1 h1 with ⟨rfl, rfl⟩ | ⟨e1, h3, h4⟩
  · exact List.mem_cons_self
  · refine List.mem_cons_of_mem _ (List.mem_filter.mpr ⟨(sd_ll_in _ _ _ _).mpr ⟨j, u, by omega, h3, rfl⟩, ?_⟩)
    have h5 : ¬ (j + 1 = i ∧ (sd_c ad u).category = 2) := fun q => h4 ⟨q.1, (sd_catg ad u).mp q.2⟩
    simp only [Bool.and_eq_true, Bool.not_eq_true', beq_eq_false_iff_ne, ne_eq, Bool.and_eq_false_iff]
    refine ⟨e1, ?_⟩
    rcases Nat.decEq (j + 1) i with q | q
    · exact Or.inl q
    · exact Or.inr fun z => h5 ⟨q, z⟩
theorem sd_put2 {ad : Nat → Nat → Nat} {ls : Array Slot} {nL i : Nat} {lv : jm_L} {v : jm_V} (h : lv_has ls nL ((i, sd_c ad v) :: (sd_ll ad lv 0).filter (fun q => !(q.1 == i) && (!(q.1 == i + 1) && !(q.1 + 1 == i && q.2.category == 2))))) : lv_has ls nL (sd_ll ad (jm_put2 lv i v) 0) := by
  refine ⟨h.1, h.2.1, fun q hq => h.2.2 q ?_⟩
  obtain ⟨j, x⟩ := q
  obtain ⟨n, u, e, h1, h2⟩ := (sd_ll_in _ _ _ _).mp hq
  have e : j = n := by omega
  subst e; subst h2
  rcases jm_at_put2 h1 with ⟨rfl, rfl⟩ | ⟨e1, e2, h3, h4⟩
  · exact List.mem_cons_self
  · refine List.mem_cons_of_mem _ (List.mem_filter.mpr ⟨(sd_ll_in _ _ _ _).mpr ⟨j, u, by omega, h3, rfl⟩, ?_⟩)
    have h5 : ¬ (j + 1 = i ∧ (sd_c ad u).category = 2) := fun q => h4 ⟨q.1, (sd_catg ad u).mp q.2⟩
    simp only [Bool.and_eq_true, Bool.not_eq_true', beq_eq_false_iff_ne, ne_eq, Bool.and_eq_false_iff]
    refine ⟨e1, e2, ?_⟩
    rcases Nat.decEq (j + 1) i with q | q
    · exact Or.inl q
    · exact Or.inr fun z => h5 ⟨q, z⟩
theorem jm_le_at : ∀ {a b : jm_L}, jm_le a b → ∀ {i : Nat} {v : jm_V}, jm_at a i = some v → jm_at b i = some v
  | [], [], _, _, _, h => h
  | none :: a, _ :: b, hh, 0, _, h => by simp [jm_at] at h
  | none :: a, _ :: b, hh, i + 1, v, h => jm_le_at (a := a) (b := b) hh (i := i) h
  | some x :: a, y :: b, hh, 0, v, h => by
    have h' : some x = some v := h
    cases h'
    exact hh.1
  | some x :: a, y :: b, hh, i + 1, v, h => jm_le_at (a := a) (b := b) hh.2 (i := i) h
  | [], _ :: _, hh, _, _, _ => hh.elim
  | none :: _, [], hh, _, _, _ => hh.elim
  | some _ :: _, [], hh, _, _, _ => hh.elim
theorem jm_le_len : ∀ {a b : jm_L}, jm_le a b → a.length = b.length
  | [], [], _ => rfl
  | none :: a, _ :: b, hh => by simp [jm_le_len (a := a) (b := b) hh]
  | some x :: a, y :: b, hh => by simp [jm_le_len (a := a) (b := b) hh.2]
  | [], _ :: _, hh => hh.elim
  | none :: _, [], hh => hh.elim
  | some _ :: _, [], hh => hh.elim
theorem sd_ll_le {ad : Nat → Nat → Nat} {ls : Array Slot} {nL : Nat} {a b : jm_L} (hle : jm_le a b) (h : lv_has ls nL (sd_ll ad b 0)) : lv_has ls nL (sd_ll ad a 0) := by
  refine ⟨h.1, h.2.1, fun q hq => h.2.2 q ?_⟩
  obtain ⟨j, x⟩ := q
  obtain ⟨n, u, e, h1, h2⟩ := (sd_ll_in _ _ _ _).mp hq
  exact (sd_ll_in _ _ _ _).mpr ⟨n, u, e, jm_le_at hle h1, h2⟩
end
section
/-! the words of the tables, as the steps use them -/
set_option maxRecDepth 100000 in
theorem sd_lenOK : jm_mt.all (fun q => q.2.2.2.all jm_lenQ) = true := by decide +kernel
theorem sd_mapin {α : Type} {f : α → Option Cond} {a : List α} {ps : List Nat} (h : a.map f = ps.map (fun i => lw_tbl[i]?)) {x : α} (hx : x ∈ a) {w : Cond} (hw : f x = some w) : w ∈ lw_tbl := by
  have h1 : f x ∈ a.map f := List.mem_map_of_mem hx
  rw [h] at h1
  obtain ⟨i, -, hi⟩ := List.mem_map.mp h1
  exact List.mem_of_getElem? (hi.trans hw)
theorem sd_good {w : Cond} (h : w ∈ lw_tbl) (hg : goodWord w = true) : w ∈ sd_W := List.mem_filter.mpr ⟨h, hg⟩
theorem sd_flF {own idx ci k : Nat} (h : (own, idx, (ci, k)) ∈ jm_fl) : ∃ r : vw_C, vwCl[ci]? = some r ∧ k < r.2.2 ∧ (r.2.1 k).1 = r.1 ∧ Cond.fieldLink (sd_own own) idx r.1 (r.2.1 k).2.1 (r.2.1 k).2.2.1 ∈ sd_W := by
  have h2 := List.all_eq_true.mp sd_fl2 _ h
  dsimp only at h2
  split at h2
  · rename_i r hr
    simp only [Bool.and_eq_true, decide_eq_true_eq] at h2
    exact ⟨r, hr, h2.1, h2.2, sd_good (sd_mapin sd_fl1 h (by simp [sd_flW, hr])) rfl⟩
  · cases h2
theorem sd_gsF {own idx t : Nat} (h : (own, idx, t) ∈ jm_gs) : (t = 100 ∧ Cond.fieldLink (sd_own own) idx "TableMapper$Network" "SOURCES" "[I" ∈ sd_W) ∨ (t = 101 ∧ Cond.fieldLink (sd_own own) idx "TableMapper$Contents" "PLACES" "[J" ∈ sd_W) := by
  have h2 := List.all_eq_true.mp sd_gs2 _ h
  simp only [decide_eq_true_eq] at h2
  rcases h2 with rfl | rfl
  · exact Or.inl ⟨rfl, sd_good (sd_mapin sd_gs1 h (by simp [sd_gsW])) rfl⟩
  · exact Or.inr ⟨rfl, sd_good (sd_mapin sd_gs1 h (by simp [sd_gsW])) rfl⟩
theorem sd_lcF {own idx : Nat} {v : Int64} (h : (own, idx, v) ∈ jm_lc) : Cond.constantLong (sd_own own) idx v ∈ sd_W := sd_good (sd_mapin sd_lc1 h rfl) rfl
theorem sd_mmF {own idx : Nat} {b : Bool} (h : (own, idx, b) ∈ jm_mm) : Cond.methodLink (sd_own own) idx (sd_mmN b) ∈ sd_W := sd_good (sd_mapin sd_mm1 h rfl) rfl
theorem sd_mF {k : Nat} {q : MethodName × ByteArray × Nat × Option FieldType} (h : sd_mt[k]? = some q) : Cond.code q.1 q.2.1 q.2.2.1 q.2.2.2 ∈ sd_W ∧ ∃ own rk cd, jm_mt[k]? = some (own, rk, q.2.2.1, cd) ∧ q.1.cls = sd_own own ∧ plainName q.1.cls = true ∧ q.1.cls ≠ "java/lang/invoke/MethodHandle" ∧ q.1.cls ≠ "java/lang/invoke/VarHandle" ∧
    ((rk = 0 ∧ q.2.2.2 = none) ∨ (rk = 1 ∧ q.2.2.2 = some .int) ∨ (rk = 2 ∧ q.2.2.2 = some .long) ∨ (rk = 3 ∧ q.2.2.2 = some .boolean) ∨ (rk = 4 ∧ ∃ n, q.2.2.2 = some (.object n))) ∧
    (∀ pc i n, jm_look cd pc = some (i, n) → decode q.2.1 pc = .ok (i, n) ∧ jm_lenQ (pc, i, n) = true) ∧ q.2.2.1 ≤ 60 := by
  have hlt : k < sd_mt.length := (List.getElem?_eq_some_iff.mp h).1
  have hlt2 : k < jm_mt.length := by rw [← sd_mwL.2.1]; exact hlt
  obtain ⟨mrow, hm⟩ : ∃ r, jm_mt[k]? = some r := ⟨_, List.getElem?_eq_getElem hlt2⟩
  have hz : (sd_mt.zip jm_mt)[k]? = some (q, mrow) := List.getElem?_zip_eq_some.mpr ⟨h, hm⟩
  have h1 := List.all_eq_true.mp sd_mk1 _ (List.mem_of_getElem? hz)
  obtain ⟨own, rk, nL, cd⟩ := mrow
  simp only [sd_mkQ, Bool.and_eq_true, decide_eq_true_eq] at h1
  obtain ⟨⟨⟨⟨⟨⟨e1, e2⟩, e3⟩, e4⟩, e5⟩, e6⟩, e7⟩ := h1
  subst e1
  refine ⟨sd_good (sd_mc k q h) rfl, own, rk, cd, hm, e2, e3, e4, e5, ?_, ?_, e7⟩
  · split at e6
    · exact Or.inl ⟨rfl, by simpa using e6⟩
    · exact Or.inr (Or.inl ⟨rfl, by simpa using e6⟩)
    · exact Or.inr (Or.inr (Or.inl ⟨rfl, by simpa using e6⟩))
    · exact Or.inr (Or.inr (Or.inr (Or.inl ⟨rfl, by simpa using e6⟩)))
    · split at e6
      · rename_i n hn
        exact Or.inr (Or.inr (Or.inr (Or.inr ⟨rfl, n, hn⟩)))
      · cases e6
    · cases e6
  · intro pc i n hl
    have h2 := List.all_eq_true.mp (sd_dec k q _ h hm) _ (jm_look_in hl)
    have h3 := List.all_eq_true.mp (List.all_eq_true.mp sd_lenOK _ (List.mem_of_getElem? hm)) _ (jm_look_in hl)
    exact ⟨by simpa using h2, h3⟩
theorem sd_mlF {own idx k n cx : Nat} (h : (own, idx, (k, n, cx)) ∈ jm_ml) : ∃ q, sd_mt[k]? = some q ∧ (Cond.methodLink (sd_own own) idx q.1 ∈ sd_W ∨ ∃ host, Cond.methodLinkNest (sd_own own) idx q.1 host ∈ sd_nest) ∧ Cond.initialized q.1.cls ∈ sd_W ∧
    ((cx = 0 ∧ Cond.static q.1 ∈ sd_W ∧ (parseMethodDescriptor q.1.desc).map (fun d => d.parameters.length) = some n) ∨
     (∃ c r, cx = c + 1 ∧ vwCl[c]? = some r ∧ r.1 = q.1.cls ∧ Cond.instanceMethod q.1 ∈ sd_W ∧ Cond.selects q.1.cls q.1 q.1 ∈ sd_W ∧ 0 < n ∧ (parseMethodDescriptor q.1.desc).map (fun d => d.parameters.length) = some (n - 1))) := by
  have h0 := h
  rw [← sd_mlX1] at h0
  obtain ⟨⟨e, z⟩, hz, he⟩ := List.mem_map.mp h0
  have he : e = (own, idx, (k, n, cx)) := he
  subst he
  have h1 := List.all_eq_true.mp sd_ml1 _ hz
  have h1 : sd_mlQ (own, idx, (k, n, cx)) z = true := h1
  unfold sd_mlQ at h1
  split at h1
  · rename_i q hq
    have hq : sd_mt[k]? = some q := hq
    have hlt : k < sd_mt.length := (List.getElem?_eq_some_iff.mp hq).1
    obtain ⟨ps, hps⟩ : ∃ r, sd_mwP[k]? = some r := ⟨_, List.getElem?_eq_getElem (by rw [← sd_mwL.1]; exact hlt)⟩
    have hzz : (sd_mt.zipIdx.zip sd_mwP)[k]? = some ((q, k), ps) := List.getElem?_zip_eq_some.mpr ⟨by simp [List.getElem?_zipIdx, hq], hps⟩
    have hw := List.all_eq_true.mp sd_mw1 _ (List.mem_of_getElem? hzz)
    simp only [Bool.and_eq_true, decide_eq_true_eq] at hw
    have hin : ∀ w ∈ sd_mw k q, w ∈ sd_W := fun w hm => sd_good (by
      have h5 : some w ∈ (sd_mw k q).map some := List.mem_map_of_mem hm
      rw [hw.1] at h5
      obtain ⟨i, -, hi⟩ := List.mem_map.mp h5
      exact List.mem_of_getElem? hi) (List.all_eq_true.mp hw.2 w hm)
    have hca := List.all_eq_true.mp sd_ca1 _ h
    unfold sd_caQ at hca
    have hca : (match sd_mt[k]? with
      | some m => match sd_stat.getD k true with
        | true => decide (cx = 0) && decide ((parseMethodDescriptor m.1.desc).map (fun d => d.parameters.length) = some n)
        | false => decide (0 < n) && decide ((parseMethodDescriptor m.1.desc).map (fun d => d.parameters.length) = some (n - 1)) && sd_caC cx m.1.cls
      | none => false) = true := hca
    rw [hq] at hca
    dsimp only at hca
    unfold sd_mw at hin
    refine ⟨q, hq, ?_, ?_, ?_⟩
    · split at h1
      · rename_i hb
        exact Or.inl (sd_good (List.mem_of_getElem? (by simpa using h1)) rfl)
      · exact Or.inr ⟨_, List.mem_of_getElem? (by simpa using h1)⟩
    · split at hin
      · exact hin _ (by simp)
      · exact hin _ (by simp)
    · split at hca
      · rename_i hsx
        rw [hsx] at hin
        simp only [Bool.and_eq_true, decide_eq_true_eq] at hca
        exact Or.inl ⟨hca.1, hin _ (by simp), hca.2⟩
      · rename_i hsx
        rw [hsx] at hin
        simp only [Bool.and_eq_true, decide_eq_true_eq] at hca
        obtain ⟨⟨ha, hb⟩, hc⟩ := hca
        have hc2 : ∃ c r, cx = c + 1 ∧ vwCl[c]? = some r ∧ r.1 = q.1.cls := by
                    cases cx with
          | zero => cases hc
          | succ c =>
            unfold sd_caC at hc
            dsimp only at hc
            split at hc
            · rename_i r hr
              exact ⟨c, r, rfl, hr, by simpa using hc⟩
            · cases hc
        obtain ⟨c, r, e1, e2, e3⟩ := hc2
        exact Or.inr ⟨c, r, e1, e2, e3, hin _ (by simp), hin _ (by simp), ha, hb⟩
  · cases h1
theorem sd_rfF {t i n ci k t' : Nat} {fs : List jm_F} {b : Bool} (h : (t, i) ∈ sd_cells) (hk : jm_nth jm_sh t = some (n, .inl (ci, fs))) (hf : jm_nth fs k = some (.inr (t', b))) : (t', jm_pick b i) ∈ sd_cells := by
  have h1 := List.all_eq_true.mp sd_rf1 _ h
  unfold sd_rfQ at h1
  dsimp only at h1
  rw [hk] at h1
  simp only [Bool.and_eq_true] at h1
  have h2 := List.all_eq_true.mp h1.2 (.inr (t', b)) (by rw [jm_nth_eq] at hf; exact List.mem_of_getElem? hf)
  dsimp only at h2
  exact List.contains_iff_mem.mp h2
theorem sd_shF {t n ci k w : Nat} {fs : List jm_F} (hk : jm_nth jm_sh t = some (n, .inl (ci, fs))) : ∃ r, vwCl[ci]? = some r ∧ fs.length = r.2.2 ∧ (jm_nth fs k = some (.inl w) → w < 5 ∧ (w = 4 ∨ (r.2.1 k).2.2.2 = false) ∧ parseFieldDescriptor (r.2.1 k).2.2.1 = some (sd_kty w)) := by
  rw [jm_nth_eq] at hk
  have h1 := List.all_eq_true.mp sd_sh1 _ (List.mem_of_getElem? hk)
  unfold sd_shQ at h1
  dsimp only at h1
  split at h1
  · rename_i r hr
    simp only [Bool.and_eq_true, decide_eq_true_eq] at h1
    refine ⟨r, hr, h1.1, fun hw => ?_⟩
    have hlt : k < r.2.2 := by
      rw [← h1.1]
      rw [jm_nth_eq] at hw
      exact (List.getElem?_eq_some_iff.mp hw).1
    have h2 := List.all_eq_true.mp h1.2 k (List.mem_range.mpr hlt)
    rw [hw] at h2
    simp only [Bool.and_eq_true, Bool.or_eq_true, Bool.not_eq_true', decide_eq_true_eq] at h2
    exact ⟨h2.1.1, h2.1.2, h2.2⟩
  · cases h1
end
section
/-! SOUNDNESS, the second half: the closure of the semantic picture under steps -/
def sd_rm (d : Nat) : Room := { frames := d, cells := 0, slots := 0, locals := 100 * d }
def sd_Pc (L : Nat) (D : va_G) (Y : sd_Y) (ad : Nat → Nat → Nat) (ρ : jm_G) (as : List jm_V) (σ : jm_G) : Array Value → State → Prop := fun v U => v = (as.map (sd_c ad)).toArray ∧ sd_st L D Y ad ρ U U.heap ∧ va_P D vwCl (sd_ws ad Y σ) U.heap
def sd_Qc (D : va_G) (Y : sd_Y) (ad : Nat → Nat → Nat) (ρ : jm_G) (post : Option jm_V → jm_G → Prop) : Array Value → State → Outcome → State → Prop := fun _ st oc t =>
  (∃ (r : Option jm_V) (σ' : jm_G), oc = .returned (r.map (sd_c ad)) ∧ post r σ' ∧ sd_ro σ' ρ ∧ (∀ v, r = some v → sd_ok v) ∧ va_P D vwCl (sd_ws ad Y σ') t.heap) ∧ va_F (sd_A ad) st t
def sd_Met (l : Launch) (L : Nat) (D : va_G) (Y : sd_Y) (ad : Nat → Nat → Nat) (ρ : jm_G) (d k : Nat) (as : List jm_V) (σ : jm_G) (post : Option jm_V → jm_G → Prop) : Prop :=
  ∀ q, sd_mt[k]? = some q → sd_ro σ ρ → (∀ v ∈ as, sd_ok v) → Met l q.1 (Cond.code q.1 q.2.1 q.2.2.1 q.2.2.2 :: sd_W) (sd_rm d) (sd_Pc L D Y ad ρ as σ) (sd_Qc D Y ad ρ post) 0 0 (sd_A ad)
def sd_X (p : Program) (l : Launch) (e : Env) (R : Room) (s : State) (m : MethodId) (args : Array Value) (below : List Frame) (meth : Method) (c : Code) (cells slots : Nat) (Q : State → Prop) (nL : Nat) (D : va_G) (Y : sd_Y) (ad : Nat → Nat → Nat) (ρ : jm_G) : jm_S → Prop := fun z =>
  sd_ro z.1 ρ → (∀ i v, jm_at z.2.2.1 i = some v → sd_ok v) → (∀ v ∈ z.2.2.2, sd_ok v) → z.2.2.1.length = nL → ∀ (H : Heap) (locs : List Loc) (ls : Array Slot), va_P D vwCl (sd_ws ad Y z.1) H → va_S (sd_A ad) s.heap H locs → lv_has ls nL (sd_ll ad z.2.2.1 0) →
    W p l e R s m args below meth c H locs cells slots Q (F0 m z.2.1 ls (z.2.2.2.map (sd_c ad)))
def sd_cx (p : Program) (s : State) (m : MethodId) (args : Array Value) (c : Code) (L own nL : Nat) (cc : ByteArray) (D : va_G) (Y : sd_Y) (ad : Nat → Nat → Nat) (ρ : jm_G) : Prop :=
  p.tables.exec = Jvm.exec ∧ c.code = cc ∧ c.maxLocals = nL ∧ s.vm.findClass (sd_own own) = some m.cls ∧ (∀ w ∈ sd_W, w.before args s = true) ∧ sd_st L D Y ad ρ s s.heap
/-! inversions -/
section INV
variable {X : jm_S → Prop} {Rt : Option jm_V → jm_G → Prop} {C : jm_C} {σ : jm_G} {pc i : Nat} {lv : jm_L} {st : List jm_V}
theorem jm_no_f (h : jm_sem X Rt C jm_no) : False := h.1
theorem jm_lod0 (h : jm_sem X Rt C (jm_lod σ pc lv i st 0)) : ∃ x, jm_at lv i = some (jI x) ∧ X (σ, pc, lv, jI x :: st) := by
  unfold jm_lod at h
  cases hv : jm_at lv i with
  | none => rw [hv] at h; exact (jm_no_f h).elim
  | some v =>
    rw [hv] at h
    rcases v with x | x | q
    · exact ⟨x, rfl, h⟩
    · exact (jm_no_f h).elim
    · exact (jm_no_f h).elim
theorem jm_lod1 (h : jm_sem X Rt C (jm_lod σ pc lv i st 1)) : ∃ x, jm_at lv i = some (jJ x) ∧ X (σ, pc, lv, jJ x :: st) := by
  unfold jm_lod at h
  cases hv : jm_at lv i with
  | none => rw [hv] at h; exact (jm_no_f h).elim
  | some v =>
    rw [hv] at h
    rcases v with x | x | q
    · exact (jm_no_f h).elim
    · exact ⟨x, rfl, h⟩
    · exact (jm_no_f h).elim
theorem jm_lod2 (h : jm_sem X Rt C (jm_lod σ pc lv i st 2)) : ∃ q : Nat × Nat, jm_at lv i = some (.inr (.inr q)) ∧ X (σ, pc, lv, .inr (.inr q) :: st) := by
  unfold jm_lod at h
  cases hv : jm_at lv i with
  | none => rw [hv] at h; exact (jm_no_f h).elim
  | some v =>
    rw [hv] at h
    rcases v with x | x | q
    · exact (jm_no_f h).elim
    · exact (jm_no_f h).elim
    · exact ⟨q, rfl, h⟩
theorem jm_sto0 (h : jm_sem X Rt C (jm_sto σ pc lv i st 0)) : ∃ x r, st = jI x :: r ∧ i < lv.length ∧ X (σ, pc, jm_put1 lv i (jI x), r) := by
  rcases st with _ | ⟨v, r⟩
  · exact (jm_no_f h).elim
  · rcases v with x | x | q
    · cases hb : Nat.blt i lv.length with
      | true =>
        have h : jm_sem X Rt C (match Nat.beq 0 0, Nat.blt i lv.length with | true, true => jm_nx (σ, pc, jm_put1 lv i (jI x), r) | _, _ => jm_no) := h
        rw [hb] at h
        exact ⟨x, r, rfl, by simpa [Nat.blt_eq] using hb, h⟩
      | false =>
        have h : jm_sem X Rt C (match Nat.beq 0 0, Nat.blt i lv.length with | true, true => jm_nx (σ, pc, jm_put1 lv i (jI x), r) | _, _ => jm_no) := h
        rw [hb] at h
        exact (jm_no_f h).elim
    · have h : jm_sem X Rt C (match Nat.beq 0 1, Nat.blt (i + 1) lv.length with | true, true => jm_nx (σ, pc, jm_put2 lv i (jJ x), r) | _, _ => jm_no) := h
      cases hb : Nat.blt (i + 1) lv.length <;> rw [hb] at h <;> exact (jm_no_f h).elim
    · have h : jm_sem X Rt C (match Nat.beq 0 2, Nat.blt i lv.length with | true, true => jm_nx (σ, pc, jm_put1 lv i (jR q.1 q.2), r) | _, _ => jm_no) := h
      cases hb : Nat.blt i lv.length <;> rw [hb] at h <;> exact (jm_no_f h).elim
theorem jm_sto1 (h : jm_sem X Rt C (jm_sto σ pc lv i st 1)) : ∃ x r, st = jJ x :: r ∧ i + 1 < lv.length ∧ X (σ, pc, jm_put2 lv i (jJ x), r) := by
  rcases st with _ | ⟨v, r⟩
  · exact (jm_no_f h).elim
  · rcases v with x | x | q
    · have h : jm_sem X Rt C (match Nat.beq 1 0, Nat.blt i lv.length with | true, true => jm_nx (σ, pc, jm_put1 lv i (jI x), r) | _, _ => jm_no) := h
      cases hb : Nat.blt i lv.length <;> rw [hb] at h <;> exact (jm_no_f h).elim
    · have h : jm_sem X Rt C (match Nat.beq 1 1, Nat.blt (i + 1) lv.length with | true, true => jm_nx (σ, pc, jm_put2 lv i (jJ x), r) | _, _ => jm_no) := h
      cases hb : Nat.blt (i + 1) lv.length with
      | true => rw [hb] at h; exact ⟨x, r, rfl, by simpa [Nat.blt_eq] using hb, h⟩
      | false => rw [hb] at h; exact (jm_no_f h).elim
    · have h : jm_sem X Rt C (match Nat.beq 1 2, Nat.blt i lv.length with | true, true => jm_nx (σ, pc, jm_put1 lv i (jR q.1 q.2), r) | _, _ => jm_no) := h
      cases hb : Nat.blt i lv.length <;> rw [hb] at h <;> exact (jm_no_f h).elim
theorem jm_sto2 (h : jm_sem X Rt C (jm_sto σ pc lv i st 2)) : ∃ (q : Nat × Nat) (r : List jm_V), st = .inr (.inr q) :: r ∧ i < lv.length ∧ X (σ, pc, jm_put1 lv i (.inr (.inr q)), r) := by
  rcases st with _ | ⟨v, r⟩
  · exact (jm_no_f h).elim
  · rcases v with x | x | q
    · have h : jm_sem X Rt C (match Nat.beq 2 0, Nat.blt i lv.length with | true, true => jm_nx (σ, pc, jm_put1 lv i (jI x), r) | _, _ => jm_no) := h
      cases hb : Nat.blt i lv.length <;> rw [hb] at h <;> exact (jm_no_f h).elim
    · have h : jm_sem X Rt C (match Nat.beq 2 1, Nat.blt (i + 1) lv.length with | true, true => jm_nx (σ, pc, jm_put2 lv i (jJ x), r) | _, _ => jm_no) := h
      cases hb : Nat.blt (i + 1) lv.length <;> rw [hb] at h <;> exact (jm_no_f h).elim
    · have h : jm_sem X Rt C (match Nat.beq 2 2, Nat.blt i lv.length with | true, true => jm_nx (σ, pc, jm_put1 lv i (jR q.1 q.2), r) | _, _ => jm_no) := h
      cases hb : Nat.blt i lv.length with
      | true => rw [hb] at h; exact ⟨q, r, rfl, by simpa [Nat.blt_eq] using hb, h⟩
      | false => rw [hb] at h; exact (jm_no_f h).elim
theorem jm_i_inv {f : Int32 → List jm_V → jm_R} (h : jm_sem X Rt C (jm_i st f)) : ∃ x r, st = jI x :: r ∧ jm_sem X Rt C (f x r) := by
  rcases st with _ | ⟨x | x | x, r⟩
  · exact (jm_no_f h).elim
  · exact ⟨x, r, rfl, h⟩
  · exact (jm_no_f h).elim
  · exact (jm_no_f h).elim
theorem jm_j_inv {f : Int64 → List jm_V → jm_R} (h : jm_sem X Rt C (jm_j st f)) : ∃ x r, st = jJ x :: r ∧ jm_sem X Rt C (f x r) := by
  rcases st with _ | ⟨x | x | x, r⟩
  · exact (jm_no_f h).elim
  · exact (jm_no_f h).elim
  · exact ⟨x, r, rfl, h⟩
  · exact (jm_no_f h).elim
theorem jm_ii_inv {f : Int32 → Int32 → List jm_V → jm_R} (h : jm_sem X Rt C (jm_ii st f)) : ∃ x y r, st = jI y :: jI x :: r ∧ jm_sem X Rt C (f x y r) := by
  rcases st with _ | ⟨x | x | x, _ | ⟨y | y | y, r⟩⟩
  all_goals first | exact (jm_no_f h).elim | exact ⟨y, x, r, rfl, h⟩
theorem jm_jj_inv {f : Int64 → Int64 → List jm_V → jm_R} (h : jm_sem X Rt C (jm_jj st f)) : ∃ x y r, st = jJ y :: jJ x :: r ∧ jm_sem X Rt C (f x y r) := by
  rcases st with _ | ⟨x | x | x, _ | ⟨y | y | y, r⟩⟩
  all_goals first | exact (jm_no_f h).elim | exact ⟨y, x, r, rfl, h⟩
theorem jm_ij_inv {f : Int64 → Int32 → List jm_V → jm_R} (h : jm_sem X Rt C (jm_ij st f)) : ∃ x y r, st = jI y :: jJ x :: r ∧ jm_sem X Rt C (f x y r) := by
  rcases st with _ | ⟨x | x | x, _ | ⟨y | y | y, r⟩⟩
  all_goals first | exact (jm_no_f h).elim | exact ⟨y, x, r, rfl, h⟩
theorem jm_ald_inv {L w : Nat} {f : Nat → Nat → Int32 → Nat → List jm_V → jm_R} (h : jm_sem X Rt C (jm_ald L st w f)) : ∃ t i x n r, st = jI x :: jR t i :: r ∧ jm_row L t w = some n ∧ jm_sem X Rt C (f t i x n r) := by
  rcases st with _ | ⟨x | x | x, _ | ⟨y | y | ⟨t, i⟩, r⟩⟩
  all_goals first
    | exact (jm_no_f h).elim
    | (have h : jm_sem X Rt C (match jm_row L t w with | some n => f t i x n r | none => jm_no) := h
       cases hn : jm_row L t w with
       | none => rw [hn] at h; exact (jm_no_f h).elim
       | some n => rw [hn] at h; exact ⟨t, i, x, n, r, rfl, hn, h⟩)
theorem jm_fld_inv {L own idx t k : Nat} {f : jm_F} (h : jm_fld L own idx t = some (k, f)) : ∃ ci n fs, (own, idx, (ci, k)) ∈ jm_fl ∧ jm_kind L t = some (n, .inl (ci, fs)) ∧ jm_nth fs k = some f := by
  unfold jm_fld at h
  split at h
  · rename_i ci k' h1
    split at h
    · rename_i n cj fs h2
      split at h
      · rename_i h3
        split at h
        · rename_i f' h4
          cases h
          have e : ci = cj := Nat.eq_of_beq_eq_true h3
          subst e
          exact ⟨ci, n, fs, jm_key_in h1, h2, h4⟩
        · cases h
      · cases h
    · cases h
  · cases h
theorem jm_kind_obj {L t n ci : Nat} {fs : List jm_F} (h : jm_kind L t = some (n, .inl (ci, fs))) : t < 100 ∧ jm_nth jm_sh t = some (n, .inl (ci, fs)) := by
  unfold jm_kind at h
  split at h
  · rename_i h1
    exact ⟨by simpa [Nat.blt_eq] using h1, h⟩
  · split at h <;> cases h
theorem jm_row_inv {L t w n : Nat} (h : jm_row L t w = some n) : (t < 100 ∧ ∃ m, jm_nth jm_sh t = some (m, .inr (n, w))) ∨ (t = 100 ∧ w = 0 ∧ n = 7) ∨ (t = 101 ∧ w = 1 ∧ n = 6) ∨ (t = 102 ∧ w = 0 ∧ n = L) := by
  unfold jm_row at h
  split at h
  · rename_i m n' u h1
    split at h
    · rename_i h2
      cases h
      have e : u = w := Nat.eq_of_beq_eq_true h2
      subst e
      unfold jm_kind at h1
      split at h1
      · rename_i h3
        exact Or.inl ⟨by simpa [Nat.blt_eq] using h3, m, h1⟩
      · split at h1
        · rename_i h3
          cases h1
          exact Or.inr (Or.inl ⟨Nat.eq_of_beq_eq_true h3, rfl, rfl⟩)
        · rename_i h3 _
          cases h1
          exact Or.inr (Or.inr (Or.inl ⟨Nat.eq_of_beq_eq_true h3, rfl, rfl⟩))
        · rename_i h3 _ _
          cases h1
          exact Or.inr (Or.inr (Or.inr ⟨Nat.eq_of_beq_eq_true h3, rfl, rfl⟩))
        · cases h1
    · cases h
  · cases h
theorem jm_take_inv : ∀ {n : Nat} {st a b r : List jm_V}, jm_take n st a = some (b, r) → ∃ c, b = c ++ a ∧ st = c.reverse ++ r ∧ c.length = n
  | 0, st, a, b, r, h => by cases h; exact ⟨[], rfl, rfl, rfl⟩
  | n + 1, [], a, b, r, h => by simp [jm_take] at h
  | n + 1, v :: st, a, b, r, h => by
    obtain ⟨c, h1, h2, h3⟩ := jm_take_inv (n := n) (st := st) (a := v :: a) h
    exact ⟨c ++ [v], by simp [h1], by simp [h2], by simp [h3]⟩
theorem jm_cat_eq (ad : Nat → Nat → Nat) : ∀ st : List jm_V, ((st.map (sd_c ad)).map fun v => v.category).sum = jm_cat st
  | [] => rfl
  | .inl x :: r => by simp [jm_cat, sd_c, Value.category, ← jm_cat_eq ad r]; omega
  | .inr (.inl x) :: r => by simp [jm_cat, sd_c, Value.category, ← jm_cat_eq ad r]; omega
  | .inr (.inr x) :: r => by simp [jm_cat, sd_c, Value.category, ← jm_cat_eq ad r]; omega
theorem jm_inv_inv {L own idx : Nat} {vt : Bool} (h : jm_sem X Rt C (jm_inv L own σ pc lv st idx vt)) : ∃ k n cx as r, (own, idx, (k, n, cx)) ∈ jm_ml ∧ st = as.reverse ++ r ∧ as.length = n ∧ jm_cat r ≤ 8 ∧
    ((vt = false ∧ cx = 0) ∨ (vt = true ∧ ∃ t i as' m cj fs, as = jR t i :: as' ∧ jm_kind L t = some (m, .inl (cj, fs)) ∧ cx = cj + 1)) ∧ C k as σ (fun r' σ' => X (σ', pc + 3, lv, r'.toList ++ r)) := by
  unfold jm_inv at h
  split at h
  · rename_i k n cx h1
    split at h
    · rename_i as r h2
      obtain ⟨c, e1, e2, e3⟩ := jm_take_inv h2
      rw [List.append_nil] at e1
      subst e1
      split at h
      · rename_i h3
        have h3 : jm_cat r ≤ 8 := Nat.le_of_ble_eq_true h3
        split at h
        · split at h
          · rename_i h4
            exact ⟨k, n, cx, as, r, jm_key_in h1, e2, e3, h3, Or.inl ⟨rfl, Nat.eq_of_beq_eq_true h4⟩, h⟩
          · exact (jm_no_f h).elim
        · split at h
          · rename_i t i as'
            split at h
            · rename_i m cj fs h5
              split at h
              · rename_i h4
                exact ⟨k, n, cx, _, r, jm_key_in h1, e2, e3, h3, Or.inr ⟨rfl, t, i, as', m, cj, fs, rfl, h5, Nat.eq_of_beq_eq_true h4⟩, h⟩
              · exact (jm_no_f h).elim
            · exact (jm_no_f h).elim
          · exact (jm_no_f h).elim
      · exact (jm_no_f h).elim
    · exact (jm_no_f h).elim
  · exact (jm_no_f h).elim
theorem jm_tsw_get : ∀ {os : List Int} {r : List jm_V} {x : Int32} {v : Int}, jm_all X (jm_tsw σ pc lv r x v os) → ∀ {j : Nat} {o : Int}, os[j]? = some o → x = jm_int (v + j) → X (σ, jm_tgt pc o, lv, r)
  | [], _, _, _, _, j, o, ho, _ => by simp at ho
  | o' :: os, r, x, v, h, 0, o, ho, hx => by
    simp at ho
    subst ho
    exact h.1 (by rw [hx]; simp)
  | o' :: os, r, x, v, h, j + 1, o, ho, hx => by
    refine jm_tsw_get (os := os) (v := v + 1) h.2 (j := j) (by simpa using ho) ?_
    rw [hx]
    congr 1
    push_cast
    omega
end INV
end
section
/-! SOUNDNESS, the third part: the closure, instruction by instruction -/
theorem sd_okc {v : jm_V} {r : List jm_V} (h : sd_ok v) (hr : ∀ u ∈ r, sd_ok u) : ∀ u ∈ v :: r, sd_ok u := List.forall_mem_cons.mpr ⟨h, hr⟩
theorem sd_ok1 {a : jm_V} {r : List jm_V} (h : ∀ u ∈ a :: r, sd_ok u) : ∀ u ∈ r, sd_ok u := fun u hu => h u (List.mem_cons_of_mem _ hu)
theorem sd_ok2 {a b : jm_V} {r : List jm_V} (h : ∀ u ∈ a :: b :: r, sd_ok u) : ∀ u ∈ r, sd_ok u := fun u hu => h u (List.mem_cons_of_mem _ (List.mem_cons_of_mem _ hu))
theorem sd_ok3 {a b c : jm_V} {r : List jm_V} (h : ∀ u ∈ a :: b :: c :: r, sd_ok u) : ∀ u ∈ r, sd_ok u := fun u hu => h u (List.mem_cons_of_mem _ (List.mem_cons_of_mem _ (List.mem_cons_of_mem _ hu)))
theorem sd_okI (x : Int32) : sd_ok (jI x) := trivial
theorem sd_okJ (x : Int64) : sd_ok (jJ x) := trivial
theorem sd_in100 {t i : Nat} (h : sd_ok (jR t i)) (ht : t < 100) : (t, i) ∈ sd_cells := by
  rcases h with h | ⟨-, h | h | h⟩
  · exact h
  · exact absurd h (by simp; omega)
  · exact absurd h (by simp; omega)
  · exact absurd h (by simp; omega)
theorem sd_cell_lt {q : Nat × Nat} (h : q ∈ sd_cells) : q.1 < 100 := by
  have h1 : sd_cells.all (fun q => decide (q.1 < 100)) = true := by decide +kernel
  simpa using List.all_eq_true.mp h1 q h
theorem sd_okRo {t i : Nat} (h : sd_ok (jR t i)) (ht : 100 ≤ t) : i = 0 := by
  rcases h with h | ⟨h, -⟩
  · have := sd_cell_lt h
    simp at this
    omega
  · exact h
theorem sd_roI {σ ρ : jm_G} {t i : Nat} {f : Nat → Int32} (h : sd_ro σ ρ) (ht : t < 100) : sd_ro (wI σ t i f) ρ := by
  obtain ⟨h1, h2, h3⟩ := h
  refine ⟨?_, h2, ?_⟩
  · rw [← h1]; simp only [wI]; rw [if_neg (by omega)]
  · rw [← h3]; simp only [wI]; rw [if_neg (by omega)]
theorem sd_roJ {σ ρ : jm_G} {t i : Nat} {f : Nat → Int64} (h : sd_ro σ ρ) (ht : t < 100) : sd_ro (wJ σ t i f) ρ := by
  obtain ⟨h1, h2, h3⟩ := h
  refine ⟨h1, ?_, h3⟩
  rw [← h2]; simp only [wJ]; rw [if_neg (by omega)]
theorem sd_lvok1 {lv : jm_L} {i : Nat} {v : jm_V} (h : ∀ i v, jm_at lv i = some v → sd_ok v) (hv : sd_ok v) : ∀ j u, jm_at (jm_put1 lv i v) j = some u → sd_ok u := by
  intro j u hu
  rcases jm_at_put1 hu with ⟨-, rfl⟩ | ⟨-, h1, -⟩
  · exact hv
  · exact h j u h1
theorem sd_lvok2 {lv : jm_L} {i : Nat} {v : jm_V} (h : ∀ i v, jm_at lv i = some v → sd_ok v) (hv : sd_ok v) : ∀ j u, jm_at (jm_put2 lv i v) j = some u → sd_ok u := by
  intro j u hu
  rcases jm_at_put2 hu with ⟨-, rfl⟩ | ⟨-, -, h1, -⟩
  · exact hv
  · exact h j u h1
def sd_rtok (rk : Nat) (i : Instr) (v : Option jm_V) : Prop :=
  (i = .ireturn ∧ ∃ x, v = some (jI x) ∧ (rk = 1 ∨ (rk = 3 ∧ (x = 0 ∨ x = 1)))) ∨ (i = .lreturn ∧ rk = 2 ∧ ∃ x, v = some (jJ x)) ∨ (i = .areturn ∧ rk = 4 ∧ ∃ q : Nat × Nat, v = some (.inr (.inr q))) ∨ (i = .return_ ∧ rk = 0 ∧ v = none)
section STEP
variable {p : Program} {l : Launch} {e : Env} {R : Room} {s : State} {m : MethodId} {args : Array Value} {below : List Frame} {meth : Method} {c : Code} {cells slots : Nat} {Q : State → Prop} {L own rk nL : Nat} {cc : ByteArray} {D : va_G} {Y : sd_Y} {ad : Nat → Nat → Nat} {ρ : jm_G} {H : Heap} {locs : List Loc}
/-- the world at a call -/
theorem sd_st_at (h : sd_st L D Y ad ρ s s.heap) (hS : va_S (sd_A ad) s.heap H locs) {U : State} (hU : U.heap = H) (hW : s.WarmedH U.vm) : sd_st L D Y ad ρ U U.heap := by
  obtain ⟨h1, h2, h3, h4, h5, h6, h7, h8⟩ := h
  rw [hU]
  refine ⟨va_K.moved hW.alike h1, fun w hw => ?_, h3, (h4.moved hW.alike).kept hS.2.1, (h5.moved hW.alike).kept hS.2.1, (h6.moved hW.alike).kept hS.2.1, (h7.moved hW.alike).kept hS.2.1, (h8.moved hW.alike).kept hS.2.1⟩
  obtain ⟨q, -, rfl⟩ := List.mem_map.mp hw
  exact va_Nw.warmM hW (h2 _ hw)
theorem sd_st_blind {U : State} {g : JFrame} {mk : MethodId} {a : Array Value} (h : sd_st L D Y ad ρ U U.heap) : sd_st L D Y ad ρ (U.calling g mk a) U.heap := by
  obtain ⟨h1, h2, h3, h4, h5, h6, h7, h8⟩ := h
  have hvm : U.vm.Alike (U.calling g mk a).vm := Vm.Alike.refl U.vm
  refine ⟨va_K.moved hvm h1, fun w hw => ?_, h3, h4.moved hvm, h5.moved hvm, h6.moved hvm, h7.moved hvm, h8.moved hvm⟩
  obtain ⟨q, -, rfl⟩ := List.mem_map.mp hw
  exact va_Nw.same rfl rfl (h2 _ hw)
theorem sd_blind {as : List jm_V} {σ : jm_G} : FrameBlind (sd_Pc L D Y ad ρ as σ) := fun a U g mk h => ⟨h.1, sd_st_blind h.2.1, h.2.2⟩
/-- behind a call -/
theorem sd_call {pc : Nat} {ls : Array Slot} {st0 rest : List Value} {a : Array Value} {post : Option jm_V → jm_G → Prop} (hr : va_Run p l e R s m args below meth c H locs cells slots 0 0 (F0 m pc ls st0) rest (sd_Qc D Y ad ρ post a) (sd_A ad)) (hS : va_S (sd_A ad) s.heap H locs)
    (kk : ∀ (r : Option jm_V) (σ' : jm_G) (H1 : Heap) (locs1 : List Loc), post r σ' → sd_ro σ' ρ → (∀ v, r = some v → sd_ok v) → va_P D vwCl (sd_ws ad Y σ') H1 → va_S (sd_A ad) s.heap H1 locs1 → W p l e R s m args below meth c H1 locs1 cells slots Q (F0 m (pc + 3) ls ((r.map (sd_c ad)).toList ++ rest))) : W p l e R s m args below meth c H locs cells slots Q (F0 m pc ls st0) := by
  intro T hT X
  obtain ⟨v, st₀, t, T', L', h0, X', hL, e1, e2, ⟨⟨r, σ', hv, hp, hro, hok, hb⟩, hz, hk⟩, st⟩ := hr T hT X
  cases hv
  rw [h0] at hz hk
  obtain ⟨t2, a1, b1⟩ := kk r σ' T'.heap (locs ++ L') hp hro hok (by rw [e1]; exact hb)
    ⟨Nat.le_trans hS.1 (by rw [e1]; exact hz), fun q h1 h2 => by rw [e1, hk q (Nat.lt_of_lt_of_le h1 hS.1) h2]; exact hS.2.1 q h1 h2, fun q hq => by
      rcases List.mem_append.mp hq with h | h
      · exact hS.2.2 q h
      · exact hL q h⟩ T' rfl X'
  exact ⟨t2, st t2 a1, b1⟩
/-- reading a field -/
theorem sd_getf {σ : jm_G} {pc idx t i k n ci : Nat} {fs : List jm_F} {f : jm_F} {ls : Array Slot} {rest : List Value} (hcx : sd_cx p s m args c L own nL cc D Y ad ρ) (hfl : (own, idx, (ci, k)) ∈ jm_fl) (hk : jm_nth jm_sh t = some (n, .inl (ci, fs))) (hf : jm_nth fs k = some f) (hc : (t, i) ∈ sd_cells) (hP : va_P D vwCl (sd_ws ad Y σ) H) (hd : decode cc pc = .ok (.getfield idx, 3))
    (kk : W p l e R s m args below meth c H locs cells slots Q (F0 m (pc + 3) ls (sd_c ad (jm_val σ t i k f) :: rest))) : W p l e R s m args below meth c H locs cells slots Q (F0 m pc ls (.ref (ad t i) :: rest)) := by
  obtain ⟨hx, hb, hml, hown, hts, hst⟩ := hcx
  obtain ⟨r, hr, hkl, e1, hw⟩ := sd_flF hfl
  obtain ⟨k0, hk0, hws⟩ := sd_get hc ad Y σ
  have hen : sd_en ad Y σ t i = .inr (ci, sd_fs ad σ t i fs 0) := by unfold sd_en; rw [hk]
  rw [hen] at hws
  have hin := (sd_cls r (List.mem_of_getElem? hr)).1
  obtain ⟨C', T', N'⟩ := r
  refine va_get (C := C') (T := T') (N := N') hx hb hts hin hown hst.1 hP k0 hws hr k hkl (hts _ hw) (fun x h => by rw [← e1]; exact h) ?_ hd kk
  rw [sd_fs_get, hf]
  simp
/-- writing a field -/
theorem sd_putf {σ τ : jm_G} {pc idx t i k n ci w : Nat} {fs : List jm_F} {v : jm_V} {ls : Array Slot} {rest : List Value} (hcx : sd_cx p s m args c L own nL cc D Y ad ρ) (hfl : (own, idx, (ci, k)) ∈ jm_fl) (hk : jm_nth jm_sh t = some (n, .inl (ci, fs))) (hf : jm_nth fs k = some (.inl w)) (hw4 : w ≠ 4) (hc : (t, i) ∈ sd_cells) (hP : va_P D vwCl (sd_ws ad Y σ) H) (hS : va_S (sd_A ad) s.heap H locs) (hd : decode cc pc = .ok (.putfield idx, 3))
    (hn : narrow (sd_kty w) (sd_c ad v) = sd_c ad v) (hfit : fits (sd_kty w) (sd_c ad v) = true) (hset : (sd_fs ad σ t i fs 0).set k (sd_c ad v) = sd_fs ad τ t i fs 0) (hoff : ∀ a b : Nat, ¬ (a = t ∧ b = i) → σ.1 a b = τ.1 a b ∧ σ.2 a b = τ.2 a b)
    (kk : ∀ (H1 : Heap) (locs1 : List Loc), va_P D vwCl (sd_ws ad Y τ) H1 → va_S (sd_A ad) s.heap H1 locs1 → W p l e R s m args below meth c H1 locs1 cells slots Q (F0 m (pc + 3) ls rest)) : W p l e R s m args below meth c H locs cells slots Q (F0 m pc ls (sd_c ad v :: .ref (ad t i) :: rest)) := by
  obtain ⟨hx, hb, hml, hown, hts, hst⟩ := hcx
  obtain ⟨r, hr, hkl, e1, hw⟩ := sd_flF hfl
  obtain ⟨r', hr', hlen, hkw⟩ := sd_shF (k := k) (w := w) hk
  cases hr.symm.trans hr'
  obtain ⟨-, hfin, hty⟩ := hkw hf
  have hfin : (r.2.1 k).2.2.2 = false := hfin.resolve_left hw4
  obtain ⟨k0, hk0, hws⟩ := sd_get hc ad Y σ
  have hen : sd_en ad Y σ t i = .inr (ci, sd_fs ad σ t i fs 0) := by unfold sd_en; rw [hk]
  have hen2 : sd_en ad Y τ t i = .inr (ci, sd_fs ad τ t i fs 0) := by unfold sd_en; rw [hk]
  rw [hen] at hws
  obtain ⟨hin, ty0, hty0, hnm⟩ := sd_cls r (List.mem_of_getElem? hr)
  obtain ⟨C', T', N'⟩ := r
  refine va_put (C := C') (T := T') (N := N') hx hb hts hin ty0 hty0 hnm hown hst.1 hP (sd_inD hst.2.2.1) hS k0 hws hr k hkl (hts _ hw) (fun x h => by rw [← e1]; exact h) hfin hty hn hfit (by rw [sd_fs_len, hlen]; exact hkl) hd (fun H1 locs1 hP1 _ hS1 => kk H1 locs1 ?_ hS1)
  have := sd_set (ad := ad) (Y := Y) hk0 hoff
  rw [hen2, ← hset] at this
  rw [← this]
  exact hP1
end STEP
section ROWS
variable {p : Program} {l : Launch} {e : Env} {R : Room} {s : State} {m : MethodId} {args : Array Value} {below : List Frame} {meth : Method} {c : Code} {cells slots : Nat} {Q : State → Prop} {L own rk nL : Nat} {cc : ByteArray} {D : va_G} {Y : sd_Y} {ad : Nat → Nat → Nat} {ρ : jm_G} {H : Heap} {locs : List Loc} {σ : jm_G} {pc t i n mm : Nat} {x : Int32} {ls : Array Slot} {rest : List Value}
theorem sd_en_row {w : Nat} (hk : jm_nth jm_sh t = some (mm, .inr (n, w))) (τ : jm_G) : sd_en ad Y τ t i = sd_ar ad Y τ t i n w := by unfold sd_en; rw [hk]
/-- reading an element of an int row -/
theorem sd_iald (hcx : sd_cx p s m args c L own nL cc D Y ad ρ) (hrow : jm_row L t 0 = some n) (hok : sd_ok (jR t i)) (hro : sd_ro σ ρ) (hin : vp_in x n) (hP : va_P D vwCl (sd_ws ad Y σ) H) (hS : va_S (sd_A ad) s.heap H locs) (hd : decode cc pc = .ok (.iaload, 1))
    (kk : W p l e R s m args below meth c H locs cells slots Q (F0 m (pc + 1) ls (.int (σ.1 t i x.toNatClampNeg) :: rest))) : W p l e R s m args below meth c H locs cells slots Q (F0 m pc ls (.int x :: .ref (ad t i) :: rest)) := by
  obtain ⟨hx, hb, hml, hown, hts, hst⟩ := hcx
  rcases jm_row_inv hrow with ⟨ht, m', hk⟩ | ⟨rfl, -, rfl⟩ | ⟨-, h0, -⟩ | ⟨rfl, -, rfl⟩
  · obtain ⟨k0, hk0, hws⟩ := sd_get (sd_in100 hok ht) ad Y σ
    rw [sd_en_row hk] at hws
    exact va_iald hx hb hst.1 hP k0 0 hws rfl hin hd kk
  · cases sd_okRo hok (by omega)
    exact va_ti hx hb hst.2.2.2.2.2.1 hS hin rfl hd (by rw [← hro.1]; exact kk)
  · cases h0
  · cases sd_okRo hok (by omega)
    exact va_ti hx hb hst.2.2.2.2.2.2.2 hS hin rfl hd (by rw [← hro.2.2]; exact kk)
theorem sd_lald (hcx : sd_cx p s m args c L own nL cc D Y ad ρ) (hrow : jm_row L t 1 = some n) (hok : sd_ok (jR t i)) (hro : sd_ro σ ρ) (hin : vp_in x n) (hP : va_P D vwCl (sd_ws ad Y σ) H) (hS : va_S (sd_A ad) s.heap H locs) (hd : decode cc pc = .ok (.laload, 1))
    (kk : W p l e R s m args below meth c H locs cells slots Q (F0 m (pc + 1) ls (.long (σ.2 t i x.toNatClampNeg) :: rest))) : W p l e R s m args below meth c H locs cells slots Q (F0 m pc ls (.int x :: .ref (ad t i) :: rest)) := by
  obtain ⟨hx, hb, hml, hown, hts, hst⟩ := hcx
  rcases jm_row_inv hrow with ⟨ht, m', hk⟩ | ⟨-, h0, -⟩ | ⟨rfl, -, rfl⟩ | ⟨-, h0, -⟩
  · obtain ⟨k0, hk0, hws⟩ := sd_get (sd_in100 hok ht) ad Y σ
    rw [sd_en_row hk] at hws
    exact va_lald hx hb hst.1 hP k0 1 hws rfl hin hd kk
  · cases h0
  · cases sd_okRo hok (by omega)
    exact va_tl hx hb hst.2.2.2.2.2.2.1 hS hin rfl hd (by rw [← hro.2.1]; exact kk)
  · cases h0
theorem sd_zald (hcx : sd_cx p s m args c L own nL cc D Y ad ρ) (hrow : jm_row L t 2 = some n) (hok : sd_ok (jR t i)) (hin : vp_in x n) (hP : va_P D vwCl (sd_ws ad Y σ) H) (hd : decode cc pc = .ok (.baload, 1))
    (kk : W p l e R s m args below meth c H locs cells slots Q (F0 m (pc + 1) ls (.int (σ.1 t i x.toNatClampNeg) :: rest))) : W p l e R s m args below meth c H locs cells slots Q (F0 m pc ls (.int x :: .ref (ad t i) :: rest)) := by
  obtain ⟨hx, hb, hml, hown, hts, hst⟩ := hcx
  rcases jm_row_inv hrow with ⟨ht, m', hk⟩ | ⟨-, h0, -⟩ | ⟨-, h0, -⟩ | ⟨-, h0, -⟩
  · obtain ⟨k0, hk0, hws⟩ := sd_get (sd_in100 hok ht) ad Y σ
    rw [sd_en_row hk] at hws
    exact va_zald hx hb hst.1 hP k0 2 hws rfl hin hd kk
  · cases h0
  · cases h0
  · cases h0
theorem sd_aald (hcx : sd_cx p s m args c L own nL cc D Y ad ρ) (hrow : jm_row L t 3 = some n) (hok : sd_ok (jR t i)) (hin : vp_in x n) (hP : va_P D vwCl (sd_ws ad Y σ) H) (hd : decode cc pc = .ok (.aaload, 1))
    (kk : W p l e R s m args below meth c H locs cells slots Q (F0 m (pc + 1) ls (.ref (ad 17 x.toNatClampNeg) :: rest))) : W p l e R s m args below meth c H locs cells slots Q (F0 m pc ls (.int x :: .ref (ad t i) :: rest)) := by
  obtain ⟨hx, hb, hml, hown, hts, hst⟩ := hcx
  rcases jm_row_inv hrow with ⟨ht, m', hk⟩ | ⟨-, h0, -⟩ | ⟨-, h0, -⟩ | ⟨-, h0, -⟩
  · obtain ⟨k0, hk0, hws⟩ := sd_get (sd_in100 hok ht) ad Y σ
    rw [sd_en_row hk] at hws
    exact va_aldq hx hb hst.1 hP k0 3 hws rfl hin hd kk
  · cases h0
  · cases h0
  · cases h0
theorem sd_row3 (hrow : jm_row L t 3 = some n) : n = 4 := by
  rcases jm_row_inv hrow with ⟨ht, m', hk⟩ | ⟨-, h0, -⟩ | ⟨-, h0, -⟩ | ⟨-, h0, -⟩
  · have h1 : jm_sh.all (fun h => match h.2 with | .inr (n, 3) => decide (n = 4) | _ => true) = true := by decide +kernel
    rw [jm_nth_eq] at hk
    simpa using List.all_eq_true.mp h1 _ (List.mem_of_getElem? hk)
  · cases h0
  · cases h0
  · cases h0
theorem sd_iast {y : Int32} (hcx : sd_cx p s m args c L own nL cc D Y ad ρ) (ht : t < 100) (hrow : jm_row L t 0 = some n) (hok : sd_ok (jR t i)) (hin : vp_in x n) (hP : va_P D vwCl (sd_ws ad Y σ) H) (hS : va_S (sd_A ad) s.heap H locs) (hd : decode cc pc = .ok (.iastore, 1))
    (kk : ∀ (H1 : Heap) (locs1 : List Loc), va_P D vwCl (sd_ws ad Y (wI σ t i (upd (σ.1 t i) x.toNatClampNeg y))) H1 → va_S (sd_A ad) s.heap H1 locs1 → W p l e R s m args below meth c H1 locs1 cells slots Q (F0 m (pc + 1) ls rest)) : W p l e R s m args below meth c H locs cells slots Q (F0 m pc ls (.int y :: .int x :: .ref (ad t i) :: rest)) := by
  obtain ⟨hx, hb, hml, hown, hts, hst⟩ := hcx
  rcases jm_row_inv hrow with ⟨ht, m', hk⟩ | ⟨h0, -, -⟩ | ⟨h0, -, -⟩ | ⟨h0, -, -⟩
  · obtain ⟨k0, hk0, hws⟩ := sd_get (sd_in100 hok ht) ad Y σ
    rw [sd_en_row hk] at hws
    refine va_iast hx hb hst.1 hP (sd_inD hst.2.2.1) hS k0 0 hws rfl hin hd (fun H1 locs1 hP1 _ hS1 => kk H1 locs1 ?_ hS1)
    have h5 := sd_set (ad := ad) (Y := Y) hk0 (wI_off (σ := σ) (t := t) (i := i) (f := upd (σ.1 t i) x.toNatClampNeg y))
    rw [sd_en_row hk] at h5
    simp only [sd_ar, wI_at] at h5
    rw [← h5]
    exact hP1
  · omega
  · omega
  · omega
theorem sd_zast {y : Int32} (hcx : sd_cx p s m args c L own nL cc D Y ad ρ) (ht : t < 100) (hrow : jm_row L t 2 = some n) (hok : sd_ok (jR t i)) (hin : vp_in x n) (hy : y = 0 ∨ y = 1) (hP : va_P D vwCl (sd_ws ad Y σ) H) (hS : va_S (sd_A ad) s.heap H locs) (hd : decode cc pc = .ok (.bastore, 1))
    (kk : ∀ (H1 : Heap) (locs1 : List Loc), va_P D vwCl (sd_ws ad Y (wI σ t i (upd (σ.1 t i) x.toNatClampNeg y))) H1 → va_S (sd_A ad) s.heap H1 locs1 → W p l e R s m args below meth c H1 locs1 cells slots Q (F0 m (pc + 1) ls rest)) : W p l e R s m args below meth c H locs cells slots Q (F0 m pc ls (.int y :: .int x :: .ref (ad t i) :: rest)) := by
  obtain ⟨hx, hb, hml, hown, hts, hst⟩ := hcx
  have hz : vp_nar .boolean y = y := by rcases hy with rfl | rfl <;> decide
  rcases jm_row_inv hrow with ⟨ht, m', hk⟩ | ⟨h0, -, -⟩ | ⟨h0, -, -⟩ | ⟨h0, -, -⟩
  · obtain ⟨k0, hk0, hws⟩ := sd_get (sd_in100 hok ht) ad Y σ
    rw [sd_en_row hk] at hws
    refine va_zast hx hb hst.1 hP (sd_inD hst.2.2.1) hS k0 2 hws rfl hin hd (fun H1 locs1 hP1 _ hS1 => kk H1 locs1 ?_ hS1)
    have h5 := sd_set (ad := ad) (Y := Y) hk0 (wI_off (σ := σ) (t := t) (i := i) (f := upd (σ.1 t i) x.toNatClampNeg y))
    rw [sd_en_row hk] at h5
    simp only [sd_ar, wI_at] at h5
    rw [hz] at hP1
    rw [← h5]
    exact hP1
  · omega
  · omega
  · omega
theorem sd_last {y : Int64} (hcx : sd_cx p s m args c L own nL cc D Y ad ρ) (ht : t < 100) (hrow : jm_row L t 1 = some n) (hok : sd_ok (jR t i)) (hin : vp_in x n) (hP : va_P D vwCl (sd_ws ad Y σ) H) (hS : va_S (sd_A ad) s.heap H locs) (hd : decode cc pc = .ok (.lastore, 1))
    (kk : ∀ (H1 : Heap) (locs1 : List Loc), va_P D vwCl (sd_ws ad Y (wJ σ t i (vp_updL (σ.2 t i) x.toNatClampNeg y))) H1 → va_S (sd_A ad) s.heap H1 locs1 → W p l e R s m args below meth c H1 locs1 cells slots Q (F0 m (pc + 1) ls rest)) : W p l e R s m args below meth c H locs cells slots Q (F0 m pc ls (.long y :: .int x :: .ref (ad t i) :: rest)) := by
  obtain ⟨hx, hb, hml, hown, hts, hst⟩ := hcx
  rcases jm_row_inv hrow with ⟨ht, m', hk⟩ | ⟨h0, -, -⟩ | ⟨h0, -, -⟩ | ⟨h0, -, -⟩
  · obtain ⟨k0, hk0, hws⟩ := sd_get (sd_in100 hok ht) ad Y σ
    rw [sd_en_row hk] at hws
    refine va_last hx hb hst.1 hP (sd_inD hst.2.2.1) hS k0 1 hws rfl hin hd (fun H1 locs1 hP1 _ hS1 => kk H1 locs1 ?_ hS1)
    have h5 := sd_set (ad := ad) (Y := Y) hk0 (wJ_off (σ := σ) (t := t) (i := i) (f := vp_updL (σ.2 t i) x.toNatClampNeg y))
    rw [sd_en_row hk] at h5
    simp only [sd_ar, wJ_at] at h5
    rw [← h5]
    exact hP1
  · omega
  · omega
  · omega
theorem sd_alen {w : Nat} (hcx : sd_cx p s m args c L own nL cc D Y ad ρ) (hkind : jm_kind L t = some (mm, .inr (n, w))) (hok : sd_ok (jR t i)) (hP : va_P D vwCl (sd_ws ad Y σ) H) (hS : va_S (sd_A ad) s.heap H locs) (hd : decode cc pc = .ok (.arraylength, 1))
    (kk : W p l e R s m args below meth c H locs cells slots Q (F0 m (pc + 1) ls (.int (nI n) :: rest))) : W p l e R s m args below meth c H locs cells slots Q (F0 m pc ls (.ref (ad t i) :: rest)) := by
  have hrow : jm_row L t w = some n := by
    unfold jm_row
    rw [hkind]
    simp
  obtain ⟨hx, hb, hml, hown, hts, hst⟩ := hcx
  rcases jm_row_inv hrow with ⟨ht, m', hk⟩ | ⟨rfl, rfl, rfl⟩ | ⟨rfl, rfl, rfl⟩ | ⟨rfl, rfl, rfl⟩
  · obtain ⟨k0, hk0, hws⟩ := sd_get (sd_in100 hok ht) ad Y σ
    rw [sd_en_row hk] at hws
    unfold sd_ar at hws
    split at hws
    · exact va_alen hx hb hst.1 hP k0 0 hws rfl rfl hd kk
    · exact va_alen hx hb hst.1 hP k0 1 hws rfl rfl hd kk
    · exact va_alen hx hb hst.1 hP k0 2 hws rfl rfl hd kk
    · exact va_alen hx hb hst.1 hP k0 3 hws rfl rfl hd kk
  · cases sd_okRo hok (by omega)
    exact va_tlen hx hb hst.2.2.2.2.2.1 hS rfl hd kk
  · cases sd_okRo hok (by omega)
    exact va_tlen hx hb hst.2.2.2.2.2.2.1 hS rfl hd kk
  · cases sd_okRo hok (by omega)
    exact va_tlen hx hb hst.2.2.2.2.2.2.2 hS rfl hd kk
end ROWS
end
section
/-! THE CLOSURE -/
section CLOSE
variable {p : Program} {l : Launch} {e : Env} {R : Room} {s : State} {m : MethodId} {args : Array Value} {below : List Frame} {meth : Method} {c : Code} {cells slots : Nat} {Q : State → Prop} {L own rk nL : Nat} {cc : ByteArray} {D : va_G} {Y : sd_Y} {ad : Nat → Nat → Nat} {ρ : jm_G} {Rt : Option jm_V → jm_G → Prop} {C : jm_C}
def sd_hret (p : Program) (l : Launch) (e : Env) (R : Room) (s : State) (m : MethodId) (args : Array Value) (below : List Frame) (meth : Method) (c : Code) (cells slots : Nat) (Q : State → Prop) (rk : Nat) (cc : ByteArray) (D : va_G) (Y : sd_Y) (ad : Nat → Nat → Nat) (ρ : jm_G) (Rt : Option jm_V → jm_G → Prop) : Prop :=
  ∀ (i : Instr) (v : Option jm_V) (σ : jm_G) (H : Heap) (locs : List Loc) (ls : Array Slot) (pc : Nat), decode cc pc = .ok (i, 1) → sd_rtok rk i v → Rt v σ → sd_ro σ ρ → (∀ u, v = some u → sd_ok u) → va_P D vwCl (sd_ws ad Y σ) H → va_S (sd_A ad) s.heap H locs → W p l e R s m args below meth c H locs cells slots Q (F0 m pc ls (v.toList.map (sd_c ad)))
def sd_hcall (l : Launch) (R : Room) (L : Nat) (D : va_G) (Y : sd_Y) (ad : Nat → Nat → Nat) (ρ : jm_G) (C : jm_C) : Prop :=
  ∀ k as σ post, C k as σ post → ∀ q, sd_mt[k]? = some q → sd_ro σ ρ → (∀ v ∈ as, sd_ok v) → ∃ rm : Room, rm.cells = 0 ∧ rm.slots = 0 ∧ rm.frames + 1 ≤ R.frames ∧ 8 + (q.2.2.1 + 11) + rm.locals ≤ R.locals ∧ Met l q.1 (Cond.code q.1 q.2.1 q.2.2.1 q.2.2.2 :: sd_W) rm (sd_Pc L D Y ad ρ as σ) (sd_Qc D Y ad ρ post) 0 0 (sd_A ad)
theorem sd_invoke {σ : jm_G} {pc idx : Nat} {lv : jm_L} {st : List jm_V} {vt : Bool} {H : Heap} {locs : List Loc} {ls : Array Slot} (hcx : sd_cx p s m args c L own nL cc D Y ad ρ) (hR1 : 1 ≤ R.frames ∧ 21 ≤ R.locals ∧ cells ≤ R.cells ∧ slots ≤ R.slots) (hcall : sd_hcall l R L D Y ad ρ C)
    (hs : jm_sem (sd_X p l e R s m args below meth c cells slots Q nL D Y ad ρ) Rt C (jm_inv L own σ pc lv st idx vt)) (hro : sd_ro σ ρ) (hlv : ∀ i v, jm_at lv i = some v → sd_ok v) (hso : ∀ v ∈ st, sd_ok v) (hlen : lv.length = nL) (hP : va_P D vwCl (sd_ws ad Y σ) H) (hS : va_S (sd_A ad) s.heap H locs) (hl : lv_has ls nL (sd_ll ad lv 0))
    (hd : decode cc pc = .ok (if vt then .invokevirtual idx else .invokestatic idx, 3)) : W p l e R s m args below meth c H locs cells slots Q (F0 m pc ls (st.map (sd_c ad))) := by
  obtain ⟨k, n, cx, as, r, hml, e2, e3, hcat, hkind, hC⟩ := jm_inv_inv hs
  subst e2
  obtain ⟨q, hq, hlink, hini, hsort⟩ := sd_mlF hml
  have hok : ∀ v ∈ as, sd_ok v := fun v hv => hso v (by simp [hv])
  have hokr : ∀ v ∈ r, sd_ok v := fun v hv => hso v (by simp [hv])
  obtain ⟨rm, r1, r2, r3, r4, hM⟩ := hcall k as σ _ hC q hq hro hok
  obtain ⟨hcode, -, -, -, -, -, -, hMH, hVH, -⟩ := sd_mF hq
  have hcx' := hcx
  obtain ⟨hx, hb, hmx, hown, hts, hst⟩ := hcx
  have hGood : GoodIn sd_W (Cond.code q.1 q.2.1 q.2.2.1 q.2.2.2 :: sd_W) := fun w hw => by
    have hw' : w ∈ sd_W := by
      rcases List.mem_cons.mp hw with rfl | h
      · exact hcode
      · exact h
    exact ⟨hw', good_of_word (List.mem_filter.mp hw').2⟩
  have hsz : ls.size = nL := hl.1
  have hcatW : 2 * (F0 m pc ls ((as.reverse ++ r).map (sd_c ad))).monitorRoom + (((r.map (sd_c ad))).map fun v => v.category).sum ≤ 8 := lv_room (by rw [jm_cat_eq]; exact hcat)
  have hPs : PreS s H (sd_Pc L D Y ad ρ as σ) (as.map (sd_c ad)) := ⟨sd_blind, fun U hU hW => ⟨rfl, sd_st_at hst hS hU hW, by rw [hU]; exact hP⟩⟩
  have hback : ∀ {a : Array Value}, va_Run p l e R s m args below meth c H locs cells slots 0 0 (F0 m pc ls ((as.reverse ++ r).map (sd_c ad))) (r.map (sd_c ad)) (sd_Qc D Y ad ρ (fun r' σ' => sd_X p l e R s m args below meth c cells slots Q nL D Y ad ρ (σ', pc + 3, lv, r'.toList ++ r)) a) (sd_A ad) →
      W p l e R s m args below meth c H locs cells slots Q (F0 m pc ls ((as.reverse ++ r).map (sd_c ad))) := fun hr => sd_call hr hS (fun r' σ' H1 locs1 hp hro1 hok1 hP1 hS1 => by
    have h9 := hp hro1 hlv (fun v hv => by
      rcases List.mem_append.mp hv with h | h
      · cases r' with
        | none => cases h
        | some u => simp at h; subst h; exact hok1 _ rfl
      · exact hokr v h) hlen H1 locs1 ls hP1 hS1 hl
    cases r' with
    | none => exact h9
    | some u => exact h9)
  rcases hkind with ⟨rfl, rfl⟩ | ⟨rfl, t, i, as', m', cj, fs, rfl, hk, rfl⟩
  · rcases hsort with ⟨-, hstat, hpar⟩ | ⟨c', r', h0, -⟩
    · rcases hlink with hlk | ⟨host, hlk⟩
      · refine hback (va_runS (As := as.map (sd_c ad)) (rest := r.map (sd_c ad)) ⟨hx, hb, hmx, hown, hts⟩ hM ⟨callB_of n hts hGood rfl r1 r2 (hts _ hini) (hts _ hlk) ⟨hMH, hVH, hpar⟩ ⟨r3, r4⟩, hts _ hstat⟩ hPs rfl (by simp [e3]) hsz (by simp) hcatW hd ⟨by simpa using hR1.2.2.1, by simpa using hR1.2.2.2⟩)
      · refine hback (va_runSN (As := as.map (sd_c ad)) (rest := r.map (sd_c ad)) ⟨hx, hb, hmx, hown, hts⟩ hM ⟨va_cnB n hts hGood rfl r1 r2 (hst.2.1 _ hlk) (hts _ hini) ⟨hMH, hVH, hpar⟩ ⟨r3, r4⟩, hts _ hstat, trivial⟩ hPs rfl (by simp [e3]) hsz (by simp) hcatW hd ⟨by simpa using hR1.2.2.1, by simpa using hR1.2.2.2⟩)
    · cases h0
  · rcases hsort with ⟨h0, -⟩ | ⟨c', rr, h0, hr, hrn, hinst, hsel, hpos, hpar⟩
    · cases h0
    · cases h0
      obtain ⟨ht, hkk⟩ := jm_kind_obj hk
      have hcell : (t, i) ∈ sd_cells := sd_in100 (hok _ (by simp)) ht
      obtain ⟨k0, hk0, hws⟩ := sd_get hcell ad Y σ
      have hen : sd_en ad Y σ t i = .inr (cj, sd_fs ad σ t i fs 0) := by unfold sd_en; rw [hkk]
      rw [hen] at hws
      have hrecv := va_recv (s := s) hst.1 hP hr hws
      rw [hrn] at hrecv
      have hPv : PreV s H q.1.cls (ad t i) (sd_Pc L D Y ad ρ (jR t i :: as') σ) (as'.map (sd_c ad)) := ⟨sd_blind, hrecv, fun U hU hW => ⟨rfl, sd_st_at hst hS hU hW, by rw [hU]; exact hP⟩⟩
      have hn1 : (as'.map (sd_c ad)).length = n - 1 := by simp at e3 ⊢; omega
      rcases hlink with hlk | ⟨host, hlk⟩
      · exact hback (va_runV (As := as'.map (sd_c ad)) (rest := r.map (sd_c ad)) ⟨hx, hb, hmx, hown, hts⟩ hM ⟨callB_of (n - 1) hts hGood rfl r1 r2 (hts _ hini) (hts _ hlk) ⟨hMH, hVH, hpar⟩ ⟨r3, r4⟩, hts _ hinst, hts _ hsel⟩ hPv rfl hn1 hsz (by simp [sd_c]) hcatW hd ⟨by simpa using hR1.2.2.1, by simpa using hR1.2.2.2⟩)
      · exact hback (va_runVN (As := as'.map (sd_c ad)) (rest := r.map (sd_c ad)) ⟨hx, hb, hmx, hown, hts⟩ hM ⟨va_cnB (n - 1) hts hGood rfl r1 r2 (hst.2.1 _ hlk) (hts _ hini) ⟨hMH, hVH, hpar⟩ ⟨r3, r4⟩, hts _ hinst, hts _ hsel⟩ hPv rfl hn1 hsz (by simp [sd_c]) hcatW hd ⟨by simpa using hR1.2.2.1, by simpa using hR1.2.2.2⟩)
set_option maxHeartbeats 4000000 in
theorem sd_step (hcx : sd_cx p s m args c L own nL cc D Y ad ρ) (hR1 : 1 ≤ R.frames ∧ 21 ≤ R.locals ∧ cells ≤ R.cells ∧ slots ≤ R.slots) (hret : sd_hret p l e R s m args below meth c cells slots Q rk cc D Y ad ρ Rt) (hcall : sd_hcall l R L D Y ad ρ C)
    {cd : List (Nat × Instr × Nat)} (hdec : ∀ pc i n, jm_look cd pc = some (i, n) → decode cc pc = .ok (i, n) ∧ jm_lenQ (pc, i, n) = true) :
    ∀ z, jm_sem (sd_X p l e R s m args below meth c cells slots Q nL D Y ad ρ) Rt C (jm_1 L own rk cd z) → sd_X p l e R s m args below meth c cells slots Q nL D Y ad ρ z := by
  intro z hz
  obtain ⟨σ, pc, lv, st⟩ := z
  have hcx' := hcx
  obtain ⟨hx, hb, hml, hown, hts, hst⟩ := hcx'
  have hz' : jm_sem (sd_X p l e R s m args below meth c cells slots Q nL D Y ad ρ) Rt C (match jm_look cd pc with | some (i, _) => jm_st L own rk i (σ, pc, lv, st) | none => jm_no) := hz
  clear hz
  cases hlk : jm_look cd pc with
  | none => rw [hlk] at hz'; exact (jm_no_f hz').elim
  | some q =>
    obtain ⟨i, n⟩ := q
    rw [hlk] at hz'
    obtain ⟨hd, hn⟩ := hdec pc i n hlk
    have hs : jm_sem (sd_X p l e R s m args below meth c cells slots Q nL D Y ad ρ) Rt C (jm_st L own rk i (σ, pc, lv, st)) := hz'
    clear hz' hlk
    intro hro hlv hso hlen H locs ls hP hS hl
    have hro : sd_ro σ ρ := hro
    have hlv : ∀ i v, jm_at lv i = some v → sd_ok v := hlv
    have hso : ∀ v ∈ st, sd_ok v := hso
    have hlen : lv.length = nL := hlen
    have hP : va_P D vwCl (sd_ws ad Y σ) H := hP
    have hl : lv_has ls nL (sd_ll ad lv 0) := hl
    show W p l e R s m args below meth c H locs cells slots Q (F0 m pc ls (st.map (sd_c ad)))
    cases i with
    | aload_n k =>
      cases Nat.eq_of_beq_eq_true hn
      obtain ⟨q, h1, hs⟩ := jm_lod2 hs
      exact lv_aload_n hx hb hd rfl (sd_at hl h1) (hs hro hlv (sd_okc (hlv _ _ h1) hso) hlen H locs ls hP hS hl)
    | aload k =>
      cases Nat.eq_of_beq_eq_true hn
      obtain ⟨q, h1, hs⟩ := jm_lod2 hs
      exact lv_aload hx hb hd (sd_at hl h1) (hs hro hlv (sd_okc (hlv _ _ h1) hso) hlen H locs ls hP hS hl)
    | iload_n k =>
      cases Nat.eq_of_beq_eq_true hn
      obtain ⟨q, h1, hs⟩ := jm_lod0 hs
      exact lv_iload_n hx hb hd rfl (sd_at hl h1) (hs hro hlv (sd_okc trivial hso) hlen H locs ls hP hS hl)
    | iload k =>
      cases Nat.eq_of_beq_eq_true hn
      obtain ⟨q, h1, hs⟩ := jm_lod0 hs
      exact lv_iload hx hb hd (sd_at hl h1) (hs hro hlv (sd_okc trivial hso) hlen H locs ls hP hS hl)
    | lload_n k =>
      cases Nat.eq_of_beq_eq_true hn
      obtain ⟨q, h1, hs⟩ := jm_lod1 hs
      exact lv_lload_n hx hb hd rfl (sd_at hl h1) (hs hro hlv (sd_okc trivial hso) hlen H locs ls hP hS hl)
    | lload k =>
      cases Nat.eq_of_beq_eq_true hn
      obtain ⟨q, h1, hs⟩ := jm_lod1 hs
      exact lv_lload hx hb hd (sd_at hl h1) (hs hro hlv (sd_okc trivial hso) hlen H locs ls hP hS hl)
    | astore_n k =>
      cases Nat.eq_of_beq_eq_true hn
      obtain ⟨q, r, rfl, hi, hs⟩ := jm_sto2 hs
      exact lv_astore_n hx hb hd rfl hl (by rw [← hlen]; exact hi) rfl (fun ls' h' => hs hro (sd_lvok1 hlv (hso _ (by simp))) (sd_ok1 hso) (by rw [jm_put1_len]; exact hlen) H locs ls' hP hS (sd_put1 h'))
    | astore k =>
      cases Nat.eq_of_beq_eq_true hn
      obtain ⟨q, r, rfl, hi, hs⟩ := jm_sto2 hs
      exact lv_astore hx hb hd hl (by rw [← hlen]; exact hi) rfl (fun ls' h' => hs hro (sd_lvok1 hlv (hso _ (by simp))) (sd_ok1 hso) (by rw [jm_put1_len]; exact hlen) H locs ls' hP hS (sd_put1 h'))
    | istore_n k =>
      cases Nat.eq_of_beq_eq_true hn
      obtain ⟨q, r, rfl, hi, hs⟩ := jm_sto0 hs
      exact lv_istore_n hx hb hd rfl hl (by rw [← hlen]; exact hi) rfl (fun ls' h' => hs hro (sd_lvok1 hlv trivial) (sd_ok1 hso) (by rw [jm_put1_len]; exact hlen) H locs ls' hP hS (sd_put1 h'))
    | istore k =>
      cases Nat.eq_of_beq_eq_true hn
      obtain ⟨q, r, rfl, hi, hs⟩ := jm_sto0 hs
      exact lv_istore hx hb hd hl (by rw [← hlen]; exact hi) rfl (fun ls' h' => hs hro (sd_lvok1 hlv trivial) (sd_ok1 hso) (by rw [jm_put1_len]; exact hlen) H locs ls' hP hS (sd_put1 h'))
    | lstore_n k =>
      cases Nat.eq_of_beq_eq_true hn
      obtain ⟨q, r, rfl, hi, hs⟩ := jm_sto1 hs
      exact lv_lstore_n hx hb hd rfl hl (by rw [← hlen]; exact hi) rfl (fun ls' h' => hs hro (sd_lvok2 hlv trivial) (sd_ok1 hso) (by rw [jm_put2_len]; exact hlen) H locs ls' hP hS (sd_put2 h'))
    | lstore k =>
      cases Nat.eq_of_beq_eq_true hn
      obtain ⟨q, r, rfl, hi, hs⟩ := jm_sto1 hs
      exact lv_lstore hx hb hd hl (by rw [← hlen]; exact hi) rfl (fun ls' h' => hs hro (sd_lvok2 hlv trivial) (sd_ok1 hso) (by rw [jm_put2_len]; exact hlen) H locs ls' hP hS (sd_put2 h'))
    | iconst k =>
      cases Nat.eq_of_beq_eq_true hn
      exact lv_iconst hx hb hd (jm_int_eq k) (hs hro hlv (sd_okc trivial hso) hlen H locs ls hP hS hl)
    | bipush k =>
      cases Nat.eq_of_beq_eq_true hn
      have hs : jm_sem (sd_X p l e R s m args below meth c cells slots Q nL D Y ad ρ) Rt C (match jm_small k 128 with | true => jm_nx (σ, pc + 2, lv, jI (jm_int k) :: st) | false => jm_no) := hs
      cases hk : jm_small k 128 with
      | false => rw [hk] at hs; exact (jm_no_f hs).elim
      | true => rw [hk] at hs; exact lv_bipush hx hb hd (jm_int8 hk) (hs hro hlv (sd_okc trivial hso) hlen H locs ls hP hS hl)
    | sipush k =>
      cases Nat.eq_of_beq_eq_true hn
      have hs : jm_sem (sd_X p l e R s m args below meth c cells slots Q nL D Y ad ρ) Rt C (match jm_small k 32768 with | true => jm_nx (σ, pc + 3, lv, jI (jm_int k) :: st) | false => jm_no) := hs
      cases hk : jm_small k 32768 with
      | false => rw [hk] at hs; exact (jm_no_f hs).elim
      | true => rw [hk] at hs; exact lv_sipush hx hb hd (jm_int16 hk) (hs hro hlv (sd_okc trivial hso) hlen H locs ls hP hS hl)
    | lconst k =>
      cases Nat.eq_of_beq_eq_true hn
      exact lv_lconst hx hb hd rfl (hs hro hlv (sd_okc trivial hso) hlen H locs ls hP hS hl)
    | ldc2_w k =>
      cases Nat.eq_of_beq_eq_true hn
      have hs : jm_sem (sd_X p l e R s m args below meth c cells slots Q nL D Y ad ρ) Rt C (match jm_key jm_lc own k with | some v => jm_nx (σ, pc + 3, lv, jJ v :: st) | none => jm_no) := hs
      cases hk : jm_key jm_lc own k with
      | none => rw [hk] at hs; exact (jm_no_f hs).elim
      | some v => rw [hk] at hs; exact lv_ldc2 hx hb hown (hts _ (sd_lcF (jm_key_in hk))) hd (hs hro hlv (sd_okc trivial hso) hlen H locs ls hP hS hl)
    | iadd => cases Nat.eq_of_beq_eq_true hn; obtain ⟨x, y, r, rfl, hs⟩ := jm_ii_inv hs; exact lv_iadd hx hb hd (hs hro hlv (sd_okc trivial (sd_ok2 hso)) hlen H locs ls hP hS hl)
    | isub => cases Nat.eq_of_beq_eq_true hn; obtain ⟨x, y, r, rfl, hs⟩ := jm_ii_inv hs; exact lv_isub hx hb hd (hs hro hlv (sd_okc trivial (sd_ok2 hso)) hlen H locs ls hP hS hl)
    | imul => cases Nat.eq_of_beq_eq_true hn; obtain ⟨x, y, r, rfl, hs⟩ := jm_ii_inv hs; exact lv_imul hx hb hd (hs hro hlv (sd_okc trivial (sd_ok2 hso)) hlen H locs ls hP hS hl)
    | iand => cases Nat.eq_of_beq_eq_true hn; obtain ⟨x, y, r, rfl, hs⟩ := jm_ii_inv hs; exact lv_iand hx hb hd (hs hro hlv (sd_okc trivial (sd_ok2 hso)) hlen H locs ls hP hS hl)
    | ior => cases Nat.eq_of_beq_eq_true hn; obtain ⟨x, y, r, rfl, hs⟩ := jm_ii_inv hs; exact lv_ior hx hb hd (hs hro hlv (sd_okc trivial (sd_ok2 hso)) hlen H locs ls hP hS hl)
    | ixor => cases Nat.eq_of_beq_eq_true hn; obtain ⟨x, y, r, rfl, hs⟩ := jm_ii_inv hs; exact lv_ixor hx hb hd (hs hro hlv (sd_okc trivial (sd_ok2 hso)) hlen H locs ls hP hS hl)
    | ishl => cases Nat.eq_of_beq_eq_true hn; obtain ⟨x, y, r, rfl, hs⟩ := jm_ii_inv hs; exact lv_ishl hx hb hd (hs hro hlv (sd_okc trivial (sd_ok2 hso)) hlen H locs ls hP hS hl)
    | ishr => cases Nat.eq_of_beq_eq_true hn; obtain ⟨x, y, r, rfl, hs⟩ := jm_ii_inv hs; exact lv_ishr hx hb hd (hs hro hlv (sd_okc trivial (sd_ok2 hso)) hlen H locs ls hP hS hl)
    | idiv => cases Nat.eq_of_beq_eq_true hn; obtain ⟨x, y, r, rfl, hs⟩ := jm_ii_inv hs; exact lv_idiv hx hb hd hs.1 (hs.2 hro hlv (sd_okc trivial (sd_ok2 hso)) hlen H locs ls hP hS hl)
    | irem => cases Nat.eq_of_beq_eq_true hn; obtain ⟨x, y, r, rfl, hs⟩ := jm_ii_inv hs; exact lv_irem hx hb hd hs.1 (hs.2 hro hlv (sd_okc trivial (sd_ok2 hso)) hlen H locs ls hP hS hl)
    | ladd => cases Nat.eq_of_beq_eq_true hn; obtain ⟨x, y, r, rfl, hs⟩ := jm_jj_inv hs; exact lv_ladd hx hb hd (hs hro hlv (sd_okc trivial (sd_ok2 hso)) hlen H locs ls hP hS hl)
    | lsub => cases Nat.eq_of_beq_eq_true hn; obtain ⟨x, y, r, rfl, hs⟩ := jm_jj_inv hs; exact lv_lsub hx hb hd (hs hro hlv (sd_okc trivial (sd_ok2 hso)) hlen H locs ls hP hS hl)
    | land => cases Nat.eq_of_beq_eq_true hn; obtain ⟨x, y, r, rfl, hs⟩ := jm_jj_inv hs; exact lv_land hx hb hd (hs hro hlv (sd_okc trivial (sd_ok2 hso)) hlen H locs ls hP hS hl)
    | lor => cases Nat.eq_of_beq_eq_true hn; obtain ⟨x, y, r, rfl, hs⟩ := jm_jj_inv hs; exact lv_lor hx hb hd (hs hro hlv (sd_okc trivial (sd_ok2 hso)) hlen H locs ls hP hS hl)
    | lxor => cases Nat.eq_of_beq_eq_true hn; obtain ⟨x, y, r, rfl, hs⟩ := jm_jj_inv hs; exact lv_lxor hx hb hd (hs hro hlv (sd_okc trivial (sd_ok2 hso)) hlen H locs ls hP hS hl)
    | lcmp => cases Nat.eq_of_beq_eq_true hn; obtain ⟨x, y, r, rfl, hs⟩ := jm_jj_inv hs; exact W.lcmp hx hb hd (hs hro hlv (sd_okc trivial (sd_ok2 hso)) hlen H locs ls hP hS hl)
    | lneg => cases Nat.eq_of_beq_eq_true hn; obtain ⟨x, r, rfl, hs⟩ := jm_j_inv hs; exact lv_lneg hx hb hd (hs hro hlv (sd_okc trivial (sd_ok1 hso)) hlen H locs ls hP hS hl)
    | lshl => cases Nat.eq_of_beq_eq_true hn; obtain ⟨x, y, r, rfl, hs⟩ := jm_ij_inv hs; exact lv_lshl hx hb hd rfl (hs hro hlv (sd_okc trivial (sd_ok2 hso)) hlen H locs ls hP hS hl)
    | lshr => cases Nat.eq_of_beq_eq_true hn; obtain ⟨x, y, r, rfl, hs⟩ := jm_ij_inv hs; exact lv_lshr hx hb hd rfl (hs hro hlv (sd_okc trivial (sd_ok2 hso)) hlen H locs ls hP hS hl)
    | lushr => cases Nat.eq_of_beq_eq_true hn; obtain ⟨x, y, r, rfl, hs⟩ := jm_ij_inv hs; exact lv_lushr hx hb hd rfl (hs hro hlv (sd_okc trivial (sd_ok2 hso)) hlen H locs ls hP hS hl)
    | i2l => cases Nat.eq_of_beq_eq_true hn; obtain ⟨x, r, rfl, hs⟩ := jm_i_inv hs; exact lv_i2l hx hb hd rfl (hs hro hlv (sd_okc trivial (sd_ok1 hso)) hlen H locs ls hP hS hl)
    | l2i => cases Nat.eq_of_beq_eq_true hn; obtain ⟨x, r, rfl, hs⟩ := jm_j_inv hs; exact lv_l2i hx hb hd rfl (hs hro hlv (sd_okc trivial (sd_ok1 hso)) hlen H locs ls hP hS hl)
    | dup =>
      cases Nat.eq_of_beq_eq_true hn
      rcases st with _ | ⟨x | x | x, r⟩
      · exact (jm_no_f hs).elim
      · exact lv_dup hx hb hd rfl (hs hro hlv (sd_okc trivial hso) hlen H locs ls hP hS hl)
      · exact (jm_no_f hs).elim
      · exact lv_dup hx hb hd rfl (hs hro hlv (sd_okc (hso _ (by simp)) hso) hlen H locs ls hP hS hl)
    | dup2 =>
      cases Nat.eq_of_beq_eq_true hn
      rcases st with _ | ⟨x | x | x, r⟩
      · exact (jm_no_f hs).elim
      · rcases r with _ | ⟨y | y | y, r⟩
        · exact (jm_no_f hs).elim
        · exact (jm_no_f hs).elim
        · exact (jm_no_f hs).elim
        · exact lv_dup2_11 hx hb hd rfl rfl (hs hro hlv (sd_okc trivial (sd_okc (hso _ (by simp)) hso)) hlen H locs ls hP hS hl)
      · exact lv_dup2_2 hx hb hd rfl (hs hro hlv (sd_okc trivial hso) hlen H locs ls hP hS hl)
      · exact (jm_no_f hs).elim
    | dup_x1 =>
      cases Nat.eq_of_beq_eq_true hn
      rcases st with _ | ⟨x | x | x, r⟩
      · exact (jm_no_f hs).elim
      · rcases r with _ | ⟨y | y | y, r⟩
        · exact (jm_no_f hs).elim
        · exact (jm_no_f hs).elim
        · exact (jm_no_f hs).elim
        · exact lv_dup_x1 hx hb hd rfl rfl (hs hro hlv (sd_okc trivial (sd_okc (hso _ (by simp)) (sd_okc trivial (sd_ok2 hso)))) hlen H locs ls hP hS hl)
      · exact (jm_no_f hs).elim
      · exact (jm_no_f hs).elim
    | iinc k cst =>
      cases Nat.eq_of_beq_eq_true hn
      have hs : jm_sem (sd_X p l e R s m args below meth c cells slots Q nL D Y ad ρ) Rt C (match jm_at lv k with | some (.inl x) => (match Nat.blt k lv.length with | true => jm_nx (σ, pc + 3, jm_put1 lv k (jI (x + jm_int cst)), st) | false => jm_no) | _ => jm_no) := hs
      cases hv : jm_at lv k with
      | none => rw [hv] at hs; exact (jm_no_f hs).elim
      | some v =>
        rw [hv] at hs
        rcases v with x | x | x
        · have hs : jm_sem (sd_X p l e R s m args below meth c cells slots Q nL D Y ad ρ) Rt C (match Nat.blt k lv.length with | true => jm_nx (σ, pc + 3, jm_put1 lv k (jI (x + jm_int cst)), st) | false => jm_no) := hs
          cases hb2 : Nat.blt k lv.length with
          | false => rw [hb2] at hs; exact (jm_no_f hs).elim
          | true =>
            rw [hb2] at hs
            have hi : k < lv.length := by simpa [Nat.blt_eq] using hb2
            obtain ⟨j, hj⟩ := List.getElem?_of_mem ((sd_ll_in (ad := ad) lv 0 k (.int x)).mpr ⟨k, _, by omega, hv, rfl⟩)
            exact lv_iinc (v := x + jm_int cst) hx hb hd hl hj (by rw [jm_int_eq]) (by rw [← hlen]; exact hi) rfl (fun ls' h' => hs hro (sd_lvok1 hlv trivial) hso (by rw [jm_put1_len]; exact hlen) H locs ls' hP hS (sd_put1 h'))
        · exact (jm_no_f hs).elim
        · exact (jm_no_f hs).elim
    | goto o =>
      obtain ⟨hn1, hn2⟩ := Bool.and_eq_true_iff.mp hn
      cases Nat.eq_of_beq_eq_true hn1
      exact lv_goto hx hb hd (jm_tgt_ok (by simpa using hn2)) (hs hro hlv hso hlen H locs ls hP hS hl)
    | ifCond cnd o =>
      obtain ⟨hn1, hn2⟩ := Bool.and_eq_true_iff.mp hn
      cases Nat.eq_of_beq_eq_true hn1
      have ht := jm_tgt_ok (pc := pc) (o := o) (by simpa using hn2)
      obtain ⟨x, r, rfl, hs⟩ := jm_i_inv hs
      cases cnd with
      | eq => exact lv_if_eq hx hb hd ht (fun h => hs.1 h hro hlv (sd_ok1 hso) hlen H locs ls hP hS hl) (fun h => hs.2 h hro hlv (sd_ok1 hso) hlen H locs ls hP hS hl)
      | ne => exact lv_if_ne hx hb hd ht (fun h => hs.2 h hro hlv (sd_ok1 hso) hlen H locs ls hP hS hl) (fun h => hs.1 h hro hlv (sd_ok1 hso) hlen H locs ls hP hS hl)
      | lt => exact lv_if_lt hx hb hd ht (fun h => hs.1 h hro hlv (sd_ok1 hso) hlen H locs ls hP hS hl) (fun h => hs.2 h hro hlv (sd_ok1 hso) hlen H locs ls hP hS hl)
      | ge => exact lv_if_ge hx hb hd ht (fun h => hs.1 h hro hlv (sd_ok1 hso) hlen H locs ls hP hS hl) (fun h => hs.2 h hro hlv (sd_ok1 hso) hlen H locs ls hP hS hl)
      | gt => exact lv_if_gt hx hb hd ht (fun h => hs.1 h hro hlv (sd_ok1 hso) hlen H locs ls hP hS hl) (fun h => hs.2 h hro hlv (sd_ok1 hso) hlen H locs ls hP hS hl)
      | le => exact lv_if_le hx hb hd ht (fun h => hs.1 h hro hlv (sd_ok1 hso) hlen H locs ls hP hS hl) (fun h => hs.2 h hro hlv (sd_ok1 hso) hlen H locs ls hP hS hl)
    | if_icmp cnd o =>
      obtain ⟨hn1, hn2⟩ := Bool.and_eq_true_iff.mp hn
      cases Nat.eq_of_beq_eq_true hn1
      have ht := jm_tgt_ok (pc := pc) (o := o) (by simpa using hn2)
      obtain ⟨x, y, r, rfl, hs⟩ := jm_ii_inv hs
      cases cnd with
      | eq => exact lv_icmp_eq hx hb hd ht (fun h => hs.1 h hro hlv (sd_ok2 hso) hlen H locs ls hP hS hl) (fun h => hs.2 h hro hlv (sd_ok2 hso) hlen H locs ls hP hS hl)
      | ne => exact lv_icmp_ne hx hb hd ht (fun h => hs.2 h hro hlv (sd_ok2 hso) hlen H locs ls hP hS hl) (fun h => hs.1 h hro hlv (sd_ok2 hso) hlen H locs ls hP hS hl)
      | lt => exact lv_icmp_lt hx hb hd ht (fun h => hs.1 h hro hlv (sd_ok2 hso) hlen H locs ls hP hS hl) (fun h => hs.2 h hro hlv (sd_ok2 hso) hlen H locs ls hP hS hl)
      | ge => exact lv_icmp_ge hx hb hd ht (fun h => hs.1 h hro hlv (sd_ok2 hso) hlen H locs ls hP hS hl) (fun h => hs.2 h hro hlv (sd_ok2 hso) hlen H locs ls hP hS hl)
      | gt => exact lv_icmp_gt hx hb hd ht (fun h => hs.1 h hro hlv (sd_ok2 hso) hlen H locs ls hP hS hl) (fun h => hs.2 h hro hlv (sd_ok2 hso) hlen H locs ls hP hS hl)
      | le => exact lv_icmp_le hx hb hd ht (fun h => hs.1 h hro hlv (sd_ok2 hso) hlen H locs ls hP hS hl) (fun h => hs.2 h hro hlv (sd_ok2 hso) hlen H locs ls hP hS hl)
    | tableswitch dflt lo hi os =>
      obtain ⟨x, r, rfl, hs⟩ := jm_i_inv hs
      have hs : ((x.toInt < lo ∨ hi < x.toInt) → sd_X p l e R s m args below meth c cells slots Q nL D Y ad ρ (σ, jm_tgt pc dflt, lv, r)) ∧ jm_all (sd_X p l e R s m args below meth c cells slots Q nL D Y ad ρ) (jm_tsw σ pc lv r x lo os.toList) := hs
      simp only [jm_lenQ, Bool.and_eq_true, decide_eq_true_eq] at hn
      obtain ⟨⟨hn1, hn2⟩, hn3⟩ := hn
      by_cases hout : x.toInt < lo ∨ hi < x.toInt
      · exact lv_tableOut hx hb hd hout (jm_tgt_ok hn1) (hs.1 hout hro hlv (sd_ok1 hso) hlen H locs ls hP hS hl)
      · have h1 : ¬ x.toInt < lo := fun h => hout (Or.inl h)
        have h2 : ¬ hi < x.toInt := fun h => hout (Or.inr h)
        have hlt : (x.toInt - lo).toNat < os.size := by omega
        have ho : os[(x.toInt - lo).toNat]? = some os[(x.toInt - lo).toNat] := Array.getElem?_eq_getElem hlt
        have ho2 : os.toList[(x.toInt - lo).toNat]? = some os[(x.toInt - lo).toNat] := by rw [Array.getElem?_toList]; exact ho
        have h3 := List.all_eq_true.mp hn3 _ (List.mem_of_getElem? ho2)
        refine lv_tableIn hx hb hd h1 h2 ho (jm_tgt_ok (by simpa using h3)) ?_
        refine jm_tsw_get hs.2 ho2 ?_ hro hlv (sd_ok1 hso) hlen H locs ls hP hS hl
        rw [← jm_int_eq]
        apply Int32.toInt_inj.mp
        have e1 : lo + ((x.toInt - lo).toNat : Int) = x.toInt := by omega
        rw [e1, Int32.ofInt_toInt]
    | getfield idx =>
      cases Nat.eq_of_beq_eq_true hn
      have hs : jm_sem (sd_X p l e R s m args below meth c cells slots Q nL D Y ad ρ) Rt C (jm_getf L own σ pc lv st idx) := hs
      rcases st with _ | ⟨x | x | ⟨t, i⟩, r⟩
      · exact (jm_no_f hs).elim
      · exact (jm_no_f hs).elim
      · exact (jm_no_f hs).elim
      · have hs : jm_sem (sd_X p l e R s m args below meth c cells slots Q nL D Y ad ρ) Rt C (match jm_fld L own idx t with | some (k, f) => jm_nx (σ, pc + 3, lv, jm_val σ t i k f :: r) | none => jm_no) := hs
        cases hf : jm_fld L own idx t with
        | none => rw [hf] at hs; exact (jm_no_f hs).elim
        | some kf =>
          obtain ⟨k, f⟩ := kf
          rw [hf] at hs
          obtain ⟨ci, n', fs, hfl, hkd, hnf⟩ := jm_fld_inv hf
          obtain ⟨ht, hkd⟩ := jm_kind_obj hkd
          have hcell : (t, i) ∈ sd_cells := sd_in100 (hso _ (by simp)) ht
          refine sd_getf hcx hfl hkd hnf hcell hP hd (hs hro hlv (sd_okc ?_ (sd_ok1 hso)) hlen H locs ls hP hS hl)
          rcases f with w | ⟨t', b⟩
          · unfold jm_val
            dsimp only
            split <;> trivial
          · exact Or.inl (sd_rfF hcell hkd hnf)
    | putfield idx =>
      cases Nat.eq_of_beq_eq_true hn
      have hs : jm_sem (sd_X p l e R s m args below meth c cells slots Q nL D Y ad ρ) Rt C (jm_putf L own σ pc lv st idx) := hs
      rcases st with _ | ⟨x | x | x, _ | ⟨y | y | ⟨t, i⟩, r⟩⟩
      all_goals first
        | exact (jm_no_f hs).elim
        | skip
      · have hs : jm_sem (sd_X p l e R s m args below meth c cells slots Q nL D Y ad ρ) Rt C (match jm_fld L own idx t with
            | some (k, .inl w) => match Nat.beq w 0 with
              | true => jm_nx (wI σ t i (upd (σ.1 t i) k x), pc + 3, lv, r)
              | false => match Nat.beq w 2 with
                | true => jm_ck (x = 0 ∨ x = 1) (wI σ t i (upd (σ.1 t i) k x), pc + 3, lv, r)
                | false => jm_no
            | _ => jm_no) := hs
        cases hf : jm_fld L own idx t with
        | none => rw [hf] at hs; exact (jm_no_f hs).elim
        | some kf =>
          obtain ⟨k, w | q⟩ := kf
          · rw [hf] at hs
            obtain ⟨ci, n', fs, hfl, hkd, hnf⟩ := jm_fld_inv hf
            obtain ⟨ht, hkd⟩ := jm_kind_obj hkd
            have hcell : (t, i) ∈ sd_cells := sd_in100 (hso _ (by simp)) ht
            have hs : jm_sem (sd_X p l e R s m args below meth c cells slots Q nL D Y ad ρ) Rt C (match Nat.beq w 0 with
              | true => jm_nx (wI σ t i (upd (σ.1 t i) k x), pc + 3, lv, r)
              | false => match Nat.beq w 2 with
                | true => jm_ck (x = 0 ∨ x = 1) (wI σ t i (upd (σ.1 t i) k x), pc + 3, lv, r)
                | false => jm_no) := hs
            cases hw0 : Nat.beq w 0 with
            | true =>
              rw [hw0] at hs
              cases Nat.eq_of_beq_eq_true hw0
              exact sd_putf (v := jI x) hcx hfl hkd hnf (by decide) hcell hP hS hd rfl rfl (sd_fsI hnf rfl) wI_off (fun H1 locs1 hP1 hS1 => hs (sd_roI hro ht) hlv (sd_ok2 hso) hlen H1 locs1 ls hP1 hS1 hl)
            | false =>
              rw [hw0] at hs
              have hs : jm_sem (sd_X p l e R s m args below meth c cells slots Q nL D Y ad ρ) Rt C (match Nat.beq w 2 with
                | true => jm_ck (x = 0 ∨ x = 1) (wI σ t i (upd (σ.1 t i) k x), pc + 3, lv, r)
                | false => jm_no) := hs
              cases hw2 : Nat.beq w 2 with
              | true =>
                rw [hw2] at hs
                cases Nat.eq_of_beq_eq_true hw2
                have hx01 : x = 0 ∨ x = 1 := hs.1
                exact sd_putf (v := jI x) hcx hfl hkd hnf (by decide) hcell hP hS hd (by rcases hx01 with rfl | rfl <;> rfl) (by rcases hx01 with rfl | rfl <;> rfl) (sd_fsI hnf rfl) wI_off (fun H1 locs1 hP1 hS1 => hs.2 (sd_roI hro ht) hlv (sd_ok2 hso) hlen H1 locs1 ls hP1 hS1 hl)
              | false => rw [hw2] at hs; exact (jm_no_f hs).elim
          · rw [hf] at hs; exact (jm_no_f hs).elim
      · have hs : jm_sem (sd_X p l e R s m args below meth c cells slots Q nL D Y ad ρ) Rt C (match jm_fld L own idx t with
            | some (k, .inl w) => match Nat.beq w 1 with
              | true => jm_nx (wJ σ t i (vp_updL (σ.2 t i) k x), pc + 3, lv, r)
              | false => jm_no
            | _ => jm_no) := hs
        cases hf : jm_fld L own idx t with
        | none => rw [hf] at hs; exact (jm_no_f hs).elim
        | some kf =>
          obtain ⟨k, w | q⟩ := kf
          · rw [hf] at hs
            obtain ⟨ci, n', fs, hfl, hkd, hnf⟩ := jm_fld_inv hf
            obtain ⟨ht, hkd⟩ := jm_kind_obj hkd
            have hcell : (t, i) ∈ sd_cells := sd_in100 (hso _ (by simp)) ht
            have hs : jm_sem (sd_X p l e R s m args below meth c cells slots Q nL D Y ad ρ) Rt C (match Nat.beq w 1 with
              | true => jm_nx (wJ σ t i (vp_updL (σ.2 t i) k x), pc + 3, lv, r)
              | false => jm_no) := hs
            cases hw1 : Nat.beq w 1 with
            | true =>
              rw [hw1] at hs
              cases Nat.eq_of_beq_eq_true hw1
              exact sd_putf (v := jJ x) hcx hfl hkd hnf (by decide) hcell hP hS hd rfl rfl (sd_fsJ hnf rfl) wJ_off (fun H1 locs1 hP1 hS1 => hs (sd_roJ hro ht) hlv (sd_ok2 hso) hlen H1 locs1 ls hP1 hS1 hl)
            | false => rw [hw1] at hs; exact (jm_no_f hs).elim
          · rw [hf] at hs; exact (jm_no_f hs).elim
    | getstatic idx =>
      cases Nat.eq_of_beq_eq_true hn
      have hs : jm_sem (sd_X p l e R s m args below meth c cells slots Q nL D Y ad ρ) Rt C (match jm_key jm_gs own idx with | some t => jm_nx (σ, pc + 3, lv, jR t 0 :: st) | none => jm_no) := hs
      cases hk : jm_key jm_gs own idx with
      | none => rw [hk] at hs; exact (jm_no_f hs).elim
      | some t =>
        rw [hk] at hs
        rcases sd_gsF (jm_key_in hk) with ⟨rfl, hw⟩ | ⟨rfl, hw⟩
        · exact va_gets hx hb hst.2.2.2.1 hS hown (hts _ hw) (fun _ h => h) hd (hs hro hlv (sd_okc (Or.inr ⟨rfl, Or.inl rfl⟩) hso) hlen H locs ls hP hS hl)
        · exact va_gets hx hb hst.2.2.2.2.1 hS hown (hts _ hw) (fun _ h => h) hd (hs hro hlv (sd_okc (Or.inr ⟨rfl, Or.inr (Or.inl rfl)⟩) hso) hlen H locs ls hP hS hl)
    | iaload =>
      cases Nat.eq_of_beq_eq_true hn
      obtain ⟨t, i, x, n', r, rfl, hrow, hs⟩ := jm_ald_inv hs
      exact sd_iald hcx hrow (hso _ (by simp)) hro hs.1 hP hS hd (hs.2 hro hlv (sd_okc trivial (sd_ok2 hso)) hlen H locs ls hP hS hl)
    | baload =>
      cases Nat.eq_of_beq_eq_true hn
      obtain ⟨t, i, x, n', r, rfl, hrow, hs⟩ := jm_ald_inv hs
      exact sd_zald hcx hrow (hso _ (by simp)) hs.1 hP hd (hs.2 hro hlv (sd_okc trivial (sd_ok2 hso)) hlen H locs ls hP hS hl)
    | laload =>
      cases Nat.eq_of_beq_eq_true hn
      obtain ⟨t, i, x, n', r, rfl, hrow, hs⟩ := jm_ald_inv hs
      exact sd_lald hcx hrow (hso _ (by simp)) hro hs.1 hP hS hd (hs.2 hro hlv (sd_okc trivial (sd_ok2 hso)) hlen H locs ls hP hS hl)
    | aaload =>
      cases Nat.eq_of_beq_eq_true hn
      obtain ⟨t, i, x, n', r, rfl, hrow, hs⟩ := jm_ald_inv hs
      have h4 := sd_row3 hrow
      subst h4
      exact sd_aald hcx hrow (hso _ (by simp)) hs.1 hP hd (hs.2 hro hlv (sd_okc (Or.inl (sd_17 _ (Nat.not_le.mp fun q => hs.1 (Or.inr q)))) (sd_ok2 hso)) hlen H locs ls hP hS hl)
    | iastore =>
      cases Nat.eq_of_beq_eq_true hn
      have hs : jm_sem (sd_X p l e R s m args below meth c cells slots Q nL D Y ad ρ) Rt C (jm_ast L σ (pc + 1) lv st 0) := hs
      rcases st with _ | ⟨y | y | y, _ | ⟨x | x | x, _ | ⟨z | z | ⟨t, i⟩, r⟩⟩⟩
      all_goals first
        | exact (jm_no_f hs).elim
        | skip
      · have hs : jm_sem (sd_X p l e R s m args below meth c cells slots Q nL D Y ad ρ) Rt C (match Nat.blt t 100, jm_row L t 0 with | true, some n => jm_ck (vp_in x n) (wI σ t i (upd (σ.1 t i) x.toNatClampNeg y), pc + 1, lv, r) | _, _ => jm_no) := hs
        cases ht : Nat.blt t 100 <;> cases hrow : jm_row L t 0 <;> rw [ht, hrow] at hs
        · exact (jm_no_f hs).elim
        · exact (jm_no_f hs).elim
        · exact (jm_no_f hs).elim
        · have ht' : t < 100 := by simpa [Nat.blt_eq] using ht
          exact sd_iast hcx ht' hrow (hso _ (by simp)) hs.1 hP hS hd (fun H1 locs1 hP1 hS1 => hs.2 (sd_roI hro ht') hlv (sd_ok3 hso) hlen H1 locs1 ls hP1 hS1 hl)
      · have hs : jm_sem (sd_X p l e R s m args below meth c cells slots Q nL D Y ad ρ) Rt C (match Nat.blt t 100, jm_row L t 0 with | true, some n => jm_no | _, _ => jm_no) := hs
        cases ht : Nat.blt t 100 <;> cases hrow : jm_row L t 0 <;> rw [ht, hrow] at hs <;> exact (jm_no_f hs).elim
    | bastore =>
      cases Nat.eq_of_beq_eq_true hn
      have hs : jm_sem (sd_X p l e R s m args below meth c cells slots Q nL D Y ad ρ) Rt C (jm_ast L σ (pc + 1) lv st 2) := hs
      rcases st with _ | ⟨y | y | y, _ | ⟨x | x | x, _ | ⟨z | z | ⟨t, i⟩, r⟩⟩⟩
      all_goals first
        | exact (jm_no_f hs).elim
        | skip
      · have hs : jm_sem (sd_X p l e R s m args below meth c cells slots Q nL D Y ad ρ) Rt C (match Nat.blt t 100, jm_row L t 2 with | true, some n => jm_ck (vp_in x n ∧ (y = 0 ∨ y = 1)) (wI σ t i (upd (σ.1 t i) x.toNatClampNeg y), pc + 1, lv, r) | _, _ => jm_no) := hs
        cases ht : Nat.blt t 100 <;> cases hrow : jm_row L t 2 <;> rw [ht, hrow] at hs
        · exact (jm_no_f hs).elim
        · exact (jm_no_f hs).elim
        · exact (jm_no_f hs).elim
        · have ht' : t < 100 := by simpa [Nat.blt_eq] using ht
          exact sd_zast hcx ht' hrow (hso _ (by simp)) hs.1.1 hs.1.2 hP hS hd (fun H1 locs1 hP1 hS1 => hs.2 (sd_roI hro ht') hlv (sd_ok3 hso) hlen H1 locs1 ls hP1 hS1 hl)
      · have hs : jm_sem (sd_X p l e R s m args below meth c cells slots Q nL D Y ad ρ) Rt C (match Nat.blt t 100, jm_row L t 2 with | true, some n => jm_no | _, _ => jm_no) := hs
        cases ht : Nat.blt t 100 <;> cases hrow : jm_row L t 2 <;> rw [ht, hrow] at hs <;> exact (jm_no_f hs).elim
    | lastore =>
      cases Nat.eq_of_beq_eq_true hn
      have hs : jm_sem (sd_X p l e R s m args below meth c cells slots Q nL D Y ad ρ) Rt C (jm_ast L σ (pc + 1) lv st 1) := hs
      rcases st with _ | ⟨y | y | y, _ | ⟨x | x | x, _ | ⟨z | z | ⟨t, i⟩, r⟩⟩⟩
      all_goals first
        | exact (jm_no_f hs).elim
        | skip
      · have hs : jm_sem (sd_X p l e R s m args below meth c cells slots Q nL D Y ad ρ) Rt C (match Nat.blt t 100, jm_row L t 1 with | true, some n => jm_no | _, _ => jm_no) := hs
        cases ht : Nat.blt t 100 <;> cases hrow : jm_row L t 1 <;> rw [ht, hrow] at hs <;> exact (jm_no_f hs).elim
      · have hs : jm_sem (sd_X p l e R s m args below meth c cells slots Q nL D Y ad ρ) Rt C (match Nat.blt t 100, jm_row L t 1 with | true, some n => jm_ck (vp_in x n) (wJ σ t i (vp_updL (σ.2 t i) x.toNatClampNeg y), pc + 1, lv, r) | _, _ => jm_no) := hs
        cases ht : Nat.blt t 100 <;> cases hrow : jm_row L t 1 <;> rw [ht, hrow] at hs
        · exact (jm_no_f hs).elim
        · exact (jm_no_f hs).elim
        · exact (jm_no_f hs).elim
        · have ht' : t < 100 := by simpa [Nat.blt_eq] using ht
          exact sd_last hcx ht' hrow (hso _ (by simp)) hs.1 hP hS hd (fun H1 locs1 hP1 hS1 => hs.2 (sd_roJ hro ht') hlv (sd_ok3 hso) hlen H1 locs1 ls hP1 hS1 hl)
    | arraylength =>
      cases Nat.eq_of_beq_eq_true hn
      rcases st with _ | ⟨x | x | ⟨t, i⟩, r⟩
      · exact (jm_no_f hs).elim
      · exact (jm_no_f hs).elim
      · exact (jm_no_f hs).elim
      · have hs : jm_sem (sd_X p l e R s m args below meth c cells slots Q nL D Y ad ρ) Rt C (match jm_kind L t with | some (_, .inr (n, _)) => jm_nx (σ, pc + 1, lv, jI (nI n) :: r) | _ => jm_no) := hs
        cases hk : jm_kind L t with
        | none => rw [hk] at hs; exact (jm_no_f hs).elim
        | some q =>
          obtain ⟨mm, q | ⟨n', w⟩⟩ := q
          · rw [hk] at hs; exact (jm_no_f hs).elim
          · rw [hk] at hs
            exact sd_alen hcx hk (hso _ (by simp)) hP hS hd (hs hro hlv (sd_okc trivial (sd_ok1 hso)) hlen H locs ls hP hS hl)
    | invokevirtual idx =>
      cases Nat.eq_of_beq_eq_true hn
      exact sd_invoke (vt := true) hcx hR1 hcall hs hro hlv hso hlen hP hS hl hd
    | invokestatic idx =>
      cases Nat.eq_of_beq_eq_true hn
      have hs : jm_sem (sd_X p l e R s m args below meth c cells slots Q nL D Y ad ρ) Rt C (match jm_key jm_mm own idx with
        | some b => jm_ii st fun x y r => match Nat.ble (jm_cat r) 8 with
          | true => jm_nx (σ, pc + 3, lv, jI (match (generalizing := false) b with | true => if x < y then y else x | false => if y < x then y else x) :: r)
          | false => jm_no
        | none => jm_inv L own σ pc lv st idx false) := hs
      cases hk : jm_key jm_mm own idx with
      | none => rw [hk] at hs; exact sd_invoke (vt := false) hcx hR1 hcall hs hro hlv hso hlen hP hS hl hd
      | some b =>
        rw [hk] at hs
        obtain ⟨x, y, r, rfl, hs⟩ := jm_ii_inv hs
        have hs : jm_sem (sd_X p l e R s m args below meth c cells slots Q nL D Y ad ρ) Rt C (match Nat.ble (jm_cat r) 8 with
          | true => jm_nx (σ, pc + 3, lv, jI (match (generalizing := false) b with | true => if x < y then y else x | false => if y < x then y else x) :: r)
          | false => jm_no) := hs
        cases hc8 : Nat.ble (jm_cat r) 8 with
        | false => rw [hc8] at hs; exact (jm_no_f hs).elim
        | true =>
          rw [hc8] at hs
          have hcat : jm_cat r ≤ 8 := Nat.le_of_ble_eq_true hc8
          have hsz : c.maxLocals = ls.size := by rw [hml]; exact hl.1.symm
          have hcs : ((r.map (sd_c ad)).map fun v => v.category).sum + 13 ≤ R.locals := by rw [jm_cat_eq]; omega
          have hw := sd_mmF (jm_key_in hk)
          cases b with
          | true => exact va_mmax hx hb hsz hown (hts _ hw) (hts _ (sd_good sd_max.1 rfl)) (hts _ (sd_good sd_max.2.1 rfl)) (hts _ (sd_good sd_max.2.2 rfl)) hR1.1 hcs hR1.2.2.1 hR1.2.2.2 hd (hs hro hlv (sd_okc trivial (sd_ok2 hso)) hlen H locs ls hP hS hl)
          | false => exact va_mmin hx hb hsz hown (hts _ hw) (hts _ (sd_good sd_min.1 rfl)) (hts _ (sd_good sd_min.2.1 rfl)) (hts _ (sd_good sd_min.2.2 rfl)) hR1.1 hcs hR1.2.2.1 hR1.2.2.2 hd (hs hro hlv (sd_okc trivial (sd_ok2 hso)) hlen H locs ls hP hS hl)
    | ireturn =>
      cases Nat.eq_of_beq_eq_true hn
      rcases st with _ | ⟨x | x | x, _ | ⟨y, r⟩⟩
      all_goals first
        | exact (jm_no_f hs).elim
        | skip
      have hs : jm_sem (sd_X p l e R s m args below meth c cells slots Q nL D Y ad ρ) Rt C (match Nat.beq rk 1 with
        | true => jm_rt True (some (jI x)) σ
        | false => match Nat.beq rk 3 with
          | true => jm_rt (x = 0 ∨ x = 1) (some (jI x)) σ
          | false => jm_no) := hs
      cases h1 : Nat.beq rk 1 with
      | true => rw [h1] at hs; exact hret _ (some (jI x)) σ H locs ls pc hd (Or.inl ⟨rfl, x, rfl, Or.inl (Nat.eq_of_beq_eq_true h1)⟩) hs.2 hro (fun u hu => by cases hu; trivial) hP hS
      | false =>
        rw [h1] at hs
        have hs : jm_sem (sd_X p l e R s m args below meth c cells slots Q nL D Y ad ρ) Rt C (match Nat.beq rk 3 with
          | true => jm_rt (x = 0 ∨ x = 1) (some (jI x)) σ
          | false => jm_no) := hs
        cases h3 : Nat.beq rk 3 with
        | true => rw [h3] at hs; exact hret _ (some (jI x)) σ H locs ls pc hd (Or.inl ⟨rfl, x, rfl, Or.inr ⟨Nat.eq_of_beq_eq_true h3, hs.1⟩⟩) hs.2 hro (fun u hu => by cases hu; trivial) hP hS
        | false => rw [h3] at hs; exact (jm_no_f hs).elim
    | lreturn =>
      cases Nat.eq_of_beq_eq_true hn
      have hs : jm_sem (sd_X p l e R s m args below meth c cells slots Q nL D Y ad ρ) Rt C (match (generalizing := false) st, Nat.beq rk 2 with | [.inr (.inl x)], true => jm_rt True (some (jJ x)) σ | _, _ => jm_no) := hs
      cases h1 : Nat.beq rk 2 with
      | false => rw [h1] at hs; split at hs <;> first | exact (jm_no_f hs).elim | contradiction
      | true =>
        rw [h1] at hs
        rcases st with _ | ⟨x | x | x, _ | ⟨y, r⟩⟩
        all_goals first
          | exact (jm_no_f hs).elim
          | skip
        exact hret _ (some (jJ x)) σ H locs ls pc hd (Or.inr (Or.inl ⟨rfl, Nat.eq_of_beq_eq_true h1, x, rfl⟩)) hs.2 hro (fun u hu => by cases hu; trivial) hP hS
    | areturn =>
      cases Nat.eq_of_beq_eq_true hn
      have hs : jm_sem (sd_X p l e R s m args below meth c cells slots Q nL D Y ad ρ) Rt C (match (generalizing := false) st, Nat.beq rk 4 with | [.inr (.inr q)], true => jm_rt True (some (.inr (.inr q))) σ | _, _ => jm_no) := hs
      cases h1 : Nat.beq rk 4 with
      | false => rw [h1] at hs; split at hs <;> first | exact (jm_no_f hs).elim | contradiction
      | true =>
        rw [h1] at hs
        rcases st with _ | ⟨x | x | x, _ | ⟨y, r⟩⟩
        all_goals first
          | exact (jm_no_f hs).elim
          | skip
        exact hret _ (some (.inr (.inr x))) σ H locs ls pc hd (Or.inr (Or.inr (Or.inl ⟨rfl, Nat.eq_of_beq_eq_true h1, x, rfl⟩))) hs.2 hro (fun u hu => by cases hu; exact hso _ (by simp)) hP hS
    | return_ =>
      cases Nat.eq_of_beq_eq_true hn
      have hs : jm_sem (sd_X p l e R s m args below meth c cells slots Q nL D Y ad ρ) Rt C (match (generalizing := false) st, Nat.beq rk 0 with | [], true => jm_rt True none σ | _, _ => jm_no) := hs
      cases h1 : Nat.beq rk 0 with
      | false => rw [h1] at hs; split at hs <;> first | exact (jm_no_f hs).elim | contradiction
      | true =>
        rw [h1] at hs
        rcases st with _ | ⟨x, r⟩
        · exact hret _ none σ H locs ls pc hd (Or.inr (Or.inr (Or.inr ⟨rfl, Nat.eq_of_beq_eq_true h1, rfl⟩))) hs.2 hro (fun u hu => by cases hu) hP hS
        · exact (jm_no_f hs).elim
    | _ => exact (jm_no_f hs).elim
end CLOSE
end
section
/-! THE CONTRACTS: what the abstract machine does, the methods do -/
theorem jm_pad_at : ∀ (n : Nat) (l : jm_L) (i : Nat) {v : jm_V}, jm_at (jm_pad n l) i = some v → jm_at l i = some v
  | 0, _, _, _, h => h
  | n + 1, [], 0, _, h => by simp [jm_pad, jm_at] at h
  | n + 1, [], i + 1, v, h => by
    have h1 := jm_pad_at n [] i (v := v) h
    simp [jm_at] at h1
  | n + 1, _ :: _, 0, _, h => h
  | n + 1, _ :: l, i + 1, v, h => jm_pad_at n l i (v := v) h
theorem jm_pad_len : ∀ (n : Nat) (l : jm_L), l.length ≤ n → (jm_pad n l).length = n
  | 0, [], _ => rfl
  | 0, _ :: _, h => by simp at h
  | n + 1, [], _ => by simp [jm_pad, jm_pad_len n [] (by simp)]
  | n + 1, _ :: l, h => by simp [jm_pad, jm_pad_len n l (by simpa using h)]
theorem jm_lay_len (ad : Nat → Nat → Nat) : ∀ as : List jm_V, (lg_sl (as.map (sd_c ad))).length = (jm_lay as).length
  | [] => rfl
  | .inl x :: r => by
    have e : lg_sl ((Sum.inl x :: r : List jm_V).map (sd_c ad)) = [Slot.val (.int x)] ++ lg_sl (r.map (sd_c ad)) := by simp only [lg_sl, List.map_cons, List.flatMap_cons]; rfl
    rw [e, List.length_append, jm_lay_len ad r]
    simp [jm_lay]
    omega
  | .inr (.inl x) :: r => by
    have e : lg_sl ((Sum.inr (Sum.inl x) :: r : List jm_V).map (sd_c ad)) = [Slot.val (.long x), .second] ++ lg_sl (r.map (sd_c ad)) := by simp only [lg_sl, List.map_cons, List.flatMap_cons]; rfl
    rw [e, List.length_append, jm_lay_len ad r]
    simp [jm_lay]
    omega
  | .inr (.inr x) :: r => by
    have e : lg_sl ((Sum.inr (Sum.inr x) :: r : List jm_V).map (sd_c ad)) = [Slot.val (.ref (ad x.1 x.2))] ++ lg_sl (r.map (sd_c ad)) := by simp only [lg_sl, List.map_cons, List.flatMap_cons]; rfl
    rw [e, List.length_append, jm_lay_len ad r]
    simp [jm_lay]
    omega
theorem jm_lay_args (ad : Nat → Nat → Nat) : ∀ (as : List jm_V) (k i : Nat) {v : jm_V}, jm_at (jm_lay as) i = some v → (k + i, sd_c ad v) ∈ lv_args k (as.map (sd_c ad)) ∧ v ∈ as
  | [], _, _, _, h => by simp [jm_lay, jm_at] at h
  | .inl x :: r, k, 0, v, h => by
    have h' : some (jI x) = some v := h
    cases h'
    exact ⟨List.mem_cons_self, List.mem_cons_self⟩
  | .inl x :: r, k, i + 1, v, h => by
    have h1 := jm_lay_args ad r (k + 1) i (v := v) h
    refine ⟨List.mem_cons_of_mem _ ?_, List.mem_cons_of_mem _ h1.2⟩
    have e : k + (i + 1) = k + 1 + i := by omega
    rw [e]
    exact h1.1
  | .inr (.inr x) :: r, k, 0, v, h => by
    have h' : some (Sum.inr (Sum.inr x) : jm_V) = some v := h
    cases h'
    exact ⟨List.mem_cons_self, List.mem_cons_self⟩
  | .inr (.inr x) :: r, k, i + 1, v, h => by
    have h1 := jm_lay_args ad r (k + 1) i (v := v) h
    refine ⟨List.mem_cons_of_mem _ ?_, List.mem_cons_of_mem _ h1.2⟩
    have e : k + (i + 1) = k + 1 + i := by omega
    rw [e]
    exact h1.1
  | .inr (.inl x) :: r, k, 0, v, h => by
    have h' : some (jJ x) = some v := h
    cases h'
    exact ⟨List.mem_cons_self, List.mem_cons_self⟩
  | .inr (.inl x) :: r, k, 1, v, h => by simp [jm_lay, jm_at] at h
  | .inr (.inl x) :: r, k, i + 2, v, h => by
    have h1 := jm_lay_args ad r (k + 2) i (v := v) h
    refine ⟨List.mem_cons_of_mem _ ?_, List.mem_cons_of_mem _ h1.2⟩
    have e : k + (i + 2) = k + 2 + i := by omega
    rw [e]
    exact h1.1
theorem sd_entry (ad : Nat → Nat → Nat) (as : List jm_V) {nL : Nat} (h : (jm_lay as).length ≤ nL) : lv_has ((lg_sl (as.map (sd_c ad)) ++ List.replicate (nL - (lg_sl (as.map (sd_c ad))).length) Slot.unset).toArray) nL (sd_ll ad (jm_pad nL (jm_lay as)) 0) := by
  have h0 := lv_entry (as.map (sd_c ad)) (n := nL) (by rw [jm_lay_len]; exact h)
  refine ⟨h0.1, h0.2.1, fun q hq => h0.2.2 q ?_⟩
  obtain ⟨j, x⟩ := q
  obtain ⟨n, u, e, h1, h2⟩ := (sd_ll_in _ _ _ _).mp hq
  subst h2; subst e
  exact (jm_lay_args ad as 0 n (jm_pad_at _ _ _ h1)).1
set_option maxHeartbeats 4000000 in
theorem sd_sound (l : Launch) (L : Nat) (D : va_G) (Y : sd_Y) (ad : Nat → Nat → Nat) (ρ : jm_G) : ∀ (d k : Nat) (as : List jm_V) (σ : jm_G) (post : Option jm_V → jm_G → Prop), jm_does L d k as σ post → sd_Met l L D Y ad ρ d k as σ post
  | 0, _, _, _, _, h => h.elim
  | d + 1, k, as, σ, post, h => by
    intro q hq hro hok
    obtain ⟨hcode, own, rk, cd, hm, hcls, hplain, -, -, hret, hdec, h60⟩ := sd_mF hq
    unfold jm_does at h
    rw [jm_nth_eq, hm] at h
    obtain ⟨hlen, hruns⟩ := h
    refine Met.ofW (cc := q.2.1) (maxL := q.2.2.1) (ret := q.2.2.2) hplain rfl ?_
    intro p e s m args below meth c s₁ B hml hv
    obtain ⟨rfl, hst, hP⟩ := hv
    have hts : ∀ w ∈ sd_W, w.before (as.map (sd_c ad)).toArray s = true := fun w hw => atoms_spec (ws := Cond.code q.1 q.2.1 q.2.2.1 q.2.2.2 :: sd_W) B.pre w (List.mem_cons_of_mem _ hw)
    have hown : s.vm.findClass (sd_own own) = some m.cls := by rw [← hcls]; exact findClass_of_methodNamed B.named
    have hcx : sd_cx p s m (as.map (sd_c ad)).toArray c L own q.2.2.1 q.2.1 D Y ad ρ := ⟨B.exec, B.bytes, hml, hown, hts, hst⟩
    have hlocks := B.notSynchronized
    have hb := B.bytes
    have hx := B.exec
    have hr := B.returns
    have hR : sd_hret p l e (sd_rm (d + 1)) s m (as.map (sd_c ad)).toArray below meth c 0 0 (MQ below (sd_Qc D Y ad ρ post) (as.map (sd_c ad)).toArray s 0 0 (sd_A ad)) rk q.2.1 D Y ad ρ post := by
      intro i v τ H locs ls pc hd hrt hpo hro' hok' hP' hS'
      have hq9 : ∀ t : State, t.heap = H → s.WarmedH t.vm → sd_Qc D Y ad ρ post (as.map (sd_c ad)).toArray s (.returned (v.map (sd_c ad))) t := fun t ht hW => ⟨⟨v, τ, rfl, hpo, hro', hok', by rw [ht]; exact hP'⟩, hS'.F ht⟩
      rcases hrt with ⟨rfl, x, rfl, hk⟩ | ⟨rfl, rfl, x, rfl⟩ | ⟨rfl, rfl, x, rfl⟩ | ⟨rfl, rfl, rfl⟩
      · rcases hk with rfl | ⟨rfl, h01⟩
        · rcases hret with ⟨h0, -⟩ | ⟨-, hret⟩ | ⟨h0, -⟩ | ⟨h0, -⟩ | ⟨h0, -⟩
          all_goals first | (cases h0; done) | skip
          exact W.iret hx hb (hr.trans hret) hq9 hS'.2.2 hd
        · rcases hret with ⟨h0, -⟩ | ⟨h0, -⟩ | ⟨h0, -⟩ | ⟨-, hret⟩ | ⟨h0, -⟩
          all_goals first | (cases h0; done) | skip
          exact W.zret hx hb (hr.trans hret) (by rcases h01 with rfl | rfl <;> rfl) hq9 hS'.2.2 hd
      · rcases hret with ⟨h0, -⟩ | ⟨h0, -⟩ | ⟨-, hret⟩ | ⟨h0, -⟩ | ⟨h0, -⟩
        all_goals first | (cases h0; done) | skip
        exact W.lret hx hb (hr.trans hret) hq9 hS'.2.2 hd
      · rcases hret with ⟨h0, -⟩ | ⟨h0, -⟩ | ⟨h0, -⟩ | ⟨h0, -⟩ | ⟨-, n, hret⟩
        all_goals first | (cases h0; done) | skip
        exact W.aret hx hb (hr.trans hret) (Or.inl ⟨n, rfl⟩) (Or.inr ⟨_, rfl⟩) hq9 hS'.2.2 hd
      · rcases hret with ⟨-, hret⟩ | ⟨h0, -⟩ | ⟨h0, -⟩ | ⟨h0, -⟩ | ⟨h0, -⟩
        all_goals first | (cases h0; done) | skip
        exact W.vret hx hb (hr.trans hret) hq9 hS'.2.2 hd
    have hC : sd_hcall l (sd_rm (d + 1)) L D Y ad ρ (jm_does L d) := by
      intro k' as' σ' post' h' q' hq' hro' hok'
      obtain ⟨-, -, -, -, -, -, -, -, -, -, -, h60'⟩ := sd_mF hq'
      exact ⟨sd_rm d, rfl, rfl, Nat.le_refl _, by simp only [sd_rm]; omega, sd_sound l L D Y ad ρ d k' as' σ' post' h' q' hq' hro' hok'⟩
    have X := hruns (sd_X p l e (sd_rm (d + 1)) s m (as.map (sd_c ad)).toArray below meth c 0 0 (MQ below (sd_Qc D Y ad ρ post) (as.map (sd_c ad)).toArray s 0 0 (sd_A ad)) q.2.2.1 D Y ad ρ) (fun _ h => h.elim)
      (sd_step hcx ⟨by simp only [sd_rm]; omega, by simp only [sd_rm]; omega, Nat.le_refl _, Nat.le_refl _⟩ hR hC hdec)
      (fun σ pc lv lv' st hle hX h1 h2 h3 h4 H locs ls h5 h6 h7 => hX h1 (fun i v hv => h2 i v (jm_le_at hle hv)) h3 ((jm_le_len hle).trans h4) H locs ls h5 h6 (sd_ll_le hle h7))
    have h9 := X hro (fun i v hv => hok v (jm_lay_args ad as 0 i (jm_pad_at _ _ _ hv)).2) (fun v hv => by cases hv) (jm_pad_len _ _ hlen) s.heap [] _ hP va_S.rf (sd_entry ad as hlen)
    rw [lg_entry_eq]
    exact h9
end
