section
-- written by wip/gen/gen.py out of the claim's printed tables; PART A of the skeleton first
-- ===== PART A: goes FIRST, ahead of the names: the tables' words, and 'selects' of the private methods out of them =====
/-- a private method of a class that the tables say can be made, by its rows of tables_1 -/
def lw_okq (q : MethodName × Nat) : Prop := (q.1.cls ≠ "java/lang/invoke/MethodHandle" ∧ q.1.cls ≠ "java/lang/invoke/VarHandle") ∧ Cond.instantiable q.1.cls q.2 ∈ tables_1 ∧ Cond.privateMethod q.1 ∈ tables_1 ∧ Cond.instanceMethod q.1 ∈ tables_1
theorem lw_p0 : lw_okq (⟨"TableMapper", "cutsOfK", "()LTableMapper$Cuts;"⟩, 9) := ⟨⟨by decide +kernel, by decide +kernel⟩, List.mem_of_getElem? (i := 19) (by decide +kernel), List.mem_of_getElem? (i := 430) (by decide +kernel), List.mem_of_getElem? (i := 431) (by decide +kernel)⟩
theorem lw_p1 : lw_okq (⟨"TableMapper$Cuts", "belowAtLevel", "(II)J"⟩, 9) := ⟨⟨by decide +kernel, by decide +kernel⟩, List.mem_of_getElem? (i := 152) (by decide +kernel), List.mem_of_getElem? (i := 450) (by decide +kernel), List.mem_of_getElem? (i := 451) (by decide +kernel)⟩
theorem lw_p2 : lw_okq (⟨"TableMapper$Ways", "findWay", "(J)I"⟩, 8) := ⟨⟨by decide +kernel, by decide +kernel⟩, List.mem_of_getElem? (i := 104) (by decide +kernel), List.mem_of_getElem? (i := 460) (by decide +kernel), List.mem_of_getElem? (i := 461) (by decide +kernel)⟩
theorem lw_p3 : lw_okq (⟨"TableMapper$Ways", "seeUppers", "(JI)V"⟩, 8) := ⟨⟨by decide +kernel, by decide +kernel⟩, List.mem_of_getElem? (i := 104) (by decide +kernel), List.mem_of_getElem? (i := 464) (by decide +kernel), List.mem_of_getElem? (i := 465) (by decide +kernel)⟩
theorem lw_p4 : lw_okq (⟨"TableMapper$Ways", "seeLower", "(II)V"⟩, 8) := ⟨⟨by decide +kernel, by decide +kernel⟩, List.mem_of_getElem? (i := 104) (by decide +kernel), List.mem_of_getElem? (i := 469) (by decide +kernel), List.mem_of_getElem? (i := 470) (by decide +kernel)⟩
theorem lw_p5 : lw_okq (⟨"TableMapper$Ways", "layWay", "(I)V"⟩, 8) := ⟨⟨by decide +kernel, by decide +kernel⟩, List.mem_of_getElem? (i := 104) (by decide +kernel), List.mem_of_getElem? (i := 474) (by decide +kernel), List.mem_of_getElem? (i := 475) (by decide +kernel)⟩
theorem lw_p6 : lw_okq (⟨"TableMapper$Cuts", "learnKept", "(I)V"⟩, 9) := ⟨⟨by decide +kernel, by decide +kernel⟩, List.mem_of_getElem? (i := 152) (by decide +kernel), List.mem_of_getElem? (i := 478) (by decide +kernel), List.mem_of_getElem? (i := 479) (by decide +kernel)⟩
theorem lw_p7 : lw_okq (⟨"TableMapper$Cuts", "placeInRow", "(J)J"⟩, 9) := ⟨⟨by decide +kernel, by decide +kernel⟩, List.mem_of_getElem? (i := 152) (by decide +kernel), List.mem_of_getElem? (i := 486) (by decide +kernel), List.mem_of_getElem? (i := 487) (by decide +kernel)⟩
theorem lw_p8 : lw_okq (⟨"TableMapper$Cuts", "choices", "(II)I"⟩, 9) := ⟨⟨by decide +kernel, by decide +kernel⟩, List.mem_of_getElem? (i := 152) (by decide +kernel), List.mem_of_getElem? (i := 494) (by decide +kernel), List.mem_of_getElem? (i := 495) (by decide +kernel)⟩
theorem lw_p9 : lw_okq (⟨"TableMapper$Cuts", "choice", "(III)J"⟩, 9) := ⟨⟨by decide +kernel, by decide +kernel⟩, List.mem_of_getElem? (i := 152) (by decide +kernel), List.mem_of_getElem? (i := 502) (by decide +kernel), List.mem_of_getElem? (i := 503) (by decide +kernel)⟩
theorem lw_p10 : lw_okq (⟨"TableMapper$Cuts", "addWithThird", "(IJ)V"⟩, 9) := ⟨⟨by decide +kernel, by decide +kernel⟩, List.mem_of_getElem? (i := 152) (by decide +kernel), List.mem_of_getElem? (i := 506) (by decide +kernel), List.mem_of_getElem? (i := 507) (by decide +kernel)⟩
theorem lw_p11 : lw_okq (⟨"TableMapper$Cuts", "takeKept", "(I)V"⟩, 9) := ⟨⟨by decide +kernel, by decide +kernel⟩, List.mem_of_getElem? (i := 152) (by decide +kernel), List.mem_of_getElem? (i := 511) (by decide +kernel), List.mem_of_getElem? (i := 512) (by decide +kernel)⟩
theorem lw_p12 : lw_okq (⟨"TableMapper$Row", "dropAllWith", "(J)V"⟩, 3) := ⟨⟨by decide +kernel, by decide +kernel⟩, List.mem_of_getElem? (i := 135) (by decide +kernel), List.mem_of_getElem? (i := 519) (by decide +kernel), List.mem_of_getElem? (i := 520) (by decide +kernel)⟩
theorem lw_p13 : lw_okq (⟨"TableMapper$Cover", "arrivalBy", "(J)I"⟩, 5) := ⟨⟨by decide +kernel, by decide +kernel⟩, List.mem_of_getElem? (i := 190) (by decide +kernel), List.mem_of_getElem? (i := 529) (by decide +kernel), List.mem_of_getElem? (i := 530) (by decide +kernel)⟩
theorem lw_p14 : lw_okq (⟨"TableMapper$Cover", "withChosen", "(JII)J"⟩, 5) := ⟨⟨by decide +kernel, by decide +kernel⟩, List.mem_of_getElem? (i := 190) (by decide +kernel), List.mem_of_getElem? (i := 543) (by decide +kernel), List.mem_of_getElem? (i := 544) (by decide +kernel)⟩
theorem lw_p15 : lw_okq (⟨"TableMapper", "followCover", "()V"⟩, 9) := ⟨⟨by decide +kernel, by decide +kernel⟩, List.mem_of_getElem? (i := 19) (by decide +kernel), List.mem_of_getElem? (i := 548) (by decide +kernel), List.mem_of_getElem? (i := 549) (by decide +kernel)⟩
def lw_privs_1 : List (MethodName × Nat) := [(⟨"TableMapper", "cutsOfK", "()LTableMapper$Cuts;"⟩, 9), (⟨"TableMapper$Cuts", "belowAtLevel", "(II)J"⟩, 9), (⟨"TableMapper$Ways", "findWay", "(J)I"⟩, 8), (⟨"TableMapper$Ways", "seeUppers", "(JI)V"⟩, 8), (⟨"TableMapper$Ways", "seeLower", "(II)V"⟩, 8), (⟨"TableMapper$Ways", "layWay", "(I)V"⟩, 8), (⟨"TableMapper$Cuts", "learnKept", "(I)V"⟩, 9), (⟨"TableMapper$Cuts", "placeInRow", "(J)J"⟩, 9), (⟨"TableMapper$Cuts", "choices", "(II)I"⟩, 9), (⟨"TableMapper$Cuts", "choice", "(III)J"⟩, 9), (⟨"TableMapper$Cuts", "addWithThird", "(IJ)V"⟩, 9), (⟨"TableMapper$Cuts", "takeKept", "(I)V"⟩, 9), (⟨"TableMapper$Row", "dropAllWith", "(J)V"⟩, 3), (⟨"TableMapper$Cover", "arrivalBy", "(J)I"⟩, 5), (⟨"TableMapper$Cover", "withChosen", "(JII)J"⟩, 5), (⟨"TableMapper", "followCover", "()V"⟩, 9)]
theorem lw_r1 : ∀ q ∈ lw_privs_1, lw_okq q := List.forall_mem_cons.mpr ⟨lw_p0, List.forall_mem_cons.mpr ⟨lw_p1, List.forall_mem_cons.mpr ⟨lw_p2, List.forall_mem_cons.mpr ⟨lw_p3, List.forall_mem_cons.mpr ⟨lw_p4, List.forall_mem_cons.mpr ⟨lw_p5, List.forall_mem_cons.mpr ⟨lw_p6, List.forall_mem_cons.mpr ⟨lw_p7, List.forall_mem_cons.mpr ⟨lw_p8, List.forall_mem_cons.mpr ⟨lw_p9, List.forall_mem_cons.mpr ⟨lw_p10, List.forall_mem_cons.mpr ⟨lw_p11, List.forall_mem_cons.mpr ⟨lw_p12, List.forall_mem_cons.mpr ⟨lw_p13, List.forall_mem_cons.mpr ⟨lw_p14, List.forall_mem_cons.mpr ⟨lw_p15, fun _ h => absurd h List.not_mem_nil⟩⟩⟩⟩⟩⟩⟩⟩⟩⟩⟩⟩⟩⟩⟩⟩
theorem lw_p16 : lw_okq (⟨"TableMapper$Cells", "findMates", "(I)V"⟩, 11) := ⟨⟨by decide +kernel, by decide +kernel⟩, List.mem_of_getElem? (i := 240) (by decide +kernel), List.mem_of_getElem? (i := 560) (by decide +kernel), List.mem_of_getElem? (i := 561) (by decide +kernel)⟩
theorem lw_p17 : lw_okq (⟨"TableMapper$Cells", "pairTables", "()V"⟩, 11) := ⟨⟨by decide +kernel, by decide +kernel⟩, List.mem_of_getElem? (i := 240) (by decide +kernel), List.mem_of_getElem? (i := 568) (by decide +kernel), List.mem_of_getElem? (i := 569) (by decide +kernel)⟩
theorem lw_p18 : lw_okq (⟨"TableMapper$Cells", "layTables", "()V"⟩, 11) := ⟨⟨by decide +kernel, by decide +kernel⟩, List.mem_of_getElem? (i := 240) (by decide +kernel), List.mem_of_getElem? (i := 573) (by decide +kernel), List.mem_of_getElem? (i := 574) (by decide +kernel)⟩
theorem lw_p19 : lw_okq (⟨"TableMapper$Cells", "addCell", "(JJJ)V"⟩, 11) := ⟨⟨by decide +kernel, by decide +kernel⟩, List.mem_of_getElem? (i := 240) (by decide +kernel), List.mem_of_getElem? (i := 577) (by decide +kernel), List.mem_of_getElem? (i := 578) (by decide +kernel)⟩
theorem lw_p20 : lw_okq (⟨"TableMapper$Cells", "join", "(II)V"⟩, 11) := ⟨⟨by decide +kernel, by decide +kernel⟩, List.mem_of_getElem? (i := 240) (by decide +kernel), List.mem_of_getElem? (i := 581) (by decide +kernel), List.mem_of_getElem? (i := 582) (by decide +kernel)⟩
theorem lw_p21 : lw_okq (⟨"TableMapper$Cells", "layRegisters", "()V"⟩, 11) := ⟨⟨by decide +kernel, by decide +kernel⟩, List.mem_of_getElem? (i := 240) (by decide +kernel), List.mem_of_getElem? (i := 585) (by decide +kernel), List.mem_of_getElem? (i := 586) (by decide +kernel)⟩
theorem lw_p22 : lw_okq (⟨"TableMapper$Cells", "usedByTables", "()J"⟩, 11) := ⟨⟨by decide +kernel, by decide +kernel⟩, List.mem_of_getElem? (i := 240) (by decide +kernel), List.mem_of_getElem? (i := 589) (by decide +kernel), List.mem_of_getElem? (i := 590) (by decide +kernel)⟩
theorem lw_p23 : lw_okq (⟨"TableMapper$Cells", "fedToSeveral", "()J"⟩, 11) := ⟨⟨by decide +kernel, by decide +kernel⟩, List.mem_of_getElem? (i := 240) (by decide +kernel), List.mem_of_getElem? (i := 593) (by decide +kernel), List.mem_of_getElem? (i := 594) (by decide +kernel)⟩
theorem lw_p24 : lw_okq (⟨"TableMapper$Cover", "findDue", "(JI)V"⟩, 5) := ⟨⟨by decide +kernel, by decide +kernel⟩, List.mem_of_getElem? (i := 190) (by decide +kernel), List.mem_of_getElem? (i := 615) (by decide +kernel), List.mem_of_getElem? (i := 616) (by decide +kernel)⟩
theorem lw_p25 : lw_okq (⟨"TableMapper$Cover", "bestCut", "(LTableMapper$Cuts;IJ)J"⟩, 5) := ⟨⟨by decide +kernel, by decide +kernel⟩, List.mem_of_getElem? (i := 190) (by decide +kernel), List.mem_of_getElem? (i := 622) (by decide +kernel), List.mem_of_getElem? (i := 623) (by decide +kernel)⟩
theorem lw_p26 : lw_okq (⟨"TableMapper$Cover", "tablesWith", "(JJI)J"⟩, 5) := ⟨⟨by decide +kernel, by decide +kernel⟩, List.mem_of_getElem? (i := 190) (by decide +kernel), List.mem_of_getElem? (i := 626) (by decide +kernel), List.mem_of_getElem? (i := 627) (by decide +kernel)⟩
theorem lw_p27 : lw_okq (⟨"TableMapper$Signals", "registersNext", "()J"⟩, 3) := ⟨⟨by decide +kernel, by decide +kernel⟩, List.mem_of_getElem? (i := 87) (by decide +kernel), List.mem_of_getElem? (i := 657) (by decide +kernel), List.mem_of_getElem? (i := 658) (by decide +kernel)⟩
theorem lw_p28 : lw_okq (⟨"TableMapper$Signals", "nodesOn", "(J)J"⟩, 3) := ⟨⟨by decide +kernel, by decide +kernel⟩, List.mem_of_getElem? (i := 87) (by decide +kernel), List.mem_of_getElem? (i := 665) (by decide +kernel), List.mem_of_getElem? (i := 666) (by decide +kernel)⟩
theorem lw_p29 : lw_okq (⟨"TableMapper$Contents", "findBits", "(I)J"⟩, 5) := ⟨⟨by decide +kernel, by decide +kernel⟩, List.mem_of_getElem? (i := 218) (by decide +kernel), List.mem_of_getElem? (i := 753) (by decide +kernel), List.mem_of_getElem? (i := 754) (by decide +kernel)⟩
theorem lw_p30 : lw_okq (⟨"TableMapper$Clustering", "withMostNetsIn", "()I"⟩, 8) := ⟨⟨by decide +kernel, by decide +kernel⟩, List.mem_of_getElem? (i := 290) (by decide +kernel), List.mem_of_getElem? (i := 804) (by decide +kernel), List.mem_of_getElem? (i := 805) (by decide +kernel)⟩
theorem lw_p31 : lw_okq (⟨"TableMapper$Clustering", "take", "(I)V"⟩, 8) := ⟨⟨by decide +kernel, by decide +kernel⟩, List.mem_of_getElem? (i := 290) (by decide +kernel), List.mem_of_getElem? (i := 810) (by decide +kernel), List.mem_of_getElem? (i := 811) (by decide +kernel)⟩
def lw_privs_2 : List (MethodName × Nat) := [(⟨"TableMapper$Cells", "findMates", "(I)V"⟩, 11), (⟨"TableMapper$Cells", "pairTables", "()V"⟩, 11), (⟨"TableMapper$Cells", "layTables", "()V"⟩, 11), (⟨"TableMapper$Cells", "addCell", "(JJJ)V"⟩, 11), (⟨"TableMapper$Cells", "join", "(II)V"⟩, 11), (⟨"TableMapper$Cells", "layRegisters", "()V"⟩, 11), (⟨"TableMapper$Cells", "usedByTables", "()J"⟩, 11), (⟨"TableMapper$Cells", "fedToSeveral", "()J"⟩, 11), (⟨"TableMapper$Cover", "findDue", "(JI)V"⟩, 5), (⟨"TableMapper$Cover", "bestCut", "(LTableMapper$Cuts;IJ)J"⟩, 5), (⟨"TableMapper$Cover", "tablesWith", "(JJI)J"⟩, 5), (⟨"TableMapper$Signals", "registersNext", "()J"⟩, 3), (⟨"TableMapper$Signals", "nodesOn", "(J)J"⟩, 3), (⟨"TableMapper$Contents", "findBits", "(I)J"⟩, 5), (⟨"TableMapper$Clustering", "withMostNetsIn", "()I"⟩, 8), (⟨"TableMapper$Clustering", "take", "(I)V"⟩, 8)]
theorem lw_r2 : ∀ q ∈ lw_privs_2, lw_okq q := List.forall_mem_cons.mpr ⟨lw_p16, List.forall_mem_cons.mpr ⟨lw_p17, List.forall_mem_cons.mpr ⟨lw_p18, List.forall_mem_cons.mpr ⟨lw_p19, List.forall_mem_cons.mpr ⟨lw_p20, List.forall_mem_cons.mpr ⟨lw_p21, List.forall_mem_cons.mpr ⟨lw_p22, List.forall_mem_cons.mpr ⟨lw_p23, List.forall_mem_cons.mpr ⟨lw_p24, List.forall_mem_cons.mpr ⟨lw_p25, List.forall_mem_cons.mpr ⟨lw_p26, List.forall_mem_cons.mpr ⟨lw_p27, List.forall_mem_cons.mpr ⟨lw_p28, List.forall_mem_cons.mpr ⟨lw_p29, List.forall_mem_cons.mpr ⟨lw_p30, List.forall_mem_cons.mpr ⟨lw_p31, fun _ h => absurd h List.not_mem_nil⟩⟩⟩⟩⟩⟩⟩⟩⟩⟩⟩⟩⟩⟩⟩⟩
theorem lw_p32 : lw_okq (⟨"TableMapper$Clustering", "bestToCome", "(I)I"⟩, 8) := ⟨⟨by decide +kernel, by decide +kernel⟩, List.mem_of_getElem? (i := 290) (by decide +kernel), List.mem_of_getElem? (i := 819) (by decide +kernel), List.mem_of_getElem? (i := 820) (by decide +kernel)⟩
theorem lw_p33 : lw_okq (⟨"TableMapper$Cover", "latestOf", "(J)I"⟩, 5) := ⟨⟨by decide +kernel, by decide +kernel⟩, List.mem_of_getElem? (i := 190) (by decide +kernel), List.mem_of_getElem? (i := 867) (by decide +kernel), List.mem_of_getElem? (i := 868) (by decide +kernel)⟩
theorem lw_p34 : lw_okq (⟨"java/lang/Throwable", "fillInStackTrace", "(I)Ljava/lang/Throwable;"⟩, 6) := ⟨⟨by decide +kernel, by decide +kernel⟩, List.mem_of_getElem? (i := 919) (by decide +kernel), List.mem_of_getElem? (i := 917) (by decide +kernel), List.mem_of_getElem? (i := 918) (by decide +kernel)⟩
theorem lw_p35 : lw_okq (⟨"TableMapperModel", "adds", "(I)I"⟩, 45) := ⟨⟨by decide +kernel, by decide +kernel⟩, List.mem_of_getElem? (i := 950) (by decide +kernel), List.mem_of_getElem? (i := 1101) (by decide +kernel), List.mem_of_getElem? (i := 1102) (by decide +kernel)⟩
theorem lw_p36 : lw_okq (⟨"TableMapperModel", "changes", "()V"⟩, 45) := ⟨⟨by decide +kernel, by decide +kernel⟩, List.mem_of_getElem? (i := 950) (by decide +kernel), List.mem_of_getElem? (i := 1105) (by decide +kernel), List.mem_of_getElem? (i := 1106) (by decide +kernel)⟩
theorem lw_p37 : lw_okq (⟨"TableMapperModel", "isNode", "(I)Z"⟩, 45) := ⟨⟨by decide +kernel, by decide +kernel⟩, List.mem_of_getElem? (i := 950) (by decide +kernel), List.mem_of_getElem? (i := 1116) (by decide +kernel), List.mem_of_getElem? (i := 1117) (by decide +kernel)⟩
theorem lw_p38 : lw_okq (⟨"TableMapperModel", "isRegister", "(I)Z"⟩, 45) := ⟨⟨by decide +kernel, by decide +kernel⟩, List.mem_of_getElem? (i := 950) (by decide +kernel), List.mem_of_getElem? (i := 1131) (by decide +kernel), List.mem_of_getElem? (i := 1132) (by decide +kernel)⟩
theorem lw_p39 : lw_okq (⟨"TableMapperModel", "lays", "()V"⟩, 45) := ⟨⟨by decide +kernel, by decide +kernel⟩, List.mem_of_getElem? (i := 950) (by decide +kernel), List.mem_of_getElem? (i := 1153) (by decide +kernel), List.mem_of_getElem? (i := 1154) (by decide +kernel)⟩
theorem lw_p40 : lw_okq (⟨"TableMapperModel", "isCutOff", "(II)Z"⟩, 45) := ⟨⟨by decide +kernel, by decide +kernel⟩, List.mem_of_getElem? (i := 950) (by decide +kernel), List.mem_of_getElem? (i := 1157) (by decide +kernel), List.mem_of_getElem? (i := 1158) (by decide +kernel)⟩
theorem lw_p41 : lw_okq (⟨"TableMapperModel", "spreads", "(II)I"⟩, 45) := ⟨⟨by decide +kernel, by decide +kernel⟩, List.mem_of_getElem? (i := 950) (by decide +kernel), List.mem_of_getElem? (i := 1161) (by decide +kernel), List.mem_of_getElem? (i := 1162) (by decide +kernel)⟩
theorem lw_p42 : lw_okq (⟨"TableMapperModel", "comes", "(II)V"⟩, 45) := ⟨⟨by decide +kernel, by decide +kernel⟩, List.mem_of_getElem? (i := 950) (by decide +kernel), List.mem_of_getElem? (i := 1165) (by decide +kernel), List.mem_of_getElem? (i := 1166) (by decide +kernel)⟩
theorem lw_p43 : lw_okq (⟨"TableMapperModel", "spreadsOut", "(I)V"⟩, 45) := ⟨⟨by decide +kernel, by decide +kernel⟩, List.mem_of_getElem? (i := 950) (by decide +kernel), List.mem_of_getElem? (i := 1169) (by decide +kernel), List.mem_of_getElem? (i := 1170) (by decide +kernel)⟩
theorem lw_p44 : lw_okq (⟨"TableMapperModel", "spreadsIn", "(IJI)V"⟩, 45) := ⟨⟨by decide +kernel, by decide +kernel⟩, List.mem_of_getElem? (i := 950) (by decide +kernel), List.mem_of_getElem? (i := 1173) (by decide +kernel), List.mem_of_getElem? (i := 1174) (by decide +kernel)⟩
theorem lw_p45 : lw_okq (⟨"TableMapperModel", "room", "(II)I"⟩, 45) := ⟨⟨by decide +kernel, by decide +kernel⟩, List.mem_of_getElem? (i := 950) (by decide +kernel), List.mem_of_getElem? (i := 1177) (by decide +kernel), List.mem_of_getElem? (i := 1178) (by decide +kernel)⟩
theorem lw_p46 : lw_okq (⟨"TableMapperModel", "flows", "(I)V"⟩, 45) := ⟨⟨by decide +kernel, by decide +kernel⟩, List.mem_of_getElem? (i := 950) (by decide +kernel), List.mem_of_getElem? (i := 1181) (by decide +kernel), List.mem_of_getElem? (i := 1182) (by decide +kernel)⟩
theorem lw_p47 : lw_okq (⟨"TableMapperModel", "slotOf", "(IIZ)I"⟩, 45) := ⟨⟨by decide +kernel, by decide +kernel⟩, List.mem_of_getElem? (i := 950) (by decide +kernel), List.mem_of_getElem? (i := 1185) (by decide +kernel), List.mem_of_getElem? (i := 1186) (by decide +kernel)⟩
def lw_privs_3 : List (MethodName × Nat) := [(⟨"TableMapper$Clustering", "bestToCome", "(I)I"⟩, 8), (⟨"TableMapper$Cover", "latestOf", "(J)I"⟩, 5), (⟨"java/lang/Throwable", "fillInStackTrace", "(I)Ljava/lang/Throwable;"⟩, 6), (⟨"TableMapperModel", "adds", "(I)I"⟩, 45), (⟨"TableMapperModel", "changes", "()V"⟩, 45), (⟨"TableMapperModel", "isNode", "(I)Z"⟩, 45), (⟨"TableMapperModel", "isRegister", "(I)Z"⟩, 45), (⟨"TableMapperModel", "lays", "()V"⟩, 45), (⟨"TableMapperModel", "isCutOff", "(II)Z"⟩, 45), (⟨"TableMapperModel", "spreads", "(II)I"⟩, 45), (⟨"TableMapperModel", "comes", "(II)V"⟩, 45), (⟨"TableMapperModel", "spreadsOut", "(I)V"⟩, 45), (⟨"TableMapperModel", "spreadsIn", "(IJI)V"⟩, 45), (⟨"TableMapperModel", "room", "(II)I"⟩, 45), (⟨"TableMapperModel", "flows", "(I)V"⟩, 45), (⟨"TableMapperModel", "slotOf", "(IIZ)I"⟩, 45)]
theorem lw_r3 : ∀ q ∈ lw_privs_3, lw_okq q := List.forall_mem_cons.mpr ⟨lw_p32, List.forall_mem_cons.mpr ⟨lw_p33, List.forall_mem_cons.mpr ⟨lw_p34, List.forall_mem_cons.mpr ⟨lw_p35, List.forall_mem_cons.mpr ⟨lw_p36, List.forall_mem_cons.mpr ⟨lw_p37, List.forall_mem_cons.mpr ⟨lw_p38, List.forall_mem_cons.mpr ⟨lw_p39, List.forall_mem_cons.mpr ⟨lw_p40, List.forall_mem_cons.mpr ⟨lw_p41, List.forall_mem_cons.mpr ⟨lw_p42, List.forall_mem_cons.mpr ⟨lw_p43, List.forall_mem_cons.mpr ⟨lw_p44, List.forall_mem_cons.mpr ⟨lw_p45, List.forall_mem_cons.mpr ⟨lw_p46, List.forall_mem_cons.mpr ⟨lw_p47, fun _ h => absurd h List.not_mem_nil⟩⟩⟩⟩⟩⟩⟩⟩⟩⟩⟩⟩⟩⟩⟩⟩
theorem lw_p48 : lw_okq (⟨"TableMapperModel", "laysKept", "(I)V"⟩, 45) := ⟨⟨by decide +kernel, by decide +kernel⟩, List.mem_of_getElem? (i := 950) (by decide +kernel), List.mem_of_getElem? (i := 1189) (by decide +kernel), List.mem_of_getElem? (i := 1190) (by decide +kernel)⟩
theorem lw_p49 : lw_okq (⟨"TableMapperModel", "makes", "(J)V"⟩, 45) := ⟨⟨by decide +kernel, by decide +kernel⟩, List.mem_of_getElem? (i := 950) (by decide +kernel), List.mem_of_getElem? (i := 1193) (by decide +kernel), List.mem_of_getElem? (i := 1194) (by decide +kernel)⟩
theorem lw_p50 : lw_okq (⟨"TableMapperModel", "setOf", "(II)J"⟩, 45) := ⟨⟨by decide +kernel, by decide +kernel⟩, List.mem_of_getElem? (i := 950) (by decide +kernel), List.mem_of_getElem? (i := 1197) (by decide +kernel), List.mem_of_getElem? (i := 1198) (by decide +kernel)⟩
theorem lw_p51 : lw_okq (⟨"TableMapperModel", "puts", "(IJI)I"⟩, 45) := ⟨⟨by decide +kernel, by decide +kernel⟩, List.mem_of_getElem? (i := 950) (by decide +kernel), List.mem_of_getElem? (i := 1202) (by decide +kernel), List.mem_of_getElem? (i := 1203) (by decide +kernel)⟩
theorem lw_p52 : lw_okq (⟨"TableMapperModel", "isAhead", "(JJ)Z"⟩, 45) := ⟨⟨by decide +kernel, by decide +kernel⟩, List.mem_of_getElem? (i := 950) (by decide +kernel), List.mem_of_getElem? (i := 1206) (by decide +kernel), List.mem_of_getElem? (i := 1207) (by decide +kernel)⟩
theorem lw_p53 : lw_okq (⟨"TableMapperModel", "greatestIn", "(J)I"⟩, 45) := ⟨⟨by decide +kernel, by decide +kernel⟩, List.mem_of_getElem? (i := 950) (by decide +kernel), List.mem_of_getElem? (i := 1210) (by decide +kernel), List.mem_of_getElem? (i := 1211) (by decide +kernel)⟩
theorem lw_p54 : lw_okq (⟨"TableMapperModel", "roots", "()J"⟩, 45) := ⟨⟨by decide +kernel, by decide +kernel⟩, List.mem_of_getElem? (i := 950) (by decide +kernel), List.mem_of_getElem? (i := 1217) (by decide +kernel), List.mem_of_getElem? (i := 1218) (by decide +kernel)⟩
theorem lw_p55 : lw_okq (⟨"TableMapperModel", "fed", "()J"⟩, 45) := ⟨⟨by decide +kernel, by decide +kernel⟩, List.mem_of_getElem? (i := 950) (by decide +kernel), List.mem_of_getElem? (i := 1221) (by decide +kernel), List.mem_of_getElem? (i := 1222) (by decide +kernel)⟩
theorem lw_p56 : lw_okq (⟨"TableMapperModel", "isGate", "(I)Z"⟩, 45) := ⟨⟨by decide +kernel, by decide +kernel⟩, List.mem_of_getElem? (i := 950) (by decide +kernel), List.mem_of_getElem? (i := 1229) (by decide +kernel), List.mem_of_getElem? (i := 1230) (by decide +kernel)⟩
theorem lw_p57 : lw_okq (⟨"TableMapperModel", "coneOf", "(IJ)J"⟩, 45) := ⟨⟨by decide +kernel, by decide +kernel⟩, List.mem_of_getElem? (i := 950) (by decide +kernel), List.mem_of_getElem? (i := 1237) (by decide +kernel), List.mem_of_getElem? (i := 1238) (by decide +kernel)⟩
theorem lw_p58 : lw_okq (⟨"TableMapperModel", "rootDepth", "()I"⟩, 45) := ⟨⟨by decide +kernel, by decide +kernel⟩, List.mem_of_getElem? (i := 950) (by decide +kernel), List.mem_of_getElem? (i := 1253) (by decide +kernel), List.mem_of_getElem? (i := 1254) (by decide +kernel)⟩
theorem lw_p59 : lw_okq (⟨"TableMapperModel", "looks", "()V"⟩, 45) := ⟨⟨by decide +kernel, by decide +kernel⟩, List.mem_of_getElem? (i := 950) (by decide +kernel), List.mem_of_getElem? (i := 1261) (by decide +kernel), List.mem_of_getElem? (i := 1262) (by decide +kernel)⟩
theorem lw_p60 : lw_okq (⟨"TableMapperModel", "laysTables", "()V"⟩, 45) := ⟨⟨by decide +kernel, by decide +kernel⟩, List.mem_of_getElem? (i := 950) (by decide +kernel), List.mem_of_getElem? (i := 1265) (by decide +kernel), List.mem_of_getElem? (i := 1266) (by decide +kernel)⟩
theorem lw_p61 : lw_okq (⟨"TableMapperModel", "gates", "()J"⟩, 45) := ⟨⟨by decide +kernel, by decide +kernel⟩, List.mem_of_getElem? (i := 950) (by decide +kernel), List.mem_of_getElem? (i := 1269) (by decide +kernel), List.mem_of_getElem? (i := 1270) (by decide +kernel)⟩
theorem lw_p62 : lw_okq (⟨"TableMapperModel", "laysArrival", "()V"⟩, 45) := ⟨⟨by decide +kernel, by decide +kernel⟩, List.mem_of_getElem? (i := 950) (by decide +kernel), List.mem_of_getElem? (i := 1273) (by decide +kernel), List.mem_of_getElem? (i := 1274) (by decide +kernel)⟩
theorem lw_p63 : lw_okq (⟨"TableMapperModel", "arrivalBy", "(J)I"⟩, 45) := ⟨⟨by decide +kernel, by decide +kernel⟩, List.mem_of_getElem? (i := 950) (by decide +kernel), List.mem_of_getElem? (i := 1277) (by decide +kernel), List.mem_of_getElem? (i := 1278) (by decide +kernel)⟩
def lw_privs_4 : List (MethodName × Nat) := [(⟨"TableMapperModel", "laysKept", "(I)V"⟩, 45), (⟨"TableMapperModel", "makes", "(J)V"⟩, 45), (⟨"TableMapperModel", "setOf", "(II)J"⟩, 45), (⟨"TableMapperModel", "puts", "(IJI)I"⟩, 45), (⟨"TableMapperModel", "isAhead", "(JJ)Z"⟩, 45), (⟨"TableMapperModel", "greatestIn", "(J)I"⟩, 45), (⟨"TableMapperModel", "roots", "()J"⟩, 45), (⟨"TableMapperModel", "fed", "()J"⟩, 45), (⟨"TableMapperModel", "isGate", "(I)Z"⟩, 45), (⟨"TableMapperModel", "coneOf", "(IJ)J"⟩, 45), (⟨"TableMapperModel", "rootDepth", "()I"⟩, 45), (⟨"TableMapperModel", "looks", "()V"⟩, 45), (⟨"TableMapperModel", "laysTables", "()V"⟩, 45), (⟨"TableMapperModel", "gates", "()J"⟩, 45), (⟨"TableMapperModel", "laysArrival", "()V"⟩, 45), (⟨"TableMapperModel", "arrivalBy", "(J)I"⟩, 45)]
theorem lw_r4 : ∀ q ∈ lw_privs_4, lw_okq q := List.forall_mem_cons.mpr ⟨lw_p48, List.forall_mem_cons.mpr ⟨lw_p49, List.forall_mem_cons.mpr ⟨lw_p50, List.forall_mem_cons.mpr ⟨lw_p51, List.forall_mem_cons.mpr ⟨lw_p52, List.forall_mem_cons.mpr ⟨lw_p53, List.forall_mem_cons.mpr ⟨lw_p54, List.forall_mem_cons.mpr ⟨lw_p55, List.forall_mem_cons.mpr ⟨lw_p56, List.forall_mem_cons.mpr ⟨lw_p57, List.forall_mem_cons.mpr ⟨lw_p58, List.forall_mem_cons.mpr ⟨lw_p59, List.forall_mem_cons.mpr ⟨lw_p60, List.forall_mem_cons.mpr ⟨lw_p61, List.forall_mem_cons.mpr ⟨lw_p62, List.forall_mem_cons.mpr ⟨lw_p63, fun _ h => absurd h List.not_mem_nil⟩⟩⟩⟩⟩⟩⟩⟩⟩⟩⟩⟩⟩⟩⟩⟩
theorem lw_p64 : lw_okq (⟨"TableMapperModel", "laysDue", "(I)V"⟩, 45) := ⟨⟨by decide +kernel, by decide +kernel⟩, List.mem_of_getElem? (i := 950) (by decide +kernel), List.mem_of_getElem? (i := 1285) (by decide +kernel), List.mem_of_getElem? (i := 1286) (by decide +kernel)⟩
theorem lw_p65 : lw_okq (⟨"TableMapperModel", "choosesAgain", "(I)V"⟩, 45) := ⟨⟨by decide +kernel, by decide +kernel⟩, List.mem_of_getElem? (i := 950) (by decide +kernel), List.mem_of_getElem? (i := 1289) (by decide +kernel), List.mem_of_getElem? (i := 1290) (by decide +kernel)⟩
theorem lw_p66 : lw_okq (⟨"TableMapperModel", "tablesBy", "(IJ)I"⟩, 45) := ⟨⟨by decide +kernel, by decide +kernel⟩, List.mem_of_getElem? (i := 950) (by decide +kernel), List.mem_of_getElem? (i := 1293) (by decide +kernel), List.mem_of_getElem? (i := 1294) (by decide +kernel)⟩
theorem lw_p67 : lw_okq (⟨"TableMapperModel", "holdsOf", "(I)J"⟩, 45) := ⟨⟨by decide +kernel, by decide +kernel⟩, List.mem_of_getElem? (i := 950) (by decide +kernel), List.mem_of_getElem? (i := 1305) (by decide +kernel), List.mem_of_getElem? (i := 1306) (by decide +kernel)⟩
theorem lw_p68 : lw_okq (⟨"TableMapperModel", "fixes", "(JI)V"⟩, 45) := ⟨⟨by decide +kernel, by decide +kernel⟩, List.mem_of_getElem? (i := 950) (by decide +kernel), List.mem_of_getElem? (i := 1309) (by decide +kernel), List.mem_of_getElem? (i := 1310) (by decide +kernel)⟩
theorem lw_p69 : lw_okq (⟨"TableMapperModel", "works", "(J)V"⟩, 45) := ⟨⟨by decide +kernel, by decide +kernel⟩, List.mem_of_getElem? (i := 950) (by decide +kernel), List.mem_of_getElem? (i := 1313) (by decide +kernel), List.mem_of_getElem? (i := 1314) (by decide +kernel)⟩
theorem lw_p70 : lw_okq (⟨"TableMapperModel", "gateIs", "(I)Z"⟩, 45) := ⟨⟨by decide +kernel, by decide +kernel⟩, List.mem_of_getElem? (i := 950) (by decide +kernel), List.mem_of_getElem? (i := 1317) (by decide +kernel), List.mem_of_getElem? (i := 1318) (by decide +kernel)⟩
theorem lw_p71 : lw_okq (⟨"TableMapperModel", "laysCells", "()V"⟩, 45) := ⟨⟨by decide +kernel, by decide +kernel⟩, List.mem_of_getElem? (i := 950) (by decide +kernel), List.mem_of_getElem? (i := 1348) (by decide +kernel), List.mem_of_getElem? (i := 1349) (by decide +kernel)⟩
theorem lw_p72 : lw_okq (⟨"TableMapperModel", "laysPairs", "()V"⟩, 45) := ⟨⟨by decide +kernel, by decide +kernel⟩, List.mem_of_getElem? (i := 950) (by decide +kernel), List.mem_of_getElem? (i := 1352) (by decide +kernel), List.mem_of_getElem? (i := 1353) (by decide +kernel)⟩
theorem lw_p73 : lw_okq (⟨"TableMapperModel", "isPair", "(II)Z"⟩, 45) := ⟨⟨by decide +kernel, by decide +kernel⟩, List.mem_of_getElem? (i := 950) (by decide +kernel), List.mem_of_getElem? (i := 1356) (by decide +kernel), List.mem_of_getElem? (i := 1357) (by decide +kernel)⟩
theorem lw_p74 : lw_okq (⟨"TableMapperModel", "newCell", "(III)V"⟩, 45) := ⟨⟨by decide +kernel, by decide +kernel⟩, List.mem_of_getElem? (i := 950) (by decide +kernel), List.mem_of_getElem? (i := 1360) (by decide +kernel), List.mem_of_getElem? (i := 1361) (by decide +kernel)⟩
theorem lw_p75 : lw_okq (⟨"TableMapperModel", "isPacked", "(I)Z"⟩, 45) := ⟨⟨by decide +kernel, by decide +kernel⟩, List.mem_of_getElem? (i := 950) (by decide +kernel), List.mem_of_getElem? (i := 1364) (by decide +kernel), List.mem_of_getElem? (i := 1365) (by decide +kernel)⟩
theorem lw_p76 : lw_okq (⟨"TableMapperModel", "usesOf", "(I)I"⟩, 45) := ⟨⟨by decide +kernel, by decide +kernel⟩, List.mem_of_getElem? (i := 950) (by decide +kernel), List.mem_of_getElem? (i := 1368) (by decide +kernel), List.mem_of_getElem? (i := 1369) (by decide +kernel)⟩
theorem lw_p77 : lw_okq (⟨"TableMapperModel", "packs", "(I)V"⟩, 45) := ⟨⟨by decide +kernel, by decide +kernel⟩, List.mem_of_getElem? (i := 950) (by decide +kernel), List.mem_of_getElem? (i := 1372) (by decide +kernel), List.mem_of_getElem? (i := 1373) (by decide +kernel)⟩
theorem lw_p78 : lw_okq (⟨"TableMapperModel", "caresOf", "(I)I"⟩, 45) := ⟨⟨by decide +kernel, by decide +kernel⟩, List.mem_of_getElem? (i := 950) (by decide +kernel), List.mem_of_getElem? (i := 1376) (by decide +kernel), List.mem_of_getElem? (i := 1377) (by decide +kernel)⟩
theorem lw_p79 : lw_okq (⟨"TableMapperModel", "slowest", "()I"⟩, 45) := ⟨⟨by decide +kernel, by decide +kernel⟩, List.mem_of_getElem? (i := 950) (by decide +kernel), List.mem_of_getElem? (i := 1384) (by decide +kernel), List.mem_of_getElem? (i := 1385) (by decide +kernel)⟩
def lw_privs_5 : List (MethodName × Nat) := [(⟨"TableMapperModel", "laysDue", "(I)V"⟩, 45), (⟨"TableMapperModel", "choosesAgain", "(I)V"⟩, 45), (⟨"TableMapperModel", "tablesBy", "(IJ)I"⟩, 45), (⟨"TableMapperModel", "holdsOf", "(I)J"⟩, 45), (⟨"TableMapperModel", "fixes", "(JI)V"⟩, 45), (⟨"TableMapperModel", "works", "(J)V"⟩, 45), (⟨"TableMapperModel", "gateIs", "(I)Z"⟩, 45), (⟨"TableMapperModel", "laysCells", "()V"⟩, 45), (⟨"TableMapperModel", "laysPairs", "()V"⟩, 45), (⟨"TableMapperModel", "isPair", "(II)Z"⟩, 45), (⟨"TableMapperModel", "newCell", "(III)V"⟩, 45), (⟨"TableMapperModel", "isPacked", "(I)Z"⟩, 45), (⟨"TableMapperModel", "usesOf", "(I)I"⟩, 45), (⟨"TableMapperModel", "packs", "(I)V"⟩, 45), (⟨"TableMapperModel", "caresOf", "(I)I"⟩, 45), (⟨"TableMapperModel", "slowest", "()I"⟩, 45)]
theorem lw_r5 : ∀ q ∈ lw_privs_5, lw_okq q := List.forall_mem_cons.mpr ⟨lw_p64, List.forall_mem_cons.mpr ⟨lw_p65, List.forall_mem_cons.mpr ⟨lw_p66, List.forall_mem_cons.mpr ⟨lw_p67, List.forall_mem_cons.mpr ⟨lw_p68, List.forall_mem_cons.mpr ⟨lw_p69, List.forall_mem_cons.mpr ⟨lw_p70, List.forall_mem_cons.mpr ⟨lw_p71, List.forall_mem_cons.mpr ⟨lw_p72, List.forall_mem_cons.mpr ⟨lw_p73, List.forall_mem_cons.mpr ⟨lw_p74, List.forall_mem_cons.mpr ⟨lw_p75, List.forall_mem_cons.mpr ⟨lw_p76, List.forall_mem_cons.mpr ⟨lw_p77, List.forall_mem_cons.mpr ⟨lw_p78, List.forall_mem_cons.mpr ⟨lw_p79, fun _ h => absurd h List.not_mem_nil⟩⟩⟩⟩⟩⟩⟩⟩⟩⟩⟩⟩⟩⟩⟩⟩
theorem lw_p80 : lw_okq (⟨"TableMapperModel", "mostPairs", "()I"⟩, 45) := ⟨⟨by decide +kernel, by decide +kernel⟩, List.mem_of_getElem? (i := 950) (by decide +kernel), List.mem_of_getElem? (i := 1388) (by decide +kernel), List.mem_of_getElem? (i := 1389) (by decide +kernel)⟩
theorem lw_p81 : lw_okq (⟨"TableMapperModel", "laysClusters", "(II)Z"⟩, 45) := ⟨⟨by decide +kernel, by decide +kernel⟩, List.mem_of_getElem? (i := 950) (by decide +kernel), List.mem_of_getElem? (i := 1400) (by decide +kernel), List.mem_of_getElem? (i := 1401) (by decide +kernel)⟩
theorem lw_p82 : lw_okq (⟨"TableMapperModel", "beginning", "()I"⟩, 45) := ⟨⟨by decide +kernel, by decide +kernel⟩, List.mem_of_getElem? (i := 950) (by decide +kernel), List.mem_of_getElem? (i := 1404) (by decide +kernel), List.mem_of_getElem? (i := 1405) (by decide +kernel)⟩
theorem lw_p83 : lw_okq (⟨"TableMapperModel", "joins", "(I)V"⟩, 45) := ⟨⟨by decide +kernel, by decide +kernel⟩, List.mem_of_getElem? (i := 950) (by decide +kernel), List.mem_of_getElem? (i := 1408) (by decide +kernel), List.mem_of_getElem? (i := 1409) (by decide +kernel)⟩
theorem lw_p84 : lw_okq (⟨"TableMapperModel", "nextTo", "(I)I"⟩, 45) := ⟨⟨by decide +kernel, by decide +kernel⟩, List.mem_of_getElem? (i := 950) (by decide +kernel), List.mem_of_getElem? (i := 1412) (by decide +kernel), List.mem_of_getElem? (i := 1413) (by decide +kernel)⟩
def lw_privs_6 : List (MethodName × Nat) := [(⟨"TableMapperModel", "mostPairs", "()I"⟩, 45), (⟨"TableMapperModel", "laysClusters", "(II)Z"⟩, 45), (⟨"TableMapperModel", "beginning", "()I"⟩, 45), (⟨"TableMapperModel", "joins", "(I)V"⟩, 45), (⟨"TableMapperModel", "nextTo", "(I)I"⟩, 45)]
theorem lw_r6 : ∀ q ∈ lw_privs_6, lw_okq q := List.forall_mem_cons.mpr ⟨lw_p80, List.forall_mem_cons.mpr ⟨lw_p81, List.forall_mem_cons.mpr ⟨lw_p82, List.forall_mem_cons.mpr ⟨lw_p83, List.forall_mem_cons.mpr ⟨lw_p84, fun _ h => absurd h List.not_mem_nil⟩⟩⟩⟩⟩
def lw_privs : List (MethodName × Nat) := lw_privs_1 ++ (lw_privs_2 ++ (lw_privs_3 ++ (lw_privs_4 ++ (lw_privs_5 ++ (lw_privs_6)))))
def lw_tbl : List Cond := k2_sels lw_privs ++ tables_1
theorem lw_privs_ok : ∀ q ∈ lw_privs, lw_okq q := by
  show ∀ q ∈ lw_privs_1 ++ (lw_privs_2 ++ (lw_privs_3 ++ (lw_privs_4 ++ (lw_privs_5 ++ (lw_privs_6))))), lw_okq q
  exact List.forall_mem_append.mpr ⟨lw_r1, List.forall_mem_append.mpr ⟨lw_r2, List.forall_mem_append.mpr ⟨lw_r3, List.forall_mem_append.mpr ⟨lw_r4, List.forall_mem_append.mpr ⟨lw_r5, lw_r6⟩⟩⟩⟩⟩
def RX0 : String := "TableMapper$Cells"
def TX0 : u_T := fun k => match k with
  | 0 => ("TableMapper$Cells", "network", "LTableMapper$Network;", true)
  | 1 => ("TableMapper$Cells", "cover", "LTableMapper$Cover;", true)
  | 2 => ("TableMapper$Cells", "mates", "[J", true)
  | 3 => ("TableMapper$Cells", "partner", "[I", true)
  | 4 => ("TableMapper$Cells", "cellOf", "[I", true)
  | 5 => ("TableMapper$Cells", "tablesIn", "[J", true)
  | 6 => ("TableMapper$Cells", "registersIn", "[J", true)
  | 7 => ("TableMapper$Cells", "netsIn", "[J", true)
  | 8 => ("TableMapper$Cells", "packed", "J", false)
  | 9 => ("TableMapper$Cells", "pairs", "I", false)
  | _ => ("TableMapper$Cells", "size", "I", false)
def tyX0 : Nat → FieldType := fun k => match k with
  | 0 => .object "TableMapper$Network"
  | 1 => .object "TableMapper$Cover"
  | 2 => .array .long
  | 3 => .array .int
  | 4 => .array .int
  | 5 => .array .long
  | 6 => .array .long
  | 7 => .array .long
  | 8 => .long
  | 9 => .int
  | _ => .int
abbrev wsX00 : List Cond := u_ws RX0 TX0 11
theorem nmX0 : ∀ a, a < 11 → ∀ b, b < 11 → a ≠ b → (TX0 a).2.1 ≠ (TX0 b).2.1 := by decide +kernel
theorem tyX0_ok : ∀ k, k < 11 → parseFieldDescriptor (TX0 k).2.2.1 = some (tyX0 k) := by decide +kernel
def RX1 : String := "TableMapper$Clustering"
def TX1 : u_T := fun k => match k with
  | 0 => ("TableMapper$Clustering", "cells", "LTableMapper$Cells;", true)
  | 1 => ("TableMapper$Clustering", "clusterOf", "[I", true)
  | 2 => ("TableMapper$Clustering", "size", "I", false)
  | 3 => ("TableMapper$Clustering", "filledCells", "I", false)
  | 4 => ("TableMapper$Clustering", "filledNets", "I", false)
  | 5 => ("TableMapper$Clustering", "left", "J", false)
  | 6 => ("TableMapper$Clustering", "netsIn", "J", false)
  | _ => ("TableMapper$Clustering", "netsOut", "J", false)
def tyX1 : Nat → FieldType := fun k => match k with
  | 0 => .object "TableMapper$Cells"
  | 1 => .array .int
  | 2 => .int
  | 3 => .int
  | 4 => .int
  | 5 => .long
  | 6 => .long
  | _ => .long
abbrev wsX10 : List Cond := u_ws RX1 TX1 8
theorem nmX1 : ∀ a, a < 8 → ∀ b, b < 8 → a ≠ b → (TX1 a).2.1 ≠ (TX1 b).2.1 := by decide +kernel
theorem tyX1_ok : ∀ k, k < 8 → parseFieldDescriptor (TX1 k).2.2.1 = some (tyX1 k) := by decide +kernel
def RX2 : String := "TableMapper$Contents"
def TX2 : u_T := fun k => match k with
  | 0 => ("TableMapper$Contents", "network", "LTableMapper$Network;", true)
  | 1 => ("TableMapper$Contents", "cover", "LTableMapper$Cover;", true)
  | 2 => ("TableMapper$Contents", "bits", "[J", true)
  | 3 => ("TableMapper$Contents", "values", "[J", true)
  | _ => ("TableMapper$Contents", "known", "J", false)
def tyX2 : Nat → FieldType := fun k => match k with
  | 0 => .object "TableMapper$Network"
  | 1 => .object "TableMapper$Cover"
  | 2 => .array .long
  | 3 => .array .long
  | _ => .long
abbrev wsX20 : List Cond := u_ws RX2 TX2 5
theorem nmX2 : ∀ a, a < 5 → ∀ b, b < 5 → a ≠ b → (TX2 a).2.1 ≠ (TX2 b).2.1 := by decide +kernel
theorem tyX2_ok : ∀ k, k < 5 → parseFieldDescriptor (TX2 k).2.2.1 = some (tyX2 k) := by decide +kernel
def RX3 : String := "TableMapper$Cover"
def TX3 : u_T := fun k => match k with
  | 0 => ("TableMapper$Cover", "network", "LTableMapper$Network;", true)
  | 1 => ("TableMapper$Cover", "due", "[I", true)
  | 2 => ("TableMapper$Cover", "chosen", "[J", true)
  | 3 => ("TableMapper$Cover", "arrival", "[I", true)
  | _ => ("TableMapper$Cover", "tables", "J", false)
def tyX3 : Nat → FieldType := fun k => match k with
  | 0 => .object "TableMapper$Network"
  | 1 => .array .int
  | 2 => .array .long
  | 3 => .array .int
  | _ => .long
abbrev wsX30 : List Cond := u_ws RX3 TX3 5
theorem nmX3 : ∀ a, a < 5 → ∀ b, b < 5 → a ≠ b → (TX3 a).2.1 ≠ (TX3 b).2.1 := by decide +kernel
theorem tyX3_ok : ∀ k, k < 5 → parseFieldDescriptor (TX3 k).2.2.1 = some (tyX3 k) := by decide +kernel
def RX4 : String := "TableMapper$Cuts"
def TX4 : u_T := fun k => match k with
  | 0 => ("TableMapper$Cuts", "network", "LTableMapper$Network;", true)
  | 1 => ("TableMapper$Cuts", "ways", "LTableMapper$Ways;", true)
  | 2 => ("TableMapper$Cuts", "row", "LTableMapper$Row;", true)
  | 3 => ("TableMapper$Cuts", "k", "I", true)
  | 4 => ("TableMapper$Cuts", "level", "[I", true)
  | 5 => ("TableMapper$Cuts", "near", "[J", true)
  | 6 => ("TableMapper$Cuts", "kept", "[J", true)
  | 7 => ("TableMapper$Cuts", "keptSize", "[I", true)
  | _ => ("TableMapper$Cuts", "learnt", "I", false)
def tyX4 : Nat → FieldType := fun k => match k with
  | 0 => .object "TableMapper$Network"
  | 1 => .object "TableMapper$Ways"
  | 2 => .object "TableMapper$Row"
  | 3 => .int
  | 4 => .array .int
  | 5 => .array .long
  | 6 => .array .long
  | 7 => .array .int
  | _ => .int
abbrev wsX40 : List Cond := u_ws RX4 TX4 9
theorem nmX4 : ∀ a, a < 9 → ∀ b, b < 9 → a ≠ b → (TX4 a).2.1 ≠ (TX4 b).2.1 := by decide +kernel
theorem tyX4_ok : ∀ k, k < 9 → parseFieldDescriptor (TX4 k).2.2.1 = some (tyX4 k) := by decide +kernel
def RX5 : String := "TableMapper$Network"
def TX5 : u_T := fun k => match k with
  | 0 => ("TableMapper$Network", "kind", "[I", true)
  | 1 => ("TableMapper$Network", "source", "[I", true)
  | 2 => ("TableMapper$Network", "feeds", "[I", true)
  | 3 => ("TableMapper$Network", "sources", "[J", true)
  | 4 => ("TableMapper$Network", "below", "[J", true)
  | 5 => ("TableMapper$Network", "inputs", "J", false)
  | 6 => ("TableMapper$Network", "gates", "J", false)
  | 7 => ("TableMapper$Network", "registers", "J", false)
  | 8 => ("TableMapper$Network", "outputs", "J", false)
  | _ => ("TableMapper$Network", "size", "I", false)
def tyX5 : Nat → FieldType := fun k => match k with
  | 0 => .array .int
  | 1 => .array .int
  | 2 => .array .int
  | 3 => .array .long
  | 4 => .array .long
  | 5 => .long
  | 6 => .long
  | 7 => .long
  | 8 => .long
  | _ => .int
abbrev wsX50 : List Cond := u_ws RX5 TX5 10
theorem nmX5 : ∀ a, a < 10 → ∀ b, b < 10 → a ≠ b → (TX5 a).2.1 ≠ (TX5 b).2.1 := by decide +kernel
theorem tyX5_ok : ∀ k, k < 10 → parseFieldDescriptor (TX5 k).2.2.1 = some (tyX5 k) := by decide +kernel
def RX6 : String := "TableMapper$Row"
def TX6 : u_T := fun k => match k with
  | 0 => ("TableMapper$Row", "cuts", "[J", true)
  | 1 => ("TableMapper$Row", "places", "[J", true)
  | _ => ("TableMapper$Row", "size", "I", false)
def tyX6 : Nat → FieldType := fun k => match k with
  | 0 => .array .long
  | 1 => .array .long
  | _ => .int
abbrev wsX60 : List Cond := u_ws RX6 TX6 3
theorem nmX6 : ∀ a, a < 3 → ∀ b, b < 3 → a ≠ b → (TX6 a).2.1 ≠ (TX6 b).2.1 := by decide +kernel
theorem tyX6_ok : ∀ k, k < 3 → parseFieldDescriptor (TX6 k).2.2.1 = some (tyX6 k) := by decide +kernel
def RX7 : String := "TableMapper$Signals"
def TX7 : u_T := fun k => match k with
  | 0 => ("TableMapper$Signals", "network", "LTableMapper$Network;", true)
  | 1 => ("TableMapper$Signals", "values", "[J", true)
  | _ => ("TableMapper$Signals", "leavesOn", "J", false)
def tyX7 : Nat → FieldType := fun k => match k with
  | 0 => .object "TableMapper$Network"
  | 1 => .array .long
  | _ => .long
abbrev wsX70 : List Cond := u_ws RX7 TX7 3
theorem nmX7 : ∀ a, a < 3 → ∀ b, b < 3 → a ≠ b → (TX7 a).2.1 ≠ (TX7 b).2.1 := by decide +kernel
theorem tyX7_ok : ∀ k, k < 3 → parseFieldDescriptor (TX7 k).2.2.1 = some (tyX7 k) := by decide +kernel
def RX8 : String := "TableMapper$Ways"
def TX8 : u_T := fun k => match k with
  | 0 => ("TableMapper$Ways", "cameFrom", "[I", true)
  | 1 => ("TableMapper$Ways", "queue", "[I", true)
  | 2 => ("TableMapper$Ways", "aheadOnWay", "[I", true)
  | 3 => ("TableMapper$Ways", "network", "LTableMapper$Network;", true)
  | 4 => ("TableMapper$Ways", "onWays", "J", false)
  | 5 => ("TableMapper$Ways", "upperSeen", "J", false)
  | 6 => ("TableMapper$Ways", "lowerSeen", "J", false)
  | _ => ("TableMapper$Ways", "queued", "I", false)
def tyX8 : Nat → FieldType := fun k => match k with
  | 0 => .array .int
  | 1 => .array .int
  | 2 => .array .int
  | 3 => .object "TableMapper$Network"
  | 4 => .long
  | 5 => .long
  | 6 => .long
  | _ => .int
abbrev wsX80 : List Cond := u_ws RX8 TX8 8
theorem nmX8 : ∀ a, a < 8 → ∀ b, b < 8 → a ≠ b → (TX8 a).2.1 ≠ (TX8 b).2.1 := by decide +kernel
theorem tyX8_ok : ∀ k, k < 8 → parseFieldDescriptor (TX8 k).2.2.1 = some (tyX8 k) := by decide +kernel
def RX9 : String := "TableMapper"
def TX9 : u_T := fun k => match k with
  | 0 => ("TableMapper", "network", "LTableMapper$Network;", true)
  | 1 => ("TableMapper", "signals", "LTableMapper$Signals;", true)
  | 2 => ("TableMapper", "cutsByK", "[LTableMapper$Cuts;", true)
  | 3 => ("TableMapper", "cover", "LTableMapper$Cover;", true)
  | 4 => ("TableMapper", "contents", "LTableMapper$Contents;", true)
  | 5 => ("TableMapper", "cells", "LTableMapper$Cells;", true)
  | 6 => ("TableMapper", "clustering", "LTableMapper$Clustering;", true)
  | 7 => ("TableMapper", "k", "I", false)
  | _ => ("TableMapper", "isMapped", "Z", false)
def tyX9 : Nat → FieldType := fun k => match k with
  | 0 => .object "TableMapper$Network"
  | 1 => .object "TableMapper$Signals"
  | 2 => .array (.object "TableMapper$Cuts")
  | 3 => .object "TableMapper$Cover"
  | 4 => .object "TableMapper$Contents"
  | 5 => .object "TableMapper$Cells"
  | 6 => .object "TableMapper$Clustering"
  | 7 => .int
  | _ => .boolean
abbrev wsX90 : List Cond := u_ws RX9 TX9 9
theorem nmX9 : ∀ a, a < 9 → ∀ b, b < 9 → a ≠ b → (TX9 a).2.1 ≠ (TX9 b).2.1 := by decide +kernel
theorem tyX9_ok : ∀ k, k < 9 → parseFieldDescriptor (TX9 k).2.2.1 = some (tyX9 k) := by decide +kernel
def RX10 : String := "TableMapperModel"
def TX10 : u_T := fun k => match k with
  | 0 => ("TableMapperModel", "thrown", "I", false)
  | 1 => ("TableMapperModel", "nodes", "I", false)
  | 2 => ("TableMapperModel", "sort", "[I", true)
  | 3 => ("TableMapperModel", "kind", "[I", true)
  | 4 => ("TableMapperModel", "source", "[I", true)
  | 5 => ("TableMapperModel", "below", "[J", true)
  | 6 => ("TableMapperModel", "outputs", "J", false)
  | 7 => ("TableMapperModel", "width", "I", false)
  | 8 => ("TableMapperModel", "isMapped", "Z", false)
  | 9 => ("TableMapperModel", "isLaid", "Z", false)
  | 10 => ("TableMapperModel", "state", "[Z", true)
  | 11 => ("TableMapperModel", "level", "[I", true)
  | 12 => ("TableMapperModel", "near", "[J", true)
  | 13 => ("TableMapperModel", "through", "[I", true)
  | 14 => ("TableMapperModel", "along", "[I", true)
  | 15 => ("TableMapperModel", "from", "[I", true)
  | 16 => ("TableMapperModel", "queue", "[I", true)
  | 17 => ("TableMapperModel", "queued", "I", false)
  | 18 => ("TableMapperModel", "kept", "[J", true)
  | 19 => ("TableMapperModel", "keptMany", "[I", true)
  | 20 => ("TableMapperModel", "made", "[J", true)
  | 21 => ("TableMapperModel", "madeMany", "I", false)
  | 22 => ("TableMapperModel", "chosen", "[J", true)
  | 23 => ("TableMapperModel", "arrival", "[I", true)
  | 24 => ("TableMapperModel", "due", "[I", true)
  | 25 => ("TableMapperModel", "tables", "J", false)
  | 26 => ("TableMapperModel", "value", "[Z", true)
  | 27 => ("TableMapperModel", "byTables", "[Z", true)
  | 28 => ("TableMapperModel", "paired", "[I", true)
  | 29 => ("TableMapperModel", "cellOf", "[I", true)
  | 30 => ("TableMapperModel", "lower", "[I", true)
  | 31 => ("TableMapperModel", "higher", "[I", true)
  | 32 => ("TableMapperModel", "first", "[I", true)
  | 33 => ("TableMapperModel", "second", "[I", true)
  | 34 => ("TableMapperModel", "netsIn", "[J", true)
  | 35 => ("TableMapperModel", "netsOut", "[J", true)
  | 36 => ("TableMapperModel", "cells", "I", false)
  | 37 => ("TableMapperModel", "packed", "I", false)
  | 38 => ("TableMapperModel", "pairs", "I", false)
  | 39 => ("TableMapperModel", "mostOf", "[I", true)
  | 40 => ("TableMapperModel", "few", "[I", true)
  | 41 => ("TableMapperModel", "clusterOf", "[I", true)
  | 42 => ("TableMapperModel", "clusterIn", "[J", true)
  | 43 => ("TableMapperModel", "clusterOut", "[J", true)
  | _ => ("TableMapperModel", "clusters", "I", false)
def tyX10 : Nat → FieldType := fun k => match k with
  | 0 => .int
  | 1 => .int
  | 2 => .array .int
  | 3 => .array .int
  | 4 => .array .int
  | 5 => .array .long
  | 6 => .long
  | 7 => .int
  | 8 => .boolean
  | 9 => .boolean
  | 10 => .array .boolean
  | 11 => .array .int
  | 12 => .array .long
  | 13 => .array .int
  | 14 => .array .int
  | 15 => .array .int
  | 16 => .array .int
  | 17 => .int
  | 18 => .array .long
  | 19 => .array .int
  | 20 => .array .long
  | 21 => .int
  | 22 => .array .long
  | 23 => .array .int
  | 24 => .array .int
  | 25 => .long
  | 26 => .array .boolean
  | 27 => .array .boolean
  | 28 => .array .int
  | 29 => .array .int
  | 30 => .array .int
  | 31 => .array .int
  | 32 => .array .int
  | 33 => .array .int
  | 34 => .array .long
  | 35 => .array .long
  | 36 => .int
  | 37 => .int
  | 38 => .int
  | 39 => .array .int
  | 40 => .array .int
  | 41 => .array .int
  | 42 => .array .long
  | 43 => .array .long
  | _ => .int
abbrev wsX100 : List Cond := u_ws RX10 TX10 45
theorem nmX10 : ∀ a, a < 45 → ∀ b, b < 45 → a ≠ b → (TX10 a).2.1 ≠ (TX10 b).2.1 := by decide +kernel
theorem tyX10_ok : ∀ k, k < 45 → parseFieldDescriptor (TX10 k).2.2.1 = some (tyX10 k) := by decide +kernel
abbrev vwCl : List vw_C := [(RX0, TX0, 11), (RX1, TX1, 8), (RX2, TX2, 5), (RX3, TX3, 5), (RX4, TX4, 9), (RX5, TX5, 10), (RX6, TX6, 3), (RX7, TX7, 3), (RX8, TX8, 8), (RX9, TX9, 9), (RX10, TX10, 45)]
def RJ13 : String := "java/lang/Long"
def RJ9 : String := "java/lang/Math"
def RL : String := "TableMapperLaw"
abbrev cX0_init : ByteArray := prog_2_method_1_code
def yX0_init : MethodName := ⟨RX0, "<init>", "(LTableMapper$Network;LTableMapper$Cover;)V"⟩
abbrev cX0_isCell : ByteArray := prog_2_method_2_code
def yX0_isCell : MethodName := ⟨RX0, "isCell", "(I)Z"⟩
abbrev cX0_netsOut : ByteArray := prog_2_method_3_code
def yX0_netsOut : MethodName := ⟨RX0, "netsOut", "(I)J"⟩
abbrev cX0_fillAnew : ByteArray := prog_2_method_4_code
def yX0_fillAnew : MethodName := ⟨RX0, "fillAnew", "(I)V"⟩
abbrev cX0_mostPairs : ByteArray := prog_2_method_5_code
def yX0_mostPairs : MethodName := ⟨RX0, "mostPairs", "()I"⟩
abbrev cX0_findMates : ByteArray := prog_2_method_6_code
def yX0_findMates : MethodName := ⟨RX0, "findMates", "(I)V"⟩
abbrev cX0_pairTables : ByteArray := prog_2_method_7_code
def yX0_pairTables : MethodName := ⟨RX0, "pairTables", "()V"⟩
abbrev cX0_layTables : ByteArray := prog_2_method_8_code
def yX0_layTables : MethodName := ⟨RX0, "layTables", "()V"⟩
abbrev cX0_addCell : ByteArray := prog_2_method_9_code
def yX0_addCell : MethodName := ⟨RX0, "addCell", "(JJJ)V"⟩
abbrev cX0_join : ByteArray := prog_2_method_10_code
def yX0_join : MethodName := ⟨RX0, "join", "(II)V"⟩
abbrev cX0_layRegisters : ByteArray := prog_2_method_11_code
def yX0_layRegisters : MethodName := ⟨RX0, "layRegisters", "()V"⟩
abbrev cX0_usedByTables : ByteArray := prog_2_method_12_code
def yX0_usedByTables : MethodName := ⟨RX0, "usedByTables", "()J"⟩
abbrev cX0_fedToSeveral : ByteArray := prog_2_method_13_code
def yX0_fedToSeveral : MethodName := ⟨RX0, "fedToSeveral", "()J"⟩
abbrev cX0_mostPairsOf : ByteArray := prog_2_method_14_code
def yX0_mostPairsOf : MethodName := ⟨RX0, "mostPairsOf", "([JJI)I"⟩
abbrev cX0_withMates : ByteArray := prog_2_method_15_code
def yX0_withMates : MethodName := ⟨RX0, "withMates", "([JJ)J"⟩
abbrev cX0_withFewestMates : ByteArray := prog_2_method_16_code
def yX0_withFewestMates : MethodName := ⟨RX0, "withFewestMates", "([JJ)I"⟩
abbrev cX1_init : ByteArray := prog_3_method_1_code
def yX1_init : MethodName := ⟨RX1, "<init>", "(LTableMapper$Cells;)V"⟩
abbrev cX1_isLimit : ByteArray := prog_3_method_2_code
def yX1_isLimit : MethodName := ⟨RX1, "isLimit", "(II)Z"⟩
abbrev cX1_forget : ByteArray := prog_3_method_3_code
def yX1_forget : MethodName := ⟨RX1, "forget", "()V"⟩
abbrev cX1_fill : ByteArray := prog_3_method_4_code
def yX1_fill : MethodName := ⟨RX1, "fill", "(II)V"⟩
abbrev cX1_countCrossing : ByteArray := prog_3_method_5_code
def yX1_countCrossing : MethodName := ⟨RX1, "countCrossing", "()I"⟩
abbrev cX1_take : ByteArray := prog_3_method_6_code
def yX1_take : MethodName := ⟨RX1, "take", "(I)V"⟩
abbrev cX1_withMostNetsIn : ByteArray := prog_3_method_7_code
def yX1_withMostNetsIn : MethodName := ⟨RX1, "withMostNetsIn", "()I"⟩
abbrev cX1_bestToCome : ByteArray := prog_3_method_8_code
def yX1_bestToCome : MethodName := ⟨RX1, "bestToCome", "(I)I"⟩
abbrev cX2_init : ByteArray := prog_4_method_1_code
def yX2_init : MethodName := ⟨RX2, "<init>", "(LTableMapper$Network;LTableMapper$Cover;)V"⟩
abbrev cX2_forget : ByteArray := prog_4_method_2_code
def yX2_forget : MethodName := ⟨RX2, "forget", "()V"⟩
abbrev cX2_bitsOf : ByteArray := prog_4_method_3_code
def yX2_bitsOf : MethodName := ⟨RX2, "bitsOf", "(I)J"⟩
abbrev cX2_caresOf : ByteArray := prog_4_method_4_code
def yX2_caresOf : MethodName := ⟨RX2, "caresOf", "(I)I"⟩
abbrev cX2_nodesByTables : ByteArray := prog_4_method_5_code
def yX2_nodesByTables : MethodName := ⟨RX2, "nodesByTables", "(JI)J"⟩
abbrev cX2_told : ByteArray := prog_4_method_6_code
def yX2_told : MethodName := ⟨RX2, "told", "(JJ)I"⟩
abbrev cX2_findBits : ByteArray := prog_4_method_7_code
def yX2_findBits : MethodName := ⟨RX2, "findBits", "(I)J"⟩
abbrev cX3_init : ByteArray := prog_5_method_1_code
def yX3_init : MethodName := ⟨RX3, "<init>", "(LTableMapper$Network;)V"⟩
abbrev cX3_takeNearCuts : ByteArray := prog_5_method_2_code
def yX3_takeNearCuts : MethodName := ⟨RX3, "takeNearCuts", "(LTableMapper$Cuts;)V"⟩
abbrev cX3_chooseAgain : ByteArray := prog_5_method_3_code
def yX3_chooseAgain : MethodName := ⟨RX3, "chooseAgain", "(LTableMapper$Cuts;I)I"⟩
abbrev cX3_greatestArrival : ByteArray := prog_5_method_4_code
def yX3_greatestArrival : MethodName := ⟨RX3, "greatestArrival", "(J)I"⟩
abbrev cX3_usesOf : ByteArray := prog_5_method_5_code
def yX3_usesOf : MethodName := ⟨RX3, "usesOf", "(I)I"⟩
abbrev cX3_onSlowWay : ByteArray := prog_5_method_6_code
def yX3_onSlowWay : MethodName := ⟨RX3, "onSlowWay", "(I)I"⟩
abbrev cX3_latestOf : ByteArray := prog_5_method_7_code
def yX3_latestOf : MethodName := ⟨RX3, "latestOf", "(J)I"⟩
abbrev cX3_arrivalBy : ByteArray := prog_5_method_8_code
def yX3_arrivalBy : MethodName := ⟨RX3, "arrivalBy", "(J)I"⟩
abbrev cX3_withChosen : ByteArray := prog_5_method_9_code
def yX3_withChosen : MethodName := ⟨RX3, "withChosen", "(JII)J"⟩
abbrev cX3_tablesWith : ByteArray := prog_5_method_10_code
def yX3_tablesWith : MethodName := ⟨RX3, "tablesWith", "(JJI)J"⟩
abbrev cX3_findDue : ByteArray := prog_5_method_11_code
def yX3_findDue : MethodName := ⟨RX3, "findDue", "(JI)V"⟩
abbrev cX3_bestCut : ByteArray := prog_5_method_12_code
def yX3_bestCut : MethodName := ⟨RX3, "bestCut", "(LTableMapper$Cuts;IJ)J"⟩
abbrev cX4_init : ByteArray := prog_6_method_1_code
def yX4_init : MethodName := ⟨RX4, "<init>", "(LTableMapper$Network;LTableMapper$Ways;LTableMapper$Row;I)V"⟩
abbrev cX4_learn : ByteArray := prog_6_method_2_code
def yX4_learn : MethodName := ⟨RX4, "learn", "(I)V"⟩
abbrev cX4_greatestLevel : ByteArray := prog_6_method_3_code
def yX4_greatestLevel : MethodName := ⟨RX4, "greatestLevel", "(J)I"⟩
abbrev cX4_keptCut : ByteArray := prog_6_method_4_code
def yX4_keptCut : MethodName := ⟨RX4, "keptCut", "(II)J"⟩
abbrev cX4_belowAtLevel : ByteArray := prog_6_method_5_code
def yX4_belowAtLevel : MethodName := ⟨RX4, "belowAtLevel", "(II)J"⟩
abbrev cX4_learnKept : ByteArray := prog_6_method_6_code
def yX4_learnKept : MethodName := ⟨RX4, "learnKept", "(I)V"⟩
abbrev cX4_takeKept : ByteArray := prog_6_method_7_code
def yX4_takeKept : MethodName := ⟨RX4, "takeKept", "(I)V"⟩
abbrev cX4_addWithThird : ByteArray := prog_6_method_8_code
def yX4_addWithThird : MethodName := ⟨RX4, "addWithThird", "(IJ)V"⟩
abbrev cX4_choices : ByteArray := prog_6_method_9_code
def yX4_choices : MethodName := ⟨RX4, "choices", "(II)I"⟩
abbrev cX4_choice : ByteArray := prog_6_method_10_code
def yX4_choice : MethodName := ⟨RX4, "choice", "(III)J"⟩
abbrev cX4_placeInRow : ByteArray := prog_6_method_11_code
def yX4_placeInRow : MethodName := ⟨RX4, "placeInRow", "(J)J"⟩
abbrev cX5_init : ByteArray := prog_7_method_1_code
def yX5_init : MethodName := ⟨RX5, "<init>", "()V"⟩
abbrev cX5_isKind : ByteArray := prog_7_method_2_code
def yX5_isKind : MethodName := ⟨RX5, "isKind", "(I)Z"⟩
abbrev cX5_sourcesOf : ByteArray := prog_7_method_3_code
def yX5_sourcesOf : MethodName := ⟨RX5, "sourcesOf", "(I)I"⟩
abbrev cX5_isFull : ByteArray := prog_7_method_4_code
def yX5_isFull : MethodName := ⟨RX5, "isFull", "()Z"⟩
abbrev cX5_isNode : ByteArray := prog_7_method_5_code
def yX5_isNode : MethodName := ⟨RX5, "isNode", "(I)Z"⟩
abbrev cX5_isInput : ByteArray := prog_7_method_6_code
def yX5_isInput : MethodName := ⟨RX5, "isInput", "(I)Z"⟩
abbrev cX5_isGate : ByteArray := prog_7_method_7_code
def yX5_isGate : MethodName := ⟨RX5, "isGate", "(I)Z"⟩
abbrev cX5_isRegister : ByteArray := prog_7_method_8_code
def yX5_isRegister : MethodName := ⟨RX5, "isRegister", "(I)Z"⟩
abbrev cX5_addInput : ByteArray := prog_7_method_9_code
def yX5_addInput : MethodName := ⟨RX5, "addInput", "()I"⟩
abbrev cX5_addRegister : ByteArray := prog_7_method_10_code
def yX5_addRegister : MethodName := ⟨RX5, "addRegister", "()I"⟩
abbrev cX5_addGate : ByteArray := prog_7_method_11_code
def yX5_addGate : MethodName := ⟨RX5, "addGate", "(IIII)I"⟩
abbrev cX5_setFeed : ByteArray := prog_7_method_12_code
def yX5_setFeed : MethodName := ⟨RX5, "setFeed", "(II)V"⟩
abbrev cX5_kindOf : ByteArray := prog_7_method_13_code
def yX5_kindOf : MethodName := ⟨RX5, "kindOf", "(I)I"⟩
abbrev cX5_feedOf : ByteArray := prog_7_method_14_code
def yX5_feedOf : MethodName := ⟨RX5, "feedOf", "(I)I"⟩
abbrev cX5_sourceOf : ByteArray := prog_7_method_15_code
def yX5_sourceOf : MethodName := ⟨RX5, "sourceOf", "(II)I"⟩
abbrev cX5_sourceOrFeed : ByteArray := prog_7_method_16_code
def yX5_sourceOrFeed : MethodName := ⟨RX5, "sourceOrFeed", "(II)I"⟩
abbrev cX5_roots : ByteArray := prog_7_method_17_code
def yX5_roots : MethodName := ⟨RX5, "roots", "()J"⟩
abbrev cX5_reached : ByteArray := prog_7_method_18_code
def yX5_reached : MethodName := ⟨RX5, "reached", "(IJ)J"⟩
abbrev cX5_separates : ByteArray := prog_7_method_19_code
def yX5_separates : MethodName := ⟨RX5, "separates", "(IJ)Z"⟩
abbrev cX5_valueOf : ByteArray := prog_7_method_20_code
def yX5_valueOf : MethodName := ⟨RX5, "valueOf", "(I[J)J"⟩
abbrev cX6_init : ByteArray := prog_8_method_1_code
def yX6_init : MethodName := ⟨RX6, "<init>", "()V"⟩
abbrev cX6_clear : ByteArray := prog_8_method_2_code
def yX6_clear : MethodName := ⟨RX6, "clear", "()V"⟩
abbrev cX6_add : ByteArray := prog_8_method_3_code
def yX6_add : MethodName := ⟨RX6, "add", "(JJ)V"⟩
abbrev cX6_takeFirst : ByteArray := prog_8_method_4_code
def yX6_takeFirst : MethodName := ⟨RX6, "takeFirst", "()J"⟩
abbrev cX6_dropAllWith : ByteArray := prog_8_method_5_code
def yX6_dropAllWith : MethodName := ⟨RX6, "dropAllWith", "(J)V"⟩
abbrev cX7_init : ByteArray := prog_9_method_1_code
def yX7_init : MethodName := ⟨RX7, "<init>", "(LTableMapper$Network;)V"⟩
abbrev cX7_setInput : ByteArray := prog_9_method_2_code
def yX7_setInput : MethodName := ⟨RX7, "setInput", "(IZ)I"⟩
abbrev cX7_now : ByteArray := prog_9_method_3_code
def yX7_now : MethodName := ⟨RX7, "now", "()J"⟩
abbrev cX7_changedBy : ByteArray := prog_9_method_4_code
def yX7_changedBy : MethodName := ⟨RX7, "changedBy", "(I)J"⟩
abbrev cX7_run : ByteArray := prog_9_method_5_code
def yX7_run : MethodName := ⟨RX7, "run", "(I)I"⟩
abbrev cX7_registersNext : ByteArray := prog_9_method_6_code
def yX7_registersNext : MethodName := ⟨RX7, "registersNext", "()J"⟩
abbrev cX7_nodesOn : ByteArray := prog_9_method_7_code
def yX7_nodesOn : MethodName := ⟨RX7, "nodesOn", "(J)J"⟩
abbrev cX8_init : ByteArray := prog_10_method_1_code
def yX8_init : MethodName := ⟨RX8, "<init>", "(LTableMapper$Network;)V"⟩
abbrev cX8_nearestCut : ByteArray := prog_10_method_2_code
def yX8_nearestCut : MethodName := ⟨RX8, "nearestCut", "(JI)J"⟩
abbrev cX8_findWay : ByteArray := prog_10_method_3_code
def yX8_findWay : MethodName := ⟨RX8, "findWay", "(J)I"⟩
abbrev cX8_seeUppers : ByteArray := prog_10_method_4_code
def yX8_seeUppers : MethodName := ⟨RX8, "seeUppers", "(JI)V"⟩
abbrev cX8_seeLower : ByteArray := prog_10_method_5_code
def yX8_seeLower : MethodName := ⟨RX8, "seeLower", "(II)V"⟩
abbrev cX8_layWay : ByteArray := prog_10_method_6_code
def yX8_layWay : MethodName := ⟨RX8, "layWay", "(I)V"⟩
abbrev cX9_init : ByteArray := prog_1_method_1_code
def yX9_init : MethodName := ⟨RX9, "<init>", "()V"⟩
abbrev cX9_input : ByteArray := prog_1_method_2_code
def yX9_input : MethodName := ⟨RX9, "input", "()I"⟩
abbrev cX9_gate : ByteArray := prog_1_method_3_code
def yX9_gate : MethodName := ⟨RX9, "gate", "(IIII)I"⟩
abbrev cX9_register : ByteArray := prog_1_method_4_code
def yX9_register : MethodName := ⟨RX9, "register", "()I"⟩
abbrev cX9_feed : ByteArray := prog_1_method_5_code
def yX9_feed : MethodName := ⟨RX9, "feed", "(II)Z"⟩
abbrev cX9_output : ByteArray := prog_1_method_6_code
def yX9_output : MethodName := ⟨RX9, "output", "(I)I"⟩
abbrev cX9_inputs : ByteArray := prog_1_method_7_code
def yX9_inputs : MethodName := ⟨RX9, "inputs", "(I)I"⟩
abbrev cX9_map : ByteArray := prog_1_method_8_code
def yX9_map : MethodName := ⟨RX9, "map", "()I"⟩
abbrev cX9_again : ByteArray := prog_1_method_9_code
def yX9_again : MethodName := ⟨RX9, "again", "(I)I"⟩
abbrev cX9_set : ByteArray := prog_1_method_10_code
def yX9_set : MethodName := ⟨RX9, "set", "(IZ)I"⟩
abbrev cX9_clock : ByteArray := prog_1_method_11_code
def yX9_clock : MethodName := ⟨RX9, "clock", "(I)I"⟩
abbrev cX9_node : ByteArray := prog_1_method_12_code
def yX9_node : MethodName := ⟨RX9, "node", "(II)I"⟩
abbrev cX9_near : ByteArray := prog_1_method_13_code
def yX9_near : MethodName := ⟨RX9, "near", "(II)I"⟩
abbrev cX9_cone : ByteArray := prog_1_method_14_code
def yX9_cone : MethodName := ⟨RX9, "cone", "(I)I"⟩
abbrev cX9_kept : ByteArray := prog_1_method_15_code
def yX9_kept : MethodName := ⟨RX9, "kept", "(II)J"⟩
abbrev cX9_isCut : ByteArray := prog_1_method_16_code
def yX9_isCut : MethodName := ⟨RX9, "isCut", "(IJ)Z"⟩
abbrev cX9_depth : ByteArray := prog_1_method_17_code
def yX9_depth : MethodName := ⟨RX9, "depth", "()I"⟩
abbrev cX9_chosen : ByteArray := prog_1_method_18_code
def yX9_chosen : MethodName := ⟨RX9, "chosen", "(I)J"⟩
abbrev cX9_table : ByteArray := prog_1_method_19_code
def yX9_table : MethodName := ⟨RX9, "table", "(II)I"⟩
abbrev cX9_holds : ByteArray := prog_1_method_20_code
def yX9_holds : MethodName := ⟨RX9, "holds", "(I)J"⟩
abbrev cX9_mapped : ByteArray := prog_1_method_21_code
def yX9_mapped : MethodName := ⟨RX9, "mapped", "(I)I"⟩
abbrev cX9_cell : ByteArray := prog_1_method_22_code
def yX9_cell : MethodName := ⟨RX9, "cell", "(II)I"⟩
abbrev cX9_clusters : ByteArray := prog_1_method_23_code
def yX9_clusters : MethodName := ⟨RX9, "clusters", "(II)I"⟩
abbrev cX9_cluster : ByteArray := prog_1_method_24_code
def yX9_cluster : MethodName := ⟨RX9, "cluster", "(III)I"⟩
abbrev cX9_cross : ByteArray := prog_1_method_25_code
def yX9_cross : MethodName := ⟨RX9, "cross", "(II)I"⟩
abbrev cX9_is : ByteArray := prog_1_method_26_code
def yX9_is : MethodName := ⟨RX9, "is", "(I)I"⟩
abbrev cX9_comes : ByteArray := prog_1_method_27_code
def yX9_comes : MethodName := ⟨RX9, "comes", "(I)I"⟩
abbrev cX9_differs : ByteArray := prog_1_method_28_code
def yX9_differs : MethodName := ⟨RX9, "differs", "(II)I"⟩
abbrev cX9_slow : ByteArray := prog_1_method_29_code
def yX9_slow : MethodName := ⟨RX9, "slow", "(I)I"⟩
abbrev cX9_count : ByteArray := prog_1_method_30_code
def yX9_count : MethodName := ⟨RX9, "count", "(I)I"⟩
abbrev cX9_cutsOfK : ByteArray := prog_1_method_31_code
def yX9_cutsOfK : MethodName := ⟨RX9, "cutsOfK", "()LTableMapper$Cuts;"⟩
abbrev cX9_followCover : ByteArray := prog_1_method_32_code
def yX9_followCover : MethodName := ⟨RX9, "followCover", "()V"⟩
abbrev cX9_bit : ByteArray := prog_1_method_33_code
def yX9_bit : MethodName := ⟨RX9, "bit", "(I)J"⟩
abbrev cX9_has : ByteArray := prog_1_method_34_code
def yX9_has : MethodName := ⟨RX9, "has", "(JI)Z"⟩
abbrev cX9_lowest : ByteArray := prog_1_method_35_code
def yX9_lowest : MethodName := ⟨RX9, "lowest", "(J)I"⟩
abbrev cX9_nthOf : ByteArray := prog_1_method_36_code
def yX9_nthOf : MethodName := ⟨RX9, "nthOf", "(JI)I"⟩
abbrev cX10_init : ByteArray := prog_12_method_1_code
def yX10_init : MethodName := ⟨RX10, "<init>", "()V"⟩
abbrev cX10_thrown : ByteArray := prog_12_method_2_code
def yX10_thrown : MethodName := ⟨RX10, "thrown", "()I"⟩
abbrev cX10_within : ByteArray := prog_12_method_3_code
def yX10_within : MethodName := ⟨RX10, "within", "(III)Z"⟩
abbrev cX10_has : ByteArray := prog_12_method_4_code
def yX10_has : MethodName := ⟨RX10, "has", "(JI)Z"⟩
abbrev cX10_manyOf : ByteArray := prog_12_method_5_code
def yX10_manyOf : MethodName := ⟨RX10, "manyOf", "(J)I"⟩
abbrev cX10_lowest : ByteArray := prog_12_method_6_code
def yX10_lowest : MethodName := ⟨RX10, "lowest", "(J)I"⟩
abbrev cX10_sourcesOf : ByteArray := prog_12_method_7_code
def yX10_sourcesOf : MethodName := ⟨RX10, "sourcesOf", "(I)I"⟩
abbrev cX10_isNode : ByteArray := prog_12_method_8_code
def yX10_isNode : MethodName := ⟨RX10, "isNode", "(I)Z"⟩
abbrev cX10_isGate : ByteArray := prog_12_method_9_code
def yX10_isGate : MethodName := ⟨RX10, "isGate", "(I)Z"⟩
abbrev cX10_isRegister : ByteArray := prog_12_method_10_code
def yX10_isRegister : MethodName := ⟨RX10, "isRegister", "(I)Z"⟩
abbrev cX10_changes : ByteArray := prog_12_method_11_code
def yX10_changes : MethodName := ⟨RX10, "changes", "()V"⟩
abbrev cX10_adds : ByteArray := prog_12_method_12_code
def yX10_adds : MethodName := ⟨RX10, "adds", "(I)I"⟩
abbrev cX10_input : ByteArray := prog_12_method_13_code
def yX10_input : MethodName := ⟨RX10, "input", "()I"⟩
abbrev cX10_gate : ByteArray := prog_12_method_14_code
def yX10_gate : MethodName := ⟨RX10, "gate", "(IIII)I"⟩
abbrev cX10_register : ByteArray := prog_12_method_15_code
def yX10_register : MethodName := ⟨RX10, "register", "()I"⟩
abbrev cX10_feed : ByteArray := prog_12_method_16_code
def yX10_feed : MethodName := ⟨RX10, "feed", "(II)Z"⟩
abbrev cX10_output : ByteArray := prog_12_method_17_code
def yX10_output : MethodName := ⟨RX10, "output", "(I)I"⟩
abbrev cX10_inputs : ByteArray := prog_12_method_18_code
def yX10_inputs : MethodName := ⟨RX10, "inputs", "(I)I"⟩
abbrev cX10_fed : ByteArray := prog_12_method_19_code
def yX10_fed : MethodName := ⟨RX10, "fed", "()J"⟩
abbrev cX10_roots : ByteArray := prog_12_method_20_code
def yX10_roots : MethodName := ⟨RX10, "roots", "()J"⟩
abbrev cX10_gates : ByteArray := prog_12_method_21_code
def yX10_gates : MethodName := ⟨RX10, "gates", "()J"⟩
abbrev cX10_comes : ByteArray := prog_12_method_22_code
def yX10_comes : MethodName := ⟨RX10, "comes", "(II)V"⟩
abbrev cX10_room : ByteArray := prog_12_method_23_code
def yX10_room : MethodName := ⟨RX10, "room", "(II)I"⟩
abbrev cX10_spreadsOut : ByteArray := prog_12_method_24_code
def yX10_spreadsOut : MethodName := ⟨RX10, "spreadsOut", "(I)V"⟩
abbrev cX10_spreadsIn : ByteArray := prog_12_method_25_code
def yX10_spreadsIn : MethodName := ⟨RX10, "spreadsIn", "(IJI)V"⟩
abbrev cX10_spreads : ByteArray := prog_12_method_26_code
def yX10_spreads : MethodName := ⟨RX10, "spreads", "(II)I"⟩
abbrev cX10_slotOf : ByteArray := prog_12_method_27_code
def yX10_slotOf : MethodName := ⟨RX10, "slotOf", "(IIZ)I"⟩
abbrev cX10_flows : ByteArray := prog_12_method_28_code
def yX10_flows : MethodName := ⟨RX10, "flows", "(I)V"⟩
abbrev cX10_isCutOff : ByteArray := prog_12_method_29_code
def yX10_isCutOff : MethodName := ⟨RX10, "isCutOff", "(II)Z"⟩
abbrev cX10_greatestIn : ByteArray := prog_12_method_30_code
def yX10_greatestIn : MethodName := ⟨RX10, "greatestIn", "(J)I"⟩
abbrev cX10_isAhead : ByteArray := prog_12_method_31_code
def yX10_isAhead : MethodName := ⟨RX10, "isAhead", "(JJ)Z"⟩
abbrev cX10_makes : ByteArray := prog_12_method_32_code
def yX10_makes : MethodName := ⟨RX10, "makes", "(J)V"⟩
abbrev cX10_setOf : ByteArray := prog_12_method_33_code
def yX10_setOf : MethodName := ⟨RX10, "setOf", "(II)J"⟩
abbrev cX10_laysKept : ByteArray := prog_12_method_34_code
def yX10_laysKept : MethodName := ⟨RX10, "laysKept", "(I)V"⟩
abbrev cX10_puts : ByteArray := prog_12_method_35_code
def yX10_puts : MethodName := ⟨RX10, "puts", "(IJI)I"⟩
abbrev cX10_lays : ByteArray := prog_12_method_36_code
def yX10_lays : MethodName := ⟨RX10, "lays", "()V"⟩
abbrev cX10_coneOf : ByteArray := prog_12_method_37_code
def yX10_coneOf : MethodName := ⟨RX10, "coneOf", "(IJ)J"⟩
abbrev cX10_rootDepth : ByteArray := prog_12_method_38_code
def yX10_rootDepth : MethodName := ⟨RX10, "rootDepth", "()I"⟩
abbrev cX10_node : ByteArray := prog_12_method_39_code
def yX10_node : MethodName := ⟨RX10, "node", "(II)I"⟩
abbrev cX10_near : ByteArray := prog_12_method_40_code
def yX10_near : MethodName := ⟨RX10, "near", "(II)I"⟩
abbrev cX10_cone : ByteArray := prog_12_method_41_code
def yX10_cone : MethodName := ⟨RX10, "cone", "(I)I"⟩
abbrev cX10_kept : ByteArray := prog_12_method_42_code
def yX10_kept : MethodName := ⟨RX10, "kept", "(II)J"⟩
abbrev cX10_isCut : ByteArray := prog_12_method_43_code
def yX10_isCut : MethodName := ⟨RX10, "isCut", "(IJ)Z"⟩
abbrev cX10_depth : ByteArray := prog_12_method_44_code
def yX10_depth : MethodName := ⟨RX10, "depth", "()I"⟩
abbrev cX10_laysTables : ByteArray := prog_12_method_45_code
def yX10_laysTables : MethodName := ⟨RX10, "laysTables", "()V"⟩
abbrev cX10_arrivalBy : ByteArray := prog_12_method_46_code
def yX10_arrivalBy : MethodName := ⟨RX10, "arrivalBy", "(J)I"⟩
abbrev cX10_laysArrival : ByteArray := prog_12_method_47_code
def yX10_laysArrival : MethodName := ⟨RX10, "laysArrival", "()V"⟩
abbrev cX10_looks : ByteArray := prog_12_method_48_code
def yX10_looks : MethodName := ⟨RX10, "looks", "()V"⟩
abbrev cX10_map : ByteArray := prog_12_method_49_code
def yX10_map : MethodName := ⟨RX10, "map", "()I"⟩
abbrev cX10_laysDue : ByteArray := prog_12_method_50_code
def yX10_laysDue : MethodName := ⟨RX10, "laysDue", "(I)V"⟩
abbrev cX10_tablesBy : ByteArray := prog_12_method_51_code
def yX10_tablesBy : MethodName := ⟨RX10, "tablesBy", "(IJ)I"⟩
abbrev cX10_choosesAgain : ByteArray := prog_12_method_52_code
def yX10_choosesAgain : MethodName := ⟨RX10, "choosesAgain", "(I)V"⟩
abbrev cX10_again : ByteArray := prog_12_method_53_code
def yX10_again : MethodName := ⟨RX10, "again", "(I)I"⟩
abbrev cX10_chosen : ByteArray := prog_12_method_54_code
def yX10_chosen : MethodName := ⟨RX10, "chosen", "(I)J"⟩
abbrev cX10_gateIs : ByteArray := prog_12_method_55_code
def yX10_gateIs : MethodName := ⟨RX10, "gateIs", "(I)Z"⟩
abbrev cX10_works : ByteArray := prog_12_method_56_code
def yX10_works : MethodName := ⟨RX10, "works", "(J)V"⟩
abbrev cX10_fixes : ByteArray := prog_12_method_57_code
def yX10_fixes : MethodName := ⟨RX10, "fixes", "(JI)V"⟩
abbrev cX10_holdsOf : ByteArray := prog_12_method_58_code
def yX10_holdsOf : MethodName := ⟨RX10, "holdsOf", "(I)J"⟩
abbrev cX10_holds : ByteArray := prog_12_method_59_code
def yX10_holds : MethodName := ⟨RX10, "holds", "(I)J"⟩
abbrev cX10_caresOf : ByteArray := prog_12_method_60_code
def yX10_caresOf : MethodName := ⟨RX10, "caresOf", "(I)I"⟩
abbrev cX10_has64 : ByteArray := prog_12_method_61_code
def yX10_has64 : MethodName := ⟨RX10, "has64", "(JI)Z"⟩
abbrev cX10_set : ByteArray := prog_12_method_62_code
def yX10_set : MethodName := ⟨RX10, "set", "(IZ)I"⟩
abbrev cX10_clock : ByteArray := prog_12_method_63_code
def yX10_clock : MethodName := ⟨RX10, "clock", "(I)I"⟩
abbrev cX10_is : ByteArray := prog_12_method_64_code
def yX10_is : MethodName := ⟨RX10, "is", "(I)I"⟩
abbrev cX10_comes_ : ByteArray := prog_12_method_65_code
def yX10_comes_ : MethodName := ⟨RX10, "comes", "(I)I"⟩
abbrev cX10_differs : ByteArray := prog_12_method_66_code
def yX10_differs : MethodName := ⟨RX10, "differs", "(II)I"⟩
abbrev cX10_isPair : ByteArray := prog_12_method_67_code
def yX10_isPair : MethodName := ⟨RX10, "isPair", "(II)Z"⟩
abbrev cX10_laysPairs : ByteArray := prog_12_method_68_code
def yX10_laysPairs : MethodName := ⟨RX10, "laysPairs", "()V"⟩
abbrev cX10_usesOf : ByteArray := prog_12_method_69_code
def yX10_usesOf : MethodName := ⟨RX10, "usesOf", "(I)I"⟩
abbrev cX10_isPacked : ByteArray := prog_12_method_70_code
def yX10_isPacked : MethodName := ⟨RX10, "isPacked", "(I)Z"⟩
abbrev cX10_newCell : ByteArray := prog_12_method_71_code
def yX10_newCell : MethodName := ⟨RX10, "newCell", "(III)V"⟩
abbrev cX10_packs : ByteArray := prog_12_method_72_code
def yX10_packs : MethodName := ⟨RX10, "packs", "(I)V"⟩
abbrev cX10_laysCells : ByteArray := prog_12_method_73_code
def yX10_laysCells : MethodName := ⟨RX10, "laysCells", "()V"⟩
abbrev cX10_mostPairs : ByteArray := prog_12_method_74_code
def yX10_mostPairs : MethodName := ⟨RX10, "mostPairs", "()I"⟩
abbrev cX10_table : ByteArray := prog_12_method_75_code
def yX10_table : MethodName := ⟨RX10, "table", "(II)I"⟩
abbrev cX10_slowest : ByteArray := prog_12_method_76_code
def yX10_slowest : MethodName := ⟨RX10, "slowest", "()I"⟩
abbrev cX10_mapped : ByteArray := prog_12_method_77_code
def yX10_mapped : MethodName := ⟨RX10, "mapped", "(I)I"⟩
abbrev cX10_cell : ByteArray := prog_12_method_78_code
def yX10_cell : MethodName := ⟨RX10, "cell", "(II)I"⟩
abbrev cX10_beginning : ByteArray := prog_12_method_79_code
def yX10_beginning : MethodName := ⟨RX10, "beginning", "()I"⟩
abbrev cX10_nextTo : ByteArray := prog_12_method_80_code
def yX10_nextTo : MethodName := ⟨RX10, "nextTo", "(I)I"⟩
abbrev cX10_joins : ByteArray := prog_12_method_81_code
def yX10_joins : MethodName := ⟨RX10, "joins", "(I)V"⟩
abbrev cX10_laysClusters : ByteArray := prog_12_method_82_code
def yX10_laysClusters : MethodName := ⟨RX10, "laysClusters", "(II)Z"⟩
abbrev cX10_clusters : ByteArray := prog_12_method_83_code
def yX10_clusters : MethodName := ⟨RX10, "clusters", "(II)I"⟩
abbrev cX10_cluster : ByteArray := prog_12_method_84_code
def yX10_cluster : MethodName := ⟨RX10, "cluster", "(III)I"⟩
abbrev cX10_cross : ByteArray := prog_12_method_85_code
def yX10_cross : MethodName := ⟨RX10, "cross", "(II)I"⟩
abbrev cX10_slow : ByteArray := prog_12_method_86_code
def yX10_slow : MethodName := ⟨RX10, "slow", "(I)I"⟩
abbrev cX10_count : ByteArray := prog_12_method_87_code
def yX10_count : MethodName := ⟨RX10, "count", "(I)I"⟩
abbrev cJ13_bitCount_95d88 : ByteArray := prog_15_method_50_code
def yJ13_bitCount_95d88 : MethodName := ⟨RJ13, "bitCount", "(J)I"⟩
abbrev cJ9_max_7cf53 : ByteArray := prog_16_method_65_code
def yJ9_max_7cf53 : MethodName := ⟨RJ9, "max", "(II)I"⟩
abbrev cJ9_min_7cf53 : ByteArray := prog_16_method_69_code
def yJ9_min_7cf53 : MethodName := ⟨RJ9, "min", "(II)I"⟩
abbrev cL_holds : ByteArray := method_3_code
def yL_holds : MethodName := ⟨RL, "holds", "(LTableMapper;I[J)I"⟩
abbrev cL_law : ByteArray := code
def yL_law : MethodName := ⟨RL, "law", "([I)Z"⟩
end
section
-- written by wip/gen/gen.py: the instructions of each method, held against decode
def iX0_isCell : List (Nat × Instr × Nat) := [(0, .iload_n 1, 1), (1, .ifCond .lt 15, 3), (4, .iload_n 1, 1), (5, .aload_n 0, 1), (6, .getfield 39, 3), (9, .if_icmp .ge 7, 3), (12, .iconst 1, 1), (13, .goto 4, 3), (16, .iconst 0, 1), (17, .ireturn, 1)]
set_option maxRecDepth 100000 in
theorem iX0_isCell_ok : iX0_isCell.all (fun q => decide (decode cX0_isCell q.1 = .ok (q.2.1, q.2.2))) = true := by decide +kernel
def iX0_netsOut : List (Nat × Instr × Nat) := [(0, .aload_n 0, 1), (1, .getfield 22, 3), (4, .iload_n 1, 1), (5, .laload, 1), (6, .aload_n 0, 1), (7, .getfield 25, 3), (10, .iload_n 1, 1), (11, .laload, 1), (12, .lor, 1), (13, .lreturn, 1)]
set_option maxRecDepth 100000 in
theorem iX0_netsOut_ok : iX0_netsOut.all (fun q => decide (decode cX0_netsOut q.1 = .ok (q.2.1, q.2.2))) = true := by decide +kernel
def iX0_fillAnew : List (Nat × Instr × Nat) := [(0, .aload_n 0, 1), (1, .iload_n 1, 1), (2, .iconst 1, 1), (3, .isub, 1), (4, .invokevirtual 43, 3), (7, .aload_n 0, 1), (8, .invokevirtual 47, 3), (11, .aload_n 0, 1), (12, .invokevirtual 50, 3), (15, .aload_n 0, 1), (16, .invokevirtual 53, 3), (19, .return_, 1)]
set_option maxRecDepth 100000 in
theorem iX0_fillAnew_ok : iX0_fillAnew.all (fun q => decide (decode cX0_fillAnew q.1 = .ok (q.2.1, q.2.2))) = true := by decide +kernel
def iX0_mostPairs : List (Nat × Instr × Nat) := [(0, .aload_n 0, 1), (1, .getfield 35, 3), (4, .getfield 56, 3), (7, .invokestatic 62, 3), (10, .bipush 14, 2), (12, .if_icmp .le 7, 3), (15, .iconst (-1), 1), (16, .goto 18, 3), (19, .aload_n 0, 1), (20, .getfield 9, 3), (23, .aload_n 0, 1), (24, .getfield 35, 3), (27, .getfield 56, 3), (30, .iconst 0, 1), (31, .invokestatic 68, 3), (34, .ireturn, 1)]
set_option maxRecDepth 100000 in
theorem iX0_mostPairs_ok : iX0_mostPairs.all (fun q => decide (decode cX0_mostPairs q.1 = .ok (q.2.1, q.2.2))) = true := by decide +kernel
def iX0_findMates : List (Nat × Instr × Nat) := [(0, .iconst 0, 1), (1, .istore_n 2, 1), (2, .iload_n 2, 1), (3, .aload_n 0, 1), (4, .getfield 31, 3), (7, .getfield 72, 3), (10, .if_icmp .ge 16, 3), (13, .aload_n 0, 1), (14, .getfield 9, 3), (17, .iload_n 2, 1), (18, .lconst 0, 1), (19, .lastore, 1), (20, .iinc 2 1, 3), (23, .goto (-21), 3), (26, .aload_n 0, 1), (27, .getfield 35, 3), (30, .getfield 56, 3), (33, .lstore_n 2, 1), (34, .lload_n 2, 1), (35, .lconst 0, 1), (36, .lcmp, 1), (37, .ifCond .eq 127, 3), (40, .lload_n 2, 1), (41, .invokestatic 75, 3), (44, .istore 4, 2), (46, .lload_n 2, 1), (47, .lload_n 2, 1), (48, .lconst 1, 1), (49, .lsub, 1), (50, .land, 1), (51, .lstore 5, 2), (53, .lload 5, 2), (55, .lconst 0, 1), (56, .lcmp, 1), (57, .ifCond .eq 98, 3), (60, .lload 5, 2), (62, .invokestatic 75, 3), (65, .istore 7, 2), (67, .aload_n 0, 1), (68, .getfield 35, 3), (71, .getfield 78, 3), (74, .iload 7, 2), (76, .laload, 1), (77, .iload 4, 2), (79, .invokestatic 81, 3), (82, .ifCond .ne 61, 3), (85, .aload_n 0, 1), (86, .getfield 35, 3), (89, .getfield 78, 3), (92, .iload 4, 2), (94, .laload, 1), (95, .aload_n 0, 1), (96, .getfield 35, 3), (99, .getfield 78, 3), (102, .iload 7, 2), (104, .laload, 1), (105, .lor, 1), (106, .invokestatic 62, 3), (109, .iload_n 1, 1), (110, .if_icmp .gt 33, 3), (113, .aload_n 0, 1), (114, .getfield 9, 3), (117, .iload 4, 2), (119, .dup2, 1), (120, .laload, 1), (121, .iload 7, 2), (123, .invokestatic 85, 3), (126, .lor, 1), (127, .lastore, 1), (128, .aload_n 0, 1), (129, .getfield 9, 3), (132, .iload 7, 2), (134, .dup2, 1), (135, .laload, 1), (136, .iload 4, 2), (138, .invokestatic 85, 3), (141, .lor, 1), (142, .lastore, 1), (143, .lload 5, 2), (145, .lload 5, 2), (147, .lconst 1, 1), (148, .lsub, 1), (149, .land, 1), (150, .lstore 5, 2), (152, .goto (-99), 3), (155, .lload_n 2, 1), (156, .lload_n 2, 1), (157, .lconst 1, 1), (158, .lsub, 1), (159, .land, 1), (160, .lstore_n 2, 1), (161, .goto (-127), 3), (164, .return_, 1)]
set_option maxRecDepth 100000 in
theorem iX0_findMates_ok : iX0_findMates.all (fun q => decide (decode cX0_findMates q.1 = .ok (q.2.1, q.2.2))) = true := by decide +kernel
def iX0_pairTables : List (Nat × Instr × Nat) := [(0, .aload_n 0, 1), (1, .iconst 0, 1), (2, .putfield 89, 3), (5, .iconst 0, 1), (6, .istore_n 1, 1), (7, .iload_n 1, 1), (8, .aload_n 0, 1), (9, .getfield 31, 3), (12, .getfield 72, 3), (15, .if_icmp .ge 16, 3), (18, .aload_n 0, 1), (19, .getfield 15, 3), (22, .iload_n 1, 1), (23, .iconst (-1), 1), (24, .iastore, 1), (25, .iinc 1 1, 3), (28, .goto (-21), 3), (31, .aload_n 0, 1), (32, .getfield 35, 3), (35, .getfield 56, 3), (38, .lstore_n 1, 1), (39, .aload_n 0, 1), (40, .getfield 35, 3), (43, .getfield 56, 3), (46, .lstore_n 3, 1), (47, .lload_n 3, 1), (48, .lconst 0, 1), (49, .lcmp, 1), (50, .ifCond .eq 100, 3), (53, .lload_n 3, 1), (54, .invokestatic 75, 3), (57, .istore 5, 2), (59, .aload_n 0, 1), (60, .getfield 9, 3), (63, .iload 5, 2), (65, .laload, 1), (66, .lload_n 1, 1), (67, .land, 1), (68, .lload_n 3, 1), (69, .land, 1), (70, .lstore 6, 2), (72, .lload_n 1, 1), (73, .iload 5, 2), (75, .invokestatic 81, 3), (78, .ifCond .eq 63, 3), (81, .lload 6, 2), (83, .lconst 0, 1), (84, .lcmp, 1), (85, .ifCond .eq 56, 3), (88, .lload 6, 2), (90, .invokestatic 75, 3), (93, .istore 8, 2), (95, .aload_n 0, 1), (96, .getfield 15, 3), (99, .iload 5, 2), (101, .iload 8, 2), (103, .iastore, 1), (104, .aload_n 0, 1), (105, .getfield 15, 3), (108, .iload 8, 2), (110, .iload 5, 2), (112, .iastore, 1), (113, .lload_n 1, 1), (114, .iload 5, 2), (116, .invokestatic 85, 3), (119, .iload 8, 2), (121, .invokestatic 85, 3), (124, .lor, 1), (125, .ldc2_w 92, 3), (128, .lxor, 1), (129, .land, 1), (130, .lstore_n 1, 1), (131, .aload_n 0, 1), (132, .dup, 1), (133, .getfield 89, 3), (136, .iconst 1, 1), (137, .iadd, 1), (138, .putfield 89, 3), (141, .lload_n 3, 1), (142, .lload_n 3, 1), (143, .lconst 1, 1), (144, .lsub, 1), (145, .land, 1), (146, .lstore_n 3, 1), (147, .goto (-100), 3), (150, .return_, 1)]
set_option maxRecDepth 100000 in
theorem iX0_pairTables_ok : iX0_pairTables.all (fun q => decide (decode cX0_pairTables q.1 = .ok (q.2.1, q.2.2))) = true := by decide +kernel
def iX0_layTables : List (Nat × Instr × Nat) := [(0, .aload_n 0, 1), (1, .iconst 0, 1), (2, .putfield 39, 3), (5, .iconst 0, 1), (6, .istore_n 1, 1), (7, .iload_n 1, 1), (8, .aload_n 0, 1), (9, .getfield 31, 3), (12, .getfield 72, 3), (15, .if_icmp .ge 16, 3), (18, .aload_n 0, 1), (19, .getfield 19, 3), (22, .iload_n 1, 1), (23, .iconst (-1), 1), (24, .iastore, 1), (25, .iinc 1 1, 3), (28, .goto (-21), 3), (31, .aload_n 0, 1), (32, .getfield 35, 3), (35, .getfield 56, 3), (38, .lstore_n 1, 1), (39, .lload_n 1, 1), (40, .lconst 0, 1), (41, .lcmp, 1), (42, .ifCond .eq 83, 3), (45, .lload_n 1, 1), (46, .invokestatic 75, 3), (49, .istore_n 3, 1), (50, .aload_n 0, 1), (51, .getfield 19, 3), (54, .iload_n 3, 1), (55, .iaload, 1), (56, .iconst (-1), 1), (57, .if_icmp .ne 59, 3), (60, .aload_n 0, 1), (61, .iload_n 3, 1), (62, .invokestatic 85, 3), (65, .lconst 0, 1), (66, .aload_n 0, 1), (67, .getfield 35, 3), (70, .getfield 78, 3), (73, .iload_n 3, 1), (74, .laload, 1), (75, .invokevirtual 94, 3), (78, .aload_n 0, 1), (79, .getfield 19, 3), (82, .iload_n 3, 1), (83, .aload_n 0, 1), (84, .getfield 39, 3), (87, .iconst 1, 1), (88, .isub, 1), (89, .iastore, 1), (90, .aload_n 0, 1), (91, .getfield 15, 3), (94, .iload_n 3, 1), (95, .iaload, 1), (96, .iconst (-1), 1), (97, .if_icmp .eq 19, 3), (100, .aload_n 0, 1), (101, .aload_n 0, 1), (102, .getfield 15, 3), (105, .iload_n 3, 1), (106, .iaload, 1), (107, .aload_n 0, 1), (108, .getfield 39, 3), (111, .iconst 1, 1), (112, .isub, 1), (113, .invokevirtual 98, 3), (116, .lload_n 1, 1), (117, .lload_n 1, 1), (118, .lconst 1, 1), (119, .lsub, 1), (120, .land, 1), (121, .lstore_n 1, 1), (122, .goto (-83), 3), (125, .return_, 1)]
set_option maxRecDepth 100000 in
theorem iX0_layTables_ok : iX0_layTables.all (fun q => decide (decode cX0_layTables q.1 = .ok (q.2.1, q.2.2))) = true := by decide +kernel
def iX0_addCell : List (Nat × Instr × Nat) := [(0, .aload_n 0, 1), (1, .getfield 22, 3), (4, .aload_n 0, 1), (5, .getfield 39, 3), (8, .lload_n 1, 1), (9, .lastore, 1), (10, .aload_n 0, 1), (11, .getfield 25, 3), (14, .aload_n 0, 1), (15, .getfield 39, 3), (18, .lload_n 3, 1), (19, .lastore, 1), (20, .aload_n 0, 1), (21, .getfield 28, 3), (24, .aload_n 0, 1), (25, .getfield 39, 3), (28, .lload 5, 2), (30, .lastore, 1), (31, .aload_n 0, 1), (32, .dup, 1), (33, .getfield 39, 3), (36, .iconst 1, 1), (37, .iadd, 1), (38, .putfield 39, 3), (41, .return_, 1)]
set_option maxRecDepth 100000 in
theorem iX0_addCell_ok : iX0_addCell.all (fun q => decide (decode cX0_addCell q.1 = .ok (q.2.1, q.2.2))) = true := by decide +kernel
def iX0_join : List (Nat × Instr × Nat) := [(0, .aload_n 0, 1), (1, .getfield 22, 3), (4, .iload_n 2, 1), (5, .dup2, 1), (6, .laload, 1), (7, .iload_n 1, 1), (8, .invokestatic 85, 3), (11, .lor, 1), (12, .lastore, 1), (13, .aload_n 0, 1), (14, .getfield 28, 3), (17, .iload_n 2, 1), (18, .dup2, 1), (19, .laload, 1), (20, .aload_n 0, 1), (21, .getfield 35, 3), (24, .getfield 78, 3), (27, .iload_n 1, 1), (28, .laload, 1), (29, .lor, 1), (30, .lastore, 1), (31, .aload_n 0, 1), (32, .getfield 19, 3), (35, .iload_n 1, 1), (36, .iload_n 2, 1), (37, .iastore, 1), (38, .return_, 1)]
set_option maxRecDepth 100000 in
theorem iX0_join_ok : iX0_join.all (fun q => decide (decode cX0_join q.1 = .ok (q.2.1, q.2.2))) = true := by decide +kernel
def iX0_layRegisters : List (Nat × Instr × Nat) := [(0, .aload_n 0, 1), (1, .lconst 0, 1), (2, .putfield 102, 3), (5, .aload_n 0, 1), (6, .getfield 35, 3), (9, .getfield 56, 3), (12, .aload_n 0, 1), (13, .getfield 31, 3), (16, .getfield 105, 3), (19, .ldc2_w 92, 3), (22, .lxor, 1), (23, .land, 1), (24, .aload_n 0, 1), (25, .invokevirtual 108, 3), (28, .ldc2_w 92, 3), (31, .lxor, 1), (32, .land, 1), (33, .aload_n 0, 1), (34, .invokevirtual 112, 3), (37, .ldc2_w 92, 3), (40, .lxor, 1), (41, .land, 1), (42, .lstore_n 1, 1), (43, .aload_n 0, 1), (44, .getfield 31, 3), (47, .getfield 115, 3), (50, .lstore_n 3, 1), (51, .lload_n 3, 1), (52, .lconst 0, 1), (53, .lcmp, 1), (54, .ifCond .eq 90, 3), (57, .lload_n 3, 1), (58, .invokestatic 75, 3), (61, .istore 5, 2), (63, .aload_n 0, 1), (64, .getfield 31, 3), (67, .iload 5, 2), (69, .invokevirtual 118, 3), (72, .istore 6, 2), (74, .lload_n 1, 1), (75, .iload 6, 2), (77, .invokestatic 81, 3), (80, .ifCond .eq 40, 3), (83, .aload_n 0, 1), (84, .getfield 25, 3), (87, .aload_n 0, 1), (88, .getfield 19, 3), (91, .iload 6, 2), (93, .iaload, 1), (94, .dup2, 1), (95, .laload, 1), (96, .iload 5, 2), (98, .invokestatic 85, 3), (101, .lor, 1), (102, .lastore, 1), (103, .aload_n 0, 1), (104, .dup, 1), (105, .getfield 102, 3), (108, .iload 5, 2), (110, .invokestatic 85, 3), (113, .lor, 1), (114, .putfield 102, 3), (117, .goto 18, 3), (120, .aload_n 0, 1), (121, .lconst 0, 1), (122, .iload 5, 2), (124, .invokestatic 85, 3), (127, .iload 6, 2), (129, .invokestatic 85, 3), (132, .invokevirtual 94, 3), (135, .lload_n 3, 1), (136, .lload_n 3, 1), (137, .lconst 1, 1), (138, .lsub, 1), (139, .land, 1), (140, .lstore_n 3, 1), (141, .goto (-90), 3), (144, .return_, 1)]
set_option maxRecDepth 100000 in
theorem iX0_layRegisters_ok : iX0_layRegisters.all (fun q => decide (decode cX0_layRegisters q.1 = .ok (q.2.1, q.2.2))) = true := by decide +kernel
def iX0_usedByTables : List (Nat × Instr × Nat) := [(0, .lconst 0, 1), (1, .lstore_n 1, 1), (2, .aload_n 0, 1), (3, .getfield 35, 3), (6, .getfield 56, 3), (9, .lstore_n 3, 1), (10, .lload_n 3, 1), (11, .lconst 0, 1), (12, .lcmp, 1), (13, .ifCond .eq 27, 3), (16, .lload_n 1, 1), (17, .aload_n 0, 1), (18, .getfield 35, 3), (21, .getfield 78, 3), (24, .lload_n 3, 1), (25, .invokestatic 75, 3), (28, .laload, 1), (29, .lor, 1), (30, .lstore_n 1, 1), (31, .lload_n 3, 1), (32, .lload_n 3, 1), (33, .lconst 1, 1), (34, .lsub, 1), (35, .land, 1), (36, .lstore_n 3, 1), (37, .goto (-27), 3), (40, .lload_n 1, 1), (41, .lreturn, 1)]
set_option maxRecDepth 100000 in
theorem iX0_usedByTables_ok : iX0_usedByTables.all (fun q => decide (decode cX0_usedByTables q.1 = .ok (q.2.1, q.2.2))) = true := by decide +kernel
def iX0_fedToSeveral : List (Nat × Instr × Nat) := [(0, .lconst 0, 1), (1, .lstore_n 1, 1), (2, .lconst 0, 1), (3, .lstore_n 3, 1), (4, .aload_n 0, 1), (5, .getfield 31, 3), (8, .getfield 115, 3), (11, .lstore 5, 2), (13, .lload 5, 2), (15, .lconst 0, 1), (16, .lcmp, 1), (17, .ifCond .eq 44, 3), (20, .aload_n 0, 1), (21, .getfield 31, 3), (24, .lload 5, 2), (26, .invokestatic 75, 3), (29, .invokevirtual 118, 3), (32, .invokestatic 85, 3), (35, .lstore 7, 2), (37, .lload_n 3, 1), (38, .lload_n 1, 1), (39, .lload 7, 2), (41, .land, 1), (42, .lor, 1), (43, .lstore_n 3, 1), (44, .lload_n 1, 1), (45, .lload 7, 2), (47, .lor, 1), (48, .lstore_n 1, 1), (49, .lload 5, 2), (51, .lload 5, 2), (53, .lconst 1, 1), (54, .lsub, 1), (55, .land, 1), (56, .lstore 5, 2), (58, .goto (-45), 3), (61, .lload_n 3, 1), (62, .lreturn, 1)]
set_option maxRecDepth 100000 in
theorem iX0_fedToSeveral_ok : iX0_fedToSeveral.all (fun q => decide (decode cX0_fedToSeveral q.1 = .ok (q.2.1, q.2.2))) = true := by decide +kernel
def iX0_mostPairsOf : List (Nat × Instr × Nat) := [(0, .aload_n 0, 1), (1, .lload_n 1, 1), (2, .invokestatic 122, 3), (5, .lstore 4, 2), (7, .lload 4, 2), (9, .lconst 0, 1), (10, .lcmp, 1), (11, .ifCond .eq 9, 3), (14, .iload_n 3, 1), (15, .bipush 14, 2), (17, .if_icmp .le 5, 3), (20, .iconst 0, 1), (21, .ireturn, 1), (22, .aload_n 0, 1), (23, .lload 4, 2), (25, .invokestatic 126, 3), (28, .istore 6, 2), (30, .lload 4, 2), (32, .invokestatic 62, 3), (35, .iconst 2, 1), (36, .idiv, 1), (37, .istore 7, 2), (39, .iconst 0, 1), (40, .istore 8, 2), (42, .aload_n 0, 1), (43, .iload 6, 2), (45, .laload, 1), (46, .lload 4, 2), (48, .land, 1), (49, .lstore 9, 2), (51, .lload 9, 2), (53, .lconst 0, 1), (54, .lcmp, 1), (55, .ifCond .eq 67, 3), (58, .iload 8, 2), (60, .iload 7, 2), (62, .if_icmp .ge 60, 3), (65, .lload 4, 2), (67, .iload 6, 2), (69, .invokestatic 85, 3), (72, .ldc2_w 92, 3), (75, .lxor, 1), (76, .land, 1), (77, .lload 9, 2), (79, .invokestatic 75, 3), (82, .invokestatic 85, 3), (85, .ldc2_w 92, 3), (88, .lxor, 1), (89, .land, 1), (90, .lstore 11, 2), (92, .iload 8, 2), (94, .iconst 1, 1), (95, .aload_n 0, 1), (96, .lload 11, 2), (98, .iload_n 3, 1), (99, .iconst 1, 1), (100, .iadd, 1), (101, .invokestatic 68, 3), (104, .iadd, 1), (105, .invokestatic 130, 3), (108, .istore 8, 2), (110, .lload 9, 2), (112, .lload 9, 2), (114, .lconst 1, 1), (115, .lsub, 1), (116, .land, 1), (117, .lstore 9, 2), (119, .goto (-68), 3), (122, .iload 8, 2), (124, .ireturn, 1)]
set_option maxRecDepth 100000 in
theorem iX0_mostPairsOf_ok : iX0_mostPairsOf.all (fun q => decide (decode cX0_mostPairsOf q.1 = .ok (q.2.1, q.2.2))) = true := by decide +kernel
def iX0_withMates : List (Nat × Instr × Nat) := [(0, .lconst 0, 1), (1, .lstore_n 3, 1), (2, .lload_n 1, 1), (3, .lstore 5, 2), (5, .lload 5, 2), (7, .lconst 0, 1), (8, .lcmp, 1), (9, .ifCond .eq 41, 3), (12, .lload 5, 2), (14, .invokestatic 75, 3), (17, .istore 7, 2), (19, .aload_n 0, 1), (20, .iload 7, 2), (22, .laload, 1), (23, .lload_n 1, 1), (24, .land, 1), (25, .lconst 0, 1), (26, .lcmp, 1), (27, .ifCond .eq 11, 3), (30, .lload_n 3, 1), (31, .iload 7, 2), (33, .invokestatic 85, 3), (36, .lor, 1), (37, .lstore_n 3, 1), (38, .lload 5, 2), (40, .lload 5, 2), (42, .lconst 1, 1), (43, .lsub, 1), (44, .land, 1), (45, .lstore 5, 2), (47, .goto (-42), 3), (50, .lload_n 3, 1), (51, .lreturn, 1)]
set_option maxRecDepth 100000 in
theorem iX0_withMates_ok : iX0_withMates.all (fun q => decide (decode cX0_withMates q.1 = .ok (q.2.1, q.2.2))) = true := by decide +kernel
def iX0_withFewestMates : List (Nat × Instr × Nat) := [(0, .lload_n 1, 1), (1, .invokestatic 75, 3), (4, .istore_n 3, 1), (5, .lload_n 1, 1), (6, .lstore 4, 2), (8, .lload 4, 2), (10, .lconst 0, 1), (11, .lcmp, 1), (12, .ifCond .eq 45, 3), (15, .lload 4, 2), (17, .invokestatic 75, 3), (20, .istore 6, 2), (22, .aload_n 0, 1), (23, .iload 6, 2), (25, .laload, 1), (26, .lload_n 1, 1), (27, .land, 1), (28, .invokestatic 62, 3), (31, .aload_n 0, 1), (32, .iload_n 3, 1), (33, .laload, 1), (34, .lload_n 1, 1), (35, .land, 1), (36, .invokestatic 62, 3), (39, .if_icmp .ge 6, 3), (42, .iload 6, 2), (44, .istore_n 3, 1), (45, .lload 4, 2), (47, .lload 4, 2), (49, .lconst 1, 1), (50, .lsub, 1), (51, .land, 1), (52, .lstore 4, 2), (54, .goto (-46), 3), (57, .iload_n 3, 1), (58, .ireturn, 1)]
set_option maxRecDepth 100000 in
theorem iX0_withFewestMates_ok : iX0_withFewestMates.all (fun q => decide (decode cX0_withFewestMates q.1 = .ok (q.2.1, q.2.2))) = true := by decide +kernel
def iX1_isLimit : List (Nat × Instr × Nat) := [(0, .iload_n 0, 1), (1, .iconst 1, 1), (2, .if_icmp .lt 25, 3), (5, .iload_n 0, 1), (6, .bipush 8, 2), (8, .if_icmp .gt 19, 3), (11, .iload_n 1, 1), (12, .bipush 6, 2), (14, .if_icmp .lt 13, 3), (17, .iload_n 1, 1), (18, .bipush 16, 2), (20, .if_icmp .gt 7, 3), (23, .iconst 1, 1), (24, .goto 4, 3), (27, .iconst 0, 1), (28, .ireturn, 1)]
set_option maxRecDepth 100000 in
theorem iX1_isLimit_ok : iX1_isLimit.all (fun q => decide (decode cX1_isLimit q.1 = .ok (q.2.1, q.2.2))) = true := by decide +kernel
def iX1_forget : List (Nat × Instr × Nat) := [(0, .aload_n 0, 1), (1, .iconst 0, 1), (2, .putfield 19, 3), (5, .aload_n 0, 1), (6, .iconst 0, 1), (7, .putfield 23, 3), (10, .return_, 1)]
set_option maxRecDepth 100000 in
theorem iX1_forget_ok : iX1_forget.all (fun q => decide (decode cX1_forget q.1 = .ok (q.2.1, q.2.2))) = true := by decide +kernel
def iX1_fill : List (Nat × Instr × Nat) := [(0, .iload_n 1, 1), (1, .aload_n 0, 1), (2, .getfield 19, 3), (5, .if_icmp .ne 12, 3), (8, .iload_n 2, 1), (9, .aload_n 0, 1), (10, .getfield 23, 3), (13, .if_icmp .ne 4, 3), (16, .return_, 1), (17, .aload_n 0, 1), (18, .iload_n 1, 1), (19, .putfield 19, 3), (22, .aload_n 0, 1), (23, .iload_n 2, 1), (24, .putfield 23, 3), (27, .aload_n 0, 1), (28, .aload_n 0, 1), (29, .getfield 15, 3), (32, .getfield 26, 3), (35, .invokestatic 31, 3), (38, .lconst 1, 1), (39, .lsub, 1), (40, .putfield 35, 3), (43, .aload_n 0, 1), (44, .iconst 0, 1), (45, .putfield 39, 3), (48, .iconst 0, 1), (49, .istore_n 3, 1), (50, .iload_n 3, 1), (51, .bipush 40, 2), (53, .if_icmp .ge 87, 3), (56, .aload_n 0, 1), (57, .getfield 35, 3), (60, .lconst 0, 1), (61, .lcmp, 1), (62, .ifCond .eq 78, 3), (65, .aload_n 0, 1), (66, .lconst 0, 1), (67, .putfield 40, 3), (70, .aload_n 0, 1), (71, .lconst 0, 1), (72, .putfield 43, 3), (75, .aload_n 0, 1), (76, .aload_n 0, 1), (77, .invokevirtual 46, 3), (80, .invokevirtual 50, 3), (83, .aload_n 0, 1), (84, .iload_n 2, 1), (85, .invokevirtual 54, 3), (88, .istore 4, 2), (90, .iconst 1, 1), (91, .istore 5, 2), (93, .iload 5, 2), (95, .iload_n 1, 1), (96, .if_icmp .ge 28, 3), (99, .iload 4, 2), (101, .iconst (-1), 1), (102, .if_icmp .eq 22, 3), (105, .aload_n 0, 1), (106, .iload 4, 2), (108, .invokevirtual 50, 3), (111, .aload_n 0, 1), (112, .iload_n 2, 1), (113, .invokevirtual 54, 3), (116, .istore 4, 2), (118, .iinc 5 1, 3), (121, .goto (-28), 3), (124, .aload_n 0, 1), (125, .dup, 1), (126, .getfield 39, 3), (129, .iconst 1, 1), (130, .iadd, 1), (131, .putfield 39, 3), (134, .iinc 3 1, 3), (137, .goto (-87), 3), (140, .return_, 1)]
set_option maxRecDepth 100000 in
theorem iX1_fill_ok : iX1_fill.all (fun q => decide (decode cX1_fill q.1 = .ok (q.2.1, q.2.2))) = true := by decide +kernel
def iX1_countCrossing : List (Nat × Instr × Nat) := [(0, .lconst 0, 1), (1, .lstore_n 1, 1), (2, .iconst 0, 1), (3, .istore_n 3, 1), (4, .iload_n 3, 1), (5, .aload_n 0, 1), (6, .getfield 15, 3), (9, .getfield 26, 3), (12, .if_icmp .ge 68, 3), (15, .iconst 0, 1), (16, .istore 4, 2), (18, .iload 4, 2), (20, .aload_n 0, 1), (21, .getfield 15, 3), (24, .getfield 26, 3), (27, .if_icmp .ge 47, 3), (30, .aload_n 0, 1), (31, .getfield 9, 3), (34, .iload_n 3, 1), (35, .iaload, 1), (36, .aload_n 0, 1), (37, .getfield 9, 3), (40, .iload 4, 2), (42, .iaload, 1), (43, .if_icmp .eq 25, 3), (46, .lload_n 1, 1), (47, .aload_n 0, 1), (48, .getfield 15, 3), (51, .iload_n 3, 1), (52, .invokevirtual 58, 3), (55, .aload_n 0, 1), (56, .getfield 15, 3), (59, .getfield 60, 3), (62, .iload 4, 2), (64, .laload, 1), (65, .land, 1), (66, .lor, 1), (67, .lstore_n 1, 1), (68, .iinc 4 1, 3), (71, .goto (-53), 3), (74, .iinc 3 1, 3), (77, .goto (-73), 3), (80, .lload_n 1, 1), (81, .invokestatic 63, 3), (84, .ireturn, 1)]
set_option maxRecDepth 100000 in
theorem iX1_countCrossing_ok : iX1_countCrossing.all (fun q => decide (decode cX1_countCrossing q.1 = .ok (q.2.1, q.2.2))) = true := by decide +kernel
def iX1_take : List (Nat × Instr × Nat) := [(0, .aload_n 0, 1), (1, .getfield 9, 3), (4, .iload_n 1, 1), (5, .aload_n 0, 1), (6, .getfield 39, 3), (9, .iastore, 1), (10, .aload_n 0, 1), (11, .dup, 1), (12, .getfield 40, 3), (15, .aload_n 0, 1), (16, .getfield 15, 3), (19, .getfield 60, 3), (22, .iload_n 1, 1), (23, .laload, 1), (24, .lor, 1), (25, .putfield 40, 3), (28, .aload_n 0, 1), (29, .dup, 1), (30, .getfield 43, 3), (33, .aload_n 0, 1), (34, .getfield 15, 3), (37, .iload_n 1, 1), (38, .invokevirtual 58, 3), (41, .lor, 1), (42, .putfield 43, 3), (45, .aload_n 0, 1), (46, .dup, 1), (47, .getfield 35, 3), (50, .iload_n 1, 1), (51, .invokestatic 31, 3), (54, .ldc2_w 69, 3), (57, .lxor, 1), (58, .land, 1), (59, .putfield 35, 3), (62, .return_, 1)]
set_option maxRecDepth 100000 in
theorem iX1_take_ok : iX1_take.all (fun q => decide (decode cX1_take q.1 = .ok (q.2.1, q.2.2))) = true := by decide +kernel
def iX1_withMostNetsIn : List (Nat × Instr × Nat) := [(0, .aload_n 0, 1), (1, .getfield 35, 3), (4, .invokestatic 71, 3), (7, .istore_n 1, 1), (8, .aload_n 0, 1), (9, .getfield 35, 3), (12, .lstore_n 2, 1), (13, .lload_n 2, 1), (14, .lconst 0, 1), (15, .lcmp, 1), (16, .ifCond .eq 49, 3), (19, .lload_n 2, 1), (20, .invokestatic 71, 3), (23, .istore 4, 2), (25, .aload_n 0, 1), (26, .getfield 15, 3), (29, .getfield 60, 3), (32, .iload 4, 2), (34, .laload, 1), (35, .invokestatic 63, 3), (38, .aload_n 0, 1), (39, .getfield 15, 3), (42, .getfield 60, 3), (45, .iload_n 1, 1), (46, .laload, 1), (47, .invokestatic 63, 3), (50, .if_icmp .le 6, 3), (53, .iload 4, 2), (55, .istore_n 1, 1), (56, .lload_n 2, 1), (57, .lload_n 2, 1), (58, .lconst 1, 1), (59, .lsub, 1), (60, .land, 1), (61, .lstore_n 2, 1), (62, .goto (-49), 3), (65, .iload_n 1, 1), (66, .ireturn, 1)]
set_option maxRecDepth 100000 in
theorem iX1_withMostNetsIn_ok : iX1_withMostNetsIn.all (fun q => decide (decode cX1_withMostNetsIn q.1 = .ok (q.2.1, q.2.2))) = true := by decide +kernel
def iX1_bestToCome : List (Nat × Instr × Nat) := [(0, .iconst (-1), 1), (1, .istore_n 2, 1), (2, .iconst (-1), 1), (3, .istore_n 3, 1), (4, .aload_n 0, 1), (5, .getfield 35, 3), (8, .lstore 4, 2), (10, .lload 4, 2), (12, .lconst 0, 1), (13, .lcmp, 1), (14, .ifCond .eq 107, 3), (17, .lload 4, 2), (19, .invokestatic 71, 3), (22, .istore 6, 2), (24, .aload_n 0, 1), (25, .getfield 15, 3), (28, .getfield 60, 3), (31, .iload 6, 2), (33, .laload, 1), (34, .lstore 7, 2), (36, .aload_n 0, 1), (37, .getfield 15, 3), (40, .iload 6, 2), (42, .invokevirtual 58, 3), (45, .lstore 9, 2), (47, .lload 7, 2), (49, .lload 9, 2), (51, .lor, 1), (52, .aload_n 0, 1), (53, .getfield 40, 3), (56, .aload_n 0, 1), (57, .getfield 43, 3), (60, .lor, 1), (61, .land, 1), (62, .invokestatic 63, 3), (65, .istore 11, 2), (67, .aload_n 0, 1), (68, .getfield 40, 3), (71, .lload 7, 2), (73, .lor, 1), (74, .aload_n 0, 1), (75, .getfield 43, 3), (78, .lload 9, 2), (80, .lor, 1), (81, .ldc2_w 69, 3), (84, .lxor, 1), (85, .land, 1), (86, .invokestatic 63, 3), (89, .istore 12, 2), (91, .iload 11, 2), (93, .iload_n 3, 1), (94, .if_icmp .le 15, 3), (97, .iload 12, 2), (99, .iload_n 1, 1), (100, .if_icmp .gt 9, 3), (103, .iload 6, 2), (105, .istore_n 2, 1), (106, .iload 11, 2), (108, .istore_n 3, 1), (109, .lload 4, 2), (111, .lload 4, 2), (113, .lconst 1, 1), (114, .lsub, 1), (115, .land, 1), (116, .lstore 4, 2), (118, .goto (-108), 3), (121, .iload_n 2, 1), (122, .ireturn, 1)]
set_option maxRecDepth 100000 in
theorem iX1_bestToCome_ok : iX1_bestToCome.all (fun q => decide (decode cX1_bestToCome q.1 = .ok (q.2.1, q.2.2))) = true := by decide +kernel
def iX2_forget : List (Nat × Instr × Nat) := [(0, .aload_n 0, 1), (1, .lconst 0, 1), (2, .putfield 26, 3), (5, .return_, 1)]
set_option maxRecDepth 100000 in
theorem iX2_forget_ok : iX2_forget.all (fun q => decide (decode cX2_forget q.1 = .ok (q.2.1, q.2.2))) = true := by decide +kernel
def iX2_bitsOf : List (Nat × Instr × Nat) := [(0, .aload_n 0, 1), (1, .getfield 26, 3), (4, .iload_n 1, 1), (5, .invokestatic 30, 3), (8, .ifCond .ne 27, 3), (11, .aload_n 0, 1), (12, .getfield 9, 3), (15, .iload_n 1, 1), (16, .aload_n 0, 1), (17, .iload_n 1, 1), (18, .invokevirtual 34, 3), (21, .lastore, 1), (22, .aload_n 0, 1), (23, .dup, 1), (24, .getfield 26, 3), (27, .iload_n 1, 1), (28, .invokestatic 38, 3), (31, .lor, 1), (32, .putfield 26, 3), (35, .aload_n 0, 1), (36, .getfield 9, 3), (39, .iload_n 1, 1), (40, .laload, 1), (41, .lreturn, 1)]
set_option maxRecDepth 100000 in
theorem iX2_bitsOf_ok : iX2_bitsOf.all (fun q => decide (decode cX2_bitsOf q.1 = .ok (q.2.1, q.2.2))) = true := by decide +kernel
def iX2_caresOf : List (Nat × Instr × Nat) := [(0, .aload_n 0, 1), (1, .iload_n 1, 1), (2, .invokevirtual 41, 3), (5, .lstore_n 2, 1), (6, .aload_n 0, 1), (7, .getfield 22, 3), (10, .getfield 44, 3), (13, .iload_n 1, 1), (14, .laload, 1), (15, .invokestatic 49, 3), (18, .istore 4, 2), (20, .iconst 0, 1), (21, .istore 5, 2), (23, .iconst 0, 1), (24, .istore 6, 2), (26, .iload 6, 2), (28, .iload 4, 2), (30, .if_icmp .ge 64, 3), (33, .iload 6, 2), (35, .getstatic 55, 3), (38, .arraylength, 1), (39, .if_icmp .ge 55, 3), (42, .lload_n 2, 1), (43, .getstatic 55, 3), (46, .iload 6, 2), (48, .laload, 1), (49, .land, 1), (50, .iconst 1, 1), (51, .iload 6, 2), (53, .ishl, 1), (54, .lushr, 1), (55, .lstore 7, 2), (57, .lload_n 2, 1), (58, .getstatic 55, 3), (61, .iload 6, 2), (63, .laload, 1), (64, .ldc2_w 58, 3), (67, .lxor, 1), (68, .land, 1), (69, .lstore 9, 2), (71, .lload 7, 2), (73, .lload 9, 2), (75, .lcmp, 1), (76, .ifCond .eq 12, 3), (79, .iload 5, 2), (81, .iconst 1, 1), (82, .iload 6, 2), (84, .ishl, 1), (85, .ior, 1), (86, .istore 5, 2), (88, .iinc 6 1, 3), (91, .goto (-65), 3), (94, .iload 5, 2), (96, .ireturn, 1)]
set_option maxRecDepth 100000 in
theorem iX2_caresOf_ok : iX2_caresOf.all (fun q => decide (decode cX2_caresOf q.1 = .ok (q.2.1, q.2.2))) = true := by decide +kernel
def iX2_nodesByTables : List (Nat × Instr × Nat) := [(0, .lconst 0, 1), (1, .lstore 4, 2), (3, .iconst 0, 1), (4, .istore 6, 2), (6, .iload 6, 2), (8, .iload_n 3, 1), (9, .if_icmp .gt 84, 3), (12, .aload_n 0, 1), (13, .getfield 18, 3), (16, .getfield 60, 3), (19, .iload 6, 2), (21, .invokestatic 30, 3), (24, .ifCond .eq 40, 3), (27, .aload_n 0, 1), (28, .iload 6, 2), (30, .invokevirtual 41, 3), (33, .aload_n 0, 1), (34, .getfield 22, 3), (37, .getfield 44, 3), (40, .iload 6, 2), (42, .laload, 1), (43, .lload 4, 2), (45, .invokestatic 65, 3), (48, .lushr, 1), (49, .lconst 1, 1), (50, .land, 1), (51, .lconst 0, 1), (52, .lcmp, 1), (53, .ifCond .eq 7, 3), (56, .iconst 1, 1), (57, .goto 13, 3), (60, .iconst 0, 1), (61, .goto 9, 3), (64, .lload_n 1, 1), (65, .iload 6, 2), (67, .invokestatic 30, 3), (70, .istore 7, 2), (72, .iload 7, 2), (74, .ifCond .eq 13, 3), (77, .lload 4, 2), (79, .iload 6, 2), (81, .invokestatic 38, 3), (84, .lor, 1), (85, .lstore 4, 2), (87, .iinc 6 1, 3), (90, .goto (-84), 3), (93, .lload 4, 2), (95, .lreturn, 1)]
set_option maxRecDepth 100000 in
theorem iX2_nodesByTables_ok : iX2_nodesByTables.all (fun q => decide (decode cX2_nodesByTables q.1 = .ok (q.2.1, q.2.2))) = true := by decide +kernel
def iX2_told : List (Nat × Instr × Nat) := [(0, .iconst 0, 1), (1, .istore 4, 2), (3, .iconst 0, 1), (4, .istore 5, 2), (6, .lload_n 0, 1), (7, .lstore 6, 2), (9, .lload 6, 2), (11, .lconst 0, 1), (12, .lcmp, 1), (13, .ifCond .eq 39, 3), (16, .lload_n 2, 1), (17, .lload 6, 2), (19, .invokestatic 69, 3), (22, .invokestatic 30, 3), (25, .ifCond .eq 12, 3), (28, .iload 4, 2), (30, .iconst 1, 1), (31, .iload 5, 2), (33, .ishl, 1), (34, .ior, 1), (35, .istore 4, 2), (37, .iinc 5 1, 3), (40, .lload 6, 2), (42, .lload 6, 2), (44, .lconst 1, 1), (45, .lsub, 1), (46, .land, 1), (47, .lstore 6, 2), (49, .goto (-40), 3), (52, .iload 4, 2), (54, .ireturn, 1)]
set_option maxRecDepth 100000 in
theorem iX2_told_ok : iX2_told.all (fun q => decide (decode cX2_told q.1 = .ok (q.2.1, q.2.2))) = true := by decide +kernel
def iX2_findBits : List (Nat × Instr × Nat) := [(0, .aload_n 0, 1), (1, .getfield 22, 3), (4, .getfield 44, 3), (7, .iload_n 1, 1), (8, .laload, 1), (9, .lstore_n 2, 1), (10, .iconst 0, 1), (11, .istore 4, 2), (13, .lload_n 2, 1), (14, .lstore 5, 2), (16, .lload 5, 2), (18, .lconst 0, 1), (19, .lcmp, 1), (20, .ifCond .eq 43, 3), (23, .iload 4, 2), (25, .getstatic 55, 3), (28, .arraylength, 1), (29, .if_icmp .ge 34, 3), (32, .aload_n 0, 1), (33, .getfield 15, 3), (36, .lload 5, 2), (38, .invokestatic 69, 3), (41, .getstatic 55, 3), (44, .iload 4, 2), (46, .laload, 1), (47, .lastore, 1), (48, .iinc 4 1, 3), (51, .lload 5, 2), (53, .lload 5, 2), (55, .lconst 1, 1), (56, .lsub, 1), (57, .land, 1), (58, .lstore 5, 2), (60, .goto (-44), 3), (63, .aload_n 0, 1), (64, .getfield 18, 3), (67, .iload_n 1, 1), (68, .lload_n 2, 1), (69, .invokevirtual 72, 3), (72, .aload_n 0, 1), (73, .getfield 18, 3), (76, .getfield 60, 3), (79, .land, 1), (80, .lstore 5, 2), (82, .lload 5, 2), (84, .lconst 0, 1), (85, .lcmp, 1), (86, .ifCond .eq 42, 3), (89, .lload 5, 2), (91, .invokestatic 69, 3), (94, .istore 7, 2), (96, .aload_n 0, 1), (97, .getfield 15, 3), (100, .iload 7, 2), (102, .aload_n 0, 1), (103, .getfield 18, 3), (106, .iload 7, 2), (108, .aload_n 0, 1), (109, .getfield 15, 3), (112, .invokevirtual 76, 3), (115, .lastore, 1), (116, .lload 5, 2), (118, .lload 5, 2), (120, .lconst 1, 1), (121, .lsub, 1), (122, .land, 1), (123, .lstore 5, 2), (125, .goto (-43), 3), (128, .iload 4, 2), (130, .getstatic 55, 3), (133, .arraylength, 1), (134, .if_icmp .ne 12, 3), (137, .aload_n 0, 1), (138, .getfield 15, 3), (141, .iload_n 1, 1), (142, .laload, 1), (143, .goto 18, 3), (146, .aload_n 0, 1), (147, .getfield 15, 3), (150, .iload_n 1, 1), (151, .laload, 1), (152, .lconst 1, 1), (153, .iconst 1, 1), (154, .iload 4, 2), (156, .ishl, 1), (157, .lshl, 1), (158, .lconst 1, 1), (159, .lsub, 1), (160, .land, 1), (161, .lreturn, 1)]
set_option maxRecDepth 100000 in
theorem iX2_findBits_ok : iX2_findBits.all (fun q => decide (decode cX2_findBits q.1 = .ok (q.2.1, q.2.2))) = true := by decide +kernel
def iX3_takeNearCuts : List (Nat × Instr × Nat) := [(0, .aload_n 0, 1), (1, .getfield 22, 3), (4, .getfield 26, 3), (7, .lstore_n 2, 1), (8, .lload_n 2, 1), (9, .lconst 0, 1), (10, .lcmp, 1), (11, .ifCond .eq 50, 3), (14, .lload_n 2, 1), (15, .invokestatic 32, 3), (18, .istore 4, 2), (20, .aload_n 0, 1), (21, .getfield 15, 3), (24, .iload 4, 2), (26, .aload_n 1, 1), (27, .getfield 36, 3), (30, .iload 4, 2), (32, .laload, 1), (33, .lastore, 1), (34, .aload_n 0, 1), (35, .getfield 19, 3), (38, .iload 4, 2), (40, .aload_n 0, 1), (41, .aload_n 0, 1), (42, .getfield 15, 3), (45, .iload 4, 2), (47, .laload, 1), (48, .invokevirtual 41, 3), (51, .iastore, 1), (52, .lload_n 2, 1), (53, .lload_n 2, 1), (54, .lconst 1, 1), (55, .lsub, 1), (56, .land, 1), (57, .lstore_n 2, 1), (58, .goto (-50), 3), (61, .aload_n 0, 1), (62, .aload_n 0, 1), (63, .aload_n 0, 1), (64, .getfield 22, 3), (67, .invokevirtual 44, 3), (70, .aload_n 0, 1), (71, .getfield 22, 3), (74, .getfield 26, 3), (77, .land, 1), (78, .aload_n 0, 1), (79, .getfield 22, 3), (82, .getfield 48, 3), (85, .iconst 1, 1), (86, .isub, 1), (87, .iconst 0, 1), (88, .invokevirtual 52, 3), (91, .putfield 56, 3), (94, .return_, 1)]
set_option maxRecDepth 100000 in
theorem iX3_takeNearCuts_ok : iX3_takeNearCuts.all (fun q => decide (decode cX3_takeNearCuts q.1 = .ok (q.2.1, q.2.2))) = true := by decide +kernel
def iX3_chooseAgain : List (Nat × Instr × Nat) := [(0, .aload_n 0, 1), (1, .getfield 56, 3), (4, .invokestatic 59, 3), (7, .istore_n 3, 1), (8, .aload_n 0, 1), (9, .getfield 22, 3), (12, .invokevirtual 44, 3), (15, .lstore 4, 2), (17, .aload_n 0, 1), (18, .lload 4, 2), (20, .aload_n 1, 1), (21, .lload 4, 2), (23, .invokevirtual 64, 3), (26, .iload_n 2, 1), (27, .iadd, 1), (28, .invokevirtual 67, 3), (31, .aload_n 0, 1), (32, .getfield 22, 3), (35, .getfield 26, 3), (38, .lstore 6, 2), (40, .lload 6, 2), (42, .lconst 0, 1), (43, .lcmp, 1), (44, .ifCond .eq 116, 3), (47, .lload 6, 2), (49, .invokestatic 32, 3), (52, .istore 8, 2), (54, .aload_n 0, 1), (55, .getfield 56, 3), (58, .iload 8, 2), (60, .invokestatic 71, 3), (63, .ifCond .eq 67, 3), (66, .aload_n 0, 1), (67, .lload 4, 2), (69, .aload_n 0, 1), (70, .getfield 22, 3), (73, .getfield 26, 3), (76, .land, 1), (77, .aload_n 0, 1), (78, .getfield 22, 3), (81, .getfield 48, 3), (84, .iconst 1, 1), (85, .isub, 1), (86, .iload 8, 2), (88, .iconst 1, 1), (89, .iadd, 1), (90, .invokevirtual 52, 3), (93, .lstore 9, 2), (95, .aload_n 0, 1), (96, .getfield 15, 3), (99, .iload 8, 2), (101, .aload_n 0, 1), (102, .aload_n 1, 1), (103, .iload 8, 2), (105, .lload 9, 2), (107, .invokevirtual 75, 3), (110, .lastore, 1), (111, .aload_n 0, 1), (112, .aload_n 0, 1), (113, .aload_n 0, 1), (114, .getfield 15, 3), (117, .iload 8, 2), (119, .laload, 1), (120, .lload 9, 2), (122, .iload 8, 2), (124, .invokevirtual 79, 3), (127, .putfield 56, 3), (130, .aload_n 0, 1), (131, .getfield 19, 3), (134, .iload 8, 2), (136, .aload_n 0, 1), (137, .aload_n 0, 1), (138, .getfield 15, 3), (141, .iload 8, 2), (143, .laload, 1), (144, .invokevirtual 41, 3), (147, .iastore, 1), (148, .lload 6, 2), (150, .lload 6, 2), (152, .lconst 1, 1), (153, .lsub, 1), (154, .land, 1), (155, .lstore 6, 2), (157, .goto (-117), 3), (160, .iload_n 3, 1), (161, .aload_n 0, 1), (162, .getfield 56, 3), (165, .invokestatic 59, 3), (168, .isub, 1), (169, .ireturn, 1)]
set_option maxRecDepth 100000 in
theorem iX3_chooseAgain_ok : iX3_chooseAgain.all (fun q => decide (decode cX3_chooseAgain q.1 = .ok (q.2.1, q.2.2))) = true := by decide +kernel
def iX3_greatestArrival : List (Nat × Instr × Nat) := [(0, .iconst 0, 1), (1, .istore_n 3, 1), (2, .lload_n 1, 1), (3, .lstore 4, 2), (5, .lload 4, 2), (7, .lconst 0, 1), (8, .lcmp, 1), (9, .ifCond .eq 30, 3), (12, .iload_n 3, 1), (13, .aload_n 0, 1), (14, .getfield 19, 3), (17, .lload 4, 2), (19, .invokestatic 32, 3), (22, .iaload, 1), (23, .invokestatic 83, 3), (26, .istore_n 3, 1), (27, .lload 4, 2), (29, .lload 4, 2), (31, .lconst 1, 1), (32, .lsub, 1), (33, .land, 1), (34, .lstore 4, 2), (36, .goto (-31), 3), (39, .iload_n 3, 1), (40, .ireturn, 1)]
set_option maxRecDepth 100000 in
theorem iX3_greatestArrival_ok : iX3_greatestArrival.all (fun q => decide (decode cX3_greatestArrival q.1 = .ok (q.2.1, q.2.2))) = true := by decide +kernel
def iX3_usesOf : List (Nat × Instr × Nat) := [(0, .iconst 0, 1), (1, .istore_n 2, 1), (2, .aload_n 0, 1), (3, .getfield 56, 3), (6, .lstore_n 3, 1), (7, .lload_n 3, 1), (8, .lconst 0, 1), (9, .lcmp, 1), (10, .ifCond .eq 31, 3), (13, .aload_n 0, 1), (14, .getfield 15, 3), (17, .lload_n 3, 1), (18, .invokestatic 32, 3), (21, .laload, 1), (22, .iload_n 1, 1), (23, .invokestatic 71, 3), (26, .ifCond .eq 6, 3), (29, .iinc 2 1, 3), (32, .lload_n 3, 1), (33, .lload_n 3, 1), (34, .lconst 1, 1), (35, .lsub, 1), (36, .land, 1), (37, .lstore_n 3, 1), (38, .goto (-31), 3), (41, .iload_n 2, 1), (42, .ireturn, 1)]
set_option maxRecDepth 100000 in
theorem iX3_usesOf_ok : iX3_usesOf.all (fun q => decide (decode cX3_usesOf q.1 = .ok (q.2.1, q.2.2))) = true := by decide +kernel
def iX3_onSlowWay : List (Nat × Instr × Nat) := [(0, .aload_n 0, 1), (1, .getfield 22, 3), (4, .invokevirtual 44, 3), (7, .lstore_n 2, 1), (8, .iconst (-1), 1), (9, .istore 4, 2), (11, .iconst 0, 1), (12, .istore 5, 2), (14, .iload 5, 2), (16, .iload_n 1, 1), (17, .if_icmp .gt 51, 3), (20, .lload_n 2, 1), (21, .lconst 0, 1), (22, .lcmp, 1), (23, .ifCond .ne 5, 3), (26, .iconst (-1), 1), (27, .ireturn, 1), (28, .aload_n 0, 1), (29, .lload_n 2, 1), (30, .invokevirtual 89, 3), (33, .istore 4, 2), (35, .aload_n 0, 1), (36, .getfield 22, 3), (39, .getfield 26, 3), (42, .iload 4, 2), (44, .invokestatic 71, 3), (47, .ifCond .eq 13, 3), (50, .aload_n 0, 1), (51, .getfield 15, 3), (54, .iload 4, 2), (56, .laload, 1), (57, .goto 4, 3), (60, .lconst 0, 1), (61, .lstore_n 2, 1), (62, .iinc 5 1, 3), (65, .goto (-51), 3), (68, .iload 4, 2), (70, .ireturn, 1)]
set_option maxRecDepth 100000 in
theorem iX3_onSlowWay_ok : iX3_onSlowWay.all (fun q => decide (decode cX3_onSlowWay q.1 = .ok (q.2.1, q.2.2))) = true := by decide +kernel
def iX3_latestOf : List (Nat × Instr × Nat) := [(0, .lload_n 1, 1), (1, .invokestatic 32, 3), (4, .istore_n 3, 1), (5, .lload_n 1, 1), (6, .lstore 4, 2), (8, .lload 4, 2), (10, .lconst 0, 1), (11, .lcmp, 1), (12, .ifCond .eq 41, 3), (15, .lload 4, 2), (17, .invokestatic 32, 3), (20, .istore 6, 2), (22, .aload_n 0, 1), (23, .getfield 19, 3), (26, .iload 6, 2), (28, .iaload, 1), (29, .aload_n 0, 1), (30, .getfield 19, 3), (33, .iload_n 3, 1), (34, .iaload, 1), (35, .if_icmp .le 6, 3), (38, .iload 6, 2), (40, .istore_n 3, 1), (41, .lload 4, 2), (43, .lload 4, 2), (45, .lconst 1, 1), (46, .lsub, 1), (47, .land, 1), (48, .lstore 4, 2), (50, .goto (-42), 3), (53, .iload_n 3, 1), (54, .ireturn, 1)]
set_option maxRecDepth 100000 in
theorem iX3_latestOf_ok : iX3_latestOf.all (fun q => decide (decode cX3_latestOf q.1 = .ok (q.2.1, q.2.2))) = true := by decide +kernel
def iX3_arrivalBy : List (Nat × Instr × Nat) := [(0, .iconst 1, 1), (1, .aload_n 0, 1), (2, .lload_n 1, 1), (3, .invokevirtual 92, 3), (6, .iadd, 1), (7, .ireturn, 1)]
set_option maxRecDepth 100000 in
theorem iX3_arrivalBy_ok : iX3_arrivalBy.all (fun q => decide (decode cX3_arrivalBy q.1 = .ok (q.2.1, q.2.2))) = true := by decide +kernel
def iX3_withChosen : List (Nat × Instr × Nat) := [(0, .lload_n 1, 1), (1, .lstore 5, 2), (3, .iload_n 3, 1), (4, .istore 7, 2), (6, .iload 7, 2), (8, .iload 4, 2), (10, .if_icmp .lt 39, 3), (13, .lload 5, 2), (15, .iload 7, 2), (17, .invokestatic 71, 3), (20, .ifCond .eq 23, 3), (23, .lload 5, 2), (25, .aload_n 0, 1), (26, .getfield 15, 3), (29, .iload 7, 2), (31, .laload, 1), (32, .aload_n 0, 1), (33, .getfield 22, 3), (36, .getfield 26, 3), (39, .land, 1), (40, .lor, 1), (41, .lstore 5, 2), (43, .iinc 7 (-1), 3), (46, .goto (-40), 3), (49, .lload 5, 2), (51, .lreturn, 1)]
set_option maxRecDepth 100000 in
theorem iX3_withChosen_ok : iX3_withChosen.all (fun q => decide (decode cX3_withChosen q.1 = .ok (q.2.1, q.2.2))) = true := by decide +kernel
def iX3_tablesWith : List (Nat × Instr × Nat) := [(0, .aload_n 0, 1), (1, .lload_n 3, 1), (2, .lload_n 1, 1), (3, .aload_n 0, 1), (4, .getfield 22, 3), (7, .getfield 26, 3), (10, .land, 1), (11, .lor, 1), (12, .iload 5, 2), (14, .iconst 1, 1), (15, .isub, 1), (16, .iconst 0, 1), (17, .invokevirtual 52, 3), (20, .lreturn, 1)]
set_option maxRecDepth 100000 in
theorem iX3_tablesWith_ok : iX3_tablesWith.all (fun q => decide (decode cX3_tablesWith q.1 = .ok (q.2.1, q.2.2))) = true := by decide +kernel
def iX3_findDue : List (Nat × Instr × Nat) := [(0, .iconst 0, 1), (1, .istore 4, 2), (3, .iload 4, 2), (5, .aload_n 0, 1), (6, .getfield 22, 3), (9, .getfield 48, 3), (12, .if_icmp .ge 32, 3), (15, .aload_n 0, 1), (16, .getfield 9, 3), (19, .iload 4, 2), (21, .lload_n 1, 1), (22, .iload 4, 2), (24, .invokestatic 71, 3), (27, .ifCond .eq 7, 3), (30, .iload_n 3, 1), (31, .goto 6, 3), (34, .sipush 1000, 3), (37, .iastore, 1), (38, .iinc 4 1, 3), (41, .goto (-38), 3), (44, .aload_n 0, 1), (45, .getfield 22, 3), (48, .getfield 48, 3), (51, .iconst 1, 1), (52, .isub, 1), (53, .istore 4, 2), (55, .iload 4, 2), (57, .ifCond .lt 82, 3), (60, .aload_n 0, 1), (61, .getfield 56, 3), (64, .iload 4, 2), (66, .invokestatic 71, 3), (69, .ifCond .eq 64, 3), (72, .aload_n 0, 1), (73, .getfield 15, 3), (76, .iload 4, 2), (78, .laload, 1), (79, .lstore 5, 2), (81, .lload 5, 2), (83, .lconst 0, 1), (84, .lcmp, 1), (85, .ifCond .eq 48, 3), (88, .lload 5, 2), (90, .invokestatic 32, 3), (93, .istore 7, 2), (95, .aload_n 0, 1), (96, .getfield 9, 3), (99, .iload 7, 2), (101, .aload_n 0, 1), (102, .getfield 9, 3), (105, .iload 7, 2), (107, .iaload, 1), (108, .aload_n 0, 1), (109, .getfield 9, 3), (112, .iload 4, 2), (114, .iaload, 1), (115, .iconst 1, 1), (116, .isub, 1), (117, .invokestatic 95, 3), (120, .iastore, 1), (121, .lload 5, 2), (123, .lload 5, 2), (125, .lconst 1, 1), (126, .lsub, 1), (127, .land, 1), (128, .lstore 5, 2), (130, .goto (-49), 3), (133, .iinc 4 (-1), 3), (136, .goto (-81), 3), (139, .return_, 1)]
set_option maxRecDepth 100000 in
theorem iX3_findDue_ok : iX3_findDue.all (fun q => decide (decode cX3_findDue q.1 = .ok (q.2.1, q.2.2))) = true := by decide +kernel
def iX3_bestCut : List (Nat × Instr × Nat) := [(0, .aload_n 0, 1), (1, .getfield 15, 3), (4, .iload_n 2, 1), (5, .laload, 1), (6, .lstore 5, 2), (8, .aload_n 0, 1), (9, .lload 5, 2), (11, .lload_n 3, 1), (12, .iload_n 2, 1), (13, .invokevirtual 79, 3), (16, .invokestatic 59, 3), (19, .istore 7, 2), (21, .aload_n 0, 1), (22, .lload 5, 2), (24, .invokevirtual 41, 3), (27, .istore 8, 2), (29, .iconst 0, 1), (30, .istore 9, 2), (32, .iload 9, 2), (34, .bipush 8, 2), (36, .if_icmp .ge 93, 3), (39, .aload_n 1, 1), (40, .iload_n 2, 1), (41, .iload 9, 2), (43, .invokevirtual 98, 3), (46, .lstore 10, 2), (48, .lload 10, 2), (50, .lconst 0, 1), (51, .lcmp, 1), (52, .ifCond .ne 6, 3), (55, .goto 74, 3), (58, .aload_n 0, 1), (59, .lload 10, 2), (61, .invokevirtual 41, 3), (64, .istore 12, 2), (66, .iload 12, 2), (68, .aload_n 0, 1), (69, .getfield 9, 3), (72, .iload_n 2, 1), (73, .iaload, 1), (74, .if_icmp .gt 49, 3), (77, .aload_n 0, 1), (78, .lload 10, 2), (80, .lload_n 3, 1), (81, .iload_n 2, 1), (82, .invokevirtual 79, 3), (85, .invokestatic 59, 3), (88, .istore 13, 2), (90, .iload 13, 2), (92, .iload 7, 2), (94, .if_icmp .lt 17, 3), (97, .iload 13, 2), (99, .iload 7, 2), (101, .if_icmp .ne 22, 3), (104, .iload 12, 2), (106, .iload 8, 2), (108, .if_icmp .ge 15, 3), (111, .lload 10, 2), (113, .lstore 5, 2), (115, .iload 13, 2), (117, .istore 7, 2), (119, .iload 12, 2), (121, .istore 8, 2), (123, .iinc 9 1, 3), (126, .goto (-94), 3), (129, .lload 5, 2), (131, .lreturn, 1)]
set_option maxRecDepth 100000 in
theorem iX3_bestCut_ok : iX3_bestCut.all (fun q => decide (decode cX3_bestCut q.1 = .ok (q.2.1, q.2.2))) = true := by decide +kernel
def iX4_learn : List (Nat × Instr × Nat) := [(0, .aload_n 0, 1), (1, .iload_n 1, 1), (2, .iconst 1, 1), (3, .iadd, 1), (4, .putfield 41, 3), (7, .aload_n 0, 1), (8, .getfield 25, 3), (11, .getfield 44, 3), (14, .iload_n 1, 1), (15, .invokestatic 50, 3), (18, .ifCond .ne 4, 3), (21, .return_, 1), (22, .aload_n 0, 1), (23, .aload_n 0, 1), (24, .getfield 25, 3), (27, .getfield 54, 3), (30, .iload_n 1, 1), (31, .laload, 1), (32, .invokevirtual 57, 3), (35, .istore_n 2, 1), (36, .iload_n 2, 1), (37, .ifCond .ne 7, 3), (40, .lconst 0, 1), (41, .goto 25, 3), (44, .aload_n 0, 1), (45, .getfield 29, 3), (48, .iload_n 1, 1), (49, .invokestatic 61, 3), (52, .aload_n 0, 1), (53, .iload_n 1, 1), (54, .iload_n 2, 1), (55, .invokevirtual 65, 3), (58, .lor, 1), (59, .aload_n 0, 1), (60, .getfield 37, 3), (63, .invokevirtual 69, 3), (66, .lstore_n 3, 1), (67, .lload_n 3, 1), (68, .lconst 0, 1), (69, .lcmp, 1), (70, .ifCond .eq 20, 3), (73, .aload_n 0, 1), (74, .getfield 9, 3), (77, .iload_n 1, 1), (78, .iload_n 2, 1), (79, .iastore, 1), (80, .aload_n 0, 1), (81, .getfield 15, 3), (84, .iload_n 1, 1), (85, .lload_n 3, 1), (86, .lastore, 1), (87, .goto 33, 3), (90, .aload_n 0, 1), (91, .getfield 9, 3), (94, .iload_n 1, 1), (95, .iload_n 2, 1), (96, .iconst 1, 1), (97, .iadd, 1), (98, .iastore, 1), (99, .aload_n 0, 1), (100, .getfield 15, 3), (103, .iload_n 1, 1), (104, .aload_n 0, 1), (105, .getfield 29, 3), (108, .iload_n 1, 1), (109, .invokestatic 61, 3), (112, .aload_n 0, 1), (113, .getfield 37, 3), (116, .invokevirtual 69, 3), (119, .lastore, 1), (120, .aload_n 0, 1), (121, .iload_n 1, 1), (122, .invokevirtual 75, 3), (125, .return_, 1)]
set_option maxRecDepth 100000 in
theorem iX4_learn_ok : iX4_learn.all (fun q => decide (decode cX4_learn q.1 = .ok (q.2.1, q.2.2))) = true := by decide +kernel
def iX4_greatestLevel : List (Nat × Instr × Nat) := [(0, .iconst 0, 1), (1, .istore_n 3, 1), (2, .lload_n 1, 1), (3, .lstore 4, 2), (5, .lload 4, 2), (7, .lconst 0, 1), (8, .lcmp, 1), (9, .ifCond .eq 30, 3), (12, .iload_n 3, 1), (13, .aload_n 0, 1), (14, .getfield 9, 3), (17, .lload 4, 2), (19, .invokestatic 79, 3), (22, .iaload, 1), (23, .invokestatic 82, 3), (26, .istore_n 3, 1), (27, .lload 4, 2), (29, .lload 4, 2), (31, .lconst 1, 1), (32, .lsub, 1), (33, .land, 1), (34, .lstore 4, 2), (36, .goto (-31), 3), (39, .iload_n 3, 1), (40, .ireturn, 1)]
set_option maxRecDepth 100000 in
theorem iX4_greatestLevel_ok : iX4_greatestLevel.all (fun q => decide (decode cX4_greatestLevel q.1 = .ok (q.2.1, q.2.2))) = true := by decide +kernel
def iX4_keptCut : List (Nat × Instr × Nat) := [(0, .iload_n 2, 1), (1, .aload_n 0, 1), (2, .getfield 22, 3), (5, .iload_n 1, 1), (6, .iaload, 1), (7, .if_icmp .ge 17, 3), (10, .aload_n 0, 1), (11, .getfield 19, 3), (14, .iload_n 1, 1), (15, .bipush 8, 2), (17, .imul, 1), (18, .iload_n 2, 1), (19, .iadd, 1), (20, .laload, 1), (21, .goto 4, 3), (24, .lconst 0, 1), (25, .lreturn, 1)]
set_option maxRecDepth 100000 in
theorem iX4_keptCut_ok : iX4_keptCut.all (fun q => decide (decode cX4_keptCut q.1 = .ok (q.2.1, q.2.2))) = true := by decide +kernel
def iX4_belowAtLevel : List (Nat × Instr × Nat) := [(0, .lconst 0, 1), (1, .lstore_n 3, 1), (2, .aload_n 0, 1), (3, .getfield 25, 3), (6, .getfield 88, 3), (9, .iload_n 1, 1), (10, .laload, 1), (11, .lstore 5, 2), (13, .lload 5, 2), (15, .lconst 0, 1), (16, .lcmp, 1), (17, .ifCond .eq 41, 3), (20, .lload 5, 2), (22, .invokestatic 79, 3), (25, .istore 7, 2), (27, .aload_n 0, 1), (28, .getfield 9, 3), (31, .iload 7, 2), (33, .iaload, 1), (34, .iload_n 2, 1), (35, .if_icmp .ne 11, 3), (38, .lload_n 3, 1), (39, .iload 7, 2), (41, .invokestatic 61, 3), (44, .lor, 1), (45, .lstore_n 3, 1), (46, .lload 5, 2), (48, .lload 5, 2), (50, .lconst 1, 1), (51, .lsub, 1), (52, .land, 1), (53, .lstore 5, 2), (55, .goto (-42), 3), (58, .lload_n 3, 1), (59, .lreturn, 1)]
set_option maxRecDepth 100000 in
theorem iX4_belowAtLevel_ok : iX4_belowAtLevel.all (fun q => decide (decode cX4_belowAtLevel q.1 = .ok (q.2.1, q.2.2))) = true := by decide +kernel
def iX4_learnKept : List (Nat × Instr × Nat) := [(0, .aload_n 0, 1), (1, .getfield 33, 3), (4, .invokevirtual 91, 3), (7, .aload_n 0, 1), (8, .getfield 33, 3), (11, .aload_n 0, 1), (12, .getfield 15, 3), (15, .iload_n 1, 1), (16, .laload, 1), (17, .aload_n 0, 1), (18, .aload_n 0, 1), (19, .getfield 15, 3), (22, .iload_n 1, 1), (23, .laload, 1), (24, .invokevirtual 96, 3), (27, .invokevirtual 100, 3), (30, .aload_n 0, 1), (31, .iload_n 1, 1), (32, .iconst 0, 1), (33, .invokevirtual 104, 3), (36, .istore_n 2, 1), (37, .aload_n 0, 1), (38, .iload_n 1, 1), (39, .iconst 1, 1), (40, .invokevirtual 104, 3), (43, .istore_n 3, 1), (44, .iconst 0, 1), (45, .istore 4, 2), (47, .iload 4, 2), (49, .iload_n 2, 1), (50, .if_icmp .ge 46, 3), (53, .iconst 0, 1), (54, .istore 5, 2), (56, .iload 5, 2), (58, .iload_n 3, 1), (59, .if_icmp .ge 31, 3), (62, .aload_n 0, 1), (63, .iload_n 1, 1), (64, .aload_n 0, 1), (65, .iload_n 1, 1), (66, .iconst 0, 1), (67, .iload 4, 2), (69, .invokevirtual 107, 3), (72, .aload_n 0, 1), (73, .iload_n 1, 1), (74, .iconst 1, 1), (75, .iload 5, 2), (77, .invokevirtual 107, 3), (80, .lor, 1), (81, .invokevirtual 111, 3), (84, .iinc 5 1, 3), (87, .goto (-31), 3), (90, .iinc 4 1, 3), (93, .goto (-46), 3), (96, .aload_n 0, 1), (97, .iload_n 1, 1), (98, .invokevirtual 115, 3), (101, .return_, 1)]
set_option maxRecDepth 100000 in
theorem iX4_learnKept_ok : iX4_learnKept.all (fun q => decide (decode cX4_learnKept q.1 = .ok (q.2.1, q.2.2))) = true := by decide +kernel
def iX4_takeKept : List (Nat × Instr × Nat) := [(0, .aload_n 0, 1), (1, .getfield 22, 3), (4, .iload_n 1, 1), (5, .iconst 0, 1), (6, .iastore, 1), (7, .iconst 0, 1), (8, .istore_n 2, 1), (9, .iload_n 2, 1), (10, .bipush 8, 2), (12, .if_icmp .ge 45, 3), (15, .aload_n 0, 1), (16, .getfield 33, 3), (19, .invokevirtual 118, 3), (22, .lstore_n 3, 1), (23, .lload_n 3, 1), (24, .lconst 0, 1), (25, .lcmp, 1), (26, .ifCond .ne 4, 3), (29, .return_, 1), (30, .aload_n 0, 1), (31, .getfield 19, 3), (34, .iload_n 1, 1), (35, .bipush 8, 2), (37, .imul, 1), (38, .iload_n 2, 1), (39, .iadd, 1), (40, .lload_n 3, 1), (41, .lastore, 1), (42, .aload_n 0, 1), (43, .getfield 22, 3), (46, .iload_n 1, 1), (47, .iload_n 2, 1), (48, .iconst 1, 1), (49, .iadd, 1), (50, .iastore, 1), (51, .iinc 2 1, 3), (54, .goto (-45), 3), (57, .return_, 1)]
set_option maxRecDepth 100000 in
theorem iX4_takeKept_ok : iX4_takeKept.all (fun q => decide (decode cX4_takeKept q.1 = .ok (q.2.1, q.2.2))) = true := by decide +kernel
def iX4_addWithThird : List (Nat × Instr × Nat) := [(0, .lload_n 2, 1), (1, .invokestatic 122, 3), (4, .aload_n 0, 1), (5, .getfield 37, 3), (8, .if_icmp .le 4, 3), (11, .return_, 1), (12, .aload_n 0, 1), (13, .iload_n 1, 1), (14, .iconst 2, 1), (15, .invokevirtual 104, 3), (18, .istore 4, 2), (20, .iconst 0, 1), (21, .istore 5, 2), (23, .iload 5, 2), (25, .iload 4, 2), (27, .if_icmp .ge 48, 3), (30, .lload_n 2, 1), (31, .aload_n 0, 1), (32, .iload_n 1, 1), (33, .iconst 2, 1), (34, .iload 5, 2), (36, .invokevirtual 107, 3), (39, .lor, 1), (40, .lstore 6, 2), (42, .lload 6, 2), (44, .invokestatic 122, 3), (47, .aload_n 0, 1), (48, .getfield 37, 3), (51, .if_icmp .gt 18, 3), (54, .aload_n 0, 1), (55, .getfield 33, 3), (58, .lload 6, 2), (60, .aload_n 0, 1), (61, .lload 6, 2), (63, .invokevirtual 96, 3), (66, .invokevirtual 100, 3), (69, .iinc 5 1, 3), (72, .goto (-49), 3), (75, .return_, 1)]
set_option maxRecDepth 100000 in
theorem iX4_addWithThird_ok : iX4_addWithThird.all (fun q => decide (decode cX4_addWithThird q.1 = .ok (q.2.1, q.2.2))) = true := by decide +kernel
def iX4_choices : List (Nat × Instr × Nat) := [(0, .aload_n 0, 1), (1, .getfield 25, 3), (4, .iload_n 1, 1), (5, .iload_n 2, 1), (6, .invokevirtual 127, 3), (9, .istore_n 3, 1), (10, .iload_n 3, 1), (11, .iconst (-1), 1), (12, .if_icmp .ne 7, 3), (15, .iconst 1, 1), (16, .goto 11, 3), (19, .iconst 1, 1), (20, .aload_n 0, 1), (21, .getfield 22, 3), (24, .iload_n 3, 1), (25, .iaload, 1), (26, .iadd, 1), (27, .ireturn, 1)]
set_option maxRecDepth 100000 in
theorem iX4_choices_ok : iX4_choices.all (fun q => decide (decode cX4_choices q.1 = .ok (q.2.1, q.2.2))) = true := by decide +kernel
def iX4_choice : List (Nat × Instr × Nat) := [(0, .aload_n 0, 1), (1, .getfield 25, 3), (4, .iload_n 1, 1), (5, .iload_n 2, 1), (6, .invokevirtual 127, 3), (9, .istore 4, 2), (11, .iload 4, 2), (13, .iconst (-1), 1), (14, .if_icmp .ne 5, 3), (17, .lconst 0, 1), (18, .lreturn, 1), (19, .iload_n 3, 1), (20, .ifCond .ne 11, 3), (23, .iload 4, 2), (25, .invokestatic 61, 3), (28, .goto 17, 3), (31, .aload_n 0, 1), (32, .getfield 19, 3), (35, .iload 4, 2), (37, .bipush 8, 2), (39, .imul, 1), (40, .iload_n 3, 1), (41, .iadd, 1), (42, .iconst 1, 1), (43, .isub, 1), (44, .laload, 1), (45, .lreturn, 1)]
set_option maxRecDepth 100000 in
theorem iX4_choice_ok : iX4_choice.all (fun q => decide (decode cX4_choice q.1 = .ok (q.2.1, q.2.2))) = true := by decide +kernel
def iX4_placeInRow : List (Nat × Instr × Nat) := [(0, .lconst 0, 1), (1, .lstore_n 3, 1), (2, .iconst 0, 1), (3, .istore 5, 2), (5, .iconst 0, 1), (6, .istore 6, 2), (8, .lload_n 1, 1), (9, .lstore 7, 2), (11, .lload 7, 2), (13, .lconst 0, 1), (14, .lcmp, 1), (15, .ifCond .eq 55, 3), (18, .iload 5, 2), (20, .bipush 6, 2), (22, .if_icmp .ge 48, 3), (25, .lload 7, 2), (27, .invokestatic 79, 3), (30, .istore 9, 2), (32, .lload_n 3, 1), (33, .bipush 6, 2), (35, .lshl, 1), (36, .iload 9, 2), (38, .i2l, 1), (39, .lor, 1), (40, .lstore_n 3, 1), (41, .iload 6, 2), (43, .aload_n 0, 1), (44, .getfield 9, 3), (47, .iload 9, 2), (49, .iaload, 1), (50, .invokestatic 82, 3), (53, .istore 6, 2), (55, .iinc 5 1, 3), (58, .lload 7, 2), (60, .lload 7, 2), (62, .lconst 1, 1), (63, .lsub, 1), (64, .land, 1), (65, .lstore 7, 2), (67, .goto (-56), 3), (70, .iload 6, 2), (72, .i2l, 1), (73, .iconst 3, 1), (74, .lshl, 1), (75, .iload 5, 2), (77, .i2l, 1), (78, .lor, 1), (79, .lstore 7, 2), (81, .lload 7, 2), (83, .bipush 36, 2), (85, .lshl, 1), (86, .lload_n 3, 1), (87, .bipush 6, 2), (89, .bipush 6, 2), (91, .iload 5, 2), (93, .isub, 1), (94, .imul, 1), (95, .lshl, 1), (96, .lor, 1), (97, .lreturn, 1)]
set_option maxRecDepth 100000 in
theorem iX4_placeInRow_ok : iX4_placeInRow.all (fun q => decide (decode cX4_placeInRow q.1 = .ok (q.2.1, q.2.2))) = true := by decide +kernel
def iX5_isKind : List (Nat × Instr × Nat) := [(0, .iload_n 0, 1), (1, .ifCond .lt 15, 3), (4, .iload_n 0, 1), (5, .getstatic 28, 3), (8, .arraylength, 1), (9, .if_icmp .ge 7, 3), (12, .iconst 1, 1), (13, .goto 4, 3), (16, .iconst 0, 1), (17, .ireturn, 1)]
set_option maxRecDepth 100000 in
theorem iX5_isKind_ok : iX5_isKind.all (fun q => decide (decode cX5_isKind q.1 = .ok (q.2.1, q.2.2))) = true := by decide +kernel
def iX5_sourcesOf : List (Nat × Instr × Nat) := [(0, .getstatic 28, 3), (3, .iload_n 0, 1), (4, .iaload, 1), (5, .ireturn, 1)]
set_option maxRecDepth 100000 in
theorem iX5_sourcesOf_ok : iX5_sourcesOf.all (fun q => decide (decode cX5_sourcesOf q.1 = .ok (q.2.1, q.2.2))) = true := by decide +kernel
def iX5_isFull : List (Nat × Instr × Nat) := [(0, .aload_n 0, 1), (1, .getfield 31, 3), (4, .bipush 40, 2), (6, .if_icmp .lt 7, 3), (9, .iconst 1, 1), (10, .goto 4, 3), (13, .iconst 0, 1), (14, .ireturn, 1)]
set_option maxRecDepth 100000 in
theorem iX5_isFull_ok : iX5_isFull.all (fun q => decide (decode cX5_isFull q.1 = .ok (q.2.1, q.2.2))) = true := by decide +kernel
def iX5_isNode : List (Nat × Instr × Nat) := [(0, .iload_n 1, 1), (1, .ifCond .lt 15, 3), (4, .iload_n 1, 1), (5, .aload_n 0, 1), (6, .getfield 31, 3), (9, .if_icmp .ge 7, 3), (12, .iconst 1, 1), (13, .goto 4, 3), (16, .iconst 0, 1), (17, .ireturn, 1)]
set_option maxRecDepth 100000 in
theorem iX5_isNode_ok : iX5_isNode.all (fun q => decide (decode cX5_isNode q.1 = .ok (q.2.1, q.2.2))) = true := by decide +kernel
def iX5_isInput : List (Nat × Instr × Nat) := [(0, .aload_n 0, 1), (1, .iload_n 1, 1), (2, .invokevirtual 35, 3), (5, .ifCond .eq 18, 3), (8, .aload_n 0, 1), (9, .getfield 39, 3), (12, .iload_n 1, 1), (13, .invokestatic 43, 3), (16, .ifCond .eq 7, 3), (19, .iconst 1, 1), (20, .goto 4, 3), (23, .iconst 0, 1), (24, .ireturn, 1)]
set_option maxRecDepth 100000 in
theorem iX5_isInput_ok : iX5_isInput.all (fun q => decide (decode cX5_isInput q.1 = .ok (q.2.1, q.2.2))) = true := by decide +kernel
def iX5_isGate : List (Nat × Instr × Nat) := [(0, .aload_n 0, 1), (1, .iload_n 1, 1), (2, .invokevirtual 35, 3), (5, .ifCond .eq 18, 3), (8, .aload_n 0, 1), (9, .getfield 47, 3), (12, .iload_n 1, 1), (13, .invokestatic 43, 3), (16, .ifCond .eq 7, 3), (19, .iconst 1, 1), (20, .goto 4, 3), (23, .iconst 0, 1), (24, .ireturn, 1)]
set_option maxRecDepth 100000 in
theorem iX5_isGate_ok : iX5_isGate.all (fun q => decide (decode cX5_isGate q.1 = .ok (q.2.1, q.2.2))) = true := by decide +kernel
def iX5_isRegister : List (Nat × Instr × Nat) := [(0, .aload_n 0, 1), (1, .iload_n 1, 1), (2, .invokevirtual 35, 3), (5, .ifCond .eq 18, 3), (8, .aload_n 0, 1), (9, .getfield 50, 3), (12, .iload_n 1, 1), (13, .invokestatic 43, 3), (16, .ifCond .eq 7, 3), (19, .iconst 1, 1), (20, .goto 4, 3), (23, .iconst 0, 1), (24, .ireturn, 1)]
set_option maxRecDepth 100000 in
theorem iX5_isRegister_ok : iX5_isRegister.all (fun q => decide (decode cX5_isRegister q.1 = .ok (q.2.1, q.2.2))) = true := by decide +kernel
def iX5_addInput : List (Nat × Instr × Nat) := [(0, .aload_n 0, 1), (1, .dup, 1), (2, .getfield 39, 3), (5, .aload_n 0, 1), (6, .getfield 31, 3), (9, .invokestatic 53, 3), (12, .lor, 1), (13, .putfield 39, 3), (16, .aload_n 0, 1), (17, .dup, 1), (18, .getfield 31, 3), (21, .dup_x1, 1), (22, .iconst 1, 1), (23, .iadd, 1), (24, .putfield 31, 3), (27, .ireturn, 1)]
set_option maxRecDepth 100000 in
theorem iX5_addInput_ok : iX5_addInput.all (fun q => decide (decode cX5_addInput q.1 = .ok (q.2.1, q.2.2))) = true := by decide +kernel
def iX5_addRegister : List (Nat × Instr × Nat) := [(0, .aload_n 0, 1), (1, .dup, 1), (2, .getfield 50, 3), (5, .aload_n 0, 1), (6, .getfield 31, 3), (9, .invokestatic 53, 3), (12, .lor, 1), (13, .putfield 50, 3), (16, .aload_n 0, 1), (17, .getfield 18, 3), (20, .aload_n 0, 1), (21, .getfield 31, 3), (24, .aload_n 0, 1), (25, .getfield 31, 3), (28, .iastore, 1), (29, .aload_n 0, 1), (30, .dup, 1), (31, .getfield 31, 3), (34, .dup_x1, 1), (35, .iconst 1, 1), (36, .iadd, 1), (37, .putfield 31, 3), (40, .ireturn, 1)]
set_option maxRecDepth 100000 in
theorem iX5_addRegister_ok : iX5_addRegister.all (fun q => decide (decode cX5_addRegister q.1 = .ok (q.2.1, q.2.2))) = true := by decide +kernel
def iX5_addGate : List (Nat × Instr × Nat) := [(0, .aload_n 0, 1), (1, .dup, 1), (2, .getfield 47, 3), (5, .aload_n 0, 1), (6, .getfield 31, 3), (9, .invokestatic 53, 3), (12, .lor, 1), (13, .putfield 47, 3), (16, .aload_n 0, 1), (17, .getfield 9, 3), (20, .aload_n 0, 1), (21, .getfield 31, 3), (24, .iload_n 1, 1), (25, .iastore, 1), (26, .aload_n 0, 1), (27, .getfield 15, 3), (30, .aload_n 0, 1), (31, .getfield 31, 3), (34, .iconst 3, 1), (35, .imul, 1), (36, .iload_n 2, 1), (37, .iastore, 1), (38, .aload_n 0, 1), (39, .getfield 15, 3), (42, .aload_n 0, 1), (43, .getfield 31, 3), (46, .iconst 3, 1), (47, .imul, 1), (48, .iconst 1, 1), (49, .iadd, 1), (50, .iload_n 3, 1), (51, .iastore, 1), (52, .aload_n 0, 1), (53, .getfield 15, 3), (56, .aload_n 0, 1), (57, .getfield 31, 3), (60, .iconst 3, 1), (61, .imul, 1), (62, .iconst 2, 1), (63, .iadd, 1), (64, .iload 4, 2), (66, .iastore, 1), (67, .aload_n 0, 1), (68, .getfield 21, 3), (71, .aload_n 0, 1), (72, .getfield 31, 3), (75, .iload_n 2, 1), (76, .invokestatic 53, 3), (79, .iload_n 3, 1), (80, .invokestatic 53, 3), (83, .lor, 1), (84, .iload 4, 2), (86, .invokestatic 53, 3), (89, .lor, 1), (90, .lastore, 1), (91, .aload_n 0, 1), (92, .getfield 25, 3), (95, .aload_n 0, 1), (96, .getfield 31, 3), (99, .aload_n 0, 1), (100, .getfield 21, 3), (103, .aload_n 0, 1), (104, .getfield 31, 3), (107, .laload, 1), (108, .aload_n 0, 1), (109, .getfield 25, 3), (112, .iload_n 2, 1), (113, .laload, 1), (114, .lor, 1), (115, .aload_n 0, 1), (116, .getfield 25, 3), (119, .iload_n 3, 1), (120, .laload, 1), (121, .lor, 1), (122, .aload_n 0, 1), (123, .getfield 25, 3), (126, .iload 4, 2), (128, .laload, 1), (129, .lor, 1), (130, .lastore, 1), (131, .aload_n 0, 1), (132, .dup, 1), (133, .getfield 31, 3), (136, .dup_x1, 1), (137, .iconst 1, 1), (138, .iadd, 1), (139, .putfield 31, 3), (142, .ireturn, 1)]
set_option maxRecDepth 100000 in
theorem iX5_addGate_ok : iX5_addGate.all (fun q => decide (decode cX5_addGate q.1 = .ok (q.2.1, q.2.2))) = true := by decide +kernel
def iX5_setFeed : List (Nat × Instr × Nat) := [(0, .aload_n 0, 1), (1, .getfield 18, 3), (4, .iload_n 1, 1), (5, .iload_n 2, 1), (6, .iastore, 1), (7, .return_, 1)]
set_option maxRecDepth 100000 in
theorem iX5_setFeed_ok : iX5_setFeed.all (fun q => decide (decode cX5_setFeed q.1 = .ok (q.2.1, q.2.2))) = true := by decide +kernel
def iX5_kindOf : List (Nat × Instr × Nat) := [(0, .aload_n 0, 1), (1, .getfield 9, 3), (4, .iload_n 1, 1), (5, .iaload, 1), (6, .ireturn, 1)]
set_option maxRecDepth 100000 in
theorem iX5_kindOf_ok : iX5_kindOf.all (fun q => decide (decode cX5_kindOf q.1 = .ok (q.2.1, q.2.2))) = true := by decide +kernel
def iX5_feedOf : List (Nat × Instr × Nat) := [(0, .aload_n 0, 1), (1, .getfield 18, 3), (4, .iload_n 1, 1), (5, .iaload, 1), (6, .ireturn, 1)]
set_option maxRecDepth 100000 in
theorem iX5_feedOf_ok : iX5_feedOf.all (fun q => decide (decode cX5_feedOf q.1 = .ok (q.2.1, q.2.2))) = true := by decide +kernel
def iX5_sourceOf : List (Nat × Instr × Nat) := [(0, .iload_n 2, 1), (1, .getstatic 28, 3), (4, .aload_n 0, 1), (5, .getfield 9, 3), (8, .iload_n 1, 1), (9, .iaload, 1), (10, .iaload, 1), (11, .if_icmp .ge 16, 3), (14, .aload_n 0, 1), (15, .getfield 15, 3), (18, .iload_n 1, 1), (19, .iconst 3, 1), (20, .imul, 1), (21, .iload_n 2, 1), (22, .iadd, 1), (23, .iaload, 1), (24, .goto 4, 3), (27, .iconst (-1), 1), (28, .ireturn, 1)]
set_option maxRecDepth 100000 in
theorem iX5_sourceOf_ok : iX5_sourceOf.all (fun q => decide (decode cX5_sourceOf q.1 = .ok (q.2.1, q.2.2))) = true := by decide +kernel
def iX5_sourceOrFeed : List (Nat × Instr × Nat) := [(0, .aload_n 0, 1), (1, .iload_n 1, 1), (2, .invokevirtual 57, 3), (5, .ifCond .eq 10, 3), (8, .aload_n 0, 1), (9, .iload_n 1, 1), (10, .iload_n 2, 1), (11, .invokevirtual 60, 3), (14, .ireturn, 1), (15, .aload_n 0, 1), (16, .iload_n 1, 1), (17, .invokevirtual 64, 3), (20, .ifCond .eq 16, 3), (23, .iload_n 2, 1), (24, .ifCond .ne 12, 3), (27, .aload_n 0, 1), (28, .getfield 18, 3), (31, .iload_n 1, 1), (32, .iaload, 1), (33, .goto 4, 3), (36, .iconst (-1), 1), (37, .ireturn, 1)]
set_option maxRecDepth 100000 in
theorem iX5_sourceOrFeed_ok : iX5_sourceOrFeed.all (fun q => decide (decode cX5_sourceOrFeed q.1 = .ok (q.2.1, q.2.2))) = true := by decide +kernel
def iX5_roots : List (Nat × Instr × Nat) := [(0, .aload_n 0, 1), (1, .getfield 67, 3), (4, .lstore_n 1, 1), (5, .aload_n 0, 1), (6, .getfield 50, 3), (9, .lstore_n 3, 1), (10, .lload_n 3, 1), (11, .lconst 0, 1), (12, .lcmp, 1), (13, .ifCond .eq 27, 3), (16, .lload_n 1, 1), (17, .aload_n 0, 1), (18, .getfield 18, 3), (21, .lload_n 3, 1), (22, .invokestatic 70, 3), (25, .iaload, 1), (26, .invokestatic 53, 3), (29, .lor, 1), (30, .lstore_n 1, 1), (31, .lload_n 3, 1), (32, .lload_n 3, 1), (33, .lconst 1, 1), (34, .lsub, 1), (35, .land, 1), (36, .lstore_n 3, 1), (37, .goto (-27), 3), (40, .lload_n 1, 1), (41, .lreturn, 1)]
set_option maxRecDepth 100000 in
theorem iX5_roots_ok : iX5_roots.all (fun q => decide (decode cX5_roots q.1 = .ok (q.2.1, q.2.2))) = true := by decide +kernel
def iX5_reached : List (Nat × Instr × Nat) := [(0, .iload_n 1, 1), (1, .invokestatic 53, 3), (4, .lstore 4, 2), (6, .iload_n 1, 1), (7, .istore 6, 2), (9, .iload 6, 2), (11, .ifCond .lt 37, 3), (14, .lload 4, 2), (16, .iload 6, 2), (18, .invokestatic 43, 3), (21, .ifCond .eq 21, 3), (24, .lload 4, 2), (26, .aload_n 0, 1), (27, .getfield 21, 3), (30, .iload 6, 2), (32, .laload, 1), (33, .lload_n 2, 1), (34, .ldc2_w 74, 3), (37, .lxor, 1), (38, .land, 1), (39, .lor, 1), (40, .lstore 4, 2), (42, .iinc 6 (-1), 3), (45, .goto (-36), 3), (48, .lload 4, 2), (50, .lreturn, 1)]
set_option maxRecDepth 100000 in
theorem iX5_reached_ok : iX5_reached.all (fun q => decide (decode cX5_reached q.1 = .ok (q.2.1, q.2.2))) = true := by decide +kernel
def iX5_separates : List (Nat × Instr × Nat) := [(0, .lload_n 2, 1), (1, .aload_n 0, 1), (2, .getfield 25, 3), (5, .iload_n 1, 1), (6, .laload, 1), (7, .ldc2_w 74, 3), (10, .lxor, 1), (11, .land, 1), (12, .lconst 0, 1), (13, .lcmp, 1), (14, .ifCond .ne 27, 3), (17, .aload_n 0, 1), (18, .iload_n 1, 1), (19, .lload_n 2, 1), (20, .invokevirtual 76, 3), (23, .aload_n 0, 1), (24, .getfield 47, 3), (27, .ldc2_w 74, 3), (30, .lxor, 1), (31, .land, 1), (32, .lconst 0, 1), (33, .lcmp, 1), (34, .ifCond .ne 7, 3), (37, .iconst 1, 1), (38, .goto 4, 3), (41, .iconst 0, 1), (42, .ireturn, 1)]
set_option maxRecDepth 100000 in
theorem iX5_separates_ok : iX5_separates.all (fun q => decide (decode cX5_separates q.1 = .ok (q.2.1, q.2.2))) = true := by decide +kernel
def iX5_valueOf : List (Nat × Instr × Nat) := [(0, .aload_n 2, 1), (1, .aload_n 0, 1), (2, .getfield 15, 3), (5, .iload_n 1, 1), (6, .iconst 3, 1), (7, .imul, 1), (8, .iaload, 1), (9, .laload, 1), (10, .lstore_n 3, 1), (11, .aload_n 2, 1), (12, .aload_n 0, 1), (13, .getfield 15, 3), (16, .iload_n 1, 1), (17, .iconst 3, 1), (18, .imul, 1), (19, .iconst 1, 1), (20, .iadd, 1), (21, .iaload, 1), (22, .laload, 1), (23, .lstore 5, 2), (25, .aload_n 2, 1), (26, .aload_n 0, 1), (27, .getfield 15, 3), (30, .iload_n 1, 1), (31, .iconst 3, 1), (32, .imul, 1), (33, .iconst 2, 1), (34, .iadd, 1), (35, .iaload, 1), (36, .laload, 1), (37, .lstore 7, 2), (39, .aload_n 0, 1), (40, .getfield 9, 3), (43, .iload_n 1, 1), (44, .iaload, 1), (45, .tableswitch 83 0 5 #[39, 45, 50, 55, 60, 69], 39), (84, .lload_n 3, 1), (85, .ldc2_w 74, 3), (88, .lxor, 1), (89, .lreturn, 1), (90, .lload_n 3, 1), (91, .lload 5, 2), (93, .land, 1), (94, .lreturn, 1), (95, .lload_n 3, 1), (96, .lload 5, 2), (98, .lor, 1), (99, .lreturn, 1), (100, .lload_n 3, 1), (101, .lload 5, 2), (103, .lxor, 1), (104, .lreturn, 1), (105, .lload_n 3, 1), (106, .lload 5, 2), (108, .land, 1), (109, .ldc2_w 74, 3), (112, .lxor, 1), (113, .lreturn, 1), (114, .lload_n 3, 1), (115, .lload 5, 2), (117, .land, 1), (118, .lload_n 3, 1), (119, .ldc2_w 74, 3), (122, .lxor, 1), (123, .lload 7, 2), (125, .land, 1), (126, .lor, 1), (127, .lreturn, 1), (128, .lload_n 3, 1), (129, .lload 5, 2), (131, .land, 1), (132, .lload_n 3, 1), (133, .lload 7, 2), (135, .land, 1), (136, .lor, 1), (137, .lload 5, 2), (139, .lload 7, 2), (141, .land, 1), (142, .lor, 1), (143, .lreturn, 1)]
set_option maxRecDepth 100000 in
theorem iX5_valueOf_ok : iX5_valueOf.all (fun q => decide (decode cX5_valueOf q.1 = .ok (q.2.1, q.2.2))) = true := by decide +kernel
def iX6_clear : List (Nat × Instr × Nat) := [(0, .aload_n 0, 1), (1, .iconst 0, 1), (2, .putfield 18, 3), (5, .return_, 1)]
set_option maxRecDepth 100000 in
theorem iX6_clear_ok : iX6_clear.all (fun q => decide (decode cX6_clear q.1 = .ok (q.2.1, q.2.2))) = true := by decide +kernel
def iX6_add : List (Nat × Instr × Nat) := [(0, .aload_n 0, 1), (1, .getfield 18, 3), (4, .sipush 730, 3), (7, .if_icmp .ge 33, 3), (10, .aload_n 0, 1), (11, .getfield 11, 3), (14, .aload_n 0, 1), (15, .getfield 18, 3), (18, .lload_n 1, 1), (19, .lastore, 1), (20, .aload_n 0, 1), (21, .getfield 15, 3), (24, .aload_n 0, 1), (25, .getfield 18, 3), (28, .lload_n 3, 1), (29, .lastore, 1), (30, .aload_n 0, 1), (31, .dup, 1), (32, .getfield 18, 3), (35, .iconst 1, 1), (36, .iadd, 1), (37, .putfield 18, 3), (40, .return_, 1)]
set_option maxRecDepth 100000 in
theorem iX6_add_ok : iX6_add.all (fun q => decide (decode cX6_add q.1 = .ok (q.2.1, q.2.2))) = true := by decide +kernel
def iX6_takeFirst : List (Nat × Instr × Nat) := [(0, .aload_n 0, 1), (1, .getfield 18, 3), (4, .ifCond .ne 5, 3), (7, .lconst 0, 1), (8, .lreturn, 1), (9, .iconst 0, 1), (10, .istore_n 1, 1), (11, .iconst 1, 1), (12, .istore_n 2, 1), (13, .iload_n 2, 1), (14, .aload_n 0, 1), (15, .getfield 18, 3), (18, .if_icmp .ge 27, 3), (21, .aload_n 0, 1), (22, .getfield 15, 3), (25, .iload_n 2, 1), (26, .laload, 1), (27, .aload_n 0, 1), (28, .getfield 15, 3), (31, .iload_n 1, 1), (32, .laload, 1), (33, .lcmp, 1), (34, .ifCond .ge 5, 3), (37, .iload_n 2, 1), (38, .istore_n 1, 1), (39, .iinc 2 1, 3), (42, .goto (-29), 3), (45, .aload_n 0, 1), (46, .getfield 11, 3), (49, .iload_n 1, 1), (50, .laload, 1), (51, .lstore_n 2, 1), (52, .aload_n 0, 1), (53, .lload_n 2, 1), (54, .invokevirtual 22, 3), (57, .lload_n 2, 1), (58, .lreturn, 1)]
set_option maxRecDepth 100000 in
theorem iX6_takeFirst_ok : iX6_takeFirst.all (fun q => decide (decode cX6_takeFirst q.1 = .ok (q.2.1, q.2.2))) = true := by decide +kernel
def iX6_dropAllWith : List (Nat × Instr × Nat) := [(0, .iconst 0, 1), (1, .istore_n 3, 1), (2, .iconst 0, 1), (3, .istore 4, 2), (5, .iload 4, 2), (7, .aload_n 0, 1), (8, .getfield 18, 3), (11, .if_icmp .ge 56, 3), (14, .lload_n 1, 1), (15, .aload_n 0, 1), (16, .getfield 11, 3), (19, .iload 4, 2), (21, .laload, 1), (22, .ldc2_w 26, 3), (25, .lxor, 1), (26, .land, 1), (27, .lconst 0, 1), (28, .lcmp, 1), (29, .ifCond .eq 32, 3), (32, .aload_n 0, 1), (33, .getfield 11, 3), (36, .iload_n 3, 1), (37, .aload_n 0, 1), (38, .getfield 11, 3), (41, .iload 4, 2), (43, .laload, 1), (44, .lastore, 1), (45, .aload_n 0, 1), (46, .getfield 15, 3), (49, .iload_n 3, 1), (50, .aload_n 0, 1), (51, .getfield 15, 3), (54, .iload 4, 2), (56, .laload, 1), (57, .lastore, 1), (58, .iinc 3 1, 3), (61, .iinc 4 1, 3), (64, .goto (-59), 3), (67, .aload_n 0, 1), (68, .iload_n 3, 1), (69, .putfield 18, 3), (72, .return_, 1)]
set_option maxRecDepth 100000 in
theorem iX6_dropAllWith_ok : iX6_dropAllWith.all (fun q => decide (decode cX6_dropAllWith q.1 = .ok (q.2.1, q.2.2))) = true := by decide +kernel
def iX7_setInput : List (Nat × Instr × Nat) := [(0, .aload_n 0, 1), (1, .getfield 19, 3), (4, .iload_n 1, 1), (5, .invokestatic 23, 3), (8, .ifCond .eq 7, 3), (11, .iconst 1, 1), (12, .goto 4, 3), (15, .iconst 0, 1), (16, .istore_n 3, 1), (17, .aload_n 0, 1), (18, .iload_n 2, 1), (19, .ifCond .eq 15, 3), (22, .aload_n 0, 1), (23, .getfield 19, 3), (26, .iload_n 1, 1), (27, .invokestatic 27, 3), (30, .lor, 1), (31, .goto 16, 3), (34, .aload_n 0, 1), (35, .getfield 19, 3), (38, .iload_n 1, 1), (39, .invokestatic 27, 3), (42, .ldc2_w 31, 3), (45, .lxor, 1), (46, .land, 1), (47, .putfield 19, 3), (50, .iload_n 3, 1), (51, .ireturn, 1)]
set_option maxRecDepth 100000 in
theorem iX7_setInput_ok : iX7_setInput.all (fun q => decide (decode cX7_setInput q.1 = .ok (q.2.1, q.2.2))) = true := by decide +kernel
def iX7_now : List (Nat × Instr × Nat) := [(0, .aload_n 0, 1), (1, .aload_n 0, 1), (2, .getfield 19, 3), (5, .invokevirtual 33, 3), (8, .lreturn, 1)]
set_option maxRecDepth 100000 in
theorem iX7_now_ok : iX7_now.all (fun q => decide (decode cX7_now q.1 = .ok (q.2.1, q.2.2))) = true := by decide +kernel
def iX7_changedBy : List (Nat × Instr × Nat) := [(0, .aload_n 0, 1), (1, .aload_n 0, 1), (2, .getfield 19, 3), (5, .invokevirtual 33, 3), (8, .aload_n 0, 1), (9, .aload_n 0, 1), (10, .getfield 19, 3), (13, .iload_n 1, 1), (14, .invokestatic 27, 3), (17, .lxor, 1), (18, .invokevirtual 33, 3), (21, .lxor, 1), (22, .lreturn, 1)]
set_option maxRecDepth 100000 in
theorem iX7_changedBy_ok : iX7_changedBy.all (fun q => decide (decode cX7_changedBy q.1 = .ok (q.2.1, q.2.2))) = true := by decide +kernel
def iX7_run : List (Nat × Instr × Nat) := [(0, .iconst 0, 1), (1, .istore_n 2, 1), (2, .iconst 0, 1), (3, .istore_n 3, 1), (4, .iload_n 3, 1), (5, .iload_n 1, 1), (6, .if_icmp .ge 45, 3), (9, .aload_n 0, 1), (10, .getfield 19, 3), (13, .aload_n 0, 1), (14, .getfield 15, 3), (17, .getfield 37, 3), (20, .land, 1), (21, .aload_n 0, 1), (22, .invokevirtual 42, 3), (25, .lor, 1), (26, .lstore 4, 2), (28, .lload 4, 2), (30, .aload_n 0, 1), (31, .getfield 19, 3), (34, .lxor, 1), (35, .invokestatic 46, 3), (38, .istore_n 2, 1), (39, .aload_n 0, 1), (40, .lload 4, 2), (42, .putfield 19, 3), (45, .iinc 3 1, 3), (48, .goto (-44), 3), (51, .iload_n 2, 1), (52, .ireturn, 1)]
set_option maxRecDepth 100000 in
theorem iX7_run_ok : iX7_run.all (fun q => decide (decode cX7_run q.1 = .ok (q.2.1, q.2.2))) = true := by decide +kernel
def iX7_registersNext : List (Nat × Instr × Nat) := [(0, .aload_n 0, 1), (1, .invokevirtual 52, 3), (4, .lstore_n 1, 1), (5, .lconst 0, 1), (6, .lstore_n 3, 1), (7, .aload_n 0, 1), (8, .getfield 15, 3), (11, .getfield 55, 3), (14, .lstore 5, 2), (16, .lload 5, 2), (18, .lconst 0, 1), (19, .lcmp, 1), (20, .ifCond .eq 46, 3), (23, .lload 5, 2), (25, .invokestatic 58, 3), (28, .istore 7, 2), (30, .lload_n 1, 1), (31, .aload_n 0, 1), (32, .getfield 15, 3), (35, .iload 7, 2), (37, .invokevirtual 61, 3), (40, .invokestatic 23, 3), (43, .ifCond .eq 11, 3), (46, .lload_n 3, 1), (47, .iload 7, 2), (49, .invokestatic 27, 3), (52, .lor, 1), (53, .lstore_n 3, 1), (54, .lload 5, 2), (56, .lload 5, 2), (58, .lconst 1, 1), (59, .lsub, 1), (60, .land, 1), (61, .lstore 5, 2), (63, .goto (-47), 3), (66, .lload_n 3, 1), (67, .lreturn, 1)]
set_option maxRecDepth 100000 in
theorem iX7_registersNext_ok : iX7_registersNext.all (fun q => decide (decode cX7_registersNext q.1 = .ok (q.2.1, q.2.2))) = true := by decide +kernel
def iX7_nodesOn : List (Nat × Instr × Nat) := [(0, .lconst 0, 1), (1, .lstore_n 3, 1), (2, .iconst 0, 1), (3, .istore 5, 2), (5, .iload 5, 2), (7, .aload_n 0, 1), (8, .getfield 15, 3), (11, .getfield 65, 3), (14, .if_icmp .ge 66, 3), (17, .aload_n 0, 1), (18, .getfield 9, 3), (21, .iload 5, 2), (23, .aload_n 0, 1), (24, .getfield 15, 3), (27, .getfield 69, 3), (30, .iload 5, 2), (32, .invokestatic 23, 3), (35, .ifCond .eq 19, 3), (38, .aload_n 0, 1), (39, .getfield 15, 3), (42, .iload 5, 2), (44, .aload_n 0, 1), (45, .getfield 9, 3), (48, .invokevirtual 72, 3), (51, .goto 7, 3), (54, .lload_n 1, 1), (55, .iload 5, 2), (57, .lshr, 1), (58, .lastore, 1), (59, .lload_n 3, 1), (60, .aload_n 0, 1), (61, .getfield 9, 3), (64, .iload 5, 2), (66, .laload, 1), (67, .lconst 1, 1), (68, .land, 1), (69, .iload 5, 2), (71, .lshl, 1), (72, .lor, 1), (73, .lstore_n 3, 1), (74, .iinc 5 1, 3), (77, .goto (-72), 3), (80, .lload_n 3, 1), (81, .lreturn, 1)]
set_option maxRecDepth 100000 in
theorem iX7_nodesOn_ok : iX7_nodesOn.all (fun q => decide (decode cX7_nodesOn q.1 = .ok (q.2.1, q.2.2))) = true := by decide +kernel
def iX8_nearestCut : List (Nat × Instr × Nat) := [(0, .lconst 0, 1), (1, .lstore 4, 2), (3, .lload_n 1, 1), (4, .lstore 6, 2), (6, .lload 6, 2), (8, .lconst 0, 1), (9, .lcmp, 1), (10, .ifCond .eq 33, 3), (13, .lload 4, 2), (15, .aload_n 0, 1), (16, .getfield 21, 3), (19, .getfield 25, 3), (22, .lload 6, 2), (24, .invokestatic 31, 3), (27, .laload, 1), (28, .lor, 1), (29, .lstore 4, 2), (31, .lload 6, 2), (33, .lload 6, 2), (35, .lconst 1, 1), (36, .lsub, 1), (37, .land, 1), (38, .lstore 6, 2), (40, .goto (-34), 3), (43, .lload 4, 2), (45, .lload_n 1, 1), (46, .ldc2_w 35, 3), (49, .lxor, 1), (50, .land, 1), (51, .lstore 4, 2), (53, .aload_n 0, 1), (54, .lconst 0, 1), (55, .putfield 37, 3), (58, .iconst 0, 1), (59, .istore 6, 2), (61, .iload 6, 2), (63, .iload_n 3, 1), (64, .if_icmp .gt 46, 3), (67, .aload_n 0, 1), (68, .lload 4, 2), (70, .invokevirtual 41, 3), (73, .istore 7, 2), (75, .iload 7, 2), (77, .iconst (-1), 1), (78, .if_icmp .ne 17, 3), (81, .aload_n 0, 1), (82, .getfield 44, 3), (85, .aload_n 0, 1), (86, .getfield 47, 3), (89, .ldc2_w 35, 3), (92, .lxor, 1), (93, .land, 1), (94, .lreturn, 1), (95, .aload_n 0, 1), (96, .iload 7, 2), (98, .bipush 40, 2), (100, .iadd, 1), (101, .invokevirtual 50, 3), (104, .iinc 6 1, 3), (107, .goto (-46), 3), (110, .lconst 0, 1), (111, .lreturn, 1)]
set_option maxRecDepth 100000 in
theorem iX8_nearestCut_ok : iX8_nearestCut.all (fun q => decide (decode cX8_nearestCut q.1 = .ok (q.2.1, q.2.2))) = true := by decide +kernel
def iX8_findWay : List (Nat × Instr × Nat) := [(0, .aload_n 0, 1), (1, .lconst 0, 1), (2, .putfield 44, 3), (5, .aload_n 0, 1), (6, .lconst 0, 1), (7, .putfield 47, 3), (10, .aload_n 0, 1), (11, .iconst 0, 1), (12, .putfield 54, 3), (15, .aload_n 0, 1), (16, .lload_n 1, 1), (17, .iconst (-1), 1), (18, .invokevirtual 58, 3), (21, .iconst 0, 1), (22, .istore_n 3, 1), (23, .iload_n 3, 1), (24, .aload_n 0, 1), (25, .getfield 54, 3), (28, .if_icmp .ge 128, 3), (31, .aload_n 0, 1), (32, .getfield 15, 3), (35, .iload_n 3, 1), (36, .iaload, 1), (37, .istore 4, 2), (39, .iload 4, 2), (41, .bipush 40, 2), (43, .if_icmp .ge 8, 3), (46, .iload 4, 2), (48, .goto 8, 3), (51, .iload 4, 2), (53, .bipush 40, 2), (55, .isub, 1), (56, .istore 5, 2), (58, .iload 4, 2), (60, .iload 5, 2), (62, .if_icmp .ne 36, 3), (65, .aload_n 0, 1), (66, .aload_n 0, 1), (67, .getfield 37, 3), (70, .iload 5, 2), (72, .invokestatic 62, 3), (75, .ifCond .eq 13, 3), (78, .aload_n 0, 1), (79, .getfield 18, 3), (82, .iload 5, 2), (84, .iaload, 1), (85, .goto 5, 3), (88, .iload 5, 2), (90, .iload 4, 2), (92, .invokevirtual 66, 3), (95, .goto 55, 3), (98, .aload_n 0, 1), (99, .getfield 21, 3), (102, .getfield 70, 3), (105, .iload 5, 2), (107, .invokestatic 62, 3), (110, .ifCond .eq 37, 3), (113, .aload_n 0, 1), (114, .getfield 37, 3), (117, .iload 5, 2), (119, .invokestatic 73, 3), (122, .land, 1), (123, .lstore 6, 2), (125, .aload_n 0, 1), (126, .aload_n 0, 1), (127, .getfield 21, 3), (130, .getfield 25, 3), (133, .iload 5, 2), (135, .laload, 1), (136, .lload 6, 2), (138, .lor, 1), (139, .iload 4, 2), (141, .invokevirtual 58, 3), (144, .goto 6, 3), (147, .iload 5, 2), (149, .ireturn, 1), (150, .iinc 3 1, 3), (153, .goto (-130), 3), (156, .iconst (-1), 1), (157, .ireturn, 1)]
set_option maxRecDepth 100000 in
theorem iX8_findWay_ok : iX8_findWay.all (fun q => decide (decode cX8_findWay q.1 = .ok (q.2.1, q.2.2))) = true := by decide +kernel
def iX8_seeUppers : List (Nat × Instr × Nat) := [(0, .lload_n 1, 1), (1, .aload_n 0, 1), (2, .getfield 44, 3), (5, .ldc2_w 35, 3), (8, .lxor, 1), (9, .land, 1), (10, .lstore 4, 2), (12, .lload 4, 2), (14, .lconst 0, 1), (15, .lcmp, 1), (16, .ifCond .eq 48, 3), (19, .lload 4, 2), (21, .invokestatic 31, 3), (24, .istore 6, 2), (26, .aload_n 0, 1), (27, .getfield 9, 3), (30, .iload 6, 2), (32, .iload_n 3, 1), (33, .iastore, 1), (34, .aload_n 0, 1), (35, .getfield 15, 3), (38, .aload_n 0, 1), (39, .dup, 1), (40, .getfield 54, 3), (43, .dup_x1, 1), (44, .iconst 1, 1), (45, .iadd, 1), (46, .putfield 54, 3), (49, .iload 6, 2), (51, .iastore, 1), (52, .lload 4, 2), (54, .lload 4, 2), (56, .lconst 1, 1), (57, .lsub, 1), (58, .land, 1), (59, .lstore 4, 2), (61, .goto (-49), 3), (64, .aload_n 0, 1), (65, .dup, 1), (66, .getfield 44, 3), (69, .lload_n 1, 1), (70, .lor, 1), (71, .putfield 44, 3), (74, .return_, 1)]
set_option maxRecDepth 100000 in
theorem iX8_seeUppers_ok : iX8_seeUppers.all (fun q => decide (decode cX8_seeUppers q.1 = .ok (q.2.1, q.2.2))) = true := by decide +kernel
def iX8_seeLower : List (Nat × Instr × Nat) := [(0, .iload_n 1, 1), (1, .iconst (-1), 1), (2, .if_icmp .eq 57, 3), (5, .aload_n 0, 1), (6, .getfield 47, 3), (9, .iload_n 1, 1), (10, .invokestatic 62, 3), (13, .ifCond .ne 46, 3), (16, .aload_n 0, 1), (17, .dup, 1), (18, .getfield 47, 3), (21, .iload_n 1, 1), (22, .invokestatic 73, 3), (25, .lor, 1), (26, .putfield 47, 3), (29, .aload_n 0, 1), (30, .getfield 9, 3), (33, .iload_n 1, 1), (34, .bipush 40, 2), (36, .iadd, 1), (37, .iload_n 2, 1), (38, .iastore, 1), (39, .aload_n 0, 1), (40, .getfield 15, 3), (43, .aload_n 0, 1), (44, .dup, 1), (45, .getfield 54, 3), (48, .dup_x1, 1), (49, .iconst 1, 1), (50, .iadd, 1), (51, .putfield 54, 3), (54, .iload_n 1, 1), (55, .bipush 40, 2), (57, .iadd, 1), (58, .iastore, 1), (59, .return_, 1)]
set_option maxRecDepth 100000 in
theorem iX8_seeLower_ok : iX8_seeLower.all (fun q => decide (decode cX8_seeLower q.1 = .ok (q.2.1, q.2.2))) = true := by decide +kernel
def iX8_layWay : List (Nat × Instr × Nat) := [(0, .iload_n 1, 1), (1, .istore_n 2, 1), (2, .iconst 0, 1), (3, .istore_n 3, 1), (4, .iload_n 3, 1), (5, .bipush 80, 2), (7, .if_icmp .ge 107, 3), (10, .iload_n 2, 1), (11, .iconst (-1), 1), (12, .if_icmp .eq 102, 3), (15, .aload_n 0, 1), (16, .getfield 9, 3), (19, .iload_n 2, 1), (20, .iaload, 1), (21, .istore 4, 2), (23, .iload_n 2, 1), (24, .bipush 40, 2), (26, .if_icmp .lt 29, 3), (29, .iload 4, 2), (31, .iload_n 2, 1), (32, .bipush 40, 2), (34, .isub, 1), (35, .if_icmp .ne 70, 3), (38, .aload_n 0, 1), (39, .dup, 1), (40, .getfield 37, 3), (43, .iload 4, 2), (45, .invokestatic 73, 3), (48, .lor, 1), (49, .putfield 37, 3), (52, .goto 53, 3), (55, .iload 4, 2), (57, .iload_n 2, 1), (58, .bipush 40, 2), (60, .iadd, 1), (61, .if_icmp .ne 23, 3), (64, .aload_n 0, 1), (65, .dup, 1), (66, .getfield 37, 3), (69, .iload_n 2, 1), (70, .invokestatic 73, 3), (73, .ldc2_w 35, 3), (76, .lxor, 1), (77, .land, 1), (78, .putfield 37, 3), (81, .goto 24, 3), (84, .aload_n 0, 1), (85, .getfield 18, 3), (88, .iload_n 2, 1), (89, .iload 4, 2), (91, .iconst (-1), 1), (92, .if_icmp .ne 7, 3), (95, .iconst (-1), 1), (96, .goto 8, 3), (99, .iload 4, 2), (101, .bipush 40, 2), (103, .isub, 1), (104, .iastore, 1), (105, .iload 4, 2), (107, .istore_n 2, 1), (108, .iinc 3 1, 3), (111, .goto (-107), 3), (114, .return_, 1)]
set_option maxRecDepth 100000 in
theorem iX8_layWay_ok : iX8_layWay.all (fun q => decide (decode cX8_layWay q.1 = .ok (q.2.1, q.2.2))) = true := by decide +kernel
def iX9_input : List (Nat × Instr × Nat) := [(0, .aload_n 0, 1), (1, .getfield 10, 3), (4, .invokevirtual 80, 3), (7, .ifCond .eq 5, 3), (10, .iconst (-1), 1), (11, .ireturn, 1), (12, .aload_n 0, 1), (13, .iconst 0, 1), (14, .putfield 76, 3), (17, .aload_n 0, 1), (18, .getfield 10, 3), (21, .invokevirtual 84, 3), (24, .ireturn, 1)]
set_option maxRecDepth 100000 in
theorem iX9_input_ok : iX9_input.all (fun q => decide (decode cX9_input q.1 = .ok (q.2.1, q.2.2))) = true := by decide +kernel
def iX9_gate : List (Nat × Instr × Nat) := [(0, .aload_n 0, 1), (1, .getfield 10, 3), (4, .invokevirtual 80, 3), (7, .ifCond .ne 10, 3), (10, .iload_n 1, 1), (11, .invokestatic 88, 3), (14, .ifCond .ne 5, 3), (17, .iconst (-1), 1), (18, .ireturn, 1), (19, .iload_n 1, 1), (20, .invokestatic 92, 3), (23, .istore 5, 2), (25, .aload_n 0, 1), (26, .getfield 10, 3), (29, .iload_n 2, 1), (30, .invokevirtual 96, 3), (33, .ifCond .eq 38, 3), (36, .iload 5, 2), (38, .iconst 1, 1), (39, .if_icmp .le 14, 3), (42, .aload_n 0, 1), (43, .getfield 10, 3), (46, .iload_n 3, 1), (47, .invokevirtual 96, 3), (50, .ifCond .eq 21, 3), (53, .iload 5, 2), (55, .iconst 2, 1), (56, .if_icmp .le 17, 3), (59, .aload_n 0, 1), (60, .getfield 10, 3), (63, .iload 4, 2), (65, .invokevirtual 96, 3), (68, .ifCond .ne 5, 3), (71, .iconst (-1), 1), (72, .ireturn, 1), (73, .aload_n 0, 1), (74, .iconst 0, 1), (75, .putfield 76, 3), (78, .aload_n 0, 1), (79, .getfield 10, 3), (82, .iload_n 1, 1), (83, .iload_n 2, 1), (84, .iload 5, 2), (86, .iconst 1, 1), (87, .if_icmp .le 7, 3), (90, .iload_n 3, 1), (91, .goto 4, 3), (94, .iload_n 2, 1), (95, .iload 5, 2), (97, .iconst 2, 1), (98, .if_icmp .le 8, 3), (101, .iload 4, 2), (103, .goto 4, 3), (106, .iload_n 2, 1), (107, .invokevirtual 99, 3), (110, .ireturn, 1)]
set_option maxRecDepth 100000 in
theorem iX9_gate_ok : iX9_gate.all (fun q => decide (decode cX9_gate q.1 = .ok (q.2.1, q.2.2))) = true := by decide +kernel
def iX9_register : List (Nat × Instr × Nat) := [(0, .aload_n 0, 1), (1, .getfield 10, 3), (4, .invokevirtual 80, 3), (7, .ifCond .eq 5, 3), (10, .iconst (-1), 1), (11, .ireturn, 1), (12, .aload_n 0, 1), (13, .iconst 0, 1), (14, .putfield 76, 3), (17, .aload_n 0, 1), (18, .getfield 10, 3), (21, .invokevirtual 103, 3), (24, .ireturn, 1)]
set_option maxRecDepth 100000 in
theorem iX9_register_ok : iX9_register.all (fun q => decide (decode cX9_register q.1 = .ok (q.2.1, q.2.2))) = true := by decide +kernel
def iX9_feed : List (Nat × Instr × Nat) := [(0, .aload_n 0, 1), (1, .getfield 10, 3), (4, .iload_n 1, 1), (5, .invokevirtual 106, 3), (8, .ifCond .eq 14, 3), (11, .aload_n 0, 1), (12, .getfield 10, 3), (15, .iload_n 2, 1), (16, .invokevirtual 96, 3), (19, .ifCond .ne 5, 3), (22, .iconst 0, 1), (23, .ireturn, 1), (24, .aload_n 0, 1), (25, .iconst 0, 1), (26, .putfield 76, 3), (29, .aload_n 0, 1), (30, .getfield 10, 3), (33, .iload_n 1, 1), (34, .iload_n 2, 1), (35, .invokevirtual 109, 3), (38, .iconst 1, 1), (39, .ireturn, 1)]
set_option maxRecDepth 100000 in
theorem iX9_feed_ok : iX9_feed.all (fun q => decide (decode cX9_feed q.1 = .ok (q.2.1, q.2.2))) = true := by decide +kernel
def iX9_output : List (Nat × Instr × Nat) := [(0, .aload_n 0, 1), (1, .getfield 10, 3), (4, .iload_n 1, 1), (5, .invokevirtual 96, 3), (8, .ifCond .eq 32, 3), (11, .aload_n 0, 1), (12, .getfield 10, 3), (15, .getfield 113, 3), (18, .iload_n 1, 1), (19, .invokestatic 117, 3), (22, .ifCond .ne 18, 3), (25, .aload_n 0, 1), (26, .getfield 10, 3), (29, .getfield 113, 3), (32, .invokestatic 121, 3), (35, .bipush 12, 2), (37, .if_icmp .lt 5, 3), (40, .iconst (-1), 1), (41, .ireturn, 1), (42, .aload_n 0, 1), (43, .iconst 0, 1), (44, .putfield 76, 3), (47, .aload_n 0, 1), (48, .getfield 10, 3), (51, .dup, 1), (52, .getfield 113, 3), (55, .iload_n 1, 1), (56, .invokestatic 127, 3), (59, .lor, 1), (60, .putfield 113, 3), (63, .aload_n 0, 1), (64, .getfield 10, 3), (67, .getfield 113, 3), (70, .invokestatic 121, 3), (73, .ireturn, 1)]
set_option maxRecDepth 100000 in
theorem iX9_output_ok : iX9_output.all (fun q => decide (decode cX9_output q.1 = .ok (q.2.1, q.2.2))) = true := by decide +kernel
def iX9_inputs : List (Nat × Instr × Nat) := [(0, .iload_n 1, 1), (1, .iconst 3, 1), (2, .if_icmp .lt 9, 3), (5, .iload_n 1, 1), (6, .bipush 6, 2), (8, .if_icmp .le 5, 3), (11, .iconst (-1), 1), (12, .ireturn, 1), (13, .aload_n 0, 1), (14, .getfield 72, 3), (17, .istore_n 2, 1), (18, .iload_n 1, 1), (19, .iload_n 2, 1), (20, .if_icmp .eq 8, 3), (23, .aload_n 0, 1), (24, .iconst 0, 1), (25, .putfield 76, 3), (28, .aload_n 0, 1), (29, .iload_n 1, 1), (30, .putfield 72, 3), (33, .iload_n 2, 1), (34, .ireturn, 1)]
set_option maxRecDepth 100000 in
theorem iX9_inputs_ok : iX9_inputs.all (fun q => decide (decode cX9_inputs q.1 = .ok (q.2.1, q.2.2))) = true := by decide +kernel
def iX9_map : List (Nat × Instr × Nat) := [(0, .aload_n 0, 1), (1, .getfield 43, 3), (4, .aload_n 0, 1), (5, .invokevirtual 131, 3), (8, .invokevirtual 135, 3), (11, .aload_n 0, 1), (12, .iconst 1, 1), (13, .putfield 76, 3), (16, .aload_n 0, 1), (17, .invokevirtual 139, 3), (20, .aload_n 0, 1), (21, .getfield 43, 3), (24, .getfield 142, 3), (27, .invokestatic 121, 3), (30, .ireturn, 1)]
set_option maxRecDepth 100000 in
theorem iX9_map_ok : iX9_map.all (fun q => decide (decode cX9_map q.1 = .ok (q.2.1, q.2.2))) = true := by decide +kernel
def iX9_again : List (Nat × Instr × Nat) := [(0, .aload_n 0, 1), (1, .getfield 76, 3), (4, .ifCond .eq 12, 3), (7, .iload_n 1, 1), (8, .ifCond .lt 8, 3), (11, .iload_n 1, 1), (12, .iconst 5, 1), (13, .if_icmp .le 5, 3), (16, .iconst (-1), 1), (17, .ireturn, 1), (18, .aload_n 0, 1), (19, .getfield 43, 3), (22, .aload_n 0, 1), (23, .invokevirtual 131, 3), (26, .iload_n 1, 1), (27, .invokevirtual 145, 3), (30, .istore_n 2, 1), (31, .aload_n 0, 1), (32, .invokevirtual 139, 3), (35, .iload_n 2, 1), (36, .ireturn, 1)]
set_option maxRecDepth 100000 in
theorem iX9_again_ok : iX9_again.all (fun q => decide (decode cX9_again q.1 = .ok (q.2.1, q.2.2))) = true := by decide +kernel
def iX9_set : List (Nat × Instr × Nat) := [(0, .aload_n 0, 1), (1, .getfield 10, 3), (4, .iload_n 1, 1), (5, .invokevirtual 149, 3), (8, .ifCond .ne 5, 3), (11, .iconst (-1), 1), (12, .ireturn, 1), (13, .aload_n 0, 1), (14, .getfield 21, 3), (17, .iload_n 1, 1), (18, .iload_n 2, 1), (19, .invokevirtual 152, 3), (22, .ireturn, 1)]
set_option maxRecDepth 100000 in
theorem iX9_set_ok : iX9_set.all (fun q => decide (decode cX9_set q.1 = .ok (q.2.1, q.2.2))) = true := by decide +kernel
def iX9_clock : List (Nat × Instr × Nat) := [(0, .iload_n 1, 1), (1, .iconst 1, 1), (2, .if_icmp .lt 9, 3), (5, .iload_n 1, 1), (6, .bipush 64, 2), (8, .if_icmp .le 5, 3), (11, .iconst (-1), 1), (12, .ireturn, 1), (13, .aload_n 0, 1), (14, .getfield 21, 3), (17, .iload_n 1, 1), (18, .invokevirtual 156, 3), (21, .ireturn, 1)]
set_option maxRecDepth 100000 in
theorem iX9_clock_ok : iX9_clock.all (fun q => decide (decode cX9_clock q.1 = .ok (q.2.1, q.2.2))) = true := by decide +kernel
def iX9_node : List (Nat × Instr × Nat) := [(0, .aload_n 0, 1), (1, .getfield 10, 3), (4, .iload_n 1, 1), (5, .invokevirtual 96, 3), (8, .ifCond .ne 5, 3), (11, .iconst (-1), 1), (12, .ireturn, 1), (13, .iload_n 2, 1), (14, .tableswitch 157 0 7 #[46, 78, 102, 102, 102, 114, 124, 144], 46), (60, .aload_n 0, 1), (61, .getfield 10, 3), (64, .iload_n 1, 1), (65, .invokevirtual 159, 3), (68, .ifCond .eq 7, 3), (71, .iconst 1, 1), (72, .goto 19, 3), (75, .aload_n 0, 1), (76, .getfield 10, 3), (79, .iload_n 1, 1), (80, .invokevirtual 106, 3), (83, .ifCond .eq 7, 3), (86, .iconst 2, 1), (87, .goto 4, 3), (90, .iconst 0, 1), (91, .ireturn, 1), (92, .aload_n 0, 1), (93, .getfield 10, 3), (96, .iload_n 1, 1), (97, .invokevirtual 159, 3), (100, .ifCond .eq 14, 3), (103, .aload_n 0, 1), (104, .getfield 10, 3), (107, .iload_n 1, 1), (108, .invokevirtual 162, 3), (111, .goto 4, 3), (114, .iconst (-1), 1), (115, .ireturn, 1), (116, .aload_n 0, 1), (117, .getfield 10, 3), (120, .iload_n 1, 1), (121, .iload_n 2, 1), (122, .iconst 2, 1), (123, .isub, 1), (124, .invokevirtual 165, 3), (127, .ireturn, 1), (128, .aload_n 0, 1), (129, .invokevirtual 131, 3), (132, .getfield 169, 3), (135, .iload_n 1, 1), (136, .iaload, 1), (137, .ireturn, 1), (138, .aload_n 0, 1), (139, .getfield 10, 3), (142, .invokevirtual 173, 3), (145, .iload_n 1, 1), (146, .invokestatic 117, 3), (149, .ifCond .eq 7, 3), (152, .iconst 1, 1), (153, .goto 4, 3), (156, .iconst 0, 1), (157, .ireturn, 1), (158, .aload_n 0, 1), (159, .getfield 10, 3), (162, .getfield 177, 3), (165, .iload_n 1, 1), (166, .laload, 1), (167, .invokestatic 121, 3), (170, .ireturn, 1), (171, .iconst (-1), 1), (172, .ireturn, 1)]
set_option maxRecDepth 100000 in
theorem iX9_node_ok : iX9_node.all (fun q => decide (decode cX9_node q.1 = .ok (q.2.1, q.2.2))) = true := by decide +kernel
def iX9_near : List (Nat × Instr × Nat) := [(0, .aload_n 0, 1), (1, .getfield 10, 3), (4, .iload_n 1, 1), (5, .invokevirtual 159, 3), (8, .ifCond .ne 5, 3), (11, .iconst (-1), 1), (12, .ireturn, 1), (13, .aload_n 0, 1), (14, .invokevirtual 131, 3), (17, .getfield 181, 3), (20, .iload_n 1, 1), (21, .laload, 1), (22, .lstore_n 3, 1), (23, .iload_n 2, 1), (24, .iconst (-1), 1), (25, .if_icmp .ne 10, 3), (28, .lload_n 3, 1), (29, .invokestatic 121, 3), (32, .goto 8, 3), (35, .lload_n 3, 1), (36, .iload_n 2, 1), (37, .invokestatic 184, 3), (40, .ireturn, 1)]
set_option maxRecDepth 100000 in
theorem iX9_near_ok : iX9_near.all (fun q => decide (decode cX9_near q.1 = .ok (q.2.1, q.2.2))) = true := by decide +kernel
def iX9_cone : List (Nat × Instr × Nat) := [(0, .aload_n 0, 1), (1, .getfield 10, 3), (4, .iload_n 1, 1), (5, .invokevirtual 159, 3), (8, .ifCond .ne 5, 3), (11, .iconst (-1), 1), (12, .ireturn, 1), (13, .aload_n 0, 1), (14, .getfield 10, 3), (17, .iload_n 1, 1), (18, .aload_n 0, 1), (19, .invokevirtual 131, 3), (22, .getfield 181, 3), (25, .iload_n 1, 1), (26, .laload, 1), (27, .invokevirtual 188, 3), (30, .invokestatic 121, 3), (33, .ireturn, 1)]
set_option maxRecDepth 100000 in
theorem iX9_cone_ok : iX9_cone.all (fun q => decide (decode cX9_cone q.1 = .ok (q.2.1, q.2.2))) = true := by decide +kernel
def iX9_kept : List (Nat × Instr × Nat) := [(0, .aload_n 0, 1), (1, .getfield 10, 3), (4, .iload_n 1, 1), (5, .invokevirtual 159, 3), (8, .ifCond .eq 13, 3), (11, .iload_n 2, 1), (12, .ifCond .lt 9, 3), (15, .iload_n 2, 1), (16, .bipush 8, 2), (18, .if_icmp .lt 5, 3), (21, .lconst 0, 1), (22, .lreturn, 1), (23, .aload_n 0, 1), (24, .invokevirtual 131, 3), (27, .iload_n 1, 1), (28, .iload_n 2, 1), (29, .invokevirtual 192, 3), (32, .lreturn, 1)]
set_option maxRecDepth 100000 in
theorem iX9_kept_ok : iX9_kept.all (fun q => decide (decode cX9_kept q.1 = .ok (q.2.1, q.2.2))) = true := by decide +kernel
def iX9_isCut : List (Nat × Instr × Nat) := [(0, .aload_n 0, 1), (1, .getfield 10, 3), (4, .iload_n 1, 1), (5, .invokevirtual 159, 3), (8, .ifCond .eq 30, 3), (11, .lload_n 2, 1), (12, .invokestatic 121, 3), (15, .aload_n 0, 1), (16, .getfield 72, 3), (19, .if_icmp .gt 19, 3), (22, .aload_n 0, 1), (23, .getfield 10, 3), (26, .iload_n 1, 1), (27, .lload_n 2, 1), (28, .invokevirtual 196, 3), (31, .ifCond .eq 7, 3), (34, .iconst 1, 1), (35, .goto 4, 3), (38, .iconst 0, 1), (39, .ireturn, 1)]
set_option maxRecDepth 100000 in
theorem iX9_isCut_ok : iX9_isCut.all (fun q => decide (decode cX9_isCut q.1 = .ok (q.2.1, q.2.2))) = true := by decide +kernel
def iX9_depth : List (Nat × Instr × Nat) := [(0, .aload_n 0, 1), (1, .invokevirtual 131, 3), (4, .aload_n 0, 1), (5, .getfield 10, 3), (8, .invokevirtual 173, 3), (11, .invokevirtual 200, 3), (14, .ireturn, 1)]
set_option maxRecDepth 100000 in
theorem iX9_depth_ok : iX9_depth.all (fun q => decide (decode cX9_depth q.1 = .ok (q.2.1, q.2.2))) = true := by decide +kernel
def iX9_chosen : List (Nat × Instr × Nat) := [(0, .aload_n 0, 1), (1, .getfield 76, 3), (4, .ifCond .eq 26, 3), (7, .aload_n 0, 1), (8, .getfield 10, 3), (11, .iload_n 1, 1), (12, .invokevirtual 159, 3), (15, .ifCond .eq 15, 3), (18, .aload_n 0, 1), (19, .getfield 43, 3), (22, .getfield 203, 3), (25, .iload_n 1, 1), (26, .laload, 1), (27, .goto 4, 3), (30, .lconst 0, 1), (31, .lreturn, 1)]
set_option maxRecDepth 100000 in
theorem iX9_chosen_ok : iX9_chosen.all (fun q => decide (decode cX9_chosen q.1 = .ok (q.2.1, q.2.2))) = true := by decide +kernel
def iX9_table : List (Nat × Instr × Nat) := [(0, .aload_n 0, 1), (1, .getfield 76, 3), (4, .ifCond .eq 14, 3), (7, .aload_n 0, 1), (8, .getfield 10, 3), (11, .iload_n 1, 1), (12, .invokevirtual 159, 3), (15, .ifCond .ne 5, 3), (18, .iconst (-1), 1), (19, .ireturn, 1), (20, .iload_n 2, 1), (21, .tableswitch 107 0 5 #[39, 59, 69, 78, 88, 98], 39), (60, .aload_n 0, 1), (61, .getfield 43, 3), (64, .getfield 142, 3), (67, .iload_n 1, 1), (68, .invokestatic 117, 3), (71, .ifCond .eq 7, 3), (74, .iconst 1, 1), (75, .goto 4, 3), (78, .iconst 0, 1), (79, .ireturn, 1), (80, .aload_n 0, 1), (81, .getfield 43, 3), (84, .getfield 206, 3), (87, .iload_n 1, 1), (88, .iaload, 1), (89, .ireturn, 1), (90, .aload_n 0, 1), (91, .getfield 43, 3), (94, .iload_n 1, 1), (95, .invokevirtual 209, 3), (98, .ireturn, 1), (99, .aload_n 0, 1), (100, .getfield 59, 3), (103, .getfield 212, 3), (106, .iload_n 1, 1), (107, .iaload, 1), (108, .ireturn, 1), (109, .aload_n 0, 1), (110, .getfield 59, 3), (113, .getfield 215, 3), (116, .iload_n 1, 1), (117, .iaload, 1), (118, .ireturn, 1), (119, .aload_n 0, 1), (120, .getfield 52, 3), (123, .iload_n 1, 1), (124, .invokevirtual 218, 3), (127, .ireturn, 1), (128, .iconst (-1), 1), (129, .ireturn, 1)]
set_option maxRecDepth 100000 in
theorem iX9_table_ok : iX9_table.all (fun q => decide (decode cX9_table q.1 = .ok (q.2.1, q.2.2))) = true := by decide +kernel
def iX9_holds : List (Nat × Instr × Nat) := [(0, .aload_n 0, 1), (1, .getfield 76, 3), (4, .ifCond .eq 14, 3), (7, .aload_n 0, 1), (8, .getfield 10, 3), (11, .iload_n 1, 1), (12, .invokevirtual 159, 3), (15, .ifCond .ne 13, 3), (18, .new 221, 3), (21, .dup, 1), (22, .ldc 223, 2), (24, .invokespecial 225, 3), (27, .athrow, 1), (28, .aload_n 0, 1), (29, .getfield 52, 3), (32, .iload_n 1, 1), (33, .invokevirtual 228, 3), (36, .lreturn, 1)]
set_option maxRecDepth 100000 in
theorem iX9_holds_ok : iX9_holds.all (fun q => decide (decode cX9_holds q.1 = .ok (q.2.1, q.2.2))) = true := by decide +kernel
def iX9_mapped : List (Nat × Instr × Nat) := [(0, .aload_n 0, 1), (1, .getfield 76, 3), (4, .ifCond .ne 5, 3), (7, .iconst (-1), 1), (8, .ireturn, 1), (9, .iload_n 1, 1), (10, .tableswitch 99 0 5 #[38, 49, 64, 72, 80, 88], 38), (48, .aload_n 0, 1), (49, .getfield 43, 3), (52, .getfield 142, 3), (55, .invokestatic 121, 3), (58, .ireturn, 1), (59, .aload_n 0, 1), (60, .getfield 43, 3), (63, .aload_n 0, 1), (64, .getfield 10, 3), (67, .invokevirtual 173, 3), (70, .invokevirtual 231, 3), (73, .ireturn, 1), (74, .aload_n 0, 1), (75, .getfield 59, 3), (78, .getfield 234, 3), (81, .ireturn, 1), (82, .aload_n 0, 1), (83, .getfield 59, 3), (86, .invokevirtual 237, 3), (89, .ireturn, 1), (90, .aload_n 0, 1), (91, .getfield 59, 3), (94, .getfield 240, 3), (97, .ireturn, 1), (98, .aload_n 0, 1), (99, .getfield 59, 3), (102, .getfield 243, 3), (105, .invokestatic 121, 3), (108, .ireturn, 1), (109, .iconst (-1), 1), (110, .ireturn, 1)]
set_option maxRecDepth 100000 in
theorem iX9_mapped_ok : iX9_mapped.all (fun q => decide (decode cX9_mapped q.1 = .ok (q.2.1, q.2.2))) = true := by decide +kernel
def iX9_cell : List (Nat × Instr × Nat) := [(0, .aload_n 0, 1), (1, .getfield 76, 3), (4, .ifCond .eq 14, 3), (7, .aload_n 0, 1), (8, .getfield 59, 3), (11, .iload_n 1, 1), (12, .invokevirtual 246, 3), (15, .ifCond .ne 6, 3), (18, .bipush (-2), 2), (20, .ireturn, 1), (21, .iload_n 2, 1), (22, .tableswitch 77 0 4 #[34, 34, 48, 48, 64], 34), (56, .aload_n 0, 1), (57, .getfield 59, 3), (60, .getfield 249, 3), (63, .iload_n 1, 1), (64, .laload, 1), (65, .iload_n 2, 1), (66, .invokestatic 184, 3), (69, .ireturn, 1), (70, .aload_n 0, 1), (71, .getfield 59, 3), (74, .getfield 252, 3), (77, .iload_n 1, 1), (78, .laload, 1), (79, .iload_n 2, 1), (80, .iconst 2, 1), (81, .isub, 1), (82, .invokestatic 184, 3), (85, .ireturn, 1), (86, .aload_n 0, 1), (87, .getfield 59, 3), (90, .getfield 255, 3), (93, .iload_n 1, 1), (94, .laload, 1), (95, .invokestatic 121, 3), (98, .ireturn, 1), (99, .bipush (-2), 2), (101, .ireturn, 1)]
set_option maxRecDepth 100000 in
theorem iX9_cell_ok : iX9_cell.all (fun q => decide (decode cX9_cell q.1 = .ok (q.2.1, q.2.2))) = true := by decide +kernel
def iX9_clusters : List (Nat × Instr × Nat) := [(0, .aload_n 0, 1), (1, .getfield 76, 3), (4, .ifCond .eq 11, 3), (7, .iload_n 1, 1), (8, .iload_n 2, 1), (9, .invokestatic 258, 3), (12, .ifCond .ne 5, 3), (15, .iconst (-1), 1), (16, .ireturn, 1), (17, .aload_n 0, 1), (18, .getfield 68, 3), (21, .iload_n 1, 1), (22, .iload_n 2, 1), (23, .invokevirtual 262, 3), (26, .aload_n 0, 1), (27, .getfield 68, 3), (30, .getfield 265, 3), (33, .ireturn, 1)]
set_option maxRecDepth 100000 in
theorem iX9_clusters_ok : iX9_clusters.all (fun q => decide (decode cX9_clusters q.1 = .ok (q.2.1, q.2.2))) = true := by decide +kernel
def iX9_cluster : List (Nat × Instr × Nat) := [(0, .aload_n 0, 1), (1, .getfield 76, 3), (4, .ifCond .eq 22, 3), (7, .iload_n 1, 1), (8, .iload_n 2, 1), (9, .invokestatic 258, 3), (12, .ifCond .eq 14, 3), (15, .aload_n 0, 1), (16, .getfield 59, 3), (19, .iload_n 3, 1), (20, .invokevirtual 246, 3), (23, .ifCond .ne 5, 3), (26, .iconst (-1), 1), (27, .ireturn, 1), (28, .aload_n 0, 1), (29, .getfield 68, 3), (32, .iload_n 1, 1), (33, .iload_n 2, 1), (34, .invokevirtual 262, 3), (37, .aload_n 0, 1), (38, .getfield 68, 3), (41, .getfield 266, 3), (44, .iload_n 3, 1), (45, .iaload, 1), (46, .ireturn, 1)]
set_option maxRecDepth 100000 in
theorem iX9_cluster_ok : iX9_cluster.all (fun q => decide (decode cX9_cluster q.1 = .ok (q.2.1, q.2.2))) = true := by decide +kernel
def iX9_cross : List (Nat × Instr × Nat) := [(0, .aload_n 0, 1), (1, .getfield 76, 3), (4, .ifCond .eq 11, 3), (7, .iload_n 1, 1), (8, .iload_n 2, 1), (9, .invokestatic 258, 3), (12, .ifCond .ne 5, 3), (15, .iconst (-1), 1), (16, .ireturn, 1), (17, .aload_n 0, 1), (18, .getfield 68, 3), (21, .iload_n 1, 1), (22, .iload_n 2, 1), (23, .invokevirtual 262, 3), (26, .aload_n 0, 1), (27, .getfield 68, 3), (30, .invokevirtual 269, 3), (33, .ireturn, 1)]
set_option maxRecDepth 100000 in
theorem iX9_cross_ok : iX9_cross.all (fun q => decide (decode cX9_cross q.1 = .ok (q.2.1, q.2.2))) = true := by decide +kernel
def iX9_is : List (Nat × Instr × Nat) := [(0, .aload_n 0, 1), (1, .getfield 10, 3), (4, .iload_n 1, 1), (5, .invokevirtual 96, 3), (8, .ifCond .ne 5, 3), (11, .iconst (-1), 1), (12, .ireturn, 1), (13, .aload_n 0, 1), (14, .getfield 21, 3), (17, .invokevirtual 272, 3), (20, .iload_n 1, 1), (21, .invokestatic 117, 3), (24, .ifCond .eq 7, 3), (27, .iconst 1, 1), (28, .goto 4, 3), (31, .iconst 0, 1), (32, .ireturn, 1)]
set_option maxRecDepth 100000 in
theorem iX9_is_ok : iX9_is.all (fun q => decide (decode cX9_is q.1 = .ok (q.2.1, q.2.2))) = true := by decide +kernel
def iX9_comes : List (Nat × Instr × Nat) := [(0, .aload_n 0, 1), (1, .getfield 76, 3), (4, .ifCond .eq 14, 3), (7, .aload_n 0, 1), (8, .getfield 10, 3), (11, .iload_n 1, 1), (12, .invokevirtual 96, 3), (15, .ifCond .ne 5, 3), (18, .iconst (-1), 1), (19, .ireturn, 1), (20, .aload_n 0, 1), (21, .getfield 52, 3), (24, .aload_n 0, 1), (25, .getfield 21, 3), (28, .getfield 275, 3), (31, .iload_n 1, 1), (32, .invokevirtual 278, 3), (35, .iload_n 1, 1), (36, .invokestatic 117, 3), (39, .ifCond .eq 7, 3), (42, .iconst 1, 1), (43, .goto 4, 3), (46, .iconst 0, 1), (47, .ireturn, 1)]
set_option maxRecDepth 100000 in
theorem iX9_comes_ok : iX9_comes.all (fun q => decide (decode cX9_comes q.1 = .ok (q.2.1, q.2.2))) = true := by decide +kernel
def iX9_differs : List (Nat × Instr × Nat) := [(0, .aload_n 0, 1), (1, .getfield 10, 3), (4, .iload_n 1, 1), (5, .invokevirtual 96, 3), (8, .ifCond .eq 14, 3), (11, .aload_n 0, 1), (12, .getfield 10, 3), (15, .iload_n 2, 1), (16, .invokevirtual 149, 3), (19, .ifCond .ne 5, 3), (22, .iconst (-1), 1), (23, .ireturn, 1), (24, .aload_n 0, 1), (25, .getfield 21, 3), (28, .iload_n 2, 1), (29, .invokevirtual 282, 3), (32, .iload_n 1, 1), (33, .invokestatic 117, 3), (36, .ifCond .eq 7, 3), (39, .iconst 1, 1), (40, .goto 4, 3), (43, .iconst 0, 1), (44, .ireturn, 1)]
set_option maxRecDepth 100000 in
theorem iX9_differs_ok : iX9_differs.all (fun q => decide (decode cX9_differs q.1 = .ok (q.2.1, q.2.2))) = true := by decide +kernel
def iX9_slow : List (Nat × Instr × Nat) := [(0, .aload_n 0, 1), (1, .getfield 76, 3), (4, .ifCond .eq 13, 3), (7, .iload_n 1, 1), (8, .ifCond .lt 9, 3), (11, .iload_n 1, 1), (12, .bipush 40, 2), (14, .if_icmp .lt 5, 3), (17, .iconst (-1), 1), (18, .ireturn, 1), (19, .aload_n 0, 1), (20, .getfield 43, 3), (23, .iload_n 1, 1), (24, .invokevirtual 285, 3), (27, .ireturn, 1)]
set_option maxRecDepth 100000 in
theorem iX9_slow_ok : iX9_slow.all (fun q => decide (decode cX9_slow q.1 = .ok (q.2.1, q.2.2))) = true := by decide +kernel
def iX9_count : List (Nat × Instr × Nat) := [(0, .iload_n 1, 1), (1, .tableswitch 128 0 7 #[47, 55, 66, 77, 88, 99, 104, 117], 47), (48, .aload_n 0, 1), (49, .getfield 10, 3), (52, .getfield 288, 3), (55, .ireturn, 1), (56, .aload_n 0, 1), (57, .getfield 10, 3), (60, .getfield 289, 3), (63, .invokestatic 121, 3), (66, .ireturn, 1), (67, .aload_n 0, 1), (68, .getfield 10, 3), (71, .getfield 292, 3), (74, .invokestatic 121, 3), (77, .ireturn, 1), (78, .aload_n 0, 1), (79, .getfield 10, 3), (82, .getfield 295, 3), (85, .invokestatic 121, 3), (88, .ireturn, 1), (89, .aload_n 0, 1), (90, .getfield 10, 3), (93, .getfield 113, 3), (96, .invokestatic 121, 3), (99, .ireturn, 1), (100, .aload_n 0, 1), (101, .getfield 72, 3), (104, .ireturn, 1), (105, .aload_n 0, 1), (106, .getfield 76, 3), (109, .ifCond .eq 7, 3), (112, .iconst 1, 1), (113, .goto 4, 3), (116, .iconst 0, 1), (117, .ireturn, 1), (118, .aload_n 0, 1), (119, .getfield 10, 3), (122, .invokevirtual 173, 3), (125, .invokestatic 121, 3), (128, .ireturn, 1), (129, .iconst (-1), 1), (130, .ireturn, 1)]
set_option maxRecDepth 100000 in
theorem iX9_count_ok : iX9_count.all (fun q => decide (decode cX9_count q.1 = .ok (q.2.1, q.2.2))) = true := by decide +kernel
def iX9_cutsOfK : List (Nat × Instr × Nat) := [(0, .aload_n 0, 1), (1, .getfield 33, 3), (4, .aload_n 0, 1), (5, .getfield 72, 3), (8, .iconst 3, 1), (9, .isub, 1), (10, .aaload, 1), (11, .astore_n 1, 1), (12, .aload_n 1, 1), (13, .getfield 298, 3), (16, .istore_n 2, 1), (17, .iload_n 2, 1), (18, .aload_n 0, 1), (19, .getfield 10, 3), (22, .getfield 288, 3), (25, .if_icmp .ge 14, 3), (28, .aload_n 1, 1), (29, .iload_n 2, 1), (30, .invokevirtual 301, 3), (33, .iinc 2 1, 3), (36, .goto (-19), 3), (39, .aload_n 1, 1), (40, .areturn, 1)]
set_option maxRecDepth 100000 in
theorem iX9_cutsOfK_ok : iX9_cutsOfK.all (fun q => decide (decode cX9_cutsOfK q.1 = .ok (q.2.1, q.2.2))) = true := by decide +kernel
def iX9_followCover : List (Nat × Instr × Nat) := [(0, .aload_n 0, 1), (1, .getfield 52, 3), (4, .invokevirtual 305, 3), (7, .aload_n 0, 1), (8, .getfield 59, 3), (11, .aload_n 0, 1), (12, .getfield 72, 3), (15, .invokevirtual 308, 3), (18, .aload_n 0, 1), (19, .getfield 68, 3), (22, .invokevirtual 311, 3), (25, .return_, 1)]
set_option maxRecDepth 100000 in
theorem iX9_followCover_ok : iX9_followCover.all (fun q => decide (decode cX9_followCover q.1 = .ok (q.2.1, q.2.2))) = true := by decide +kernel
def iX9_bit : List (Nat × Instr × Nat) := [(0, .lconst 1, 1), (1, .iload_n 0, 1), (2, .lshl, 1), (3, .lreturn, 1)]
set_option maxRecDepth 100000 in
theorem iX9_bit_ok : iX9_bit.all (fun q => decide (decode cX9_bit q.1 = .ok (q.2.1, q.2.2))) = true := by decide +kernel
def iX9_has : List (Nat × Instr × Nat) := [(0, .lload_n 0, 1), (1, .iload_n 2, 1), (2, .lshr, 1), (3, .lconst 1, 1), (4, .land, 1), (5, .lconst 0, 1), (6, .lcmp, 1), (7, .ifCond .eq 7, 3), (10, .iconst 1, 1), (11, .goto 4, 3), (14, .iconst 0, 1), (15, .ireturn, 1)]
set_option maxRecDepth 100000 in
theorem iX9_has_ok : iX9_has.all (fun q => decide (decode cX9_has q.1 = .ok (q.2.1, q.2.2))) = true := by decide +kernel
def iX9_lowest : List (Nat × Instr × Nat) := [(0, .lload_n 0, 1), (1, .lload_n 0, 1), (2, .lneg, 1), (3, .land, 1), (4, .lconst 1, 1), (5, .lsub, 1), (6, .invokestatic 121, 3), (9, .ireturn, 1)]
set_option maxRecDepth 100000 in
theorem iX9_lowest_ok : iX9_lowest.all (fun q => decide (decode cX9_lowest q.1 = .ok (q.2.1, q.2.2))) = true := by decide +kernel
def iX9_nthOf : List (Nat × Instr × Nat) := [(0, .iconst 0, 1), (1, .istore_n 3, 1), (2, .lload_n 0, 1), (3, .lstore 4, 2), (5, .lload 4, 2), (7, .lconst 0, 1), (8, .lcmp, 1), (9, .ifCond .eq 29, 3), (12, .iload_n 3, 1), (13, .iload_n 2, 1), (14, .if_icmp .ne 9, 3), (17, .lload 4, 2), (19, .invokestatic 312, 3), (22, .ireturn, 1), (23, .iinc 3 1, 3), (26, .lload 4, 2), (28, .lload 4, 2), (30, .lconst 1, 1), (31, .lsub, 1), (32, .land, 1), (33, .lstore 4, 2), (35, .goto (-30), 3), (38, .iconst (-1), 1), (39, .ireturn, 1)]
set_option maxRecDepth 100000 in
theorem iX9_nthOf_ok : iX9_nthOf.all (fun q => decide (decode cX9_nthOf q.1 = .ok (q.2.1, q.2.2))) = true := by decide +kernel
def iX10_thrown : List (Nat × Instr × Nat) := [(0, .aload_n 0, 1), (1, .getfield 112, 3), (4, .ireturn, 1)]
set_option maxRecDepth 100000 in
theorem iX10_thrown_ok : iX10_thrown.all (fun q => decide (decode cX10_thrown q.1 = .ok (q.2.1, q.2.2))) = true := by decide +kernel
def iX10_within : List (Nat × Instr × Nat) := [(0, .iload_n 0, 1), (1, .iload_n 1, 1), (2, .if_icmp .lt 12, 3), (5, .iload_n 0, 1), (6, .iload_n 2, 1), (7, .if_icmp .gt 7, 3), (10, .iconst 1, 1), (11, .goto 4, 3), (14, .iconst 0, 1), (15, .ireturn, 1)]
set_option maxRecDepth 100000 in
theorem iX10_within_ok : iX10_within.all (fun q => decide (decode cX10_within q.1 = .ok (q.2.1, q.2.2))) = true := by decide +kernel
def iX10_has : List (Nat × Instr × Nat) := [(0, .lload_n 0, 1), (1, .iload_n 2, 1), (2, .lshr, 1), (3, .lconst 1, 1), (4, .land, 1), (5, .lconst 1, 1), (6, .lcmp, 1), (7, .ifCond .ne 7, 3), (10, .iconst 1, 1), (11, .goto 4, 3), (14, .iconst 0, 1), (15, .ireturn, 1)]
set_option maxRecDepth 100000 in
theorem iX10_has_ok : iX10_has.all (fun q => decide (decode cX10_has q.1 = .ok (q.2.1, q.2.2))) = true := by decide +kernel
def iX10_manyOf : List (Nat × Instr × Nat) := [(0, .iconst 0, 1), (1, .istore_n 2, 1), (2, .iconst 0, 1), (3, .istore_n 3, 1), (4, .iload_n 3, 1), (5, .bipush 40, 2), (7, .if_icmp .ge 25, 3), (10, .iload_n 2, 1), (11, .lload_n 0, 1), (12, .iload_n 3, 1), (13, .invokestatic 115, 3), (16, .ifCond .eq 7, 3), (19, .iconst 1, 1), (20, .goto 4, 3), (23, .iconst 0, 1), (24, .iadd, 1), (25, .istore_n 2, 1), (26, .iinc 3 1, 3), (29, .goto (-25), 3), (32, .iload_n 2, 1), (33, .ireturn, 1)]
set_option maxRecDepth 100000 in
theorem iX10_manyOf_ok : iX10_manyOf.all (fun q => decide (decode cX10_manyOf q.1 = .ok (q.2.1, q.2.2))) = true := by decide +kernel
def iX10_lowest : List (Nat × Instr × Nat) := [(0, .iconst 0, 1), (1, .istore_n 2, 1), (2, .lload_n 0, 1), (3, .iload_n 2, 1), (4, .invokestatic 115, 3), (7, .ifCond .ne 9, 3), (10, .iinc 2 1, 3), (13, .goto (-11), 3), (16, .iload_n 2, 1), (17, .ireturn, 1)]
set_option maxRecDepth 100000 in
theorem iX10_lowest_ok : iX10_lowest.all (fun q => decide (decode cX10_lowest q.1 = .ok (q.2.1, q.2.2))) = true := by decide +kernel
def iX10_sourcesOf : List (Nat × Instr × Nat) := [(0, .iload_n 0, 1), (1, .ifCond .ne 7, 3), (4, .iconst 1, 1), (5, .goto 13, 3), (8, .iload_n 0, 1), (9, .iconst 5, 1), (10, .if_icmp .ge 7, 3), (13, .iconst 2, 1), (14, .goto 4, 3), (17, .iconst 3, 1), (18, .ireturn, 1)]
set_option maxRecDepth 100000 in
theorem iX10_sourcesOf_ok : iX10_sourcesOf.all (fun q => decide (decode cX10_sourcesOf q.1 = .ok (q.2.1, q.2.2))) = true := by decide +kernel
def iX10_isNode : List (Nat × Instr × Nat) := [(0, .iload_n 1, 1), (1, .ifCond .lt 15, 3), (4, .iload_n 1, 1), (5, .aload_n 0, 1), (6, .getfield 119, 3), (9, .if_icmp .ge 7, 3), (12, .iconst 1, 1), (13, .goto 4, 3), (16, .iconst 0, 1), (17, .ireturn, 1)]
set_option maxRecDepth 100000 in
theorem iX10_isNode_ok : iX10_isNode.all (fun q => decide (decode cX10_isNode q.1 = .ok (q.2.1, q.2.2))) = true := by decide +kernel
def iX10_isGate : List (Nat × Instr × Nat) := [(0, .aload_n 0, 1), (1, .iload_n 1, 1), (2, .invokevirtual 122, 3), (5, .ifCond .eq 17, 3), (8, .aload_n 0, 1), (9, .getfield 7, 3), (12, .iload_n 1, 1), (13, .iaload, 1), (14, .iconst 1, 1), (15, .if_icmp .ne 7, 3), (18, .iconst 1, 1), (19, .goto 4, 3), (22, .iconst 0, 1), (23, .ireturn, 1)]
set_option maxRecDepth 100000 in
theorem iX10_isGate_ok : iX10_isGate.all (fun q => decide (decode cX10_isGate q.1 = .ok (q.2.1, q.2.2))) = true := by decide +kernel
def iX10_isRegister : List (Nat × Instr × Nat) := [(0, .aload_n 0, 1), (1, .iload_n 1, 1), (2, .invokevirtual 122, 3), (5, .ifCond .eq 17, 3), (8, .aload_n 0, 1), (9, .getfield 7, 3), (12, .iload_n 1, 1), (13, .iaload, 1), (14, .iconst 2, 1), (15, .if_icmp .ne 7, 3), (18, .iconst 1, 1), (19, .goto 4, 3), (22, .iconst 0, 1), (23, .ireturn, 1)]
set_option maxRecDepth 100000 in
theorem iX10_isRegister_ok : iX10_isRegister.all (fun q => decide (decode cX10_isRegister q.1 = .ok (q.2.1, q.2.2))) = true := by decide +kernel
def iX10_changes : List (Nat × Instr × Nat) := [(0, .aload_n 0, 1), (1, .iconst 0, 1), (2, .putfield 126, 3), (5, .aload_n 0, 1), (6, .iconst 0, 1), (7, .putfield 130, 3), (10, .return_, 1)]
set_option maxRecDepth 100000 in
theorem iX10_changes_ok : iX10_changes.all (fun q => decide (decode cX10_changes q.1 = .ok (q.2.1, q.2.2))) = true := by decide +kernel
def iX10_adds : List (Nat × Instr × Nat) := [(0, .aload_n 0, 1), (1, .getfield 7, 3), (4, .aload_n 0, 1), (5, .getfield 119, 3), (8, .iload_n 1, 1), (9, .iastore, 1), (10, .aload_n 0, 1), (11, .getfield 13, 3), (14, .aload_n 0, 1), (15, .getfield 119, 3), (18, .iconst (-1), 1), (19, .iastore, 1), (20, .iconst 0, 1), (21, .istore_n 2, 1), (22, .iload_n 2, 1), (23, .iconst 3, 1), (24, .if_icmp .ge 23, 3), (27, .aload_n 0, 1), (28, .getfield 16, 3), (31, .iconst 3, 1), (32, .aload_n 0, 1), (33, .getfield 119, 3), (36, .imul, 1), (37, .iload_n 2, 1), (38, .iadd, 1), (39, .iconst (-1), 1), (40, .iastore, 1), (41, .iinc 2 1, 3), (44, .goto (-22), 3), (47, .aload_n 0, 1), (48, .getfield 19, 3), (51, .aload_n 0, 1), (52, .getfield 119, 3), (55, .lconst 0, 1), (56, .lastore, 1), (57, .aload_n 0, 1), (58, .getfield 27, 3), (61, .aload_n 0, 1), (62, .getfield 119, 3), (65, .iconst 0, 1), (66, .bastore, 1), (67, .aload_n 0, 1), (68, .dup, 1), (69, .getfield 119, 3), (72, .iconst 1, 1), (73, .iadd, 1), (74, .putfield 119, 3), (77, .aload_n 0, 1), (78, .invokevirtual 133, 3), (81, .aload_n 0, 1), (82, .getfield 119, 3), (85, .iconst 1, 1), (86, .isub, 1), (87, .ireturn, 1)]
set_option maxRecDepth 100000 in
theorem iX10_adds_ok : iX10_adds.all (fun q => decide (decode cX10_adds q.1 = .ok (q.2.1, q.2.2))) = true := by decide +kernel
def iX10_input : List (Nat × Instr × Nat) := [(0, .aload_n 0, 1), (1, .iconst 0, 1), (2, .putfield 112, 3), (5, .aload_n 0, 1), (6, .getfield 119, 3), (9, .bipush 40, 2), (11, .if_icmp .ne 7, 3), (14, .iconst (-1), 1), (15, .goto 8, 3), (18, .aload_n 0, 1), (19, .iconst 0, 1), (20, .invokevirtual 136, 3), (23, .ireturn, 1)]
set_option maxRecDepth 100000 in
theorem iX10_input_ok : iX10_input.all (fun q => decide (decode cX10_input q.1 = .ok (q.2.1, q.2.2))) = true := by decide +kernel
def iX10_gate : List (Nat × Instr × Nat) := [(0, .aload_n 0, 1), (1, .iconst 0, 1), (2, .putfield 112, 3), (5, .iload_n 1, 1), (6, .iconst 0, 1), (7, .bipush 6, 2), (9, .invokestatic 140, 3), (12, .ifCond .eq 24, 3), (15, .aload_n 0, 1), (16, .getfield 119, 3), (19, .bipush 40, 2), (21, .if_icmp .ge 15, 3), (24, .aload_n 0, 1), (25, .iload_n 2, 1), (26, .invokevirtual 122, 3), (29, .ifCond .eq 7, 3), (32, .iconst 1, 1), (33, .goto 4, 3), (36, .iconst 0, 1), (37, .istore 5, 2), (39, .iload 5, 2), (41, .ifCond .eq 10, 3), (44, .iload_n 1, 1), (45, .invokestatic 144, 3), (48, .goto 4, 3), (51, .iconst 0, 1), (52, .istore 6, 2), (54, .iload 5, 2), (56, .ifCond .eq 32, 3), (59, .iload 6, 2), (61, .iconst 1, 1), (62, .if_icmp .le 11, 3), (65, .aload_n 0, 1), (66, .iload_n 3, 1), (67, .invokevirtual 122, 3), (70, .ifCond .eq 18, 3), (73, .iload 6, 2), (75, .iconst 2, 1), (76, .if_icmp .le 14, 3), (79, .aload_n 0, 1), (80, .iload 4, 2), (82, .invokevirtual 122, 3), (85, .ifCond .ne 5, 3), (88, .iconst (-1), 1), (89, .ireturn, 1), (90, .aload_n 0, 1), (91, .iconst 1, 1), (92, .invokevirtual 136, 3), (95, .istore 7, 2), (97, .aload_n 0, 1), (98, .getfield 13, 3), (101, .iload 7, 2), (103, .iload_n 1, 1), (104, .iastore, 1), (105, .iconst 0, 1), (106, .istore 8, 2), (108, .iload 8, 2), (110, .iload 6, 2), (112, .if_icmp .ge 68, 3), (115, .iload 8, 2), (117, .ifCond .ne 7, 3), (120, .iload_n 2, 1), (121, .goto 15, 3), (124, .iload 8, 2), (126, .iconst 1, 1), (127, .if_icmp .ne 7, 3), (130, .iload_n 3, 1), (131, .goto 5, 3), (134, .iload 4, 2), (136, .istore 9, 2), (138, .aload_n 0, 1), (139, .getfield 16, 3), (142, .iconst 3, 1), (143, .iload 7, 2), (145, .imul, 1), (146, .iload 8, 2), (148, .iadd, 1), (149, .iload 9, 2), (151, .iastore, 1), (152, .aload_n 0, 1), (153, .getfield 19, 3), (156, .iload 7, 2), (158, .dup2, 1), (159, .laload, 1), (160, .aload_n 0, 1), (161, .getfield 19, 3), (164, .iload 9, 2), (166, .laload, 1), (167, .lconst 1, 1), (168, .iload 9, 2), (170, .lshl, 1), (171, .lor, 1), (172, .lor, 1), (173, .lastore, 1), (174, .iinc 8 1, 3), (177, .goto (-69), 3), (180, .iload 7, 2), (182, .ireturn, 1)]
set_option maxRecDepth 100000 in
theorem iX10_gate_ok : iX10_gate.all (fun q => decide (decode cX10_gate q.1 = .ok (q.2.1, q.2.2))) = true := by decide +kernel
def iX10_register : List (Nat × Instr × Nat) := [(0, .aload_n 0, 1), (1, .iconst 0, 1), (2, .putfield 112, 3), (5, .aload_n 0, 1), (6, .getfield 119, 3), (9, .bipush 40, 2), (11, .if_icmp .ne 5, 3), (14, .iconst (-1), 1), (15, .ireturn, 1), (16, .aload_n 0, 1), (17, .iconst 2, 1), (18, .invokevirtual 136, 3), (21, .istore_n 1, 1), (22, .aload_n 0, 1), (23, .getfield 16, 3), (26, .iconst 3, 1), (27, .iload_n 1, 1), (28, .imul, 1), (29, .iload_n 1, 1), (30, .iastore, 1), (31, .iload_n 1, 1), (32, .ireturn, 1)]
set_option maxRecDepth 100000 in
theorem iX10_register_ok : iX10_register.all (fun q => decide (decode cX10_register q.1 = .ok (q.2.1, q.2.2))) = true := by decide +kernel
def iX10_feed : List (Nat × Instr × Nat) := [(0, .aload_n 0, 1), (1, .iconst 0, 1), (2, .putfield 112, 3), (5, .aload_n 0, 1), (6, .iload_n 1, 1), (7, .invokevirtual 147, 3), (10, .ifCond .eq 11, 3), (13, .aload_n 0, 1), (14, .iload_n 2, 1), (15, .invokevirtual 122, 3), (18, .ifCond .ne 5, 3), (21, .iconst 0, 1), (22, .ireturn, 1), (23, .aload_n 0, 1), (24, .getfield 16, 3), (27, .iconst 3, 1), (28, .iload_n 1, 1), (29, .imul, 1), (30, .iload_n 2, 1), (31, .iastore, 1), (32, .aload_n 0, 1), (33, .invokevirtual 133, 3), (36, .iconst 1, 1), (37, .ireturn, 1)]
set_option maxRecDepth 100000 in
theorem iX10_feed_ok : iX10_feed.all (fun q => decide (decode cX10_feed q.1 = .ok (q.2.1, q.2.2))) = true := by decide +kernel
def iX10_output : List (Nat × Instr × Nat) := [(0, .aload_n 0, 1), (1, .iconst 0, 1), (2, .putfield 112, 3), (5, .aload_n 0, 1), (6, .iload_n 1, 1), (7, .invokevirtual 122, 3), (10, .ifCond .eq 26, 3), (13, .aload_n 0, 1), (14, .getfield 150, 3), (17, .iload_n 1, 1), (18, .invokestatic 115, 3), (21, .ifCond .ne 15, 3), (24, .aload_n 0, 1), (25, .getfield 150, 3), (28, .invokestatic 154, 3), (31, .bipush 12, 2), (33, .if_icmp .ne 5, 3), (36, .iconst (-1), 1), (37, .ireturn, 1), (38, .aload_n 0, 1), (39, .dup, 1), (40, .getfield 150, 3), (43, .lconst 1, 1), (44, .iload_n 1, 1), (45, .lshl, 1), (46, .lor, 1), (47, .putfield 150, 3), (50, .aload_n 0, 1), (51, .invokevirtual 133, 3), (54, .aload_n 0, 1), (55, .getfield 150, 3), (58, .invokestatic 154, 3), (61, .ireturn, 1)]
set_option maxRecDepth 100000 in
theorem iX10_output_ok : iX10_output.all (fun q => decide (decode cX10_output q.1 = .ok (q.2.1, q.2.2))) = true := by decide +kernel
def iX10_inputs : List (Nat × Instr × Nat) := [(0, .aload_n 0, 1), (1, .iconst 0, 1), (2, .putfield 112, 3), (5, .iload_n 1, 1), (6, .iconst 3, 1), (7, .bipush 6, 2), (9, .invokestatic 140, 3), (12, .ifCond .ne 5, 3), (15, .iconst (-1), 1), (16, .ireturn, 1), (17, .aload_n 0, 1), (18, .getfield 23, 3), (21, .istore_n 2, 1), (22, .aload_n 0, 1), (23, .iload_n 1, 1), (24, .putfield 23, 3), (27, .iload_n 2, 1), (28, .iload_n 1, 1), (29, .if_icmp .eq 7, 3), (32, .aload_n 0, 1), (33, .invokevirtual 133, 3), (36, .iload_n 2, 1), (37, .ireturn, 1)]
set_option maxRecDepth 100000 in
theorem iX10_inputs_ok : iX10_inputs.all (fun q => decide (decode cX10_inputs q.1 = .ok (q.2.1, q.2.2))) = true := by decide +kernel
def iX10_fed : List (Nat × Instr × Nat) := [(0, .lconst 0, 1), (1, .lstore_n 1, 1), (2, .iconst 0, 1), (3, .istore_n 3, 1), (4, .iload_n 3, 1), (5, .aload_n 0, 1), (6, .getfield 119, 3), (9, .if_icmp .ge 36, 3), (12, .lload_n 1, 1), (13, .aload_n 0, 1), (14, .getfield 7, 3), (17, .iload_n 3, 1), (18, .iaload, 1), (19, .iconst 2, 1), (20, .if_icmp .ne 16, 3), (23, .lconst 1, 1), (24, .aload_n 0, 1), (25, .getfield 16, 3), (28, .iconst 3, 1), (29, .iload_n 3, 1), (30, .imul, 1), (31, .iaload, 1), (32, .lshl, 1), (33, .goto 4, 3), (36, .lconst 0, 1), (37, .lor, 1), (38, .lstore_n 1, 1), (39, .iinc 3 1, 3), (42, .goto (-38), 3), (45, .lload_n 1, 1), (46, .lreturn, 1)]
set_option maxRecDepth 100000 in
theorem iX10_fed_ok : iX10_fed.all (fun q => decide (decode cX10_fed q.1 = .ok (q.2.1, q.2.2))) = true := by decide +kernel
def iX10_roots : List (Nat × Instr × Nat) := [(0, .aload_n 0, 1), (1, .getfield 150, 3), (4, .aload_n 0, 1), (5, .invokevirtual 158, 3), (8, .lor, 1), (9, .lreturn, 1)]
set_option maxRecDepth 100000 in
theorem iX10_roots_ok : iX10_roots.all (fun q => decide (decode cX10_roots q.1 = .ok (q.2.1, q.2.2))) = true := by decide +kernel
def iX10_gates : List (Nat × Instr × Nat) := [(0, .lconst 0, 1), (1, .lstore_n 1, 1), (2, .iconst 0, 1), (3, .istore_n 3, 1), (4, .iload_n 3, 1), (5, .aload_n 0, 1), (6, .getfield 119, 3), (9, .if_icmp .ge 29, 3), (12, .lload_n 1, 1), (13, .aload_n 0, 1), (14, .getfield 7, 3), (17, .iload_n 3, 1), (18, .iaload, 1), (19, .iconst 1, 1), (20, .if_icmp .ne 9, 3), (23, .lconst 1, 1), (24, .iload_n 3, 1), (25, .lshl, 1), (26, .goto 4, 3), (29, .lconst 0, 1), (30, .lor, 1), (31, .lstore_n 1, 1), (32, .iinc 3 1, 3), (35, .goto (-31), 3), (38, .lload_n 1, 1), (39, .lreturn, 1)]
set_option maxRecDepth 100000 in
theorem iX10_gates_ok : iX10_gates.all (fun q => decide (decode cX10_gates q.1 = .ok (q.2.1, q.2.2))) = true := by decide +kernel
def iX10_comes : List (Nat × Instr × Nat) := [(0, .aload_n 0, 1), (1, .getfield 43, 3), (4, .iload_n 1, 1), (5, .iaload, 1), (6, .iconst (-1), 1), (7, .if_icmp .ne 30, 3), (10, .aload_n 0, 1), (11, .getfield 43, 3), (14, .iload_n 1, 1), (15, .iload_n 2, 1), (16, .iastore, 1), (17, .aload_n 0, 1), (18, .getfield 46, 3), (21, .aload_n 0, 1), (22, .getfield 162, 3), (25, .iload_n 1, 1), (26, .iastore, 1), (27, .aload_n 0, 1), (28, .dup, 1), (29, .getfield 162, 3), (32, .iconst 1, 1), (33, .iadd, 1), (34, .putfield 162, 3), (37, .return_, 1)]
set_option maxRecDepth 100000 in
theorem iX10_comes_ok : iX10_comes.all (fun q => decide (decode cX10_comes q.1 = .ok (q.2.1, q.2.2))) = true := by decide +kernel
def iX10_room : List (Nat × Instr × Nat) := [(0, .aload_n 0, 1), (1, .getfield 31, 3), (4, .iload_n 1, 1), (5, .iaload, 1), (6, .iload_n 2, 1), (7, .if_icmp .ge 7, 3), (10, .iconst 1, 1), (11, .goto 6, 3), (14, .sipush 1000, 3), (17, .ireturn, 1)]
set_option maxRecDepth 100000 in
theorem iX10_room_ok : iX10_room.all (fun q => decide (decode cX10_room q.1 = .ok (q.2.1, q.2.2))) = true := by decide +kernel
def iX10_spreadsOut : List (Nat × Instr × Nat) := [(0, .iconst 0, 1), (1, .istore_n 2, 1), (2, .iload_n 2, 1), (3, .iconst 3, 1), (4, .if_icmp .ge 47, 3), (7, .aload_n 0, 1), (8, .getfield 7, 3), (11, .iload_n 1, 1), (12, .iaload, 1), (13, .iconst 1, 1), (14, .if_icmp .ne 16, 3), (17, .aload_n 0, 1), (18, .getfield 16, 3), (21, .iconst 3, 1), (22, .iload_n 1, 1), (23, .imul, 1), (24, .iload_n 2, 1), (25, .iadd, 1), (26, .iaload, 1), (27, .goto 4, 3), (30, .iconst (-1), 1), (31, .istore_n 3, 1), (32, .iload_n 3, 1), (33, .ifCond .lt 12, 3), (36, .aload_n 0, 1), (37, .iload_n 3, 1), (38, .bipush 40, 2), (40, .iload_n 1, 1), (41, .iadd, 1), (42, .invokevirtual 165, 3), (45, .iinc 2 1, 3), (48, .goto (-46), 3), (51, .aload_n 0, 1), (52, .getfield 37, 3), (55, .iload_n 1, 1), (56, .iaload, 1), (57, .ifCond .le 12, 3), (60, .aload_n 0, 1), (61, .iload_n 1, 1), (62, .bipush 40, 2), (64, .iload_n 1, 1), (65, .iadd, 1), (66, .invokevirtual 165, 3), (69, .return_, 1)]
set_option maxRecDepth 100000 in
theorem iX10_spreadsOut_ok : iX10_spreadsOut.all (fun q => decide (decode cX10_spreadsOut q.1 = .ok (q.2.1, q.2.2))) = true := by decide +kernel
def iX10_spreadsIn : List (Nat × Instr × Nat) := [(0, .aload_n 0, 1), (1, .getfield 37, 3), (4, .iload_n 1, 1), (5, .iaload, 1), (6, .aload_n 0, 1), (7, .iload_n 1, 1), (8, .iload 4, 2), (10, .invokevirtual 169, 3), (13, .if_icmp .ge 12, 3), (16, .aload_n 0, 1), (17, .bipush 40, 2), (19, .iload_n 1, 1), (20, .iadd, 1), (21, .iload_n 1, 1), (22, .invokevirtual 165, 3), (25, .iconst 0, 1), (26, .istore 5, 2), (28, .iload 5, 2), (30, .aload_n 0, 1), (31, .getfield 119, 3), (34, .if_icmp .ge 85, 3), (37, .iconst 0, 1), (38, .istore 6, 2), (40, .iload 6, 2), (42, .iconst 3, 1), (43, .if_icmp .ge 70, 3), (46, .lload_n 2, 1), (47, .iload 5, 2), (49, .invokestatic 115, 3), (52, .ifCond .eq 61, 3), (55, .aload_n 0, 1), (56, .getfield 7, 3), (59, .iload 5, 2), (61, .iaload, 1), (62, .iconst 1, 1), (63, .if_icmp .ne 50, 3), (66, .aload_n 0, 1), (67, .getfield 16, 3), (70, .iconst 3, 1), (71, .iload 5, 2), (73, .imul, 1), (74, .iload 6, 2), (76, .iadd, 1), (77, .iaload, 1), (78, .iload_n 1, 1), (79, .if_icmp .ne 28, 3), (82, .aload_n 0, 1), (83, .getfield 40, 3), (86, .iconst 3, 1), (87, .iload 5, 2), (89, .imul, 1), (90, .iload 6, 2), (92, .iadd, 1), (93, .iaload, 1), (94, .ifCond .le 13, 3), (97, .aload_n 0, 1), (98, .bipush 40, 2), (100, .iload 5, 2), (102, .iadd, 1), (103, .iload_n 1, 1), (104, .invokevirtual 165, 3), (107, .iinc 6 1, 3), (110, .goto (-70), 3), (113, .iinc 5 1, 3), (116, .goto (-88), 3), (119, .return_, 1)]
set_option maxRecDepth 100000 in
theorem iX10_spreadsIn_ok : iX10_spreadsIn.all (fun q => decide (decode cX10_spreadsIn q.1 = .ok (q.2.1, q.2.2))) = true := by decide +kernel
def iX10_spreads : List (Nat × Instr × Nat) := [(0, .iconst 0, 1), (1, .istore_n 3, 1), (2, .iload_n 3, 1), (3, .bipush 80, 2), (5, .if_icmp .ge 16, 3), (8, .aload_n 0, 1), (9, .getfield 43, 3), (12, .iload_n 3, 1), (13, .iconst (-1), 1), (14, .iastore, 1), (15, .iinc 3 1, 3), (18, .goto (-16), 3), (21, .aload_n 0, 1), (22, .iconst 0, 1), (23, .putfield 162, 3), (26, .aload_n 0, 1), (27, .getfield 19, 3), (30, .iload_n 1, 1), (31, .laload, 1), (32, .lconst 1, 1), (33, .iload_n 1, 1), (34, .lshl, 1), (35, .lor, 1), (36, .lstore_n 3, 1), (37, .aload_n 0, 1), (38, .bipush 40, 2), (40, .iload_n 1, 1), (41, .iadd, 1), (42, .sipush 1000, 3), (45, .invokevirtual 165, 3), (48, .iconst 0, 1), (49, .istore 5, 2), (51, .iload 5, 2), (53, .aload_n 0, 1), (54, .getfield 162, 3), (57, .if_icmp .ge 75, 3), (60, .aload_n 0, 1), (61, .getfield 46, 3), (64, .iload 5, 2), (66, .iaload, 1), (67, .istore 6, 2), (69, .iload 6, 2), (71, .bipush 40, 2), (73, .if_icmp .lt 20, 3), (76, .aload_n 0, 1), (77, .getfield 7, 3), (80, .iload 6, 2), (82, .bipush 40, 2), (84, .isub, 1), (85, .iaload, 1), (86, .iconst 1, 1), (87, .if_icmp .eq 6, 3), (90, .iload 6, 2), (92, .ireturn, 1), (93, .iload 6, 2), (95, .bipush 40, 2), (97, .if_icmp .lt 15, 3), (100, .aload_n 0, 1), (101, .iload 6, 2), (103, .bipush 40, 2), (105, .isub, 1), (106, .invokevirtual 173, 3), (109, .goto 17, 3), (112, .iload 6, 2), (114, .iload_n 1, 1), (115, .if_icmp .eq 11, 3), (118, .aload_n 0, 1), (119, .iload 6, 2), (121, .lload_n 3, 1), (122, .iload_n 2, 1), (123, .invokevirtual 177, 3), (126, .iinc 5 1, 3), (129, .goto (-78), 3), (132, .iconst (-1), 1), (133, .ireturn, 1)]
set_option maxRecDepth 100000 in
theorem iX10_spreads_ok : iX10_spreads.all (fun q => decide (decode cX10_spreads q.1 = .ok (q.2.1, q.2.2))) = true := by decide +kernel
def iX10_slotOf : List (Nat × Instr × Nat) := [(0, .iconst 0, 1), (1, .istore 4, 2), (3, .iload 4, 2), (5, .iconst 3, 1), (6, .if_icmp .ge 49, 3), (9, .aload_n 0, 1), (10, .getfield 16, 3), (13, .iconst 3, 1), (14, .iload_n 1, 1), (15, .imul, 1), (16, .iload 4, 2), (18, .iadd, 1), (19, .iaload, 1), (20, .iload_n 2, 1), (21, .if_icmp .ne 28, 3), (24, .iload_n 3, 1), (25, .ifCond .eq 17, 3), (28, .aload_n 0, 1), (29, .getfield 40, 3), (32, .iconst 3, 1), (33, .iload_n 1, 1), (34, .imul, 1), (35, .iload 4, 2), (37, .iadd, 1), (38, .iaload, 1), (39, .ifCond .le 10, 3), (42, .iconst 3, 1), (43, .iload_n 1, 1), (44, .imul, 1), (45, .iload 4, 2), (47, .iadd, 1), (48, .ireturn, 1), (49, .iinc 4 1, 3), (52, .goto (-49), 3), (55, .iconst (-1), 1), (56, .ireturn, 1)]
set_option maxRecDepth 100000 in
theorem iX10_slotOf_ok : iX10_slotOf.all (fun q => decide (decode cX10_slotOf q.1 = .ok (q.2.1, q.2.2))) = true := by decide +kernel
def iX10_flows : List (Nat × Instr × Nat) := [(0, .iload_n 1, 1), (1, .istore_n 2, 1), (2, .aload_n 0, 1), (3, .getfield 43, 3), (6, .iload_n 2, 1), (7, .iaload, 1), (8, .sipush 1000, 3), (11, .if_icmp .eq 103, 3), (14, .aload_n 0, 1), (15, .getfield 43, 3), (18, .iload_n 2, 1), (19, .iaload, 1), (20, .istore_n 3, 1), (21, .iload_n 3, 1), (22, .bipush 40, 2), (24, .irem, 1), (25, .istore 4, 2), (27, .iload_n 2, 1), (28, .bipush 40, 2), (30, .irem, 1), (31, .istore 5, 2), (33, .iload 4, 2), (35, .iload 5, 2), (37, .if_icmp .ne 27, 3), (40, .aload_n 0, 1), (41, .getfield 37, 3), (44, .iload 4, 2), (46, .dup2, 1), (47, .iaload, 1), (48, .iload_n 3, 1), (49, .bipush 40, 2), (51, .if_icmp .ge 7, 3), (54, .iconst 1, 1), (55, .goto 4, 3), (58, .iconst (-1), 1), (59, .iadd, 1), (60, .iastore, 1), (61, .goto 48, 3), (64, .iload_n 3, 1), (65, .bipush 40, 2), (67, .if_icmp .lt 24, 3), (70, .aload_n 0, 1), (71, .getfield 40, 3), (74, .aload_n 0, 1), (75, .iload 4, 2), (77, .iload 5, 2), (79, .iconst 0, 1), (80, .invokevirtual 181, 3), (83, .dup2, 1), (84, .iaload, 1), (85, .iconst 1, 1), (86, .iadd, 1), (87, .iastore, 1), (88, .goto 21, 3), (91, .aload_n 0, 1), (92, .getfield 40, 3), (95, .aload_n 0, 1), (96, .iload 5, 2), (98, .iload 4, 2), (100, .iconst 1, 1), (101, .invokevirtual 181, 3), (104, .dup2, 1), (105, .iaload, 1), (106, .iconst 1, 1), (107, .isub, 1), (108, .iastore, 1), (109, .iload_n 3, 1), (110, .istore_n 2, 1), (111, .goto (-109), 3), (114, .return_, 1)]
set_option maxRecDepth 100000 in
theorem iX10_flows_ok : iX10_flows.all (fun q => decide (decode cX10_flows q.1 = .ok (q.2.1, q.2.2))) = true := by decide +kernel
def iX10_isCutOff : List (Nat × Instr × Nat) := [(0, .iconst 0, 1), (1, .istore_n 3, 1), (2, .iload_n 3, 1), (3, .bipush 120, 2), (5, .if_icmp .ge 16, 3), (8, .aload_n 0, 1), (9, .getfield 40, 3), (12, .iload_n 3, 1), (13, .iconst 0, 1), (14, .iastore, 1), (15, .iinc 3 1, 3), (18, .goto (-16), 3), (21, .iconst 0, 1), (22, .istore_n 3, 1), (23, .iload_n 3, 1), (24, .bipush 40, 2), (26, .if_icmp .ge 16, 3), (29, .aload_n 0, 1), (30, .getfield 37, 3), (33, .iload_n 3, 1), (34, .iconst 0, 1), (35, .iastore, 1), (36, .iinc 3 1, 3), (39, .goto (-16), 3), (42, .iconst 0, 1), (43, .istore_n 3, 1), (44, .aload_n 0, 1), (45, .iload_n 1, 1), (46, .iload_n 2, 1), (47, .invokevirtual 185, 3), (50, .istore 4, 2), (52, .iload 4, 2), (54, .ifCond .lt 31, 3), (57, .iload_n 3, 1), (58, .aload_n 0, 1), (59, .getfield 23, 3), (62, .if_icmp .gt 23, 3), (65, .aload_n 0, 1), (66, .iload 4, 2), (68, .invokevirtual 188, 3), (71, .iinc 3 1, 3), (74, .aload_n 0, 1), (75, .iload_n 1, 1), (76, .iload_n 2, 1), (77, .invokevirtual 185, 3), (80, .istore 4, 2), (82, .goto (-30), 3), (85, .aload_n 0, 1), (86, .getfield 34, 3), (89, .iload_n 1, 1), (90, .lconst 0, 1), (91, .lastore, 1), (92, .iconst 0, 1), (93, .istore 5, 2), (95, .iload 5, 2), (97, .aload_n 0, 1), (98, .getfield 119, 3), (101, .if_icmp .ge 51, 3), (104, .aload_n 0, 1), (105, .getfield 34, 3), (108, .iload_n 1, 1), (109, .dup2, 1), (110, .laload, 1), (111, .aload_n 0, 1), (112, .getfield 43, 3), (115, .iload 5, 2), (117, .iaload, 1), (118, .iconst (-1), 1), (119, .if_icmp .eq 24, 3), (122, .aload_n 0, 1), (123, .getfield 43, 3), (126, .bipush 40, 2), (128, .iload 5, 2), (130, .iadd, 1), (131, .iaload, 1), (132, .iconst (-1), 1), (133, .if_icmp .ne 10, 3), (136, .lconst 1, 1), (137, .iload 5, 2), (139, .lshl, 1), (140, .goto 4, 3), (143, .lconst 0, 1), (144, .lor, 1), (145, .lastore, 1), (146, .iinc 5 1, 3), (149, .goto (-54), 3), (152, .iload 4, 2), (154, .ifCond .ge 15, 3), (157, .iload_n 3, 1), (158, .aload_n 0, 1), (159, .getfield 23, 3), (162, .if_icmp .gt 7, 3), (165, .iconst 1, 1), (166, .goto 4, 3), (169, .iconst 0, 1), (170, .ireturn, 1)]
set_option maxRecDepth 100000 in
theorem iX10_isCutOff_ok : iX10_isCutOff.all (fun q => decide (decode cX10_isCutOff q.1 = .ok (q.2.1, q.2.2))) = true := by decide +kernel
def iX10_greatestIn : List (Nat × Instr × Nat) := [(0, .iconst 0, 1), (1, .istore_n 3, 1), (2, .iconst 0, 1), (3, .istore 4, 2), (5, .iload 4, 2), (7, .aload_n 0, 1), (8, .getfield 119, 3), (11, .if_icmp .ge 41, 3), (14, .lload_n 1, 1), (15, .iload 4, 2), (17, .invokestatic 115, 3), (20, .ifCond .eq 24, 3), (23, .aload_n 0, 1), (24, .getfield 31, 3), (27, .iload 4, 2), (29, .iaload, 1), (30, .iload_n 3, 1), (31, .if_icmp .le 13, 3), (34, .aload_n 0, 1), (35, .getfield 31, 3), (38, .iload 4, 2), (40, .iaload, 1), (41, .goto 4, 3), (44, .iload_n 3, 1), (45, .istore_n 3, 1), (46, .iinc 4 1, 3), (49, .goto (-44), 3), (52, .iload_n 3, 1), (53, .ireturn, 1)]
set_option maxRecDepth 100000 in
theorem iX10_greatestIn_ok : iX10_greatestIn.all (fun q => decide (decode cX10_greatestIn q.1 = .ok (q.2.1, q.2.2))) = true := by decide +kernel
def iX10_isAhead : List (Nat × Instr × Nat) := [(0, .aload_n 0, 1), (1, .lload_n 1, 1), (2, .invokevirtual 191, 3), (5, .istore 5, 2), (7, .aload_n 0, 1), (8, .lload_n 3, 1), (9, .invokevirtual 191, 3), (12, .istore 6, 2), (14, .iload 5, 2), (16, .iload 6, 2), (18, .if_icmp .ne 14, 3), (21, .lload_n 1, 1), (22, .invokestatic 154, 3), (25, .lload_n 3, 1), (26, .invokestatic 154, 3), (29, .if_icmp .eq 42, 3), (32, .iload 5, 2), (34, .iload 6, 2), (36, .if_icmp .eq 18, 3), (39, .iload 5, 2), (41, .iload 6, 2), (43, .if_icmp .ge 7, 3), (46, .iconst 1, 1), (47, .goto 23, 3), (50, .iconst 0, 1), (51, .goto 19, 3), (54, .lload_n 1, 1), (55, .invokestatic 154, 3), (58, .lload_n 3, 1), (59, .invokestatic 154, 3), (62, .if_icmp .ge 7, 3), (65, .iconst 1, 1), (66, .goto 4, 3), (69, .iconst 0, 1), (70, .ireturn, 1), (71, .lload_n 1, 1), (72, .lload_n 3, 1), (73, .lcmp, 1), (74, .ifCond .eq 20, 3), (77, .lload_n 1, 1), (78, .lload_n 1, 1), (79, .lload_n 3, 1), (80, .lxor, 1), (81, .invokestatic 194, 3), (84, .invokestatic 115, 3), (87, .ifCond .eq 7, 3), (90, .iconst 1, 1), (91, .goto 4, 3), (94, .iconst 0, 1), (95, .ireturn, 1)]
set_option maxRecDepth 100000 in
theorem iX10_isAhead_ok : iX10_isAhead.all (fun q => decide (decode cX10_isAhead q.1 = .ok (q.2.1, q.2.2))) = true := by decide +kernel
def iX10_makes : List (Nat × Instr × Nat) := [(0, .lload_n 1, 1), (1, .invokestatic 154, 3), (4, .aload_n 0, 1), (5, .getfield 23, 3), (8, .if_icmp .gt 7, 3), (11, .iconst 1, 1), (12, .goto 4, 3), (15, .iconst 0, 1), (16, .istore_n 3, 1), (17, .iconst 0, 1), (18, .istore 4, 2), (20, .iload 4, 2), (22, .aload_n 0, 1), (23, .getfield 197, 3), (26, .if_icmp .ge 31, 3), (29, .iload_n 3, 1), (30, .ifCond .eq 19, 3), (33, .aload_n 0, 1), (34, .getfield 55, 3), (37, .iload 4, 2), (39, .laload, 1), (40, .lload_n 1, 1), (41, .lcmp, 1), (42, .ifCond .eq 7, 3), (45, .iconst 1, 1), (46, .goto 4, 3), (49, .iconst 0, 1), (50, .istore_n 3, 1), (51, .iinc 4 1, 3), (54, .goto (-34), 3), (57, .iload_n 3, 1), (58, .ifCond .eq 23, 3), (61, .aload_n 0, 1), (62, .getfield 55, 3), (65, .aload_n 0, 1), (66, .getfield 197, 3), (69, .lload_n 1, 1), (70, .lastore, 1), (71, .aload_n 0, 1), (72, .dup, 1), (73, .getfield 197, 3), (76, .iconst 1, 1), (77, .iadd, 1), (78, .putfield 197, 3), (81, .return_, 1)]
set_option maxRecDepth 100000 in
theorem iX10_makes_ok : iX10_makes.all (fun q => decide (decode cX10_makes q.1 = .ok (q.2.1, q.2.2))) = true := by decide +kernel
def iX10_setOf : List (Nat × Instr × Nat) := [(0, .iload_n 2, 1), (1, .ifCond .ne 9, 3), (4, .lconst 1, 1), (5, .iload_n 1, 1), (6, .lshl, 1), (7, .goto 40, 3), (10, .aload_n 0, 1), (11, .getfield 7, 3), (14, .iload_n 1, 1), (15, .iaload, 1), (16, .iconst 1, 1), (17, .if_icmp .ne 29, 3), (20, .iload_n 2, 1), (21, .aload_n 0, 1), (22, .getfield 52, 3), (25, .iload_n 1, 1), (26, .iaload, 1), (27, .if_icmp .gt 19, 3), (30, .aload_n 0, 1), (31, .getfield 49, 3), (34, .bipush 8, 2), (36, .iload_n 1, 1), (37, .imul, 1), (38, .iload_n 2, 1), (39, .iadd, 1), (40, .iconst 1, 1), (41, .isub, 1), (42, .laload, 1), (43, .goto 4, 3), (46, .lconst 0, 1), (47, .lreturn, 1)]
set_option maxRecDepth 100000 in
theorem iX10_setOf_ok : iX10_setOf.all (fun q => decide (decode cX10_setOf q.1 = .ok (q.2.1, q.2.2))) = true := by decide +kernel
def iX10_laysKept : List (Nat × Instr × Nat) := [(0, .aload_n 0, 1), (1, .iconst 0, 1), (2, .putfield 197, 3), (5, .aload_n 0, 1), (6, .aload_n 0, 1), (7, .getfield 34, 3), (10, .iload_n 1, 1), (11, .laload, 1), (12, .invokevirtual 200, 3), (15, .aload_n 0, 1), (16, .getfield 13, 3), (19, .iload_n 1, 1), (20, .iaload, 1), (21, .invokestatic 144, 3), (24, .istore_n 2, 1), (25, .bipush 9, 2), (27, .istore_n 3, 1), (28, .iconst 0, 1), (29, .istore 4, 2), (31, .iload 4, 2), (33, .iload_n 2, 1), (34, .iconst 1, 1), (35, .if_icmp .ne 7, 3), (38, .iload_n 3, 1), (39, .goto 19, 3), (42, .iload_n 2, 1), (43, .iconst 2, 1), (44, .if_icmp .ne 9, 3), (47, .iload_n 3, 1), (48, .iload_n 3, 1), (49, .imul, 1), (50, .goto 8, 3), (53, .iload_n 3, 1), (54, .iload_n 3, 1), (55, .imul, 1), (56, .iload_n 3, 1), (57, .imul, 1), (58, .if_icmp .ge 124, 3), (61, .aload_n 0, 1), (62, .aload_n 0, 1), (63, .getfield 16, 3), (66, .iconst 3, 1), (67, .iload_n 1, 1), (68, .imul, 1), (69, .iaload, 1), (70, .iload 4, 2), (72, .iload_n 3, 1), (73, .irem, 1), (74, .invokevirtual 204, 3), (77, .lstore 5, 2), (79, .iload_n 2, 1), (80, .iconst 1, 1), (81, .if_icmp .le 26, 3), (84, .aload_n 0, 1), (85, .aload_n 0, 1), (86, .getfield 16, 3), (89, .iconst 3, 1), (90, .iload_n 1, 1), (91, .imul, 1), (92, .iconst 1, 1), (93, .iadd, 1), (94, .iaload, 1), (95, .iload 4, 2), (97, .iload_n 3, 1), (98, .idiv, 1), (99, .iload_n 3, 1), (100, .irem, 1), (101, .invokevirtual 204, 3), (104, .goto 5, 3), (107, .lload 5, 2), (109, .lstore 7, 2), (111, .iload_n 2, 1), (112, .iconst 2, 1), (113, .if_icmp .le 26, 3), (116, .aload_n 0, 1), (117, .aload_n 0, 1), (118, .getfield 16, 3), (121, .iconst 3, 1), (122, .iload_n 1, 1), (123, .imul, 1), (124, .iconst 2, 1), (125, .iadd, 1), (126, .iaload, 1), (127, .iload 4, 2), (129, .iload_n 3, 1), (130, .idiv, 1), (131, .iload_n 3, 1), (132, .idiv, 1), (133, .invokevirtual 204, 3), (136, .goto 5, 3), (139, .lload 5, 2), (141, .lstore 9, 2), (143, .lload 5, 2), (145, .lconst 0, 1), (146, .lcmp, 1), (147, .ifCond .eq 29, 3), (150, .lload 7, 2), (152, .lconst 0, 1), (153, .lcmp, 1), (154, .ifCond .eq 22, 3), (157, .lload 9, 2), (159, .lconst 0, 1), (160, .lcmp, 1), (161, .ifCond .eq 15, 3), (164, .aload_n 0, 1), (165, .lload 5, 2), (167, .lload 7, 2), (169, .lor, 1), (170, .lload 9, 2), (172, .lor, 1), (173, .invokevirtual 200, 3), (176, .iinc 4 1, 3), (179, .goto (-148), 3), (182, .iconst 0, 1), (183, .istore 4, 2), (185, .iconst 0, 1), (186, .istore 5, 2), (188, .iload 5, 2), (190, .aload_n 0, 1), (191, .getfield 197, 3), (194, .if_icmp .ge 99, 3), (197, .iconst 1, 1), (198, .istore 6, 2), (200, .iconst 0, 1), (201, .istore 7, 2), (203, .iload 7, 2), (205, .aload_n 0, 1), (206, .getfield 197, 3), (209, .if_icmp .ge 52, 3), (212, .iload 6, 2), (214, .ifCond .eq 38, 3), (217, .iload 7, 2), (219, .iload 5, 2), (221, .if_icmp .eq 27, 3), (224, .aload_n 0, 1), (225, .getfield 55, 3), (228, .iload 7, 2), (230, .laload, 1), (231, .aload_n 0, 1), (232, .getfield 55, 3), (235, .iload 5, 2), (237, .laload, 1), (238, .ldc2_w 208, 3), (241, .lxor, 1), (242, .land, 1), (243, .lconst 0, 1), (244, .lcmp, 1), (245, .ifCond .eq 7, 3), (248, .iconst 1, 1), (249, .goto 4, 3), (252, .iconst 0, 1), (253, .istore 6, 2), (255, .iinc 7 1, 3), (258, .goto (-55), 3), (261, .iload 6, 2), (263, .ifCond .eq 20, 3), (266, .aload_n 0, 1), (267, .iload_n 1, 1), (268, .aload_n 0, 1), (269, .getfield 55, 3), (272, .iload 5, 2), (274, .laload, 1), (275, .iload 4, 2), (277, .invokevirtual 210, 3), (280, .goto 5, 3), (283, .iload 4, 2), (285, .istore 4, 2), (287, .iinc 5 1, 3), (290, .goto (-102), 3), (293, .aload_n 0, 1), (294, .getfield 52, 3), (297, .iload_n 1, 1), (298, .iload 4, 2), (300, .iastore, 1), (301, .return_, 1)]
set_option maxRecDepth 100000 in
theorem iX10_laysKept_ok : iX10_laysKept.all (fun q => decide (decode cX10_laysKept q.1 = .ok (q.2.1, q.2.2))) = true := by decide +kernel
def iX10_puts : List (Nat × Instr × Nat) := [(0, .iload 4, 2), (2, .istore 5, 2), (4, .iload 5, 2), (6, .ifCond .le 31, 3), (9, .aload_n 0, 1), (10, .lload_n 2, 1), (11, .aload_n 0, 1), (12, .getfield 49, 3), (15, .bipush 8, 2), (17, .iload_n 1, 1), (18, .imul, 1), (19, .iload 5, 2), (21, .iadd, 1), (22, .iconst 1, 1), (23, .isub, 1), (24, .laload, 1), (25, .invokevirtual 214, 3), (28, .ifCond .eq 9, 3), (31, .iinc 5 (-1), 3), (34, .goto (-30), 3), (37, .iload 5, 2), (39, .bipush 8, 2), (41, .if_icmp .ne 6, 3), (44, .iload 4, 2), (46, .ireturn, 1), (47, .iload 4, 2), (49, .bipush 8, 2), (51, .if_icmp .ge 8, 3), (54, .iload 4, 2), (56, .goto 5, 3), (59, .bipush 7, 2), (61, .istore 6, 2), (63, .iload 6, 2), (65, .istore 7, 2), (67, .iload 7, 2), (69, .iload 5, 2), (71, .if_icmp .le 35, 3), (74, .aload_n 0, 1), (75, .getfield 49, 3), (78, .bipush 8, 2), (80, .iload_n 1, 1), (81, .imul, 1), (82, .iload 7, 2), (84, .iadd, 1), (85, .aload_n 0, 1), (86, .getfield 49, 3), (89, .bipush 8, 2), (91, .iload_n 1, 1), (92, .imul, 1), (93, .iload 7, 2), (95, .iadd, 1), (96, .iconst 1, 1), (97, .isub, 1), (98, .laload, 1), (99, .lastore, 1), (100, .iinc 7 (-1), 3), (103, .goto (-36), 3), (106, .aload_n 0, 1), (107, .getfield 49, 3), (110, .bipush 8, 2), (112, .iload_n 1, 1), (113, .imul, 1), (114, .iload 5, 2), (116, .iadd, 1), (117, .lload_n 2, 1), (118, .lastore, 1), (119, .iload 4, 2), (121, .bipush 8, 2), (123, .if_icmp .ge 10, 3), (126, .iload 4, 2), (128, .iconst 1, 1), (129, .iadd, 1), (130, .goto 5, 3), (133, .iload 4, 2), (135, .ireturn, 1)]
set_option maxRecDepth 100000 in
theorem iX10_puts_ok : iX10_puts.all (fun q => decide (decode cX10_puts q.1 = .ok (q.2.1, q.2.2))) = true := by decide +kernel
def iX10_lays : List (Nat × Instr × Nat) := [(0, .aload_n 0, 1), (1, .getfield 130, 3), (4, .ifCond .eq 4, 3), (7, .return_, 1), (8, .aload_n 0, 1), (9, .iconst 1, 1), (10, .putfield 130, 3), (13, .iconst 0, 1), (14, .istore_n 1, 1), (15, .iload_n 1, 1), (16, .aload_n 0, 1), (17, .getfield 119, 3), (20, .if_icmp .ge 78, 3), (23, .aload_n 0, 1), (24, .getfield 31, 3), (27, .iload_n 1, 1), (28, .iconst 0, 1), (29, .iastore, 1), (30, .aload_n 0, 1), (31, .getfield 34, 3), (34, .iload_n 1, 1), (35, .lconst 0, 1), (36, .lastore, 1), (37, .aload_n 0, 1), (38, .getfield 52, 3), (41, .iload_n 1, 1), (42, .iconst 0, 1), (43, .iastore, 1), (44, .aload_n 0, 1), (45, .getfield 7, 3), (48, .iload_n 1, 1), (49, .iaload, 1), (50, .iconst 1, 1), (51, .if_icmp .ne 41, 3), (54, .aload_n 0, 1), (55, .getfield 31, 3), (58, .iload_n 1, 1), (59, .sipush 1000, 3), (62, .iastore, 1), (63, .iconst 1, 1), (64, .istore_n 2, 1), (65, .aload_n 0, 1), (66, .iload_n 1, 1), (67, .iload_n 2, 1), (68, .invokevirtual 218, 3), (71, .ifCond .ne 9, 3), (74, .iinc 2 1, 3), (77, .goto (-12), 3), (80, .aload_n 0, 1), (81, .getfield 31, 3), (84, .iload_n 1, 1), (85, .iload_n 2, 1), (86, .iastore, 1), (87, .aload_n 0, 1), (88, .iload_n 1, 1), (89, .invokevirtual 222, 3), (92, .iinc 1 1, 3), (95, .goto (-80), 3), (98, .return_, 1)]
set_option maxRecDepth 100000 in
theorem iX10_lays_ok : iX10_lays.all (fun q => decide (decode cX10_lays q.1 = .ok (q.2.1, q.2.2))) = true := by decide +kernel
def iX10_coneOf : List (Nat × Instr × Nat) := [(0, .lconst 1, 1), (1, .iload_n 1, 1), (2, .lshl, 1), (3, .lstore 4, 2), (5, .iload_n 1, 1), (6, .istore 6, 2), (8, .iload 6, 2), (10, .ifCond .lt 86, 3), (13, .iconst 0, 1), (14, .istore 7, 2), (16, .iload 7, 2), (18, .iconst 3, 1), (19, .if_icmp .ge 71, 3), (22, .lload 4, 2), (24, .iload 6, 2), (26, .invokestatic 115, 3), (29, .ifCond .eq 61, 3), (32, .aload_n 0, 1), (33, .getfield 16, 3), (36, .iconst 3, 1), (37, .iload 6, 2), (39, .imul, 1), (40, .iload 7, 2), (42, .iadd, 1), (43, .iaload, 1), (44, .istore 8, 2), (46, .lload 4, 2), (48, .iload 8, 2), (50, .ifCond .lt 30, 3), (53, .aload_n 0, 1), (54, .getfield 7, 3), (57, .iload 8, 2), (59, .iaload, 1), (60, .iconst 1, 1), (61, .if_icmp .ne 19, 3), (64, .lload_n 2, 1), (65, .iload 8, 2), (67, .invokestatic 115, 3), (70, .ifCond .ne 10, 3), (73, .lconst 1, 1), (74, .iload 8, 2), (76, .lshl, 1), (77, .goto 4, 3), (80, .lconst 0, 1), (81, .lor, 1), (82, .lstore 4, 2), (84, .iinc 7 1, 3), (87, .goto (-71), 3), (90, .iinc 6 (-1), 3), (93, .goto (-85), 3), (96, .lload 4, 2), (98, .lreturn, 1)]
set_option maxRecDepth 100000 in
theorem iX10_coneOf_ok : iX10_coneOf.all (fun q => decide (decode cX10_coneOf q.1 = .ok (q.2.1, q.2.2))) = true := by decide +kernel
def iX10_rootDepth : List (Nat × Instr × Nat) := [(0, .aload_n 0, 1), (1, .aload_n 0, 1), (2, .invokevirtual 225, 3), (5, .invokevirtual 191, 3), (8, .ireturn, 1)]
set_option maxRecDepth 100000 in
theorem iX10_rootDepth_ok : iX10_rootDepth.all (fun q => decide (decode cX10_rootDepth q.1 = .ok (q.2.1, q.2.2))) = true := by decide +kernel
def iX10_node : List (Nat × Instr × Nat) := [(0, .aload_n 0, 1), (1, .iconst 0, 1), (2, .putfield 112, 3), (5, .aload_n 0, 1), (6, .invokevirtual 228, 3), (9, .aload_n 0, 1), (10, .iload_n 1, 1), (11, .invokevirtual 122, 3), (14, .ifCond .ne 5, 3), (17, .iconst (-1), 1), (18, .ireturn, 1), (19, .iload_n 2, 1), (20, .tableswitch 109 0 7 #[48, 55, 62, 62, 62, 75, 82, 99], 48), (68, .aload_n 0, 1), (69, .getfield 7, 3), (72, .iload_n 1, 1), (73, .iaload, 1), (74, .ireturn, 1), (75, .aload_n 0, 1), (76, .getfield 13, 3), (79, .iload_n 1, 1), (80, .iaload, 1), (81, .ireturn, 1), (82, .aload_n 0, 1), (83, .getfield 16, 3), (86, .iconst 3, 1), (87, .iload_n 1, 1), (88, .imul, 1), (89, .iload_n 2, 1), (90, .iadd, 1), (91, .iconst 2, 1), (92, .isub, 1), (93, .iaload, 1), (94, .ireturn, 1), (95, .aload_n 0, 1), (96, .getfield 31, 3), (99, .iload_n 1, 1), (100, .iaload, 1), (101, .ireturn, 1), (102, .aload_n 0, 1), (103, .invokevirtual 225, 3), (106, .iload_n 1, 1), (107, .invokestatic 115, 3), (110, .ifCond .eq 7, 3), (113, .iconst 1, 1), (114, .goto 4, 3), (117, .iconst 0, 1), (118, .ireturn, 1), (119, .aload_n 0, 1), (120, .getfield 19, 3), (123, .iload_n 1, 1), (124, .laload, 1), (125, .invokestatic 154, 3), (128, .ireturn, 1), (129, .iconst (-1), 1), (130, .ireturn, 1)]
set_option maxRecDepth 100000 in
theorem iX10_node_ok : iX10_node.all (fun q => decide (decode cX10_node q.1 = .ok (q.2.1, q.2.2))) = true := by decide +kernel
def iX10_near : List (Nat × Instr × Nat) := [(0, .aload_n 0, 1), (1, .iconst 0, 1), (2, .putfield 112, 3), (5, .aload_n 0, 1), (6, .invokevirtual 228, 3), (9, .aload_n 0, 1), (10, .iload_n 1, 1), (11, .invokevirtual 231, 3), (14, .ifCond .eq 8, 3), (17, .iload_n 2, 1), (18, .iconst (-1), 1), (19, .if_icmp .ge 5, 3), (22, .iconst (-1), 1), (23, .ireturn, 1), (24, .iconst 0, 1), (25, .istore_n 3, 1), (26, .iconst 0, 1), (27, .istore 4, 2), (29, .iload 4, 2), (31, .aload_n 0, 1), (32, .getfield 119, 3), (35, .if_icmp .ge 34, 3), (38, .aload_n 0, 1), (39, .getfield 34, 3), (42, .iload_n 1, 1), (43, .laload, 1), (44, .iload 4, 2), (46, .invokestatic 115, 3), (49, .ifCond .eq 14, 3), (52, .iload_n 3, 1), (53, .iload_n 2, 1), (54, .if_icmp .ne 6, 3), (57, .iload 4, 2), (59, .ireturn, 1), (60, .iinc 3 1, 3), (63, .iinc 4 1, 3), (66, .goto (-37), 3), (69, .iload_n 2, 1), (70, .iconst (-1), 1), (71, .if_icmp .ne 7, 3), (74, .iload_n 3, 1), (75, .goto 4, 3), (78, .iconst (-1), 1), (79, .ireturn, 1)]
set_option maxRecDepth 100000 in
theorem iX10_near_ok : iX10_near.all (fun q => decide (decode cX10_near q.1 = .ok (q.2.1, q.2.2))) = true := by decide +kernel
def iX10_cone : List (Nat × Instr × Nat) := [(0, .aload_n 0, 1), (1, .iconst 0, 1), (2, .putfield 112, 3), (5, .aload_n 0, 1), (6, .invokevirtual 228, 3), (9, .aload_n 0, 1), (10, .iload_n 1, 1), (11, .invokevirtual 231, 3), (14, .ifCond .eq 20, 3), (17, .aload_n 0, 1), (18, .iload_n 1, 1), (19, .aload_n 0, 1), (20, .getfield 34, 3), (23, .iload_n 1, 1), (24, .laload, 1), (25, .invokevirtual 234, 3), (28, .invokestatic 154, 3), (31, .goto 4, 3), (34, .iconst (-1), 1), (35, .ireturn, 1)]
set_option maxRecDepth 100000 in
theorem iX10_cone_ok : iX10_cone.all (fun q => decide (decode cX10_cone q.1 = .ok (q.2.1, q.2.2))) = true := by decide +kernel
def iX10_kept : List (Nat × Instr × Nat) := [(0, .aload_n 0, 1), (1, .iconst 0, 1), (2, .putfield 112, 3), (5, .aload_n 0, 1), (6, .invokevirtual 228, 3), (9, .aload_n 0, 1), (10, .iload_n 1, 1), (11, .invokevirtual 231, 3), (14, .ifCond .eq 31, 3), (17, .iload_n 2, 1), (18, .ifCond .lt 27, 3), (21, .iload_n 2, 1), (22, .aload_n 0, 1), (23, .getfield 52, 3), (26, .iload_n 1, 1), (27, .iaload, 1), (28, .if_icmp .ge 17, 3), (31, .aload_n 0, 1), (32, .getfield 49, 3), (35, .bipush 8, 2), (37, .iload_n 1, 1), (38, .imul, 1), (39, .iload_n 2, 1), (40, .iadd, 1), (41, .laload, 1), (42, .goto 4, 3), (45, .lconst 0, 1), (46, .lreturn, 1)]
set_option maxRecDepth 100000 in
theorem iX10_kept_ok : iX10_kept.all (fun q => decide (decode cX10_kept q.1 = .ok (q.2.1, q.2.2))) = true := by decide +kernel
def iX10_isCut : List (Nat × Instr × Nat) := [(0, .aload_n 0, 1), (1, .iconst 0, 1), (2, .putfield 112, 3), (5, .aload_n 0, 1), (6, .iload_n 1, 1), (7, .invokevirtual 231, 3), (10, .ifCond .eq 31, 3), (13, .lload_n 2, 1), (14, .aload_n 0, 1), (15, .getfield 19, 3), (18, .iload_n 1, 1), (19, .laload, 1), (20, .ldc2_w 208, 3), (23, .lxor, 1), (24, .land, 1), (25, .lconst 0, 1), (26, .lcmp, 1), (27, .ifCond .ne 14, 3), (30, .lload_n 2, 1), (31, .invokestatic 154, 3), (34, .aload_n 0, 1), (35, .getfield 23, 3), (38, .if_icmp .le 5, 3), (41, .iconst 0, 1), (42, .ireturn, 1), (43, .aload_n 0, 1), (44, .iload_n 1, 1), (45, .lload_n 2, 1), (46, .invokevirtual 234, 3), (49, .lstore 4, 2), (51, .iconst 1, 1), (52, .istore 6, 2), (54, .iconst 0, 1), (55, .istore 7, 2), (57, .iload 7, 2), (59, .aload_n 0, 1), (60, .getfield 119, 3), (63, .if_icmp .ge 85, 3), (66, .iconst 0, 1), (67, .istore 8, 2), (69, .iload 8, 2), (71, .iconst 3, 1), (72, .if_icmp .ge 70, 3), (75, .lload 4, 2), (77, .iload 7, 2), (79, .invokestatic 115, 3), (82, .ifCond .eq 60, 3), (85, .aload_n 0, 1), (86, .getfield 16, 3), (89, .iconst 3, 1), (90, .iload 7, 2), (92, .imul, 1), (93, .iload 8, 2), (95, .iadd, 1), (96, .iaload, 1), (97, .istore 9, 2), (99, .iload 6, 2), (101, .ifCond .eq 32, 3), (104, .iload 9, 2), (106, .ifCond .lt 23, 3), (109, .aload_n 0, 1), (110, .getfield 7, 3), (113, .iload 9, 2), (115, .iaload, 1), (116, .iconst 1, 1), (117, .if_icmp .eq 12, 3), (120, .lload_n 2, 1), (121, .iload 9, 2), (123, .invokestatic 115, 3), (126, .ifCond .eq 7, 3), (129, .iconst 1, 1), (130, .goto 4, 3), (133, .iconst 0, 1), (134, .istore 6, 2), (136, .iinc 8 1, 3), (139, .goto (-70), 3), (142, .iinc 7 1, 3), (145, .goto (-88), 3), (148, .iload 6, 2), (150, .ireturn, 1)]
set_option maxRecDepth 100000 in
theorem iX10_isCut_ok : iX10_isCut.all (fun q => decide (decode cX10_isCut q.1 = .ok (q.2.1, q.2.2))) = true := by decide +kernel
def iX10_depth : List (Nat × Instr × Nat) := [(0, .aload_n 0, 1), (1, .iconst 0, 1), (2, .putfield 112, 3), (5, .aload_n 0, 1), (6, .invokevirtual 228, 3), (9, .aload_n 0, 1), (10, .invokevirtual 238, 3), (13, .ireturn, 1)]
set_option maxRecDepth 100000 in
theorem iX10_depth_ok : iX10_depth.all (fun q => decide (decode cX10_depth q.1 = .ok (q.2.1, q.2.2))) = true := by decide +kernel
def iX10_laysTables : List (Nat × Instr × Nat) := [(0, .aload_n 0, 1), (1, .aload_n 0, 1), (2, .invokevirtual 225, 3), (5, .aload_n 0, 1), (6, .invokevirtual 242, 3), (9, .land, 1), (10, .putfield 245, 3), (13, .aload_n 0, 1), (14, .getfield 119, 3), (17, .iconst 1, 1), (18, .isub, 1), (19, .istore_n 1, 1), (20, .iload_n 1, 1), (21, .ifCond .lt 44, 3), (24, .aload_n 0, 1), (25, .dup, 1), (26, .getfield 245, 3), (29, .aload_n 0, 1), (30, .getfield 245, 3), (33, .iload_n 1, 1), (34, .invokestatic 115, 3), (37, .ifCond .eq 17, 3), (40, .aload_n 0, 1), (41, .getfield 58, 3), (44, .iload_n 1, 1), (45, .laload, 1), (46, .aload_n 0, 1), (47, .invokevirtual 242, 3), (50, .land, 1), (51, .goto 4, 3), (54, .lconst 0, 1), (55, .lor, 1), (56, .putfield 245, 3), (59, .iinc 1 (-1), 3), (62, .goto (-42), 3), (65, .return_, 1)]
set_option maxRecDepth 100000 in
theorem iX10_laysTables_ok : iX10_laysTables.all (fun q => decide (decode cX10_laysTables q.1 = .ok (q.2.1, q.2.2))) = true := by decide +kernel
def iX10_arrivalBy : List (Nat × Instr × Nat) := [(0, .iconst 0, 1), (1, .istore_n 3, 1), (2, .iconst 0, 1), (3, .istore 4, 2), (5, .iload 4, 2), (7, .aload_n 0, 1), (8, .getfield 119, 3), (11, .if_icmp .ge 41, 3), (14, .lload_n 1, 1), (15, .iload 4, 2), (17, .invokestatic 115, 3), (20, .ifCond .eq 24, 3), (23, .aload_n 0, 1), (24, .getfield 61, 3), (27, .iload 4, 2), (29, .iaload, 1), (30, .iload_n 3, 1), (31, .if_icmp .le 13, 3), (34, .aload_n 0, 1), (35, .getfield 61, 3), (38, .iload 4, 2), (40, .iaload, 1), (41, .goto 4, 3), (44, .iload_n 3, 1), (45, .istore_n 3, 1), (46, .iinc 4 1, 3), (49, .goto (-44), 3), (52, .iload_n 3, 1), (53, .iconst 1, 1), (54, .iadd, 1), (55, .ireturn, 1)]
set_option maxRecDepth 100000 in
theorem iX10_arrivalBy_ok : iX10_arrivalBy.all (fun q => decide (decode cX10_arrivalBy q.1 = .ok (q.2.1, q.2.2))) = true := by decide +kernel
def iX10_laysArrival : List (Nat × Instr × Nat) := [(0, .iconst 0, 1), (1, .istore_n 1, 1), (2, .iload_n 1, 1), (3, .aload_n 0, 1), (4, .getfield 119, 3), (7, .if_icmp .ge 39, 3), (10, .aload_n 0, 1), (11, .getfield 61, 3), (14, .iload_n 1, 1), (15, .aload_n 0, 1), (16, .getfield 7, 3), (19, .iload_n 1, 1), (20, .iaload, 1), (21, .iconst 1, 1), (22, .if_icmp .ne 16, 3), (25, .aload_n 0, 1), (26, .aload_n 0, 1), (27, .getfield 58, 3), (30, .iload_n 1, 1), (31, .laload, 1), (32, .invokevirtual 248, 3), (35, .goto 4, 3), (38, .iconst 0, 1), (39, .iastore, 1), (40, .iinc 1 1, 3), (43, .goto (-41), 3), (46, .return_, 1)]
set_option maxRecDepth 100000 in
theorem iX10_laysArrival_ok : iX10_laysArrival.all (fun q => decide (decode cX10_laysArrival q.1 = .ok (q.2.1, q.2.2))) = true := by decide +kernel
def iX10_looks : List (Nat × Instr × Nat) := [(0, .aload_n 0, 1), (1, .invokevirtual 251, 3), (4, .aload_n 0, 1), (5, .invokevirtual 254, 3), (8, .return_, 1)]
set_option maxRecDepth 100000 in
theorem iX10_looks_ok : iX10_looks.all (fun q => decide (decode cX10_looks q.1 = .ok (q.2.1, q.2.2))) = true := by decide +kernel
def iX10_map : List (Nat × Instr × Nat) := [(0, .aload_n 0, 1), (1, .iconst 0, 1), (2, .putfield 112, 3), (5, .aload_n 0, 1), (6, .invokevirtual 228, 3), (9, .iconst 0, 1), (10, .istore_n 1, 1), (11, .iload_n 1, 1), (12, .aload_n 0, 1), (13, .getfield 119, 3), (16, .if_icmp .ge 21, 3), (19, .aload_n 0, 1), (20, .getfield 58, 3), (23, .iload_n 1, 1), (24, .aload_n 0, 1), (25, .getfield 34, 3), (28, .iload_n 1, 1), (29, .laload, 1), (30, .lastore, 1), (31, .iinc 1 1, 3), (34, .goto (-23), 3), (37, .aload_n 0, 1), (38, .iconst 1, 1), (39, .putfield 126, 3), (42, .aload_n 0, 1), (43, .invokevirtual 257, 3), (46, .aload_n 0, 1), (47, .getfield 245, 3), (50, .invokestatic 154, 3), (53, .ireturn, 1)]
set_option maxRecDepth 100000 in
theorem iX10_map_ok : iX10_map.all (fun q => decide (decode cX10_map q.1 = .ok (q.2.1, q.2.2))) = true := by decide +kernel
def iX10_laysDue : List (Nat × Instr × Nat) := [(0, .aload_n 0, 1), (1, .invokevirtual 225, 3), (4, .lstore_n 2, 1), (5, .aload_n 0, 1), (6, .getfield 119, 3), (9, .iconst 1, 1), (10, .isub, 1), (11, .istore 4, 2), (13, .iload 4, 2), (15, .ifCond .lt 37, 3), (18, .aload_n 0, 1), (19, .getfield 64, 3), (22, .iload 4, 2), (24, .lload_n 2, 1), (25, .iload 4, 2), (27, .invokestatic 115, 3), (30, .ifCond .eq 12, 3), (33, .aload_n 0, 1), (34, .invokevirtual 238, 3), (37, .iload_n 1, 1), (38, .iadd, 1), (39, .goto 6, 3), (42, .sipush 1000, 3), (45, .iastore, 1), (46, .iinc 4 (-1), 3), (49, .goto (-36), 3), (52, .aload_n 0, 1), (53, .getfield 119, 3), (56, .iconst 1, 1), (57, .isub, 1), (58, .istore 4, 2), (60, .iload 4, 2), (62, .ifCond .lt 99, 3), (65, .iconst 0, 1), (66, .istore 5, 2), (68, .iload 5, 2), (70, .aload_n 0, 1), (71, .getfield 119, 3), (74, .if_icmp .ge 81, 3), (77, .aload_n 0, 1), (78, .getfield 245, 3), (81, .iload 4, 2), (83, .invokestatic 115, 3), (86, .ifCond .eq 69, 3), (89, .aload_n 0, 1), (90, .getfield 64, 3), (93, .iload 5, 2), (95, .aload_n 0, 1), (96, .getfield 58, 3), (99, .iload 4, 2), (101, .laload, 1), (102, .iload 5, 2), (104, .invokestatic 115, 3), (107, .ifCond .eq 34, 3), (110, .aload_n 0, 1), (111, .getfield 64, 3), (114, .iload 4, 2), (116, .iaload, 1), (117, .iconst 1, 1), (118, .isub, 1), (119, .aload_n 0, 1), (120, .getfield 64, 3), (123, .iload 5, 2), (125, .iaload, 1), (126, .if_icmp .ge 15, 3), (129, .aload_n 0, 1), (130, .getfield 64, 3), (133, .iload 4, 2), (135, .iaload, 1), (136, .iconst 1, 1), (137, .isub, 1), (138, .goto 10, 3), (141, .aload_n 0, 1), (142, .getfield 64, 3), (145, .iload 5, 2), (147, .iaload, 1), (148, .iastore, 1), (149, .iinc 5 1, 3), (152, .goto (-84), 3), (155, .iinc 4 (-1), 3), (158, .goto (-98), 3), (161, .return_, 1)]
set_option maxRecDepth 100000 in
theorem iX10_laysDue_ok : iX10_laysDue.all (fun q => decide (decode cX10_laysDue q.1 = .ok (q.2.1, q.2.2))) = true := by decide +kernel
def iX10_tablesBy : List (Nat × Instr × Nat) := [(0, .aload_n 0, 1), (1, .getfield 58, 3), (4, .iload_n 1, 1), (5, .laload, 1), (6, .lstore 4, 2), (8, .aload_n 0, 1), (9, .getfield 58, 3), (12, .iload_n 1, 1), (13, .lload_n 2, 1), (14, .lastore, 1), (15, .aload_n 0, 1), (16, .invokevirtual 251, 3), (19, .aload_n 0, 1), (20, .getfield 58, 3), (23, .iload_n 1, 1), (24, .lload 4, 2), (26, .lastore, 1), (27, .aload_n 0, 1), (28, .getfield 245, 3), (31, .invokestatic 154, 3), (34, .ireturn, 1)]
set_option maxRecDepth 100000 in
theorem iX10_tablesBy_ok : iX10_tablesBy.all (fun q => decide (decode cX10_tablesBy q.1 = .ok (q.2.1, q.2.2))) = true := by decide +kernel
def iX10_choosesAgain : List (Nat × Instr × Nat) := [(0, .aload_n 0, 1), (1, .getfield 58, 3), (4, .iload_n 1, 1), (5, .laload, 1), (6, .lstore_n 2, 1), (7, .aload_n 0, 1), (8, .iload_n 1, 1), (9, .lload_n 2, 1), (10, .invokevirtual 260, 3), (13, .istore 4, 2), (15, .aload_n 0, 1), (16, .lload_n 2, 1), (17, .invokevirtual 248, 3), (20, .istore 5, 2), (22, .iconst 0, 1), (23, .istore 6, 2), (25, .iload 6, 2), (27, .aload_n 0, 1), (28, .getfield 52, 3), (31, .iload_n 1, 1), (32, .iaload, 1), (33, .if_icmp .ge 83, 3), (36, .aload_n 0, 1), (37, .getfield 49, 3), (40, .bipush 8, 2), (42, .iload_n 1, 1), (43, .imul, 1), (44, .iload 6, 2), (46, .iadd, 1), (47, .laload, 1), (48, .lstore 7, 2), (50, .aload_n 0, 1), (51, .iload_n 1, 1), (52, .lload 7, 2), (54, .invokevirtual 260, 3), (57, .istore 9, 2), (59, .aload_n 0, 1), (60, .lload 7, 2), (62, .invokevirtual 248, 3), (65, .istore 10, 2), (67, .iload 10, 2), (69, .aload_n 0, 1), (70, .getfield 64, 3), (73, .iload_n 1, 1), (74, .iaload, 1), (75, .if_icmp .gt 35, 3), (78, .iload 9, 2), (80, .iload 4, 2), (82, .if_icmp .lt 17, 3), (85, .iload 9, 2), (87, .iload 4, 2), (89, .if_icmp .ne 21, 3), (92, .iload 10, 2), (94, .iload 5, 2), (96, .if_icmp .ge 14, 3), (99, .lload 7, 2), (101, .lstore_n 2, 1), (102, .iload 9, 2), (104, .istore 4, 2), (106, .iload 10, 2), (108, .istore 5, 2), (110, .iinc 6 1, 3), (113, .goto (-88), 3), (116, .aload_n 0, 1), (117, .getfield 58, 3), (120, .iload_n 1, 1), (121, .lload_n 2, 1), (122, .lastore, 1), (123, .aload_n 0, 1), (124, .invokevirtual 257, 3), (127, .return_, 1)]
set_option maxRecDepth 100000 in
theorem iX10_choosesAgain_ok : iX10_choosesAgain.all (fun q => decide (decode cX10_choosesAgain q.1 = .ok (q.2.1, q.2.2))) = true := by decide +kernel
def iX10_again : List (Nat × Instr × Nat) := [(0, .aload_n 0, 1), (1, .iconst 0, 1), (2, .putfield 112, 3), (5, .aload_n 0, 1), (6, .getfield 126, 3), (9, .ifCond .eq 12, 3), (12, .iload_n 1, 1), (13, .iconst 0, 1), (14, .iconst 5, 1), (15, .invokestatic 140, 3), (18, .ifCond .ne 5, 3), (21, .iconst (-1), 1), (22, .ireturn, 1), (23, .aload_n 0, 1), (24, .invokevirtual 228, 3), (27, .aload_n 0, 1), (28, .invokevirtual 257, 3), (31, .aload_n 0, 1), (32, .iload_n 1, 1), (33, .invokevirtual 264, 3), (36, .aload_n 0, 1), (37, .getfield 245, 3), (40, .invokestatic 154, 3), (43, .istore_n 2, 1), (44, .iconst 0, 1), (45, .istore_n 3, 1), (46, .iload_n 3, 1), (47, .aload_n 0, 1), (48, .getfield 119, 3), (51, .if_icmp .ge 25, 3), (54, .aload_n 0, 1), (55, .getfield 245, 3), (58, .iload_n 3, 1), (59, .invokestatic 115, 3), (62, .ifCond .eq 8, 3), (65, .aload_n 0, 1), (66, .iload_n 3, 1), (67, .invokevirtual 267, 3), (70, .iinc 3 1, 3), (73, .goto (-27), 3), (76, .iload_n 2, 1), (77, .aload_n 0, 1), (78, .getfield 245, 3), (81, .invokestatic 154, 3), (84, .isub, 1), (85, .ireturn, 1)]
set_option maxRecDepth 100000 in
theorem iX10_again_ok : iX10_again.all (fun q => decide (decode cX10_again q.1 = .ok (q.2.1, q.2.2))) = true := by decide +kernel
def iX10_chosen : List (Nat × Instr × Nat) := [(0, .aload_n 0, 1), (1, .iconst 0, 1), (2, .putfield 112, 3), (5, .aload_n 0, 1), (6, .iload_n 1, 1), (7, .invokevirtual 231, 3), (10, .ifCond .eq 19, 3), (13, .aload_n 0, 1), (14, .getfield 126, 3), (17, .ifCond .eq 12, 3), (20, .aload_n 0, 1), (21, .getfield 58, 3), (24, .iload_n 1, 1), (25, .laload, 1), (26, .goto 4, 3), (29, .lconst 0, 1), (30, .lreturn, 1)]
set_option maxRecDepth 100000 in
theorem iX10_chosen_ok : iX10_chosen.all (fun q => decide (decode cX10_chosen q.1 = .ok (q.2.1, q.2.2))) = true := by decide +kernel
def iX10_gateIs : List (Nat × Instr × Nat) := [(0, .aload_n 0, 1), (1, .getfield 67, 3), (4, .aload_n 0, 1), (5, .getfield 16, 3), (8, .iconst 3, 1), (9, .iload_n 1, 1), (10, .imul, 1), (11, .iaload, 1), (12, .baload, 1), (13, .istore_n 2, 1), (14, .aload_n 0, 1), (15, .getfield 16, 3), (18, .iconst 3, 1), (19, .iload_n 1, 1), (20, .imul, 1), (21, .iconst 1, 1), (22, .iadd, 1), (23, .iaload, 1), (24, .ifCond .lt 25, 3), (27, .aload_n 0, 1), (28, .getfield 67, 3), (31, .aload_n 0, 1), (32, .getfield 16, 3), (35, .iconst 3, 1), (36, .iload_n 1, 1), (37, .imul, 1), (38, .iconst 1, 1), (39, .iadd, 1), (40, .iaload, 1), (41, .baload, 1), (42, .ifCond .eq 7, 3), (45, .iconst 1, 1), (46, .goto 4, 3), (49, .iconst 0, 1), (50, .istore_n 3, 1), (51, .aload_n 0, 1), (52, .getfield 16, 3), (55, .iconst 3, 1), (56, .iload_n 1, 1), (57, .imul, 1), (58, .iconst 2, 1), (59, .iadd, 1), (60, .iaload, 1), (61, .ifCond .lt 25, 3), (64, .aload_n 0, 1), (65, .getfield 67, 3), (68, .aload_n 0, 1), (69, .getfield 16, 3), (72, .iconst 3, 1), (73, .iload_n 1, 1), (74, .imul, 1), (75, .iconst 2, 1), (76, .iadd, 1), (77, .iaload, 1), (78, .baload, 1), (79, .ifCond .eq 7, 3), (82, .iconst 1, 1), (83, .goto 4, 3), (86, .iconst 0, 1), (87, .istore 4, 2), (89, .aload_n 0, 1), (90, .getfield 13, 3), (93, .iload_n 1, 1), (94, .iaload, 1), (95, .tableswitch 111 0 5 #[37, 47, 61, 75, 86, 100], 37), (132, .iload_n 2, 1), (133, .ifCond .ne 7, 3), (136, .iconst 1, 1), (137, .goto 4, 3), (140, .iconst 0, 1), (141, .ireturn, 1), (142, .iload_n 2, 1), (143, .ifCond .eq 11, 3), (146, .iload_n 3, 1), (147, .ifCond .eq 7, 3), (150, .iconst 1, 1), (151, .goto 4, 3), (154, .iconst 0, 1), (155, .ireturn, 1), (156, .iload_n 2, 1), (157, .ifCond .ne 7, 3), (160, .iload_n 3, 1), (161, .ifCond .eq 7, 3), (164, .iconst 1, 1), (165, .goto 4, 3), (168, .iconst 0, 1), (169, .ireturn, 1), (170, .iload_n 2, 1), (171, .iload_n 3, 1), (172, .if_icmp .eq 7, 3), (175, .iconst 1, 1), (176, .goto 4, 3), (179, .iconst 0, 1), (180, .ireturn, 1), (181, .iload_n 2, 1), (182, .ifCond .eq 7, 3), (185, .iload_n 3, 1), (186, .ifCond .ne 7, 3), (189, .iconst 1, 1), (190, .goto 4, 3), (193, .iconst 0, 1), (194, .ireturn, 1), (195, .iload_n 2, 1), (196, .ifCond .eq 7, 3), (199, .iload_n 3, 1), (200, .goto 5, 3), (203, .iload 4, 2), (205, .ireturn, 1), (206, .iload_n 2, 1), (207, .ifCond .eq 7, 3), (210, .iload_n 3, 1), (211, .ifCond .ne 21, 3), (214, .iload_n 2, 1), (215, .ifCond .eq 8, 3), (218, .iload 4, 2), (220, .ifCond .ne 12, 3), (223, .iload_n 3, 1), (224, .ifCond .eq 12, 3), (227, .iload 4, 2), (229, .ifCond .eq 7, 3), (232, .iconst 1, 1), (233, .goto 4, 3), (236, .iconst 0, 1), (237, .ireturn, 1)]
set_option maxRecDepth 100000 in
theorem iX10_gateIs_ok : iX10_gateIs.all (fun q => decide (decode cX10_gateIs q.1 = .ok (q.2.1, q.2.2))) = true := by decide +kernel
def iX10_works : List (Nat × Instr × Nat) := [(0, .iconst 0, 1), (1, .istore_n 3, 1), (2, .iload_n 3, 1), (3, .aload_n 0, 1), (4, .getfield 119, 3), (7, .if_icmp .ge 47, 3), (10, .lload_n 1, 1), (11, .iload_n 3, 1), (12, .invokestatic 115, 3), (15, .ifCond .ne 33, 3), (18, .aload_n 0, 1), (19, .getfield 67, 3), (22, .iload_n 3, 1), (23, .aload_n 0, 1), (24, .getfield 7, 3), (27, .iload_n 3, 1), (28, .iaload, 1), (29, .iconst 1, 1), (30, .if_icmp .ne 11, 3), (33, .aload_n 0, 1), (34, .iload_n 3, 1), (35, .invokevirtual 270, 3), (38, .goto 9, 3), (41, .aload_n 0, 1), (42, .getfield 27, 3), (45, .iload_n 3, 1), (46, .baload, 1), (47, .bastore, 1), (48, .iinc 3 1, 3), (51, .goto (-49), 3), (54, .return_, 1)]
set_option maxRecDepth 100000 in
theorem iX10_works_ok : iX10_works.all (fun q => decide (decode cX10_works q.1 = .ok (q.2.1, q.2.2))) = true := by decide +kernel
def iX10_fixes : List (Nat × Instr × Nat) := [(0, .iconst 0, 1), (1, .istore 4, 2), (3, .iconst 0, 1), (4, .istore 5, 2), (6, .iload 5, 2), (8, .aload_n 0, 1), (9, .getfield 119, 3), (12, .if_icmp .ge 43, 3), (15, .lload_n 1, 1), (16, .iload 5, 2), (18, .invokestatic 115, 3), (21, .ifCond .eq 28, 3), (24, .aload_n 0, 1), (25, .getfield 67, 3), (28, .iload 5, 2), (30, .iload_n 3, 1), (31, .iload 4, 2), (33, .ishr, 1), (34, .iconst 1, 1), (35, .iand, 1), (36, .iconst 1, 1), (37, .if_icmp .ne 7, 3), (40, .iconst 1, 1), (41, .goto 4, 3), (44, .iconst 0, 1), (45, .bastore, 1), (46, .iinc 4 1, 3), (49, .iinc 5 1, 3), (52, .goto (-46), 3), (55, .return_, 1)]
set_option maxRecDepth 100000 in
theorem iX10_fixes_ok : iX10_fixes.all (fun q => decide (decode cX10_fixes q.1 = .ok (q.2.1, q.2.2))) = true := by decide +kernel
def iX10_holdsOf : List (Nat × Instr × Nat) := [(0, .lconst 0, 1), (1, .lstore_n 2, 1), (2, .iconst 0, 1), (3, .istore 4, 2), (5, .iload 4, 2), (7, .iconst 1, 1), (8, .aload_n 0, 1), (9, .getfield 58, 3), (12, .iload_n 1, 1), (13, .laload, 1), (14, .invokestatic 154, 3), (17, .ishl, 1), (18, .if_icmp .ge 51, 3), (21, .aload_n 0, 1), (22, .aload_n 0, 1), (23, .getfield 58, 3), (26, .iload_n 1, 1), (27, .laload, 1), (28, .iload 4, 2), (30, .invokevirtual 273, 3), (33, .aload_n 0, 1), (34, .aload_n 0, 1), (35, .getfield 58, 3), (38, .iload_n 1, 1), (39, .laload, 1), (40, .invokevirtual 277, 3), (43, .lload_n 2, 1), (44, .aload_n 0, 1), (45, .getfield 67, 3), (48, .iload_n 1, 1), (49, .baload, 1), (50, .ifCond .eq 10, 3), (53, .lconst 1, 1), (54, .iload 4, 2), (56, .lshl, 1), (57, .goto 4, 3), (60, .lconst 0, 1), (61, .lor, 1), (62, .lstore_n 2, 1), (63, .iinc 4 1, 3), (66, .goto (-61), 3), (69, .lload_n 2, 1), (70, .lreturn, 1)]
set_option maxRecDepth 100000 in
theorem iX10_holdsOf_ok : iX10_holdsOf.all (fun q => decide (decode cX10_holdsOf q.1 = .ok (q.2.1, q.2.2))) = true := by decide +kernel
def iX10_holds : List (Nat × Instr × Nat) := [(0, .aload_n 0, 1), (1, .aload_n 0, 1), (2, .iload_n 1, 1), (3, .invokevirtual 231, 3), (6, .ifCond .eq 14, 3), (9, .aload_n 0, 1), (10, .getfield 126, 3), (13, .ifCond .eq 7, 3), (16, .iconst 0, 1), (17, .goto 4, 3), (20, .iconst 1, 1), (21, .putfield 112, 3), (24, .aload_n 0, 1), (25, .getfield 112, 3), (28, .ifCond .le 7, 3), (31, .lconst 0, 1), (32, .goto 8, 3), (35, .aload_n 0, 1), (36, .iload_n 1, 1), (37, .invokevirtual 280, 3), (40, .lreturn, 1)]
set_option maxRecDepth 100000 in
theorem iX10_holds_ok : iX10_holds.all (fun q => decide (decode cX10_holds q.1 = .ok (q.2.1, q.2.2))) = true := by decide +kernel
def iX10_caresOf : List (Nat × Instr × Nat) := [(0, .aload_n 0, 1), (1, .iload_n 1, 1), (2, .invokevirtual 280, 3), (5, .lstore_n 2, 1), (6, .aload_n 0, 1), (7, .getfield 58, 3), (10, .iload_n 1, 1), (11, .laload, 1), (12, .invokestatic 154, 3), (15, .istore 4, 2), (17, .iconst 0, 1), (18, .istore 5, 2), (20, .iconst 0, 1), (21, .istore 6, 2), (23, .iload 6, 2), (25, .iload 4, 2), (27, .if_icmp .ge 60, 3), (30, .iconst 0, 1), (31, .istore 7, 2), (33, .iload 7, 2), (35, .iconst 1, 1), (36, .iload 4, 2), (38, .ishl, 1), (39, .if_icmp .ge 42, 3), (42, .iload 5, 2), (44, .lload_n 2, 1), (45, .iload 7, 2), (47, .invokestatic 284, 3), (50, .lload_n 2, 1), (51, .iload 7, 2), (53, .iconst 1, 1), (54, .iload 6, 2), (56, .ishl, 1), (57, .ixor, 1), (58, .invokestatic 284, 3), (61, .if_icmp .eq 10, 3), (64, .iconst 1, 1), (65, .iload 6, 2), (67, .ishl, 1), (68, .goto 4, 3), (71, .iconst 0, 1), (72, .ior, 1), (73, .istore 5, 2), (75, .iinc 7 1, 3), (78, .goto (-45), 3), (81, .iinc 6 1, 3), (84, .goto (-61), 3), (87, .iload 5, 2), (89, .ireturn, 1)]
set_option maxRecDepth 100000 in
theorem iX10_caresOf_ok : iX10_caresOf.all (fun q => decide (decode cX10_caresOf q.1 = .ok (q.2.1, q.2.2))) = true := by decide +kernel
def iX10_has64 : List (Nat × Instr × Nat) := [(0, .lload_n 0, 1), (1, .iload_n 2, 1), (2, .lushr, 1), (3, .lconst 1, 1), (4, .land, 1), (5, .lconst 1, 1), (6, .lcmp, 1), (7, .ifCond .ne 7, 3), (10, .iconst 1, 1), (11, .goto 4, 3), (14, .iconst 0, 1), (15, .ireturn, 1)]
set_option maxRecDepth 100000 in
theorem iX10_has64_ok : iX10_has64.all (fun q => decide (decode cX10_has64 q.1 = .ok (q.2.1, q.2.2))) = true := by decide +kernel
def iX10_set : List (Nat × Instr × Nat) := [(0, .aload_n 0, 1), (1, .iconst 0, 1), (2, .putfield 112, 3), (5, .aload_n 0, 1), (6, .iload_n 1, 1), (7, .invokevirtual 122, 3), (10, .ifCond .eq 12, 3), (13, .aload_n 0, 1), (14, .getfield 7, 3), (17, .iload_n 1, 1), (18, .iaload, 1), (19, .ifCond .eq 5, 3), (22, .iconst (-1), 1), (23, .ireturn, 1), (24, .aload_n 0, 1), (25, .getfield 27, 3), (28, .iload_n 1, 1), (29, .baload, 1), (30, .ifCond .eq 7, 3), (33, .iconst 1, 1), (34, .goto 4, 3), (37, .iconst 0, 1), (38, .istore_n 3, 1), (39, .aload_n 0, 1), (40, .getfield 27, 3), (43, .iload_n 1, 1), (44, .iload_n 2, 1), (45, .bastore, 1), (46, .iload_n 3, 1), (47, .ireturn, 1)]
set_option maxRecDepth 100000 in
theorem iX10_set_ok : iX10_set.all (fun q => decide (decode cX10_set q.1 = .ok (q.2.1, q.2.2))) = true := by decide +kernel
def iX10_clock : List (Nat × Instr × Nat) := [(0, .aload_n 0, 1), (1, .iconst 0, 1), (2, .putfield 112, 3), (5, .iload_n 1, 1), (6, .iconst 1, 1), (7, .bipush 64, 2), (9, .invokestatic 140, 3), (12, .ifCond .ne 5, 3), (15, .iconst (-1), 1), (16, .ireturn, 1), (17, .iconst 0, 1), (18, .istore_n 2, 1), (19, .iconst 0, 1), (20, .istore_n 3, 1), (21, .iload_n 3, 1), (22, .iload_n 1, 1), (23, .if_icmp .ge 98, 3), (26, .aload_n 0, 1), (27, .lconst 0, 1), (28, .invokevirtual 277, 3), (31, .iconst 0, 1), (32, .istore_n 2, 1), (33, .iconst 0, 1), (34, .istore 4, 2), (36, .iload 4, 2), (38, .aload_n 0, 1), (39, .getfield 119, 3), (42, .if_icmp .ge 73, 3), (45, .aload_n 0, 1), (46, .getfield 7, 3), (49, .iload 4, 2), (51, .iaload, 1), (52, .iconst 2, 1), (53, .if_icmp .ne 56, 3), (56, .iload_n 2, 1), (57, .aload_n 0, 1), (58, .getfield 27, 3), (61, .iload 4, 2), (63, .baload, 1), (64, .aload_n 0, 1), (65, .getfield 67, 3), (68, .aload_n 0, 1), (69, .getfield 16, 3), (72, .iconst 3, 1), (73, .iload 4, 2), (75, .imul, 1), (76, .iaload, 1), (77, .baload, 1), (78, .if_icmp .eq 7, 3), (81, .iconst 1, 1), (82, .goto 4, 3), (85, .iconst 0, 1), (86, .iadd, 1), (87, .istore_n 2, 1), (88, .aload_n 0, 1), (89, .getfield 27, 3), (92, .iload 4, 2), (94, .aload_n 0, 1), (95, .getfield 67, 3), (98, .aload_n 0, 1), (99, .getfield 16, 3), (102, .iconst 3, 1), (103, .iload 4, 2), (105, .imul, 1), (106, .iaload, 1), (107, .baload, 1), (108, .bastore, 1), (109, .iinc 4 1, 3), (112, .goto (-76), 3), (115, .iinc 3 1, 3), (118, .goto (-97), 3), (121, .iload_n 2, 1), (122, .ireturn, 1)]
set_option maxRecDepth 100000 in
theorem iX10_clock_ok : iX10_clock.all (fun q => decide (decode cX10_clock q.1 = .ok (q.2.1, q.2.2))) = true := by decide +kernel
def iX10_is : List (Nat × Instr × Nat) := [(0, .aload_n 0, 1), (1, .iconst 0, 1), (2, .putfield 112, 3), (5, .aload_n 0, 1), (6, .iload_n 1, 1), (7, .invokevirtual 122, 3), (10, .ifCond .ne 5, 3), (13, .iconst (-1), 1), (14, .ireturn, 1), (15, .aload_n 0, 1), (16, .lconst 0, 1), (17, .invokevirtual 277, 3), (20, .aload_n 0, 1), (21, .getfield 67, 3), (24, .iload_n 1, 1), (25, .baload, 1), (26, .ifCond .eq 7, 3), (29, .iconst 1, 1), (30, .goto 4, 3), (33, .iconst 0, 1), (34, .ireturn, 1)]
set_option maxRecDepth 100000 in
theorem iX10_is_ok : iX10_is.all (fun q => decide (decode cX10_is q.1 = .ok (q.2.1, q.2.2))) = true := by decide +kernel
def iX10_comes_ : List (Nat × Instr × Nat) := [(0, .aload_n 0, 1), (1, .iconst 0, 1), (2, .putfield 112, 3), (5, .aload_n 0, 1), (6, .iload_n 1, 1), (7, .invokevirtual 122, 3), (10, .ifCond .eq 10, 3), (13, .aload_n 0, 1), (14, .getfield 126, 3), (17, .ifCond .ne 5, 3), (20, .iconst (-1), 1), (21, .ireturn, 1), (22, .iconst 0, 1), (23, .istore_n 2, 1), (24, .iload_n 2, 1), (25, .iload_n 1, 1), (26, .if_icmp .gt 111, 3), (29, .iconst 0, 1), (30, .istore_n 3, 1), (31, .iconst 0, 1), (32, .istore 4, 2), (34, .iconst 0, 1), (35, .istore 5, 2), (37, .iload 5, 2), (39, .iload_n 2, 1), (40, .if_icmp .ge 57, 3), (43, .aload_n 0, 1), (44, .getfield 7, 3), (47, .iload_n 2, 1), (48, .iaload, 1), (49, .iconst 1, 1), (50, .if_icmp .ne 41, 3), (53, .aload_n 0, 1), (54, .getfield 58, 3), (57, .iload_n 2, 1), (58, .laload, 1), (59, .iload 5, 2), (61, .invokestatic 115, 3), (64, .ifCond .eq 27, 3), (67, .iload_n 3, 1), (68, .aload_n 0, 1), (69, .getfield 70, 3), (72, .iload 5, 2), (74, .baload, 1), (75, .ifCond .eq 10, 3), (78, .iconst 1, 1), (79, .iload 4, 2), (81, .ishl, 1), (82, .goto 4, 3), (85, .iconst 0, 1), (86, .ior, 1), (87, .istore_n 3, 1), (88, .iinc 4 1, 3), (91, .iinc 5 1, 3), (94, .goto (-57), 3), (97, .aload_n 0, 1), (98, .getfield 70, 3), (101, .iload_n 2, 1), (102, .aload_n 0, 1), (103, .getfield 7, 3), (106, .iload_n 2, 1), (107, .iaload, 1), (108, .iconst 1, 1), (109, .if_icmp .ne 15, 3), (112, .aload_n 0, 1), (113, .iload_n 2, 1), (114, .invokevirtual 280, 3), (117, .iload_n 3, 1), (118, .invokestatic 284, 3), (121, .goto 9, 3), (124, .aload_n 0, 1), (125, .getfield 27, 3), (128, .iload_n 2, 1), (129, .baload, 1), (130, .bastore, 1), (131, .iinc 2 1, 3), (134, .goto (-110), 3), (137, .aload_n 0, 1), (138, .getfield 70, 3), (141, .iload_n 1, 1), (142, .baload, 1), (143, .ifCond .eq 7, 3), (146, .iconst 1, 1), (147, .goto 4, 3), (150, .iconst 0, 1), (151, .ireturn, 1)]
set_option maxRecDepth 100000 in
theorem iX10_comes__ok : iX10_comes_.all (fun q => decide (decode cX10_comes_ q.1 = .ok (q.2.1, q.2.2))) = true := by decide +kernel
def iX10_differs : List (Nat × Instr × Nat) := [(0, .aload_n 0, 1), (1, .iconst 0, 1), (2, .putfield 112, 3), (5, .aload_n 0, 1), (6, .iload_n 1, 1), (7, .invokevirtual 122, 3), (10, .ifCond .eq 20, 3), (13, .aload_n 0, 1), (14, .iload_n 2, 1), (15, .invokevirtual 122, 3), (18, .ifCond .eq 12, 3), (21, .aload_n 0, 1), (22, .getfield 7, 3), (25, .iload_n 2, 1), (26, .iaload, 1), (27, .ifCond .eq 5, 3), (30, .iconst (-1), 1), (31, .ireturn, 1), (32, .aload_n 0, 1), (33, .lconst 0, 1), (34, .invokevirtual 277, 3), (37, .aload_n 0, 1), (38, .getfield 67, 3), (41, .iload_n 1, 1), (42, .baload, 1), (43, .istore_n 3, 1), (44, .aload_n 0, 1), (45, .getfield 27, 3), (48, .iload_n 2, 1), (49, .aload_n 0, 1), (50, .getfield 27, 3), (53, .iload_n 2, 1), (54, .baload, 1), (55, .ifCond .ne 7, 3), (58, .iconst 1, 1), (59, .goto 4, 3), (62, .iconst 0, 1), (63, .bastore, 1), (64, .aload_n 0, 1), (65, .lconst 0, 1), (66, .invokevirtual 277, 3), (69, .aload_n 0, 1), (70, .getfield 27, 3), (73, .iload_n 2, 1), (74, .aload_n 0, 1), (75, .getfield 27, 3), (78, .iload_n 2, 1), (79, .baload, 1), (80, .ifCond .ne 7, 3), (83, .iconst 1, 1), (84, .goto 4, 3), (87, .iconst 0, 1), (88, .bastore, 1), (89, .aload_n 0, 1), (90, .getfield 67, 3), (93, .iload_n 1, 1), (94, .baload, 1), (95, .iload_n 3, 1), (96, .if_icmp .eq 7, 3), (99, .iconst 1, 1), (100, .goto 4, 3), (103, .iconst 0, 1), (104, .ireturn, 1)]
set_option maxRecDepth 100000 in
theorem iX10_differs_ok : iX10_differs.all (fun q => decide (decode cX10_differs q.1 = .ok (q.2.1, q.2.2))) = true := by decide +kernel
def iX10_isPair : List (Nat × Instr × Nat) := [(0, .aload_n 0, 1), (1, .getfield 58, 3), (4, .iload_n 1, 1), (5, .laload, 1), (6, .iload_n 2, 1), (7, .invokestatic 115, 3), (10, .ifCond .ne 45, 3), (13, .aload_n 0, 1), (14, .getfield 58, 3), (17, .iload_n 2, 1), (18, .laload, 1), (19, .iload_n 1, 1), (20, .invokestatic 115, 3), (23, .ifCond .ne 32, 3), (26, .aload_n 0, 1), (27, .getfield 58, 3), (30, .iload_n 1, 1), (31, .laload, 1), (32, .aload_n 0, 1), (33, .getfield 58, 3), (36, .iload_n 2, 1), (37, .laload, 1), (38, .lor, 1), (39, .invokestatic 154, 3), (42, .aload_n 0, 1), (43, .getfield 23, 3), (46, .iconst 1, 1), (47, .isub, 1), (48, .if_icmp .gt 7, 3), (51, .iconst 1, 1), (52, .goto 4, 3), (55, .iconst 0, 1), (56, .ireturn, 1)]
set_option maxRecDepth 100000 in
theorem iX10_isPair_ok : iX10_isPair.all (fun q => decide (decode cX10_isPair q.1 = .ok (q.2.1, q.2.2))) = true := by decide +kernel
def iX10_laysPairs : List (Nat × Instr × Nat) := [(0, .aload_n 0, 1), (1, .iconst 0, 1), (2, .putfield 287, 3), (5, .iconst 0, 1), (6, .istore_n 1, 1), (7, .iload_n 1, 1), (8, .aload_n 0, 1), (9, .getfield 119, 3), (12, .if_icmp .ge 16, 3), (15, .aload_n 0, 1), (16, .getfield 73, 3), (19, .iload_n 1, 1), (20, .iconst (-1), 1), (21, .iastore, 1), (22, .iinc 1 1, 3), (25, .goto (-18), 3), (28, .iconst 0, 1), (29, .istore_n 1, 1), (30, .iload_n 1, 1), (31, .aload_n 0, 1), (32, .getfield 119, 3), (35, .if_icmp .ge 100, 3), (38, .iload_n 1, 1), (39, .iconst 1, 1), (40, .iadd, 1), (41, .istore_n 2, 1), (42, .iload_n 2, 1), (43, .aload_n 0, 1), (44, .getfield 119, 3), (47, .if_icmp .ge 82, 3), (50, .aload_n 0, 1), (51, .getfield 245, 3), (54, .iload_n 1, 1), (55, .invokestatic 115, 3), (58, .ifCond .eq 71, 3), (61, .aload_n 0, 1), (62, .getfield 73, 3), (65, .iload_n 1, 1), (66, .iaload, 1), (67, .ifCond .ge 62, 3), (70, .aload_n 0, 1), (71, .getfield 245, 3), (74, .iload_n 2, 1), (75, .invokestatic 115, 3), (78, .ifCond .eq 45, 3), (81, .aload_n 0, 1), (82, .getfield 73, 3), (85, .iload_n 2, 1), (86, .iaload, 1), (87, .ifCond .ge 36, 3), (90, .aload_n 0, 1), (91, .iload_n 1, 1), (92, .iload_n 2, 1), (93, .invokevirtual 290, 3), (96, .ifCond .eq 27, 3), (99, .aload_n 0, 1), (100, .getfield 73, 3), (103, .iload_n 1, 1), (104, .iload_n 2, 1), (105, .iastore, 1), (106, .aload_n 0, 1), (107, .getfield 73, 3), (110, .iload_n 2, 1), (111, .iload_n 1, 1), (112, .iastore, 1), (113, .aload_n 0, 1), (114, .dup, 1), (115, .getfield 287, 3), (118, .iconst 1, 1), (119, .iadd, 1), (120, .putfield 287, 3), (123, .iinc 2 1, 3), (126, .goto (-84), 3), (129, .iinc 1 1, 3), (132, .goto (-102), 3), (135, .return_, 1)]
set_option maxRecDepth 100000 in
theorem iX10_laysPairs_ok : iX10_laysPairs.all (fun q => decide (decode cX10_laysPairs q.1 = .ok (q.2.1, q.2.2))) = true := by decide +kernel
def iX10_usesOf : List (Nat × Instr × Nat) := [(0, .iconst 0, 1), (1, .istore_n 2, 1), (2, .iconst 0, 1), (3, .istore_n 3, 1), (4, .iload_n 3, 1), (5, .aload_n 0, 1), (6, .getfield 119, 3), (9, .if_icmp .ge 41, 3), (12, .iload_n 2, 1), (13, .aload_n 0, 1), (14, .getfield 245, 3), (17, .iload_n 3, 1), (18, .invokestatic 115, 3), (21, .ifCond .eq 20, 3), (24, .aload_n 0, 1), (25, .getfield 58, 3), (28, .iload_n 3, 1), (29, .laload, 1), (30, .iload_n 1, 1), (31, .invokestatic 115, 3), (34, .ifCond .eq 7, 3), (37, .iconst 1, 1), (38, .goto 4, 3), (41, .iconst 0, 1), (42, .iadd, 1), (43, .istore_n 2, 1), (44, .iinc 3 1, 3), (47, .goto (-43), 3), (50, .iload_n 2, 1), (51, .ireturn, 1)]
set_option maxRecDepth 100000 in
theorem iX10_usesOf_ok : iX10_usesOf.all (fun q => decide (decode cX10_usesOf q.1 = .ok (q.2.1, q.2.2))) = true := by decide +kernel
def iX10_isPacked : List (Nat × Instr × Nat) := [(0, .aload_n 0, 1), (1, .getfield 16, 3), (4, .iconst 3, 1), (5, .iload_n 1, 1), (6, .imul, 1), (7, .iaload, 1), (8, .istore_n 2, 1), (9, .iconst 0, 1), (10, .istore_n 3, 1), (11, .iconst 0, 1), (12, .istore 4, 2), (14, .iload 4, 2), (16, .aload_n 0, 1), (17, .getfield 119, 3), (20, .if_icmp .ge 41, 3), (23, .iload_n 3, 1), (24, .aload_n 0, 1), (25, .getfield 7, 3), (28, .iload 4, 2), (30, .iaload, 1), (31, .iconst 2, 1), (32, .if_icmp .ne 20, 3), (35, .aload_n 0, 1), (36, .getfield 16, 3), (39, .iconst 3, 1), (40, .iload 4, 2), (42, .imul, 1), (43, .iaload, 1), (44, .iload_n 2, 1), (45, .if_icmp .ne 7, 3), (48, .iconst 1, 1), (49, .goto 4, 3), (52, .iconst 0, 1), (53, .iadd, 1), (54, .istore_n 3, 1), (55, .iinc 4 1, 3), (58, .goto (-44), 3), (61, .aload_n 0, 1), (62, .getfield 245, 3), (65, .iload_n 2, 1), (66, .invokestatic 115, 3), (69, .ifCond .eq 31, 3), (72, .aload_n 0, 1), (73, .getfield 150, 3), (76, .iload_n 2, 1), (77, .invokestatic 115, 3), (80, .ifCond .ne 20, 3), (83, .iload_n 3, 1), (84, .iconst 1, 1), (85, .if_icmp .ne 15, 3), (88, .aload_n 0, 1), (89, .iload_n 2, 1), (90, .invokevirtual 293, 3), (93, .ifCond .ne 7, 3), (96, .iconst 1, 1), (97, .goto 4, 3), (100, .iconst 0, 1), (101, .ireturn, 1)]
set_option maxRecDepth 100000 in
theorem iX10_isPacked_ok : iX10_isPacked.all (fun q => decide (decode cX10_isPacked q.1 = .ok (q.2.1, q.2.2))) = true := by decide +kernel
def iX10_newCell : List (Nat × Instr × Nat) := [(0, .aload_n 0, 1), (1, .getfield 79, 3), (4, .aload_n 0, 1), (5, .getfield 296, 3), (8, .iload_n 1, 1), (9, .iastore, 1), (10, .aload_n 0, 1), (11, .getfield 82, 3), (14, .aload_n 0, 1), (15, .getfield 296, 3), (18, .iload_n 2, 1), (19, .iastore, 1), (20, .aload_n 0, 1), (21, .getfield 85, 3), (24, .aload_n 0, 1), (25, .getfield 296, 3), (28, .iload_n 3, 1), (29, .iastore, 1), (30, .aload_n 0, 1), (31, .getfield 88, 3), (34, .aload_n 0, 1), (35, .getfield 296, 3), (38, .iconst (-1), 1), (39, .iastore, 1), (40, .aload_n 0, 1), (41, .getfield 91, 3), (44, .aload_n 0, 1), (45, .getfield 296, 3), (48, .iload_n 1, 1), (49, .ifCond .lt 27, 3), (52, .aload_n 0, 1), (53, .getfield 58, 3), (56, .iload_n 1, 1), (57, .laload, 1), (58, .iload_n 2, 1), (59, .ifCond .lt 12, 3), (62, .aload_n 0, 1), (63, .getfield 58, 3), (66, .iload_n 2, 1), (67, .laload, 1), (68, .goto 4, 3), (71, .lconst 0, 1), (72, .lor, 1), (73, .goto 13, 3), (76, .lconst 1, 1), (77, .aload_n 0, 1), (78, .getfield 16, 3), (81, .iconst 3, 1), (82, .iload_n 3, 1), (83, .imul, 1), (84, .iaload, 1), (85, .lshl, 1), (86, .lastore, 1), (87, .aload_n 0, 1), (88, .getfield 94, 3), (91, .aload_n 0, 1), (92, .getfield 296, 3), (95, .iload_n 1, 1), (96, .ifCond .lt 9, 3), (99, .lconst 1, 1), (100, .iload_n 1, 1), (101, .lshl, 1), (102, .goto 4, 3), (105, .lconst 0, 1), (106, .iload_n 2, 1), (107, .ifCond .lt 9, 3), (110, .lconst 1, 1), (111, .iload_n 2, 1), (112, .lshl, 1), (113, .goto 4, 3), (116, .lconst 0, 1), (117, .lor, 1), (118, .iload_n 3, 1), (119, .ifCond .lt 9, 3), (122, .lconst 1, 1), (123, .iload_n 3, 1), (124, .lshl, 1), (125, .goto 4, 3), (128, .lconst 0, 1), (129, .lor, 1), (130, .lastore, 1), (131, .aload_n 0, 1), (132, .dup, 1), (133, .getfield 296, 3), (136, .iconst 1, 1), (137, .iadd, 1), (138, .putfield 296, 3), (141, .return_, 1)]
set_option maxRecDepth 100000 in
theorem iX10_newCell_ok : iX10_newCell.all (fun q => decide (decode cX10_newCell q.1 = .ok (q.2.1, q.2.2))) = true := by decide +kernel
def iX10_packs : List (Nat × Instr × Nat) := [(0, .aload_n 0, 1), (1, .getfield 76, 3), (4, .aload_n 0, 1), (5, .getfield 16, 3), (8, .iconst 3, 1), (9, .iload_n 1, 1), (10, .imul, 1), (11, .iaload, 1), (12, .iaload, 1), (13, .istore_n 2, 1), (14, .aload_n 0, 1), (15, .getfield 85, 3), (18, .iload_n 2, 1), (19, .iaload, 1), (20, .ifCond .ge 13, 3), (23, .aload_n 0, 1), (24, .getfield 85, 3), (27, .iload_n 2, 1), (28, .iload_n 1, 1), (29, .iastore, 1), (30, .goto 10, 3), (33, .aload_n 0, 1), (34, .getfield 88, 3), (37, .iload_n 2, 1), (38, .iload_n 1, 1), (39, .iastore, 1), (40, .aload_n 0, 1), (41, .getfield 94, 3), (44, .iload_n 2, 1), (45, .dup2, 1), (46, .laload, 1), (47, .lconst 1, 1), (48, .iload_n 1, 1), (49, .lshl, 1), (50, .lor, 1), (51, .lastore, 1), (52, .aload_n 0, 1), (53, .dup, 1), (54, .getfield 299, 3), (57, .iconst 1, 1), (58, .iadd, 1), (59, .putfield 299, 3), (62, .return_, 1)]
set_option maxRecDepth 100000 in
theorem iX10_packs_ok : iX10_packs.all (fun q => decide (decode cX10_packs q.1 = .ok (q.2.1, q.2.2))) = true := by decide +kernel
def iX10_laysCells : List (Nat × Instr × Nat) := [(0, .aload_n 0, 1), (1, .invokevirtual 257, 3), (4, .aload_n 0, 1), (5, .invokevirtual 302, 3), (8, .aload_n 0, 1), (9, .iconst 0, 1), (10, .putfield 296, 3), (13, .aload_n 0, 1), (14, .iconst 0, 1), (15, .putfield 299, 3), (18, .iconst 0, 1), (19, .istore_n 1, 1), (20, .iload_n 1, 1), (21, .aload_n 0, 1), (22, .getfield 119, 3), (25, .if_icmp .ge 96, 3), (28, .aload_n 0, 1), (29, .getfield 76, 3), (32, .iload_n 1, 1), (33, .iconst (-1), 1), (34, .iastore, 1), (35, .aload_n 0, 1), (36, .getfield 245, 3), (39, .iload_n 1, 1), (40, .invokestatic 115, 3), (43, .ifCond .eq 72, 3), (46, .aload_n 0, 1), (47, .getfield 73, 3), (50, .iload_n 1, 1), (51, .iaload, 1), (52, .ifCond .lt 13, 3), (55, .aload_n 0, 1), (56, .getfield 73, 3), (59, .iload_n 1, 1), (60, .iaload, 1), (61, .iload_n 1, 1), (62, .if_icmp .le 7, 3), (65, .iconst 1, 1), (66, .goto 4, 3), (69, .iconst 0, 1), (70, .istore_n 2, 1), (71, .aload_n 0, 1), (72, .getfield 76, 3), (75, .iload_n 1, 1), (76, .iload_n 2, 1), (77, .ifCond .eq 10, 3), (80, .aload_n 0, 1), (81, .getfield 296, 3), (84, .goto 14, 3), (87, .aload_n 0, 1), (88, .getfield 76, 3), (91, .aload_n 0, 1), (92, .getfield 73, 3), (95, .iload_n 1, 1), (96, .iaload, 1), (97, .iaload, 1), (98, .iastore, 1), (99, .iload_n 2, 1), (100, .ifCond .eq 15, 3), (103, .aload_n 0, 1), (104, .iload_n 1, 1), (105, .aload_n 0, 1), (106, .getfield 73, 3), (109, .iload_n 1, 1), (110, .iaload, 1), (111, .iconst (-1), 1), (112, .invokevirtual 305, 3), (115, .iinc 1 1, 3), (118, .goto (-98), 3), (121, .iconst 0, 1), (122, .istore_n 1, 1), (123, .iload_n 1, 1), (124, .aload_n 0, 1), (125, .getfield 119, 3), (128, .if_icmp .ge 42, 3), (131, .aload_n 0, 1), (132, .getfield 7, 3), (135, .iload_n 1, 1), (136, .iaload, 1), (137, .iconst 2, 1), (138, .if_icmp .ne 26, 3), (141, .aload_n 0, 1), (142, .iload_n 1, 1), (143, .invokevirtual 309, 3), (146, .ifCond .eq 11, 3), (149, .aload_n 0, 1), (150, .iload_n 1, 1), (151, .invokevirtual 312, 3), (154, .goto 10, 3), (157, .aload_n 0, 1), (158, .iconst (-1), 1), (159, .iconst (-1), 1), (160, .iload_n 1, 1), (161, .invokevirtual 305, 3), (164, .iinc 1 1, 3), (167, .goto (-44), 3), (170, .return_, 1)]
set_option maxRecDepth 100000 in
theorem iX10_laysCells_ok : iX10_laysCells.all (fun q => decide (decode cX10_laysCells q.1 = .ok (q.2.1, q.2.2))) = true := by decide +kernel
def iX10_mostPairs : List (Nat × Instr × Nat) := [(0, .aload_n 0, 1), (1, .getfield 245, 3), (4, .invokestatic 154, 3), (7, .istore_n 1, 1), (8, .iload_n 1, 1), (9, .bipush 14, 2), (11, .if_icmp .le 5, 3), (14, .iconst (-1), 1), (15, .ireturn, 1), (16, .iconst 0, 1), (17, .istore_n 2, 1), (18, .iconst 0, 1), (19, .istore_n 3, 1), (20, .iload_n 3, 1), (21, .aload_n 0, 1), (22, .getfield 119, 3), (25, .if_icmp .ge 30, 3), (28, .aload_n 0, 1), (29, .getfield 245, 3), (32, .iload_n 3, 1), (33, .invokestatic 115, 3), (36, .ifCond .eq 13, 3), (39, .aload_n 0, 1), (40, .getfield 100, 3), (43, .iload_n 2, 1), (44, .iload_n 3, 1), (45, .iastore, 1), (46, .iinc 2 1, 3), (49, .iinc 3 1, 3), (52, .goto (-32), 3), (55, .aload_n 0, 1), (56, .getfield 97, 3), (59, .iconst 0, 1), (60, .iconst 0, 1), (61, .iastore, 1), (62, .iconst 1, 1), (63, .istore_n 3, 1), (64, .iload_n 3, 1), (65, .iconst 1, 1), (66, .iload_n 1, 1), (67, .ishl, 1), (68, .if_icmp .ge 147, 3), (71, .iload_n 3, 1), (72, .i2l, 1), (73, .invokestatic 194, 3), (76, .istore 4, 2), (78, .iload_n 3, 1), (79, .iconst 1, 1), (80, .iload 4, 2), (82, .ishl, 1), (83, .isub, 1), (84, .istore 5, 2), (86, .aload_n 0, 1), (87, .getfield 97, 3), (90, .iload_n 3, 1), (91, .aload_n 0, 1), (92, .getfield 97, 3), (95, .iload 5, 2), (97, .iaload, 1), (98, .iastore, 1), (99, .iload 4, 2), (101, .iconst 1, 1), (102, .iadd, 1), (103, .istore 6, 2), (105, .iload 6, 2), (107, .iload_n 1, 1), (108, .if_icmp .ge 101, 3), (111, .iload 5, 2), (113, .i2l, 1), (114, .iload 6, 2), (116, .invokestatic 115, 3), (119, .ifCond .eq 28, 3), (122, .aload_n 0, 1), (123, .aload_n 0, 1), (124, .getfield 100, 3), (127, .iload 4, 2), (129, .iaload, 1), (130, .aload_n 0, 1), (131, .getfield 100, 3), (134, .iload 6, 2), (136, .iaload, 1), (137, .invokevirtual 290, 3), (140, .ifCond .eq 7, 3), (143, .iconst 1, 1), (144, .goto 4, 3), (147, .iconst 0, 1), (148, .istore 7, 2), (150, .iload 7, 2), (152, .ifCond .eq 20, 3), (155, .aload_n 0, 1), (156, .getfield 97, 3), (159, .iload 5, 2), (161, .iconst 1, 1), (162, .iload 6, 2), (164, .ishl, 1), (165, .isub, 1), (166, .iaload, 1), (167, .iconst 1, 1), (168, .iadd, 1), (169, .goto 4, 3), (172, .iconst 0, 1), (173, .istore 8, 2), (175, .aload_n 0, 1), (176, .getfield 97, 3), (179, .iload_n 3, 1), (180, .iload 8, 2), (182, .aload_n 0, 1), (183, .getfield 97, 3), (186, .iload_n 3, 1), (187, .iaload, 1), (188, .if_icmp .le 8, 3), (191, .iload 8, 2), (193, .goto 9, 3), (196, .aload_n 0, 1), (197, .getfield 97, 3), (200, .iload_n 3, 1), (201, .iaload, 1), (202, .iastore, 1), (203, .iinc 6 1, 3), (206, .goto (-101), 3), (209, .iinc 3 1, 3), (212, .goto (-148), 3), (215, .aload_n 0, 1), (216, .getfield 97, 3), (219, .iconst 1, 1), (220, .iload_n 1, 1), (221, .ishl, 1), (222, .iconst 1, 1), (223, .isub, 1), (224, .iaload, 1), (225, .ireturn, 1)]
set_option maxRecDepth 100000 in
theorem iX10_mostPairs_ok : iX10_mostPairs.all (fun q => decide (decode cX10_mostPairs q.1 = .ok (q.2.1, q.2.2))) = true := by decide +kernel
def iX10_table : List (Nat × Instr × Nat) := [(0, .aload_n 0, 1), (1, .iconst 0, 1), (2, .putfield 112, 3), (5, .aload_n 0, 1), (6, .iload_n 1, 1), (7, .invokevirtual 231, 3), (10, .ifCond .eq 10, 3), (13, .aload_n 0, 1), (14, .getfield 126, 3), (17, .ifCond .ne 5, 3), (20, .iconst (-1), 1), (21, .ireturn, 1), (22, .aload_n 0, 1), (23, .invokevirtual 315, 3), (26, .iload_n 2, 1), (27, .tableswitch 87 0 5 #[37, 54, 61, 67, 74, 81], 37), (64, .aload_n 0, 1), (65, .getfield 245, 3), (68, .iload_n 1, 1), (69, .invokestatic 115, 3), (72, .ifCond .eq 7, 3), (75, .iconst 1, 1), (76, .goto 4, 3), (79, .iconst 0, 1), (80, .ireturn, 1), (81, .aload_n 0, 1), (82, .getfield 61, 3), (85, .iload_n 1, 1), (86, .iaload, 1), (87, .ireturn, 1), (88, .aload_n 0, 1), (89, .iload_n 1, 1), (90, .invokevirtual 293, 3), (93, .ireturn, 1), (94, .aload_n 0, 1), (95, .getfield 73, 3), (98, .iload_n 1, 1), (99, .iaload, 1), (100, .ireturn, 1), (101, .aload_n 0, 1), (102, .getfield 76, 3), (105, .iload_n 1, 1), (106, .iaload, 1), (107, .ireturn, 1), (108, .aload_n 0, 1), (109, .iload_n 1, 1), (110, .invokevirtual 318, 3), (113, .ireturn, 1), (114, .iconst (-1), 1), (115, .ireturn, 1)]
set_option maxRecDepth 100000 in
theorem iX10_table_ok : iX10_table.all (fun q => decide (decode cX10_table q.1 = .ok (q.2.1, q.2.2))) = true := by decide +kernel
def iX10_slowest : List (Nat × Instr × Nat) := [(0, .iconst 0, 1), (1, .istore_n 1, 1), (2, .iconst 0, 1), (3, .istore_n 2, 1), (4, .iload_n 2, 1), (5, .aload_n 0, 1), (6, .getfield 119, 3), (9, .if_icmp .ge 41, 3), (12, .aload_n 0, 1), (13, .invokevirtual 225, 3), (16, .iload_n 2, 1), (17, .invokestatic 115, 3), (20, .ifCond .eq 22, 3), (23, .aload_n 0, 1), (24, .getfield 61, 3), (27, .iload_n 2, 1), (28, .iaload, 1), (29, .iload_n 1, 1), (30, .if_icmp .le 12, 3), (33, .aload_n 0, 1), (34, .getfield 61, 3), (37, .iload_n 2, 1), (38, .iaload, 1), (39, .goto 4, 3), (42, .iload_n 1, 1), (43, .istore_n 1, 1), (44, .iinc 2 1, 3), (47, .goto (-43), 3), (50, .iload_n 1, 1), (51, .ireturn, 1)]
set_option maxRecDepth 100000 in
theorem iX10_slowest_ok : iX10_slowest.all (fun q => decide (decode cX10_slowest q.1 = .ok (q.2.1, q.2.2))) = true := by decide +kernel
def iX10_mapped : List (Nat × Instr × Nat) := [(0, .aload_n 0, 1), (1, .iconst 0, 1), (2, .putfield 112, 3), (5, .aload_n 0, 1), (6, .getfield 126, 3), (9, .ifCond .ne 5, 3), (12, .iconst (-1), 1), (13, .ireturn, 1), (14, .aload_n 0, 1), (15, .invokevirtual 315, 3), (18, .iload_n 1, 1), (19, .tableswitch 70 0 5 #[37, 45, 50, 55, 60, 65], 37), (56, .aload_n 0, 1), (57, .getfield 245, 3), (60, .invokestatic 154, 3), (63, .ireturn, 1), (64, .aload_n 0, 1), (65, .invokevirtual 321, 3), (68, .ireturn, 1), (69, .aload_n 0, 1), (70, .getfield 287, 3), (73, .ireturn, 1), (74, .aload_n 0, 1), (75, .invokevirtual 324, 3), (78, .ireturn, 1), (79, .aload_n 0, 1), (80, .getfield 296, 3), (83, .ireturn, 1), (84, .aload_n 0, 1), (85, .getfield 299, 3), (88, .ireturn, 1), (89, .iconst (-1), 1), (90, .ireturn, 1)]
set_option maxRecDepth 100000 in
theorem iX10_mapped_ok : iX10_mapped.all (fun q => decide (decode cX10_mapped q.1 = .ok (q.2.1, q.2.2))) = true := by decide +kernel
def iX10_cell : List (Nat × Instr × Nat) := [(0, .aload_n 0, 1), (1, .iconst 0, 1), (2, .putfield 112, 3), (5, .aload_n 0, 1), (6, .getfield 126, 3), (9, .ifCond .eq 12, 3), (12, .iload_n 2, 1), (13, .iconst 0, 1), (14, .iconst 4, 1), (15, .invokestatic 140, 3), (18, .ifCond .ne 6, 3), (21, .bipush (-2), 2), (23, .ireturn, 1), (24, .aload_n 0, 1), (25, .invokevirtual 315, 3), (28, .iload_n 1, 1), (29, .ifCond .lt 11, 3), (32, .iload_n 1, 1), (33, .aload_n 0, 1), (34, .getfield 296, 3), (37, .if_icmp .lt 6, 3), (40, .bipush (-2), 2), (42, .ireturn, 1), (43, .iload_n 2, 1), (44, .ifCond .ne 12, 3), (47, .aload_n 0, 1), (48, .getfield 79, 3), (51, .iload_n 1, 1), (52, .iaload, 1), (53, .goto 54, 3), (56, .iload_n 2, 1), (57, .iconst 1, 1), (58, .if_icmp .ne 12, 3), (61, .aload_n 0, 1), (62, .getfield 82, 3), (65, .iload_n 1, 1), (66, .iaload, 1), (67, .goto 40, 3), (70, .iload_n 2, 1), (71, .iconst 2, 1), (72, .if_icmp .ne 12, 3), (75, .aload_n 0, 1), (76, .getfield 85, 3), (79, .iload_n 1, 1), (80, .iaload, 1), (81, .goto 26, 3), (84, .iload_n 2, 1), (85, .iconst 3, 1), (86, .if_icmp .ne 12, 3), (89, .aload_n 0, 1), (90, .getfield 88, 3), (93, .iload_n 1, 1), (94, .iaload, 1), (95, .goto 12, 3), (98, .aload_n 0, 1), (99, .getfield 91, 3), (102, .iload_n 1, 1), (103, .laload, 1), (104, .invokestatic 154, 3), (107, .ireturn, 1)]
set_option maxRecDepth 100000 in
theorem iX10_cell_ok : iX10_cell.all (fun q => decide (decode cX10_cell q.1 = .ok (q.2.1, q.2.2))) = true := by decide +kernel
def iX10_beginning : List (Nat × Instr × Nat) := [(0, .iconst (-1), 1), (1, .istore_n 1, 1), (2, .iconst 0, 1), (3, .istore_n 2, 1), (4, .iload_n 2, 1), (5, .aload_n 0, 1), (6, .getfield 296, 3), (9, .if_icmp .ge 49, 3), (12, .aload_n 0, 1), (13, .getfield 103, 3), (16, .iload_n 2, 1), (17, .iaload, 1), (18, .ifCond .ge 32, 3), (21, .iload_n 1, 1), (22, .ifCond .lt 24, 3), (25, .aload_n 0, 1), (26, .getfield 91, 3), (29, .iload_n 2, 1), (30, .laload, 1), (31, .invokestatic 154, 3), (34, .aload_n 0, 1), (35, .getfield 91, 3), (38, .iload_n 1, 1), (39, .laload, 1), (40, .invokestatic 154, 3), (43, .if_icmp .le 7, 3), (46, .iload_n 2, 1), (47, .goto 4, 3), (50, .iload_n 1, 1), (51, .istore_n 1, 1), (52, .iinc 2 1, 3), (55, .goto (-51), 3), (58, .iload_n 1, 1), (59, .ireturn, 1)]
set_option maxRecDepth 100000 in
theorem iX10_beginning_ok : iX10_beginning.all (fun q => decide (decode cX10_beginning q.1 = .ok (q.2.1, q.2.2))) = true := by decide +kernel
def iX10_nextTo : List (Nat × Instr × Nat) := [(0, .iconst (-1), 1), (1, .istore_n 2, 1), (2, .iconst 0, 1), (3, .istore_n 3, 1), (4, .aload_n 0, 1), (5, .getfield 327, 3), (8, .iconst 1, 1), (9, .isub, 1), (10, .istore 4, 2), (12, .iconst 0, 1), (13, .istore 5, 2), (15, .iload 5, 2), (17, .aload_n 0, 1), (18, .getfield 296, 3), (21, .if_icmp .ge 125, 3), (24, .aload_n 0, 1), (25, .getfield 103, 3), (28, .iload 5, 2), (30, .iaload, 1), (31, .ifCond .ge 49, 3), (34, .aload_n 0, 1), (35, .getfield 106, 3), (38, .iload 4, 2), (40, .laload, 1), (41, .aload_n 0, 1), (42, .getfield 91, 3), (45, .iload 5, 2), (47, .laload, 1), (48, .lor, 1), (49, .aload_n 0, 1), (50, .getfield 109, 3), (53, .iload 4, 2), (55, .laload, 1), (56, .aload_n 0, 1), (57, .getfield 94, 3), (60, .iload 5, 2), (62, .laload, 1), (63, .lor, 1), (64, .ldc2_w 208, 3), (67, .lxor, 1), (68, .land, 1), (69, .invokestatic 154, 3), (72, .iload_n 1, 1), (73, .if_icmp .gt 7, 3), (76, .iconst 1, 1), (77, .goto 4, 3), (80, .iconst 0, 1), (81, .istore 6, 2), (83, .aload_n 0, 1), (84, .getfield 91, 3), (87, .iload 5, 2), (89, .laload, 1), (90, .aload_n 0, 1), (91, .getfield 94, 3), (94, .iload 5, 2), (96, .laload, 1), (97, .lor, 1), (98, .aload_n 0, 1), (99, .getfield 106, 3), (102, .iload 4, 2), (104, .laload, 1), (105, .aload_n 0, 1), (106, .getfield 109, 3), (109, .iload 4, 2), (111, .laload, 1), (112, .lor, 1), (113, .land, 1), (114, .invokestatic 154, 3), (117, .istore 7, 2), (119, .iload 6, 2), (121, .ifCond .eq 19, 3), (124, .iload_n 2, 1), (125, .ifCond .lt 9, 3), (128, .iload 7, 2), (130, .iload_n 3, 1), (131, .if_icmp .le 9, 3), (134, .iload 5, 2), (136, .istore_n 2, 1), (137, .iload 7, 2), (139, .istore_n 3, 1), (140, .iinc 5 1, 3), (143, .goto (-128), 3), (146, .iload_n 2, 1), (147, .ireturn, 1)]
set_option maxRecDepth 100000 in
theorem iX10_nextTo_ok : iX10_nextTo.all (fun q => decide (decode cX10_nextTo q.1 = .ok (q.2.1, q.2.2))) = true := by decide +kernel
def iX10_joins : List (Nat × Instr × Nat) := [(0, .aload_n 0, 1), (1, .getfield 327, 3), (4, .iconst 1, 1), (5, .isub, 1), (6, .istore_n 2, 1), (7, .aload_n 0, 1), (8, .getfield 103, 3), (11, .iload_n 1, 1), (12, .iload_n 2, 1), (13, .iastore, 1), (14, .aload_n 0, 1), (15, .getfield 106, 3), (18, .iload_n 2, 1), (19, .dup2, 1), (20, .laload, 1), (21, .aload_n 0, 1), (22, .getfield 91, 3), (25, .iload_n 1, 1), (26, .laload, 1), (27, .lor, 1), (28, .lastore, 1), (29, .aload_n 0, 1), (30, .getfield 109, 3), (33, .iload_n 2, 1), (34, .dup2, 1), (35, .laload, 1), (36, .aload_n 0, 1), (37, .getfield 94, 3), (40, .iload_n 1, 1), (41, .laload, 1), (42, .lor, 1), (43, .lastore, 1), (44, .return_, 1)]
set_option maxRecDepth 100000 in
theorem iX10_joins_ok : iX10_joins.all (fun q => decide (decode cX10_joins q.1 = .ok (q.2.1, q.2.2))) = true := by decide +kernel
def iX10_laysClusters : List (Nat × Instr × Nat) := [(0, .aload_n 0, 1), (1, .getfield 126, 3), (4, .ifCond .eq 24, 3), (7, .iload_n 1, 1), (8, .iconst 1, 1), (9, .bipush 8, 2), (11, .invokestatic 140, 3), (14, .ifCond .eq 14, 3), (17, .iload_n 2, 1), (18, .bipush 6, 2), (20, .bipush 16, 2), (22, .invokestatic 140, 3), (25, .ifCond .ne 5, 3), (28, .iconst 0, 1), (29, .ireturn, 1), (30, .aload_n 0, 1), (31, .invokevirtual 315, 3), (34, .aload_n 0, 1), (35, .iconst 0, 1), (36, .putfield 327, 3), (39, .iconst 0, 1), (40, .istore_n 3, 1), (41, .iload_n 3, 1), (42, .aload_n 0, 1), (43, .getfield 296, 3), (46, .if_icmp .ge 16, 3), (49, .aload_n 0, 1), (50, .getfield 103, 3), (53, .iload_n 3, 1), (54, .iconst (-1), 1), (55, .iastore, 1), (56, .iinc 3 1, 3), (59, .goto (-18), 3), (62, .aload_n 0, 1), (63, .invokevirtual 330, 3), (66, .istore_n 3, 1), (67, .iload_n 3, 1), (68, .ifCond .lt 75, 3), (71, .aload_n 0, 1), (72, .getfield 106, 3), (75, .aload_n 0, 1), (76, .getfield 327, 3), (79, .lconst 0, 1), (80, .lastore, 1), (81, .aload_n 0, 1), (82, .getfield 109, 3), (85, .aload_n 0, 1), (86, .getfield 327, 3), (89, .lconst 0, 1), (90, .lastore, 1), (91, .aload_n 0, 1), (92, .dup, 1), (93, .getfield 327, 3), (96, .iconst 1, 1), (97, .iadd, 1), (98, .putfield 327, 3), (101, .iconst 0, 1), (102, .istore 4, 2), (104, .iload_n 3, 1), (105, .ifCond .lt 30, 3), (108, .aload_n 0, 1), (109, .iload_n 3, 1), (110, .invokevirtual 333, 3), (113, .iinc 4 1, 3), (116, .iload 4, 2), (118, .iload_n 1, 1), (119, .if_icmp .ge 11, 3), (122, .aload_n 0, 1), (123, .iload_n 2, 1), (124, .invokevirtual 336, 3), (127, .goto 4, 3), (130, .iconst (-1), 1), (131, .istore_n 3, 1), (132, .goto (-28), 3), (135, .aload_n 0, 1), (136, .invokevirtual 330, 3), (139, .istore_n 3, 1), (140, .goto (-73), 3), (143, .iconst 1, 1), (144, .ireturn, 1)]
set_option maxRecDepth 100000 in
theorem iX10_laysClusters_ok : iX10_laysClusters.all (fun q => decide (decode cX10_laysClusters q.1 = .ok (q.2.1, q.2.2))) = true := by decide +kernel
def iX10_clusters : List (Nat × Instr × Nat) := [(0, .aload_n 0, 1), (1, .iconst 0, 1), (2, .putfield 112, 3), (5, .aload_n 0, 1), (6, .iload_n 1, 1), (7, .iload_n 2, 1), (8, .invokevirtual 339, 3), (11, .ifCond .eq 10, 3), (14, .aload_n 0, 1), (15, .getfield 327, 3), (18, .goto 4, 3), (21, .iconst (-1), 1), (22, .ireturn, 1)]
set_option maxRecDepth 100000 in
theorem iX10_clusters_ok : iX10_clusters.all (fun q => decide (decode cX10_clusters q.1 = .ok (q.2.1, q.2.2))) = true := by decide +kernel
def iX10_cluster : List (Nat × Instr × Nat) := [(0, .aload_n 0, 1), (1, .iconst 0, 1), (2, .putfield 112, 3), (5, .aload_n 0, 1), (6, .iload_n 1, 1), (7, .iload_n 2, 1), (8, .invokevirtual 339, 3), (11, .ifCond .eq 24, 3), (14, .iload_n 3, 1), (15, .ifCond .lt 20, 3), (18, .iload_n 3, 1), (19, .aload_n 0, 1), (20, .getfield 296, 3), (23, .if_icmp .ge 12, 3), (26, .aload_n 0, 1), (27, .getfield 103, 3), (30, .iload_n 3, 1), (31, .iaload, 1), (32, .goto 4, 3), (35, .iconst (-1), 1), (36, .ireturn, 1)]
set_option maxRecDepth 100000 in
theorem iX10_cluster_ok : iX10_cluster.all (fun q => decide (decode cX10_cluster q.1 = .ok (q.2.1, q.2.2))) = true := by decide +kernel
def iX10_cross : List (Nat × Instr × Nat) := [(0, .aload_n 0, 1), (1, .iconst 0, 1), (2, .putfield 112, 3), (5, .aload_n 0, 1), (6, .iload_n 1, 1), (7, .iload_n 2, 1), (8, .invokevirtual 339, 3), (11, .ifCond .ne 5, 3), (14, .iconst (-1), 1), (15, .ireturn, 1), (16, .lconst 0, 1), (17, .lstore_n 3, 1), (18, .iconst 0, 1), (19, .istore 5, 2), (21, .iload 5, 2), (23, .aload_n 0, 1), (24, .getfield 327, 3), (27, .if_icmp .ge 56, 3), (30, .iconst 0, 1), (31, .istore 6, 2), (33, .iload 6, 2), (35, .aload_n 0, 1), (36, .getfield 327, 3), (39, .if_icmp .ge 38, 3), (42, .lload_n 3, 1), (43, .iload 5, 2), (45, .iload 6, 2), (47, .if_icmp .eq 21, 3), (50, .aload_n 0, 1), (51, .getfield 109, 3), (54, .iload 5, 2), (56, .laload, 1), (57, .aload_n 0, 1), (58, .getfield 106, 3), (61, .iload 6, 2), (63, .laload, 1), (64, .land, 1), (65, .goto 4, 3), (68, .lconst 0, 1), (69, .lor, 1), (70, .lstore_n 3, 1), (71, .iinc 6 1, 3), (74, .goto (-41), 3), (77, .iinc 5 1, 3), (80, .goto (-59), 3), (83, .lload_n 3, 1), (84, .invokestatic 154, 3), (87, .ireturn, 1)]
set_option maxRecDepth 100000 in
theorem iX10_cross_ok : iX10_cross.all (fun q => decide (decode cX10_cross q.1 = .ok (q.2.1, q.2.2))) = true := by decide +kernel
def iX10_slow : List (Nat × Instr × Nat) := [(0, .aload_n 0, 1), (1, .iconst 0, 1), (2, .putfield 112, 3), (5, .aload_n 0, 1), (6, .getfield 126, 3), (9, .ifCond .eq 7, 3), (12, .iload_n 1, 1), (13, .ifCond .ge 5, 3), (16, .iconst (-1), 1), (17, .ireturn, 1), (18, .aload_n 0, 1), (19, .invokevirtual 257, 3), (22, .iconst (-1), 1), (23, .istore_n 2, 1), (24, .iconst 0, 1), (25, .istore_n 3, 1), (26, .iload_n 3, 1), (27, .aload_n 0, 1), (28, .getfield 119, 3), (31, .if_icmp .ge 57, 3), (34, .aload_n 0, 1), (35, .invokevirtual 225, 3), (38, .iload_n 3, 1), (39, .invokestatic 115, 3), (42, .ifCond .eq 26, 3), (45, .iload_n 2, 1), (46, .ifCond .lt 18, 3), (49, .aload_n 0, 1), (50, .getfield 61, 3), (53, .iload_n 3, 1), (54, .iaload, 1), (55, .aload_n 0, 1), (56, .getfield 61, 3), (59, .iload_n 2, 1), (60, .iaload, 1), (61, .if_icmp .le 7, 3), (64, .iconst 1, 1), (65, .goto 4, 3), (68, .iconst 0, 1), (69, .istore 4, 2), (71, .iload 4, 2), (73, .ifCond .eq 7, 3), (76, .iload_n 3, 1), (77, .goto 4, 3), (80, .iload_n 2, 1), (81, .istore_n 2, 1), (82, .iinc 3 1, 3), (85, .goto (-59), 3), (88, .iconst 0, 1), (89, .istore_n 3, 1), (90, .iload_n 3, 1), (91, .iload_n 1, 1), (92, .if_icmp .ge 104, 3), (95, .iload_n 2, 1), (96, .ifCond .lt 100, 3), (99, .iconst (-1), 1), (100, .istore 4, 2), (102, .iconst 0, 1), (103, .istore 5, 2), (105, .iload 5, 2), (107, .aload_n 0, 1), (108, .getfield 119, 3), (111, .if_icmp .ge 76, 3), (114, .aload_n 0, 1), (115, .getfield 7, 3), (118, .iload_n 2, 1), (119, .iaload, 1), (120, .iconst 1, 1), (121, .if_icmp .ne 66, 3), (124, .aload_n 0, 1), (125, .getfield 58, 3), (128, .iload_n 2, 1), (129, .laload, 1), (130, .iload 5, 2), (132, .invokestatic 115, 3), (135, .ifCond .eq 29, 3), (138, .iload 4, 2), (140, .ifCond .lt 20, 3), (143, .aload_n 0, 1), (144, .getfield 61, 3), (147, .iload 5, 2), (149, .iaload, 1), (150, .aload_n 0, 1), (151, .getfield 61, 3), (154, .iload 4, 2), (156, .iaload, 1), (157, .if_icmp .le 7, 3), (160, .iconst 1, 1), (161, .goto 4, 3), (164, .iconst 0, 1), (165, .istore 6, 2), (167, .iload 6, 2), (169, .ifCond .eq 8, 3), (172, .iload 5, 2), (174, .goto 5, 3), (177, .iload 4, 2), (179, .istore 4, 2), (181, .iinc 5 1, 3), (184, .goto (-79), 3), (187, .iload 4, 2), (189, .istore_n 2, 1), (190, .iinc 3 1, 3), (193, .goto (-103), 3), (196, .iload_n 2, 1), (197, .ireturn, 1)]
set_option maxRecDepth 100000 in
theorem iX10_slow_ok : iX10_slow.all (fun q => decide (decode cX10_slow q.1 = .ok (q.2.1, q.2.2))) = true := by decide +kernel
def iX10_count : List (Nat × Instr × Nat) := [(0, .aload_n 0, 1), (1, .iconst 0, 1), (2, .putfield 112, 3), (5, .iconst 0, 1), (6, .istore_n 2, 1), (7, .iload_n 1, 1), (8, .tableswitch 125 0 7 #[48, 53, 53, 53, 91, 99, 104, 117], 48), (56, .aload_n 0, 1), (57, .getfield 119, 3), (60, .ireturn, 1), (61, .iconst 0, 1), (62, .istore_n 3, 1), (63, .iload_n 3, 1), (64, .aload_n 0, 1), (65, .getfield 119, 3), (68, .if_icmp .ge 29, 3), (71, .iload_n 2, 1), (72, .aload_n 0, 1), (73, .getfield 7, 3), (76, .iload_n 3, 1), (77, .iaload, 1), (78, .iload_n 1, 1), (79, .iconst 1, 1), (80, .isub, 1), (81, .if_icmp .ne 7, 3), (84, .iconst 1, 1), (85, .goto 4, 3), (88, .iconst 0, 1), (89, .iadd, 1), (90, .istore_n 2, 1), (91, .iinc 3 1, 3), (94, .goto (-31), 3), (97, .iload_n 2, 1), (98, .ireturn, 1), (99, .aload_n 0, 1), (100, .getfield 150, 3), (103, .invokestatic 154, 3), (106, .ireturn, 1), (107, .aload_n 0, 1), (108, .getfield 23, 3), (111, .ireturn, 1), (112, .aload_n 0, 1), (113, .getfield 126, 3), (116, .ifCond .eq 7, 3), (119, .iconst 1, 1), (120, .goto 4, 3), (123, .iconst 0, 1), (124, .ireturn, 1), (125, .aload_n 0, 1), (126, .invokevirtual 225, 3), (129, .invokestatic 154, 3), (132, .ireturn, 1), (133, .iconst (-1), 1), (134, .ireturn, 1)]
set_option maxRecDepth 100000 in
theorem iX10_count_ok : iX10_count.all (fun q => decide (decode cX10_count q.1 = .ok (q.2.1, q.2.2))) = true := by decide +kernel
def iJ13_bitCount_95d88 : List (Nat × Instr × Nat) := [(0, .lload_n 0, 1), (1, .lload_n 0, 1), (2, .iconst 1, 1), (3, .lushr, 1), (4, .ldc2_w 314, 3), (7, .land, 1), (8, .lsub, 1), (9, .lstore_n 0, 1), (10, .lload_n 0, 1), (11, .ldc2_w 316, 3), (14, .land, 1), (15, .lload_n 0, 1), (16, .iconst 2, 1), (17, .lushr, 1), (18, .ldc2_w 316, 3), (21, .land, 1), (22, .ladd, 1), (23, .lstore_n 0, 1), (24, .lload_n 0, 1), (25, .lload_n 0, 1), (26, .iconst 4, 1), (27, .lushr, 1), (28, .ladd, 1), (29, .ldc2_w 318, 3), (32, .land, 1), (33, .lstore_n 0, 1), (34, .lload_n 0, 1), (35, .lload_n 0, 1), (36, .bipush 8, 2), (38, .lushr, 1), (39, .ladd, 1), (40, .lstore_n 0, 1), (41, .lload_n 0, 1), (42, .lload_n 0, 1), (43, .bipush 16, 2), (45, .lushr, 1), (46, .ladd, 1), (47, .lstore_n 0, 1), (48, .lload_n 0, 1), (49, .lload_n 0, 1), (50, .bipush 32, 2), (52, .lushr, 1), (53, .ladd, 1), (54, .lstore_n 0, 1), (55, .lload_n 0, 1), (56, .l2i, 1), (57, .bipush 127, 2), (59, .iand, 1), (60, .ireturn, 1)]
set_option maxRecDepth 100000 in
theorem iJ13_bitCount_95d88_ok : iJ13_bitCount_95d88.all (fun q => decide (decode cJ13_bitCount_95d88 q.1 = .ok (q.2.1, q.2.2))) = true := by decide +kernel
end
section
/-! THE ABSTRACT MACHINE: values, a store of the cells, one step, what runs to an end. Pure: no Java machine in it. -/
/-- an int, a long, a cell: its kind and which of that kind -/
abbrev jm_V : Type := Int32 ⊕ Int64 ⊕ (Nat × Nat)
/-- the store: what ints and what longs each cell holds (fields and elements by their places) -/
abbrev jm_G : Type := (Nat → Nat → Nat → Int32) × (Nat → Nat → Nat → Int64)
abbrev jm_L : Type := List (Option jm_V)
abbrev jm_S : Type := jm_G × Nat × jm_L × List jm_V
/-- what a call of a method by its number comes to -/
abbrev jm_C : Type := Nat → List jm_V → jm_G → (Option jm_V → jm_G → Prop) → Prop
abbrev jI (x : Int32) : jm_V := Sum.inl x
abbrev jJ (x : Int64) : jm_V := Sum.inr (Sum.inl x)
abbrev jR (t i : Nat) : jm_V := Sum.inr (Sum.inr (t, i))
def wI (σ : jm_G) (t i : Nat) (f : Nat → Int32) : jm_G := (fun a b => if a = t ∧ b = i then f else σ.1 a b, σ.2)
def wJ (σ : jm_G) (t i : Nat) (f : Nat → Int64) : jm_G := (σ.1, fun a b => if a = t ∧ b = i then f else σ.2 a b)
/-- next; with a condition; a branch; a return; a call; a switch -/
abbrev jm_R : Type := jm_S ⊕ (Prop × jm_S) ⊕ (Prop × jm_S × jm_S) ⊕ (Prop × Option jm_V × jm_G) ⊕ (Nat × List jm_V × jm_G × Nat × jm_L × List jm_V) ⊕ List (Prop × jm_S)
abbrev jm_nx (s : jm_S) : jm_R := .inl s
abbrev jm_ck (c : Prop) (s : jm_S) : jm_R := .inr (.inl (c, s))
abbrev jm_br (c : Prop) (s1 s2 : jm_S) : jm_R := .inr (.inr (.inl (c, s1, s2)))
abbrev jm_rt (c : Prop) (v : Option jm_V) (σ : jm_G) : jm_R := .inr (.inr (.inr (.inl (c, v, σ))))
abbrev jm_cl (k : Nat) (as : List jm_V) (σ : jm_G) (pc : Nat) (lv : jm_L) (st : List jm_V) : jm_R := .inr (.inr (.inr (.inr (.inl (k, as, σ, pc, lv, st)))))
abbrev jm_sw (l : List (Prop × jm_S)) : jm_R := .inr (.inr (.inr (.inr (.inr l))))
abbrev jm_no : jm_R := .inr (.inr (.inr (.inl (False, none, (fun _ _ _ => 0, fun _ _ _ => 0)))))
def jm_all (X : jm_S → Prop) : List (Prop × jm_S) → Prop
  | [] => True
  | q :: r => (q.1 → X q.2) ∧ jm_all X r
def jm_sem (X : jm_S → Prop) (Rt : Option jm_V → jm_G → Prop) (C : jm_C) (r : jm_R) : Prop := match r with
  | .inl s => X s
  | .inr (.inl (c, s)) => c ∧ X s
  | .inr (.inr (.inl (c, s1, s2))) => (c → X s1) ∧ (¬ c → X s2)
  | .inr (.inr (.inr (.inl (c, v, σ)))) => c ∧ Rt v σ
  | .inr (.inr (.inr (.inr (.inl (k, as, σ, pc, lv, st))))) => C k as σ (fun r σ' => X (σ', pc, lv, r.toList ++ st))
  | .inr (.inr (.inr (.inr (.inr l)))) => jm_all X l
def jm_int (n : Int) : Int32 := match n with
  | .ofNat k => nI k
  | .negSucc k => -(nI (k + 1))
def jm_look : List (Nat × Instr × Nat) → Nat → Option (Instr × Nat)
  | [], _ => none
  | q :: r, pc => match Nat.beq q.1 pc with
    | true => some q.2
    | false => jm_look r pc
def jm_key {α : Type} : List (Nat × Nat × α) → Nat → Nat → Option α
  | [], _, _ => none
  | q :: r, a, b => match Nat.beq q.1 a with
    | true => match Nat.beq q.2.1 b with
      | true => some q.2.2
      | false => jm_key r a b
    | false => jm_key r a b
/-- local i, if it stands -/
def jm_at : jm_L → Nat → Option jm_V
  | [], _ => none
  | v :: _, 0 => v
  | _ :: r, i + 1 => jm_at r i
def jm_kill : jm_L → Nat → jm_L
  | [], _ => []
  | v :: r, 0 => v :: r
  | v :: r, 1 => (match v with | some (.inr (.inl _)) => none | v => v) :: r
  | v :: r, i + 2 => v :: jm_kill r (i + 1)
def jm_set : jm_L → Nat → Option jm_V → jm_L
  | [], _, _ => []
  | _ :: r, 0, x => x :: r
  | v :: r, i + 1, x => v :: jm_set r i x
def jm_put1 (lv : jm_L) (i : Nat) (v : jm_V) : jm_L := jm_set (jm_kill lv i) i (some v)
def jm_put2 (lv : jm_L) (i : Nat) (v : jm_V) : jm_L := jm_set (jm_set (jm_kill lv i) i (some v)) (i + 1) none
/-- stores: an int or a cell at i, a long at i, i + 1 -/
def jm_sto (σ : jm_G) (pc : Nat) (lv : jm_L) (i : Nat) (st : List jm_V) (w : Nat) : jm_R := match st with
  | v :: r => match v with
    | .inr (.inl x) => match Nat.beq w 1, Nat.blt (i + 1) lv.length with
      | true, true => jm_nx (σ, pc, jm_put2 lv i (jJ x), r)
      | _, _ => jm_no
    | .inl x => match Nat.beq w 0, Nat.blt i lv.length with
      | true, true => jm_nx (σ, pc, jm_put1 lv i (jI x), r)
      | _, _ => jm_no
    | .inr (.inr q) => match Nat.beq w 2, Nat.blt i lv.length with
      | true, true => jm_nx (σ, pc, jm_put1 lv i (jR q.1 q.2), r)
      | _, _ => jm_no
  | [] => jm_no
def jm_lod (σ : jm_G) (pc : Nat) (lv : jm_L) (i : Nat) (st : List jm_V) (w : Nat) : jm_R := match jm_at lv i with
  | some v => match v with
    | .inl x => match Nat.beq w 0 with | true => jm_nx (σ, pc, lv, jI x :: st) | false => jm_no
    | .inr (.inl x) => match Nat.beq w 1 with | true => jm_nx (σ, pc, lv, jJ x :: st) | false => jm_no
    | .inr (.inr q) => match Nat.beq w 2 with | true => jm_nx (σ, pc, lv, jR q.1 q.2 :: st) | false => jm_no
  | none => jm_no
def jm_i (st : List jm_V) (f : Int32 → List jm_V → jm_R) : jm_R := match st with
  | .inl x :: r => f x r
  | _ => jm_no
def jm_ii (st : List jm_V) (f : Int32 → Int32 → List jm_V → jm_R) : jm_R := match st with
  | .inl y :: .inl x :: r => f x y r
  | _ => jm_no
def jm_j (st : List jm_V) (f : Int64 → List jm_V → jm_R) : jm_R := match st with
  | .inr (.inl x) :: r => f x r
  | _ => jm_no
def jm_jj (st : List jm_V) (f : Int64 → Int64 → List jm_V → jm_R) : jm_R := match st with
  | .inr (.inl y) :: .inr (.inl x) :: r => f x y r
  | _ => jm_no
def jm_ij (st : List jm_V) (f : Int64 → Int32 → List jm_V → jm_R) : jm_R := match st with
  | .inl y :: .inr (.inl x) :: r => f x y r
  | _ => jm_no
/-- the kinds of cells: how many of it, an object (class, what each field is: 0 an int, 1 a long, 2 a boolean, or a cell: of the same place among its kind?) or a row (length; of 0 ints, 1 longs, 2 booleans, 3 the cells of kind 17) -/
abbrev jm_F : Type := Nat ⊕ (Nat × Bool)
abbrev jm_H : Type := Nat × ((Nat × List jm_F) ⊕ (Nat × Nat))
def jm_nth {α : Type} : List α → Nat → Option α
  | [], _ => none
  | v :: _, 0 => some v
  | _ :: r, i + 1 => jm_nth r i
def jm_cat (st : List jm_V) : Nat := match st with
  | [] => 0
  | .inr (.inl _) :: r => jm_cat r + 2
  | _ :: r => jm_cat r + 1
/-- the first n of a stack, turned, and what is below -/
def jm_take : Nat → List jm_V → List jm_V → Option (List jm_V × List jm_V)
  | 0, st, a => some (a, st)
  | _ + 1, [], _ => none
  | n + 1, v :: r, a => jm_take n r (v :: a)
def jm_tgt (pc : Nat) (off : Int) : Nat := match (pc : Int) + off with
  | .ofNat k => k
  | .negSucc _ => 1000000
end
section
-- written by wip/gen/gen.py: kinds of cells, what pool numbers mean, the methods by number
def jm_sh : List jm_H := [(1, .inl (9, [.inr (2, false), .inr (8, false), .inr (1, false), .inr (22, false), .inr (26, false), .inr (29, false), .inr (36, false), .inl 0, .inl 2])),
  (1, .inr (4, 3)),
  (1, .inl (5, [.inr (3, false), .inr (4, false), .inr (5, false), .inr (6, false), .inr (7, false), .inl 1, .inl 1, .inl 1, .inl 1, .inl 0])),
  (1, .inr (40, 0)),
  (1, .inr (120, 0)),
  (1, .inr (40, 0)),
  (1, .inr (40, 1)),
  (1, .inr (40, 1)),
  (1, .inl (7, [.inr (2, false), .inr (9, false), .inl 1])),
  (1, .inr (40, 1)),
  (1, .inl (8, [.inr (11, false), .inr (12, false), .inr (13, false), .inr (2, false), .inl 1, .inl 1, .inl 1, .inl 0])),
  (1, .inr (80, 0)),
  (1, .inr (80, 0)),
  (1, .inr (40, 0)),
  (1, .inl (6, [.inr (15, false), .inr (16, false), .inl 0])),
  (1, .inr (730, 1)),
  (1, .inr (730, 1)),
  (4, .inl (4, [.inr (2, false), .inr (10, false), .inr (14, false), .inl 4, .inr (18, true), .inr (19, true), .inr (20, true), .inr (21, true), .inl 0])),
  (4, .inr (40, 0)),
  (4, .inr (40, 1)),
  (4, .inr (320, 1)),
  (4, .inr (40, 0)),
  (1, .inl (3, [.inr (2, false), .inr (23, false), .inr (24, false), .inr (25, false), .inl 1])),
  (1, .inr (40, 0)),
  (1, .inr (40, 1)),
  (1, .inr (40, 0)),
  (1, .inl (2, [.inr (2, false), .inr (22, false), .inr (27, false), .inr (28, false), .inl 1])),
  (1, .inr (40, 1)),
  (1, .inr (40, 1)),
  (1, .inl (0, [.inr (2, false), .inr (22, false), .inr (30, false), .inr (31, false), .inr (32, false), .inr (33, false), .inr (34, false), .inr (35, false), .inl 1, .inl 0, .inl 0])),
  (1, .inr (40, 1)),
  (1, .inr (40, 0)),
  (1, .inr (40, 0)),
  (1, .inr (40, 1)),
  (1, .inr (40, 1)),
  (1, .inr (40, 1)),
  (1, .inl (1, [.inr (29, false), .inr (37, false), .inl 0, .inl 0, .inl 0, .inl 1, .inl 1, .inl 1])),
  (1, .inr (40, 0)),
  (1, .inl (10, [.inl 0, .inl 0, .inr (39, false), .inr (40, false), .inr (41, false), .inr (42, false), .inl 1, .inl 0, .inl 2, .inl 2, .inr (43, false), .inr (44, false), .inr (45, false), .inr (46, false), .inr (47, false), .inr (48, false), .inr (49, false), .inl 0, .inr (50, false), .inr (51, false), .inr (52, false), .inl 0, .inr (53, false), .inr (54, false), .inr (55, false), .inl 1, .inr (56, false), .inr (57, false), .inr (58, false), .inr (59, false), .inr (60, false), .inr (61, false), .inr (62, false), .inr (63, false), .inr (64, false), .inr (65, false), .inl 0, .inl 0, .inl 0, .inr (66, false), .inr (67, false), .inr (68, false), .inr (69, false), .inr (70, false), .inl 0])),
  (1, .inr (40, 0)),
  (1, .inr (40, 0)),
  (1, .inr (120, 0)),
  (1, .inr (40, 1)),
  (1, .inr (40, 2)),
  (1, .inr (40, 0)),
  (1, .inr (40, 1)),
  (1, .inr (40, 0)),
  (1, .inr (120, 0)),
  (1, .inr (80, 0)),
  (1, .inr (80, 0)),
  (1, .inr (320, 1)),
  (1, .inr (40, 0)),
  (1, .inr (800, 1)),
  (1, .inr (40, 1)),
  (1, .inr (40, 0)),
  (1, .inr (40, 0)),
  (1, .inr (40, 2)),
  (1, .inr (40, 2)),
  (1, .inr (40, 0)),
  (1, .inr (40, 0)),
  (1, .inr (40, 0)),
  (1, .inr (40, 0)),
  (1, .inr (40, 0)),
  (1, .inr (40, 0)),
  (1, .inr (40, 1)),
  (1, .inr (40, 1)),
  (1, .inr (16384, 0)),
  (1, .inr (14, 0)),
  (1, .inr (40, 0)),
  (1, .inr (40, 1)),
  (1, .inr (40, 1)),
  (1, .inr (1, 1))]
def jm_fl : List (Nat × Nat × (Nat × Nat)) := [(9, 10, (9, 0)), (9, 21, (9, 1)), (9, 33, (9, 2)), (9, 43, (9, 3)), (9, 52, (9, 4)), (9, 59, (9, 5)), (9, 68, (9, 6)), (9, 72, (9, 7)), (9, 76, (9, 8)), (9, 113, (5, 8)), (9, 142, (3, 4)), (9, 169, (4, 4)), (9, 177, (5, 4)), (9, 181, (4, 5)), (9, 203, (3, 2)), (9, 206, (3, 3)), (9, 212, (0, 3)), (9, 215, (0, 4)), (9, 234, (0, 9)), (9, 240, (0, 10)), (9, 243, (0, 8)), (9, 249, (0, 5)), (9, 252, (0, 6)), (9, 255, (0, 7)), (9, 265, (1, 2)), (9, 266, (1, 1)), (9, 275, (7, 2)), (9, 288, (5, 9)), (9, 289, (5, 5)), (9, 292, (5, 6)), (9, 295, (5, 7)), (9, 298, (4, 8)), (0, 9, (0, 2)), (0, 15, (0, 3)), (0, 19, (0, 4)), (0, 22, (0, 5)), (0, 25, (0, 6)), (0, 28, (0, 7)), (0, 31, (0, 0)), (0, 35, (0, 1)), (0, 39, (0, 10)), (0, 56, (3, 4)), (0, 72, (5, 9)), (0, 78, (3, 2)), (0, 89, (0, 9)), (0, 102, (0, 8)), (0, 105, (5, 8)), (0, 115, (5, 7)), (1, 9, (1, 1)), (1, 15, (1, 0)), (1, 19, (1, 3)), (1, 23, (1, 4)), (1, 26, (0, 10)), (1, 35, (1, 5)), (1, 39, (1, 2)), (1, 40, (1, 6)), (1, 43, (1, 7)), (1, 60, (0, 7)), (2, 9, (2, 2)), (2, 15, (2, 3)), (2, 18, (2, 0)), (2, 22, (2, 1)), (2, 26, (2, 4)), (2, 44, (3, 2)), (2, 60, (5, 6)), (3, 9, (3, 1)), (3, 15, (3, 2)), (3, 19, (3, 3)), (3, 22, (3, 0)), (3, 26, (5, 6)), (3, 36, (4, 5)), (3, 48, (5, 9)), (3, 56, (3, 4)), (4, 9, (4, 4)), (4, 15, (4, 5)), (4, 19, (4, 6)), (4, 22, (4, 7)), (4, 25, (4, 0)), (4, 29, (4, 1)), (4, 33, (4, 2)), (4, 37, (4, 3)), (4, 41, (4, 8)), (4, 44, (5, 6)), (4, 54, (5, 3)), (4, 88, (5, 4)), (5, 9, (5, 0)), (5, 15, (5, 1)), (5, 18, (5, 2)), (5, 21, (5, 3)), (5, 25, (5, 4)), (5, 31, (5, 9)), (5, 39, (5, 5)), (5, 47, (5, 6)), (5, 50, (5, 7)), (5, 67, (5, 8)), (6, 11, (6, 0)), (6, 15, (6, 1)), (6, 18, (6, 2)), (7, 9, (7, 1)), (7, 15, (7, 0)), (7, 19, (7, 2)), (7, 37, (5, 5)), (7, 55, (5, 7)), (7, 65, (5, 9)), (7, 69, (5, 6)), (8, 9, (8, 0)), (8, 15, (8, 1)), (8, 18, (8, 2)), (8, 21, (8, 3)), (8, 25, (5, 3)), (8, 37, (8, 4)), (8, 44, (8, 5)), (8, 47, (8, 6)), (8, 54, (8, 7)), (8, 70, (5, 6)), (10, 7, (10, 2)), (10, 13, (10, 3)), (10, 16, (10, 4)), (10, 19, (10, 5)), (10, 23, (10, 7)), (10, 27, (10, 10)), (10, 31, (10, 11)), (10, 34, (10, 12)), (10, 37, (10, 13)), (10, 40, (10, 14)), (10, 43, (10, 15)), (10, 46, (10, 16)), (10, 49, (10, 18)), (10, 52, (10, 19)), (10, 55, (10, 20)), (10, 58, (10, 22)), (10, 61, (10, 23)), (10, 64, (10, 24)), (10, 67, (10, 26)), (10, 70, (10, 27)), (10, 73, (10, 28)), (10, 76, (10, 29)), (10, 79, (10, 30)), (10, 82, (10, 31)), (10, 85, (10, 32)), (10, 88, (10, 33)), (10, 91, (10, 34)), (10, 94, (10, 35)), (10, 97, (10, 39)), (10, 100, (10, 40)), (10, 103, (10, 41)), (10, 106, (10, 42)), (10, 109, (10, 43)), (10, 112, (10, 0)), (10, 119, (10, 1)), (10, 126, (10, 8)), (10, 130, (10, 9)), (10, 150, (10, 6)), (10, 162, (10, 17)), (10, 197, (10, 21)), (10, 245, (10, 25)), (10, 287, (10, 38)), (10, 296, (10, 36)), (10, 299, (10, 37)), (10, 327, (10, 44))]
def jm_gs : List (Nat × Nat × Nat) := [(2, 55, 101), (5, 28, 100)]
def jm_lc : List (Nat × Nat × Int64) := [(0, 92, -1), (1, 69, -1), (2, 58, -1), (5, 74, -1), (6, 26, -1), (7, 31, -1), (8, 35, -1), (11, 82, 4294967295), (10, 208, -1), (12, 314, 6148914691236517205), (12, 316, 3689348814741910323), (12, 318, 1085102592571150095)]
def jm_ml : List (Nat × Nat × (Nat × Nat × Nat)) := [(9, 80, (51, 1, 6)), (9, 84, (56, 1, 6)), (9, 88, (49, 1, 0)), (9, 92, (50, 1, 0)), (9, 96, (52, 2, 6)), (9, 99, (58, 5, 6)), (9, 103, (57, 1, 6)), (9, 106, (55, 2, 6)), (9, 109, (59, 3, 6)), (9, 117, (115, 2, 0)), (9, 121, (204, 1, 0)), (9, 127, (114, 1, 0)), (9, 131, (112, 1, 10)), (9, 135, (28, 2, 4)), (9, 139, (113, 1, 10)), (9, 145, (29, 3, 4)), (9, 149, (53, 2, 6)), (9, 152, (72, 3, 8)), (9, 156, (75, 2, 8)), (9, 159, (54, 2, 6)), (9, 162, (60, 2, 6)), (9, 165, (63, 3, 6)), (9, 173, (64, 1, 6)), (9, 184, (117, 2, 0)), (9, 188, (65, 3, 6)), (9, 192, (41, 3, 5)), (9, 196, (66, 3, 6)), (9, 200, (40, 2, 5)), (9, 209, (31, 2, 4)), (9, 218, (24, 2, 3)), (9, 228, (23, 2, 3)), (9, 231, (30, 2, 4)), (9, 237, (3, 1, 1)), (9, 246, (0, 2, 1)), (9, 258, (15, 2, 0)), (9, 262, (17, 3, 2)), (9, 269, (18, 1, 2)), (9, 272, (73, 1, 8)), (9, 278, (25, 3, 3)), (9, 282, (74, 2, 8)), (9, 285, (32, 2, 4)), (9, 301, (39, 2, 5)), (9, 305, (22, 1, 3)), (9, 308, (2, 2, 1)), (9, 311, (16, 1, 2)), (9, 312, (116, 1, 0)), (0, 43, (4, 2, 1)), (0, 47, (5, 1, 1)), (0, 50, (6, 1, 1)), (0, 53, (9, 1, 1)), (0, 62, (204, 1, 0)), (0, 68, (12, 3, 0)), (0, 75, (116, 1, 0)), (0, 81, (115, 2, 0)), (0, 85, (114, 1, 0)), (0, 94, (7, 4, 1)), (0, 98, (8, 3, 1)), (0, 108, (10, 1, 1)), (0, 112, (11, 1, 1)), (0, 118, (61, 2, 6)), (0, 122, (13, 2, 0)), (0, 126, (14, 2, 0)), (1, 31, (114, 1, 0)), (1, 46, (20, 1, 2)), (1, 50, (19, 2, 2)), (1, 54, (21, 2, 2)), (1, 58, (1, 2, 1)), (1, 63, (204, 1, 0)), (1, 71, (116, 1, 0)), (2, 30, (115, 2, 0)), (2, 34, (27, 2, 3)), (2, 38, (114, 1, 0)), (2, 41, (23, 2, 3)), (2, 49, (204, 1, 0)), (2, 65, (26, 2, 0)), (2, 69, (116, 1, 0)), (2, 72, (65, 3, 6)), (2, 76, (67, 3, 6)), (3, 32, (116, 1, 0)), (3, 41, (34, 2, 4)), (3, 44, (64, 1, 6)), (3, 52, (35, 4, 4)), (3, 59, (204, 1, 0)), (3, 64, (40, 2, 5)), (3, 67, (37, 3, 4)), (3, 71, (115, 2, 0)), (3, 75, (38, 4, 4)), (3, 79, (36, 4, 4)), (3, 89, (33, 2, 4)), (3, 92, (30, 2, 4)), (3, 98, (41, 3, 5)), (4, 50, (115, 2, 0)), (4, 57, (40, 2, 5)), (4, 61, (114, 1, 0)), (4, 65, (42, 3, 5)), (4, 69, (78, 3, 9)), (4, 75, (43, 2, 5)), (4, 79, (116, 1, 0)), (4, 91, (68, 1, 7)), (4, 96, (48, 2, 5)), (4, 100, (69, 3, 7)), (4, 104, (46, 3, 5)), (4, 107, (47, 4, 5)), (4, 111, (45, 3, 5)), (4, 115, (44, 2, 5)), (4, 118, (70, 1, 7)), (4, 122, (204, 1, 0)), (4, 127, (62, 3, 6)), (5, 35, (52, 2, 6)), (5, 43, (115, 2, 0)), (5, 53, (114, 1, 0)), (5, 57, (54, 2, 6)), (5, 60, (62, 3, 6)), (5, 64, (55, 2, 6)), (5, 70, (116, 1, 0)), (5, 76, (65, 3, 6)), (6, 22, (71, 2, 7)), (7, 23, (115, 2, 0)), (7, 27, (114, 1, 0)), (7, 33, (77, 2, 8)), (7, 42, (76, 1, 8)), (7, 46, (204, 1, 0)), (7, 52, (73, 1, 8)), (7, 58, (116, 1, 0)), (7, 61, (61, 2, 6)), (7, 72, (67, 3, 6)), (8, 31, (116, 1, 0)), (8, 41, (79, 2, 9)), (8, 50, (82, 2, 9)), (8, 58, (80, 3, 9)), (8, 62, (115, 2, 0)), (8, 66, (81, 3, 9)), (8, 73, (114, 1, 0)), (11, 7, (101, 2, 10)), (11, 19, (83, 1, 10)), (11, 23, (129, 1, 11)), (11, 24, (84, 5, 10)), (11, 28, (130, 5, 11)), (11, 29, (85, 1, 10)), (11, 32, (131, 1, 11)), (11, 33, (86, 3, 10)), (11, 37, (132, 3, 11)), (11, 38, (87, 2, 10)), (11, 42, (133, 2, 11)), (11, 43, (88, 2, 10)), (11, 46, (134, 2, 11)), (11, 47, (89, 1, 10)), (11, 50, (165, 1, 11)), (11, 51, (90, 2, 10)), (11, 54, (169, 2, 11)), (11, 55, (91, 3, 10)), (11, 59, (178, 3, 11)), (11, 60, (92, 2, 10)), (11, 63, (179, 2, 11)), (11, 64, (93, 3, 10)), (11, 68, (155, 3, 11)), (11, 69, (94, 3, 10)), (11, 72, (156, 3, 11)), (11, 73, (95, 2, 10)), (11, 76, (157, 2, 11)), (11, 77, (96, 3, 10)), (11, 81, (158, 3, 11)), (11, 84, (97, 3, 10)), (11, 88, (159, 3, 11)), (11, 89, (98, 1, 10)), (11, 92, (160, 1, 11)), (11, 93, (99, 2, 10)), (11, 96, (170, 2, 11)), (11, 97, (100, 3, 10)), (11, 100, (191, 3, 11)), (11, 106, (175, 2, 11)), (11, 107, (118, 1, 11)), (11, 110, (102, 2, 10)), (11, 113, (193, 2, 11)), (11, 114, (103, 3, 10)), (11, 117, (194, 3, 11)), (11, 118, (104, 3, 10)), (11, 121, (199, 3, 11)), (11, 122, (105, 4, 10)), (11, 126, (200, 4, 11)), (11, 127, (106, 3, 10)), (11, 130, (201, 3, 11)), (11, 131, (107, 2, 10)), (11, 134, (180, 2, 11)), (11, 135, (108, 2, 10)), (11, 138, (181, 2, 11)), (11, 139, (109, 3, 10)), (11, 142, (182, 3, 11)), (11, 143, (110, 2, 10)), (11, 146, (202, 2, 11)), (11, 147, (111, 2, 10)), (11, 150, (203, 2, 11)), (10, 115, (120, 2, 0)), (10, 122, (124, 2, 11)), (10, 133, (127, 1, 11)), (10, 136, (128, 2, 11)), (10, 140, (119, 3, 0)), (10, 144, (123, 1, 0)), (10, 147, (126, 2, 11)), (10, 154, (121, 1, 0)), (10, 158, (135, 1, 11)), (10, 165, (138, 3, 11)), (10, 169, (139, 3, 11)), (10, 173, (140, 2, 11)), (10, 177, (141, 4, 11)), (10, 181, (143, 4, 11)), (10, 185, (142, 3, 11)), (10, 188, (144, 2, 11)), (10, 191, (146, 2, 11)), (10, 194, (122, 1, 0)), (10, 200, (148, 2, 11)), (10, 204, (149, 3, 11)), (10, 210, (151, 4, 11)), (10, 214, (147, 3, 11)), (10, 218, (145, 3, 11)), (10, 222, (150, 2, 11)), (10, 225, (136, 1, 11)), (10, 228, (152, 1, 11)), (10, 231, (125, 2, 11)), (10, 234, (153, 3, 11)), (10, 238, (154, 1, 11)), (10, 242, (137, 1, 11)), (10, 248, (162, 2, 11)), (10, 251, (161, 1, 11)), (10, 254, (163, 1, 11)), (10, 257, (164, 1, 11)), (10, 260, (167, 3, 11)), (10, 264, (166, 2, 11)), (10, 267, (168, 2, 11)), (10, 270, (171, 2, 11)), (10, 273, (173, 3, 11)), (10, 277, (172, 2, 11)), (10, 280, (174, 2, 11)), (10, 284, (177, 2, 0)), (10, 290, (183, 3, 11)), (10, 293, (185, 2, 11)), (10, 302, (184, 1, 11)), (10, 305, (187, 4, 11)), (10, 309, (186, 2, 11)), (10, 312, (188, 2, 11)), (10, 315, (189, 1, 11)), (10, 318, (176, 2, 11)), (10, 321, (192, 1, 11)), (10, 324, (190, 1, 11)), (10, 330, (195, 1, 11)), (10, 333, (197, 2, 11)), (10, 336, (196, 2, 11)), (10, 339, (198, 3, 11))]
def jm_mm : List (Nat × Nat × Bool) := [(0, 130, true), (3, 83, true), (3, 95, false), (4, 82, true)]
def jm_mt : List (Nat × Nat × Nat × List (Nat × Instr × Nat)) := [(0, 3, 2, iX0_isCell), (0, 2, 2, iX0_netsOut), (0, 0, 2, iX0_fillAnew), (0, 1, 1, iX0_mostPairs), (0, 0, 8, iX0_findMates), (0, 0, 9, iX0_pairTables), (0, 0, 4, iX0_layTables), (0, 0, 7, iX0_addCell), (0, 0, 3, iX0_join), (0, 0, 7, iX0_layRegisters), (0, 2, 5, iX0_usedByTables), (0, 2, 9, iX0_fedToSeveral), (0, 1, 13, iX0_mostPairsOf), (0, 2, 8, iX0_withMates), (0, 1, 7, iX0_withFewestMates), (1, 3, 2, iX1_isLimit), (1, 0, 1, iX1_forget), (1, 0, 6, iX1_fill), (1, 1, 5, iX1_countCrossing), (1, 0, 2, iX1_take), (1, 1, 5, iX1_withMostNetsIn), (1, 1, 13, iX1_bestToCome), (2, 0, 1, iX2_forget), (2, 2, 2, iX2_bitsOf), (2, 1, 11, iX2_caresOf), (2, 2, 8, iX2_nodesByTables), (2, 1, 8, iX2_told), (2, 2, 8, iX2_findBits), (3, 0, 5, iX3_takeNearCuts), (3, 1, 11, iX3_chooseAgain), (3, 1, 6, iX3_greatestArrival), (3, 1, 5, iX3_usesOf), (3, 1, 6, iX3_onSlowWay), (3, 1, 7, iX3_latestOf), (3, 1, 3, iX3_arrivalBy), (3, 2, 8, iX3_withChosen), (3, 2, 6, iX3_tablesWith), (3, 0, 8, iX3_findDue), (3, 2, 14, iX3_bestCut), (4, 0, 5, iX4_learn), (4, 1, 6, iX4_greatestLevel), (4, 2, 3, iX4_keptCut), (4, 2, 8, iX4_belowAtLevel), (4, 0, 6, iX4_learnKept), (4, 0, 5, iX4_takeKept), (4, 0, 8, iX4_addWithThird), (4, 1, 4, iX4_choices), (4, 2, 5, iX4_choice), (4, 2, 10, iX4_placeInRow), (5, 3, 1, iX5_isKind), (5, 1, 1, iX5_sourcesOf), (5, 3, 1, iX5_isFull), (5, 3, 2, iX5_isNode), (5, 3, 2, iX5_isInput), (5, 3, 2, iX5_isGate), (5, 3, 2, iX5_isRegister), (5, 1, 1, iX5_addInput), (5, 1, 1, iX5_addRegister), (5, 1, 5, iX5_addGate), (5, 0, 3, iX5_setFeed), (5, 1, 2, iX5_kindOf), (5, 1, 2, iX5_feedOf), (5, 1, 3, iX5_sourceOf), (5, 1, 3, iX5_sourceOrFeed), (5, 2, 5, iX5_roots), (5, 2, 7, iX5_reached), (5, 3, 4, iX5_separates), (5, 2, 9, iX5_valueOf), (6, 0, 1, iX6_clear), (6, 0, 5, iX6_add), (6, 2, 4, iX6_takeFirst), (6, 0, 5, iX6_dropAllWith), (7, 1, 4, iX7_setInput), (7, 2, 1, iX7_now), (7, 2, 2, iX7_changedBy), (7, 1, 6, iX7_run), (7, 2, 8, iX7_registersNext), (7, 2, 6, iX7_nodesOn), (8, 2, 8, iX8_nearestCut), (8, 1, 8, iX8_findWay), (8, 0, 7, iX8_seeUppers), (8, 0, 3, iX8_seeLower), (8, 0, 5, iX8_layWay), (9, 1, 1, iX9_input), (9, 1, 6, iX9_gate), (9, 1, 1, iX9_register), (9, 3, 3, iX9_feed), (9, 1, 2, iX9_output), (9, 1, 3, iX9_inputs), (9, 1, 1, iX9_map), (9, 1, 3, iX9_again), (9, 1, 3, iX9_set), (9, 1, 2, iX9_clock), (9, 1, 3, iX9_node), (9, 1, 5, iX9_near), (9, 1, 2, iX9_cone), (9, 2, 3, iX9_kept), (9, 3, 4, iX9_isCut), (9, 1, 1, iX9_depth), (9, 2, 2, iX9_chosen), (9, 1, 3, iX9_table), (9, 2, 2, iX9_holds), (9, 1, 2, iX9_mapped), (9, 1, 3, iX9_cell), (9, 1, 3, iX9_clusters), (9, 1, 4, iX9_cluster), (9, 1, 3, iX9_cross), (9, 1, 2, iX9_is), (9, 1, 2, iX9_comes), (9, 1, 3, iX9_differs), (9, 1, 2, iX9_slow), (9, 1, 2, iX9_count), (9, 4, 3, iX9_cutsOfK), (9, 0, 1, iX9_followCover), (9, 2, 1, iX9_bit), (9, 3, 3, iX9_has), (9, 1, 2, iX9_lowest), (9, 1, 6, iX9_nthOf), (10, 1, 1, iX10_thrown), (10, 3, 3, iX10_within), (10, 3, 3, iX10_has), (10, 1, 4, iX10_manyOf), (10, 1, 3, iX10_lowest), (10, 1, 1, iX10_sourcesOf), (10, 3, 2, iX10_isNode), (10, 3, 2, iX10_isGate), (10, 3, 2, iX10_isRegister), (10, 0, 1, iX10_changes), (10, 1, 3, iX10_adds), (10, 1, 1, iX10_input), (10, 1, 10, iX10_gate), (10, 1, 2, iX10_register), (10, 3, 3, iX10_feed), (10, 1, 2, iX10_output), (10, 1, 3, iX10_inputs), (10, 2, 4, iX10_fed), (10, 2, 1, iX10_roots), (10, 2, 4, iX10_gates), (10, 0, 3, iX10_comes), (10, 1, 3, iX10_room), (10, 0, 4, iX10_spreadsOut), (10, 0, 7, iX10_spreadsIn), (10, 1, 7, iX10_spreads), (10, 1, 5, iX10_slotOf), (10, 0, 6, iX10_flows), (10, 3, 6, iX10_isCutOff), (10, 1, 5, iX10_greatestIn), (10, 3, 7, iX10_isAhead), (10, 0, 5, iX10_makes), (10, 2, 3, iX10_setOf), (10, 0, 11, iX10_laysKept), (10, 1, 8, iX10_puts), (10, 0, 3, iX10_lays), (10, 2, 9, iX10_coneOf), (10, 1, 1, iX10_rootDepth), (10, 1, 3, iX10_node), (10, 1, 5, iX10_near), (10, 1, 2, iX10_cone), (10, 2, 3, iX10_kept), (10, 3, 10, iX10_isCut), (10, 1, 1, iX10_depth), (10, 0, 2, iX10_laysTables), (10, 1, 5, iX10_arrivalBy), (10, 0, 2, iX10_laysArrival), (10, 0, 1, iX10_looks), (10, 1, 2, iX10_map), (10, 0, 6, iX10_laysDue), (10, 1, 6, iX10_tablesBy), (10, 0, 11, iX10_choosesAgain), (10, 1, 4, iX10_again), (10, 2, 2, iX10_chosen), (10, 3, 5, iX10_gateIs), (10, 0, 4, iX10_works), (10, 0, 6, iX10_fixes), (10, 2, 5, iX10_holdsOf), (10, 2, 2, iX10_holds), (10, 1, 8, iX10_caresOf), (10, 3, 3, iX10_has64), (10, 1, 4, iX10_set), (10, 1, 5, iX10_clock), (10, 1, 2, iX10_is), (10, 1, 6, iX10_comes_), (10, 1, 4, iX10_differs), (10, 3, 3, iX10_isPair), (10, 0, 3, iX10_laysPairs), (10, 1, 4, iX10_usesOf), (10, 3, 5, iX10_isPacked), (10, 0, 4, iX10_newCell), (10, 0, 3, iX10_packs), (10, 0, 3, iX10_laysCells), (10, 1, 9, iX10_mostPairs), (10, 1, 3, iX10_table), (10, 1, 3, iX10_slowest), (10, 1, 2, iX10_mapped), (10, 1, 3, iX10_cell), (10, 1, 3, iX10_beginning), (10, 1, 8, iX10_nextTo), (10, 0, 3, iX10_joins), (10, 3, 5, iX10_laysClusters), (10, 1, 3, iX10_clusters), (10, 1, 4, iX10_cluster), (10, 1, 7, iX10_cross), (10, 1, 7, iX10_slow), (10, 1, 4, iX10_count), (12, 1, 2, iJ13_bitCount_95d88)]
abbrev kX0_isCell : Nat := 0
abbrev kX0_netsOut : Nat := 1
abbrev kX0_fillAnew : Nat := 2
abbrev kX0_mostPairs : Nat := 3
abbrev kX0_findMates : Nat := 4
abbrev kX0_pairTables : Nat := 5
abbrev kX0_layTables : Nat := 6
abbrev kX0_addCell : Nat := 7
abbrev kX0_join : Nat := 8
abbrev kX0_layRegisters : Nat := 9
abbrev kX0_usedByTables : Nat := 10
abbrev kX0_fedToSeveral : Nat := 11
abbrev kX0_mostPairsOf : Nat := 12
abbrev kX0_withMates : Nat := 13
abbrev kX0_withFewestMates : Nat := 14
abbrev kX1_isLimit : Nat := 15
abbrev kX1_forget : Nat := 16
abbrev kX1_fill : Nat := 17
abbrev kX1_countCrossing : Nat := 18
abbrev kX1_take : Nat := 19
abbrev kX1_withMostNetsIn : Nat := 20
abbrev kX1_bestToCome : Nat := 21
abbrev kX2_forget : Nat := 22
abbrev kX2_bitsOf : Nat := 23
abbrev kX2_caresOf : Nat := 24
abbrev kX2_nodesByTables : Nat := 25
abbrev kX2_told : Nat := 26
abbrev kX2_findBits : Nat := 27
abbrev kX3_takeNearCuts : Nat := 28
abbrev kX3_chooseAgain : Nat := 29
abbrev kX3_greatestArrival : Nat := 30
abbrev kX3_usesOf : Nat := 31
abbrev kX3_onSlowWay : Nat := 32
abbrev kX3_latestOf : Nat := 33
abbrev kX3_arrivalBy : Nat := 34
abbrev kX3_withChosen : Nat := 35
abbrev kX3_tablesWith : Nat := 36
abbrev kX3_findDue : Nat := 37
abbrev kX3_bestCut : Nat := 38
abbrev kX4_learn : Nat := 39
abbrev kX4_greatestLevel : Nat := 40
abbrev kX4_keptCut : Nat := 41
abbrev kX4_belowAtLevel : Nat := 42
abbrev kX4_learnKept : Nat := 43
abbrev kX4_takeKept : Nat := 44
abbrev kX4_addWithThird : Nat := 45
abbrev kX4_choices : Nat := 46
abbrev kX4_choice : Nat := 47
abbrev kX4_placeInRow : Nat := 48
abbrev kX5_isKind : Nat := 49
abbrev kX5_sourcesOf : Nat := 50
abbrev kX5_isFull : Nat := 51
abbrev kX5_isNode : Nat := 52
abbrev kX5_isInput : Nat := 53
abbrev kX5_isGate : Nat := 54
abbrev kX5_isRegister : Nat := 55
abbrev kX5_addInput : Nat := 56
abbrev kX5_addRegister : Nat := 57
abbrev kX5_addGate : Nat := 58
abbrev kX5_setFeed : Nat := 59
abbrev kX5_kindOf : Nat := 60
abbrev kX5_feedOf : Nat := 61
abbrev kX5_sourceOf : Nat := 62
abbrev kX5_sourceOrFeed : Nat := 63
abbrev kX5_roots : Nat := 64
abbrev kX5_reached : Nat := 65
abbrev kX5_separates : Nat := 66
abbrev kX5_valueOf : Nat := 67
abbrev kX6_clear : Nat := 68
abbrev kX6_add : Nat := 69
abbrev kX6_takeFirst : Nat := 70
abbrev kX6_dropAllWith : Nat := 71
abbrev kX7_setInput : Nat := 72
abbrev kX7_now : Nat := 73
abbrev kX7_changedBy : Nat := 74
abbrev kX7_run : Nat := 75
abbrev kX7_registersNext : Nat := 76
abbrev kX7_nodesOn : Nat := 77
abbrev kX8_nearestCut : Nat := 78
abbrev kX8_findWay : Nat := 79
abbrev kX8_seeUppers : Nat := 80
abbrev kX8_seeLower : Nat := 81
abbrev kX8_layWay : Nat := 82
abbrev kX9_input : Nat := 83
abbrev kX9_gate : Nat := 84
abbrev kX9_register : Nat := 85
abbrev kX9_feed : Nat := 86
abbrev kX9_output : Nat := 87
abbrev kX9_inputs : Nat := 88
abbrev kX9_map : Nat := 89
abbrev kX9_again : Nat := 90
abbrev kX9_set : Nat := 91
abbrev kX9_clock : Nat := 92
abbrev kX9_node : Nat := 93
abbrev kX9_near : Nat := 94
abbrev kX9_cone : Nat := 95
abbrev kX9_kept : Nat := 96
abbrev kX9_isCut : Nat := 97
abbrev kX9_depth : Nat := 98
abbrev kX9_chosen : Nat := 99
abbrev kX9_table : Nat := 100
abbrev kX9_holds : Nat := 101
abbrev kX9_mapped : Nat := 102
abbrev kX9_cell : Nat := 103
abbrev kX9_clusters : Nat := 104
abbrev kX9_cluster : Nat := 105
abbrev kX9_cross : Nat := 106
abbrev kX9_is : Nat := 107
abbrev kX9_comes : Nat := 108
abbrev kX9_differs : Nat := 109
abbrev kX9_slow : Nat := 110
abbrev kX9_count : Nat := 111
abbrev kX9_cutsOfK : Nat := 112
abbrev kX9_followCover : Nat := 113
abbrev kX9_bit : Nat := 114
abbrev kX9_has : Nat := 115
abbrev kX9_lowest : Nat := 116
abbrev kX9_nthOf : Nat := 117
abbrev kX10_thrown : Nat := 118
abbrev kX10_within : Nat := 119
abbrev kX10_has : Nat := 120
abbrev kX10_manyOf : Nat := 121
abbrev kX10_lowest : Nat := 122
abbrev kX10_sourcesOf : Nat := 123
abbrev kX10_isNode : Nat := 124
abbrev kX10_isGate : Nat := 125
abbrev kX10_isRegister : Nat := 126
abbrev kX10_changes : Nat := 127
abbrev kX10_adds : Nat := 128
abbrev kX10_input : Nat := 129
abbrev kX10_gate : Nat := 130
abbrev kX10_register : Nat := 131
abbrev kX10_feed : Nat := 132
abbrev kX10_output : Nat := 133
abbrev kX10_inputs : Nat := 134
abbrev kX10_fed : Nat := 135
abbrev kX10_roots : Nat := 136
abbrev kX10_gates : Nat := 137
abbrev kX10_comes : Nat := 138
abbrev kX10_room : Nat := 139
abbrev kX10_spreadsOut : Nat := 140
abbrev kX10_spreadsIn : Nat := 141
abbrev kX10_spreads : Nat := 142
abbrev kX10_slotOf : Nat := 143
abbrev kX10_flows : Nat := 144
abbrev kX10_isCutOff : Nat := 145
abbrev kX10_greatestIn : Nat := 146
abbrev kX10_isAhead : Nat := 147
abbrev kX10_makes : Nat := 148
abbrev kX10_setOf : Nat := 149
abbrev kX10_laysKept : Nat := 150
abbrev kX10_puts : Nat := 151
abbrev kX10_lays : Nat := 152
abbrev kX10_coneOf : Nat := 153
abbrev kX10_rootDepth : Nat := 154
abbrev kX10_node : Nat := 155
abbrev kX10_near : Nat := 156
abbrev kX10_cone : Nat := 157
abbrev kX10_kept : Nat := 158
abbrev kX10_isCut : Nat := 159
abbrev kX10_depth : Nat := 160
abbrev kX10_laysTables : Nat := 161
abbrev kX10_arrivalBy : Nat := 162
abbrev kX10_laysArrival : Nat := 163
abbrev kX10_looks : Nat := 164
abbrev kX10_map : Nat := 165
abbrev kX10_laysDue : Nat := 166
abbrev kX10_tablesBy : Nat := 167
abbrev kX10_choosesAgain : Nat := 168
abbrev kX10_again : Nat := 169
abbrev kX10_chosen : Nat := 170
abbrev kX10_gateIs : Nat := 171
abbrev kX10_works : Nat := 172
abbrev kX10_fixes : Nat := 173
abbrev kX10_holdsOf : Nat := 174
abbrev kX10_holds : Nat := 175
abbrev kX10_caresOf : Nat := 176
abbrev kX10_has64 : Nat := 177
abbrev kX10_set : Nat := 178
abbrev kX10_clock : Nat := 179
abbrev kX10_is : Nat := 180
abbrev kX10_comes_ : Nat := 181
abbrev kX10_differs : Nat := 182
abbrev kX10_isPair : Nat := 183
abbrev kX10_laysPairs : Nat := 184
abbrev kX10_usesOf : Nat := 185
abbrev kX10_isPacked : Nat := 186
abbrev kX10_newCell : Nat := 187
abbrev kX10_packs : Nat := 188
abbrev kX10_laysCells : Nat := 189
abbrev kX10_mostPairs : Nat := 190
abbrev kX10_table : Nat := 191
abbrev kX10_slowest : Nat := 192
abbrev kX10_mapped : Nat := 193
abbrev kX10_cell : Nat := 194
abbrev kX10_beginning : Nat := 195
abbrev kX10_nextTo : Nat := 196
abbrev kX10_joins : Nat := 197
abbrev kX10_laysClusters : Nat := 198
abbrev kX10_clusters : Nat := 199
abbrev kX10_cluster : Nat := 200
abbrev kX10_cross : Nat := 201
abbrev kX10_slow : Nat := 202
abbrev kX10_count : Nat := 203
abbrev kJ13_bitCount_95d88 : Nat := 204
end
section
/-! ONE STEP of the abstract machine; what runs to an end; calls by depth -/
def jm_kind (L t : Nat) : Option jm_H := match Nat.blt t 100 with
  | true => jm_nth jm_sh t
  | false => match Nat.beq t 100, Nat.beq t 101, Nat.beq t 102 with
    | true, _, _ => some (1, .inr (7, 0))
    | _, true, _ => some (1, .inr (6, 1))
    | _, _, true => some (1, .inr (L, 0))
    | _, _, _ => none
def jm_pick (b : Bool) (i : Nat) : Nat := match b with
  | true => i
  | false => 0
def jm_val (σ : jm_G) (t i k : Nat) (f : jm_F) : jm_V := match f with
  | .inl w => match Nat.beq w 1 with
    | true => jJ (σ.2 t i k)
    | false => jI (σ.1 t i k)
  | .inr (t', b) => jR t' (jm_pick b i)
def jm_fld (L own idx t : Nat) : Option (Nat × jm_F) := match jm_key jm_fl own idx with
  | some (ci, k) => match jm_kind L t with
    | some (_, .inl (cj, fs)) => match Nat.beq ci cj with
      | true => match jm_nth fs k with
        | some f => some (k, f)
        | none => none
      | false => none
    | _ => none
  | none => none
def jm_getf (L own : Nat) (σ : jm_G) (pc : Nat) (lv : jm_L) (st : List jm_V) (idx : Nat) : jm_R := match st with
  | .inr (.inr (t, i)) :: r => match jm_fld L own idx t with
    | some (k, f) => jm_nx (σ, pc + 3, lv, jm_val σ t i k f :: r)
    | none => jm_no
  | _ => jm_no
def jm_putf (L own : Nat) (σ : jm_G) (pc : Nat) (lv : jm_L) (st : List jm_V) (idx : Nat) : jm_R := match st with
  | .inl x :: .inr (.inr (t, i)) :: r => match jm_fld L own idx t with
    | some (k, .inl w) => match Nat.beq w 0 with
      | true => jm_nx (wI σ t i (upd (σ.1 t i) k x), pc + 3, lv, r)
      | false => match Nat.beq w 2 with
        | true => jm_ck (x = 0 ∨ x = 1) (wI σ t i (upd (σ.1 t i) k x), pc + 3, lv, r)
        | false => jm_no
    | _ => jm_no
  | .inr (.inl x) :: .inr (.inr (t, i)) :: r => match jm_fld L own idx t with
    | some (k, .inl w) => match Nat.beq w 1 with
      | true => jm_nx (wJ σ t i (vp_updL (σ.2 t i) k x), pc + 3, lv, r)
      | false => jm_no
    | _ => jm_no
  | _ => jm_no
/-- the length of a row of such elements -/
def jm_row (L t w : Nat) : Option Nat := match jm_kind L t with
  | some (_, .inr (n, u)) => match Nat.beq u w with
    | true => some n
    | false => none
  | _ => none
def jm_ald (L : Nat) (st : List jm_V) (w : Nat) (f : Nat → Nat → Int32 → Nat → List jm_V → jm_R) : jm_R := match st with
  | .inl x :: .inr (.inr (t, i)) :: r => match jm_row L t w with
    | some n => f t i x n r
    | none => jm_no
  | _ => jm_no
def jm_ast (L : Nat) (σ : jm_G) (pc : Nat) (lv : jm_L) (st : List jm_V) (w : Nat) : jm_R := match st with
  | .inl y :: .inl x :: .inr (.inr (t, i)) :: r => match Nat.blt t 100, jm_row L t w with
    | true, some n => match Nat.beq w 0 with
      | true => jm_ck (vp_in x n) (wI σ t i (upd (σ.1 t i) x.toNatClampNeg y), pc, lv, r)
      | false => match Nat.beq w 2 with
        | true => jm_ck (vp_in x n ∧ (y = 0 ∨ y = 1)) (wI σ t i (upd (σ.1 t i) x.toNatClampNeg y), pc, lv, r)
        | false => jm_no
    | _, _ => jm_no
  | .inr (.inl y) :: .inl x :: .inr (.inr (t, i)) :: r => match Nat.blt t 100, jm_row L t w with
    | true, some n => match Nat.beq w 1 with
      | true => jm_ck (vp_in x n) (wJ σ t i (vp_updL (σ.2 t i) x.toNatClampNeg y), pc, lv, r)
      | false => jm_no
    | _, _ => jm_no
  | _ => jm_no
def jm_cond (c : ClassFile.Cond) (x : Int32) (s1 s2 : jm_S) : jm_R := match c with
  | .eq => jm_br (x = 0) s1 s2
  | .ne => jm_br (x = 0) s2 s1
  | .lt => jm_br (x < 0) s1 s2
  | .ge => jm_br (0 ≤ x) s1 s2
  | .gt => jm_br (0 < x) s1 s2
  | .le => jm_br (x ≤ 0) s1 s2
def jm_cmp (c : ClassFile.Cond) (x y : Int32) (s1 s2 : jm_S) : jm_R := match c with
  | .eq => jm_br (x = y) s1 s2
  | .ne => jm_br (x = y) s2 s1
  | .lt => jm_br (x < y) s1 s2
  | .ge => jm_br (y ≤ x) s1 s2
  | .gt => jm_br (y < x) s1 s2
  | .le => jm_br (x ≤ y) s1 s2
def jm_inv (L own : Nat) (σ : jm_G) (pc : Nat) (lv : jm_L) (st : List jm_V) (idx : Nat) (vt : Bool) : jm_R := match jm_key jm_ml own idx with
  | some (k, n, c) => match jm_take n st [] with
    | some (as, r) => match Nat.ble (jm_cat r) 8 with
      | true => match vt with
        | false => match Nat.beq c 0 with
          | true => jm_cl k as σ (pc + 3) lv r
          | false => jm_no
        | true => match as with
          | .inr (.inr (t, _)) :: _ => match jm_kind L t with
            | some (_, .inl (cj, _)) => match Nat.beq c (cj + 1) with
              | true => jm_cl k as σ (pc + 3) lv r
              | false => jm_no
            | _ => jm_no
          | _ => jm_no
      | false => jm_no
    | none => jm_no
  | none => jm_no
def jm_tsw (σ : jm_G) (pc : Nat) (lv : jm_L) (r : List jm_V) (x : Int32) : Int → List Int → List (Prop × jm_S)
  | _, [] => []
  | v, o :: os => (x = jm_int v, (σ, jm_tgt pc o, lv, r)) :: jm_tsw σ pc lv r x (v + 1) os
def jm_small (n : Int) (m : Nat) : Bool := match n with
  | .ofNat k => Nat.blt k m
  | .negSucc k => Nat.blt k m
def jm_st (L own rk : Nat) (i : Instr) (s : jm_S) : jm_R := match s with
  | (σ, pc, lv, st) => match i with
    | .aload_n k => jm_lod σ (pc + 1) lv k.val st 2
    | .aload k => jm_lod σ (pc + 2) lv k st 2
    | .iload_n k => jm_lod σ (pc + 1) lv k.val st 0
    | .iload k => jm_lod σ (pc + 2) lv k st 0
    | .lload_n k => jm_lod σ (pc + 1) lv k.val st 1
    | .lload k => jm_lod σ (pc + 2) lv k st 1
    | .astore_n k => jm_sto σ (pc + 1) lv k.val st 2
    | .astore k => jm_sto σ (pc + 2) lv k st 2
    | .istore_n k => jm_sto σ (pc + 1) lv k.val st 0
    | .istore k => jm_sto σ (pc + 2) lv k st 0
    | .lstore_n k => jm_sto σ (pc + 1) lv k.val st 1
    | .lstore k => jm_sto σ (pc + 2) lv k st 1
    | .iconst k => jm_nx (σ, pc + 1, lv, jI (jm_int k) :: st)
    | .bipush k => match jm_small k 128 with | true => jm_nx (σ, pc + 2, lv, jI (jm_int k) :: st) | false => jm_no
    | .sipush k => match jm_small k 32768 with | true => jm_nx (σ, pc + 3, lv, jI (jm_int k) :: st) | false => jm_no
    | .lconst k => jm_nx (σ, pc + 1, lv, jJ (lN k.val) :: st)
    | .ldc2_w k => match jm_key jm_lc own k with | some v => jm_nx (σ, pc + 3, lv, jJ v :: st) | none => jm_no
    | .iadd => jm_ii st fun x y r => jm_nx (σ, pc + 1, lv, jI (x + y) :: r)
    | .isub => jm_ii st fun x y r => jm_nx (σ, pc + 1, lv, jI (x - y) :: r)
    | .imul => jm_ii st fun x y r => jm_nx (σ, pc + 1, lv, jI (x * y) :: r)
    | .iand => jm_ii st fun x y r => jm_nx (σ, pc + 1, lv, jI (x &&& y) :: r)
    | .ior => jm_ii st fun x y r => jm_nx (σ, pc + 1, lv, jI (x ||| y) :: r)
    | .ixor => jm_ii st fun x y r => jm_nx (σ, pc + 1, lv, jI (x ^^^ y) :: r)
    | .ishl => jm_ii st fun x y r => jm_nx (σ, pc + 1, lv, jI (x <<< (y &&& 31)) :: r)
    | .ishr => jm_ii st fun x y r => jm_nx (σ, pc + 1, lv, jI (x >>> (y &&& 31)) :: r)
    | .idiv => jm_ii st fun x y r => jm_ck (¬ y = 0) (σ, pc + 1, lv, jI (x / y) :: r)
    | .irem => jm_ii st fun x y r => jm_ck (¬ y = 0) (σ, pc + 1, lv, jI (x - x / y * y) :: r)
    | .ladd => jm_jj st fun x y r => jm_nx (σ, pc + 1, lv, jJ (x + y) :: r)
    | .lsub => jm_jj st fun x y r => jm_nx (σ, pc + 1, lv, jJ (x - y) :: r)
    | .land => jm_jj st fun x y r => jm_nx (σ, pc + 1, lv, jJ (x &&& y) :: r)
    | .lor => jm_jj st fun x y r => jm_nx (σ, pc + 1, lv, jJ (x ||| y) :: r)
    | .lxor => jm_jj st fun x y r => jm_nx (σ, pc + 1, lv, jJ (x ^^^ y) :: r)
    | .lcmp => jm_jj st fun x y r => jm_nx (σ, pc + 1, lv, jI (lg_cmp x y) :: r)
    | .lneg => jm_j st fun x r => jm_nx (σ, pc + 1, lv, jJ (-x) :: r)
    | .lshl => jm_ij st fun x y r => jm_nx (σ, pc + 1, lv, jJ (x <<< (y.toInt64 &&& 63)) :: r)
    | .lshr => jm_ij st fun x y r => jm_nx (σ, pc + 1, lv, jJ (x >>> (y.toInt64 &&& 63)) :: r)
    | .lushr => jm_ij st fun x y r => jm_nx (σ, pc + 1, lv, jJ (x.toUInt64 >>> (y.toInt64.toUInt64 &&& Int64.toUInt64 63)).toInt64 :: r)
    | .i2l => jm_i st fun x r => jm_nx (σ, pc + 1, lv, jJ x.toInt64 :: r)
    | .l2i => jm_j st fun x r => jm_nx (σ, pc + 1, lv, jI x.toInt32 :: r)
    | .dup => match st with
      | .inl x :: r => jm_nx (σ, pc + 1, lv, jI x :: jI x :: r)
      | .inr (.inr q) :: r => jm_nx (σ, pc + 1, lv, .inr (.inr q) :: .inr (.inr q) :: r)
      | _ => jm_no
    | .dup2 => match st with
      | .inr (.inl x) :: r => jm_nx (σ, pc + 1, lv, jJ x :: jJ x :: r)
      | .inl x :: .inr (.inr q) :: r => jm_nx (σ, pc + 1, lv, jI x :: .inr (.inr q) :: jI x :: .inr (.inr q) :: r)
      | _ => jm_no
    | .dup_x1 => match st with
      | .inl x :: .inr (.inr q) :: r => jm_nx (σ, pc + 1, lv, jI x :: .inr (.inr q) :: jI x :: r)
      | _ => jm_no
    | .iinc k c => match jm_at lv k with
      | some (.inl x) => match Nat.blt k lv.length with
        | true => jm_nx (σ, pc + 3, jm_put1 lv k (jI (x + jm_int c)), st)
        | false => jm_no
      | _ => jm_no
    | .goto o => jm_nx (σ, jm_tgt pc o, lv, st)
    | .ifCond c o => jm_i st fun x r => jm_cond c x (σ, jm_tgt pc o, lv, r) (σ, pc + 3, lv, r)
    | .if_icmp c o => jm_ii st fun x y r => jm_cmp c x y (σ, jm_tgt pc o, lv, r) (σ, pc + 3, lv, r)
    | .tableswitch d lo hi os => jm_i st fun x r => jm_sw ((x.toInt < lo ∨ hi < x.toInt, (σ, jm_tgt pc d, lv, r)) :: jm_tsw σ pc lv r x lo os.toList)
    | .getfield idx => jm_getf L own σ pc lv st idx
    | .putfield idx => jm_putf L own σ pc lv st idx
    | .getstatic idx => match jm_key jm_gs own idx with | some t => jm_nx (σ, pc + 3, lv, jR t 0 :: st) | none => jm_no
    | .iaload => jm_ald L st 0 fun t i x n r => jm_ck (vp_in x n) (σ, pc + 1, lv, jI (σ.1 t i x.toNatClampNeg) :: r)
    | .baload => jm_ald L st 2 fun t i x n r => jm_ck (vp_in x n) (σ, pc + 1, lv, jI (σ.1 t i x.toNatClampNeg) :: r)
    | .laload => jm_ald L st 1 fun t i x n r => jm_ck (vp_in x n) (σ, pc + 1, lv, jJ (σ.2 t i x.toNatClampNeg) :: r)
    | .aaload => jm_ald L st 3 fun _ _ x n r => jm_ck (vp_in x n) (σ, pc + 1, lv, jR 17 x.toNatClampNeg :: r)
    | .iastore => jm_ast L σ (pc + 1) lv st 0
    | .bastore => jm_ast L σ (pc + 1) lv st 2
    | .lastore => jm_ast L σ (pc + 1) lv st 1
    | .arraylength => match st with
      | .inr (.inr (t, _)) :: r => match jm_kind L t with
        | some (_, .inr (n, _)) => jm_nx (σ, pc + 1, lv, jI (nI n) :: r)
        | _ => jm_no
      | _ => jm_no
    | .invokevirtual idx => jm_inv L own σ pc lv st idx true
    | .invokestatic idx => match jm_key jm_mm own idx with
      | some b => jm_ii st fun x y r => match Nat.ble (jm_cat r) 8 with
        | true => jm_nx (σ, pc + 3, lv, jI (match b with | true => if x < y then y else x | false => if y < x then y else x) :: r)
        | false => jm_no
      | none => jm_inv L own σ pc lv st idx false
    | .ireturn => match st with
      | [.inl x] => match Nat.beq rk 1 with
        | true => jm_rt True (some (jI x)) σ
        | false => match Nat.beq rk 3 with
          | true => jm_rt (x = 0 ∨ x = 1) (some (jI x)) σ
          | false => jm_no
      | _ => jm_no
    | .lreturn => match st, Nat.beq rk 2 with
      | [.inr (.inl x)], true => jm_rt True (some (jJ x)) σ
      | _, _ => jm_no
    | .areturn => match st, Nat.beq rk 4 with
      | [.inr (.inr q)], true => jm_rt True (some (.inr (.inr q))) σ
      | _, _ => jm_no
    | .return_ => match st, Nat.beq rk 0 with
      | [], true => jm_rt True none σ
      | _, _ => jm_no
    | _ => jm_no
def jm_1 (L own rk : Nat) (cd : List (Nat × Instr × Nat)) (s : jm_S) : jm_R := match jm_look cd s.2.1 with
  | some (i, _) => jm_st L own rk i s
  | none => jm_no
/-- locals of which some are forgotten -/
def jm_le : jm_L → jm_L → Prop
  | [], [] => True
  | none :: a, _ :: b => jm_le a b
  | some x :: a, y :: b => y = some x ∧ jm_le a b
  | _, _ => False
/-- from a state it comes to an end with Rt, or to one of K -/
def jm_runs (L own rk : Nat) (cd : List (Nat × Instr × Nat)) (C : jm_C) (Rt : Option jm_V → jm_G → Prop) (K : jm_S → Prop) (s : jm_S) : Prop :=
  ∀ X : jm_S → Prop, (∀ s, K s → X s) → (∀ s, jm_sem X Rt C (jm_1 L own rk cd s) → X s) → (∀ σ pc lv lv' st, jm_le lv' lv → X (σ, pc, lv', st) → X (σ, pc, lv, st)) → X s
def jm_mem : List Nat → Nat → Bool
  | [], _ => false
  | a :: r, n => match Nat.beq a n with
    | true => true
    | false => jm_mem r n
/-- so many steps at once, up to the next place of 'cut' -/
def jm_go (L own rk : Nat) (cd : List (Nat × Instr × Nat)) (C : jm_C) (Rt : Option jm_V → jm_G → Prop) (X : jm_S → Prop) (cut : List Nat) : Nat → jm_S → Prop
  | 0, s => X s
  | n + 1, s => jm_sem (fun s' => match jm_mem cut s'.2.1 with
    | true => X s'
    | false => jm_go L own rk cd C Rt X cut n s') Rt C (jm_1 L own rk cd s)
def jm_lay : List jm_V → jm_L
  | [] => []
  | .inr (.inl x) :: r => some (jJ x) :: none :: jm_lay r
  | .inl x :: r => some (jI x) :: jm_lay r
  | .inr (.inr q) :: r => some (.inr (.inr q)) :: jm_lay r
def jm_pad : Nat → jm_L → jm_L
  | 0, l => l
  | n + 1, [] => none :: jm_pad n []
  | n + 1, v :: l => v :: jm_pad n l
/-- a contract table is monotone in what comes behind -/
def jm_mon (C : jm_C) : Prop := ∀ k as σ (P Q : Option jm_V → jm_G → Prop), (∀ r σ', P r σ' → Q r σ') → C k as σ P → C k as σ Q
theorem jm_all_mono {X Y : jm_S → Prop} (h : ∀ s, X s → Y s) : ∀ l, jm_all X l → jm_all Y l
  | [], _ => trivial
  | _ :: r, hh => ⟨fun c => h _ (hh.1 c), jm_all_mono h r hh.2⟩
theorem jm_sem_mono {X Y : jm_S → Prop} {P Q : Option jm_V → jm_G → Prop} {C D : jm_C} (hC : jm_mon C) (h : ∀ s, X s → Y s) (hP : ∀ v σ, P v σ → Q v σ) (hD : ∀ k as σ p, C k as σ p → D k as σ p) : ∀ r, jm_sem X P C r → jm_sem Y Q D r := by
  intro r hr
  rcases r with s | ⟨c, s⟩ | ⟨c, s1, s2⟩ | ⟨c, v, σ⟩ | ⟨k, as, σ, pc, lv, st⟩ | l
  · exact h _ hr
  · exact ⟨hr.1, h _ hr.2⟩
  · exact ⟨fun q => h _ (hr.1 q), fun q => h _ (hr.2 q)⟩
  · exact ⟨hr.1, hP _ _ hr.2⟩
  · exact hD _ _ _ _ (hC _ _ _ _ _ (fun r σ' q => h _ q) hr)
  · exact jm_all_mono h l hr
theorem jm_go_ok {L own rk : Nat} {cd : List (Nat × Instr × Nat)} {C : jm_C} {Rt : Option jm_V → jm_G → Prop} {X : jm_S → Prop} (hC : jm_mon C) (hX : ∀ s, jm_sem X Rt C (jm_1 L own rk cd s) → X s) (cut : List Nat) : ∀ n s, jm_go L own rk cd C Rt X cut n s → X s
  | 0, _, h => h
  | n + 1, s, h => by
    refine hX s (jm_sem_mono hC (fun s' hs => ?_) (fun _ _ h => h) (fun _ _ _ _ h => h) _ h)
    revert hs
    cases jm_mem cut s'.2.1 with
    | true => exact fun h => h
    | false => exact fun h => jm_go_ok hC hX cut n s' h
/-- calls by depth -/
def jm_does (L : Nat) : Nat → jm_C
  | 0 => fun _ _ _ _ => False
  | d + 1 => fun k as σ post => match jm_nth jm_mt k with
    | some (own, rk, nL, cd) => (jm_lay as).length ≤ nL ∧ jm_runs L own rk cd (jm_does L d) post (fun _ => False) (σ, 0, jm_pad nL (jm_lay as), [])
    | none => False
theorem jm_runs_mono {L own rk : Nat} {cd : List (Nat × Instr × Nat)} {C D : jm_C} {P Q : Option jm_V → jm_G → Prop} {K : jm_S → Prop} {s : jm_S} (hC : jm_mon C) (hP : ∀ v σ, P v σ → Q v σ) (hD : ∀ k as σ p, C k as σ p → D k as σ p) (h : jm_runs L own rk cd C P K s) : jm_runs L own rk cd D Q K s :=
  fun X hK hX hW => h X hK (fun s hs => hX s (jm_sem_mono hC (fun _ h => h) hP hD _ hs)) hW
theorem jm_does_mon (L : Nat) : ∀ d, jm_mon (jm_does L d)
  | 0 => fun _ _ _ _ _ _ h => h
  | d + 1 => by
    intro k as σ P Q h hd
    unfold jm_does at hd ⊢
    cases hk : jm_nth jm_mt k with
    | none => rw [hk] at hd; exact hd
    | some q =>
      obtain ⟨own, rk, nL, cd⟩ := q
      rw [hk] at hd
      exact ⟨hd.1, jm_runs_mono (jm_does_mon L d) h (fun _ _ _ _ h => h) hd.2⟩
theorem jm_does_up (L : Nat) : ∀ d k as σ P, jm_does L d k as σ P → jm_does L (d + 1) k as σ P
  | 0 => fun _ _ _ _ h => h.elim
  | d + 1 => by
    intro k as σ P hd
    unfold jm_does at hd ⊢
    cases hk : jm_nth jm_mt k with
    | none => rw [hk] at hd; exact hd
    | some q =>
      obtain ⟨own, rk, nL, cd⟩ := q
      rw [hk] at hd
      exact ⟨hd.1, jm_runs_mono (jm_does_mon L d) (fun _ _ h => h) (jm_does_up L d) hd.2⟩
/-- a proof that a method runs: over an X closed under steps -/
theorem jm_run {L own rk : Nat} {cd : List (Nat × Instr × Nat)} {C : jm_C} {Rt : Option jm_V → jm_G → Prop} {K : jm_S → Prop} {s : jm_S} (hC : jm_mon C)
    (h : ∀ X : jm_S → Prop, (∀ s, K s → X s) → (∀ (cut : List Nat) (n : Nat) (s : jm_S), jm_go L own rk cd C Rt X cut n s → X s) → (∀ σ pc lv lv' st, jm_le lv' lv → X (σ, pc, lv', st) → X (σ, pc, lv, st)) → X s) : jm_runs L own rk cd C Rt K s :=
  fun X hK hX hW => h X hK (fun cut n s hs => jm_go_ok hC hX cut n s hs) hW
end
section
/-! plain facts to paste, each family by itself; over the kit's nI, lN and upd -/
/-! ===== drawers: more things than places ===== -/
theorem fb_holes : ∀ (m n : Nat) (f : Nat → Nat), (∀ i, i < n → f i < m) → (∀ i j, i < j → j < n → f i ≠ f j) → n ≤ m := by
  intro m
  induction m with
  | zero =>
    intro n f h1 _
    rcases Nat.eq_zero_or_pos n with h | h
    · omega
    · exact absurd (h1 0 h) (Nat.not_lt_zero _)
  | succ m ih =>
    intro n f h1 h2
    by_cases hx : ∃ i, i < n ∧ f i = m
    · obtain ⟨a, ha, hfa⟩ := hx
      have hg := ih (n - 1) (fun i => if i < a then f i else f (i + 1)) (by
        intro i hi
        by_cases q : i < a
        · simp only [if_pos q]
          have b1 := h1 i (by omega)
          have b2 := h2 i a q ha
          omega
        · simp only [if_neg q]
          have b1 := h1 (i + 1) (by omega)
          have b2 := h2 a (i + 1) (by omega) (by omega)
          omega) (by
        intro i j hij hj
        by_cases q : i < a
        · by_cases r : j < a
          · simp only [if_pos q, if_pos r]
            exact h2 i j hij (by omega)
          · simp only [if_pos q, if_neg r]
            exact h2 i (j + 1) (by omega) (by omega)
        · have r : ¬ j < a := by omega
          simp only [if_neg q, if_neg r]
          exact h2 (i + 1) (j + 1) (by omega) (by omega))
      omega
    · have hg := ih n f (fun i hi => by
        have b1 := h1 i hi
        have b2 : f i ≠ m := fun e => hx ⟨i, hi, e⟩
        omega) h2
      omega
/-- two of them in one place -/
theorem fb_twice {m n : Nat} {f : Nat → Nat} (h : ∀ i, i < n → f i < m) (hm : m < n) : ∃ i j, i < j ∧ j < n ∧ f i = f j := by
  refine Classical.byContradiction fun hx => ?_
  have := fb_holes m n f h (fun i j hij hj e => hx ⟨i, j, hij, hj, e⟩)
  omega
/-- as many as places, none twice: each place is taken -/
theorem fb_onto {n : Nat} {f : Nat → Nat} (h : ∀ i, i < n → f i < n) (h2 : ∀ i j, i < j → j < n → f i ≠ f j) {y : Nat} (hy : y < n) : ∃ i, i < n ∧ f i = y := by
  refine Classical.byContradiction fun hx => ?_
  have hne : ∀ i, i < n → f i ≠ y := fun i hi e => hx ⟨i, hi, e⟩
  have := fb_holes (n - 1) n (fun i => if f i < y then f i else f i - 1) (by
    intro i hi
    have b1 := h i hi
    have b2 := hne i hi
    by_cases q : f i < y
    · simp only [if_pos q]; omega
    · simp only [if_neg q]; omega) (by
    intro i j hij hj
    have b1 := hne i (by omega)
    have b2 := hne j hj
    have b3 := h2 i j hij hj
    by_cases q : f i < y
    · by_cases r : f j < y
      · simp only [if_pos q, if_pos r]; exact b3
      · simp only [if_pos q, if_neg r]; omega
    · by_cases r : f j < y
      · simp only [if_neg q, if_pos r]; omega
      · simp only [if_neg q, if_neg r]; omega)
  omega
/-! ===== how many places have a property ===== -/
def fb_ct (p : Nat → Bool) : Nat → Nat
  | 0 => 0
  | n + 1 => fb_ct p n + (if p n then 1 else 0)
theorem fb_ct_succ (p : Nat → Bool) (n : Nat) : fb_ct p (n + 1) = fb_ct p n + (if p n then 1 else 0) := rfl
theorem fb_ct_le (p : Nat → Bool) : ∀ n, fb_ct p n ≤ n
  | 0 => Nat.le_refl _
  | n + 1 => by
    have h := fb_ct_le p n
    rw [fb_ct_succ]
    split <;> omega
theorem fb_ct_step (p : Nat → Bool) (m : Nat) : ∀ n, fb_ct p m ≤ fb_ct p (m + n)
  | 0 => Nat.le_refl _
  | n + 1 => by
    have h := fb_ct_step p m n
    show fb_ct p m ≤ fb_ct p (m + n + 1)
    rw [fb_ct_succ]
    omega
theorem fb_ct_mono (p : Nat → Bool) {m n : Nat} (h : m ≤ n) : fb_ct p m ≤ fb_ct p n := by
  have := fb_ct_step p m (n - m)
  rwa [Nat.add_sub_cancel' h] at this
theorem fb_ct_cong {p q : Nat → Bool} : ∀ {n : Nat}, (∀ k, k < n → p k = q k) → fb_ct p n = fb_ct q n
  | 0, _ => rfl
  | n + 1, h => by
    rw [fb_ct_succ, fb_ct_succ, fb_ct_cong (fun k hk => h k (by omega)), h n (by omega)]
/-- one place changed -/
theorem fb_ct_out (p : Nat → Bool) (b : Bool) {i n : Nat} (h : n ≤ i) : fb_ct (fun k => if k = i then b else p k) n = fb_ct p n :=
  fb_ct_cong fun k hk => if_neg (by omega)
theorem fb_ct_upd (p : Nat → Bool) (b : Bool) {i : Nat} : ∀ {n : Nat}, i < n → fb_ct (fun k => if k = i then b else p k) n + (if p i then 1 else 0) = fb_ct p n + (if b then 1 else 0)
  | 0, h => absurd h (Nat.not_lt_zero i)
  | n + 1, h => by
    rw [fb_ct_succ, fb_ct_succ]
    rcases Nat.lt_or_ge i n with q | q
    · have := fb_ct_upd p b q
      have e : (if n = i then b else p n) = p n := if_neg (by omega)
      rw [e]
      omega
    · have e : i = n := by omega
      subst e
      rw [fb_ct_out p b (Nat.le_refl _)]
      simp only [if_true]
      omega
theorem fb_ct_sub {p q : Nat → Bool} : ∀ {n : Nat}, (∀ k, k < n → p k = true → q k = true) → fb_ct p n ≤ fb_ct q n
  | 0, _ => Nat.le_refl _
  | n + 1, h => by
    have h1 := fb_ct_sub (n := n) (p := p) (q := q) (fun k hk => h k (by omega))
    have h2 := h n (by omega)
    rw [fb_ct_succ, fb_ct_succ]
    cases hp : p n <;> cases hq : q n <;> simp_all <;> omega
theorem fb_ct_or {p q : Nat → Bool} : ∀ {n : Nat}, (∀ k, k < n → ¬ (p k = true ∧ q k = true)) → fb_ct (fun k => p k || q k) n = fb_ct p n + fb_ct q n
  | 0, _ => rfl
  | n + 1, h => by
    have h1 := fb_ct_or (n := n) (p := p) (q := q) (fun k hk => h k (by omega))
    have h2 := h n (by omega)
    rw [fb_ct_succ, fb_ct_succ, fb_ct_succ, h1]
    cases hp : p n <;> cases hq : q n <;> simp_all <;> omega
theorem fb_ct_not (p : Nat → Bool) : ∀ n, fb_ct p n + fb_ct (fun k => !p k) n = n
  | 0 => rfl
  | n + 1 => by
    have h := fb_ct_not p n
    rw [fb_ct_succ, fb_ct_succ]
    cases p n <;> simp <;> omega
theorem fb_ct_split (p : Nat → Bool) (m : Nat) : ∀ n, fb_ct p (m + n) = fb_ct p m + fb_ct (fun k => p (m + k)) n
  | 0 => rfl
  | n + 1 => by
    have h := fb_ct_split p m n
    show fb_ct p (m + n + 1) = _
    rw [fb_ct_succ, fb_ct_succ, h, Nat.add_assoc]
theorem fb_ct_zero {p : Nat → Bool} : ∀ {n : Nat}, fb_ct p n = 0 ↔ ∀ k, k < n → p k = false
  | 0 => ⟨fun _ k hk => absurd hk (Nat.not_lt_zero k), fun _ => rfl⟩
  | n + 1 => by
    have h := fb_ct_zero (p := p) (n := n)
    rw [fb_ct_succ]
    constructor
    · intro e k hk
      have e1 : fb_ct p n = 0 := by omega
      rcases Nat.lt_or_ge k n with q | q
      · exact h.mp e1 k q
      · have ek : k = n := by omega
        subst ek
        cases hp : p k
        · rfl
        · simp [hp] at e
    · intro a
      rw [h.mpr (fun k hk => a k (by omega)), a n (by omega)]
      rfl
theorem fb_ct_pos {p : Nat → Bool} {n : Nat} : 0 < fb_ct p n ↔ ∃ k, k < n ∧ p k = true := by
  constructor
  · intro h
    refine Classical.byContradiction fun hx => ?_
    have := fb_ct_zero.mpr (fun k hk => by
      cases hp : p k
      · rfl
      · exact absurd ⟨k, hk, hp⟩ hx : ∀ k, k < n → p k = false)
    omega
  · rintro ⟨k, hk, hp⟩
    rcases Nat.eq_zero_or_pos (fb_ct p n) with e | e
    · have := fb_ct_zero.mp e k hk
      rw [this] at hp
      cases hp
    · exact e
theorem fb_ct_all {p : Nat → Bool} {n : Nat} : fb_ct p n = n ↔ ∀ k, k < n → p k = true := by
  have h := fb_ct_not p n
  constructor
  · intro e k hk
    have z : fb_ct (fun k => !p k) n = 0 := by omega
    have := fb_ct_zero.mp z k hk
    cases hp : p k
    · simp [hp] at this
    · rfl
  · intro a
    have z : fb_ct (fun k => !p k) n = 0 := fb_ct_zero.mpr (fun k hk => by simp [a k hk])
    omega
/-- the k-th place with the property -/
theorem fb_ct_kth {p : Nat → Bool} {k : Nat} : ∀ {n : Nat}, k < fb_ct p n → ∃ i, i < n ∧ p i = true ∧ fb_ct p i = k
  | 0, h => absurd h (Nat.not_lt_zero k)
  | n + 1, h => by
    rcases Nat.lt_or_ge k (fb_ct p n) with q | q
    · obtain ⟨i, h1, h2⟩ := fb_ct_kth q
      exact ⟨i, by omega, h2⟩
    · rw [fb_ct_succ] at h
      cases hp : p n
      · simp [hp] at h; omega
      · simp [hp] at h
        exact ⟨n, by omega, hp, by omega⟩
theorem fb_ct_kth_one {p : Nat → Bool} {i j : Nat} (hi : p i = true) (hj : p j = true) (e : fb_ct p i = fb_ct p j) : i = j := by
  have key : ∀ a b : Nat, a < b → p a = true → fb_ct p a < fb_ct p b := by
    intro a b hab ha
    have h := fb_ct_mono p (show a + 1 ≤ b from hab)
    rw [fb_ct_succ, ha] at h
    simp at h
    omega
  rcases Nat.lt_trichotomy i j with q | q | q
  · have := key i j q hi; omega
  · exact q
  · have := key j i q hj; omega
/-! ===== sums over a range: one place changed, parts, bounds ===== -/
def fb_sm (f : Nat → Nat) : Nat → Nat
  | 0 => 0
  | n + 1 => fb_sm f n + f n
theorem fb_sm_succ (f : Nat → Nat) (n : Nat) : fb_sm f (n + 1) = fb_sm f n + f n := rfl
theorem fb_sm_cong {f g : Nat → Nat} : ∀ {n : Nat}, (∀ k, k < n → f k = g k) → fb_sm f n = fb_sm g n
  | 0, _ => rfl
  | n + 1, h => by rw [fb_sm_succ, fb_sm_succ, fb_sm_cong (fun k hk => h k (by omega)), h n (by omega)]
theorem fb_sm_out (f : Nat → Nat) (v : Nat) {i n : Nat} (h : n ≤ i) : fb_sm (fun k => if k = i then v else f k) n = fb_sm f n :=
  fb_sm_cong fun k hk => if_neg (by omega)
theorem fb_sm_upd (f : Nat → Nat) (v : Nat) {i : Nat} : ∀ {n : Nat}, i < n → fb_sm (fun k => if k = i then v else f k) n + f i = fb_sm f n + v
  | 0, h => absurd h (Nat.not_lt_zero i)
  | n + 1, h => by
    rw [fb_sm_succ, fb_sm_succ]
    rcases Nat.lt_or_ge i n with q | q
    · have := fb_sm_upd f v q
      have e : (if n = i then v else f n) = f n := if_neg (by omega)
      rw [e]
      omega
    · have e : i = n := by omega
      subst e
      rw [fb_sm_out f v (Nat.le_refl _)]
      simp only [if_true]
      omega
theorem fb_sm_add (f g : Nat → Nat) : ∀ n, fb_sm (fun k => f k + g k) n = fb_sm f n + fb_sm g n
  | 0 => rfl
  | n + 1 => by
    have h := fb_sm_add f g n
    rw [fb_sm_succ, fb_sm_succ, fb_sm_succ, h]
    omega
theorem fb_sm_le {f g : Nat → Nat} : ∀ {n : Nat}, (∀ k, k < n → f k ≤ g k) → fb_sm f n ≤ fb_sm g n
  | 0, _ => Nat.le_refl _
  | n + 1, h => by
    have h1 := fb_sm_le (n := n) (f := f) (g := g) (fun k hk => h k (by omega))
    have h2 := h n (by omega)
    rw [fb_sm_succ, fb_sm_succ]
    omega
theorem fb_sm_const (c : Nat) : ∀ n, fb_sm (fun _ => c) n = n * c
  | 0 => by rw [Nat.zero_mul]; rfl
  | n + 1 => by rw [fb_sm_succ, fb_sm_const c n, Nat.succ_mul]
theorem fb_sm_bound {f : Nat → Nat} {c n : Nat} (h : ∀ k, k < n → f k ≤ c) : fb_sm f n ≤ n * c := by
  rw [← fb_sm_const c n]
  exact fb_sm_le h
theorem fb_sm_mono (f : Nat → Nat) (m : Nat) : ∀ n, fb_sm f m ≤ fb_sm f (m + n)
  | 0 => Nat.le_refl _
  | n + 1 => by
    have h := fb_sm_mono f m n
    show fb_sm f m ≤ fb_sm f (m + n + 1)
    rw [fb_sm_succ]
    omega
theorem fb_sm_part (f : Nat → Nat) {i n : Nat} (h : i < n) : fb_sm f i + f i ≤ fb_sm f n := by
  have := fb_sm_mono f (i + 1) (n - (i + 1))
  rw [fb_sm_succ, show i + 1 + (n - (i + 1)) = n by omega] at this
  exact this
theorem fb_sm_split (f : Nat → Nat) (m : Nat) : ∀ n, fb_sm f (m + n) = fb_sm f m + fb_sm (fun k => f (m + k)) n
  | 0 => rfl
  | n + 1 => by
    have h := fb_sm_split f m n
    show fb_sm f (m + n + 1) = _
    rw [fb_sm_succ, fb_sm_succ, h, Nat.add_assoc]
theorem fb_sm_zero {f : Nat → Nat} {n : Nat} (h : fb_sm f n = 0) : ∀ k, k < n → f k = 0 := fun k hk => by
  have := fb_sm_part f hk
  omega
/-- the same over whole numbers -/
def fb_si (f : Nat → Int) : Nat → Int
  | 0 => 0
  | n + 1 => fb_si f n + f n
theorem fb_si_succ (f : Nat → Int) (n : Nat) : fb_si f (n + 1) = fb_si f n + f n := rfl
theorem fb_si_cong {f g : Nat → Int} : ∀ {n : Nat}, (∀ k, k < n → f k = g k) → fb_si f n = fb_si g n
  | 0, _ => rfl
  | n + 1, h => by rw [fb_si_succ, fb_si_succ, fb_si_cong (fun k hk => h k (by omega)), h n (by omega)]
theorem fb_si_out (f : Nat → Int) (v : Int) {i n : Nat} (h : n ≤ i) : fb_si (fun k => if k = i then v else f k) n = fb_si f n :=
  fb_si_cong fun k hk => if_neg (by omega)
theorem fb_si_upd (f : Nat → Int) (v : Int) {i : Nat} : ∀ {n : Nat}, i < n → fb_si (fun k => if k = i then v else f k) n = fb_si f n - f i + v
  | 0, h => absurd h (Nat.not_lt_zero i)
  | n + 1, h => by
    rw [fb_si_succ, fb_si_succ]
    rcases Nat.lt_or_ge i n with q | q
    · have := fb_si_upd f v q
      have e : (if n = i then v else f n) = f n := if_neg (by omega)
      rw [e]
      omega
    · have e : i = n := by omega
      subst e
      rw [fb_si_out f v (Nat.le_refl _)]
      simp only [if_true]
      omega
theorem fb_si_add (f g : Nat → Int) : ∀ n, fb_si (fun k => f k + g k) n = fb_si f n + fb_si g n
  | 0 => rfl
  | n + 1 => by
    have h := fb_si_add f g n
    rw [fb_si_succ, fb_si_succ, fb_si_succ, h]
    omega
theorem fb_si_sub (f g : Nat → Int) : ∀ n, fb_si (fun k => f k - g k) n = fb_si f n - fb_si g n
  | 0 => rfl
  | n + 1 => by
    have h := fb_si_sub f g n
    rw [fb_si_succ, fb_si_succ, fb_si_succ, h]
    omega
theorem fb_si_mul (c : Int) (f : Nat → Int) : ∀ n, fb_si (fun k => c * f k) n = c * fb_si f n
  | 0 => (Int.mul_zero c).symm
  | n + 1 => by
    have h := fb_si_mul c f n
    rw [fb_si_succ, fb_si_succ, h, Int.mul_add]
theorem fb_si_split (f : Nat → Int) (m : Nat) : ∀ n, fb_si f (m + n) = fb_si f m + fb_si (fun k => f (m + k)) n
  | 0 => (Int.add_zero _).symm
  | n + 1 => by
    have h := fb_si_split f m n
    show fb_si f (m + n + 1) = _
    rw [fb_si_succ, fb_si_succ, h, Int.add_assoc]
theorem fb_si_nat (f : Nat → Nat) : ∀ n, fb_si (fun k => (f k : Int)) n = (fb_sm f n : Int)
  | 0 => rfl
  | n + 1 => by
    have h := fb_si_nat f n
    rw [fb_si_succ, fb_sm_succ, h]
    omega
theorem fb_si_bound {f : Nat → Int} {c : Int} (hc : 0 ≤ c) : ∀ {n : Nat}, (∀ k, k < n → -c ≤ f k ∧ f k ≤ c) → -(n * c) ≤ fb_si f n ∧ fb_si f n ≤ n * c
  | 0, _ => by simp [fb_si]
  | n + 1, h => by
    have h1 := fb_si_bound (n := n) (f := f) hc (fun k hk => h k (by omega))
    have h2 := h n (by omega)
    have e : ((n + 1 : Nat) : Int) * c = n * c + c := by rw [Int.natCast_add, Int.add_mul]; simp
    rw [fb_si_succ, e]
    omega
/-! ===== bits of a long that isn't negative ===== -/
theorem fb_andL (a b : Nat) : lN a &&& lN b = lN (a &&& b) := by
  apply Int64.toBitVec_inj.1
  show BitVec.ofNat 64 a &&& BitVec.ofNat 64 b = BitVec.ofNat 64 (a &&& b)
  apply BitVec.eq_of_getLsbD_eq
  intro i hi
  simp [hi]
theorem fb_orL (a b : Nat) : lN a ||| lN b = lN (a ||| b) := by
  apply Int64.toBitVec_inj.1
  show BitVec.ofNat 64 a ||| BitVec.ofNat 64 b = BitVec.ofNat 64 (a ||| b)
  apply BitVec.eq_of_getLsbD_eq
  intro i hi
  simp [hi]
theorem fb_xorL (a b : Nat) : lN a ^^^ lN b = lN (a ^^^ b) := by
  apply Int64.toBitVec_inj.1
  show BitVec.ofNat 64 a ^^^ BitVec.ofNat 64 b = BitVec.ofNat 64 (a ^^^ b)
  apply BitVec.eq_of_getLsbD_eq
  intro i hi
  simp [hi]
theorem fb_xorI (a b : Nat) : nI a ^^^ nI b = nI (a ^^^ b) := by
  apply Int32.toBitVec_inj.1
  show BitVec.ofNat 32 a ^^^ BitVec.ofNat 32 b = BitVec.ofNat 32 (a ^^^ b)
  apply BitVec.eq_of_getLsbD_eq
  intro i hi
  simp [hi]
theorem fb_maskL (n k : Nat) : lN n &&& lN (2 ^ k - 1) = lN (n % 2 ^ k) := by rw [fb_andL, Nat.and_two_pow_sub_one_eq_mod]
theorem fb_or_sumL {a k : Nat} (b : Nat) (h : a < 2 ^ k) : lN (2 ^ k * b) ||| lN a = lN (2 ^ k * b + a) := by rw [fb_orL, Nat.two_pow_add_eq_or_of_lt h]
theorem fb_lN_inj {a b : Nat} (ha : a < 2 ^ 63) (hb : b < 2 ^ 63) : lN a = lN b ↔ a = b := by
  constructor
  · intro h
    have h1 : (BitVec.ofNat 64 a).toNat = (BitVec.ofNat 64 b).toNat := congrArg (fun x : Int64 => x.toBitVec.toNat) h
    rw [BitVec.toNat_ofNat, BitVec.toNat_ofNat, Nat.mod_eq_of_lt (by omega), Nat.mod_eq_of_lt (by omega)] at h1
    exact h1
  · rintro rfl; rfl
theorem fb_bit_nat (n j : Nat) : n &&& 2 ^ j = 0 ↔ n.testBit j = false := by
  constructor
  · intro h
    have h1 : (n &&& 2 ^ j).testBit j = false := by rw [h]; simp
    rw [Nat.testBit_and] at h1
    simpa using h1
  · intro h
    apply Nat.eq_of_testBit_eq
    intro i
    rw [Nat.testBit_and]
    by_cases hi : j = i
    · subst hi; simp [h]
    · first | (simp [Nat.testBit_two_pow, hi]; done) | (simp [Nat.testBit_two_pow_of_ne hi]; done)
/-- one bit of a long -/
theorem fb_bitL {n j : Nat} (hj : j < 63) : lN n &&& lN (2 ^ j) = 0 ↔ n.testBit j = false := by
  have h2 : (2 : Nat) ^ j < 2 ^ 63 := Nat.pow_lt_pow_right (by decide) hj
  have hle : n &&& 2 ^ j ≤ 2 ^ j := Nat.and_le_right
  rw [fb_andL, ← fb_bit_nat, show (0 : Int64) = lN 0 from rfl]
  exact fb_lN_inj (by omega) (by decide)
/-- a bit set, a bit taken off -/
theorem fb_bit_set (n j i : Nat) : (n ||| 2 ^ j).testBit i = (n.testBit i || decide (i = j)) := by
  rw [Nat.testBit_or]
  by_cases h : j = i
  · subst h; simp
  · have h2 : ¬ i = j := fun e => h e.symm
    first | (simp [Nat.testBit_two_pow, h, h2]; done) | (simp [Nat.testBit_two_pow_of_ne h, h2]; done)
theorem fb_bit_flip (n j i : Nat) : (n ^^^ 2 ^ j).testBit i = (n.testBit i ^^ decide (i = j)) := by
  rw [Nat.testBit_xor]
  by_cases h : j = i
  · subst h; simp
  · have h2 : ¬ i = j := fun e => h e.symm
    first | (simp [Nat.testBit_two_pow, h, h2]; done) | (simp [Nat.testBit_two_pow_of_ne h, h2]; done)
/-! ===== a stretch of an array written over by a function ===== -/
def fb_put {α : Type} (f g : Nat → α) (a n : Nat) : Nat → α := fun k => if a ≤ k ∧ k < a + n then g (k - a) else f k
theorem fb_put_0 {α : Type} (f g : Nat → α) (a : Nat) : fb_put f g a 0 = f := funext fun k => if_neg (by omega)
theorem fb_put_in {α : Type} {f g : Nat → α} {a n k : Nat} (h1 : a ≤ k) (h2 : k < a + n) : fb_put f g a n k = g (k - a) := if_pos ⟨h1, h2⟩
theorem fb_put_out {α : Type} {f g : Nat → α} {a n k : Nat} (h : k < a ∨ a + n ≤ k) : fb_put f g a n k = f k := if_neg (by omega)
theorem fb_put_succ (f g : Nat → Int32) (a n : Nat) : upd (fb_put f g a n) (a + n) (g n) = fb_put f g a (n + 1) := by
  funext k
  by_cases h : k = a + n
  · subst h
    simp [upd, fb_put]
  · by_cases h1 : a ≤ k ∧ k < a + n
    · have h2 : a ≤ k ∧ k < a + (n + 1) := by omega
      simp only [upd, fb_put, if_neg h, if_pos h1, if_pos h2]
    · have h2 : ¬ (a ≤ k ∧ k < a + (n + 1)) := by omega
      simp only [upd, fb_put, if_neg h, if_neg h1, if_neg h2]
/-- .. from the far end down -/
theorem fb_put_down (f g : Nat → Int32) {a n m : Nat} (h : m < n) : upd (fb_put f (fun k => g (k + (m + 1))) (a + (m + 1)) (n - (m + 1))) (a + m) (g m) = fb_put f (fun k => g (k + m)) (a + m) (n - m) := by
  funext k
  by_cases h0 : k = a + m
  · subst h0
    simp only [upd, if_true]
    rw [fb_put_in (by omega) (by omega)]
    exact congrArg g (by omega)
  · simp only [upd, if_neg h0]
    by_cases h1 : a + (m + 1) ≤ k ∧ k < a + (m + 1) + (n - (m + 1))
    · rw [fb_put_in h1.1 h1.2, fb_put_in (by omega) (by omega)]
      exact congrArg g (by omega)
    · rw [fb_put_out (by omega), fb_put_out (by omega)]
theorem fb_put_cong {α : Type} {f f2 g g2 : Nat → α} {a n : Nat} (hf : ∀ k, (k < a ∨ a + n ≤ k) → f k = f2 k) (hg : ∀ k, k < n → g k = g2 k) : fb_put f g a n = fb_put f2 g2 a n := by
  funext k
  by_cases h : a ≤ k ∧ k < a + n
  · rw [fb_put_in h.1 h.2, fb_put_in h.1 h.2, hg _ (by omega)]
  · rw [fb_put_out (by omega), fb_put_out (by omega), hf _ (by omega)]
/-! ===== the least, the first, the best so far; that there is one alone ===== -/
theorem fb_first {p : Nat → Prop} [DecidablePred p] : ∀ {n : Nat}, (∃ i, i < n ∧ p i) → ∃ i, i < n ∧ p i ∧ ∀ j, j < i → ¬ p j
  | 0, h => by obtain ⟨i, hi, -⟩ := h; exact absurd hi (Nat.not_lt_zero i)
  | n + 1, h => by
    by_cases q : ∃ i, i < n ∧ p i
    · obtain ⟨i, h1, h2⟩ := fb_first q
      exact ⟨i, by omega, h2⟩
    · obtain ⟨i, h1, h2⟩ := h
      have e : i = n := by
        rcases Nat.lt_or_ge i n with r | r
        · exact absurd ⟨i, r, h2⟩ q
        · omega
      subst e
      exact ⟨i, by omega, h2, fun j hj hp => q ⟨j, hj, hp⟩⟩
theorem fb_first_one {p : Nat → Prop} {i j : Nat} (hi : p i) (hi2 : ∀ k, k < i → ¬ p k) (hj : p j) (hj2 : ∀ k, k < j → ¬ p k) : i = j := by
  rcases Nat.lt_trichotomy i j with q | q | q
  · exact absurd hi (hj2 i q)
  · exact q
  · exact absurd hj (hi2 j q)
theorem fb_last {p : Nat → Prop} [DecidablePred p] : ∀ {n : Nat}, (∃ i, i < n ∧ p i) → ∃ i, i < n ∧ p i ∧ ∀ j, i < j → j < n → ¬ p j
  | 0, h => by obtain ⟨i, hi, -⟩ := h; exact absurd hi (Nat.not_lt_zero i)
  | n + 1, h => by
    by_cases q : p n
    · exact ⟨n, by omega, q, fun j h1 h2 => by omega⟩
    · obtain ⟨i, h1, h2⟩ := h
      have hi : i < n := by
        rcases Nat.lt_or_ge i n with r | r
        · exact r
        · have e : i = n := by omega
          subst e
          exact absurd h2 q
      obtain ⟨i2, a1, a2, a3⟩ := fb_last (n := n) ⟨i, hi, h2⟩
      refine ⟨i2, by omega, a2, fun j b1 b2 => ?_⟩
      rcases Nat.lt_or_ge j n with r | r
      · exact a3 j b1 r
      · have e : j = n := by omega
        subst e
        exact q
/-- the first greatest -/
theorem fb_best (f : Nat → Int) : ∀ {n : Nat}, 0 < n → ∃ i, i < n ∧ (∀ j, j < n → f j ≤ f i) ∧ ∀ j, j < i → f j < f i
  | 0, h => absurd h (Nat.lt_irrefl 0)
  | 1, _ => ⟨0, by omega, fun j hj => by have e : j = 0 := by omega
                                         subst e; exact Int.le_refl _, fun j hj => absurd hj (Nat.not_lt_zero j)⟩
  | n + 2, _ => by
    obtain ⟨i, h1, h2, h3⟩ := fb_best f (n := n + 1) (by omega)
    by_cases q : f i < f (n + 1)
    · refine ⟨n + 1, by omega, fun j hj => ?_, fun j hj => ?_⟩
      · rcases Nat.lt_or_ge j (n + 1) with r | r
        · have := h2 j r; omega
        · have e : j = n + 1 := by omega
          subst e; exact Int.le_refl _
      · have := h2 j hj; omega
    · refine ⟨i, by omega, fun j hj => ?_, h3⟩
      rcases Nat.lt_or_ge j (n + 1) with r | r
      · exact h2 j r
      · have e : j = n + 1 := by omega
        subst e; omega
theorem fb_best_one {f : Nat → Int} {n i j : Nat} (hi : i < n) (hi2 : ∀ k, k < n → f k ≤ f i) (hi3 : ∀ k, k < i → f k < f i) (hj : j < n) (hj2 : ∀ k, k < n → f k ≤ f j) (hj3 : ∀ k, k < j → f k < f j) : i = j := by
  rcases Nat.lt_trichotomy i j with q | q | q
  · have a := hj3 i q
    have b := hi2 j hj
    omega
  · exact q
  · have a := hi3 j q
    have b := hj2 i hi
    omega
/-- the first least -/
theorem fb_low (f : Nat → Int) {n : Nat} (h : 0 < n) : ∃ i, i < n ∧ (∀ j, j < n → f i ≤ f j) ∧ ∀ j, j < i → f i < f j := by
  obtain ⟨i, h1, h2, h3⟩ := fb_best (fun k => -f k) h
  exact ⟨i, h1, fun j hj => by have := h2 j hj; omega, fun j hj => by have := h3 j hj; omega⟩
/-! ===== signed ints as whole numbers, within bounds ===== -/
theorem fb_rng (x : Int32) : -2147483648 ≤ x.toInt ∧ x.toInt < 2147483648 := by
  have h1 := Int32.le_toInt x
  have h2 := Int32.toInt_lt x
  omega
theorem fb_bmod {z : Int} (h1 : -2147483648 ≤ z) (h2 : z < 2147483648) : z.bmod (2 ^ 32) = z := by
  rw [Int.bmod_eq_of_le (by omega) (by omega)]
theorem fb_addI {x y : Int32} (h1 : -2147483648 ≤ x.toInt + y.toInt) (h2 : x.toInt + y.toInt < 2147483648) : (x + y).toInt = x.toInt + y.toInt := by
  rw [Int32.toInt_add, fb_bmod h1 h2]
theorem fb_subI {x y : Int32} (h1 : -2147483648 ≤ x.toInt - y.toInt) (h2 : x.toInt - y.toInt < 2147483648) : (x - y).toInt = x.toInt - y.toInt := by
  rw [Int32.toInt_sub, fb_bmod h1 h2]
theorem fb_mulI {x y : Int32} (h1 : -2147483648 ≤ x.toInt * y.toInt) (h2 : x.toInt * y.toInt < 2147483648) : (x * y).toInt = x.toInt * y.toInt := by
  rw [Int32.toInt_mul, fb_bmod h1 h2]
theorem fb_negI {x : Int32} (h : x.toInt ≠ -2147483648) : (-x).toInt = -x.toInt := by
  have := fb_rng x
  rw [Int32.toInt_neg, fb_bmod (by omega) (by omega)]
theorem fb_ofI {z : Int} (h1 : -2147483648 ≤ z) (h2 : z < 2147483648) : (Int32.ofInt z).toInt = z := by
  rw [Int32.toInt_ofInt, fb_bmod h1 h2]
theorem fb_asI (x : Int32) : Int32.ofInt x.toInt = x := Int32.ofInt_toInt x
theorem fb_rngL (x : Int64) : -9223372036854775808 ≤ x.toInt ∧ x.toInt < 9223372036854775808 := by
  have h1 := Int64.le_toInt x
  have h2 := Int64.toInt_lt x
  omega
theorem fb_bmodL {z : Int} (h1 : -9223372036854775808 ≤ z) (h2 : z < 9223372036854775808) : z.bmod (2 ^ 64) = z := by
  rw [Int.bmod_eq_of_le (by omega) (by omega)]
theorem fb_addL {x y : Int64} (h1 : -9223372036854775808 ≤ x.toInt + y.toInt) (h2 : x.toInt + y.toInt < 9223372036854775808) : (x + y).toInt = x.toInt + y.toInt := by
  rw [Int64.toInt_add, fb_bmodL h1 h2]
theorem fb_subL {x y : Int64} (h1 : -9223372036854775808 ≤ x.toInt - y.toInt) (h2 : x.toInt - y.toInt < 9223372036854775808) : (x - y).toInt = x.toInt - y.toInt := by
  rw [Int64.toInt_sub, fb_bmodL h1 h2]
theorem fb_mulL {x y : Int64} (h1 : -9223372036854775808 ≤ x.toInt * y.toInt) (h2 : x.toInt * y.toInt < 9223372036854775808) : (x * y).toInt = x.toInt * y.toInt := by
  rw [Int64.toInt_mul, fb_bmodL h1 h2]
/-! ===== cuts of what is narrow already ===== -/
theorem fb_byte {x : Int32} (h1 : -128 ≤ x.toInt) (h2 : x.toInt < 128) : x.toInt8.toInt32 = x := by
  apply Int32.toInt_inj.1
  rw [Int8.toInt_toInt32, Int32.toInt_toInt8, Int.bmod_eq_of_le (by omega) (by omega)]
theorem fb_short {x : Int32} (h1 : -32768 ≤ x.toInt) (h2 : x.toInt < 32768) : x.toInt16.toInt32 = x := by
  apply Int32.toInt_inj.1
  rw [Int16.toInt_toInt32, Int32.toInt_toInt16, Int.bmod_eq_of_le (by omega) (by omega)]
theorem fb_byte_rng (x : Int32) : -128 ≤ x.toInt8.toInt32.toInt ∧ x.toInt8.toInt32.toInt < 128 := by
  rw [Int8.toInt_toInt32]
  have h1 := Int8.le_toInt x.toInt8
  have h2 := Int8.toInt_lt x.toInt8
  omega
theorem fb_short_rng (x : Int32) : -32768 ≤ x.toInt16.toInt32.toInt ∧ x.toInt16.toInt32.toInt < 32768 := by
  rw [Int16.toInt_toInt32]
  have h1 := Int16.le_toInt x.toInt16
  have h2 := Int16.toInt_lt x.toInt16
  omega
theorem fb_byte_twice (x : Int32) : x.toInt8.toInt32.toInt8.toInt32 = x.toInt8.toInt32 := fb_byte (fb_byte_rng x).1 (fb_byte_rng x).2
theorem fb_short_twice (x : Int32) : x.toInt16.toInt32.toInt16.toInt32 = x.toInt16.toInt32 := fb_short (fb_short_rng x).1 (fb_short_rng x).2
theorem fb_char {n : Nat} (h : n < 65536) : (nI n).toUInt32.toUInt16.toUInt32.toInt32 = nI n := by
  apply Int32.toBitVec_inj.1
  apply BitVec.eq_of_toNat_eq
  have e1 : (nI n).toBitVec.toNat = n := by
    show (BitVec.ofNat 32 n).toNat = n
    rw [BitVec.toNat_ofNat, Nat.mod_eq_of_lt (by omega)]
  have e2 : ((nI n).toUInt32.toUInt16.toUInt32).toNat = n := by
    rw [UInt16.toNat_toUInt32, UInt32.toNat_toUInt16]
    show (nI n).toBitVec.toNat % 2 ^ 16 = n
    rw [e1, Nat.mod_eq_of_lt (by omega)]
  rw [e1]
  exact e2
end
section
/-! rows on bits, shifts and unsigned numbers, to paste: each family out of a closed proof of our own, whole with what it rests on; each by itself clean at Lean in its own claim (generation 39, form 5). Take a family whole -/
/-! ===== Int32 by its bits: bt x i ===== -/
def bt (x : Int32) (i : Nat) : Bool := x.toBitVec.getLsbD i
theorem b_ext {x y : Int32} (h : ∀ i, i < 32 → bt x i = bt y i) : x = y := Int32.toBitVec_inj.mp (BitVec.eq_of_getLsbD_eq (fun i hi => h i hi))
theorem b_or (x y : Int32) (i : Nat) : bt (x ||| y) i = (bt x i || bt y i) := by unfold bt; rw [Int32.toBitVec_or, BitVec.getLsbD_or]
theorem b_and (x y : Int32) (i : Nat) : bt (x &&& y) i = (bt x i && bt y i) := by unfold bt; rw [Int32.toBitVec_and, BitVec.getLsbD_and]
theorem b_xor (x y : Int32) (i : Nat) : bt (x ^^^ y) i = (bt x i ^^ bt y i) := by unfold bt; rw [Int32.toBitVec_xor, BitVec.getLsbD_xor]
theorem b_big {x : Int32} {i : Nat} (h : 32 ≤ i) : bt x i = false := BitVec.getLsbD_of_ge _ _ h
theorem b_255 (i : Nat) : bt 255 i = decide (i < 8) := by
  rcases Nat.lt_or_ge i 32 with h | h
  · exact (by decide +kernel : ∀ i, i < 32 → bt 255 i = decide (i < 8)) i h
  · rw [b_big h, decide_eq_false (by omega)]
theorem b_65535 (i : Nat) : bt 65535 i = decide (i < 16) := by
  rcases Nat.lt_or_ge i 32 with h | h
  · exact (by decide +kernel : ∀ i, i < 32 → bt 65535 i = decide (i < 16)) i h
  · rw [b_big h, decide_eq_false (by omega)]
theorem b_m1 : ∀ i, i < 32 → bt (-1) i = true := by decide +kernel
theorem b_0 (i : Nat) : bt 0 i = false := BitVec.getLsbD_zero
theorem s_l : ∀ n, n < 32 → ((nI n &&& 31).toBitVec.smod 32).toNat = n := by decide +kernel
theorem s_u : ∀ n, n < 32 → (((nI n).toUInt32 &&& Int32.toUInt32 31).toBitVec % 32).toNat = n := by decide +kernel
theorem b_shl (n : Nat) (hn : n < 32) (x : Int32) {i : Nat} (hi : i < 32) : bt (x <<< (nI n &&& 31)) i = (decide (n ≤ i) && bt x (i - n)) := by
  unfold bt
  rw [Int32.toBitVec_shiftLeft]
  show (x.toBitVec <<< ((nI n &&& 31).toBitVec.smod 32).toNat).getLsbD i = _
  rw [s_l n hn, BitVec.getLsbD_shiftLeft]
  rcases Nat.lt_or_ge i n with h | h
  · simp [h, Nat.not_le.mpr h]
  · simp [hi, h, Nat.not_lt.mpr h]
theorem b_ushr (n : Nat) (hn : n < 32) (x : Int32) (i : Nat) : bt ((x.toUInt32 >>> ((nI n).toUInt32 &&& Int32.toUInt32 31)).toInt32) i = bt x (n + i) := by
  show (x.toUInt32 >>> ((nI n).toUInt32 &&& Int32.toUInt32 31)).toBitVec.getLsbD i = x.toUInt32.toBitVec.getLsbD (n + i)
  rw [UInt32.toBitVec_shiftRight]
  show (x.toUInt32.toBitVec >>> (((nI n).toUInt32 &&& Int32.toUInt32 31).toBitVec % 32).toNat).getLsbD i = _
  rw [s_u n hn, BitVec.getLsbD_ushiftRight]
theorem b_sshr (n : Nat) (hn : n < 32) (x : Int32) {i : Nat} (hi : i < 32) : bt (x >>> (nI n &&& 31)) i = if n + i < 32 then bt x (n + i) else bt x 31 := by
  unfold bt
  rw [Int32.toBitVec_shiftRight]
  show (x.toBitVec.sshiftRight ((nI n &&& 31).toBitVec.smod 32).toNat).getLsbD i = _
  rw [s_l n hn, BitVec.getLsbD_sshiftRight, BitVec.msb_eq_getLsbD_last]
  simp [hi]
theorem b_shl8 (x : Int32) {i : Nat} (hi : i < 32) : bt (x <<< ((8 : Int32) &&& 31)) i = (decide (8 ≤ i) && bt x (i - 8)) := b_shl 8 (by omega) x hi
theorem b_shl16 (x : Int32) {i : Nat} (hi : i < 32) : bt (x <<< ((16 : Int32) &&& 31)) i = (decide (16 ≤ i) && bt x (i - 16)) := b_shl 16 (by omega) x hi
theorem b_shl24 (x : Int32) {i : Nat} (hi : i < 32) : bt (x <<< ((24 : Int32) &&& 31)) i = (decide (24 ≤ i) && bt x (i - 24)) := b_shl 24 (by omega) x hi
theorem b_sshr8 (x : Int32) {i : Nat} (hi : i < 32) : bt (x >>> ((8 : Int32) &&& 31)) i = if 8 + i < 32 then bt x (8 + i) else bt x 31 := b_sshr 8 (by omega) x hi
/-! ===== nI under and, xor, >>>, one bit, 65535 ===== -/
theorem nx_and (a b : Nat) : nI a &&& nI b = nI (a &&& b) := by
  apply Int32.toBitVec_inj.1
  show BitVec.ofNat 32 a &&& BitVec.ofNat 32 b = BitVec.ofNat 32 (a &&& b)
  apply BitVec.eq_of_getLsbD_eq
  intro i hi
  simp [hi]
theorem nx_xor (a b : Nat) : nI a ^^^ nI b = nI (a ^^^ b) := by
  apply Int32.toBitVec_inj.1
  show BitVec.ofNat 32 a ^^^ BitVec.ofNat 32 b = BitVec.ofNat 32 (a ^^^ b)
  apply BitVec.eq_of_getLsbD_eq
  intro i hi
  simp [hi]
theorem nx_cnt : ∀ j : Fin 32, (UInt32.ofNat j.val &&& Int32.toUInt32 31).toNat % 32 = j.val := by decide +kernel
theorem nx_ush {k j : Nat} (hk : k < 65536) (hj : j < 32) : ((nI k).toUInt32 >>> ((nI j).toUInt32 &&& Int32.toUInt32 31)).toInt32 = nI (k >>> j) := by
  have hs : k >>> j ≤ k := by
    rw [Nat.shiftRight_eq_div_pow]
    exact Nat.div_le_self _ _
  have e2 : UInt32.ofNat k >>> (UInt32.ofNat j &&& Int32.toUInt32 31) = UInt32.ofNat (k >>> j) := by
    apply UInt32.toNat_inj.1
    have h1 : (UInt32.ofNat k).toNat = k := Nat.mod_eq_of_lt (by omega)
    have h2 : (UInt32.ofNat (k >>> j)).toNat = k >>> j := Nat.mod_eq_of_lt (by omega)
    rw [UInt32.toNat_shiftRight, nx_cnt ⟨j, hj⟩, h1, h2]
  show (UInt32.ofNat k >>> (UInt32.ofNat j &&& Int32.toUInt32 31)).toInt32 = _
  rw [e2]
  rfl
theorem nx_bit {k j : Nat} (hk : k < 65536) (hj : j < 16) : (((nI k).toUInt32 >>> ((nI j).toUInt32 &&& Int32.toUInt32 31)).toInt32 &&& 1) = 0 ↔ k.testBit j = false := by
  rw [nx_ush hk (by omega)]
  show nI (k >>> j) &&& nI 1 = 0 ↔ _
  rw [nx_and, Nat.and_one_is_mod, ← nI_0, nI_eq (by omega) (by omega), Nat.testBit_eq_decide_div_mod_eq, Nat.shiftRight_eq_div_pow, decide_eq_false_iff_not]
  generalize k / 2 ^ j = z
  omega
theorem nx_mod (k : Nat) : nI k &&& 65535 = nI (k % 65536) := by
  show nI k &&& nI 65535 = _
  rw [nx_and, show (65535 : Nat) = 2 ^ 16 - 1 from rfl, Nat.and_two_pow_sub_one_eq_mod]
theorem nx_m16 {k : Nat} (h : k < 65536) : nI k &&& 65535 = nI k := by rw [nx_mod, Nat.mod_eq_of_lt h]
theorem nx_mask (x : Int32) : ∃ k, k < 65536 ∧ x &&& 65535 = nI k := by
  have e : x = nI x.toBitVec.toNat := by
    apply Int32.toBitVec_inj.1
    show x.toBitVec = BitVec.ofNat 32 x.toBitVec.toNat
    simp
  refine ⟨x.toBitVec.toNat % 65536, Nat.mod_lt _ (by omega), ?_⟩
  rw [← nx_mod, ← e]
/-! ===== Int32 as a set of bits: test, set ===== -/
def nf_M (m : Int32) : Nat := 4294967296 - m.toBitVec.toNat
theorem nf_sh : ∀ l, l < 32 → ((1 : Int32) <<< (nI l &&& 31)).toBitVec = BitVec.twoPow 32 l := by decide +kernel
theorem nf_sl : ∀ l, l < 32 → (((nI l).toUInt32 &&& Int32.toUInt32 31).toBitVec % 32).toNat = l := by decide +kernel
theorem nf_tp : ∀ l, l < 32 → BitVec.twoPow 32 l ≠ 0#32 := by decide +kernel
theorem nf_bit (m : Int32) (l : Nat) (hl : l < 32) : ((m.toUInt32 >>> ((nI l).toUInt32 &&& Int32.toUInt32 31)).toInt32 &&& 1) = 0 ↔ (m &&& ((1 : Int32) <<< (nI l &&& 31))) = 0 := by
  have e : ((m.toUInt32 >>> ((nI l).toUInt32 &&& Int32.toUInt32 31)).toInt32).toBitVec = m.toBitVec >>> l := by
    show m.toBitVec >>> (((nI l).toUInt32 &&& Int32.toUInt32 31).toBitVec % 32) = m.toBitVec >>> l
    rw [BitVec.ushiftRight_eq', nf_sl l hl]
  rw [← Int32.toBitVec_inj, ← Int32.toBitVec_inj, Int32.toBitVec_and, Int32.toBitVec_and, nf_sh l hl, e, BitVec.and_twoPow]
  show (m.toBitVec >>> l &&& 1#32) = 0#32 ↔ _ = 0#32
  rw [BitVec.and_one_eq_setWidth_ofBool_getLsbD, BitVec.getLsbD_ushiftRight, Nat.add_zero]
  cases hb : m.toBitVec.getLsbD l
  · exact ⟨fun _ => by simp, fun _ => by decide⟩
  · exact ⟨fun z => absurd z (by decide), fun z => absurd ((if_pos rfl).symm.trans z) (nf_tp l hl)⟩
theorem nf_gr (m k : Int32) (h : m &&& k = 0) (hk : k ≠ 0) : nf_M (m ||| k) < nf_M m := by
  have hm := m.toBitVec.isLt
  have hm' := (m ||| k).toBitVec.isLt
  have h1 : m.toBitVec.toNat ≤ (m ||| k).toBitVec.toNat := by
    rw [Int32.toBitVec_or, BitVec.toNat_or]
    exact Nat.left_le_or
  have h2 : m.toBitVec.toNat ≠ (m ||| k).toBitVec.toNat := by
    intro e
    have e2 : m = m ||| k := Int32.toBitVec_inj.mp (BitVec.eq_of_toNat_eq e)
    apply hk
    apply Int32.toBitVec_inj.mp
    show k.toBitVec = 0#32
    apply BitVec.eq_of_getLsbD_eq
    intro i hi
    have a : m.toBitVec.getLsbD i = (m.toBitVec.getLsbD i || k.toBitVec.getLsbD i) := by rw [← BitVec.getLsbD_or, ← Int32.toBitVec_or, ← e2]
    have b : (m.toBitVec.getLsbD i && k.toBitVec.getLsbD i) = false := by
      rw [← BitVec.getLsbD_and, ← Int32.toBitVec_and, h]
      exact BitVec.getLsbD_zero
    rw [BitVec.getLsbD_zero]
    revert a b
    cases m.toBitVec.getLsbD i <;> cases k.toBitVec.getLsbD i <;> simp
  unfold nf_M
  omega
/-! ===== a byte read unsigned ===== -/
theorem bp_b (x : Int32) : x.toInt8.toInt32 &&& 255 = x &&& 255 := by
  apply Int32.toBitVec_inj.mp
  rw [Int32.toBitVec_and, Int32.toBitVec_and, Int8.toBitVec_toInt32, Int32.toBitVec_toInt8]
  apply BitVec.eq_of_getLsbD_eq
  intro i hi
  rw [BitVec.getLsbD_and, BitVec.getLsbD_and]
  have hm : ∀ i < 32, 8 ≤ i → (255 : Int32).toBitVec.getLsbD i = false := by decide
  rcases Nat.lt_or_ge i 8 with z | z
  · rw [BitVec.getLsbD_signExtend, BitVec.getLsbD_signExtend, if_pos z, if_pos hi]
    simp only [z, hi, decide_true, Bool.true_and]
  · rw [hm i hi z]; simp
/-! ===== the char cast and 65535 ===== -/
/-! ===== Int64 as a set of bits: test, set, clear ===== -/
theorem ts_nf {x : Bool} (h : ¬ x = false) : x = true := by cases x <;> first | rfl | exact absurd rfl h
theorem ts_nt {x : Bool} (h : ¬ x = true) : x = false := by cases x <;> first | rfl | exact absurd rfl h
theorem ts_bit {w : Int64} {s : UInt64} {j : Nat} (hj : j < 64) (hs : s.toNat = j) : ((w.toUInt64 >>> s).toInt64 &&& 1) = 0 ↔ w.toBitVec.getLsbD j = false := by
  have e : (w.toUInt64 >>> s).toInt64.toBitVec = w.toBitVec >>> j := by
    apply BitVec.eq_of_toNat_eq
    show (w.toUInt64 >>> s).toNat = _
    rw [UInt64.toNat_shiftRight, hs, Nat.mod_eq_of_lt hj, BitVec.toNat_ushiftRight]
    rfl
  rw [← Int64.toBitVec_inj, Int64.toBitVec_and, e]
  show w.toBitVec >>> j &&& 1#64 = 0#64 ↔ _
  constructor
  · intro h
    have t := congrArg (fun x => x.getLsbD 0) h
    simpa using t
  · intro h
    apply BitVec.eq_of_getLsbD_eq
    intro i hi
    cases i with
    | zero => simp [h]
    | succ i => simp
theorem ts_or {w m : Int64} {j : Nat} (hj : j < 64) (hm : m.toBitVec = BitVec.twoPow 64 j) : (w ||| m) = w ↔ w.toBitVec.getLsbD j = true := by
  rw [← Int64.toBitVec_inj, Int64.toBitVec_or, hm]
  constructor
  · intro h
    have t := congrArg (fun x => x.getLsbD j) h
    simp only [BitVec.getLsbD_or, BitVec.getLsbD_twoPow] at t
    simpa [hj] using t.symm
  · intro h
    apply BitVec.eq_of_getLsbD_eq
    intro i hi
    rw [BitVec.getLsbD_or, BitVec.getLsbD_twoPow]
    by_cases e : j = i
    · subst e; rw [h, Bool.true_or]
    · simp [e]
theorem ts_and {w m : Int64} {j : Nat} (hj : j < 64) (hm : m.toBitVec = BitVec.twoPow 64 j) : (w &&& (m ^^^ (-1))) = w ↔ w.toBitVec.getLsbD j = false := by
  have ha : (-1 : Int64).toBitVec = BitVec.allOnes 64 := by decide
  rw [← Int64.toBitVec_inj, Int64.toBitVec_and, Int64.toBitVec_xor, hm, ha]
  constructor
  · intro h
    have t := congrArg (fun x => x.getLsbD j) h
    simp only [BitVec.getLsbD_and, BitVec.getLsbD_xor, BitVec.getLsbD_twoPow, BitVec.getLsbD_allOnes] at t
    simpa [hj] using t.symm
  · intro h
    apply BitVec.eq_of_getLsbD_eq
    intro i hi
    rw [BitVec.getLsbD_and, BitVec.getLsbD_xor, BitVec.getLsbD_twoPow, BitVec.getLsbD_allOnes]
    by_cases e : j = i
    · subst e; rw [h, Bool.false_and]
    · simp [e, hi]
/-! ===== lN n to 2^64: shifts, and, or, masks, one bit ===== -/
theorem wb_tb (n : Nat) : (lN n).toBitVec = BitVec.ofNat 64 n := rfl
theorem wb_inj {a b : Int64} (h : a.toBitVec = b.toBitVec) : a = b := Int64.toBitVec_inj.mp h
theorem wb_tn {n : Nat} (h : n < 2 ^ 64) : (lN n).toBitVec.toNat = n := by rw [wb_tb, BitVec.toNat_ofNat, Nat.mod_eq_of_lt h]
theorem wb_of (x : Int64) : ∃ n, n < 2 ^ 64 ∧ x = lN n := ⟨x.toBitVec.toNat, x.toBitVec.isLt, wb_inj (by rw [wb_tb]; simp)⟩
theorem wb_of32 (x : Int32) : ∃ n, n < 2 ^ 32 ∧ x = nI n := ⟨x.toBitVec.toNat, x.toBitVec.isLt, Int32.toBitVec_inj.mp (by show _ = BitVec.ofNat 32 _; simp)⟩
theorem wb_c : ∀ k, k < 64 → ((nI k).toInt64 &&& 63) = lN k := by decide +kernel
theorem wb_cu : ∀ k, k < 64 → ((nI k).toInt64.toUInt64 &&& Int64.toUInt64 63) = UInt64.ofNat k := by decide +kernel
theorem wb_sm : ∀ k, k < 64 → (BitVec.ofNat 64 k).smod 64 = BitVec.ofNat 64 k := by decide +kernel
theorem wb_pw {a b : Nat} (h : a ≤ b) : 2 ^ b = 2 ^ a * 2 ^ (b - a) := by rw [← Nat.pow_add]; congr 1; omega
theorem wb_lt2 {a b : Nat} (h : a < b) : 2 ^ a < 2 ^ b := Nat.pow_lt_pow_right (by decide) h
theorem wb_mod (n : Nat) : lN n = lN (n % 2 ^ 64) := wb_inj (by rw [wb_tb, wb_tb]; apply BitVec.eq_of_toNat_eq; rw [BitVec.toNat_ofNat, BitVec.toNat_ofNat, Nat.mod_mod])
theorem wb_shr {n k : Nat} (hn : n < 2 ^ 64) (hk : k < 64) : ((lN n).toUInt64 >>> ((nI k).toInt64.toUInt64 &&& Int64.toUInt64 63)).toInt64 = lN (n / 2 ^ k) := by
  rw [wb_cu k hk]
  apply wb_inj
  apply BitVec.eq_of_toNat_eq
  show ((lN n).toUInt64 >>> UInt64.ofNat k).toNat = (BitVec.ofNat 64 _).toNat
  have h1 : (UInt64.ofNat k).toNat = k := by
    show (BitVec.ofNat 64 k).toNat = k
    rw [BitVec.toNat_ofNat, Nat.mod_eq_of_lt (by omega)]
  have h2 : (lN n).toUInt64.toNat = n := wb_tn hn
  rw [UInt64.toNat_shiftRight, h1, h2, Nat.mod_eq_of_lt hk, Nat.shiftRight_eq_div_pow, BitVec.toNat_ofNat, Nat.mod_eq_of_lt (Nat.lt_of_le_of_lt (Nat.div_le_self _ _) hn)]
theorem wb_shl (n : Nat) {k : Nat} (hk : k < 64) : lN n <<< ((nI k).toInt64 &&& 63) = lN (n * 2 ^ k) := by
  rw [wb_c k hk]
  apply wb_inj
  rw [Int64.toBitVec_shiftLeft, wb_tb, wb_tb, wb_tb, wb_sm k hk]
  apply BitVec.eq_of_toNat_eq
  rw [BitVec.shiftLeft_eq', BitVec.toNat_shiftLeft, BitVec.toNat_ofNat, BitVec.toNat_ofNat, BitVec.toNat_ofNat, Nat.mod_eq_of_lt (show k < 2 ^ 64 by omega), Nat.shiftLeft_eq, Nat.mul_mod, Nat.mod_mod, ← Nat.mul_mod]
theorem wb_and {a b : Nat} (ha : a < 2 ^ 64) (hb : b < 2 ^ 64) : lN a &&& lN b = lN (a &&& b) := by
  apply wb_inj
  rw [Int64.toBitVec_and, wb_tb, wb_tb, wb_tb]
  apply BitVec.eq_of_toNat_eq
  rw [BitVec.toNat_and, BitVec.toNat_ofNat, BitVec.toNat_ofNat, BitVec.toNat_ofNat, Nat.mod_eq_of_lt ha, Nat.mod_eq_of_lt hb, Nat.mod_eq_of_lt (Nat.and_lt_two_pow _ hb)]
theorem wb_or {a b : Nat} (ha : a < 2 ^ 64) (hb : b < 2 ^ 64) : lN a ||| lN b = lN (a ||| b) := by
  apply wb_inj
  rw [Int64.toBitVec_or, wb_tb, wb_tb, wb_tb]
  apply BitVec.eq_of_toNat_eq
  rw [BitVec.toNat_or, BitVec.toNat_ofNat, BitVec.toNat_ofNat, BitVec.toNat_ofNat, Nat.mod_eq_of_lt ha, Nat.mod_eq_of_lt hb, Nat.mod_eq_of_lt (Nat.or_lt_two_pow ha hb)]
theorem wb_mask {n k : Nat} (hn : n < 2 ^ 64) (hk : k < 64) : lN n &&& lN (2 ^ k - 1) = lN (n % 2 ^ k) := by
  rw [wb_and hn (by have := wb_lt2 hk; omega), Nat.and_two_pow_sub_one_eq_mod]
theorem wb_a1 {n : Nat} (hn : n < 2 ^ 64) : lN n &&& 1 = lN (n % 2) := wb_mask (k := 1) hn (by decide)
theorem wb_bit {n k : Nat} (hn : n < 2 ^ 64) (hk : k < 64) : ((lN n).toUInt64 >>> ((nI k).toInt64.toUInt64 &&& Int64.toUInt64 63)).toInt64 &&& 1 = lN (n / 2 ^ k % 2) := by
  rw [wb_shr hn hk, wb_a1 (Nat.lt_of_le_of_lt (Nat.div_le_self _ _) hn)]
theorem wb_xor {q k : Nat} (hk : k < 63) (h : 2 ^ k ≤ q) (h2 : q < 2 ^ (k + 1)) : lN q ^^^ lN (2 ^ k) = lN (q - 2 ^ k) := by
  obtain ⟨r, rfl⟩ : ∃ r, q = 2 ^ k + r := ⟨q - 2 ^ k, by omega⟩
  have hr : r < 2 ^ k := by rw [Nat.pow_succ] at h2; omega
  have hx : (2 ^ k + r) ^^^ 2 ^ k = r := by
    apply Nat.eq_of_testBit_eq
    intro i
    rw [Nat.testBit_xor, Nat.testBit_two_pow]
    rcases Nat.lt_trichotomy i k with h | h | h
    · rw [Nat.testBit_two_pow_add_gt h]
      simp [show ¬ k = i by omega]
    · subst h
      rw [Nat.testBit_two_pow_add_eq]
      simp
    · have a1 : 2 ^ (k + 1) ≤ 2 ^ i := Nat.pow_le_pow_right (by decide) h
      rw [Nat.testBit_lt_two_pow (show 2 ^ k + r < 2 ^ i by omega), Nat.testBit_lt_two_pow (show r < 2 ^ i by omega)]
      simp [show ¬ k = i by omega]
  have b1 := wb_lt2 (show k + 1 < 64 by omega)
  have b2 := wb_lt2 (show k < 64 by omega)
  apply wb_inj
  rw [Int64.toBitVec_xor, wb_tb, wb_tb, wb_tb]
  apply BitVec.eq_of_toNat_eq
  rw [BitVec.toNat_xor, BitVec.toNat_ofNat, BitVec.toNat_ofNat, BitVec.toNat_ofNat, Nat.mod_eq_of_lt (by omega : 2 ^ k + r < 2 ^ 64), Nat.mod_eq_of_lt b2, hx, Nat.add_sub_cancel_left, Nat.mod_eq_of_lt (by omega)]
/-! ===== lN: masks, 'or' of parts that don't overlap is a sum ===== -/
theorem u_tn {n : Nat} (h : n < 2 ^ 64) : (UInt64.ofNat n).toNat = n := Nat.mod_eq_of_lt h
theorem g_and {a b c : Nat} (ha : a < 2 ^ 64) (hb : b < 2 ^ 64) (hc : a &&& b = c) : lN a &&& lN b = lN c := by
  subst hc
  have h : UInt64.ofNat a &&& UInt64.ofNat b = UInt64.ofNat (a &&& b) := UInt64.toNat_inj.mp (by rw [UInt64.toNat_and, u_tn ha, u_tn hb, u_tn (Nat.and_lt_two_pow a hb)])
  have h2 := congrArg UInt64.toInt64 h
  exact h2
theorem g_and1 {a : Nat} (ha : a < 2 ^ 64) : lN a &&& 1 = lN (a % 2) := g_and (b := 1) ha (by decide) (Nat.and_two_pow_sub_one_eq_mod a 1)
theorem g_mask {a s p : Nat} (hp : 2 ^ s = p) (hs : s < 64) (ha : a < 2 ^ 64) : lN a &&& lN (p - 1) = lN (a % p) := by
  subst hp
  have := Nat.pow_lt_pow_right (show 1 < 2 by decide) hs
  exact g_and ha (by omega) (Nat.and_two_pow_sub_one_eq_mod a s)
theorem g_or {k p a b : Nat} (hp : 2 ^ k = p) (ha : a < p) (h : b * p + a < 2 ^ 64) : lN (b * p) ||| lN a = lN (b * p + a) := by
  subst hp
  have h1 : b * 2 ^ k ||| a = b * 2 ^ k + a := by rw [← Nat.shiftLeft_eq, Nat.shiftLeft_add_eq_or_of_lt ha]
  have h3 : UInt64.ofNat (b * 2 ^ k) ||| UInt64.ofNat a = UInt64.ofNat (b * 2 ^ k + a) := UInt64.toNat_inj.mp (by rw [UInt64.toNat_or, u_tn (by omega), u_tn (by omega), u_tn h, h1])
  have h2 := congrArg UInt64.toInt64 h3
  exact h2
theorem g_or' {k p a b : Nat} (hp : 2 ^ k = p) (ha : a < p) (h : a + b * p < 2 ^ 64) : lN a ||| lN (b * p) = lN (a + b * p) := by
  rw [Int64.or_comm, g_or hp ha (by omega), Nat.add_comm]
theorem g_ushr {a k p : Nat} {y : UInt64} (hy : y = UInt64.ofNat k) (hk : k < 64) (hp : 2 ^ k = p) (ha : a < 2 ^ 64) : ((lN a).toUInt64 >>> y).toInt64 = lN (a / p) := by
  subst hy hp
  have h : UInt64.ofNat a >>> UInt64.ofNat k = UInt64.ofNat (a / 2 ^ k) := UInt64.toNat_inj.mp (by rw [UInt64.toNat_shiftRight, u_tn ha, u_tn (by omega), u_tn (Nat.lt_of_le_of_lt (Nat.div_le_self _ _) ha), Nat.mod_eq_of_lt hk, Nat.shiftRight_eq_div_pow])
  have h2 := congrArg UInt64.toInt64 h
  exact h2
theorem g_shl {a k p : Nat} {y : Int64} (hy : y.toBitVec.smod 64 = BitVec.ofNat 64 k) (hk : k < 64) (hp : 2 ^ k = p) (ha : a < 2 ^ 64) : lN a <<< y = lN (a * p) := by
  subst hp
  apply Int64.toBitVec_inj.mp
  rw [Int64.toBitVec_shiftLeft, hy]
  apply BitVec.eq_of_toNat_eq
  have hb : (lN a).toBitVec.toNat = a := Nat.mod_eq_of_lt ha
  have hk' : (BitVec.ofNat 64 k).toNat = k := Nat.mod_eq_of_lt (by omega)
  have h : ((lN a).toBitVec <<< BitVec.ofNat 64 k).toNat = (a * 2 ^ k) % 2 ^ 64 := by simp only [BitVec.shiftLeft_eq', BitVec.toNat_shiftLeft, hb, hk', Nat.shiftLeft_eq]
  exact h
/-! ===== lN to 2^62 under >> and >>> ===== -/
theorem pf_lI {a : Nat} (h : a < 2 ^ 63) : (lN a).toInt = (a : Int) := lg_ofNat_toInt h
theorem pf_shr {a d : Nat} {D : Int64} (hD : (D.toBitVec.smod 64).toNat = d) (h : a < 2 ^ 62) : lN a >>> D = lN (a / 2 ^ d) := by
  have hd : a / 2 ^ d ≤ a := Nat.div_le_self _ _
  apply Int64.toInt_inj.mp
  have e : (lN a >>> D).toInt = (lN a).toInt >>> d := by
    rw [← hD]
    exact BitVec.toInt_sshiftRight ..
  rw [e, Int.shiftRight_eq_div_pow, pf_lI (by omega), pf_lI (by omega)]
  rfl
theorem pf_ushr {a d : Nat} {D : UInt64} (hD : D.toNat % 64 = d) (h : a < 2 ^ 62) : ((lN a).toUInt64 >>> D).toInt64 = lN (a / 2 ^ d) := by
  have hd : a / 2 ^ d ≤ a := Nat.div_le_self _ _
  have e : (lN a).toUInt64 >>> D = UInt64.ofNat (a / 2 ^ d) := UInt64.toNat_inj.mp (by
    rw [UInt64.toNat_shiftRight, hD, Nat.shiftRight_eq_div_pow, UInt64.toNat_ofNat']
    show (UInt64.ofNat a).toNat / 2 ^ d = _
    rw [UInt64.toNat_ofNat', Nat.mod_eq_of_lt (by omega), Nat.mod_eq_of_lt (by omega)])
  rw [e]
  rfl
theorem pf_andw (x : Int64) : ∃ m, m < 2 ^ 32 ∧ x &&& 4294967295 = lN m := ⟨x.toBitVec.toNat % 2 ^ 32, Nat.mod_lt _ (by decide), Int64.toBitVec_inj.mp (BitVec.eq_of_toNat_eq (by
  show (x.toBitVec &&& 4294967295#64).toNat = (BitVec.ofNat 64 (x.toBitVec.toNat % 2 ^ 32)).toNat
  rw [BitVec.toNat_and, show (4294967295#64).toNat = 2 ^ 32 - 1 from by decide, Nat.and_two_pow_sub_one_eq_mod, BitVec.toNat_ofNat]
  omega))⟩
/-! ===== Int64 as an unsigned number: uN x ===== -/
def uN (x : Int64) : Nat := x.toUInt64.toNat
theorem uN_lt (x : Int64) : uN x < 18446744073709551616 := x.toUInt64.toNat_lt
theorem uN_inj {x y : Int64} (h : uN x = uN y) : x = y := congrArg UInt64.toInt64 (UInt64.toNat_inj.mp h)
theorem uN_add (x y : Int64) : uN (x + y) = (uN x + uN y) % 18446744073709551616 := by
  show (x.toUInt64 + y.toUInt64).toNat = _
  exact UInt64.toNat_add _ _
theorem uN_mul (x y : Int64) : uN (x * y) = (uN x * uN y) % 18446744073709551616 := by
  show (x.toUInt64 * y.toUInt64).toNat = _
  exact UInt64.toNat_mul _ _
theorem uN_shl (x : Int64) : uN (x <<< ((1 : Int32).toInt64 &&& 63)) = (2 * uN x) % 18446744073709551616 := by
  have h : (((1 : Int32).toInt64 &&& 63).toBitVec.smod 64).toNat = 1 := by decide
  show (x.toBitVec <<< (((1 : Int32).toInt64 &&& 63).toBitVec.smod 64).toNat).toNat = _
  rw [h, BitVec.toNat_shiftLeft, Nat.shiftLeft_eq, Nat.mul_comm]
  rfl
theorem uN_shr (x : Int64) (s : UInt64) : uN (x.toUInt64 >>> s).toInt64 = uN x / 2 ^ (s.toNat % 64) := by
  show (x.toUInt64 >>> s).toNat = _
  rw [UInt64.toNat_shiftRight, Nat.shiftRight_eq_div_pow]
  rfl
theorem uN_s32 (x : Int64) : uN (x.toUInt64 >>> ((32 : Int32).toInt64.toUInt64 &&& Int64.toUInt64 63)).toInt64 = uN x / 4294967296 := by
  have h : ((32 : Int32).toInt64.toUInt64 &&& Int64.toUInt64 63).toNat % 64 = 32 := by decide
  rw [uN_shr, h]
theorem uN_s63 (x : Int64) : uN (x.toUInt64 >>> ((63 : Int32).toInt64.toUInt64 &&& Int64.toUInt64 63)).toInt64 = uN x / 9223372036854775808 := by
  have h : ((63 : Int32).toInt64.toUInt64 &&& Int64.toUInt64 63).toNat % 64 = 63 := by decide
  rw [uN_shr, h]
theorem uN_lo (x : Int64) : uN (x &&& 4294967295) = uN x % 4294967296 := by
  show (x.toUInt64 &&& Int64.toUInt64 4294967295).toNat = _
  rw [UInt64.toNat_and]
  exact Nat.and_two_pow_sub_one_eq_mod _ 32
theorem uN_bit (x : Int64) : (x &&& 1) = 0 ↔ uN x % 2 = 0 := by
  have h : uN (x &&& 1) = uN x % 2 := by
    show (x.toUInt64 &&& Int64.toUInt64 1).toNat = _
    rw [UInt64.toNat_and]
    exact Nat.and_two_pow_sub_one_eq_mod _ 1
  rw [← h]
  exact ⟨fun z => by rw [z]; rfl, fun z => uN_inj (z.trans rfl)⟩
theorem uN_or {x y : Int64} (hy : uN y < 2) : uN ((x <<< ((1 : Int32).toInt64 &&& 63)) ||| y) = (2 * uN x) % 18446744073709551616 + uN y := by
  have h1 : uN ((x <<< ((1 : Int32).toInt64 &&& 63)) ||| y) = uN (x <<< ((1 : Int32).toInt64 &&& 63)) ||| uN y := UInt64.toNat_or _ _
  have h2 : (2 * uN x) % 18446744073709551616 = 2 ^ 1 * (uN x % 9223372036854775808) := by omega
  rw [h1, uN_shl, h2]
  exact (Nat.two_pow_add_eq_or_of_lt (i := 1) hy _).symm
theorem nat_xor {a : Nat} (h : a < 18446744073709551616) : a ^^^ 2 ^ 63 = (a + 9223372036854775808) % 18446744073709551616 := by
  have h1 : (a ^^^ 2 ^ 63) % 2 ^ 63 = a % 2 ^ 63 := by rw [Nat.xor_mod_two_pow, Nat.mod_self, Nat.xor_zero]
  have h2 : (a ^^^ 2 ^ 63) / 2 ^ 63 = (a / 2 ^ 63) ^^^ 1 := by rw [Nat.xor_div_two_pow, Nat.div_self (Nat.two_pow_pos 63)]
  have h3 : a / 2 ^ 63 = 0 ∨ a / 2 ^ 63 = 1 := by omega
  generalize a ^^^ 2 ^ 63 = t at h1 h2
  rcases h3 with h3 | h3
  · rw [h3] at h2
    have h2 : t / 2 ^ 63 = 1 := h2
    omega
  · rw [h3] at h2
    have h2 : t / 2 ^ 63 = 0 := h2
    omega
theorem uN_xor (x : Int64) : uN (x ^^^ (-9223372036854775808)) = (uN x + 9223372036854775808) % 18446744073709551616 := by
  rw [← nat_xor (uN_lt x)]
  exact UInt64.toNat_xor _ _
theorem uN_int (x : Int64) : x.toInt = if 2 * uN x < 18446744073709551616 then (uN x : Int) else (uN x : Int) - 18446744073709551616 := BitVec.toInt_eq_toNat_cond _
theorem uN_le (x y : Int64) : (x ^^^ (-9223372036854775808)) ≤ (y ^^^ (-9223372036854775808)) ↔ uN x ≤ uN y := by
  have hx := uN_lt x
  have hy := uN_lt y
  rw [Int64.le_iff_toInt_le, uN_int, uN_int, uN_xor, uN_xor]
  omega
theorem uN_sk (x : Int64) {k : Nat} (hk : k < 64) : uN (x.toUInt64 >>> ((nI k).toInt64.toUInt64 &&& Int64.toUInt64 63)).toInt64 = uN x / 2 ^ k := by
  have h : ((nI k).toInt64.toUInt64 &&& Int64.toUInt64 63).toNat % 64 = k := by
    rw [nI_l (by omega), UInt64.toNat_and]
    have e : (lN k).toUInt64.toNat = k % 2 ^ 64 := rfl
    have e2 : (Int64.toUInt64 63).toNat = 2 ^ 6 - 1 := by decide
    rw [e, e2, Nat.and_two_pow_sub_one_eq_mod]
    omega
  rw [uN_shr, h]
/-! ===== unsigned comparison by xor with the least ===== -/
theorem lN_bv (n : Nat) : (lN n).toBitVec = BitVec.ofNat 64 n := rfl
theorem lN_nat {n : Nat} (h : n < 2 ^ 64) : (lN n).toBitVec.toNat = n := by rw [lN_bv, BitVec.toNat_ofNat]; exact Nat.mod_eq_of_lt h
theorem lN_xor (a b : Nat) : lN a ^^^ lN b = lN (a ^^^ b) := by
  apply Int64.toBitVec_inj.mp; rw [Int64.toBitVec_xor, lN_bv, lN_bv, lN_bv]; apply BitVec.eq_of_getLsbD_eq; intro i hi; simp [BitVec.getLsbD_ofNat, Nat.testBit_xor, hi]
theorem lN_ti {m : Nat} (h : m < 2 ^ 64) : (lN m).toInt = if m < 2 ^ 63 then (m : Int) else (m : Int) - 2 ^ 64 := by
  have c := BitVec.toInt_eq_toNat_cond (lN m).toBitVec
  rw [lN_nat h] at c
  show (lN m).toBitVec.toInt = _
  rw [c]
  split <;> split <;> omega
theorem xor63 {x : Nat} (h : x < 2 ^ 63) : x ^^^ 2 ^ 63 = 2 ^ 63 + x := by
  apply Nat.eq_of_testBit_eq
  intro i
  rw [Nat.testBit_xor, Nat.testBit_two_pow]
  rcases Nat.lt_trichotomy i 63 with z | z | z
  · rw [Nat.testBit_two_pow_add_gt z, decide_eq_false (by omega)]; simp
  · subst z; rw [Nat.testBit_two_pow_add_eq]; simp
  · have hp : 2 ^ 64 ≤ 2 ^ i := Nat.pow_le_pow_right (by decide) z
    rw [Nat.testBit_lt_two_pow (show x < 2 ^ i by omega), Nat.testBit_lt_two_pow (show 2 ^ 63 + x < 2 ^ i by omega), decide_eq_false (by omega)]; rfl
theorem xorS {a : Nat} (h : a < 2 ^ 64) : (lN a ^^^ (-9223372036854775808)).toInt = (a : Int) - 2 ^ 63 := by
  rw [show (-9223372036854775808 : Int64) = lN (2 ^ 63) from by decide +kernel, lN_xor]
  rcases Nat.lt_or_ge a (2 ^ 63) with z | z
  · rw [xor63 z, lN_ti (by omega), if_neg (by omega)]; omega
  · obtain ⟨x, rfl⟩ : ∃ x, a = 2 ^ 63 + x := ⟨a - 2 ^ 63, by omega⟩
    rw [← xor63 (by omega), Nat.xor_assoc, Nat.xor_self, Nat.xor_zero, lN_ti (by omega), if_pos (by omega), xor63 (by omega)]; omega
theorem ultL {a b : Nat} (ha : a < 2 ^ 64) (hb : b < 2 ^ 64) : ((lN b ^^^ (-9223372036854775808)) ≤ (lN a ^^^ (-9223372036854775808))) ↔ b ≤ a := by
  rw [Int64.le_iff_toInt_le, xorS ha, xorS hb]; omega
/-! ===== Int64 masks of n low bits ===== -/
theorem cr_bits (W U M : BitVec 64) : ((W &&& U) &&& (U &&& (M ^^^ BitVec.allOnes 64))) = 0#64 ↔ (W &&& U) &&& M = W &&& U := by
  constructor
  · intro h
    apply BitVec.eq_of_getLsbD_eq
    intro i hi
    have e := congrArg (fun x => BitVec.getLsbD x i) h
    simp only [BitVec.getLsbD_and, BitVec.getLsbD_xor, BitVec.getLsbD_allOnes, BitVec.getLsbD_zero, hi, decide_true] at e ⊢
    revert e
    cases W.getLsbD i <;> cases U.getLsbD i <;> cases M.getLsbD i <;> decide
  · intro h
    apply BitVec.eq_of_getLsbD_eq
    intro i hi
    have e := congrArg (fun x => BitVec.getLsbD x i) h
    simp only [BitVec.getLsbD_and, BitVec.getLsbD_xor, BitVec.getLsbD_allOnes, BitVec.getLsbD_zero, hi, decide_true] at e ⊢
    revert e
    cases W.getLsbD i <;> cases U.getLsbD i <;> cases M.getLsbD i <;> decide
theorem cr_mask (w U m : Int64) (n : Nat) (hm : m.toBitVec.toNat = 2 ^ n - 1) : ((w &&& U) &&& (U &&& (m ^^^ (-1)))) = 0 ↔ (w &&& U).toBitVec.toNat < 2 ^ n := by
  have e0 : (-1 : Int64).toBitVec = BitVec.allOnes 64 := by decide
  have z0 : (0 : Int64).toBitVec = 0#64 := by decide
  rw [← Int64.toBitVec_inj, z0, Int64.toBitVec_and, Int64.toBitVec_and, Int64.toBitVec_and, Int64.toBitVec_xor, e0, cr_bits]
  generalize w.toBitVec &&& U.toBitVec = T
  rw [← BitVec.toNat_inj, BitVec.toNat_and, hm, Nat.and_two_pow_sub_one_eq_mod]
  constructor
  · intro h
    have t := Nat.mod_lt T.toNat (Nat.two_pow_pos n)
    rw [h] at t
    exact t
  · exact Nat.mod_eq_of_lt
theorem cr_shr (t : Int64) (x : UInt64) (n : Nat) (hx : x.toNat % 64 = n) : (t.toUInt64 >>> x).toInt64 = 0 ↔ t.toBitVec.toNat < 2 ^ n := by
  rw [← Int64.toBitVec_inj, ← BitVec.toNat_inj]
  show (t.toUInt64 >>> x).toNat = 0 ↔ t.toUInt64.toNat < 2 ^ n
  rw [UInt64.toNat_shiftRight, hx, Nat.shiftRight_eq_div_pow]
  constructor
  · intro h
    have d : t.toUInt64.toNat / 2 ^ n < 1 := by
      rw [h]
      decide
    have e := (Nat.div_lt_iff_lt_mul (Nat.two_pow_pos n)).mp d
    rw [Nat.one_mul] at e
    exact e
  · exact Nat.div_eq_of_lt
theorem cr_amt (s : Int64) : ∃ n, n < 64 ∧ s &&& 63 = lN n ∧ (s.toUInt64 &&& Int64.toUInt64 63).toNat % 64 = n := by
  have e : (s.toUInt64 &&& Int64.toUInt64 63).toNat = s.toUInt64.toNat % 2 ^ 6 := by
    rw [UInt64.toNat_and, show (Int64.toUInt64 63).toNat = 2 ^ 6 - 1 from by decide, Nat.and_two_pow_sub_one_eq_mod]
  refine ⟨s.toUInt64.toNat % 2 ^ 6, by omega, ?_, by omega⟩
  rw [← Int64.toBitVec_inj, ← BitVec.toNat_inj]
  show (s.toUInt64 &&& Int64.toUInt64 63).toNat = (BitVec.ofNat 64 (s.toUInt64.toNat % 2 ^ 6)).toNat
  rw [e, BitVec.toNat_ofNat]
  omega
end
section
/-! plain facts on numbers and arrays, to paste: each family by itself; over the kit's rows on nI and upd -/
/-! ===== order of ints, in all its forms, and through longs ===== -/
theorem fa_lt (a b : Int32) : a < b ↔ a.toInt < b.toInt := Int32.lt_iff_toInt_lt
theorem fa_le (a b : Int32) : a ≤ b ↔ a.toInt ≤ b.toInt := Int32.le_iff_toInt_le
theorem fa_eq (a b : Int32) : a = b ↔ a.toInt = b.toInt := Int32.toInt_inj.symm
theorem fa_lt64 (a b : Int64) : a < b ↔ a.toInt < b.toInt := Int64.lt_iff_toInt_lt
theorem fa_le64 (a b : Int64) : a ≤ b ↔ a.toInt ≤ b.toInt := Int64.le_iff_toInt_le
theorem fa_eq64 (a b : Int64) : a = b ↔ a.toInt = b.toInt := Int64.toInt_inj.symm
/-- a comparison of two ints taken as longs -/
theorem fa_wide_lt (a b : Int32) : a.toInt64 < b.toInt64 ↔ a < b := by rw [fa_lt64, fa_lt, Int32.toInt_toInt64, Int32.toInt_toInt64]
theorem fa_wide_le (a b : Int32) : a.toInt64 ≤ b.toInt64 ↔ a ≤ b := by rw [fa_le64, fa_le, Int32.toInt_toInt64, Int32.toInt_toInt64]
theorem fa_wide_eq (a b : Int32) : a.toInt64 = b.toInt64 ↔ a = b := by rw [fa_eq64, fa_eq, Int32.toInt_toInt64, Int32.toInt_toInt64]
/-- one strict comparison gives all the others -/
theorem fa_of_lt {a b : Int32} (h : a < b) : a ≤ b ∧ ¬ b ≤ a ∧ ¬ b < a ∧ a ≠ b ∧ b ≠ a := by
  rw [fa_lt] at h
  refine ⟨?_, ?_, ?_, ?_, ?_⟩
  · rw [fa_le]; omega
  · rw [fa_le]; omega
  · rw [fa_lt]; omega
  · intro e; rw [fa_eq] at e; omega
  · intro e; rw [fa_eq] at e; omega
theorem fa_of_nlt {a b : Int32} (h : ¬ a < b) : b ≤ a := by
  rw [fa_lt] at h
  rw [fa_le]
  omega
theorem fa_of_nle {a b : Int32} (h : ¬ a ≤ b) : b < a := by
  rw [fa_le] at h
  rw [fa_lt]
  omega
theorem fa_le_ne {a b : Int32} (h : a ≤ b) (h2 : a ≠ b) : a < b := by
  rw [fa_le] at h
  rw [fa_lt]
  have h3 : a.toInt ≠ b.toInt := fun e => h2 ((fa_eq a b).mpr e)
  omega
theorem fa_three (a b : Int32) : a < b ∨ a = b ∨ b < a := by
  rw [fa_lt, fa_lt, fa_eq]
  omega
theorem fa_trans {a b c : Int32} (h : a < b) (h2 : b ≤ c) : a < c := by
  rw [fa_lt] at *
  rw [fa_le] at h2
  omega
/-! ===== small literals as numbers ===== -/
theorem fa_lit (n : Nat) : (OfNat.ofNat n : Int32) = nI n := rfl
theorem fa_litL (n : Nat) : (OfNat.ofNat n : Int64) = lN n := rfl
/-! ===== bits of a number: 'or', masks, one bit ===== -/
theorem fa_and (a b : Nat) : nI a &&& nI b = nI (a &&& b) := by
  apply Int32.toBitVec_inj.1
  show BitVec.ofNat 32 a &&& BitVec.ofNat 32 b = BitVec.ofNat 32 (a &&& b)
  apply BitVec.eq_of_getLsbD_eq
  intro i hi
  simp [hi]
theorem fa_or (a b : Nat) : nI a ||| nI b = nI (a ||| b) := by
  apply Int32.toBitVec_inj.1
  show BitVec.ofNat 32 a ||| BitVec.ofNat 32 b = BitVec.ofNat 32 (a ||| b)
  apply BitVec.eq_of_getLsbD_eq
  intro i hi
  simp [hi]
/-- a remainder by a power of two, as a mask -/
theorem fa_mask (n k : Nat) : nI n &&& nI (2 ^ k - 1) = nI (n % 2 ^ k) := by rw [fa_and, Nat.and_two_pow_sub_one_eq_mod]
/-- 'or' of a high part and a low one that don't meet is their sum -/
theorem fa_or_sum {a k : Nat} (b : Nat) (h : a < 2 ^ k) : nI (2 ^ k * b) ||| nI a = nI (2 ^ k * b + a) := by rw [fa_or, Nat.two_pow_add_eq_or_of_lt h]
/-- one bit, by 'and' with a power of two -/
theorem fa_bit {n j : Nat} (hj : j < 31) : nI n &&& nI (2 ^ j) = 0 ↔ n.testBit j = false := by
  have h2 : (2 : Nat) ^ j < 2 ^ 31 := Nat.pow_lt_pow_right (by decide) hj
  have hle : n &&& 2 ^ j ≤ 2 ^ j := Nat.and_le_right
  have e : n &&& 2 ^ j = 0 ↔ n.testBit j = false := by
    constructor
    · intro h
      have h1 : (n &&& 2 ^ j).testBit j = false := by rw [h]; simp
      rw [Nat.testBit_and] at h1
      first | simpa using h1 | simpa [Nat.testBit_two_pow_self] using h1 | simpa [Nat.testBit_two_pow] using h1
    · intro h
      apply Nat.eq_of_testBit_eq
      intro i
      rw [Nat.testBit_and]
      by_cases hi : j = i
      · subst hi; simp [h]
      · first | (simp [Nat.testBit_two_pow, hi]; done) | (simp [Nat.testBit_two_pow_of_ne hi]; done)
  rw [fa_and]
  constructor
  · intro h
    apply e.mp
    rcases Nat.eq_zero_or_pos (n &&& 2 ^ j) with z | z
    · exact z
    · exact absurd h (nI_ne0 z (Nat.lt_of_le_of_lt hle h2))
  · intro h
    rw [e.mpr h]; exact nI_0
/-- a remainder by a power of two of a number that isn't negative, as Java divides -/
theorem fa_rem {a k : Nat} (ha : a < 2 ^ 31) (hk : k < 31) : nI a - nI a / nI (2 ^ k) * nI (2 ^ k) = nI (a % 2 ^ k) := pk_rem ha (Nat.two_pow_pos k) (Nat.pow_lt_pow_right (by decide) hk)
/-! ===== cuts to a byte, a short ===== -/
theorem fa_byte_xor (x y : Int32) : (x ^^^ y).toInt8 = x.toInt8 ^^^ y.toInt8 := by
  apply Int8.toBitVec_inj.1
  apply BitVec.eq_of_getLsbD_eq
  intro i hi
  first | (simp [hi]; done) | (simp [hi, BitVec.getLsbD_setWidth, BitVec.getLsbD_signExtend]; done)
theorem fa_short_xor (x y : Int32) : (x ^^^ y).toInt16 = x.toInt16 ^^^ y.toInt16 := by
  apply Int16.toBitVec_inj.1
  apply BitVec.eq_of_getLsbD_eq
  intro i hi
  first | (simp [hi]; done) | (simp [hi, BitVec.getLsbD_setWidth, BitVec.getLsbD_signExtend]; done)
/-- the cut to a byte sees the low byte alone -/
theorem fa_byte_low (x : Int32) : (x &&& 255).toInt8 = x.toInt8 := by
  apply Int8.toBitVec_inj.1
  apply BitVec.eq_of_getLsbD_eq
  intro i hi
  have h2 : (255 : Int32).toBitVec.getLsbD i = true := by
    have : ∀ j : Fin 8, (255 : Int32).toBitVec.getLsbD j.val = true := by decide +kernel
    exact this ⟨i, hi⟩
  have h4 : (x &&& 255).toBitVec.getLsbD i = x.toBitVec.getLsbD i := by
    show (x.toBitVec &&& (255 : Int32).toBitVec).getLsbD i = _
    rw [BitVec.getLsbD_and, h2, Bool.and_true]
  have h3 : i < 32 := by omega
  first
    | (show (((x &&& 255).toBitVec).signExtend 8).getLsbD i = (x.toBitVec.signExtend 8).getLsbD i; rw [BitVec.getLsbD_signExtend, BitVec.getLsbD_signExtend, if_pos h3, if_pos h3, h4])
    | (show (((x &&& 255).toBitVec).setWidth 8).getLsbD i = (x.toBitVec.setWidth 8).getLsbD i; rw [BitVec.getLsbD_setWidth, BitVec.getLsbD_setWidth, h4])
    | (simp [hi, h3, h4]; done)
theorem fa_short_low (x : Int32) : (x &&& 65535).toInt16 = x.toInt16 := by
  apply Int16.toBitVec_inj.1
  apply BitVec.eq_of_getLsbD_eq
  intro i hi
  have h2 : (65535 : Int32).toBitVec.getLsbD i = true := by
    have : ∀ j : Fin 16, (65535 : Int32).toBitVec.getLsbD j.val = true := by decide +kernel
    exact this ⟨i, hi⟩
  have h4 : (x &&& 65535).toBitVec.getLsbD i = x.toBitVec.getLsbD i := by
    show (x.toBitVec &&& (65535 : Int32).toBitVec).getLsbD i = _
    rw [BitVec.getLsbD_and, h2, Bool.and_true]
  have h3 : i < 32 := by omega
  first
    | (show (((x &&& 65535).toBitVec).signExtend 16).getLsbD i = (x.toBitVec.signExtend 16).getLsbD i; rw [BitVec.getLsbD_signExtend, BitVec.getLsbD_signExtend, if_pos h3, if_pos h3, h4])
    | (show (((x &&& 65535).toBitVec).setWidth 16).getLsbD i = (x.toBitVec.setWidth 16).getLsbD i; rw [BitVec.getLsbD_setWidth, BitVec.getLsbD_setWidth, h4])
    | (simp [hi, h3, h4]; done)
/-- a small number is its own byte, its own short -/
theorem fa_byte_small {n : Nat} (h : n < 128) : (nI n).toInt8.toInt32 = nI n := by
  have : ∀ j : Fin 128, (nI j.val).toInt8.toInt32 = nI j.val := by decide +kernel
  exact this ⟨n, h⟩
/-! ===== absolute difference ===== -/
theorem fa_absdiff {a b : Nat} (ha : a < 2 ^ 31) (hb : b < 2 ^ 31) : (if nI a < nI b then nI b - nI a else nI a - nI b) = nI (if a < b then b - a else a - b) := by
  by_cases h : a < b
  · rw [if_pos (nI_lt h hb), if_pos h]
    exact pk_sub (Nat.le_of_lt h)
  · rw [if_neg (nI_nlt (Nat.le_of_not_lt h) ha), if_neg h]
    exact pk_sub (Nat.le_of_not_lt h)
/-! ===== an array behind i stores, a conditional store, a row copied ===== -/
/-- f where k < i, what stood there else -/
def fa_fill {α : Type} (f g : Nat → α) (i : Nat) : Nat → α := fun k => if k < i then f k else g k
theorem fa_fill_0 {α : Type} (f g : Nat → α) : fa_fill f g 0 = g := funext fun k => if_neg (Nat.not_lt_zero k)
theorem fa_fill_in {α : Type} {f g : Nat → α} {i k : Nat} (h : k < i) : fa_fill f g i k = f k := if_pos h
theorem fa_fill_out {α : Type} {f g : Nat → α} {i k : Nat} (h : i ≤ k) : fa_fill f g i k = g k := if_neg (Nat.not_lt.mpr h)
theorem fa_fill_succ (f g : Nat → Int32) (i : Nat) : upd (fa_fill f g i) i (f i) = fa_fill f g (i + 1) := by
  funext k
  by_cases e : k = i
  · subst e
    rw [pk_us]
    exact (if_pos (Nat.lt_succ_self k)).symm
  · rw [pk_un e]
    by_cases h : k < i
    · rw [fa_fill_in h, fa_fill_in (Nat.lt_succ_of_lt h)]
    · rw [fa_fill_out (Nat.le_of_not_lt h), fa_fill_out (by omega)]
/-- a store that changes nothing -/
theorem fa_upd_same {f : Nat → Int32} {i : Nat} {x : Int32} (h : f i = x) : upd f i x = f := by
  funext k
  by_cases e : k = i
  · subst e
    rw [pk_us, h]
  · rw [pk_un e]
/-- a store under a condition, told as one -/
theorem fa_upd_if (c : Prop) [Decidable c] (f : Nat → Int32) (i : Nat) (x : Int32) : (if c then upd f i x else f) = upd f i (if c then x else f i) := by
  by_cases h : c
  · rw [if_pos h, if_pos h]
  · rw [if_neg h, if_neg h, fa_upd_same rfl]
/-- two stores at one place, at two -/
theorem fa_upd_twice (f : Nat → Int32) (i : Nat) (x y : Int32) : upd (upd f i x) i y = upd f i y := by
  funext k
  by_cases e : k = i
  · subst e
    rw [pk_us, pk_us]
  · rw [pk_un e, pk_un e, pk_un e]
theorem fa_upd_swap (f : Nat → Int32) {i j : Nat} (h : i ≠ j) (x y : Int32) : upd (upd f i x) j y = upd (upd f j y) i x := by
  funext k
  by_cases e : k = i
  · subst e
    rw [pk_un h, pk_us, pk_us]
  · by_cases e2 : k = j
    · subst e2
      rw [pk_us, pk_un e, pk_us]
    · rw [pk_un e2, pk_un e, pk_un e, pk_un e2]
/-! ===== the first index with a property; a count ===== -/
/-- the first k < n with p k, n if there is none -/
def fa_first (p : Nat → Bool) : Nat → Nat
  | 0 => 0
  | n + 1 => if fa_first p n < n then fa_first p n else if p n then n else n + 1
theorem fa_first_le (p : Nat → Bool) : ∀ n, fa_first p n ≤ n
  | 0 => Nat.le_refl 0
  | n + 1 => by
    have ih := fa_first_le p n
    unfold fa_first
    split
    · omega
    · split
      · omega
      · omega
theorem fa_first_no (p : Nat → Bool) : ∀ n k, k < fa_first p n → p k = false
  | 0, k, h => absurd h (Nat.not_lt_zero k)
  | n + 1, k, h => by
    have ih := fa_first_no p n
    have hl := fa_first_le p n
    unfold fa_first at h
    split at h
    · exact ih k h
    · rename_i h1
      split at h
      · exact ih k (by omega)
      · rename_i h2
        by_cases e : k = n
        · subst e
          exact Bool.eq_false_iff.mpr h2
        · exact ih k (by omega)
theorem fa_first_yes (p : Nat → Bool) : ∀ n, fa_first p n < n → p (fa_first p n) = true
  | 0, h => absurd h (Nat.not_lt_zero _)
  | n + 1, h => by
    have ih := fa_first_yes p n
    have hl := fa_first_le p n
    unfold fa_first at h ⊢
    split at h
    · rename_i h1
      rw [if_pos h1]
      exact ih h1
    · rename_i h1
      rw [if_neg h1]
      split at h
      · rename_i h2
        rw [if_pos h2]
        exact h2
      · omega
/-- how many k < n have p k -/
def fa_cnt (p : Nat → Bool) : Nat → Nat
  | 0 => 0
  | n + 1 => fa_cnt p n + if p n then 1 else 0
theorem fa_cnt_le (p : Nat → Bool) : ∀ n, fa_cnt p n ≤ n
  | 0 => Nat.le_refl 0
  | n + 1 => by
    have ih := fa_cnt_le p n
    unfold fa_cnt
    split
    · omega
    · omega
theorem fa_cnt_yes {p : Nat → Bool} {n : Nat} (h : p n = true) : fa_cnt p (n + 1) = fa_cnt p n + 1 := by rw [fa_cnt, if_pos h]
theorem fa_cnt_no {p : Nat → Bool} {n : Nat} (h : p n = false) : fa_cnt p (n + 1) = fa_cnt p n := by rw [fa_cnt, if_neg (by rw [h]; decide)]; rfl
theorem fa_cnt_cong {p q : Nat → Bool} : ∀ {n : Nat}, (∀ k, k < n → p k = q k) → fa_cnt p n = fa_cnt q n
  | 0, _ => rfl
  | n + 1, h => by rw [fa_cnt, fa_cnt, fa_cnt_cong (fun k hk => h k (Nat.lt_succ_of_lt hk)), h n (Nat.lt_succ_self n)]
/-! ===== an answer carried into a post; a branch on a boolean answer ===== -/
theorem fa_post {α : Type} {P : α → Prop} {x y : α} (h : x = y) (hp : P y) : P x := h ▸ hp
theorem fa_post2 {α β : Type} {P : α → β → Prop} {x y : α} {u v : β} (h : x = y) (h2 : u = v) (hp : P y v) : P x u := h ▸ h2 ▸ hp
theorem fa_bool {r : Int32} {b : Bool} (h : r = if b then 1 else 0) : (r = 0 ↔ b = false) ∧ (¬ r = 0 ↔ b = true) := by
  subst h
  cases b
  · exact ⟨⟨fun _ => rfl, fun _ => rfl⟩, ⟨fun h => absurd rfl h, fun h => absurd h (by decide)⟩⟩
  · exact ⟨⟨fun h => absurd h (by decide), fun h => absurd h (by decide)⟩, ⟨fun _ => rfl, fun _ => by decide⟩⟩
/-- a boolean's narrowing changes nothing -/
theorem fa_bool_and {r : Int32} (h : r = 0 ∨ r = 1) : r &&& 1 = r := by
  rcases h with rfl | rfl
  · decide
  · decide
theorem fa_bool_prop {c : Prop} [Decidable c] {r : Int32} (h : r = if c then 1 else 0) : (r = 0 ↔ ¬ c) ∧ (¬ r = 0 ↔ c) := by
  subst h
  by_cases hc : c
  · rw [if_pos hc]
    exact ⟨⟨fun h => absurd h (by decide), fun h => absurd hc h⟩, ⟨fun _ => hc, fun _ => by decide⟩⟩
  · rw [if_neg hc]
    exact ⟨⟨fun _ => hc, fun _ => rfl⟩, ⟨fun h => absurd rfl h, fun h => absurd h hc⟩⟩
end
section
/-! contracts over the abstract machine, loops, bits of sets -/
def jm_up (L : Nat) (C : jm_C) : jm_C := fun k as σ post => match jm_nth jm_mt k with
  | some (own, rk, nL, cd) => (jm_lay as).length ≤ nL ∧ jm_runs L own rk cd C post (fun _ => False) (σ, 0, jm_pad nL (jm_lay as), [])
  | none => False
theorem jm_does_eq (L d : Nat) : jm_does L (d + 1) = jm_up L (jm_does L d) := rfl
theorem jm_start {L k own rk nL : Nat} {cd : List (Nat × Instr × Nat)} {C : jm_C} {as : List jm_V} {σ : jm_G} {post : Option jm_V → jm_G → Prop} (hk : jm_nth jm_mt k = some (own, rk, nL, cd)) (hl : (jm_lay as).length ≤ nL) (hC : jm_mon C)
    (h : ∀ X : jm_S → Prop, (∀ (cut : List Nat) (n : Nat) (s : jm_S), jm_go L own rk cd C post X cut n s → X s) → (∀ σ pc lv lv' st, jm_le lv' lv → X (σ, pc, lv', st) → X (σ, pc, lv, st)) → X (σ, 0, jm_pad nL (jm_lay as), [])) : jm_up L C k as σ post := by
  unfold jm_up
  rw [hk]
  exact ⟨hl, jm_run hC fun X _ hg hw => h X hg hw⟩
theorem jm_lift {L h : Nat} {P : jm_C → Prop} (H : ∀ d, h ≤ d → P (jm_up L (jm_does L d))) : ∀ d, h + 1 ≤ d → P (jm_does L d)
  | 0, hd => absurd hd (by omega)
  | d + 1, hd => H d (by omega)
theorem jm_for {X : jm_S → Prop} (P : Nat → jm_S) (n : Nat) (hend : X (P n)) (hstep : ∀ k, k < n → X (P (k + 1)) → X (P k)) : ∀ k, k ≤ n → X (P k) := by
  have h : ∀ j k, k + j = n → X (P k) := by
    intro j
    induction j with
    | zero => intro k hk; have e : k = n := by omega
              rw [e]; exact hend
    | succ j ih => intro k hk; exact hstep k (by omega) (ih (k + 1) (by omega))
  exact fun k hk => h (n - k) k (by omega)
theorem jm_bits {X : jm_S → Prop} (S : Nat) (P : Nat → jm_S) (n : Nat) (hend : X (P n)) (hskip : ∀ k, k < n → S.testBit k = false → P (k + 1) = P k) (hstep : ∀ k, k < n → S.testBit k = true → X (P (k + 1)) → X (P k)) : ∀ k, k ≤ n → X (P k) :=
  jm_for P n hend fun k hk h => by
    cases hb : S.testBit k with
    | true => exact hstep k hk hb h
    | false => rw [← hskip k hk hb]; exact h
theorem jm_eq {X : jm_S → Prop} {s t : jm_S} (h : X t) (e : s = t) : X s := e ▸ h
theorem jm_eqv {X : jm_S → Prop} {σ σ' : jm_G} {pc pc' : Nat} {lv lv' : jm_L} {st st' : List jm_V} (h : X (σ', pc', lv', st')) (e1 : σ = σ') (e2 : pc = pc') (e3 : lv = lv') (e4 : st = st') : X (σ, pc, lv, st) := by
  subst e1; subst e2; subst e3; subst e4; exact h
def bI (b : Bool) : Int32 := match b with
  | true => nI 1
  | false => nI 0
theorem bI_0 {b : Bool} : bI b = 0 ↔ b = false := by cases b <;> decide
theorem bI_n0 {b : Bool} : ¬ bI b = 0 ↔ b = true := by cases b <;> decide
theorem bI_01 (b : Bool) : bI b = 0 ∨ bI b = 1 := by cases b <;> decide
theorem bI_inj {a b : Bool} (h : bI a = bI b) : a = b := by revert h; cases a <;> cases b <;> decide
/-! the set without the places of another -/
def sD (a b : Nat) : Nat := a ^^^ (a &&& b)
theorem sD_bit (a b i : Nat) : (sD a b).testBit i = (a.testBit i && !b.testBit i) := by
  simp only [sD, Nat.testBit_xor, Nat.testBit_and]
  cases a.testBit i <;> cases b.testBit i <;> rfl
theorem lN_andn (a b : Nat) : lN a &&& (lN b ^^^ (-1)) = lN (sD a b) := by
  apply wb_inj
  simp only [Int64.toBitVec_and, Int64.toBitVec_xor, lN_bv]
  apply BitVec.eq_of_getLsbD_eq
  intro i hi
  have e : (-1 : Int64).toBitVec = BitVec.allOnes 64 := by decide
  rw [BitVec.getLsbD_and, BitVec.getLsbD_xor, e, BitVec.getLsbD_allOnes, BitVec.getLsbD_ofNat, BitVec.getLsbD_ofNat, BitVec.getLsbD_ofNat, sD_bit]
  simp only [hi, decide_true, Bool.true_and]
  cases a.testBit i <;> cases b.testBit i <;> rfl
theorem lN_shl1 {k : Nat} (hk : k < 64) : lN 1 <<< ((nI k).toInt64 &&& 63) = lN (2 ^ k) := by rw [wb_shl 1 hk, Nat.one_mul]
theorem lN_shr {a k : Nat} (ha : a < 2 ^ 63) (hk : k < 64) : lN a >>> ((nI k).toInt64 &&& 63) = lN (a / 2 ^ k) := by
  apply Int64.toInt_inj.mp
  have e : ((nI k).toInt64 &&& 63).toBitVec.smod 64 = BitVec.ofNat 64 k := by rw [wb_c k hk, wb_tb, wb_sm k hk]
  have e2 : (((nI k).toInt64 &&& 63).toBitVec.smod 64).toNat = k := by
    rw [e, BitVec.toNat_ofNat]
    omega
  have h1 : (lN a >>> ((nI k).toInt64 &&& 63)).toInt = (lN a).toInt >>> k := by
    show (Int64.shiftRight _ _).toInt = _
    simp only [Int64.shiftRight]
    show (BitVec.sshiftRight' _ _).toInt = _
    rw [BitVec.sshiftRight', BitVec.toInt_sshiftRight]
    show (lN a).toInt >>> (((nI k).toInt64 &&& 63).toBitVec.smod 64).toNat = _
    rw [e2]
  rw [h1, pk_lT ha, pk_lT (Nat.lt_of_le_of_lt (Nat.div_le_self _ _) ha)]
  rw [Int.shiftRight_eq_div_pow]
  norm_cast
theorem lN_and1 (a : Nat) : lN a &&& lN 1 = lN (a % 2) := by
  rw [fb_andL, Nat.and_one_is_mod]
theorem bit_div (a k : Nat) : a / 2 ^ k % 2 = (a.testBit k).toNat := by
  rw [Nat.testBit_eq_decide_div_mod_eq]
  rcases Nat.mod_two_eq_zero_or_one (a / 2 ^ k) with h | h <;> simp [h]
theorem lN_inj {a b : Nat} (ha : a < 2 ^ 64) (hb : b < 2 ^ 64) : lN a = lN b ↔ a = b := by
  constructor
  · intro h
    have h1 := congrArg (fun x : Int64 => x.toBitVec.toNat) h
    simpa [wb_tn ha, wb_tn hb] using h1
  · intro h; rw [h]
theorem cmp_0 (x y : Int64) : lg_cmp x y = 0 ↔ x = y := by
  unfold lg_cmp
  split
  · rename_i h
    have h' : y < x := h
    constructor
    · intro h2; exact absurd h2 (by decide)
    · intro h2; rw [h2] at h'; exact absurd h' (by simp [Int64.lt_iff_toInt_lt])
  · split
    · rename_i h; simp [h]
    · rename_i h; constructor
      · intro h2; exact absurd h2 (by decide)
      · intro h2; exact absurd h2 h
theorem cmp_lt (x y : Int64) : lg_cmp x y < 0 ↔ x < y := by
  unfold lg_cmp
  split
  · rename_i h
    have h' : y < x := h
    constructor
    · intro h2; exact absurd h2 (by decide)
    · intro h2; rw [Int64.lt_iff_toInt_lt] at h' h2; omega
  · rename_i h0
    split
    · rename_i h
      subst h
      constructor
      · intro h2; exact absurd h2 (by decide)
      · intro h2; rw [Int64.lt_iff_toInt_lt] at h2; omega
    · rename_i h
      constructor
      · intro _
        rw [Int64.lt_iff_toInt_lt]
        have h0' : ¬ y < x := h0
        rw [Int64.lt_iff_toInt_lt] at h0'
        have : x.toInt ≠ y.toInt := fun e => h (Int64.toInt_inj.mp e)
        omega
      · intro _; decide
theorem cmp_ge (x y : Int64) : 0 ≤ lg_cmp x y ↔ ¬ x < y := by
  rw [← cmp_lt]
  constructor
  · intro h h2
    rw [Int32.le_iff_toInt_le] at h
    rw [Int32.lt_iff_toInt_lt] at h2
    omega
  · intro h
    rw [Int32.lt_iff_toInt_lt] at h
    rw [Int32.le_iff_toInt_le]
    omega
/-! sets from a place on -/
def hi (S k : Nat) : Nat := S / 2 ^ k * 2 ^ k
theorem hi_bit (S k i : Nat) : (hi S k).testBit i = (decide (k ≤ i) && S.testBit i) := by
  unfold hi
  rw [Nat.testBit_mul_two_pow, Nat.testBit_div_two_pow]
  by_cases h : k ≤ i
  · simp [h, Nat.sub_add_cancel h]
  · simp [h]
theorem hi_0 (S : Nat) : hi S 0 = S := by simp [hi]
theorem hi_le (S k : Nat) : hi S k ≤ S := Nat.div_mul_le_self _ _
theorem hi_skip {S k : Nat} (h : S.testBit k = false) : hi S (k + 1) = hi S k := by
  apply Nat.eq_of_testBit_eq
  intro i
  rw [hi_bit, hi_bit]
  by_cases e : i = k
  · subst e; simp [h]
  · have : decide (k + 1 ≤ i) = decide (k ≤ i) := by simp; omega
    rw [this]
theorem hi_end {S k : Nat} (h : S < 2 ^ k) : hi S k = 0 := by unfold hi; rw [Nat.div_eq_of_lt h, Nat.zero_mul]
theorem hi_ne {S k : Nat} (h : S.testBit k = true) : hi S k ≠ 0 := by
  intro e
  have := hi_bit S k k
  rw [e] at this
  simp [h] at this
/-- with place k in it: 2^k and what is behind -/
theorem hi_step {S k : Nat} (h : S.testBit k = true) : hi S k = 2 ^ k + hi S (k + 1) := by
  unfold hi
  have h1 : S / 2 ^ k % 2 = 1 := by rw [bit_div, h]; rfl
  have h2 : S / 2 ^ (k + 1) = S / 2 ^ k / 2 := by rw [Nat.pow_succ, Nat.div_div_eq_div_mul]
  rw [h2, Nat.pow_succ]
  generalize S / 2 ^ k = q at h1 ⊢
  have h3 : q = 2 * (q / 2) + 1 := by omega
  generalize q / 2 = r at h3 ⊢
  subst h3
  rw [Nat.add_mul, Nat.one_mul, Nat.mul_comm 2 r, Nat.mul_assoc, Nat.mul_comm 2, Nat.add_comm]
theorem hi_and {S k : Nat} (h : S.testBit k = true) : hi S k &&& (hi S k - 1) = hi S (k + 1) := by
  have h1 := hi_step h
  have h2 : hi S (k + 1) = 2 ^ (k + 1) * (S / 2 ^ (k + 1)) := by unfold hi; rw [Nat.mul_comm]
  apply Nat.eq_of_testBit_eq
  intro i
  rw [Nat.testBit_and]
  have hlt : 2 ^ k - 1 < 2 ^ (k + 1) := by rw [Nat.pow_succ]; have := Nat.two_pow_pos k; omega
  have e : hi S k - 1 = 2 ^ (k + 1) * (S / 2 ^ (k + 1)) + (2 ^ k - 1) := by have := Nat.two_pow_pos k; omega
  rw [e, Nat.testBit_two_pow_mul_add _ hlt, hi_bit, hi_bit]
  by_cases hi1 : i < k + 1
  · rw [if_pos hi1]
    have : decide (k + 1 ≤ i) = false := by simp; omega
    rw [this]
    by_cases hik : i = k
    · subst hik; simp [Nat.testBit_two_pow_sub_one]
    · have : decide (k ≤ i) = false := by simp; omega
      simp [this]
  · rw [if_neg hi1]
    have h5 : decide (k ≤ i) = true := by simp; omega
    have h6 : decide (k + 1 ≤ i) = true := by simp; omega
    rw [h5, h6, Nat.testBit_div_two_pow, show i - (k + 1) + (k + 1) = i by omega]
    simp
theorem set_lt {S n : Nat} (h : ∀ i, n ≤ i → S.testBit i = false) : S < 2 ^ n := Nat.lt_pow_two_of_testBit S h
theorem bit_lt {S n i : Nat} (h : S < 2 ^ n) (hb : S.testBit i = true) : i < n := by
  rcases Nat.lt_or_ge i n with q | q
  · exact q
  · have := Nat.testBit_lt_two_pow (Nat.lt_of_lt_of_le h (Nat.pow_le_pow_right (by omega) q))
    rw [this] at hb; cases hb
end
section
/-! the least methods of both sides: bits -/
abbrev ct_mhas (C : jm_C) : Prop := ∀ (S n : Nat) (σ : jm_G) (post : Option jm_V → jm_G → Prop), S < 2 ^ 63 → n < 64 → post (some (jI (bI (S.testBit n)))) σ → C kX10_has [jJ (lN S), jI (nI n)] σ post
theorem T_mhas (L : Nat) {C : jm_C} (hC : jm_mon C) : ct_mhas (jm_up L C) := by
  intro S n σ post hS hn hp
  refine jm_start rfl (Nat.le_of_ble_eq_true rfl) hC fun X hg hw => ?_
  refine hg [] 7 _ ?_
  show X (σ, 7, [some (jJ (lN S)), none, some (jI (nI n))], [jI (lg_cmp ((lN S >>> ((nI n).toInt64 &&& 63)) &&& lN 1) (lN 1))])
  rw [lN_shr hS hn, lN_and1, bit_div]
  refine hg [] 10 _ ?_
  refine br_c (fun h => ?_) (fun h => ?_)
  · have h := (cmp_0 _ _).mp h
    cases hb : S.testBit n with
    | true => rw [hb] at hp; exact ⟨Or.inr rfl, hp⟩
    | false => rw [hb] at h; exact absurd h (by decide)
  · have h := fun q => h ((cmp_0 _ _).mpr q)
    cases hb : S.testBit n with
    | true => rw [hb] at h; exact absurd rfl h
    | false => rw [hb] at hp; exact ⟨Or.inl rfl, hp⟩
/-- how many places below 40 are in a set -/
def cnt (S n : Nat) : Nat := fb_ct (fun i => S.testBit i) n
theorem cnt_succ (S n : Nat) : cnt S (n + 1) = cnt S n + (S.testBit n).toNat := by
  unfold cnt; rw [fb_ct_succ]; cases S.testBit n <;> rfl
theorem cnt_le (S n : Nat) : cnt S n ≤ n := fb_ct_le _ _
abbrev ct_mmany (C : jm_C) : Prop := ∀ (S : Nat) (σ : jm_G) (post : Option jm_V → jm_G → Prop), S < 2 ^ 63 → post (some (jI (nI (cnt S 40)))) σ → C kX10_manyOf [jJ (lN S)] σ post
theorem T_mmany (L : Nat) {C : jm_C} (hC : jm_mon C) (h1 : ct_mhas C) : ct_mmany (jm_up L C) := by
  intro S σ post hS hp
  refine jm_start rfl (Nat.le_of_ble_eq_true rfl) hC fun X hg hw => ?_
  refine hg [4] 10 _ ?_
  refine jm_for (X := X) (fun k => (σ, 4, [some (jJ (lN S)), none, some (jI (nI (cnt S k))), some (jI (nI k))], [])) 40 ?_ ?_ 0 (by omega)
  · refine hg [4] 20 _ ?_
    refine br_c (fun h => ?_) (fun h => ?_)
    · exact ⟨trivial, hp⟩
    · exact absurd (nI_le (Nat.le_refl 40) (by omega)) h
  · intro k hk ih
    refine hg [4] 20 _ ?_
    refine br_c (fun h => ?_) (fun h => ?_)
    · have h : nI 40 ≤ nI k := h
      exact absurd h (nI_ge hk (by omega))
    · refine h1 S k σ _ hS (by omega) ?_
      refine br_c (fun h2 => ?_) (fun h2 => ?_)
      · have h2 := bI_0.mp h2
        refine jm_eqv (X := X) ih rfl rfl ?_ rfl
        simp [jm_put1, jm_set, jm_kill, jm_int, nI_add, cnt_succ, h2]
      · have h2 := bI_n0.mp h2
        refine jm_eqv (X := X) ih rfl rfl ?_ rfl
        simp [jm_put1, jm_set, jm_kill, jm_int, nI_add, cnt_succ, h2]
end
section
/-! Long.bitCount counts -/
theorem and_split (x c m : Nat) (hc : c < 256) : x &&& (c + 256 * m) = (x % 256 &&& c) + 256 * (x / 256 &&& m) := by
  have h1 : (x % 256 &&& c) < 2 ^ 8 := Nat.lt_of_le_of_lt Nat.and_le_right hc
  have e1 : (x % 256 &&& c) + 256 * (x / 256 &&& m) = 2 ^ 8 * (x / 256 &&& m) + (x % 256 &&& c) := by omega
  have e2 : c + 256 * m = 2 ^ 8 * m + c := by omega
  rw [e1, e2]
  apply Nat.eq_of_testBit_eq
  intro i
  rw [Nat.testBit_two_pow_mul_add _ h1, Nat.testBit_and, Nat.testBit_two_pow_mul_add _ (show c < 2 ^ 8 from hc)]
  by_cases hi : i < 8
  · rw [if_pos hi, if_pos hi, Nat.testBit_and, show (256 : Nat) = 2 ^ 8 from rfl, Nat.testBit_mod_two_pow]
    simp [hi]
  · rw [if_neg hi, if_neg hi, Nat.testBit_and, show (256 : Nat) = 2 ^ 8 from rfl, Nat.testBit_div_two_pow, show i - 8 + 8 = i by omega]
def pm (c : Nat) : Nat → Nat
  | 0 => 0
  | n + 1 => c + 256 * pm c n
def pa1 (n x : Nat) : Nat := x - (x / 2 &&& pm 85 n)
def pa2 (n x : Nat) : Nat := (x &&& pm 51 n) + (x / 4 &&& pm 51 n)
def pa3 (n x : Nat) : Nat := (x + x / 16) &&& pm 15 n
def pb1 (b : Nat) : Nat := b - (b / 2 &&& 85)
def pb2 (b : Nat) : Nat := (b &&& 51) + (b / 4 &&& 51)
def pb3 (b : Nat) : Nat := (b + b / 16) &&& 15
theorem pd1 : ∀ b, b < 256 → ∀ t, t < 2 → ((b / 2 + 128 * t) &&& 85) = (b / 2 &&& 85) := by decide +kernel
theorem pd2 : ∀ b, b < 256 → ∀ t, t < 4 → ((b / 4 + 64 * t) &&& 51) = (b / 4 &&& 51) := by decide +kernel
theorem pd3 : ∀ b, b < 69 → ∀ t, t < 5 → ((b + b / 16 + 16 * t) &&& 15) = ((b + b / 16) &&& 15) := by decide +kernel
theorem pd4 : ∀ b, b < 256 → (b / 2 &&& 85) ≤ b ∧ pb1 b < 256 ∧ pb2 (pb1 b) < 69 ∧ pb2 (pb1 b) % 16 < 5 ∧ pb3 (pb2 (pb1 b)) = fb_ct (fun i => b.testBit i) 8 ∧ pb3 (pb2 (pb1 b)) ≤ 8 := by decide +kernel
theorem ps1 (n b y : Nat) (hb : b < 256) : pa1 (n + 1) (b + 256 * y) = pb1 b + 256 * pa1 n y := by
  unfold pa1 pb1
  rw [show pm 85 (n + 1) = 85 + 256 * pm 85 n from rfl, and_split _ 85 _ (by omega)]
  have e1 : (b + 256 * y) / 2 % 256 = b / 2 + 128 * (y % 2) := by omega
  have e2 : (b + 256 * y) / 2 / 256 = y / 2 := by omega
  rw [e1, e2, pd1 b hb _ (Nat.mod_lt _ (by omega))]
  have h1 := (pd4 b hb).1
  have h2 : (y / 2 &&& pm 85 n) ≤ y := Nat.le_trans Nat.and_le_left (Nat.div_le_self _ _)
  omega
theorem ps2 (n b y : Nat) (hb : b < 256) : pa2 (n + 1) (b + 256 * y) = pb2 b + 256 * pa2 n y := by
  unfold pa2 pb2
  rw [show pm 51 (n + 1) = 51 + 256 * pm 51 n from rfl, and_split _ 51 _ (by omega), and_split _ 51 _ (by omega)]
  have e1 : (b + 256 * y) / 4 % 256 = b / 4 + 64 * (y % 4) := by omega
  have e2 : (b + 256 * y) / 4 / 256 = y / 4 := by omega
  have e3 : (b + 256 * y) % 256 = b := by omega
  have e4 : (b + 256 * y) / 256 = y := by omega
  rw [e1, e2, e3, e4, pd2 b hb _ (Nat.mod_lt _ (by omega))]
  omega
theorem ps3 (n b y : Nat) (hb : b < 69) (hy : y % 16 < 5) : pa3 (n + 1) (b + 256 * y) = pb3 b + 256 * pa3 n y := by
  unfold pa3 pb3
  rw [show pm 15 (n + 1) = 15 + 256 * pm 15 n from rfl, and_split _ 15 _ (by omega)]
  have e1 : (b + 256 * y + (b + 256 * y) / 16) % 256 = b + b / 16 + 16 * (y % 16) := by omega
  have e2 : (b + 256 * y + (b + 256 * y) / 16) / 256 = y + y / 16 := by omega
  rw [e1, e2, pd3 b hb _ hy]
def pbs : Nat → Nat → Nat
  | 0, _ => 0
  | n + 1, x => fb_ct (fun i => (x % 256).testBit i) 8 + 256 * pbs n (x / 256)
theorem pa_all : ∀ (n x : Nat), x < 256 ^ n → pa3 n (pa2 n (pa1 n x)) = pbs n x ∧ pa2 n (pa1 n x) % 16 < 5
  | 0, x, h => by
    have : x = 0 := by simpa using h
    subst this
    exact ⟨rfl, by decide⟩
  | n + 1, x, h => by
    have hx : x = x % 256 + 256 * (x / 256) := by omega
    have hb : x % 256 < 256 := Nat.mod_lt _ (by omega)
    have hy : x / 256 < 256 ^ n := by
      rw [Nat.pow_succ] at h
      exact Nat.div_lt_of_lt_mul (by omega)
    obtain ⟨h1, h2⟩ := pa_all n (x / 256) hy
    obtain ⟨d1, d2, d3, d4, d5, d6⟩ := pd4 (x % 256) hb
    have e : pa2 (n + 1) (pa1 (n + 1) x) = pb2 (pb1 (x % 256)) + 256 * pa2 n (pa1 n (x / 256)) := by
      rw [show pa1 (n + 1) x = pb1 (x % 256) + 256 * pa1 n (x / 256) by rw [← ps1 n _ _ hb, ← hx], ps2 n _ _ d2]
    rw [e]
    refine ⟨?_, by omega⟩
    rw [ps3 n _ _ d3 h2, h1, d5]
    rfl
def psm : Nat → Nat → Nat
  | 0, _ => 0
  | n + 1, x => fb_ct (fun i => (x % 256).testBit i) 8 + psm n (x / 256)
theorem psm_cnt : ∀ (n x : Nat), fb_ct (fun i => x.testBit i) (8 * n) = psm n x
  | 0, _ => rfl
  | n + 1, x => by
    rw [show 8 * (n + 1) = 8 + 8 * n by omega, fb_ct_split]
    show _ = fb_ct (fun i => (x % 256).testBit i) 8 + psm n (x / 256)
    rw [← psm_cnt n (x / 256)]
    congr 1
    · apply fb_ct_cong
      intro k hk
      rw [show (256 : Nat) = 2 ^ 8 from rfl, Nat.testBit_mod_two_pow]
      simp [hk]
    · apply fb_ct_cong
      intro k hk
      rw [show (256 : Nat) = 2 ^ 8 from rfl, Nat.testBit_div_two_pow, Nat.add_comm]
theorem pstep (n x : Nat) : ∃ p y, p ≤ 8 ∧ pbs (n + 1) x = p + 256 * pbs n y ∧ psm (n + 1) x = p + psm n y := ⟨_, _, fb_ct_le _ _, rfl, rfl⟩
theorem p_sum8 (p0 p1 p2 p3 p4 p5 p6 p7 a : Nat) (h0 : p0 ≤ 8) (h1 : p1 ≤ 8) (h2 : p2 ≤ 8) (h3 : p3 ≤ 8) (h4 : p4 ≤ 8) (h5 : p5 ≤ 8) (h6 : p6 ≤ 8) (h7 : p7 ≤ 8) (ea : a = p0 + 256 * (p1 + 256 * (p2 + 256 * (p3 + 256 * (p4 + 256 * (p5 + 256 * (p6 + 256 * p7))))))) :
    ((a + a / 256) + (a + a / 256) / 65536 + ((a + a / 256) + (a + a / 256) / 65536) / 4294967296) % 128 = p0 + (p1 + (p2 + (p3 + (p4 + (p5 + (p6 + p7)))))) ∧ a < 2 ^ 60 := by
  have f1 : a / 256 = p1 + 256 * (p2 + 256 * (p3 + 256 * (p4 + 256 * (p5 + 256 * (p6 + 256 * p7))))) := by omega
  generalize hb : a + a / 256 = b
  have f2 : b = (p0 + p1) + 256 * ((p1 + p2) + 256 * ((p2 + p3) + 256 * ((p3 + p4) + 256 * ((p4 + p5) + 256 * ((p5 + p6) + 256 * ((p6 + p7) + 256 * p7)))))) := by omega
  clear f1 hb
  have hlt : a < 2 ^ 60 := by omega
  clear ea
  have f3 : b / 65536 = (p2 + p3) + 256 * ((p3 + p4) + 256 * ((p4 + p5) + 256 * ((p5 + p6) + 256 * ((p6 + p7) + 256 * p7)))) := by omega
  generalize hc : b + b / 65536 = c
  have f4 : c = (p0 + p1 + p2 + p3) + 256 * ((p1 + p2 + p3 + p4) + 256 * ((p2 + p3 + p4 + p5) + 256 * ((p3 + p4 + p5 + p6) + 256 * ((p4 + p5 + p6 + p7) + 256 * ((p5 + p6 + p7) + 256 * ((p6 + p7) + 256 * p7)))))) := by omega
  clear f2 f3 hc
  have f5 : c / 4294967296 = (p4 + p5 + p6 + p7) + 256 * ((p5 + p6 + p7) + 256 * ((p6 + p7) + 256 * p7)) := by omega
  refine ⟨?_, hlt⟩
  rw [f5, f4]
  clear f4 f5 hlt
  omega
theorem p_sum (x : Nat) : ((pbs 8 x + pbs 8 x / 256) + (pbs 8 x + pbs 8 x / 256) / 65536 + ((pbs 8 x + pbs 8 x / 256) + (pbs 8 x + pbs 8 x / 256) / 65536) / 4294967296) % 128 = fb_ct (fun i => x.testBit i) 64 ∧ pbs 8 x < 2 ^ 60 := by
  rw [show (64 : Nat) = 8 * 8 from rfl, psm_cnt]
  obtain ⟨p0, y0, b0, e0, f0⟩ := pstep 7 x
  obtain ⟨p1, y1, b1, e1, f1⟩ := pstep 6 y0
  obtain ⟨p2, y2, b2, e2, f2⟩ := pstep 5 y1
  obtain ⟨p3, y3, b3, e3, f3⟩ := pstep 4 y2
  obtain ⟨p4, y4, b4, e4, f4⟩ := pstep 3 y3
  obtain ⟨p5, y5, b5, e5, f5⟩ := pstep 2 y4
  obtain ⟨p6, y6, b6, e6, f6⟩ := pstep 1 y5
  obtain ⟨p7, y7, b7, e7, f7⟩ := pstep 0 y6
  have e8 : pbs 0 y7 = 0 := rfl
  have f8 : psm 0 y7 = 0 := rfl
  have h := p_sum8 p0 p1 p2 p3 p4 p5 p6 p7 (pbs 8 x) b0 b1 b2 b3 b4 b5 b6 b7 (by rw [e0, e1, e2, e3, e4, e5, e6, e7, e8]; omega)
  refine ⟨?_, h.2⟩
  rw [h.1, f0, f1, f2, f3, f4, f5, f6, f7, f8]
  omega
abbrev ct_bc (C : jm_C) : Prop := ∀ (x : Nat) (σ : jm_G) (post : Option jm_V → jm_G → Prop), x < 2 ^ 64 → post (some (jI (nI (cnt x 64)))) σ → C kJ13_bitCount_95d88 [jJ (lN x)] σ post
theorem pa_lt (x : Nat) (h : x < 2 ^ 64) : pa1 8 x < 2 ^ 64 ∧ pa2 8 (pa1 8 x) < 2 ^ 63 ∧ pa2 8 (pa1 8 x) / 16 < 2 ^ 63 := by
  have h1 : pa1 8 x ≤ x := Nat.sub_le _ _
  have h2 : (pa1 8 x &&& pm 51 8) ≤ pm 51 8 := Nat.and_le_right
  have h3 : (pa1 8 x / 4 &&& pm 51 8) ≤ pm 51 8 := Nat.and_le_right
  have h4 : pm 51 8 = 3689348814741910323 := by decide
  have h5 : pa2 8 (pa1 8 x) ≤ 7378697629483820646 := by unfold pa2; omega
  have h6 := Nat.div_le_self (pa2 8 (pa1 8 x)) 16
  exact ⟨by omega, by omega, by omega⟩
theorem T_bc (L : Nat) {C : jm_C} (hC : jm_mon C) : ct_bc (jm_up L C) := by
  intro x σ post hx hp
  refine jm_start rfl (Nat.le_of_ble_eq_true rfl) hC fun X hg hw => ?_
  refine hg [10] 20 _ ?_
  show X (σ, 10, [some (jJ (lN x - (((lN x).toUInt64 >>> ((nI 1).toInt64.toUInt64 &&& Int64.toUInt64 63)).toInt64 &&& lN 6148914691236517205))), none], [])
  have p1 : pm 85 8 = 6148914691236517205 := by decide
  have p2 : pm 51 8 = 3689348814741910323 := by decide
  have p3 : pm 15 8 = 1085102592571150095 := by decide
  obtain ⟨q1, q2, q3⟩ := pa_lt x hx
  obtain ⟨a1, a2⟩ := pa_all 8 x (by rw [show (256 : Nat) ^ 8 = 2 ^ 64 from by decide]; exact hx)
  obtain ⟨s1, s2⟩ := p_sum x
  rw [wb_shr hx (by omega), fb_andL, Nat.pow_one, ← p1, lN_sub (Nat.le_trans Nat.and_le_left (Nat.div_le_self _ _)), show x - (x / 2 &&& pm 85 8) = pa1 8 x from rfl]
  refine hg [24] 20 _ ?_
  show X (σ, 24, [some (jJ ((lN (pa1 8 x) &&& lN 3689348814741910323) + (((lN (pa1 8 x)).toUInt64 >>> ((nI 2).toInt64.toUInt64 &&& Int64.toUInt64 63)).toInt64 &&& lN 3689348814741910323))), none], [])
  rw [wb_shr q1 (by omega), fb_andL, fb_andL, show (2 : Nat) ^ 2 = 4 from rfl, ← p2, lN_add, show (pa1 8 x &&& pm 51 8) + (pa1 8 x / 4 &&& pm 51 8) = pa2 8 (pa1 8 x) from rfl]
  refine hg [34] 20 _ ?_
  show X (σ, 34, [some (jJ ((lN (pa2 8 (pa1 8 x)) + ((lN (pa2 8 (pa1 8 x))).toUInt64 >>> ((nI 4).toInt64.toUInt64 &&& Int64.toUInt64 63)).toInt64) &&& lN 1085102592571150095)), none], [])
  rw [wb_shr (by omega) (by omega), lN_add, fb_andL, show (2 : Nat) ^ 4 = 16 from rfl, ← p3, show (pa2 8 (pa1 8 x) + pa2 8 (pa1 8 x) / 16) &&& pm 15 8 = pa3 8 (pa2 8 (pa1 8 x)) from rfl, a1]
  generalize pbs 8 x = a at s1 s2 ⊢
  have hd1 := Nat.div_le_self a 256
  have hd2 := Nat.div_le_self (a + a / 256) 65536
  have hd3 := Nat.div_le_self (a + a / 256 + (a + a / 256) / 65536) 4294967296
  refine hg [41] 20 _ ?_
  show X (σ, 41, [some (jJ (lN a + ((lN a).toUInt64 >>> ((nI 8).toInt64.toUInt64 &&& Int64.toUInt64 63)).toInt64)), none], [])
  rw [wb_shr (by omega) (by omega), lN_add, show (2 : Nat) ^ 8 = 256 from rfl]
  refine hg [48] 20 _ ?_
  show X (σ, 48, [some (jJ (lN (a + a / 256) + ((lN (a + a / 256)).toUInt64 >>> ((nI 16).toInt64.toUInt64 &&& Int64.toUInt64 63)).toInt64)), none], [])
  rw [wb_shr (by omega) (by omega), lN_add, show (2 : Nat) ^ 16 = 65536 from rfl]
  refine hg [55] 20 _ ?_
  show X (σ, 55, [some (jJ (lN (a + a / 256 + (a + a / 256) / 65536) + ((lN (a + a / 256 + (a + a / 256) / 65536)).toUInt64 >>> ((nI 32).toInt64.toUInt64 &&& Int64.toUInt64 63)).toInt64)), none], [])
  rw [wb_shr (by omega) (by omega), lN_add, show (2 : Nat) ^ 32 = 4294967296 from rfl]
  refine hg [] 20 _ ?_
  refine And.intro trivial ?_
  show post (some (jI ((lN (a + a / 256 + (a + a / 256) / 65536 + (a + a / 256 + (a + a / 256) / 65536) / 4294967296)).toInt32 &&& nI 127))) σ
  rw [lN_i, show (127 : Nat) = 2 ^ 7 - 1 from rfl, fa_mask, show (2 : Nat) ^ 7 = 128 from rfl]
  have s1 : (a + a / 256 + (a + a / 256) / 65536 + (a + a / 256 + (a + a / 256) / 65536) / 4294967296) % 128 = cnt x 64 := s1
  rw [s1]
  exact hp
end
section
/-! the least methods of the component: bit, has, lowest, nthOf -/
theorem lN_neg {h : Nat} (h0 : 0 < h) : -(lN h) = lN (h - 1) ^^^ (-1) := by
  have e : lN h = lN (h - 1) + 1 := by rw [lN_1]; congr 1; omega
  rw [Int64.xor_neg_one, Int64.not_eq_neg_sub, e, Int64.neg_add]
theorem low_and {S k : Nat} (h : S.testBit k = true) : sD (hi S k) (hi S k - 1) = 2 ^ k := by
  have h1 := hi_step h
  have h2 : hi S (k + 1) = 2 ^ (k + 1) * (S / 2 ^ (k + 1)) := by unfold hi; rw [Nat.mul_comm]
  apply Nat.eq_of_testBit_eq
  intro i
  have hlt : 2 ^ k - 1 < 2 ^ (k + 1) := by rw [Nat.pow_succ]; have := Nat.two_pow_pos k; omega
  have e : hi S k - 1 = 2 ^ (k + 1) * (S / 2 ^ (k + 1)) + (2 ^ k - 1) := by have := Nat.two_pow_pos k; omega
  rw [sD_bit, e, Nat.testBit_two_pow_mul_add _ hlt, hi_bit, Nat.testBit_two_pow]
  by_cases hi1 : i < k + 1
  · rw [if_pos hi1, Nat.testBit_two_pow_sub_one]
    by_cases hik : i = k
    · subst hik; simp [h]
    · have h3 : decide (k ≤ i) = false := by simp; omega
      have h4 : decide (k = i) = false := by simp; omega
      simp [h3, h4]
  · rw [if_neg hi1, Nat.testBit_div_two_pow, show i - (k + 1) + (k + 1) = i by omega]
    have h4 : decide (k = i) = false := by simp; omega
    rw [h4]
    cases S.testBit i <;> simp
theorem hi_lt {S k n : Nat} (h : S < n) : hi S k < n := Nat.lt_of_le_of_lt (hi_le S k) h
theorem cnt_low {k n : Nat} (h : k ≤ n) : cnt (2 ^ k - 1) n = k := by
  induction n with
  | zero => have : k = 0 := by omega
            subst this; rfl
  | succ n ih =>
    rw [cnt_succ, Nat.testBit_two_pow_sub_one]
    by_cases hk : k ≤ n
    · have : decide (n < k) = false := by simp; omega
      rw [this, ih hk]; rfl
    · have hk : k = n + 1 := by omega
      subst hk
      have h1 : cnt (2 ^ (n + 1) - 1) n = n := by
        unfold cnt
        rw [fb_ct_all]
        intro i hi
        simp [Nat.testBit_two_pow_sub_one]
        omega
      rw [h1]
      simp
abbrev ct_bit (C : jm_C) : Prop := ∀ (k : Nat) (σ : jm_G) (post : Option jm_V → jm_G → Prop), k < 63 → post (some (jJ (lN (2 ^ k)))) σ → C kX9_bit [jI (nI k)] σ post
theorem T_bit (L : Nat) {C : jm_C} (hC : jm_mon C) : ct_bit (jm_up L C) := by
  intro k σ post hk hp
  refine jm_start rfl (Nat.le_of_ble_eq_true rfl) hC fun X hg hw => ?_
  refine hg [] 7 _ ?_
  refine And.intro trivial ?_
  show post (some (jJ (lN 1 <<< ((nI k).toInt64 &&& 63)))) σ
  rw [lN_shl1 (by omega)]
  exact hp
abbrev ct_has (C : jm_C) : Prop := ∀ (S n : Nat) (σ : jm_G) (post : Option jm_V → jm_G → Prop), S < 2 ^ 63 → n < 64 → post (some (jI (bI (S.testBit n)))) σ → C kX9_has [jJ (lN S), jI (nI n)] σ post
theorem T_has (L : Nat) {C : jm_C} (hC : jm_mon C) : ct_has (jm_up L C) := by
  intro S n σ post hS hn hp
  refine jm_start rfl (Nat.le_of_ble_eq_true rfl) hC fun X hg hw => ?_
  refine hg [7] 7 _ ?_
  show X (σ, 7, [some (jJ (lN S)), none, some (jI (nI n))], [jI (lg_cmp ((lN S >>> ((nI n).toInt64 &&& 63)) &&& lN 1) (lN 0))])
  rw [lN_shr hS hn, lN_and1, bit_div]
  refine hg [] 10 _ ?_
  refine br_c (fun h => ?_) (fun h => ?_)
  · have h := (cmp_0 _ _).mp h
    cases hb : S.testBit n with
    | false => rw [hb] at hp; exact ⟨Or.inl rfl, hp⟩
    | true => rw [hb] at h; exact absurd h (by decide)
  · have h := fun q => h ((cmp_0 _ _).mpr q)
    cases hb : S.testBit n with
    | false => rw [hb] at h; exact absurd rfl h
    | true => rw [hb] at hp; exact ⟨Or.inr rfl, hp⟩
abbrev ct_low (C : jm_C) : Prop := ∀ (S k : Nat) (σ : jm_G) (post : Option jm_V → jm_G → Prop), S < 2 ^ 63 → S.testBit k = true → post (some (jI (nI k))) σ → C kX9_lowest [jJ (lN (hi S k))] σ post
theorem T_low (L : Nat) {C : jm_C} (hC : jm_mon C) (h1 : ct_bc C) : ct_low (jm_up L C) := by
  intro S k σ post hS hb hp
  refine jm_start rfl (Nat.le_of_ble_eq_true rfl) hC fun X hg hw => ?_
  refine hg [6] 7 _ ?_
  show X (σ, 6, [some (jJ (lN (hi S k))), none], [jJ ((lN (hi S k) &&& -(lN (hi S k))) - lN 1)])
  have hk : k < 63 := bit_lt hS hb
  have h2 : 0 < hi S k := Nat.pos_of_ne_zero (hi_ne hb)
  rw [lN_neg h2, lN_andn, low_and hb, lN_sub (Nat.two_pow_pos k)]
  refine hg [] 7 _ ?_
  have h3 : 2 ^ k - 1 < 2 ^ 64 := by have := Nat.pow_lt_pow_right (a := 2) (by omega) (show k < 64 by omega); omega
  refine h1 (2 ^ k - 1) σ _ h3 ?_
  refine And.intro trivial ?_
  rw [cnt_low (by omega)]
  exact hp
/-- the n-th place of a set (from 0), if there is one -/
def nth (S n : Nat) : Option Nat := (List.range 63).find? fun i => S.testBit i && cnt S i == n
theorem nth_some {S n j : Nat} (hj : j < 63) (h1 : S.testBit j = true) (h2 : cnt S j = n) : nth S n = some j := by
  unfold nth
  rw [List.find?_range_eq_some]
  refine ⟨by simp [h1, h2], by simpa using hj, fun i hi => ?_⟩
  by_cases hb : S.testBit i = true
  · have h3 : cnt S i ≠ n := by
      intro e
      have h4 := fb_ct_mono (fun i => S.testBit i) (show i + 1 ≤ j by omega)
      have h5 : cnt S (i + 1) = cnt S i + 1 := by rw [cnt_succ, hb]; rfl
      have h6 : cnt S (i + 1) ≤ cnt S j := h4
      omega
    simp [hb, h3]
  · simp [hb]
theorem nth_none {S n : Nat} (h : cnt S 63 ≤ n) : nth S n = none := by
  unfold nth
  rw [List.find?_eq_none]
  intro i hi
  have hi : i < 63 := by simpa using hi
  by_cases hb : S.testBit i = true
  · have h4 := fb_ct_mono (fun i => S.testBit i) (show i + 1 ≤ 63 by omega)
    have h5 : cnt S (i + 1) = cnt S i + 1 := by rw [cnt_succ, hb]; rfl
    have h6 : cnt S (i + 1) ≤ cnt S 63 := h4
    have h7 : cnt S i ≠ n := by omega
    simp [hb, h7]
  · simp [hb]
/-- as an int: NONE is -1; asked by any int -/
def nthI (S : Nat) (x : Int32) : Int32 := if x < 0 then -(nI 1) else match nth S x.toNatClampNeg with
  | some j => nI j
  | none => -(nI 1)
theorem nthI_some {S n j : Nat} (hj : j < 63) (h1 : S.testBit j = true) (h2 : cnt S j = n) : nthI S (nI n) = nI j := by
  have hn : n < 2 ^ 31 := by have := cnt_le S j; omega
  unfold nthI
  rw [if_neg (nI_pos hn), nI_clamp hn, nth_some hj h1 h2]
theorem nthI_none {S : Nat} {x : Int32} (h : ∀ j, j < 63 → S.testBit j = true → x ≠ nI (cnt S j)) : nthI S x = -(nI 1) := by
  unfold nthI
  by_cases hx : x < 0
  · rw [if_pos hx]
  · rw [if_neg hx]
    obtain ⟨n, hn, rfl⟩ := nI_of hx
    rw [nI_clamp hn]
    cases hq : nth S n with
    | none => rfl
    | some j =>
      unfold nth at hq
      rw [List.find?_range_eq_some] at hq
      obtain ⟨h1, h2, -⟩ := hq
      simp at h1 h2
      exact absurd (by rw [h1.2]) (h j h2 h1.1)
abbrev ct_nth (C : jm_C) : Prop := ∀ (S : Nat) (x : Int32) (σ : jm_G) (post : Option jm_V → jm_G → Prop), S < 2 ^ 63 → post (some (jI (nthI S x))) σ → C kX9_nthOf [jJ (lN S), jI x] σ post
theorem lN_0 : lN 0 = 0 := rfl
theorem T_nth (L : Nat) {C : jm_C} (hC : jm_mon C) (h1 : ct_low C) : ct_nth (jm_up L C) := by
  intro S x σ post hS hp
  refine jm_start rfl (Nat.le_of_ble_eq_true rfl) hC fun X hg hw => ?_
  refine hg [5] 7 _ ?_
  show X (σ, 5, [some (jJ (lN S)), none, some (jI x), some (jI (nI 0)), some (jJ (lN S)), none], [])
  have main : (∀ j, j < 0 → S.testBit j = true → x ≠ nI (cnt S j)) → X (σ, 5, [some (jJ (lN S)), none, some (jI x), some (jI (nI (cnt S 0))), some (jJ (lN (hi S 0))), none], []) := by
    have gen : ∀ m k, k + m = 63 → (∀ j, j < k → S.testBit j = true → x ≠ nI (cnt S j)) → X (σ, 5, [some (jJ (lN S)), none, some (jI x), some (jI (nI (cnt S k))), some (jJ (lN (hi S k))), none], []) := by
      intro m
      induction m with
      | zero =>
        intro k hk hall
        have hk : k = 63 := by omega
        subst hk
        rw [hi_end hS]
        refine hg [] 20 _ ?_
        refine br_c (fun h => ?_) (fun h => ?_)
        · refine And.intro trivial ?_
          rw [nthI_none hall] at hp
          exact hp
        · exact absurd ((cmp_0 _ _).mpr rfl) h
      | succ m ih =>
        intro k hk hall
        cases hb : S.testBit k with
        | false =>
          have h2 := ih (k + 1) (by omega) (fun j hj hbj => by
            by_cases e : j = k
            · subst e; rw [hb] at hbj; cases hbj
            · exact hall j (by omega) hbj)
          rw [hi_skip hb, cnt_succ, hb] at h2
          exact h2
        | true =>
          have hlt : hi S k < 2 ^ 63 := hi_lt hS
          refine hg [5] 30 _ ?_
          refine br_c (fun h => ?_) (fun h => ?_)
          · exact absurd ((lN_inj (by omega) (by omega)).mp ((cmp_0 _ _).mp h)) (hi_ne hb)
          · refine br_c (fun h3 => ?_) (fun h3 => ?_)
            · refine h1 S k σ _ hS hb ?_
              refine And.intro trivial ?_
              have h3 : nI (cnt S k) = x := h3
              rw [← h3, nthI_some (by omega) hb rfl] at hp
              exact hp
            · have h2 := ih (k + 1) (by omega) (fun j hj hbj => by
                by_cases e : j = k
                · subst e; exact fun e => h3 e.symm
                · exact hall j (by omega) hbj)
              refine jm_eqv (X := X) h2 rfl rfl ?_ rfl
              have e1 : lN (hi S k) &&& (lN (hi S k) - lN 1) = lN (hi S (k + 1)) := by
                rw [lN_sub (Nat.pos_of_ne_zero (hi_ne hb)), fb_andL, hi_and hb]
              show [some (jJ (lN S)), none, some (jI x), some (jI (nI (cnt S k) + nI 1)), some (jJ (lN (hi S k) &&& (lN (hi S k) - lN 1))), none] = _
              rw [e1, nI_add, cnt_succ, hb]
              rfl
    exact gen 63 0 rfl
  have h2 := main (fun j hj => by omega)
  rw [hi_0] at h2
  exact h2
end
section
/-! THE NETWORK, told once: how many nodes, sorts (0 input, 1 gate, 2 register), kinds, sources, feeds, outputs, what is below -/
abbrev nw : Type := Nat × (Nat → Nat) × (Nat → Nat) × (Nat → Nat → Nat) × (Nat → Nat) × Nat × (Nat → Nat)
def nN (N : nw) : Nat := N.1
def nS (N : nw) : Nat → Nat := N.2.1
def nK (N : nw) : Nat → Nat := N.2.2.1
def nR (N : nw) : Nat → Nat → Nat := N.2.2.2.1
def nF (N : nw) : Nat → Nat := N.2.2.2.2.1
def nO (N : nw) : Nat := N.2.2.2.2.2.1
def nB (N : nw) : Nat → Nat := N.2.2.2.2.2.2
def ar (k : Nat) : Nat := if k = 0 then 1 else if k < 5 then 2 else 3
theorem ar_pos (k : Nat) : 0 < ar k ∧ ar k ≤ 3 := by unfold ar; by_cases h : k = 0 <;> by_cases h2 : k < 5 <;> simp [h, h2]
def isI (N : nw) (i : Nat) : Bool := decide (i < nN N) && nS N i == 0
def isG (N : nw) (i : Nat) : Bool := decide (i < nN N) && nS N i == 1
def isR (N : nw) (i : Nat) : Bool := decide (i < nN N) && nS N i == 2
/-- a set out of a property -/
def mk (p : Nat → Bool) : Nat → Nat
  | 0 => 0
  | n + 1 => mk p n ||| (if p n then 2 ^ n else 0)
theorem mk_bit (p : Nat → Bool) : ∀ n i, (mk p n).testBit i = (decide (i < n) && p i)
  | 0, i => by simp [mk]
  | n + 1, i => by
    rw [mk, Nat.testBit_or, mk_bit p n i]
    by_cases h : p n = true
    · rw [if_pos h, Nat.testBit_two_pow]
      by_cases e : n = i
      · subst e; simp [h]
      · have h1 : decide (n = i) = false := by simp [e]
        have h2 : decide (i < n + 1) = decide (i < n) := by simp; omega
        simp [h1, h2]
    · rw [if_neg h]
      by_cases e : n = i
      · subst e; simp [h]
      · have h2 : decide (i < n + 1) = decide (i < n) := by simp; omega
        simp [h2]
theorem mk_lt (p : Nat → Bool) (n : Nat) : mk p n < 2 ^ n := set_lt fun i hi => by rw [mk_bit]; simp; omega
theorem mk_lt40 (p : Nat → Bool) {n : Nat} (h : n ≤ 40) : mk p n < 2 ^ 40 := Nat.lt_of_lt_of_le (mk_lt p n) (Nat.pow_le_pow_right (by omega) h)
def iM (N : nw) : Nat := mk (isI N) (nN N)
def gM (N : nw) : Nat := mk (isG N) (nN N)
def rM (N : nw) : Nat := mk (isR N) (nN N)
theorem iM_bit (N : nw) (i : Nat) : (iM N).testBit i = isI N i := by rw [iM, mk_bit]; simp [isI]
theorem gM_bit (N : nw) (i : Nat) : (gM N).testBit i = isG N i := by rw [gM, mk_bit]; simp [isG]
theorem rM_bit (N : nw) (i : Nat) : (rM N).testBit i = isR N i := by rw [rM, mk_bit]; simp [isR]
def sMk (N : nw) (i : Nat) : Nat → Nat
  | 0 => 0
  | k + 1 => sMk N i k ||| 2 ^ (nR N i k)
def sM (N : nw) (i : Nat) : Nat := if isG N i then sMk N i (ar (nK N i)) else 0
def bMk (N : nw) (i : Nat) : Nat → Nat
  | 0 => 0
  | k + 1 => bMk N i k ||| (2 ^ (nR N i k) ||| nB N (nR N i k))
def nw_ok (N : nw) : Prop := nN N ≤ 40 ∧ (∀ i, i < nN N → nS N i < 3) ∧ (∀ i, isG N i = true → nK N i < 7 ∧ ∀ k, k < ar (nK N i) → nR N i k < i) ∧ (∀ i, isR N i = true → nF N i < nN N) ∧ (∀ i, (nO N).testBit i = true → i < nN N) ∧ cnt (nO N) 40 ≤ 12 ∧ ∀ i, nB N i = if isG N i then bMk N i (ar (nK N i)) else 0
theorem sMk_bit (N : nw) (i j : Nat) : ∀ n, (sMk N i n).testBit j = decide (∃ k, k < n ∧ nR N i k = j)
  | 0 => by simp [sMk]
  | n + 1 => by
    rw [sMk, Nat.testBit_or, sMk_bit N i j n, Nat.testBit_two_pow]
    by_cases h : nR N i n = j
    · have h2 : ∃ k, k < n + 1 ∧ nR N i k = j := ⟨n, by omega, h⟩
      simp [h, h2]
    · have h2 : (∃ k, k < n + 1 ∧ nR N i k = j) ↔ ∃ k, k < n ∧ nR N i k = j :=
        ⟨fun ⟨k, a, b⟩ => ⟨k, by rcases Nat.lt_succ_iff_lt_or_eq.mp a with q | q; exact q; subst q; exact absurd b h, b⟩, fun ⟨k, a, b⟩ => ⟨k, by omega, b⟩⟩
      simp [h, h2]
theorem isG_lt {N : nw} {i : Nat} (h : isG N i = true) : i < nN N := by simp [isG] at h; exact h.1
theorem isR_lt {N : nw} {i : Nat} (h : isR N i = true) : i < nN N := by simp [isR] at h; exact h.1
theorem isI_lt {N : nw} {i : Nat} (h : isI N i = true) : i < nN N := by simp [isI] at h; exact h.1
/-- j is a source of i -/
theorem sM_bit (N : nw) (i j : Nat) : (sM N i).testBit j = (isG N i && decide (∃ k, k < ar (nK N i) ∧ nR N i k = j)) := by
  unfold sM
  cases h : isG N i with
  | true => rw [if_pos rfl, sMk_bit]; simp
  | false => simp
theorem sM_lt {N : nw} (h : nw_ok N) {i j : Nat} (hb : (sM N i).testBit j = true) : j < i := by
  rw [sM_bit] at hb
  simp at hb
  obtain ⟨hg, k, hk, rfl⟩ := hb
  exact (h.2.2.1 i hg).2 k hk
theorem bMk_bit (N : nw) (i j : Nat) : ∀ n, (bMk N i n).testBit j = decide (∃ k, k < n ∧ (nR N i k = j ∨ (nB N (nR N i k)).testBit j = true))
  | 0 => by simp [bMk]
  | n + 1 => by
    rw [bMk, Nat.testBit_or, bMk_bit N i j n, Nat.testBit_or, Nat.testBit_two_pow]
    by_cases h : nR N i n = j ∨ (nB N (nR N i n)).testBit j = true
    · have h2 : ∃ k, k < n + 1 ∧ (nR N i k = j ∨ (nB N (nR N i k)).testBit j = true) := ⟨n, by omega, h⟩
      rcases h with h | h <;> simp [h, h2]
    · have h2 : (∃ k, k < n + 1 ∧ (nR N i k = j ∨ (nB N (nR N i k)).testBit j = true)) ↔ ∃ k, k < n ∧ (nR N i k = j ∨ (nB N (nR N i k)).testBit j = true) :=
        ⟨fun ⟨k, a, b⟩ => ⟨k, by rcases Nat.lt_succ_iff_lt_or_eq.mp a with q | q; exact q; subst q; exact absurd b h, b⟩, fun ⟨k, a, b⟩ => ⟨k, by omega, b⟩⟩
      rw [show (decide (nR N i n = j) || (nB N (nR N i n)).testBit j) = false from by simpa [not_or] using h]
      simp [h2]
theorem nB_bit {N : nw} (h : nw_ok N) (i j : Nat) : (nB N i).testBit j = (isG N i && decide (∃ k, k < ar (nK N i) ∧ (nR N i k = j ∨ (nB N (nR N i k)).testBit j = true))) := by
  rw [h.2.2.2.2.2.2 i]
  cases hg : isG N i with
  | true => rw [if_pos rfl, bMk_bit]; simp
  | false => simp
theorem nB_lt {N : nw} (h : nw_ok N) : ∀ (i j : Nat), (nB N i).testBit j = true → j < i := by
  intro i
  induction i using Nat.strongRecOn with
  | ind i ih =>
    intro j hb
    rw [nB_bit h] at hb
    simp at hb
    obtain ⟨hg, k, hk, hj⟩ := hb
    have h1 := (h.2.2.1 i hg).2 k hk
    rcases hj with rfl | hj
    · exact h1
    · exact Nat.lt_trans (ih _ h1 _ hj) h1
theorem nB_lt40 {N : nw} (h : nw_ok N) (i : Nat) : nB N i < 2 ^ 40 := set_lt fun j hj => by
  cases hb : (nB N i).testBit j with
  | false => rfl
  | true =>
    have h1 := nB_lt h i j hb
    have h2 : isG N i = true := by rw [nB_bit h] at hb; simp at hb; exact hb.1
    have h3 := isG_lt h2
    have h4 := h.1
    omega
theorem sM_lt40 {N : nw} (h : nw_ok N) (i : Nat) : sM N i < 2 ^ 40 := set_lt fun j hj => by
  cases hb : (sM N i).testBit j with
  | false => rfl
  | true =>
    have h1 := sM_lt h hb
    have h2 : isG N i = true := by rw [sM_bit] at hb; simp at hb; exact hb.1
    have h3 := isG_lt h2
    have h4 := h.1
    omega
/-- an int that numbers a node -/
def inN (n : Nat) (x : Int32) : Bool := decide (¬ x < 0) && decide (¬ nI n ≤ x)
theorem inN_t {n : Nat} {x : Int32} (hn : n < 2 ^ 31) (h : inN n x = true) : ∃ j, j < n ∧ x = nI j := by
  simp only [inN, Bool.and_eq_true, decide_eq_true_eq] at h
  obtain ⟨j, hj, rfl⟩ := nI_of h.1
  exact ⟨j, by
    rcases Nat.lt_or_ge j n with q | q
    · exact q
    · exact absurd (nI_le q hj) h.2, rfl⟩
theorem inN_nI {n j : Nat} (hn : n < 2 ^ 31) (hj : j < 2 ^ 31) : inN n (nI j) = decide (j < n) := by
  unfold inN
  have h1 : ¬ nI j < 0 := nI_pos hj
  by_cases h : j < n
  · have h2 : ¬ nI n ≤ nI j := nI_ge h hn
    simp [h1, h2, h]
  · have h2 : nI n ≤ nI j := nI_le (by omega) hj
    simp [h2, h]
/-- .. and has a property -/
def atN (n : Nat) (x : Int32) (p : Nat → Bool) : Bool := inN n x && p x.toNatClampNeg
theorem atN_t {n : Nat} {x : Int32} {p : Nat → Bool} (hn : n < 2 ^ 31) (h : atN n x p = true) : ∃ j, j < n ∧ x = nI j ∧ p j = true := by
  simp only [atN, Bool.and_eq_true] at h
  obtain ⟨j, hj, rfl⟩ := inN_t hn h.1
  exact ⟨j, hj, rfl, by have := h.2; rwa [nI_clamp (by omega)] at this⟩
theorem atN_nI {n j : Nat} {p : Nat → Bool} (hn : n < 2 ^ 31) (hj : j < 2 ^ 31) : atN n (nI j) p = (decide (j < n) && p j) := by
  unfold atN
  rw [inN_nI hn hj, nI_clamp hj]
/-! the component's Network -/
def cN (N : nw) (σ : jm_G) : Prop :=
  σ.1 2 0 9 = nI (nN N) ∧ σ.2 2 0 5 = lN (iM N) ∧ σ.2 2 0 6 = lN (gM N) ∧ σ.2 2 0 7 = lN (rM N) ∧ σ.2 2 0 8 = lN (nO N) ∧
  (∀ i, isG N i = true → σ.1 3 0 i = nI (nK N i) ∧ ∀ k, k < 3 → σ.1 4 0 (i * 3 + k) = nI (nR N i (if k < ar (nK N i) then k else 0))) ∧
  (∀ i, isR N i = true → σ.1 5 0 i = nI (nF N i)) ∧ (∀ i, i < 40 → σ.2 6 0 i = lN (sM N i)) ∧ (∀ i, i < 40 → σ.2 7 0 i = lN (nB N i)) ∧ (∀ j, j < 7 → σ.1 100 0 j = nI (ar j))
theorem p40 {S : Nat} (h : S < 2 ^ 40) : S < 2 ^ 63 := by omega
theorem iM_lt {N : nw} (h : nw_ok N) : iM N < 2 ^ 40 := mk_lt40 _ h.1
theorem gM_lt {N : nw} (h : nw_ok N) : gM N < 2 ^ 40 := mk_lt40 _ h.1
theorem rM_lt {N : nw} (h : nw_ok N) : rM N < 2 ^ 40 := mk_lt40 _ h.1
theorem nO_lt {N : nw} (h : nw_ok N) : nO N < 2 ^ 40 := set_lt fun j hj => by
  cases hb : (nO N).testBit j with
  | false => rfl
  | true => have := h.2.2.2.2.1 j hb; have := h.1; omega
theorem c_has {C : jm_C} (h : ct_has C) {S n : Nat} {v : Int64} {x : Int32} {σ : jm_G} {post : Option jm_V → jm_G → Prop} (hv : v = lN S) (hx : x = nI n) (hS : S < 2 ^ 63) (hn : n < 64) (hp : post (some (jI (bI (S.testBit n)))) σ) : C kX9_has [jJ v, jI x] σ post := by subst hv; subst hx; exact h S n σ post hS hn hp
theorem c_bit {C : jm_C} (h : ct_bit C) {n : Nat} {x : Int32} {σ : jm_G} {post : Option jm_V → jm_G → Prop} (hx : x = nI n) (hn : n < 63) (hp : post (some (jJ (lN (2 ^ n)))) σ) : C kX9_bit [jI x] σ post := by subst hx; exact h n σ post hn hp
theorem c_low {C : jm_C} (h : ct_low C) {S k : Nat} {v : Int64} {σ : jm_G} {post : Option jm_V → jm_G → Prop} (hv : v = lN (hi S k)) (hS : S < 2 ^ 63) (hb : S.testBit k = true) (hp : post (some (jI (nI k))) σ) : C kX9_lowest [jJ v] σ post := by subst hv; exact h S k σ post hS hb hp
theorem c_bc {C : jm_C} (h : ct_bc C) {S : Nat} {v : Int64} {σ : jm_G} {post : Option jm_V → jm_G → Prop} (hv : v = lN S) (hS : S < 2 ^ 64) (hp : post (some (jI (nI (cnt S 64)))) σ) : C kJ13_bitCount_95d88 [jJ v] σ post := by subst hv; exact h S σ post hS hp
abbrev ct_isNode (C : jm_C) : Prop := ∀ (N : nw) (x : Int32) (σ : jm_G) (post : Option jm_V → jm_G → Prop), nw_ok N → cN N σ → post (some (jI (bI (inN (nN N) x)))) σ → C kX5_isNode [jR 2 0, jI x] σ post
theorem T_isNode (L : Nat) {C : jm_C} (hC : jm_mon C) : ct_isNode (jm_up L C) := by
  intro N x σ post hok hN hp
  refine jm_start rfl (Nat.le_of_ble_eq_true rfl) hC fun X hg hw => ?_
  refine hg [] 20 _ ?_
  refine br_c (fun h => ?_) (fun h => ?_)
  · refine And.intro (Or.inl rfl) ?_
    have e : inN (nN N) x = false := by simp only [inN, h]; simp
    rw [e] at hp
    exact hp
  · refine br_c (fun h2 => ?_) (fun h2 => ?_)
    · have h2 : σ.1 2 0 9 ≤ x := h2
      rw [hN.1] at h2
      refine And.intro (Or.inl rfl) ?_
      have e : inN (nN N) x = false := by simp only [inN, h2]; simp
      rw [e] at hp
      exact hp
    · have h2 : ¬ σ.1 2 0 9 ≤ x := h2
      rw [hN.1] at h2
      refine And.intro (Or.inr rfl) ?_
      have e : inN (nN N) x = true := by simp only [inN, h, h2]; simp
      rw [e] at hp
      exact hp
abbrev ct_isSort (k : Nat) (p : nw → Nat → Bool) (C : jm_C) : Prop := ∀ (N : nw) (x : Int32) (σ : jm_G) (post : Option jm_V → jm_G → Prop), nw_ok N → cN N σ → post (some (jI (bI (atN (nN N) x (p N))))) σ → C k [jR 2 0, jI x] σ post
theorem T_isInput (L : Nat) {C : jm_C} (hC : jm_mon C) (h1 : ct_isNode C) (h2 : ct_has C) : ct_isSort kX5_isInput isI (jm_up L C) := by
  intro N x σ post hok hN hp
  refine jm_start rfl (Nat.le_of_ble_eq_true rfl) hC fun X hg hw => ?_
  refine hg [] 20 _ ?_
  refine h1 N x σ _ hok hN ?_
  refine br_c (fun h => ?_) (fun h => ?_)
  · refine And.intro (Or.inl rfl) ?_
    have e : atN (nN N) x (isI N) = false := by simp only [atN, bI_0.mp h]; simp
    rw [e] at hp
    exact hp
  · have hk := hok.1
    obtain ⟨j, hj, rfl⟩ := inN_t (by omega) (bI_n0.mp h)
    refine c_has h2 (S := iM N) (n := j) hN.2.1 rfl (p40 (iM_lt hok)) (by omega) ?_
    rw [iM_bit]
    rw [atN_nI (by omega) (by omega), show decide (j < nN N) = true by simpa using hj] at hp
    refine br_c (fun h3 => ?_) (fun h3 => ?_)
    · refine And.intro (Or.inl rfl) ?_
      rw [bI_0.mp h3] at hp; exact hp
    · refine And.intro (Or.inr rfl) ?_
      rw [bI_n0.mp h3] at hp; exact hp
theorem T_isGate (L : Nat) {C : jm_C} (hC : jm_mon C) (h1 : ct_isNode C) (h2 : ct_has C) : ct_isSort kX5_isGate isG (jm_up L C) := by
  intro N x σ post hok hN hp
  refine jm_start rfl (Nat.le_of_ble_eq_true rfl) hC fun X hg hw => ?_
  refine hg [] 20 _ ?_
  refine h1 N x σ _ hok hN ?_
  refine br_c (fun h => ?_) (fun h => ?_)
  · refine And.intro (Or.inl rfl) ?_
    have e : atN (nN N) x (isG N) = false := by simp only [atN, bI_0.mp h]; simp
    rw [e] at hp
    exact hp
  · have hk := hok.1
    obtain ⟨j, hj, rfl⟩ := inN_t (by omega) (bI_n0.mp h)
    refine c_has h2 (S := gM N) (n := j) hN.2.2.1 rfl (p40 (gM_lt hok)) (by omega) ?_
    rw [gM_bit]
    rw [atN_nI (by omega) (by omega), show decide (j < nN N) = true by simpa using hj] at hp
    refine br_c (fun h3 => ?_) (fun h3 => ?_)
    · refine And.intro (Or.inl rfl) ?_
      rw [bI_0.mp h3] at hp; exact hp
    · refine And.intro (Or.inr rfl) ?_
      rw [bI_n0.mp h3] at hp; exact hp
theorem T_isRegister (L : Nat) {C : jm_C} (hC : jm_mon C) (h1 : ct_isNode C) (h2 : ct_has C) : ct_isSort kX5_isRegister isR (jm_up L C) := by
  intro N x σ post hok hN hp
  refine jm_start rfl (Nat.le_of_ble_eq_true rfl) hC fun X hg hw => ?_
  refine hg [] 20 _ ?_
  refine h1 N x σ _ hok hN ?_
  refine br_c (fun h => ?_) (fun h => ?_)
  · refine And.intro (Or.inl rfl) ?_
    have e : atN (nN N) x (isR N) = false := by simp only [atN, bI_0.mp h]; simp
    rw [e] at hp
    exact hp
  · have hk := hok.1
    obtain ⟨j, hj, rfl⟩ := inN_t (by omega) (bI_n0.mp h)
    refine c_has h2 (S := rM N) (n := j) hN.2.2.2.1 rfl (p40 (rM_lt hok)) (by omega) ?_
    rw [rM_bit]
    rw [atN_nI (by omega) (by omega), show decide (j < nN N) = true by simpa using hj] at hp
    refine br_c (fun h3 => ?_) (fun h3 => ?_)
    · refine And.intro (Or.inl rfl) ?_
      rw [bI_0.mp h3] at hp; exact hp
    · refine And.intro (Or.inr rfl) ?_
      rw [bI_n0.mp h3] at hp; exact hp
end
section
/-! the component's Network: what adds to it, what reads it -/
theorem wI1 (σ : jm_G) (t i : Nat) (f : Nat → Int32) (a b : Nat) : (wI σ t i f).1 a b = if a = t ∧ b = i then f else σ.1 a b := rfl
theorem wI2 (σ : jm_G) (t i : Nat) (f : Nat → Int32) : (wI σ t i f).2 = σ.2 := rfl
theorem wJ1 (σ : jm_G) (t i : Nat) (f : Nat → Int64) : (wJ σ t i f).1 = σ.1 := rfl
theorem wJ2 (σ : jm_G) (t i : Nat) (f : Nat → Int64) (a b : Nat) : (wJ σ t i f).2 a b = if a = t ∧ b = i then f else σ.2 a b := rfl
/-- outside of some kinds of cells all is as it was -/
def off (lo hi : Nat) (σ τ : jm_G) : Prop := ∀ t i, (t < lo ∨ hi < t) → τ.1 t i = σ.1 t i ∧ τ.2 t i = σ.2 t i
theorem off_refl (lo hi : Nat) (σ : jm_G) : off lo hi σ σ := fun _ _ _ => ⟨rfl, rfl⟩
theorem off_trans {lo hi : Nat} {σ τ υ : jm_G} (h1 : off lo hi σ τ) (h2 : off lo hi τ υ) : off lo hi σ υ := fun t i h => ⟨((h2 t i h).1).trans (h1 t i h).1, ((h2 t i h).2).trans (h1 t i h).2⟩
theorem off_wide {lo hi lo' hi' : Nat} {σ τ : jm_G} (h : off lo hi σ τ) (h1 : lo' ≤ lo) (h2 : hi ≤ hi') : off lo' hi' σ τ := fun t i q => h t i (by omega)
theorem off_wI {lo hi : Nat} {σ τ : jm_G} {t i : Nat} {f : Nat → Int32} (h : off lo hi σ τ) (h1 : lo ≤ t) (h2 : t ≤ hi) : off lo hi σ (wI τ t i f) := fun a b q => ⟨by rw [wI1, if_neg (by omega)]; exact (h a b q).1, by rw [wI2]; exact (h a b q).2⟩
theorem off_wJ {lo hi : Nat} {σ τ : jm_G} {t i : Nat} {f : Nat → Int64} (h : off lo hi σ τ) (h1 : lo ≤ t) (h2 : t ≤ hi) : off lo hi σ (wJ τ t i f) := fun a b q => ⟨by rw [wJ1]; exact (h a b q).1, by rw [wJ2, if_neg (by omega)]; exact (h a b q).2⟩
theorem nI3 {i k : Nat} : nI i * nI 3 + nI k = nI (i * 3 + k) := by rw [pk_mul, nI_add]
/-! new nodes -/
def addI (N : nw) : nw := (nN N + 1, fun i => if i = nN N then 0 else nS N i, nK N, nR N, nF N, nO N, nB N)
def addR (N : nw) : nw := (nN N + 1, fun i => if i = nN N then 2 else nS N i, nK N, nR N, fun i => if i = nN N then nN N else nF N i, nO N, nB N)
def addG (N : nw) (k a b c : Nat) : nw := (nN N + 1, fun i => if i = nN N then 1 else nS N i, fun i => if i = nN N then k else nK N i, fun i j => if i = nN N then (if j = 0 then a else if j = 1 then b else c) else nR N i j, nF N, nO N,
  fun i => if i = nN N then (2 ^ a ||| nB N a) ||| (if 1 < ar k then 2 ^ b ||| nB N b else 0) ||| (if 2 < ar k then 2 ^ c ||| nB N c else 0) else nB N i)
def setF (N : nw) (r x : Nat) : nw := (nN N, nS N, nK N, nR N, fun i => if i = r then x else nF N i, nO N, nB N)
def addO (N : nw) (x : Nat) : nw := (nN N, nS N, nK N, nR N, nF N, nO N ||| 2 ^ x, nB N)
theorem add_lt {n i : Nat} (h : i ≠ n) : decide (i < n + 1) = decide (i < n) := by simp; omega
theorem isG_addI (N : nw) (i : Nat) : isG (addI N) i = isG N i := by
  show (decide (i < nN N + 1) && (if i = nN N then 0 else nS N i) == 1) = _
  by_cases h : i = nN N
  · rw [if_pos h]; subst h; simp [isG]
  · rw [if_neg h, add_lt h]; simp [isG, h]
theorem isR_addI (N : nw) (i : Nat) : isR (addI N) i = isR N i := by
  show (decide (i < nN N + 1) && (if i = nN N then 0 else nS N i) == 2) = _
  by_cases h : i = nN N
  · rw [if_pos h]; subst h; simp [isR]
  · rw [if_neg h, add_lt h]; simp [isR, h]
theorem isI_addI (N : nw) (i : Nat) : isI (addI N) i = (isI N i || decide (i = nN N)) := by
  show (decide (i < nN N + 1) && (if i = nN N then 0 else nS N i) == 0) = _
  by_cases h : i = nN N
  · rw [if_pos h]; subst h; simp [isI]
  · rw [if_neg h, add_lt h]; simp [isI, h]
theorem isG_addR (N : nw) (i : Nat) : isG (addR N) i = isG N i := by
  show (decide (i < nN N + 1) && (if i = nN N then 2 else nS N i) == 1) = _
  by_cases h : i = nN N
  · rw [if_pos h]; subst h; simp [isG]
  · rw [if_neg h, add_lt h]; simp [isG, h]
theorem isR_addR (N : nw) (i : Nat) : isR (addR N) i = (isR N i || decide (i = nN N)) := by
  show (decide (i < nN N + 1) && (if i = nN N then 2 else nS N i) == 2) = _
  by_cases h : i = nN N
  · rw [if_pos h]; subst h; simp [isR]
  · rw [if_neg h, add_lt h]; simp [isR, h]
theorem isI_addR (N : nw) (i : Nat) : isI (addR N) i = isI N i := by
  show (decide (i < nN N + 1) && (if i = nN N then 2 else nS N i) == 0) = _
  by_cases h : i = nN N
  · rw [if_pos h]; subst h; simp [isI]
  · rw [if_neg h, add_lt h]; simp [isI, h]
theorem isG_addG (N : nw) (k a b c : Nat) (i : Nat) : isG (addG N k a b c) i = (isG N i || decide (i = nN N)) := by
  show (decide (i < nN N + 1) && (if i = nN N then 1 else nS N i) == 1) = _
  by_cases h : i = nN N
  · rw [if_pos h]; subst h; simp [isG]
  · rw [if_neg h, add_lt h]; simp [isG, h]
theorem isR_addG (N : nw) (k a b c : Nat) (i : Nat) : isR (addG N k a b c) i = isR N i := by
  show (decide (i < nN N + 1) && (if i = nN N then 1 else nS N i) == 2) = _
  by_cases h : i = nN N
  · rw [if_pos h]; subst h; simp [isR]
  · rw [if_neg h, add_lt h]; simp [isR, h]
theorem isI_addG (N : nw) (k a b c : Nat) (i : Nat) : isI (addG N k a b c) i = isI N i := by
  show (decide (i < nN N + 1) && (if i = nN N then 1 else nS N i) == 0) = _
  by_cases h : i = nN N
  · rw [if_pos h]; subst h; simp [isI]
  · rw [if_neg h, add_lt h]; simp [isI, h]
theorem set_eq {a b : Nat} (h : ∀ i, a.testBit i = b.testBit i) : a = b := Nat.eq_of_testBit_eq h
theorem or_bit (S k i : Nat) : (S ||| 2 ^ k).testBit i = (S.testBit i || decide (i = k)) := by
  rw [Nat.testBit_or, Nat.testBit_two_pow]
  congr 1
  simp only [eq_comm]
theorem iM_addI (N : nw) : iM (addI N) = iM N ||| 2 ^ nN N := set_eq fun i => by rw [iM_bit, or_bit, iM_bit, isI_addI]
theorem gM_addI (N : nw) : gM (addI N) = gM N := set_eq fun i => by rw [gM_bit, gM_bit, isG_addI]
theorem rM_addI (N : nw) : rM (addI N) = rM N := set_eq fun i => by rw [rM_bit, rM_bit, isR_addI]
theorem iM_addR (N : nw) : iM (addR N) = iM N := set_eq fun i => by rw [iM_bit, iM_bit, isI_addR]
theorem gM_addR (N : nw) : gM (addR N) = gM N := set_eq fun i => by rw [gM_bit, gM_bit, isG_addR]
theorem rM_addR (N : nw) : rM (addR N) = rM N ||| 2 ^ nN N := set_eq fun i => by rw [rM_bit, or_bit, rM_bit, isR_addR]
theorem iM_addG (N : nw) (k a b c : Nat) : iM (addG N k a b c) = iM N := set_eq fun i => by rw [iM_bit, iM_bit, isI_addG]
theorem rM_addG (N : nw) (k a b c : Nat) : rM (addG N k a b c) = rM N := set_eq fun i => by rw [rM_bit, rM_bit, isR_addG]
theorem gM_addG (N : nw) (k a b c : Nat) : gM (addG N k a b c) = gM N ||| 2 ^ nN N := set_eq fun i => by rw [gM_bit, or_bit, gM_bit, isG_addG]
theorem sMk_eq {N M : nw} {i : Nat} (h : ∀ k, nR N i k = nR M i k) : ∀ n, sMk N i n = sMk M i n
  | 0 => rfl
  | n + 1 => by rw [sMk, sMk, sMk_eq h n, h n]
theorem bMk_eq {N M : nw} {i : Nat} (h : ∀ k, nR N i k = nR M i k) (h2 : nB N = nB M) : ∀ n, bMk N i n = bMk M i n
  | 0 => rfl
  | n + 1 => by rw [bMk, bMk, bMk_eq h h2 n, h n, h2]
theorem sM_addI (N : nw) (i : Nat) : sM (addI N) i = sM N i := by
  unfold sM; rw [isG_addI, sMk_eq (N := addI N) (M := N) fun _ => rfl]; rfl
theorem sM_addR (N : nw) (i : Nat) : sM (addR N) i = sM N i := by
  unfold sM; rw [isG_addR, sMk_eq (N := addR N) (M := N) fun _ => rfl]; rfl
theorem isG_n (N : nw) : isG N (nN N) = false := by simp [isG]
theorem isR_n (N : nw) : isR N (nN N) = false := by simp [isR]
theorem ok_addI {N : nw} (h : nw_ok N) (hn : nN N < 40) : nw_ok (addI N) := by
  obtain ⟨h1, h2, h3, h4, h5, h6, h7⟩ := h
  refine ⟨show nN N + 1 ≤ 40 by omega, fun i hi => ?_, fun i hi => ?_, fun i hi => ?_, fun i hi => ?_, h6, fun i => ?_⟩
  · have hi : i < nN N + 1 := hi
    show (if i = nN N then 0 else nS N i) < 3
    by_cases e : i = nN N
    · rw [if_pos e]; omega
    · rw [if_neg e]; exact h2 i (by omega)
  · rw [isG_addI] at hi; exact h3 i hi
  · rw [isR_addI] at hi; exact Nat.lt_succ_of_lt (h4 i hi)
  · exact Nat.lt_succ_of_lt (h5 i hi)
  · rw [isG_addI, bMk_eq (N := addI N) (M := N) (fun _ => rfl) rfl]; exact h7 i
theorem ok_addR {N : nw} (h : nw_ok N) (hn : nN N < 40) : nw_ok (addR N) := by
  obtain ⟨h1, h2, h3, h4, h5, h6, h7⟩ := h
  refine ⟨show nN N + 1 ≤ 40 by omega, fun i hi => ?_, fun i hi => ?_, fun i hi => ?_, fun i hi => ?_, h6, fun i => ?_⟩
  · have hi : i < nN N + 1 := hi
    show (if i = nN N then 2 else nS N i) < 3
    by_cases e : i = nN N
    · rw [if_pos e]; omega
    · rw [if_neg e]; exact h2 i (by omega)
  · rw [isG_addR] at hi; exact h3 i hi
  · rw [isR_addR] at hi
    show (if i = nN N then nN N else nF N i) < nN N + 1
    by_cases e : i = nN N
    · rw [if_pos e]; omega
    · rw [if_neg e]; exact Nat.lt_succ_of_lt (h4 i (by simpa [e] using hi))
  · exact Nat.lt_succ_of_lt (h5 i hi)
  · rw [isG_addR, bMk_eq (N := addR N) (M := N) (fun _ => rfl) rfl]; exact h7 i
theorem ok_addG {N : nw} (h : nw_ok N) (hn : nN N < 40) {k a b c : Nat} (hk : k < 7) (ha : a < nN N) (hb : 1 < ar k → b < nN N) (hc : 2 < ar k → c < nN N) : nw_ok (addG N k a b c) := by
  obtain ⟨h1, h2, h3, h4, h5, h6, h7⟩ := h
  refine ⟨show nN N + 1 ≤ 40 by omega, fun i hi => ?_, fun i hi => ?_, fun i hi => ?_, fun i hi => ?_, h6, fun i => ?_⟩
  · have hi : i < nN N + 1 := hi
    show (if i = nN N then 1 else nS N i) < 3
    by_cases e : i = nN N
    · rw [if_pos e]; omega
    · rw [if_neg e]; exact h2 i (by omega)
  · rw [isG_addG] at hi
    by_cases e : i = nN N
    · subst e
      have hK : nK (addG N k a b c) (nN N) = k := if_pos rfl
      rw [hK]
      refine ⟨hk, fun j hj => ?_⟩
      show (if nN N = nN N then (if j = 0 then a else if j = 1 then b else c) else nR N (nN N) j) < nN N
      rw [if_pos rfl]
      by_cases e0 : j = 0
      · rw [if_pos e0]; exact ha
      · by_cases e1 : j = 1
        · subst e1; rw [if_neg e0, if_pos rfl]; exact hb hj
        · have e2 : j = 2 := by have := (ar_pos k).2; omega
          subst e2; rw [if_neg e0, if_neg e1]; exact hc hj
    · have hg : isG N i = true := by simpa [e] using hi
      have hK : nK (addG N k a b c) i = nK N i := if_neg e
      have hR : ∀ j, nR (addG N k a b c) i j = nR N i j := fun j => if_neg e
      rw [hK]
      exact ⟨(h3 i hg).1, fun j hj => by rw [hR]; exact (h3 i hg).2 j hj⟩
  · rw [isR_addG] at hi; exact Nat.lt_succ_of_lt (h4 i hi)
  · exact Nat.lt_succ_of_lt (h5 i hi)
  · rw [isG_addG]
    have hB : ∀ j, j < nN N → nB (addG N k a b c) j = nB N j := fun j hj => if_neg (by omega)
    by_cases e : i = nN N
    · subst e
      have hK : nK (addG N k a b c) (nN N) = k := if_pos rfl
      have hR0 : nR (addG N k a b c) (nN N) 0 = a := if_pos rfl
      have hR1 : nR (addG N k a b c) (nN N) 1 = b := if_pos rfl
      have hR2 : nR (addG N k a b c) (nN N) 2 = c := if_pos rfl
      have hBn : nB (addG N k a b c) (nN N) = (2 ^ a ||| nB N a) ||| (if 1 < ar k then 2 ^ b ||| nB N b else 0) ||| (if 2 < ar k then 2 ^ c ||| nB N c else 0) := if_pos rfl
      rw [hK, hBn]
      simp only [decide_true, Bool.or_true, if_true]
      have har := ar_pos k
      by_cases q1 : 1 < ar k
      · by_cases q2 : 2 < ar k
        · have e3 : ar k = 3 := by omega
          rw [if_pos q1, if_pos q2, e3]
          simp only [bMk, hR0, hR1, hR2, hB a ha, hB b (hb q1), hB c (hc q2), Nat.zero_or]
        · have e3 : ar k = 2 := by omega
          rw [if_pos q1, if_neg q2, e3]
          simp only [bMk, hR0, hR1, hB a ha, hB b (hb q1), Nat.zero_or, Nat.or_zero]
      · have e3 : ar k = 1 := by omega
        rw [if_neg q1, if_neg (by omega), e3]
        simp only [bMk, hR0, hB a ha, Nat.zero_or, Nat.or_zero]
    · have hBi : nB (addG N k a b c) i = nB N i := if_neg e
      rw [hBi, h7 i]
      simp only [e, decide_false, Bool.or_false]
      cases hg : isG N i with
      | false => rfl
      | true =>
        simp only [if_true]
        have hK : nK (addG N k a b c) i = nK N i := if_neg e
        rw [hK]
        have hle : ∀ m, m ≤ ar (nK N i) → bMk N i m = bMk (addG N k a b c) i m := by
          intro m
          induction m with
          | zero => intro _; rfl
          | succ m ih =>
            intro hm
            have hs := (h3 i hg).2 m (by omega)
            have hi := isG_lt hg
            have hRm : nR (addG N k a b c) i m = nR N i m := if_neg e
            rw [bMk, bMk, ih (by omega), hRm, hB _ (by omega)]
        exact hle _ (Nat.le_refl _)
theorem ok_setF {N : nw} (h : nw_ok N) {r x : Nat} (hx : x < nN N) : nw_ok (setF N r x) := by
  obtain ⟨h1, h2, h3, h4, h5, h6, h7⟩ := h
  refine ⟨h1, h2, h3, fun i hi => ?_, h5, h6, fun i => ?_⟩
  · show (if i = r then x else nF N i) < nN N
    by_cases e : i = r
    · rw [if_pos e]; exact hx
    · rw [if_neg e]; exact h4 i hi
  · rw [bMk_eq (N := setF N r x) (M := N) (fun _ => rfl) rfl]; exact h7 i
end
section
/-! the component's Network: its methods -/
theorem cN_off {N : nw} {σ τ : jm_G} {lo hi : Nat} (h : cN N σ) (ho : off lo hi σ τ) (h1 : 7 < lo) (h2 : hi < 100) : cN N τ := by
  obtain ⟨a1, a2, a3, a4, a5, a6, a7, a8, a9, a10⟩ := h
  have e2 := ho 2 0 (by omega); have e3 := ho 3 0 (by omega); have e4 := ho 4 0 (by omega); have e5 := ho 5 0 (by omega)
  have e6 := ho 6 0 (by omega); have e7 := ho 7 0 (by omega); have e8 := ho 100 0 (by omega)
  unfold cN
  rw [e2.1, e2.2, e3.1, e4.1, e5.1, e6.2, e7.2, e8.1]
  exact ⟨a1, a2, a3, a4, a5, a6, a7, a8, a9, a10⟩
theorem in40 {N : nw} (h : nw_ok N) {i n : Nat} (hi : i < nN N) (hn : 40 ≤ n := by omega) (hn2 : n < 2 ^ 31 := by omega) : vp_in (nI i) n := vp_in_nI (by have := h.1; omega) hn2
theorem cl40 {N : nw} (h : nw_ok N) {i : Nat} (hi : i < nN N) : (nI i).toNatClampNeg = i := nI_clamp (by have := h.1; omega)
abbrev ct_isFull (C : jm_C) : Prop := ∀ (N : nw) (σ : jm_G) (post : Option jm_V → jm_G → Prop), nw_ok N → cN N σ → post (some (jI (bI (decide (40 ≤ nN N))))) σ → C kX5_isFull [jR 2 0] σ post
theorem T_isFull (L : Nat) {C : jm_C} (hC : jm_mon C) : ct_isFull (jm_up L C) := by
  intro N σ post hok hN hp
  refine jm_start rfl (Nat.le_of_ble_eq_true rfl) hC fun X hg hw => ?_
  refine hg [] 20 _ ?_
  have hn := hok.1
  refine br_c (fun h => ?_) (fun h => ?_)
  · have h : σ.1 2 0 9 < nI 40 := h
    rw [hN.1, nI_ltI (by omega) (by omega)] at h
    refine And.intro (Or.inl rfl) ?_
    rw [show decide (40 ≤ nN N) = false by simp; omega] at hp
    exact hp
  · have h : ¬ σ.1 2 0 9 < nI 40 := h
    rw [hN.1, nI_ltI (by omega) (by omega)] at h
    refine And.intro (Or.inr rfl) ?_
    rw [show decide (40 ≤ nN N) = true by simp; omega] at hp
    exact hp
abbrev ct_isKind (C : jm_C) : Prop := ∀ (x : Int32) (σ : jm_G) (post : Option jm_V → jm_G → Prop), post (some (jI (bI (inN 7 x)))) σ → C kX5_isKind [jI x] σ post
theorem T_isKind (L : Nat) {C : jm_C} (hC : jm_mon C) : ct_isKind (jm_up L C) := by
  intro x σ post hp
  refine jm_start rfl (Nat.le_of_ble_eq_true rfl) hC fun X hg hw => ?_
  refine hg [] 20 _ ?_
  refine br_c (fun h => ?_) (fun h => ?_)
  · refine And.intro (Or.inl rfl) ?_
    have e : inN 7 x = false := by simp only [inN, h]; simp
    rw [e] at hp
    exact hp
  · refine br_c (fun h2 => ?_) (fun h2 => ?_)
    · have h2 : nI 7 ≤ x := h2
      refine And.intro (Or.inl rfl) ?_
      have e : inN 7 x = false := by simp only [inN, h2]; simp
      rw [e] at hp
      exact hp
    · have h2 : ¬ nI 7 ≤ x := h2
      refine And.intro (Or.inr rfl) ?_
      have e : inN 7 x = true := by simp only [inN, h, h2]; simp
      rw [e] at hp
      exact hp
abbrev ct_srcOf (C : jm_C) : Prop := ∀ (k : Nat) (σ : jm_G) (post : Option jm_V → jm_G → Prop), k < 7 → (∀ j, j < 7 → σ.1 100 0 j = nI (ar j)) → post (some (jI (nI (ar k)))) σ → C kX5_sourcesOf [jI (nI k)] σ post
theorem T_srcOf (L : Nat) {C : jm_C} (hC : jm_mon C) : ct_srcOf (jm_up L C) := by
  intro k σ post hk hs hp
  refine jm_start rfl (Nat.le_of_ble_eq_true rfl) hC fun X hg hw => ?_
  refine hg [] 20 _ ?_
  refine And.intro (vp_in_nI hk (by omega)) ?_
  refine And.intro trivial ?_
  show post (some (jI (σ.1 100 0 (nI k).toNatClampNeg))) σ
  rw [nI_clamp (by omega), hs k hk]
  exact hp
abbrev ct_kindOf (C : jm_C) : Prop := ∀ (N : nw) (i : Nat) (σ : jm_G) (post : Option jm_V → jm_G → Prop), nw_ok N → cN N σ → isG N i = true → post (some (jI (nI (nK N i)))) σ → C kX5_kindOf [jR 2 0, jI (nI i)] σ post
theorem T_kindOf (L : Nat) {C : jm_C} (hC : jm_mon C) : ct_kindOf (jm_up L C) := by
  intro N i σ post hok hN hi hp
  refine jm_start rfl (Nat.le_of_ble_eq_true rfl) hC fun X hg hw => ?_
  refine hg [] 20 _ ?_
  refine And.intro (in40 hok (isG_lt hi)) ?_
  refine And.intro trivial ?_
  show post (some (jI (σ.1 3 0 (nI i).toNatClampNeg))) σ
  rw [cl40 hok (isG_lt hi), (hN.2.2.2.2.2.1 i hi).1]
  exact hp
abbrev ct_feedOf (C : jm_C) : Prop := ∀ (N : nw) (i : Nat) (σ : jm_G) (post : Option jm_V → jm_G → Prop), nw_ok N → cN N σ → isR N i = true → post (some (jI (nI (nF N i)))) σ → C kX5_feedOf [jR 2 0, jI (nI i)] σ post
theorem T_feedOf (L : Nat) {C : jm_C} (hC : jm_mon C) : ct_feedOf (jm_up L C) := by
  intro N i σ post hok hN hi hp
  refine jm_start rfl (Nat.le_of_ble_eq_true rfl) hC fun X hg hw => ?_
  refine hg [] 20 _ ?_
  refine And.intro (in40 hok (isR_lt hi)) ?_
  refine And.intro trivial ?_
  show post (some (jI (σ.1 5 0 (nI i).toNatClampNeg))) σ
  rw [cl40 hok (isR_lt hi), hN.2.2.2.2.2.2.1 i hi]
  exact hp
/-- a source by its place, or none: -1 -/
def srcI (N : nw) (i k : Nat) : Int32 := if k < ar (nK N i) then nI (nR N i k) else -(nI 1)
abbrev ct_sourceOf (C : jm_C) : Prop := ∀ (N : nw) (i k : Nat) (σ : jm_G) (post : Option jm_V → jm_G → Prop), nw_ok N → cN N σ → isG N i = true → k < 3 → post (some (jI (srcI N i k))) σ → C kX5_sourceOf [jR 2 0, jI (nI i), jI (nI k)] σ post
theorem T_sourceOf (L : Nat) {C : jm_C} (hC : jm_mon C) : ct_sourceOf (jm_up L C) := by
  intro N i k σ post hok hN hi hk hp
  refine jm_start rfl (Nat.le_of_ble_eq_true rfl) hC fun X hg hw => ?_
  refine hg [] 30 _ ?_
  have hlt := isG_lt hi
  have hn := hok.1
  have h7 := (hok.2.2.1 i hi).1
  have hk3 := (hN.2.2.2.2.2.1 i hi).1
  have har := ar_pos (nK N i)
  refine And.intro (in40 hok hlt) ?_
  refine And.intro (show vp_in (σ.1 3 0 (nI i).toNatClampNeg) 7 by rw [cl40 hok hlt, hk3]; exact vp_in_nI h7 (by omega)) ?_
  have e1 : σ.1 100 0 (σ.1 3 0 (nI i).toNatClampNeg).toNatClampNeg = nI (ar (nK N i)) := by rw [cl40 hok hlt, hk3, nI_clamp (by omega), hN.2.2.2.2.2.2.2.2.2 _ h7]
  refine br_c (fun h => ?_) (fun h => ?_)
  · have h : σ.1 100 0 (σ.1 3 0 (nI i).toNatClampNeg).toNatClampNeg ≤ nI k := h
    rw [e1, nI_leI (by omega) (by omega)] at h
    refine And.intro trivial ?_
    unfold srcI at hp
    rw [if_neg (by omega)] at hp
    exact hp
  · have h : ¬ σ.1 100 0 (σ.1 3 0 (nI i).toNatClampNeg).toNatClampNeg ≤ nI k := h
    rw [e1, nI_leI (by omega) (by omega)] at h
    refine And.intro (show vp_in (nI i * nI 3 + nI k) 120 by rw [nI3]; exact vp_in_nI (by omega) (by omega)) ?_
    refine And.intro trivial ?_
    show post (some (jI (σ.1 4 0 (nI i * nI 3 + nI k).toNatClampNeg))) σ
    rw [nI3, nI_clamp (by omega), (hN.2.2.2.2.2.1 i hi).2 k hk, if_pos (by omega)]
    unfold srcI at hp
    rw [if_pos (by omega)] at hp
    exact hp
/-- what node(.., 2 to 4) tells -/
def sofI (N : nw) (i k : Nat) : Int32 := if isG N i then srcI N i k else if isR N i && k == 0 then nI (nF N i) else -(nI 1)
abbrev ct_sof (C : jm_C) : Prop := ∀ (N : nw) (i k : Nat) (σ : jm_G) (post : Option jm_V → jm_G → Prop), nw_ok N → cN N σ → i < nN N → k < 3 → post (some (jI (sofI N i k))) σ → C kX5_sourceOrFeed [jR 2 0, jI (nI i), jI (nI k)] σ post
theorem T_sof (L : Nat) {C : jm_C} (hC : jm_mon C) (h1 : ct_isSort kX5_isGate isG C) (h2 : ct_isSort kX5_isRegister isR C) (h3 : ct_sourceOf C) : ct_sof (jm_up L C) := by
  intro N i k σ post hok hN hi hk hp
  refine jm_start rfl (Nat.le_of_ble_eq_true rfl) hC fun X hg hw => ?_
  have hn := hok.1
  have hat : ∀ p : Nat → Bool, atN (nN N) (nI i) p = p i := fun p => by rw [atN_nI (by omega) (by omega)]; simp [hi]
  refine hg [] 30 _ ?_
  refine h1 N (nI i) σ _ hok hN ?_
  rw [hat]
  refine br_c (fun h => ?_) (fun h => ?_)
  · have hg0 := bI_0.mp h
    refine h2 N (nI i) σ _ hok hN ?_
    rw [hat]
    refine br_c (fun h4 => ?_) (fun h4 => ?_)
    · refine And.intro trivial ?_
      unfold sofI at hp
      simp only [hg0, bI_0.mp h4, Bool.false_and, Bool.false_eq_true, if_false] at hp
      exact hp
    · have hr0 := bI_n0.mp h4
      refine br_c (fun h5 => ?_) (fun h5 => ?_)
      · have h5 : nI k = nI 0 := h5
        rw [nI_eq (by omega) (by omega)] at h5
        refine And.intro (in40 hok hi) ?_
        refine And.intro trivial ?_
        show post (some (jI (σ.1 5 0 (nI i).toNatClampNeg))) σ
        rw [cl40 hok hi, hN.2.2.2.2.2.2.1 i hr0]
        unfold sofI at hp
        simp only [hg0, hr0, h5, Bool.false_eq_true, if_false] at hp
        exact hp
      · have h5 : ¬ nI k = nI 0 := h5
        rw [nI_eq (by omega) (by omega)] at h5
        refine And.intro trivial ?_
        unfold sofI at hp
        simp only [hg0, hr0, h5, Bool.false_eq_true, if_false, Bool.true_and, beq_iff_eq] at hp
        exact hp
  · have hg1 := bI_n0.mp h
    refine h3 N i k σ _ hok hN hg1 hk ?_
    refine And.intro trivial ?_
    unfold sofI at hp
    simp only [hg1, if_true] at hp
    exact hp
/-- feeds of the registers below a number -/
def fdM (N : nw) : Nat → Nat
  | 0 => 0
  | r + 1 => fdM N r ||| (if isR N r then 2 ^ nF N r else 0)
def rts (N : nw) : Nat := nO N ||| fdM N 40
theorem fdM_bit (N : nw) (j : Nat) : ∀ n, (fdM N n).testBit j = decide (∃ r, r < n ∧ isR N r = true ∧ nF N r = j)
  | 0 => by simp [fdM]
  | n + 1 => by
    rw [fdM, Nat.testBit_or, fdM_bit N j n]
    by_cases h : isR N n = true ∧ nF N n = j
    · have h2 : ∃ r, r < n + 1 ∧ isR N r = true ∧ nF N r = j := ⟨n, by omega, h⟩
      rw [if_pos h.1, Nat.testBit_two_pow]
      simp [h.2, h2]
    · have h2 : (∃ r, r < n + 1 ∧ isR N r = true ∧ nF N r = j) ↔ ∃ r, r < n ∧ isR N r = true ∧ nF N r = j :=
        ⟨fun ⟨k, a, b⟩ => ⟨k, by rcases Nat.lt_succ_iff_lt_or_eq.mp a with q | q; exact q; subst q; exact absurd b h, b⟩, fun ⟨k, a, b⟩ => ⟨k, by omega, b⟩⟩
      have h3 : (if isR N n then 2 ^ nF N n else 0).testBit j = false := by
        cases hr : isR N n with
        | false => simp
        | true => simp only [if_true, Nat.testBit_two_pow]; simp; intro e; exact h ⟨hr, e⟩
      rw [h3]
      simp [h2]
theorem rts_bit (N : nw) (h : nw_ok N) (j : Nat) : (rts N).testBit j = true ↔ ((nO N).testBit j = true ∨ ∃ r, isR N r = true ∧ nF N r = j) := by
  rw [rts, Nat.testBit_or, fdM_bit, Bool.or_eq_true, decide_eq_true_eq]
  exact or_congr Iff.rfl ⟨fun ⟨r, _, q⟩ => ⟨r, q⟩, fun ⟨r, q⟩ => ⟨r, by have := isR_lt q.1; have := h.1; omega, q⟩⟩
theorem rts_lt {N : nw} (h : nw_ok N) {j : Nat} (hb : (rts N).testBit j = true) : j < nN N := by
  rcases (rts_bit N h j).mp hb with hb | ⟨r, hr, rfl⟩
  · exact h.2.2.2.2.1 j hb
  · exact h.2.2.2.1 r hr
theorem rts_lt40 {N : nw} (h : nw_ok N) : rts N < 2 ^ 40 := set_lt fun j hj => by
  cases hb : (rts N).testBit j with
  | false => rfl
  | true => have := rts_lt h hb; have := h.1; omega
abbrev ct_roots (C : jm_C) : Prop := ∀ (N : nw) (σ : jm_G) (post : Option jm_V → jm_G → Prop), nw_ok N → cN N σ → post (some (jJ (lN (rts N)))) σ → C kX5_roots [jR 2 0] σ post
theorem nxt {S k : Nat} (h : S.testBit k = true) : lN (hi S k) &&& (lN (hi S k) - lN 1) = lN (hi S (k + 1)) := by
  rw [lN_sub (Nat.pos_of_ne_zero (hi_ne h)), fb_andL, hi_and h]
theorem hi_z {S k n : Nat} (h : S < 2 ^ 40) (hk : 40 ≤ k) : hi S k = 0 := hi_end (Nat.lt_of_lt_of_le h (Nat.pow_le_pow_right (by omega) hk))
theorem hi_n0 {S k : Nat} (hS : S < 2 ^ 40) (h : S.testBit k = true) : ¬ lg_cmp (lN (hi S k)) (lN 0) = 0 := fun e => hi_ne h ((lN_inj (by have := hi_le S k; omega) (by omega)).mp ((cmp_0 _ _).mp e))
theorem T_roots (L : Nat) {C : jm_C} (hC : jm_mon C) (h1 : ct_low C) (h2 : ct_bit C) : ct_roots (jm_up L C) := by
  intro N σ post hok hN hp
  refine jm_start rfl (Nat.le_of_ble_eq_true rfl) hC fun X hg hw => ?_
  refine hg [10] 30 _ ?_
  show X (σ, 10, [some (jR 2 0), some (jJ (σ.2 2 0 8)), none, some (jJ (σ.2 2 0 7)), none], [])
  rw [hN.2.2.2.2.1, hN.2.2.2.1]
  have hn := hok.1
  have hr := rM_lt hok
  have main := jm_bits (X := X) (rM N) (fun k => (σ, 10, [some (jR 2 0), some (jJ (lN (nO N ||| fdM N k))), none, some (jJ (lN (hi (rM N) k))), none], [])) 40 ?_ ?_ ?_ 0 (by omega)
  · have main : X (σ, 10, [some (jR 2 0), some (jJ (lN (nO N ||| 0))), none, some (jJ (lN (hi (rM N) 0))), none], []) := main
    rw [hi_0, Nat.or_zero] at main
    exact main
  · show X (σ, 10, [some (jR 2 0), some (jJ (lN (nO N ||| fdM N 40))), none, some (jJ (lN (hi (rM N) 40))), none], [])
    rw [hi_end hr]
    refine hg [] 30 _ ?_
    refine br_c (fun h => ?_) (fun h => ?_)
    · exact And.intro trivial hp
    · exact absurd ((cmp_0 _ _).mpr rfl) h
  · intro k hk hb
    rw [rM_bit] at hb
    have e : fdM N (k + 1) = fdM N k := by rw [fdM, hb]; simp
    have hb2 : (rM N).testBit k = false := by rw [rM_bit]; exact hb
    simp only [e, hi_skip hb2]
  · intro k hk hb ih
    have hr2 : isR N k = true := by rw [← rM_bit]; exact hb
    have hlt := isR_lt hr2
    refine hg [10] 30 _ ?_
    refine br_c (fun h => ?_) (fun h => ?_)
    · exact absurd h (hi_n0 hr hb)
    · refine h1 (rM N) k σ _ (p40 hr) hb ?_
      refine And.intro (in40 hok hlt) ?_
      have hf := hok.2.2.2.1 k hr2
      refine c_bit h2 (n := nF N k) (show σ.1 5 0 (nI k).toNatClampNeg = nI (nF N k) by rw [cl40 hok hlt]; exact hN.2.2.2.2.2.2.1 k hr2) (by omega) ?_
      refine jm_eqv (X := X) ih rfl rfl ?_ rfl
      show [some (jR 2 0), some (jJ (lN (nO N ||| fdM N k) ||| lN (2 ^ nF N k))), none, some (jJ (lN (hi (rM N) k) &&& (lN (hi (rM N) k) - lN 1))), none] = _
      rw [nxt hb, fb_orL, fdM, hr2, if_pos rfl, Nat.or_assoc]
/-- what one comes to from a set of nodes, those below a number looked at from above, without the nodes of a cut -/
def rdn (N : nw) (cut : Nat) : Nat → Nat → Nat
  | 0, R => R
  | k + 1, R => rdn N cut k (if R.testBit k then R ||| sD (sM N k) cut else R)
def rch (N : nw) (g cut : Nat) : Nat := rdn N cut (g + 1) (2 ^ g)
theorem sD_lt {a b n : Nat} (h : a < 2 ^ n) : sD a b < 2 ^ n := set_lt fun i hi => by
  rw [sD_bit]
  cases hb : a.testBit i with
  | false => rfl
  | true => have := bit_lt h hb; omega
theorem or_lt {a b n : Nat} (h1 : a < 2 ^ n) (h2 : b < 2 ^ n) : a ||| b < 2 ^ n := Nat.or_lt_two_pow h1 h2
theorem pw_lt {i n : Nat} (h : i < n) : 2 ^ i < 2 ^ n := Nat.pow_lt_pow_right (by omega) h
theorem rdn_lt {N : nw} (h : nw_ok N) (cut : Nat) : ∀ (k R : Nat), R < 2 ^ 40 → rdn N cut k R < 2 ^ 40
  | 0, R, hR => hR
  | k + 1, R, hR => by
    rw [rdn]
    apply rdn_lt h cut k
    split
    · exact or_lt hR (sD_lt (sM_lt40 h k))
    · exact hR
abbrev ct_reached (C : jm_C) : Prop := ∀ (N : nw) (g cut : Nat) (σ : jm_G) (post : Option jm_V → jm_G → Prop), nw_ok N → cN N σ → g < nN N → post (some (jJ (lN (rch N g cut)))) σ → C kX5_reached [jR 2 0, jI (nI g), jJ (lN cut)] σ post
theorem nI_m1 (k : Nat) : nI (k + 1) + -(nI 1) = nI k := pk_m1 k
theorem nI_0m1 : nI 0 + -(nI 1) = -(nI 1) := by decide
theorem m1_neg : -(nI 1) < 0 := by decide
theorem T_reached (L : Nat) {C : jm_C} (hC : jm_mon C) (h1 : ct_bit C) (h2 : ct_has C) : ct_reached (jm_up L C) := by
  intro N g cut σ post hok hN hgn hp
  refine jm_start rfl (Nat.le_of_ble_eq_true rfl) hC fun X hg hw => ?_
  have hn := hok.1
  refine hg [9] 30 _ ?_
  refine h1 g σ _ (by omega) ?_
  show X (σ, 9, [some (jR 2 0), some (jI (nI g)), some (jJ (lN cut)), none, some (jJ (lN (2 ^ g))), none, some (jI (nI g))], [])
  have gen : ∀ (k R : Nat) (x : Int32), k ≤ 40 → x = nI k + -(nI 1) → R < 2 ^ 40 → rdn N cut k R = rch N g cut → X (σ, 9, [some (jR 2 0), some (jI (nI g)), some (jJ (lN cut)), none, some (jJ (lN R)), none, some (jI x)], []) := by
    intro k
    induction k with
    | zero =>
      intro R x _ hx hR hrd
      rw [nI_0m1] at hx
      subst hx
      refine hg [9] 30 _ ?_
      refine br_c (fun h => ?_) (fun h => ?_)
      · refine And.intro trivial ?_
        have hrd : R = rch N g cut := hrd
        rw [← hrd] at hp
        exact hp
      · exact absurd m1_neg h
    | succ k ih =>
      intro R x hk hx hR hrd
      rw [nI_m1] at hx
      subst hx
      refine hg [9] 30 _ ?_
      refine br_c (fun h => ?_) (fun h => ?_)
      · exact absurd h (nI_pos (by omega))
      · refine h2 R k σ _ (p40 hR) (by omega) ?_
        rw [rdn] at hrd
        refine br_c (fun h3 => ?_) (fun h3 => ?_)
        · rw [bI_0.mp h3] at hrd
          exact ih R _ (by omega) rfl hR hrd
        · rw [bI_n0.mp h3] at hrd
          refine And.intro (vp_in_nI (by omega) (by omega)) ?_
          refine jm_eqv (X := X) (ih (R ||| sD (sM N k) cut) (nI k + -(nI 1)) (by omega) rfl (or_lt hR (sD_lt (sM_lt40 hok k))) hrd) rfl rfl ?_ rfl
          show [some (jR 2 0), some (jI (nI g)), some (jJ (lN cut)), none, some (jJ (lN R ||| (σ.2 6 0 (nI k).toNatClampNeg &&& (lN cut ^^^ (-1))))), none, some (jI (nI k + -(nI 1)))] = _
          rw [nI_clamp (by omega), hN.2.2.2.2.2.2.2.1 k (by omega), lN_andn, fb_orL]
  exact gen (g + 1) (2 ^ g) (nI g) (by omega) (nI_m1 g).symm (pw_lt (by omega)) rfl
/-- whether these nodes, as bits of any long, cut a gate off -/
def seps (N : nw) (g cut : Nat) : Bool := (sD cut (nB N g) == 0) && (sD (rch N g cut) (gM N) == 0)
abbrev ct_seps (C : jm_C) : Prop := ∀ (N : nw) (g cut : Nat) (σ : jm_G) (post : Option jm_V → jm_G → Prop), nw_ok N → cN N σ → g < nN N → cut < 2 ^ 64 → post (some (jI (bI (seps N g cut)))) σ → C kX5_separates [jR 2 0, jI (nI g), jJ (lN cut)] σ post
theorem rch_lt {N : nw} (h : nw_ok N) (g cut : Nat) (hg : g < nN N) : rch N g cut < 2 ^ 40 := rdn_lt h cut _ _ (pw_lt (by have := h.1; omega))
theorem T_seps (L : Nat) {C : jm_C} (hC : jm_mon C) (h1 : ct_reached C) : ct_seps (jm_up L C) := by
  intro N g cut σ post hok hN hgn hc hp
  refine jm_start rfl (Nat.le_of_ble_eq_true rfl) hC fun X hg hw => ?_
  have hn := hok.1
  refine hg [] 40 _ ?_
  refine And.intro (in40 hok hgn) ?_
  have e1 : lN cut &&& (σ.2 7 0 (nI g).toNatClampNeg ^^^ (-1)) = lN (sD cut (nB N g)) := by rw [cl40 hok hgn, hN.2.2.2.2.2.2.2.2.1 g (by omega), lN_andn]
  have l1 : sD cut (nB N g) < 2 ^ 64 := sD_lt hc
  refine br_c (fun h => ?_) (fun h => ?_)
  · have h : lg_cmp (lN cut &&& (σ.2 7 0 (nI g).toNatClampNeg ^^^ (-1))) (lN 0) = 0 := h
    rw [e1, cmp_0, lN_inj l1 (by omega)] at h
    refine h1 N g cut σ _ hok hN hgn ?_
    have e2 : lN (rch N g cut) &&& (σ.2 2 0 6 ^^^ (-1)) = lN (sD (rch N g cut) (gM N)) := by rw [hN.2.2.1, lN_andn]
    have l2 : sD (rch N g cut) (gM N) < 2 ^ 64 := sD_lt (Nat.lt_trans (rch_lt hok g cut hgn) (by omega))
    refine br_c (fun h3 => ?_) (fun h3 => ?_)
    · have h3 : lg_cmp (lN (rch N g cut) &&& (σ.2 2 0 6 ^^^ (-1))) (lN 0) = 0 := h3
      rw [e2, cmp_0, lN_inj l2 (by omega)] at h3
      refine And.intro (Or.inr rfl) ?_
      rw [show seps N g cut = true by simp [seps, h, h3]] at hp
      exact hp
    · have h3 : ¬ lg_cmp (lN (rch N g cut) &&& (σ.2 2 0 6 ^^^ (-1))) (lN 0) = 0 := h3
      rw [e2, cmp_0, lN_inj l2 (by omega)] at h3
      refine And.intro (Or.inl rfl) ?_
      rw [show seps N g cut = false by simp [seps, h3]] at hp
      exact hp
  · have h : ¬ lg_cmp (lN cut &&& (σ.2 7 0 (nI g).toNatClampNeg ^^^ (-1))) (lN 0) = 0 := h
    rw [e1, cmp_0, lN_inj l1 (by omega)] at h
    refine And.intro (Or.inl rfl) ?_
    rw [show seps N g cut = false by simp [seps, h]] at hp
    exact hp
end
section
/-! the component's Network: what writes it; values of gates -/
theorem upd_at (f : Nat → Int32) (k : Nat) (x : Int32) (j : Nat) : upd f k x j = if j = k then x else f j := by
  by_cases h : j = k
  · subst h; rw [pk_us, if_pos rfl]
  · rw [pk_un h, if_neg h]
theorem updL_at (f : Nat → Int64) (k : Nat) (x : Int64) (j : Nat) : vp_updL f k x j = if j = k then x else f j := by
  by_cases h : j = k
  · subst h; rw [pk_uLs, if_pos rfl]
  · rw [pk_uLn h, if_neg h]
abbrev ct_addInput (C : jm_C) : Prop := ∀ (N : nw) (σ : jm_G) (post : Option jm_V → jm_G → Prop), nw_ok N → cN N σ → nN N < 40 → (∀ σ', cN (addI N) σ' → off 2 7 σ σ' → post (some (jI (nI (nN N)))) σ') → C kX5_addInput [jR 2 0] σ post
theorem T_addInput (L : Nat) {C : jm_C} (hC : jm_mon C) (h1 : ct_bit C) : ct_addInput (jm_up L C) := by
  intro N σ post hok hN hn hp
  refine jm_start rfl (Nat.le_of_ble_eq_true rfl) hC fun X hg hw => ?_
  refine hg [] 40 _ ?_
  refine c_bit h1 (n := nN N) hN.1 (by omega) ?_
  refine And.intro trivial ?_
  show post (some (jI (σ.1 2 0 9))) (wI (wJ σ 2 0 (vp_updL (σ.2 2 0) 5 (σ.2 2 0 5 ||| lN (2 ^ nN N)))) 2 0 (upd (σ.1 2 0) 9 (σ.1 2 0 9 + nI 1)))
  rw [hN.1]
  refine hp _ ?_ (off_wI (off_wJ (off_refl _ _ _) (by omega) (by omega)) (by omega) (by omega))
  obtain ⟨a1, a2, a3, a4, a5, a6, a7, a8, a9, a10⟩ := hN
  refine ⟨?_, ?_, ?_, ?_, ?_, ?_, ?_, ?_, ?_, ?_⟩
  · simp only [wI1, and_self, if_true, upd_at, nI_add]; rfl
  · simp only [wI2, wJ2, and_self, if_true, updL_at, a2, fb_orL, iM_addI]
  · simp only [wI2, wJ2, and_self, if_true, updL_at, a3, gM_addI]; rfl
  · simp only [wI2, wJ2, and_self, if_true, updL_at, a4, rM_addI]; rfl
  · simp only [wI2, wJ2, and_self, if_true, updL_at, a5]; rfl
  · intro i hi; rw [isG_addI] at hi; exact a6 i hi
  · intro i hi; rw [isR_addI] at hi; exact a7 i hi
  · intro i hi; rw [sM_addI]; exact a8 i hi
  · exact a9
  · exact a10
abbrev ct_addRegister (C : jm_C) : Prop := ∀ (N : nw) (σ : jm_G) (post : Option jm_V → jm_G → Prop), nw_ok N → cN N σ → nN N < 40 → (∀ σ', cN (addR N) σ' → off 2 7 σ σ' → post (some (jI (nI (nN N)))) σ') → C kX5_addRegister [jR 2 0] σ post
theorem T_addRegister (L : Nat) {C : jm_C} (hC : jm_mon C) (h1 : ct_bit C) : ct_addRegister (jm_up L C) := by
  intro N σ post hok hN hn hp
  refine jm_start rfl (Nat.le_of_ble_eq_true rfl) hC fun X hg hw => ?_
  refine hg [] 40 _ ?_
  refine c_bit h1 (n := nN N) hN.1 (by omega) ?_
  refine And.intro (show vp_in (σ.1 2 0 9) 40 by rw [hN.1]; exact vp_in_nI hn (by omega)) ?_
  refine And.intro trivial ?_
  show post (some (jI (σ.1 2 0 9))) (wI (wI (wJ σ 2 0 (vp_updL (σ.2 2 0) 7 (σ.2 2 0 7 ||| lN (2 ^ nN N)))) 5 0 (upd (σ.1 5 0) (σ.1 2 0 9).toNatClampNeg (σ.1 2 0 9))) 2 0 (upd (σ.1 2 0) 9 (σ.1 2 0 9 + nI 1)))
  rw [hN.1, nI_clamp (by omega)]
  refine hp _ ?_ (off_wI (off_wI (off_wJ (off_refl _ _ _) (by omega) (by omega)) (by omega) (by omega)) (by omega) (by omega))
  obtain ⟨a1, a2, a3, a4, a5, a6, a7, a8, a9, a10⟩ := hN
  refine ⟨?_, ?_, ?_, ?_, ?_, ?_, ?_, ?_, ?_, ?_⟩
  · simp only [wI1, and_self, if_true, upd_at, nI_add]; rfl
  · simp only [wI2, wJ2, and_self, if_true, updL_at, a2, iM_addR]; rfl
  · simp only [wI2, wJ2, and_self, if_true, updL_at, a3, gM_addR]; rfl
  · simp only [wI2, wJ2, and_self, if_true, updL_at, a4, fb_orL, rM_addR]
  · simp only [wI2, wJ2, and_self, if_true, updL_at, a5]; rfl
  · intro i hi; rw [isG_addR] at hi; exact a6 i hi
  · intro i hi
    rw [isR_addR] at hi
    show upd (σ.1 5 0) (nN N) (nI (nN N)) i = nI (if i = nN N then nN N else nF N i)
    rw [upd_at]
    by_cases e : i = nN N
    · rw [if_pos e, if_pos e]
    · rw [if_neg e, if_neg e]; exact a7 i (by simpa [e] using hi)
  · intro i hi; rw [sM_addR]; exact a8 i hi
  · exact a9
  · exact a10
theorem sM_addG {N : nw} (k a b c i : Nat) : sM (addG N k a b c) i = if i = nN N then 2 ^ a ||| (if 1 < ar k then 2 ^ b else 0) ||| (if 2 < ar k then 2 ^ c else 0) else sM N i := by
  unfold sM
  rw [isG_addG]
  by_cases e : i = nN N
  · subst e
    have hK : nK (addG N k a b c) (nN N) = k := if_pos rfl
    have hR0 : nR (addG N k a b c) (nN N) 0 = a := if_pos rfl
    have hR1 : nR (addG N k a b c) (nN N) 1 = b := if_pos rfl
    have hR2 : nR (addG N k a b c) (nN N) 2 = c := if_pos rfl
    have har := ar_pos k
    simp only [decide_true, Bool.or_true, if_true, hK]
    by_cases q1 : 1 < ar k
    · by_cases q2 : 2 < ar k
      · have e3 : ar k = 3 := by omega
        rw [if_pos q1, if_pos q2, e3]
        simp only [sMk, hR0, hR1, hR2, Nat.zero_or]
      · have e3 : ar k = 2 := by omega
        rw [if_pos q1, if_neg q2, e3]
        simp only [sMk, hR0, hR1, Nat.zero_or, Nat.or_zero]
    · have e3 : ar k = 1 := by omega
      rw [if_neg q1, if_neg (by omega), e3]
      simp only [sMk, hR0, Nat.zero_or, Nat.or_zero]
  · have hK : nK (addG N k a b c) i = nK N i := if_neg e
    rw [if_neg e, hK, sMk_eq (N := addG N k a b c) (M := N) (fun j => if_neg e)]
    simp [e]
abbrev ct_addGate (C : jm_C) : Prop := ∀ (N : nw) (k a b c b' c' : Nat) (σ : jm_G) (post : Option jm_V → jm_G → Prop), nw_ok N → cN N σ → nN N < 40 → k < 7 → a < nN N → (1 < ar k → b < nN N) → (2 < ar k → c < nN N) → b' = (if 1 < ar k then b else a) → c' = (if 2 < ar k then c else a) → (∀ σ', cN (addG N k a b c) σ' → off 2 7 σ σ' → post (some (jI (nI (nN N)))) σ') → C kX5_addGate [jR 2 0, jI (nI k), jI (nI a), jI (nI b'), jI (nI c')] σ post
set_option maxHeartbeats 4000000 in
theorem T_addGate (L : Nat) {C : jm_C} (hC : jm_mon C) (h1 : ct_bit C) : ct_addGate (jm_up L C) := by
  intro N k a b c b' c' σ post hok hN hn hk ha hb hc hb' hc' hp
  have lb : b' < nN N := by rw [hb']; split; exact hb ‹_›; exact ha
  have lc : c' < nN N := by rw [hc']; split; exact hc ‹_›; exact ha
  refine jm_start rfl (Nat.le_of_ble_eq_true rfl) hC fun X hg hw => ?_
  refine hg [] 120 _ ?_
  refine c_bit h1 (n := nN N) hN.1 (by omega) ?_
  refine And.intro (show vp_in (σ.1 2 0 9) 40 by rw [hN.1]; exact vp_in_nI hn (by omega)) ?_
  have m3 : σ.1 2 0 9 * nI 3 = nI (nN N * 3) := by rw [hN.1, pk_mul]
  refine And.intro (show vp_in (σ.1 2 0 9 * nI 3) 120 by rw [m3]; exact vp_in_nI (by omega) (by omega)) ?_
  refine And.intro (show vp_in (σ.1 2 0 9 * nI 3 + nI 1) 120 by rw [m3, nI_add]; exact vp_in_nI (by omega) (by omega)) ?_
  refine And.intro (show vp_in (σ.1 2 0 9 * nI 3 + nI 2) 120 by rw [m3, nI_add]; exact vp_in_nI (by omega) (by omega)) ?_
  refine c_bit h1 (n := a) rfl (by omega) ?_
  refine c_bit h1 (n := b') rfl (by omega) ?_
  refine c_bit h1 (n := c') rfl (by omega) ?_
  refine And.intro (show vp_in (σ.1 2 0 9) 40 by rw [hN.1]; exact vp_in_nI hn (by omega)) ?_
  refine And.intro (show vp_in (σ.1 2 0 9) 40 by rw [hN.1]; exact vp_in_nI hn (by omega)) ?_
  refine And.intro (vp_in_nI (by omega) (by omega)) ?_
  refine And.intro (vp_in_nI (by omega) (by omega)) ?_
  refine And.intro (vp_in_nI (by omega) (by omega)) ?_
  refine And.intro (show vp_in (σ.1 2 0 9) 40 by rw [hN.1]; exact vp_in_nI hn (by omega)) ?_
  refine And.intro trivial ?_
  show post (some (jI (σ.1 2 0 9))) (wI (wJ (wJ (wI (wI (wI (wI (wJ σ 2 0 (vp_updL (σ.2 2 0) 6 (σ.2 2 0 6 ||| lN (2 ^ nN N)))) 3 0 (upd (σ.1 3 0) (σ.1 2 0 9).toNatClampNeg (nI k))) 4 0 (upd (σ.1 4 0) (σ.1 2 0 9 * nI 3).toNatClampNeg (nI a))) 4 0 (upd (upd (σ.1 4 0) (σ.1 2 0 9 * nI 3).toNatClampNeg (nI a)) (σ.1 2 0 9 * nI 3 + nI 1).toNatClampNeg (nI b'))) 4 0 (upd (upd (upd (σ.1 4 0) (σ.1 2 0 9 * nI 3).toNatClampNeg (nI a)) (σ.1 2 0 9 * nI 3 + nI 1).toNatClampNeg (nI b')) (σ.1 2 0 9 * nI 3 + nI 2).toNatClampNeg (nI c'))) 6 0 (vp_updL (σ.2 6 0) (σ.1 2 0 9).toNatClampNeg ((lN (2 ^ a) ||| lN (2 ^ b')) ||| lN (2 ^ c'))))
    7 0 (vp_updL (σ.2 7 0) (σ.1 2 0 9).toNatClampNeg ((((vp_updL (σ.2 6 0) (σ.1 2 0 9).toNatClampNeg ((lN (2 ^ a) ||| lN (2 ^ b')) ||| lN (2 ^ c')) (σ.1 2 0 9).toNatClampNeg) ||| σ.2 7 0 (nI a).toNatClampNeg) ||| σ.2 7 0 (nI b').toNatClampNeg) ||| σ.2 7 0 (nI c').toNatClampNeg))) 2 0 (upd (σ.1 2 0) 9 (σ.1 2 0 9 + nI 1)))
  rw [m3, hN.1, nI_add, nI_add, nI_clamp (show nN N < 2 ^ 31 by omega), nI_clamp (show nN N * 3 < 2 ^ 31 by omega), nI_clamp (show nN N * 3 + 1 < 2 ^ 31 by omega), nI_clamp (show nN N * 3 + 2 < 2 ^ 31 by omega), nI_clamp (show a < 2 ^ 31 by omega), nI_clamp (show b' < 2 ^ 31 by omega), nI_clamp (show c' < 2 ^ 31 by omega), pk_uLs, fb_orL, fb_orL]
  refine hp _ ?_ ?_
  · obtain ⟨a1, a2, a3, a4, a5, a6, a7, a8, a9, a10⟩ := hN
    have es : 2 ^ a ||| 2 ^ b' ||| 2 ^ c' = 2 ^ a ||| (if 1 < ar k then 2 ^ b else 0) ||| (if 2 < ar k then 2 ^ c else 0) := by
      have har := ar_pos k
      rw [hb', hc']
      by_cases q1 : 1 < ar k <;> by_cases q2 : 2 < ar k <;> simp [q1, q2]
      rw [Nat.or_assoc, Nat.or_comm (2 ^ b) (2 ^ a), ← Nat.or_assoc, Nat.or_self]
    refine ⟨?_, ?_, ?_, ?_, ?_, ?_, ?_, ?_, ?_, ?_⟩
    · rw [wI1, if_pos ⟨rfl, rfl⟩, upd_at, if_pos rfl, nI_add]; rfl
    · show vp_updL (σ.2 2 0) 6 (σ.2 2 0 6 ||| lN (2 ^ nN N)) 5 = _
      rw [updL_at, if_neg (by omega), a2, iM_addG]
    · show vp_updL (σ.2 2 0) 6 (σ.2 2 0 6 ||| lN (2 ^ nN N)) 6 = _
      rw [updL_at, if_pos rfl, a3, gM_addG, fb_orL]
    · show vp_updL (σ.2 2 0) 6 (σ.2 2 0 6 ||| lN (2 ^ nN N)) 7 = _
      rw [updL_at, if_neg (by omega), a4, rM_addG]
    · show vp_updL (σ.2 2 0) 6 (σ.2 2 0 6 ||| lN (2 ^ nN N)) 8 = _
      rw [updL_at, if_neg (by omega), a5]; rfl
    · intro i hi
      rw [isG_addG] at hi
      show upd (σ.1 3 0) (nN N) (nI k) i = nI (if i = nN N then k else nK N i) ∧ ∀ j, j < 3 → upd (upd (upd (σ.1 4 0) (nN N * 3) (nI a)) (nN N * 3 + 1) (nI b')) (nN N * 3 + 2) (nI c') (i * 3 + j) = nI (nR (addG N k a b c) i (if j < ar (if i = nN N then k else nK N i) then j else 0))
      by_cases e : i = nN N
      · subst e
        rw [if_pos rfl, upd_at, if_pos rfl]
        refine ⟨rfl, fun j hj => ?_⟩
        have har := ar_pos k
        show _ = nI (if nN N = nN N then (if (if j < ar k then j else 0) = 0 then a else if (if j < ar k then j else 0) = 1 then b else c) else nR N (nN N) (if j < ar k then j else 0))
        rw [if_pos rfl, upd_at, upd_at, upd_at]
        rcases (show j = 0 ∨ j = 1 ∨ j = 2 by omega) with rfl | rfl | rfl
        · simp [har.1]
        · rw [if_neg (by omega), if_pos rfl, hb']
          by_cases q : 1 < ar k <;> simp [q]
        · rw [if_pos rfl, hc']
          by_cases q : 2 < ar k <;> simp [q]
      · have hgi : isG N i = true := by simpa [e] using hi
        have hR : ∀ j, nR (addG N k a b c) i j = nR N i j := fun j => if_neg e
        rw [if_neg e, upd_at, if_neg e]
        refine ⟨(a6 i hgi).1, fun j hj => ?_⟩
        rw [upd_at, upd_at, upd_at, if_neg (by omega), if_neg (by omega), if_neg (by omega), hR]
        exact (a6 i hgi).2 j hj
    · intro i hi; rw [isR_addG] at hi; exact a7 i hi
    · intro i hi
      show vp_updL (σ.2 6 0) (nN N) (lN (2 ^ a ||| 2 ^ b' ||| 2 ^ c')) i = _
      rw [updL_at, sM_addG, es]
      by_cases e : i = nN N
      · rw [if_pos e, if_pos e]
      · rw [if_neg e, if_neg e]; exact a8 i hi
    · intro i hi
      show vp_updL (σ.2 7 0) (nN N) (lN (2 ^ a ||| 2 ^ b' ||| 2 ^ c') ||| σ.2 7 0 a ||| σ.2 7 0 b' ||| σ.2 7 0 c') i = lN (if i = nN N then (2 ^ a ||| nB N a) ||| (if 1 < ar k then 2 ^ b ||| nB N b else 0) ||| (if 2 < ar k then 2 ^ c ||| nB N c else 0) else nB N i)
      rw [updL_at]
      by_cases e : i = nN N
      · rw [if_pos e, if_pos e, a9 a (by omega), a9 b' (by omega), a9 c' (by omega), fb_orL, fb_orL, fb_orL, es]
        congr 1
        have har := ar_pos k
        apply set_eq
        intro z
        rw [hb', hc']
        by_cases q1 : 1 < ar k <;> by_cases q2 : 2 < ar k
        · simp only [q1, q2, if_true, Nat.testBit_or]
          cases (2 ^ a).testBit z <;> cases (2 ^ b).testBit z <;> cases (2 ^ c).testBit z <;> cases (nB N a).testBit z <;> cases (nB N b).testBit z <;> cases (nB N c).testBit z <;> rfl
        · simp only [q1, q2, if_true, if_false, Nat.testBit_or, Nat.zero_testBit]
          cases (2 ^ a).testBit z <;> cases (2 ^ b).testBit z <;> cases (nB N a).testBit z <;> cases (nB N b).testBit z <;> rfl
        · omega
        · simp only [q1, q2, if_false, Nat.testBit_or, Nat.zero_testBit]
          cases (2 ^ a).testBit z <;> cases (nB N a).testBit z <;> rfl
      · rw [if_neg e, if_neg e]; exact a9 i hi
    · exact a10
  · exact off_wI (off_wJ (off_wJ (off_wI (off_wI (off_wI (off_wI (off_wJ (off_refl _ _ _) (by omega) (by omega)) (by omega) (by omega)) (by omega) (by omega)) (by omega) (by omega)) (by omega) (by omega)) (by omega) (by omega)) (by omega) (by omega)) (by omega) (by omega)
abbrev ct_setFeed (C : jm_C) : Prop := ∀ (N : nw) (r x : Nat) (σ : jm_G) (post : Option jm_V → jm_G → Prop), nw_ok N → cN N σ → isR N r = true → x < nN N → (∀ σ', cN (setF N r x) σ' → off 2 7 σ σ' → post none σ') → C kX5_setFeed [jR 2 0, jI (nI r), jI (nI x)] σ post
theorem T_setFeed (L : Nat) {C : jm_C} (hC : jm_mon C) : ct_setFeed (jm_up L C) := by
  intro N r x σ post hok hN hr hx hp
  refine jm_start rfl (Nat.le_of_ble_eq_true rfl) hC fun X hg hw => ?_
  refine hg [] 40 _ ?_
  refine And.intro (in40 hok (isR_lt hr)) ?_
  refine And.intro trivial ?_
  show post none (wI σ 5 0 (upd (σ.1 5 0) (nI r).toNatClampNeg (nI x)))
  rw [cl40 hok (isR_lt hr)]
  refine hp _ ?_ (off_wI (off_refl _ _ _) (by omega) (by omega))
  obtain ⟨a1, a2, a3, a4, a5, a6, a7, a8, a9, a10⟩ := hN
  refine ⟨a1, a2, a3, a4, a5, a6, fun i hi => ?_, fun i hi => ?_, a9, a10⟩
  · show upd (σ.1 5 0) r (nI x) i = nI (if i = r then x else nF N i)
    rw [upd_at]
    by_cases e : i = r
    · rw [if_pos e, if_pos e]
    · rw [if_neg e, if_neg e]; exact a7 i hi
  · show σ.2 6 0 i = _
    rw [a8 i hi]
    unfold sM
    rw [sMk_eq (N := setF N r x) (M := N) fun _ => rfl]
    rfl
end
section
/-! VALUES: what nodes are, as booleans; bit by bit in longs -/
def bop (k : Nat) (a b c : Bool) : Bool := match k with
  | 0 => !a
  | 1 => a && b
  | 2 => a || b
  | 3 => a ^^ b
  | 4 => !(a && b)
  | 5 => (a && b) || (!a && c)
  | _ => ((a && b) || (a && c)) || (b && c)
def gop (k : Nat) (a b c : Int64) : Int64 := match k with
  | 0 => a ^^^ (-1)
  | 1 => a &&& b
  | 2 => a ||| b
  | 3 => a ^^^ b
  | 4 => (a &&& b) ^^^ (-1)
  | 5 => (a &&& b) ||| ((a ^^^ (-1)) &&& c)
  | _ => ((a &&& b) ||| (a &&& c)) ||| (b &&& c)
def bitL (x : Int64) (p : Nat) : Bool := x.toBitVec.getLsbD p
theorem bitL_and (x y : Int64) (p : Nat) : bitL (x &&& y) p = (bitL x p && bitL y p) := by simp [bitL]
theorem bitL_or (x y : Int64) (p : Nat) : bitL (x ||| y) p = (bitL x p || bitL y p) := by simp [bitL]
theorem bitL_xor (x y : Int64) (p : Nat) : bitL (x ^^^ y) p = (bitL x p ^^ bitL y p) := by simp [bitL]
theorem bitL_m1 {p : Nat} (h : p < 64) : bitL (-1) p = true := by
  unfold bitL
  rw [show (-1 : Int64).toBitVec = BitVec.allOnes 64 from by decide, BitVec.getLsbD_allOnes]
  simpa using h
theorem bitL_lN (S p : Nat) (h : p < 64) : bitL (lN S) p = S.testBit p := by
  unfold bitL
  rw [lN_bv, BitVec.getLsbD_ofNat]
  simp [h]
theorem bitL_gop (k : Nat) (a b c : Int64) {p : Nat} (h : p < 64) : bitL (gop k a b c) p = bop k (bitL a p) (bitL b p) (bitL c p) := by
  unfold gop bop
  split <;> simp only [bitL_and, bitL_or, bitL_xor, bitL_m1 h, Bool.xor_true]
theorem bitL_ext {x y : Int64} (h : ∀ p, p < 64 → bitL x p = bitL y p) : x = y := wb_inj (BitVec.eq_of_getLsbD_eq fun i hi => h i hi)
/-- the place from which a source is read: the first, if there are fewer -/
def pl (N : nw) (i k : Nat) : Nat := nR N i (if k < ar (nK N i) then k else 0)
theorem pl_lt {N : nw} (h : nw_ok N) {i : Nat} (hi : isG N i = true) (k : Nat) : pl N i k < i := by
  unfold pl
  apply (h.2.2.1 i hi).2
  split
  · assumption
  · exact (ar_pos _).1
/-- what nodes are, by what leaves are -/
def evs (N : nw) (lf : Nat → Bool) : Nat → Nat → Bool
  | 0 => fun _ => false
  | n + 1 => fun i => if i = n then (if isG N n then bop (nK N n) (evs N lf n (pl N n 0)) (evs N lf n (pl N n 1)) (evs N lf n (pl N n 2)) else lf n) else evs N lf n i
theorem evs_succ (N : nw) (lf : Nat → Bool) (n i : Nat) : evs N lf (n + 1) i = if i = n then (if isG N n then bop (nK N n) (evs N lf n (pl N n 0)) (evs N lf n (pl N n 1)) (evs N lf n (pl N n 2)) else lf n) else evs N lf n i := rfl
def vl (N : nw) (lf : Nat → Bool) (i : Nat) : Bool := evs N lf (i + 1) i
theorem evs_vl (N : nw) (lf : Nat → Bool) : ∀ n i, i < n → evs N lf n i = vl N lf i
  | 0, _, h => absurd h (by omega)
  | n + 1, i, h => by
    by_cases e : i = n
    · subst e; rfl
    · rw [evs_succ, if_neg e, evs_vl N lf n i (by omega)]
theorem vl_leaf {N : nw} {lf : Nat → Bool} {i : Nat} (h : isG N i = false) : vl N lf i = lf i := by
  unfold vl evs
  rw [if_pos rfl, h]
  rfl
theorem vl_gate {N : nw} (hok : nw_ok N) {lf : Nat → Bool} {i : Nat} (h : isG N i = true) : vl N lf i = bop (nK N i) (vl N lf (pl N i 0)) (vl N lf (pl N i 1)) (vl N lf (pl N i 2)) := by
  show evs N lf (i + 1) i = _
  rw [evs_succ, if_pos rfl, h, if_pos rfl, evs_vl N lf i _ (pl_lt hok h 0), evs_vl N lf i _ (pl_lt hok h 1), evs_vl N lf i _ (pl_lt hok h 2)]
abbrev ct_valueOf (t : Nat) (C : jm_C) : Prop := ∀ (N : nw) (i : Nat) (σ : jm_G) (post : Option jm_V → jm_G → Prop), nw_ok N → cN N σ → isG N i = true → post (some (jJ (gop (nK N i) (σ.2 t 0 (pl N i 0)) (σ.2 t 0 (pl N i 1)) (σ.2 t 0 (pl N i 2))))) σ → C kX5_valueOf [jR 2 0, jI (nI i), jR t 0] σ post
theorem T_valueOf (L t : Nat) (ht : t = 9 ∨ t = 28) {C : jm_C} (hC : jm_mon C) : ct_valueOf t (jm_up L C) := by
  intro N i σ post hok hN hi hp
  have hlt := isG_lt hi
  have hn := hok.1
  have h7 := (hok.2.2.1 i hi).1
  obtain ⟨hk3, hs⟩ := hN.2.2.2.2.2.1 i hi
  have m0 : nI i * nI 3 = nI (i * 3) := pk_mul _ _
  have e0 : σ.1 4 0 (nI i * nI 3).toNatClampNeg = nI (pl N i 0) := by rw [m0, nI_clamp (by omega)]; exact hs 0 (by omega)
  have e1 : σ.1 4 0 (nI i * nI 3 + nI 1).toNatClampNeg = nI (pl N i 1) := by rw [nI3, nI_clamp (by omega)]; exact hs 1 (by omega)
  have e2 : σ.1 4 0 (nI i * nI 3 + nI 2).toNatClampNeg = nI (pl N i 2) := by rw [nI3, nI_clamp (by omega)]; exact hs 2 (by omega)
  have l0 := pl_lt hok hi 0
  have l1 := pl_lt hok hi 1
  have l2 := pl_lt hok hi 2
  have ek : σ.1 3 0 (nI i).toNatClampNeg = nI (nK N i) := by rw [cl40 hok hlt]; exact hk3
  have f0 : σ.2 t 0 (σ.1 4 0 (nI i * nI 3).toNatClampNeg).toNatClampNeg = σ.2 t 0 (pl N i 0) := by rw [e0, nI_clamp (by omega)]
  have f1 : σ.2 t 0 (σ.1 4 0 (nI i * nI 3 + nI 1).toNatClampNeg).toNatClampNeg = σ.2 t 0 (pl N i 1) := by rw [e1, nI_clamp (by omega)]
  have f2 : σ.2 t 0 (σ.1 4 0 (nI i * nI 3 + nI 2).toNatClampNeg).toNatClampNeg = σ.2 t 0 (pl N i 2) := by rw [e2, nI_clamp (by omega)]
  refine jm_start rfl (Nat.le_of_ble_eq_true rfl) hC fun X hg hw => ?_
  have main : X (σ, 45, [some (jR 2 0), some (jI (nI i)), some (jR t 0), some (jJ (σ.2 t 0 (pl N i 0))), none, some (jJ (σ.2 t 0 (pl N i 1))), none, some (jJ (σ.2 t 0 (pl N i 2))), none], [jI (nI (nK N i))]) := by
    refine hg [] 40 _ ?_
    have hne : ∀ j, nI (nK N i) = nI j → j < 7 → nK N i = j := fun j h hj => (nI_eq (by omega) (by omega)).mp h
    refine And.intro (fun h => ?_) (And.intro (fun h => ?_) (And.intro (fun h => ?_) (And.intro (fun h => ?_) (And.intro (fun h => ?_) (And.intro (fun h => ?_) (And.intro (fun h => ?_) trivial))))))
    · refine And.intro trivial ?_
      have h : (nI (nK N i)).toInt < 0 ∨ 5 < (nI (nK N i)).toInt := h
      rw [nI_toInt (by omega)] at h
      have e : nK N i = 6 := by omega
      rw [e] at hp
      exact hp
    · refine And.intro trivial ?_
      rw [hne 0 h (by omega)] at hp; exact hp
    · refine And.intro trivial ?_
      rw [hne 1 h (by omega)] at hp; exact hp
    · refine And.intro trivial ?_
      rw [hne 2 h (by omega)] at hp; exact hp
    · refine And.intro trivial ?_
      rw [hne 3 h (by omega)] at hp; exact hp
    · refine And.intro trivial ?_
      rw [hne 4 h (by omega)] at hp; exact hp
    · refine And.intro trivial ?_
      rw [hne 5 h (by omega)] at hp; exact hp
  rw [← f0, ← f1, ← f2, ← ek] at main
  refine hg [45] 60 _ ?_
  rcases ht with rfl | rfl
  · refine And.intro (show vp_in (nI i * nI 3) 120 by rw [m0]; exact vp_in_nI (by omega) (by omega)) ?_
    refine And.intro (show vp_in (σ.1 4 0 (nI i * nI 3).toNatClampNeg) 40 by rw [e0]; exact vp_in_nI (by omega) (by omega)) ?_
    refine And.intro (show vp_in (nI i * nI 3 + nI 1) 120 by rw [nI3]; exact vp_in_nI (by omega) (by omega)) ?_
    refine And.intro (show vp_in (σ.1 4 0 (nI i * nI 3 + nI 1).toNatClampNeg) 40 by rw [e1]; exact vp_in_nI (by omega) (by omega)) ?_
    refine And.intro (show vp_in (nI i * nI 3 + nI 2) 120 by rw [nI3]; exact vp_in_nI (by omega) (by omega)) ?_
    refine And.intro (show vp_in (σ.1 4 0 (nI i * nI 3 + nI 2).toNatClampNeg) 40 by rw [e2]; exact vp_in_nI (by omega) (by omega)) ?_
    refine And.intro (in40 hok hlt) ?_
    exact main
  · refine And.intro (show vp_in (nI i * nI 3) 120 by rw [m0]; exact vp_in_nI (by omega) (by omega)) ?_
    refine And.intro (show vp_in (σ.1 4 0 (nI i * nI 3).toNatClampNeg) 40 by rw [e0]; exact vp_in_nI (by omega) (by omega)) ?_
    refine And.intro (show vp_in (nI i * nI 3 + nI 1) 120 by rw [nI3]; exact vp_in_nI (by omega) (by omega)) ?_
    refine And.intro (show vp_in (σ.1 4 0 (nI i * nI 3 + nI 1).toNatClampNeg) 40 by rw [e1]; exact vp_in_nI (by omega) (by omega)) ?_
    refine And.intro (show vp_in (nI i * nI 3 + nI 2) 120 by rw [nI3]; exact vp_in_nI (by omega) (by omega)) ?_
    refine And.intro (show vp_in (σ.1 4 0 (nI i * nI 3 + nI 2).toNatClampNeg) 40 by rw [e2]; exact vp_in_nI (by omega) (by omega)) ?_
    refine And.intro (in40 hok hlt) ?_
    exact main
/-! Signals -/
abbrev ct_nodesOn (C : jm_C) : Prop := ∀ (N : nw) (S : Nat) (σ : jm_G) (post : Option jm_V → jm_G → Prop), nw_ok N → cN N σ → S < 2 ^ 63 → (∀ σ', off 9 9 σ σ' → post (some (jJ (lN (mk (vl N fun i => S.testBit i) (nN N))))) σ') → C kX7_nodesOn [jR 8 0, jJ (lN S)] σ post
theorem lN_low (x : Int64) : x &&& lN 1 = lN (bitL x 0).toNat := by
  apply bitL_ext
  intro p hp
  rw [bitL_and, bitL_lN _ _ hp, bitL_lN _ _ hp]
  by_cases e : p = 0
  · subst e; cases bitL x 0 <;> rfl
  · have h1 : (1 : Nat).testBit p = false := by
      rw [show (1 : Nat) = 2 ^ 0 from rfl, Nat.testBit_two_pow]; simp; omega
    cases bitL x 0
    · simp [h1]
    · simp [h1]
theorem bit_shl (b : Bool) {k : Nat} (hk : k < 64) : lN b.toNat <<< ((nI k).toInt64 &&& 63) = lN (if b then 2 ^ k else 0) := by
  rw [wb_shl _ hk]
  cases b <;> simp
theorem T_nodesOn (L : Nat) {C : jm_C} (hC : jm_mon C) (h1 : ct_has C) (h2 : ct_valueOf 9 C) : ct_nodesOn (jm_up L C) := by
  intro N S σ post hok hN hS hp
  refine jm_start rfl (Nat.le_of_ble_eq_true rfl) hC fun X hg hw => ?_
  have hn := hok.1
  refine hg [5] 20 _ ?_
  show X (σ, 5, [some (jR 8 0), some (jJ (lN S)), none, some (jJ (lN 0)), none, some (jI (nI 0))], [])
  have gen : ∀ (m k : Nat) (τ : jm_G), k + m = nN N → off 9 9 σ τ → (∀ j, j < k → bitL (τ.2 9 0 j) 0 = vl N (fun i => S.testBit i) j) → X (τ, 5, [some (jR 8 0), some (jJ (lN S)), none, some (jJ (lN (mk (vl N fun i => S.testBit i) k))), none, some (jI (nI k))], []) := by
    intro m
    induction m with
    | zero =>
      intro k τ hk ho hv
      have hNt := cN_off hN ho (by omega) (by omega)
      have hk : k = nN N := by omega
      subst hk
      refine hg [5] 40 _ ?_
      refine br_c (fun h => ?_) (fun h => ?_)
      · exact And.intro trivial (hp τ ho)
      · have h : ¬ τ.1 2 0 9 ≤ nI (nN N) := h
        rw [hNt.1, nI_leI (by omega) (by omega)] at h
        omega
    | succ m ih =>
      intro k τ hk ho hv
      have hNt := cN_off hN ho (by omega) (by omega)
      have hkn : k < nN N := by omega
      refine hg [5] 40 _ ?_
      refine br_c (fun h => ?_) (fun h => ?_)
      · have h : τ.1 2 0 9 ≤ nI k := h
        rw [hNt.1, nI_leI (by omega) (by omega)] at h
        omega
      · refine c_has h1 (S := gM N) (n := k) hNt.2.2.1 rfl (p40 (gM_lt hok)) (by omega) ?_
        rw [gM_bit]
        refine br_c (fun h3 => ?_) (fun h3 => ?_)
        · have hg0 := bI_0.mp h3
          refine And.intro (in40 hok hkn) ?_
          refine And.intro (in40 hok hkn) ?_
          have hb0 : bitL (lN S >>> ((nI k).toInt64 &&& 63)) 0 = vl N (fun i => S.testBit i) k := by
            rw [lN_shr hS (by omega), bitL_lN _ _ (by omega), vl_leaf hg0, Nat.testBit_div_two_pow]; simp
          have h9 := ih (k + 1) (wJ τ 9 0 (vp_updL (τ.2 9 0) k (lN S >>> ((nI k).toInt64 &&& 63)))) (by omega) (off_wJ ho (by omega) (by omega)) (fun j hj => by
            rw [wJ2, if_pos ⟨rfl, rfl⟩, updL_at]
            by_cases e : j = k
            · rw [if_pos e, e]; exact hb0
            · rw [if_neg e]; exact hv j (by omega))
          have hcl := cl40 hok hkn
          refine jm_eqv (X := X) h9 ?_ rfl ?_ rfl
          · show wJ τ 9 0 (vp_updL (τ.2 9 0) (nI k).toNatClampNeg (lN S >>> ((nI k).toInt64 &&& 63))) = _
            rw [hcl]
          · show [some (jR 8 0), some (jJ (lN S)), none, some (jJ (lN (mk (vl N fun i => S.testBit i) k) ||| (((vp_updL (τ.2 9 0) (nI k).toNatClampNeg (lN S >>> ((nI k).toInt64 &&& 63)) (nI k).toNatClampNeg) &&& lN 1) <<< ((nI k).toInt64 &&& 63)))), none, some (jI (nI k + nI 1))] = _
            rw [hcl, pk_uLs, lN_low, hb0, bit_shl _ (by omega), fb_orL, nI_add]
            rfl
        · have hg1 := bI_n0.mp h3
          refine h2 N k τ _ hok hNt hg1 ?_
          refine And.intro (in40 hok hkn) ?_
          refine And.intro (in40 hok hkn) ?_
          have hb0 : bitL (gop (nK N k) (τ.2 9 0 (pl N k 0)) (τ.2 9 0 (pl N k 1)) (τ.2 9 0 (pl N k 2))) 0 = vl N (fun i => S.testBit i) k := by
            rw [bitL_gop _ _ _ _ (by omega), hv _ (pl_lt hok hg1 0), hv _ (pl_lt hok hg1 1), hv _ (pl_lt hok hg1 2), ← vl_gate hok hg1]
          have h9 := ih (k + 1) (wJ τ 9 0 (vp_updL (τ.2 9 0) k (gop (nK N k) (τ.2 9 0 (pl N k 0)) (τ.2 9 0 (pl N k 1)) (τ.2 9 0 (pl N k 2))))) (by omega) (off_wJ ho (by omega) (by omega)) (fun j hj => by
            rw [wJ2, if_pos ⟨rfl, rfl⟩, updL_at]
            by_cases e : j = k
            · rw [if_pos e, e]; exact hb0
            · rw [if_neg e]; exact hv j (by omega))
          have hcl := cl40 hok hkn
          refine jm_eqv (X := X) h9 ?_ rfl ?_ rfl
          · show wJ τ 9 0 (vp_updL (τ.2 9 0) (nI k).toNatClampNeg (gop (nK N k) (τ.2 9 0 (pl N k 0)) (τ.2 9 0 (pl N k 1)) (τ.2 9 0 (pl N k 2)))) = _
            rw [hcl]
          · show [some (jR 8 0), some (jJ (lN S)), none, some (jJ (lN (mk (vl N fun i => S.testBit i) k) ||| (((vp_updL (τ.2 9 0) (nI k).toNatClampNeg (gop (nK N k) (τ.2 9 0 (pl N k 0)) (τ.2 9 0 (pl N k 1)) (τ.2 9 0 (pl N k 2))) (nI k).toNatClampNeg) &&& lN 1) <<< ((nI k).toInt64 &&& 63)))), none, some (jI (nI k + nI 1))] = _
            rw [hcl, pk_uLs, lN_low, hb0, bit_shl _ (by omega), fb_orL, nI_add]
            rfl
  exact gen (nN N) 0 σ (by omega) (off_refl _ _ _) (fun j hj => by omega)
end
section
/-! Signals: now, changedBy, the registers' next, run, setInput -/
/-- the nodes that are 1, by the set of leaves that are -/
def onM (N : nw) (on : Nat) : Nat := mk (vl N fun i => on.testBit i) (nN N)
theorem onM_bit (N : nw) (on i : Nat) : (onM N on).testBit i = (decide (i < nN N) && vl N (fun i => on.testBit i) i) := mk_bit _ _ _
theorem onM_lt {N : nw} (h : nw_ok N) (on : Nat) : onM N on < 2 ^ 40 := mk_lt40 _ h.1
def nxR (N : nw) (on : Nat) : Nat → Nat := mk fun r => isR N r && (onM N on).testBit (nF N r)
/-- behind a clock -/
def nxO (N : nw) (on : Nat) : Nat := (on &&& iM N) ||| nxR N on 40
def itO (N : nw) (on : Nat) : Nat → Nat
  | 0 => on
  | t + 1 => nxO N (itO N on t)
theorem nxR_lt (N : nw) (on : Nat) : nxR N on 40 < 2 ^ 40 := mk_lt _ _
theorem nxO_lt {N : nw} (h : nw_ok N) (on : Nat) : nxO N on < 2 ^ 40 := or_lt (Nat.lt_of_le_of_lt Nat.and_le_right (iM_lt h)) (nxR_lt N on)
theorem itO_lt {N : nw} (h : nw_ok N) {on : Nat} (ho : on < 2 ^ 40) : ∀ t, itO N on t < 2 ^ 40
  | 0 => ho
  | _ + 1 => nxO_lt h _
abbrev ct_now (C : jm_C) : Prop := ∀ (N : nw) (on : Nat) (σ : jm_G) (post : Option jm_V → jm_G → Prop), nw_ok N → cN N σ → σ.2 8 0 2 = lN on → on < 2 ^ 40 → (∀ σ', off 9 9 σ σ' → post (some (jJ (lN (onM N on)))) σ') → C kX7_now [jR 8 0] σ post
theorem c_nodesOn {C : jm_C} (h : ct_nodesOn C) {N : nw} {S : Nat} {v : Int64} {σ : jm_G} {post : Option jm_V → jm_G → Prop} (hv : v = lN S) (hok : nw_ok N) (hN : cN N σ) (hS : S < 2 ^ 63) (hp : ∀ σ', off 9 9 σ σ' → post (some (jJ (lN (onM N S)))) σ') : C kX7_nodesOn [jR 8 0, jJ v] σ post := by subst hv; exact h N S σ post hok hN hS hp
theorem T_now (L : Nat) {C : jm_C} (hC : jm_mon C) (h1 : ct_nodesOn C) : ct_now (jm_up L C) := by
  intro N on σ post hok hN ho hlt hp
  refine jm_start rfl (Nat.le_of_ble_eq_true rfl) hC fun X hg hw => ?_
  refine hg [] 20 _ ?_
  refine c_nodesOn h1 ho hok hN (p40 hlt) fun σ' h => ?_
  exact And.intro trivial (hp σ' h)
abbrev ct_changedBy (C : jm_C) : Prop := ∀ (N : nw) (on i : Nat) (σ : jm_G) (post : Option jm_V → jm_G → Prop), nw_ok N → cN N σ → σ.2 8 0 2 = lN on → on < 2 ^ 40 → i < 40 → (∀ σ', off 9 9 σ σ' → post (some (jJ (lN (onM N on ^^^ onM N (on ^^^ 2 ^ i))))) σ') → C kX7_changedBy [jR 8 0, jI (nI i)] σ post
theorem T_changedBy (L : Nat) {C : jm_C} (hC : jm_mon C) (h1 : ct_nodesOn C) (h2 : ct_bit C) : ct_changedBy (jm_up L C) := by
  intro N on i σ post hok hN ho hlt hi hp
  refine jm_start rfl (Nat.le_of_ble_eq_true rfl) hC fun X hg hw => ?_
  refine hg [] 20 _ ?_
  refine c_nodesOn h1 ho hok hN (p40 hlt) fun σ' h => ?_
  refine h2 i σ' _ (by omega) ?_
  have hN' := cN_off hN h (by omega) (by omega)
  have hpw : 2 ^ i < 2 ^ 40 := pw_lt hi
  refine c_nodesOn h1 (S := on ^^^ 2 ^ i) (show σ'.2 8 0 2 ^^^ lN (2 ^ i) = lN (on ^^^ 2 ^ i) by rw [(h 8 0 (by omega)).2, ho, fb_xorL]) hok hN' (p40 (Nat.xor_lt_two_pow hlt hpw)) fun σ'' h' => ?_
  refine And.intro trivial ?_
  show post (some (jJ (lN (onM N on) ^^^ lN (onM N (on ^^^ 2 ^ i))))) σ''
  rw [fb_xorL]
  exact hp σ'' (off_trans h h')
abbrev ct_regNext (C : jm_C) : Prop := ∀ (N : nw) (on : Nat) (σ : jm_G) (post : Option jm_V → jm_G → Prop), nw_ok N → cN N σ → σ.2 8 0 2 = lN on → on < 2 ^ 40 → (∀ σ', off 9 9 σ σ' → post (some (jJ (lN (nxR N on 40)))) σ') → C kX7_registersNext [jR 8 0] σ post
theorem T_regNext (L : Nat) {C : jm_C} (hC : jm_mon C) (h1 : ct_now C) (h2 : ct_low C) (h3 : ct_feedOf C) (h4 : ct_has C) (h5 : ct_bit C) : ct_regNext (jm_up L C) := by
  intro N on σ post hok hN ho hlt hp
  refine jm_start rfl (Nat.le_of_ble_eq_true rfl) hC fun X hg hw => ?_
  have hn := hok.1
  have hr := rM_lt hok
  refine hg [16] 20 _ ?_
  refine h1 N on σ _ hok hN ho hlt fun τ hτ => ?_
  have hNt := cN_off hN hτ (by omega) (by omega)
  show X (τ, 16, [some (jR 8 0), some (jJ (lN (onM N on))), none, some (jJ (lN 0)), none, some (jJ (τ.2 2 0 7)), none, none], [])
  rw [hNt.2.2.2.1]
  have main := jm_bits (X := X) (rM N) (fun k => (τ, 16, [some (jR 8 0), some (jJ (lN (onM N on))), none, some (jJ (lN (nxR N on k))), none, some (jJ (lN (hi (rM N) k))), none, none], [])) 40 ?_ ?_ ?_ 0 (by omega)
  · have main : X (τ, 16, [some (jR 8 0), some (jJ (lN (onM N on))), none, some (jJ (lN 0)), none, some (jJ (lN (hi (rM N) 0))), none, none], []) := main
    rw [hi_0] at main
    exact main
  · show X (τ, 16, [some (jR 8 0), some (jJ (lN (onM N on))), none, some (jJ (lN (nxR N on 40))), none, some (jJ (lN (hi (rM N) 40))), none, none], [])
    rw [hi_end hr]
    refine hg [] 30 _ ?_
    refine br_c (fun h => ?_) (fun h => ?_)
    · exact And.intro trivial (hp τ hτ)
    · exact absurd ((cmp_0 _ _).mpr rfl) h
  · intro k hk hb
    have hb2 : isR N k = false := by rw [← rM_bit]; exact hb
    have e : nxR N on (k + 1) = nxR N on k := by
      show mk _ (k + 1) = mk _ k
      rw [mk, hb2]
      simp
    simp only [e, hi_skip hb]
  · intro k hk hb ih
    have hr2 : isR N k = true := by rw [← rM_bit]; exact hb
    have hkn := isR_lt hr2
    have hf := hok.2.2.2.1 k hr2
    refine hg [16] 30 _ ?_
    refine br_c (fun h => ?_) (fun h => ?_)
    · exact absurd h (hi_n0 hr hb)
    · refine h2 (rM N) k τ _ (p40 hr) hb ?_
      refine h3 N k τ _ hok hNt hr2 ?_
      refine h4 (onM N on) (nF N k) τ _ (p40 (onM_lt hok on)) (by omega) ?_
      refine br_c (fun h6 => ?_) (fun h6 => ?_)
      · have h6 := bI_0.mp h6
        refine hw _ _ _ [some (jR 8 0), some (jJ (lN (onM N on))), none, some (jJ (lN (nxR N on k))), none, some (jJ (lN (hi (rM N) k) &&& (lN (hi (rM N) k) - lN 1))), none, none] _ (by repeat' first | exact trivial | exact rfl | apply And.intro) ?_
        refine jm_eqv (X := X) ih rfl rfl ?_ rfl
        have e : nxR N on (k + 1) = nxR N on k := by
          show mk _ (k + 1) = mk _ k
          rw [mk, hr2, h6]
          simp
        rw [nxt hb, e]
      · have h6 := bI_n0.mp h6
        refine h5 k τ _ (by omega) ?_
        refine hw _ _ _ [some (jR 8 0), some (jJ (lN (onM N on))), none, some (jJ (lN (nxR N on k) ||| lN (2 ^ k))), none, some (jJ (lN (hi (rM N) k) &&& (lN (hi (rM N) k) - lN 1))), none, none] _ (by repeat' first | exact trivial | exact rfl | apply And.intro) ?_
        refine jm_eqv (X := X) ih rfl rfl ?_ rfl
        have e : nxR N on (k + 1) = nxR N on k ||| 2 ^ k := by
          show mk _ (k + 1) = mk _ k ||| 2 ^ k
          rw [mk, hr2, h6]
          simp
        rw [nxt hb, e, fb_orL]
abbrev ct_run (C : jm_C) : Prop := ∀ (N : nw) (on t : Nat) (σ : jm_G) (post : Option jm_V → jm_G → Prop), nw_ok N → cN N σ → σ.2 8 0 2 = lN on → on < 2 ^ 40 → 1 ≤ t → t ≤ 64 → (∀ σ', off 8 9 σ σ' → σ'.2 8 0 2 = lN (itO N on t) → post (some (jI (nI (cnt (itO N on t ^^^ itO N on (t - 1)) 64)))) σ') → C kX7_run [jR 8 0, jI (nI t)] σ post
theorem T_run (L : Nat) {C : jm_C} (hC : jm_mon C) (h1 : ct_regNext C) (h2 : ct_bc C) : ct_run (jm_up L C) := by
  intro N on t σ post hok hN ho hlt ht1 ht2 hp
  refine jm_start rfl (Nat.le_of_ble_eq_true rfl) hC fun X hg hw => ?_
  have hn := hok.1
  refine hg [4] 20 _ ?_
  show X (σ, 4, [some (jR 8 0), some (jI (nI t)), some (jI (nI 0)), some (jI (nI 0)), none, none], [])
  have gen : ∀ (m k : Nat) (τ : jm_G) (x : Int32), k + m = t → off 8 9 σ τ → τ.2 8 0 2 = lN (itO N on k) → (0 < k → x = nI (cnt (itO N on k ^^^ itO N on (k - 1)) 64)) → X (τ, 4, [some (jR 8 0), some (jI (nI t)), some (jI x), some (jI (nI k)), none, none], []) := by
    intro m
    induction m with
    | zero =>
      intro k τ x hk hoff hlv hx
      have hk : k = t := by omega
      subst hk
      refine hg [4] 40 _ ?_
      refine br_c (fun h => ?_) (fun h => ?_)
      · refine And.intro trivial ?_
        have hx := hx (by omega)
        subst hx
        exact hp τ hoff hlv
      · exact absurd (nI_le (Nat.le_refl k) (by omega)) h
    | succ m ih =>
      intro k τ x hk hoff hlv hx
      have hNt := cN_off hN hoff (by omega) (by omega)
      refine hg [4] 40 _ ?_
      refine br_c (fun h => ?_) (fun h => ?_)
      · have h : nI t ≤ nI k := h
        rw [nI_leI (by omega) (by omega)] at h
        omega
      · refine h1 N (itO N on k) τ _ hok hNt hlv (itO_lt hok hlt k) fun υ hυ => ?_
        have e8 : υ.2 8 0 = τ.2 8 0 := (hυ 8 0 (by omega)).2
        have e2 : υ.2 2 0 = τ.2 2 0 := (hυ 2 0 (by omega)).2
        have en : (τ.2 8 0 2 &&& τ.2 2 0 5) ||| lN (nxR N (itO N on k) 40) = lN (itO N on (k + 1)) := by
          rw [hlv, hNt.2.1, fb_andL, fb_orL]; rfl
        have hx64 : itO N on (k + 1) ^^^ itO N on k < 2 ^ 64 := Nat.lt_trans (Nat.xor_lt_two_pow (itO_lt hok hlt (k + 1)) (itO_lt hok hlt k)) (by omega)
        refine c_bc h2 (S := itO N on (k + 1) ^^^ itO N on k) (show ((τ.2 8 0 2 &&& τ.2 2 0 5) ||| lN (nxR N (itO N on k) 40)) ^^^ υ.2 8 0 2 = _ by rw [en, e8, hlv, fb_xorL]) hx64 ?_
        have h9 := ih (k + 1) (wJ υ 8 0 (vp_updL (υ.2 8 0) 2 (lN (itO N on (k + 1))))) (nI (cnt (itO N on (k + 1) ^^^ itO N on k) 64)) (by omega) (off_wJ (off_trans hoff (off_wide hυ (by omega) (by omega))) (by omega) (by omega)) (by rw [wJ2, if_pos ⟨rfl, rfl⟩, updL_at, if_pos rfl]) (fun _ => rfl)
        refine hw _ _ _ [some (jR 8 0), some (jI (nI t)), some (jI (nI (cnt (itO N on (k + 1) ^^^ itO N on k) 64))), some (jI (nI k + nI 1)), none, none] _ (by repeat' first | exact trivial | exact rfl | apply And.intro) ?_
        refine jm_eqv (X := X) h9 ?_ rfl ?_ rfl
        · show wJ υ 8 0 (vp_updL (υ.2 8 0) 2 ((τ.2 8 0 2 &&& τ.2 2 0 5) ||| lN (nxR N (itO N on k) 40))) = _
          rw [en]
        · rw [nI_add]
  exact gen t 0 σ (nI 0) (by omega) (off_refl _ _ _) ho (fun h => by omega)
/-- an input set or not -/
def setO (on i : Nat) (b : Bool) : Nat := if b then on ||| 2 ^ i else sD on (2 ^ i)
abbrev ct_setInput (C : jm_C) : Prop := ∀ (on i : Nat) (b : Bool) (σ : jm_G) (post : Option jm_V → jm_G → Prop), σ.2 8 0 2 = lN on → on < 2 ^ 40 → i < 40 → (∀ σ', off 8 9 σ σ' → σ'.2 8 0 2 = lN (setO on i b) → post (some (jI (bI (on.testBit i)))) σ') → C kX7_setInput [jR 8 0, jI (nI i), jI (bI b)] σ post
theorem T_setInput (L : Nat) {C : jm_C} (hC : jm_mon C) (h1 : ct_has C) (h2 : ct_bit C) : ct_setInput (jm_up L C) := by
  intro on i b σ post ho hlt hi hp
  refine jm_start rfl (Nat.le_of_ble_eq_true rfl) hC fun X hg hw => ?_
  refine hg [] 60 _ ?_
  refine c_has h1 (S := on) (n := i) ho rfl (p40 hlt) (by omega) ?_
  refine br_c (fun h => ?_) (fun h => ?_)
  · rw [bI_0.mp h] at hp
    refine br_c (fun h3 => ?_) (fun h3 => ?_)
    · have hb : b = false := bI_0.mp h3
      refine h2 i σ _ (by omega) ?_
      refine And.intro trivial ?_
      refine hp _ (off_wJ (off_refl _ _ _) (by omega) (by omega)) ?_
      show vp_updL (σ.2 8 0) 2 (σ.2 8 0 2 &&& (lN (2 ^ i) ^^^ (-1))) 2 = _
      rw [pk_uLs, ho, lN_andn, hb]
      rfl
    · have hb : b = true := bI_n0.mp h3
      refine h2 i σ _ (by omega) ?_
      refine And.intro trivial ?_
      refine hp _ (off_wJ (off_refl _ _ _) (by omega) (by omega)) ?_
      show vp_updL (σ.2 8 0) 2 (σ.2 8 0 2 ||| lN (2 ^ i)) 2 = _
      rw [pk_uLs, ho, fb_orL, hb]
      rfl
  · rw [bI_n0.mp h] at hp
    refine br_c (fun h3 => ?_) (fun h3 => ?_)
    · have hb : b = false := bI_0.mp h3
      refine h2 i σ _ (by omega) ?_
      refine And.intro trivial ?_
      refine hp _ (off_wJ (off_refl _ _ _) (by omega) (by omega)) ?_
      show vp_updL (σ.2 8 0) 2 (σ.2 8 0 2 &&& (lN (2 ^ i) ^^^ (-1))) 2 = _
      rw [pk_uLs, ho, lN_andn, hb]
      rfl
    · have hb : b = true := bI_n0.mp h3
      refine h2 i σ _ (by omega) ?_
      refine And.intro trivial ?_
      refine hp _ (off_wJ (off_refl _ _ _) (by omega) (by omega)) ?_
      show vp_updL (σ.2 8 0) 2 (σ.2 8 0 2 ||| lN (2 ^ i)) 2 = _
      rw [pk_uLs, ho, fb_orL, hb]
      rfl
end
section
/-! THE MODEL's network: its least methods -/
def mN (N : nw) (σ : jm_G) : Prop := σ.1 38 0 1 = nI (nN N) ∧ (∀ i, i < nN N → σ.1 39 0 i = nI (nS N i)) ∧ (∀ i, i < nN N → σ.1 40 0 i = if isG N i then nI (nK N i) else -(nI 1)) ∧
  (∀ i, i < nN N → ∀ k, k < 3 → σ.1 41 0 (3 * i + k) = sofI N i k) ∧ (∀ i, i < nN N → σ.2 42 0 i = lN (nB N i)) ∧ σ.2 38 0 6 = lN (nO N)
theorem n3I {i k : Nat} : nI 3 * nI i + nI k = nI (3 * i + k) := by rw [pk_mul, nI_add]
theorem n3 {i : Nat} : nI 3 * nI i = nI (3 * i) := pk_mul 3 i
abbrev ct_within (C : jm_C) : Prop := ∀ (x a b : Int32) (σ : jm_G) (post : Option jm_V → jm_G → Prop), post (some (jI (bI (decide (¬ x < a) && decide (¬ b < x))))) σ → C kX10_within [jI x, jI a, jI b] σ post
theorem T_within (L : Nat) {C : jm_C} (hC : jm_mon C) : ct_within (jm_up L C) := by
  intro x a b σ post hp
  refine jm_start rfl (Nat.le_of_ble_eq_true rfl) hC fun X hg hw => ?_
  refine hg [] 20 _ ?_
  refine br_c (fun h => ?_) (fun h => ?_)
  · refine And.intro (Or.inl rfl) ?_
    simp only [h, not_true, decide_false, Bool.false_and] at hp
    exact hp
  · refine br_c (fun h2 => ?_) (fun h2 => ?_)
    · refine And.intro (Or.inl rfl) ?_
      simp only [h2, not_true, decide_false, Bool.and_false] at hp
      exact hp
    · refine And.intro (Or.inr rfl) ?_
      simp only [h, h2, not_false_eq_true, decide_true, Bool.and_true] at hp
      exact hp
/-- within two numbers -/
theorem wi_nI {x : Int32} {a b : Nat} (hb : b < 2 ^ 31) (hab : a ≤ b) (h : (decide (¬ x < nI a) && decide (¬ nI b < x)) = true) : ∃ j, a ≤ j ∧ j ≤ b ∧ x = nI j := by
  simp only [Bool.and_eq_true, decide_eq_true_eq] at h
  have h0 : ¬ x < 0 := by
    intro h1
    apply h.1
    rw [Int32.lt_iff_toInt_lt] at h1 ⊢
    rw [nI_toInt (by omega)]
    have : (0 : Int32).toInt = 0 := by decide
    omega
  obtain ⟨j, hj, rfl⟩ := nI_of h0
  rw [nI_ltI (by omega) (by omega), nI_ltI (by omega) (by omega)] at h
  exact ⟨j, by omega, by omega, rfl⟩
theorem wi_in {j a b : Nat} (hb : b < 2 ^ 31) (h1 : a ≤ j) (h2 : j ≤ b) : (decide (¬ nI j < nI a) && decide (¬ nI b < nI j)) = true := by
  simp only [Bool.and_eq_true, decide_eq_true_eq]
  exact ⟨nI_nlt h1 (by omega), nI_nlt h2 (by omega)⟩
abbrev ct_mlow (C : jm_C) : Prop := ∀ (S k : Nat) (σ : jm_G) (post : Option jm_V → jm_G → Prop), S < 2 ^ 63 → S.testBit k = true → (∀ j, j < k → S.testBit j = false) → post (some (jI (nI k))) σ → C kX10_lowest [jJ (lN S)] σ post
theorem T_mlow (L : Nat) {C : jm_C} (hC : jm_mon C) (h1 : ct_mhas C) : ct_mlow (jm_up L C) := by
  intro S k σ post hS hb hl hp
  refine jm_start rfl (Nat.le_of_ble_eq_true rfl) hC fun X hg hw => ?_
  have hk : k < 63 := bit_lt hS hb
  refine hg [2] 20 _ ?_
  refine jm_for (X := X) (fun j => (σ, 2, [some (jJ (lN S)), none, some (jI (nI j))], [])) k ?_ ?_ 0 (by omega)
  · refine hg [2] 20 _ ?_
    refine h1 S k σ _ hS (by omega) ?_
    rw [hb]
    refine br_c (fun h => ?_) (fun h => ?_)
    · exact absurd h (by decide)
    · exact And.intro trivial hp
  · intro j hj ih
    refine hg [2] 20 _ ?_
    refine h1 S j σ _ hS (by omega) ?_
    rw [hl j hj]
    refine br_c (fun h => ?_) (fun h => ?_)
    · refine jm_eqv (X := X) ih rfl rfl ?_ rfl
      show [some (jJ (lN S)), none, some (jI (nI j + nI 1))] = _
      rw [nI_add]
    · exact absurd rfl h
abbrev ct_msrcOf (C : jm_C) : Prop := ∀ (k : Nat) (σ : jm_G) (post : Option jm_V → jm_G → Prop), k < 7 → post (some (jI (nI (ar k)))) σ → C kX10_sourcesOf [jI (nI k)] σ post
theorem T_msrcOf (L : Nat) {C : jm_C} (hC : jm_mon C) : ct_msrcOf (jm_up L C) := by
  intro k σ post hk hp
  refine jm_start rfl (Nat.le_of_ble_eq_true rfl) hC fun X hg hw => ?_
  refine hg [] 20 _ ?_
  refine br_c (fun h => ?_) (fun h => ?_)
  · have h : nI k = nI 0 := h
    rw [nI_eq (by omega) (by omega)] at h
    subst h
    exact And.intro trivial hp
  · have h : ¬ nI k = nI 0 := h
    rw [nI_eq (by omega) (by omega)] at h
    refine br_c (fun h2 => ?_) (fun h2 => ?_)
    · have h2 : nI 5 ≤ nI k := h2
      rw [nI_leI (by omega) (by omega)] at h2
      refine And.intro trivial ?_
      rw [show ar k = 3 by unfold ar; rw [if_neg h, if_neg (by omega)]] at hp
      exact hp
    · have h2 : ¬ nI 5 ≤ nI k := h2
      rw [nI_leI (by omega) (by omega)] at h2
      refine And.intro trivial ?_
      rw [show ar k = 2 by unfold ar; rw [if_neg h, if_pos (by omega)]] at hp
      exact hp
abbrev ct_misNode (C : jm_C) : Prop := ∀ (n : Nat) (x : Int32) (σ : jm_G) (post : Option jm_V → jm_G → Prop), σ.1 38 0 1 = nI n → post (some (jI (bI (inN n x)))) σ → C kX10_isNode [jR 38 0, jI x] σ post
theorem T_misNode (L : Nat) {C : jm_C} (hC : jm_mon C) : ct_misNode (jm_up L C) := by
  intro n x σ post hN hp
  refine jm_start rfl (Nat.le_of_ble_eq_true rfl) hC fun X hg hw => ?_
  refine hg [] 20 _ ?_
  refine br_c (fun h => ?_) (fun h => ?_)
  · refine And.intro (Or.inl rfl) ?_
    have e : inN n x = false := by simp only [inN, h]; simp
    rw [e] at hp
    exact hp
  · refine br_c (fun h2 => ?_) (fun h2 => ?_)
    · have h2 : σ.1 38 0 1 ≤ x := h2
      rw [hN] at h2
      refine And.intro (Or.inl rfl) ?_
      have e : inN n x = false := by simp only [inN, h2]; simp
      rw [e] at hp
      exact hp
    · have h2 : ¬ σ.1 38 0 1 ≤ x := h2
      rw [hN] at h2
      refine And.intro (Or.inr rfl) ?_
      have e : inN n x = true := by simp only [inN, h, h2]; simp
      rw [e] at hp
      exact hp
theorem nS_eq {N : nw} (h : nw_ok N) {i v : Nat} (hi : i < nN N) (hv : v < 2 ^ 31) : (nI (nS N i) = nI v) ↔ nS N i = v := nI_eq (by have := h.2.1 i hi; omega) hv
abbrev ct_misGate (C : jm_C) : Prop := ∀ (N : nw) (x : Int32) (σ : jm_G) (post : Option jm_V → jm_G → Prop), nw_ok N → mN N σ → post (some (jI (bI (atN (nN N) x (isG N))))) σ → C kX10_isGate [jR 38 0, jI x] σ post
theorem T_misGate (L : Nat) {C : jm_C} (hC : jm_mon C) (h1 : ct_misNode C) : ct_misGate (jm_up L C) := by
  intro N x σ post hok hN hp
  refine jm_start rfl (Nat.le_of_ble_eq_true rfl) hC fun X hg hw => ?_
  refine hg [] 20 _ ?_
  refine h1 (nN N) x σ _ hN.1 ?_
  have hn := hok.1
  refine br_c (fun h => ?_) (fun h => ?_)
  · refine And.intro (Or.inl rfl) ?_
    have e : atN (nN N) x (isG N) = false := by simp only [atN, bI_0.mp h]; simp
    rw [e] at hp
    exact hp
  · obtain ⟨j, hj, rfl⟩ := inN_t (by omega) (bI_n0.mp h)
    rw [atN_nI (by omega) (by omega), show decide (j < nN N) = true by simpa using hj, Bool.true_and] at hp
    refine And.intro (in40 hok hj) ?_
    refine br_c (fun h3 => ?_) (fun h3 => ?_)
    · have h3 : σ.1 39 0 (nI j).toNatClampNeg = nI 1 := h3
      rw [cl40 hok hj, hN.2.1 j hj, nS_eq hok hj (by omega)] at h3
      refine And.intro (Or.inr rfl) ?_
      rw [show isG N j = true by simp [isG, hj, h3]] at hp
      exact hp
    · have h3 : ¬ σ.1 39 0 (nI j).toNatClampNeg = nI 1 := h3
      rw [cl40 hok hj, hN.2.1 j hj, nS_eq hok hj (by omega)] at h3
      refine And.intro (Or.inl rfl) ?_
      rw [show isG N j = false by simp [isG, h3]] at hp
      exact hp
abbrev ct_misReg (C : jm_C) : Prop := ∀ (N : nw) (x : Int32) (σ : jm_G) (post : Option jm_V → jm_G → Prop), nw_ok N → mN N σ → post (some (jI (bI (atN (nN N) x (isR N))))) σ → C kX10_isRegister [jR 38 0, jI x] σ post
theorem T_misReg (L : Nat) {C : jm_C} (hC : jm_mon C) (h1 : ct_misNode C) : ct_misReg (jm_up L C) := by
  intro N x σ post hok hN hp
  refine jm_start rfl (Nat.le_of_ble_eq_true rfl) hC fun X hg hw => ?_
  refine hg [] 20 _ ?_
  refine h1 (nN N) x σ _ hN.1 ?_
  have hn := hok.1
  refine br_c (fun h => ?_) (fun h => ?_)
  · refine And.intro (Or.inl rfl) ?_
    have e : atN (nN N) x (isR N) = false := by simp only [atN, bI_0.mp h]; simp
    rw [e] at hp
    exact hp
  · obtain ⟨j, hj, rfl⟩ := inN_t (by omega) (bI_n0.mp h)
    rw [atN_nI (by omega) (by omega), show decide (j < nN N) = true by simpa using hj, Bool.true_and] at hp
    refine And.intro (in40 hok hj) ?_
    refine br_c (fun h3 => ?_) (fun h3 => ?_)
    · have h3 : σ.1 39 0 (nI j).toNatClampNeg = nI 2 := h3
      rw [cl40 hok hj, hN.2.1 j hj, nS_eq hok hj (by omega)] at h3
      refine And.intro (Or.inr rfl) ?_
      rw [show isR N j = true by simp [isR, hj, h3]] at hp
      exact hp
    · have h3 : ¬ σ.1 39 0 (nI j).toNatClampNeg = nI 2 := h3
      rw [cl40 hok hj, hN.2.1 j hj, nS_eq hok hj (by omega)] at h3
      refine And.intro (Or.inl rfl) ?_
      rw [show isR N j = false by simp [isR, h3]] at hp
      exact hp
/-- an int field of the model is written -/
abbrev sF (σ : jm_G) (k : Nat) (x : Int32) : jm_G := wI σ 38 0 (upd (σ.1 38 0) k x)
abbrev ct_changes (C : jm_C) : Prop := ∀ (σ : jm_G) (post : Option jm_V → jm_G → Prop), post none (sF (sF σ 8 (nI 0)) 9 (nI 0)) → C kX10_changes [jR 38 0] σ post
theorem T_changes (L : Nat) {C : jm_C} (hC : jm_mon C) : ct_changes (jm_up L C) := by
  intro σ post hp
  refine jm_start rfl (Nat.le_of_ble_eq_true rfl) hC fun X hg hw => ?_
  refine hg [] 20 _ ?_
  refine And.intro (Or.inl rfl) ?_
  refine And.intro (Or.inl rfl) ?_
  exact And.intro trivial hp
/-- feeds and gates by the sorts -/
abbrev ct_fed (C : jm_C) : Prop := ∀ (N : nw) (σ : jm_G) (post : Option jm_V → jm_G → Prop), nw_ok N → mN N σ → post (some (jJ (lN (fdM N 40)))) σ → C kX10_fed [jR 38 0] σ post
theorem fdM_end {N : nw} (h : nw_ok N) : fdM N (nN N) = fdM N 40 := set_eq fun j => by
  rw [fdM_bit, fdM_bit]
  simp only [decide_eq_decide]
  exact ⟨fun ⟨r, a, b⟩ => ⟨r, by have := h.1; omega, b⟩, fun ⟨r, a, b⟩ => ⟨r, isR_lt b.1, b⟩⟩
theorem isR_of {N : nw} {k : Nat} (hk : k < nN N) : isR N k = decide (nS N k = 2) := by simp [isR, hk]; rfl
theorem isG_of {N : nw} {k : Nat} (hk : k < nN N) : isG N k = decide (nS N k = 1) := by simp [isG, hk]; rfl
theorem T_fed (L : Nat) {C : jm_C} (hC : jm_mon C) : ct_fed (jm_up L C) := by
  intro N σ post hok hN hp
  refine jm_start rfl (Nat.le_of_ble_eq_true rfl) hC fun X hg hw => ?_
  have hn := hok.1
  refine hg [4] 20 _ ?_
  refine jm_for (X := X) (fun k => (σ, 4, [some (jR 38 0), some (jJ (lN (fdM N k))), none, some (jI (nI k))], [])) (nN N) ?_ ?_ 0 (by omega)
  · refine hg [4] 30 _ ?_
    refine br_c (fun h => ?_) (fun h => ?_)
    · refine And.intro trivial ?_
      rw [fdM_end hok]
      exact hp
    · have h : ¬ σ.1 38 0 1 ≤ nI (nN N) := h
      rw [hN.1, nI_leI (by omega) (by omega)] at h
      omega
  · intro k hk ih
    refine hg [4] 30 _ ?_
    refine br_c (fun h => ?_) (fun h => ?_)
    · have h : σ.1 38 0 1 ≤ nI k := h
      rw [hN.1, nI_leI (by omega) (by omega)] at h
      omega
    · refine And.intro (in40 hok hk) ?_
      refine br_c (fun h3 => ?_) (fun h3 => ?_)
      · have h3 : σ.1 39 0 (nI k).toNatClampNeg = nI 2 := h3
        rw [cl40 hok hk, hN.2.1 k hk, nS_eq hok hk (by omega)] at h3
        have hr : isR N k = true := by rw [isR_of hk]; simpa using h3
        refine And.intro (show vp_in (nI 3 * nI k) 120 by rw [n3]; exact vp_in_nI (by omega) (by omega)) ?_
        refine jm_eqv (X := X) ih rfl rfl ?_ rfl
        show [some (jR 38 0), some (jJ (lN (fdM N k) ||| (lN 1 <<< ((σ.1 41 0 (nI 3 * nI k).toNatClampNeg).toInt64 &&& 63)))), none, some (jI (nI k + nI 1))] = _
        have hs := hN.2.2.2.1 k hk 0 (by omega)
        have hgf : isG N k = false := by rw [isG_of hk]; simp [h3]
        have hs2 : sofI N k 0 = nI (nF N k) := by unfold sofI; simp [hgf, hr]
        have hf := hok.2.2.2.1 k hr
        rw [n3, nI_clamp (by omega), show 3 * k = 3 * k + 0 from rfl, hs, hs2, lN_shl1 (by omega), fb_orL, nI_add, fdM, hr, if_pos rfl]
      · have h3 : ¬ σ.1 39 0 (nI k).toNatClampNeg = nI 2 := h3
        rw [cl40 hok hk, hN.2.1 k hk, nS_eq hok hk (by omega)] at h3
        have hr : isR N k = false := by rw [isR_of hk]; simpa using h3
        refine jm_eqv (X := X) ih rfl rfl ?_ rfl
        show [some (jR 38 0), some (jJ (lN (fdM N k) ||| lN 0)), none, some (jI (nI k + nI 1))] = _
        rw [fb_orL, nI_add, fdM, hr]
        rfl
abbrev ct_mroots (C : jm_C) : Prop := ∀ (N : nw) (σ : jm_G) (post : Option jm_V → jm_G → Prop), nw_ok N → mN N σ → post (some (jJ (lN (rts N)))) σ → C kX10_roots [jR 38 0] σ post
theorem T_mroots (L : Nat) {C : jm_C} (hC : jm_mon C) (h1 : ct_fed C) : ct_mroots (jm_up L C) := by
  intro N σ post hok hN hp
  refine jm_start rfl (Nat.le_of_ble_eq_true rfl) hC fun X hg hw => ?_
  refine hg [] 20 _ ?_
  refine h1 N σ _ hok hN ?_
  refine And.intro trivial ?_
  show post (some (jJ (σ.2 38 0 6 ||| lN (fdM N 40)))) σ
  rw [hN.2.2.2.2.2, fb_orL]
  exact hp
abbrev ct_mgates (C : jm_C) : Prop := ∀ (N : nw) (σ : jm_G) (post : Option jm_V → jm_G → Prop), nw_ok N → mN N σ → post (some (jJ (lN (gM N)))) σ → C kX10_gates [jR 38 0] σ post
theorem T_mgates (L : Nat) {C : jm_C} (hC : jm_mon C) : ct_mgates (jm_up L C) := by
  intro N σ post hok hN hp
  refine jm_start rfl (Nat.le_of_ble_eq_true rfl) hC fun X hg hw => ?_
  have hn := hok.1
  refine hg [4] 20 _ ?_
  refine jm_for (X := X) (fun k => (σ, 4, [some (jR 38 0), some (jJ (lN (mk (isG N) k))), none, some (jI (nI k))], [])) (nN N) ?_ ?_ 0 (by omega)
  · refine hg [4] 30 _ ?_
    refine br_c (fun h => ?_) (fun h => ?_)
    · exact And.intro trivial hp
    · have h : ¬ σ.1 38 0 1 ≤ nI (nN N) := h
      rw [hN.1, nI_leI (by omega) (by omega)] at h
      omega
  · intro k hk ih
    refine hg [4] 30 _ ?_
    refine br_c (fun h => ?_) (fun h => ?_)
    · have h : σ.1 38 0 1 ≤ nI k := h
      rw [hN.1, nI_leI (by omega) (by omega)] at h
      omega
    · refine And.intro (in40 hok hk) ?_
      refine br_c (fun h3 => ?_) (fun h3 => ?_)
      · have h3 : σ.1 39 0 (nI k).toNatClampNeg = nI 1 := h3
        rw [cl40 hok hk, hN.2.1 k hk, nS_eq hok hk (by omega)] at h3
        have hr : isG N k = true := by rw [isG_of hk]; simpa using h3
        refine jm_eqv (X := X) ih rfl rfl ?_ rfl
        show [some (jR 38 0), some (jJ (lN (mk (isG N) k) ||| (lN 1 <<< ((nI k).toInt64 &&& 63)))), none, some (jI (nI k + nI 1))] = _
        rw [lN_shl1 (by omega), fb_orL, nI_add, mk, hr, if_pos rfl]
      · have h3 : ¬ σ.1 39 0 (nI k).toNatClampNeg = nI 1 := h3
        rw [cl40 hok hk, hN.2.1 k hk, nS_eq hok hk (by omega)] at h3
        have hr : isG N k = false := by rw [isG_of hk]; simpa using h3
        refine jm_eqv (X := X) ih rfl rfl ?_ rfl
        show [some (jR 38 0), some (jJ (lN (mk (isG N) k) ||| lN 0)), none, some (jI (nI k + nI 1))] = _
        rw [fb_orL, nI_add, mk, hr]
        rfl
end
section
/-! THE MODEL: input, gate, register, feed, output, inputs -/
def mB (N : nw) (K : Nat) (md : Bool) (on : Nat) (σ : jm_G) : Prop := mN N σ ∧ σ.1 38 0 7 = nI K ∧ σ.1 38 0 8 = bI md ∧ ∀ i, i < nN N → σ.1 43 0 i = bI (on.testBit i)
/-- only leaves are told to be 1 -/
def onOK (N : nw) (on : Nat) : Prop := ∀ i, on.testBit i = true → i < nN N ∧ isG N i = false
theorem onOK_n {N : nw} {on i : Nat} (h : onOK N on) (hi : nN N ≤ i) : on.testBit i = false := by
  cases hb : on.testBit i with
  | false => rfl
  | true => have := (h i hb).1; omega
theorem sF_1 (σ : jm_G) (k : Nat) (x : Int32) (j : Nat) : (sF σ k x).1 38 0 j = if j = k then x else σ.1 38 0 j := by rw [wI1, if_pos ⟨rfl, rfl⟩, upd_at]
theorem sF_2 (σ : jm_G) (k : Nat) (x : Int32) : (sF σ k x).2 = σ.2 := rfl
theorem sF_o (σ : jm_G) (k : Nat) (x : Int32) {t i : Nat} (h : t ≠ 38) : (sF σ k x).1 t i = σ.1 t i := by rw [wI1, if_neg (by omega)]
theorem mN_sF {N : nw} {σ : jm_G} (h : mN N σ) {k : Nat} (hk : k ≠ 1) (x : Int32) : mN N (sF σ k x) := by
  obtain ⟨a1, a2, a3, a4, a5, a6⟩ := h
  exact ⟨by rw [sF_1, if_neg (by omega)]; exact a1, a2, a3, a4, a5, a6⟩
theorem mB_th {N : nw} {K on : Nat} {md : Bool} {σ : jm_G} (h : mB N K md on σ) (x : Int32) : mB N K md on (sF σ 0 x) := by
  obtain ⟨a1, a2, a3, a4⟩ := h
  exact ⟨mN_sF a1 (by omega) x, by rw [sF_1, if_neg (by omega)]; exact a2, by rw [sF_1, if_neg (by omega)]; exact a3, a4⟩
/-- what 'adds' makes -/
def adP (n s : Nat) (σ τ : jm_G) : Prop := (∀ j, τ.1 38 0 j = if j = 1 then nI (n + 1) else if j = 8 then nI 0 else if j = 9 then nI 0 else σ.1 38 0 j) ∧ τ.2 38 0 = σ.2 38 0 ∧ τ.1 39 0 = upd (σ.1 39 0) n (nI s) ∧ τ.1 40 0 = upd (σ.1 40 0) n (-(nI 1)) ∧
  τ.1 41 0 = upd (upd (upd (σ.1 41 0) (3 * n) (-(nI 1))) (3 * n + 1) (-(nI 1))) (3 * n + 2) (-(nI 1)) ∧ τ.2 42 0 = vp_updL (σ.2 42 0) n (lN 0) ∧ τ.1 43 0 = upd (σ.1 43 0) n (nI 0) ∧ off 38 43 σ τ
abbrev ct_adds (C : jm_C) : Prop := ∀ (n s : Nat) (σ : jm_G) (post : Option jm_V → jm_G → Prop), σ.1 38 0 1 = nI n → n < 40 → (∀ σ', adP n s σ σ' → post (some (jI (nI n))) σ') → C kX10_adds [jR 38 0, jI (nI s)] σ post
set_option maxHeartbeats 4000000 in
theorem T_adds (L : Nat) {C : jm_C} (hC : jm_mon C) (h1 : ct_changes C) : ct_adds (jm_up L C) := by
  intro n s σ post hn hlt hp
  refine jm_start rfl (Nat.le_of_ble_eq_true rfl) hC fun X hg hw => ?_
  have hin : vp_in (σ.1 38 0 1) 40 := by rw [hn]; exact vp_in_nI hlt (by omega)
  have hcl : (σ.1 38 0 1).toNatClampNeg = n := by rw [hn]; exact nI_clamp (by omega)
  refine hg [22] 60 _ ?_
  refine And.intro hin ?_
  refine And.intro hin ?_
  show X (wI (wI σ 39 0 (upd (σ.1 39 0) (σ.1 38 0 1).toNatClampNeg (nI s))) 40 0 (upd (σ.1 40 0) (σ.1 38 0 1).toNatClampNeg (-(nI 1))), 22, [some (jR 38 0), some (jI (nI s)), some (jI (nI 0))], [])
  rw [hcl]
  generalize hA : wI (wI σ 39 0 (upd (σ.1 39 0) n (nI s))) 40 0 (upd (σ.1 40 0) n (-(nI 1))) = A
  have hAn : A.1 38 0 1 = nI n := by rw [← hA]; exact hn
  have step : ∀ (B : jm_G) (k : Nat), B.1 38 0 1 = nI n → k < 3 → X (wI B 41 0 (upd (B.1 41 0) (3 * n + k) (-(nI 1))), 22, [some (jR 38 0), some (jI (nI s)), some (jI (nI (k + 1)))], []) → X (B, 22, [some (jR 38 0), some (jI (nI s)), some (jI (nI k))], []) := by
    intro B k hB hk hX
    refine hg [22] 60 _ ?_
    refine br_c (fun h => ?_) (fun h => ?_)
    · have h : nI 3 ≤ nI k := h
      rw [nI_leI (by omega) (by omega)] at h
      omega
    · have e : nI 3 * B.1 38 0 1 + nI k = nI (3 * n + k) := by rw [hB]; exact n3I
      refine And.intro (show vp_in (nI 3 * B.1 38 0 1 + nI k) 120 by rw [e]; exact vp_in_nI (by omega) (by omega)) ?_
      refine jm_eqv (X := X) hX ?_ rfl ?_ rfl
      · show wI B 41 0 (upd (B.1 41 0) (nI 3 * B.1 38 0 1 + nI k).toNatClampNeg (-(nI 1))) = _
        rw [e, nI_clamp (by omega)]
      · show [some (jR 38 0), some (jI (nI s)), some (jI (nI k + nI 1))] = _
        rw [nI_add]
  refine step A 0 hAn (by omega) (step _ 1 hAn (by omega) (step _ 2 hAn (by omega) ?_))
  generalize hB : wI (wI (wI A 41 0 (upd (A.1 41 0) (3 * n + 0) (-(nI 1)))) 41 0 (upd ((wI A 41 0 (upd (A.1 41 0) (3 * n + 0) (-(nI 1)))).1 41 0) (3 * n + 1) (-(nI 1)))) 41 0 (upd ((wI (wI A 41 0 (upd (A.1 41 0) (3 * n + 0) (-(nI 1)))) 41 0 (upd ((wI A 41 0 (upd (A.1 41 0) (3 * n + 0) (-(nI 1)))).1 41 0) (3 * n + 1) (-(nI 1)))).1 41 0) (3 * n + 2) (-(nI 1))) = B
  have hBn : B.1 38 0 1 = nI n := by rw [← hB]; exact hAn
  have hinB : vp_in (B.1 38 0 1) 40 := by rw [hBn]; exact vp_in_nI hlt (by omega)
  refine hg [] 60 _ ?_
  refine br_c (fun h => ?_) (fun h => ?_)
  · refine And.intro hinB ?_
    refine And.intro ⟨hinB, Or.inl rfl⟩ ?_
    refine h1 _ _ ?_
    refine And.intro trivial ?_
    show post (some (jI ((B.1 38 0 1 + nI 1) - nI 1))) (sF (sF (sF (wI (wJ B 42 0 (vp_updL (B.2 42 0) (B.1 38 0 1).toNatClampNeg (lN 0))) 43 0 (upd (B.1 43 0) (B.1 38 0 1).toNatClampNeg (nI 0))) 1 (B.1 38 0 1 + nI 1)) 8 (nI 0)) 9 (nI 0))
    rw [hBn, nI_add, pk_sub (by omega), nI_clamp (by omega), show n + 1 - 1 = n by omega]
    refine hp _ ?_
    subst hB; subst hA
    refine ⟨fun j => ?_, rfl, rfl, rfl, rfl, rfl, rfl, ?_⟩
    · rw [sF_1, sF_1, sF_1]
      by_cases e1 : j = 1
      · subst e1; rfl
      · by_cases e8 : j = 8
        · subst e8; rfl
        · by_cases e9 : j = 9
          · subst e9; rfl
          · rw [if_neg e9, if_neg e8, if_neg e1, if_neg e1, if_neg e8, if_neg e9]; rfl
    · exact off_wI (off_wI (off_wI (off_wI (off_wJ (off_wI (off_wI (off_wI (off_wI (off_wI (off_refl _ _ _) (by omega) (by omega)) (by omega) (by omega)) (by omega) (by omega)) (by omega) (by omega)) (by omega) (by omega)) (by omega) (by omega)) (by omega) (by omega)) (by omega) (by omega)) (by omega) (by omega)) (by omega) (by omega)
  · exact absurd (nI_le (Nat.le_refl 3) (by omega)) h
/-- the model's network behind 'adds' and what follows it -/
theorem mB_ad {N M : nw} {K on s : Nat} {md : Bool} {σ τ : jm_G} (hok : nw_ok N) (h : mB N K md on σ) (hon : onOK N on) (ha : adP (nN N) s σ τ) (hM : nN M = nN N + 1) (hO : nO M = nO N) (hS : ∀ i, nS M i = if i = nN N then s else nS N i) (hK : ∀ i, i < nN N → isG M i = isG N i ∧ nK M i = nK N i) (hso : ∀ i k, i < nN N → sofI M i k = sofI N i k) (hBb : ∀ i, i < nN N → nB M i = nB N i)
    (hk : (if isG M (nN N) then nI (nK M (nN N)) else -(nI 1)) = -(nI 1)) (hs0 : ∀ k, k < 3 → sofI M (nN N) k = -(nI 1)) (hb0 : nB M (nN N) = 0) : mB M K false on τ ∧ τ.1 38 0 9 = nI 0 := by
  obtain ⟨⟨a1, a2, a3, a4, a5, a6⟩, b1, b2, b3⟩ := h
  obtain ⟨c1, c2, c3, c4, c5, c6, c7, c8⟩ := ha
  refine ⟨⟨⟨?_, ?_, ?_, ?_, ?_, ?_⟩, ?_, ?_, ?_⟩, ?_⟩
  · rw [c1, if_pos rfl, hM]
  · intro i hi
    rw [c3, upd_at, hS]
    by_cases e : i = nN N
    · rw [if_pos e, if_pos e]
    · rw [if_neg e, if_neg e]; exact a2 i (by omega)
  · intro i hi
    rw [c4, upd_at]
    by_cases e : i = nN N
    · rw [if_pos e, e, hk]
    · rw [if_neg e, (hK i (by omega)).1, (hK i (by omega)).2]; exact a3 i (by omega)
  · intro i hi k hk3
    rw [c5, upd_at, upd_at, upd_at]
    by_cases e : i = nN N
    · subst e
      rw [hs0 k hk3]
      rcases (show k = 0 ∨ k = 1 ∨ k = 2 by omega) with rfl | rfl | rfl
      · simp
      · simp
      · simp
    · rw [if_neg (by omega), if_neg (by omega), if_neg (by omega), hso i k (by omega)]
      exact a4 i (by omega) k hk3
  · intro i hi
    rw [c6, updL_at]
    by_cases e : i = nN N
    · rw [if_pos e, e, hb0]
    · rw [if_neg e, hBb i (by omega)]; exact a5 i (by omega)
  · rw [c2, hO]; exact a6
  · rw [c1]; exact b1
  · rw [c1]; rfl
  · intro i hi
    rw [c7, upd_at]
    by_cases e : i = nN N
    · rw [if_pos e, e, onOK_n hon (Nat.le_refl _)]; rfl
    · rw [if_neg e]; exact b3 i (by omega)
  · rw [c1]; rfl
theorem nB_n {N : nw} (h : nw_ok N) {i : Nat} (hi : nN N ≤ i) : nB N i = 0 := by
  rw [h.2.2.2.2.2.2 i, show isG N i = false by simp [isG]; omega]
  rfl
theorem sofI_eq {N M : nw} {i : Nat} (k : Nat) (h1 : isG M i = isG N i) (h2 : isR M i = isR N i) (h3 : nK M i = nK N i) (h4 : nR M i k = nR N i k) (h5 : nF M i = nF N i) : sofI M i k = sofI N i k := by
  unfold sofI srcI
  rw [h1, h2, h3, h4, h5]
abbrev ct_minput (C : jm_C) : Prop := ∀ (N : nw) (K on : Nat) (md : Bool) (σ : jm_G) (post : Option jm_V → jm_G → Prop), nw_ok N → mB N K md on σ → onOK N on → (nN N = 40 → post (some (jI (-(nI 1)))) (sF σ 0 (nI 0))) → (nN N < 40 → ∀ σ', mB (addI N) K false on σ' → σ'.1 38 0 9 = nI 0 → off 38 43 σ σ' → post (some (jI (nI (nN N)))) σ') → C kX10_input [jR 38 0] σ post
theorem T_minput (L : Nat) {C : jm_C} (hC : jm_mon C) (h1 : ct_adds C) : ct_minput (jm_up L C) := by
  intro N K on md σ post hok hB hon hp1 hp2
  refine jm_start rfl (Nat.le_of_ble_eq_true rfl) hC fun X hg hw => ?_
  have hn := hok.1
  have hN1 := hB.1.1
  refine hg [] 60 _ ?_
  refine br_c (fun h => ?_) (fun h => ?_)
  · have h : σ.1 38 0 1 = nI 40 := h
    rw [hN1, nI_eq (by omega) (by omega)] at h
    exact And.intro trivial (hp1 h)
  · have h : ¬ σ.1 38 0 1 = nI 40 := h
    rw [hN1, nI_eq (by omega) (by omega)] at h
    refine h1 (nN N) 0 _ _ (show σ.1 38 0 1 = nI (nN N) from hN1) (by omega) fun τ hτ => ?_
    refine And.intro trivial ?_
    have hB0 := mB_th hB (nI 0)
    obtain ⟨q1, q2⟩ := mB_ad (M := addI N) (s := 0) hok hB0 hon hτ rfl rfl (fun i => rfl) (fun i hi => ⟨isG_addI N i, rfl⟩) (fun i k hi => sofI_eq k (isG_addI N i) (isR_addI N i) rfl rfl rfl) (fun i hi => rfl) (by rw [isG_addI, isG_n]; rfl) (fun k hk => by unfold sofI; rw [isG_addI, isR_addI, isG_n, isR_n]; rfl) (nB_n hok (Nat.le_refl _))
    exact hp2 (by omega) τ q1 q2 (off_trans (off_wI (off_refl _ _ _) (by omega) (by omega)) hτ.2.2.2.2.2.2.2)
abbrev ct_mregister (C : jm_C) : Prop := ∀ (N : nw) (K on : Nat) (md : Bool) (σ : jm_G) (post : Option jm_V → jm_G → Prop), nw_ok N → mB N K md on σ → onOK N on → (nN N = 40 → post (some (jI (-(nI 1)))) (sF σ 0 (nI 0))) → (nN N < 40 → ∀ σ', mB (addR N) K false on σ' → σ'.1 38 0 9 = nI 0 → off 38 43 σ σ' → post (some (jI (nI (nN N)))) σ') → C kX10_register [jR 38 0] σ post
theorem T_mregister (L : Nat) {C : jm_C} (hC : jm_mon C) (h1 : ct_adds C) : ct_mregister (jm_up L C) := by
  intro N K on md σ post hok hB hon hp1 hp2
  refine jm_start rfl (Nat.le_of_ble_eq_true rfl) hC fun X hg hw => ?_
  have hn := hok.1
  have hN1 := hB.1.1
  refine hg [] 60 _ ?_
  refine br_c (fun h => ?_) (fun h => ?_)
  · have h : σ.1 38 0 1 = nI 40 := h
    rw [hN1, nI_eq (by omega) (by omega)] at h
    exact And.intro trivial (hp1 h)
  · have h : ¬ σ.1 38 0 1 = nI 40 := h
    rw [hN1, nI_eq (by omega) (by omega)] at h
    refine h1 (nN N) 2 _ _ (show σ.1 38 0 1 = nI (nN N) from hN1) (by omega) fun τ hτ => ?_
    refine And.intro (show vp_in (nI 3 * nI (nN N)) 120 by rw [n3]; exact vp_in_nI (by omega) (by omega)) ?_
    refine And.intro trivial ?_
    show post (some (jI (nI (nN N)))) (wI τ 41 0 (upd (τ.1 41 0) (nI 3 * nI (nN N)).toNatClampNeg (nI (nN N))))
    rw [n3, nI_clamp (by omega)]
    have hB0 := mB_th hB (nI 0)
    obtain ⟨⟨q1, q3, q4, q5⟩, q2⟩ := mB_ad (M := addI N) (s := 0) (τ := wI τ 39 0 (upd (τ.1 39 0) (nN N) (nI 0))) hok hB0 hon (by
      obtain ⟨c1, c2, c3, c4, c5, c6, c7, c8⟩ := hτ
      refine ⟨c1, c2, ?_, c4, c5, c6, c7, off_wI c8 (by omega) (by omega)⟩
      show upd (τ.1 39 0) (nN N) (nI 0) = _
      rw [c3, fa_upd_twice]; rfl) rfl rfl (fun i => rfl) (fun i hi => ⟨isG_addI N i, rfl⟩) (fun i k hi => sofI_eq k (isG_addI N i) (isR_addI N i) rfl rfl rfl) (fun i hi => rfl) (by rw [isG_addI, isG_n]; rfl) (fun k hk => by unfold sofI; rw [isG_addI, isR_addI, isG_n, isR_n]; rfl) (nB_n hok (Nat.le_refl _))
    obtain ⟨a1, a2, a3, a4, a5, a6⟩ := q1
    refine hp2 (by omega) _ ⟨⟨a1, ?_, ?_, ?_, a5, a6⟩, q3, q4, q5⟩ q2 (off_wI (off_trans (off_wI (off_refl _ _ _) (by omega) (by omega)) hτ.2.2.2.2.2.2.2) (by omega) (by omega))
    · intro i hi
      show τ.1 39 0 i = nI (if i = nN N then 2 else nS N i)
      rw [hτ.2.2.1, upd_at]
      by_cases e : i = nN N
      · rw [if_pos e, if_pos e]
      · rw [if_neg e, if_neg e]
        exact hB.1.2.1 i (by have hi : i < nN N + 1 := hi; omega)
    · intro i hi
      have := a3 i hi
      rw [isG_addI] at this
      rw [isG_addR]
      exact this
    · intro i hi k hk
      show upd (τ.1 41 0) (3 * nN N) (nI (nN N)) (3 * i + k) = _
      have := a4 i hi k hk
      have this : τ.1 41 0 (3 * i + k) = sofI (addI N) i k := this
      rw [upd_at]
      by_cases e : i = nN N
      · subst e
        by_cases ek : k = 0
        · subst ek
          rw [if_pos (by omega)]
          unfold sofI
          rw [isG_addR, isR_addR, isG_n]
          simp only [decide_true, Bool.or_true, Bool.true_and, Bool.false_eq_true, if_false]
          show _ = nI (if nN N = nN N then nN N else nF N (nN N))
          rw [if_pos rfl]
        · rw [if_neg (by omega), this]
          unfold sofI
          rw [isG_addR, isR_addR, isG_n, isG_addI, isR_addI, isG_n, isR_n]
          simp [ek]
      · rw [if_neg (by omega), this]
        have hRi : isR (addR N) i = isR N i := by rw [isR_addR]; simp [e]
        have hFi : nF (addR N) i = nF N i := if_neg e
        rw [sofI_eq (N := N) (M := addI N) k (isG_addI N i) (isR_addI N i) rfl rfl rfl, sofI_eq (N := N) (M := addR N) k (isG_addR N i) hRi rfl rfl hFi]
end
section
/-! THE MODEL: feed, output, inputs -/
abbrev ct_mfeed (C : jm_C) : Prop := ∀ (N : nw) (K on : Nat) (md : Bool) (x y : Int32) (σ : jm_G) (post : Option jm_V → jm_G → Prop), nw_ok N → mB N K md on σ →
  ((atN (nN N) x (isR N) && inN (nN N) y) = false → post (some (jI (nI 0))) (sF σ 0 (nI 0))) → (∀ r v, isR N r = true → v < nN N → x = nI r → y = nI v → ∀ σ', mB (setF N r v) K false on σ' → σ'.1 38 0 9 = nI 0 → off 38 43 σ σ' → post (some (jI (nI 1))) σ') → C kX10_feed [jR 38 0, jI x, jI y] σ post
theorem T_mfeed (L : Nat) {C : jm_C} (hC : jm_mon C) (h1 : ct_misReg C) (h2 : ct_misNode C) (h3 : ct_changes C) : ct_mfeed (jm_up L C) := by
  intro N K on md x y σ post hok hB hp1 hp2
  refine jm_start rfl (Nat.le_of_ble_eq_true rfl) hC fun X hg hw => ?_
  have hn := hok.1
  have hB0 := mB_th hB (nI 0)
  refine hg [] 60 _ ?_
  refine h1 N x (sF σ 0 (nI 0)) _ hok hB0.1 ?_
  refine br_c (fun h => ?_) (fun h => ?_)
  · refine And.intro (Or.inl rfl) (hp1 ?_)
    rw [bI_0.mp h]; rfl
  · refine h2 (nN N) y (sF σ 0 (nI 0)) _ hB0.1.1 ?_
    refine br_c (fun h4 => ?_) (fun h4 => ?_)
    · refine And.intro (Or.inl rfl) (hp1 ?_)
      rw [bI_0.mp h4, Bool.and_false]
    · obtain ⟨r, hr, rfl, hrr⟩ := atN_t (by omega) (bI_n0.mp h)
      obtain ⟨v, hv, rfl⟩ := inN_t (by omega) (bI_n0.mp h4)
      refine And.intro (show vp_in (nI 3 * nI r) 120 by rw [n3]; exact vp_in_nI (by omega) (by omega)) ?_
      refine h3 _ _ ?_
      refine And.intro (Or.inr rfl) ?_
      show post (some (jI (nI 1))) (sF (sF (wI (sF σ 0 (nI 0)) 41 0 (upd (σ.1 41 0) (nI 3 * nI r).toNatClampNeg (nI v))) 8 (nI 0)) 9 (nI 0))
      rw [n3, nI_clamp (by omega)]
      obtain ⟨⟨a1, a2, a3, a4, a5, a6⟩, b1, b2, b3⟩ := hB
      refine hp2 r v hrr hv rfl rfl _ ⟨⟨a1, a2, a3, ?_, a5, a6⟩, b1, rfl, b3⟩ rfl (off_wI (off_wI (off_wI (off_wI (off_refl _ _ _) (by omega) (by omega)) (by omega) (by omega)) (by omega) (by omega)) (by omega) (by omega))
      intro i hi k hk
      show upd (σ.1 41 0) (3 * r) (nI v) (3 * i + k) = _
      rw [upd_at]
      have hgr : isG N r = false := by
        have := hrr; simp [isR] at this; simp [isG, this]
      by_cases e : i = r
      · subst e
        by_cases ek : k = 0
        · subst ek
          rw [if_pos (by omega)]
          have e1 : isG (setF N i v) i = false := hgr
          have e2 : isR (setF N i v) i = true := hrr
          have e3 : nF (setF N i v) i = v := if_pos rfl
          unfold sofI
          rw [e1, e2, e3]
          rfl
        · rw [if_neg (by omega), a4 i hi k hk]
          have e1 : isG (setF N i v) i = false := hgr
          unfold sofI
          rw [e1, hgr]
          simp [ek]
      · rw [if_neg (by omega), a4 i hi k hk]
        exact (sofI_eq (N := N) (M := setF N r v) k rfl rfl rfl rfl (if_neg e)).symm
abbrev ct_moutput (C : jm_C) : Prop := ∀ (N : nw) (K on : Nat) (md : Bool) (x : Int32) (σ : jm_G) (post : Option jm_V → jm_G → Prop), nw_ok N → mB N K md on σ →
  ((atN (nN N) x (fun i => !(nO N).testBit i) && decide (cnt (nO N) 40 < 12)) = false → post (some (jI (-(nI 1)))) (sF σ 0 (nI 0))) → (∀ i, i < nN N → (nO N).testBit i = false → cnt (nO N) 40 < 12 → x = nI i → ∀ σ', mB (addO N i) K false on σ' → σ'.1 38 0 9 = nI 0 → off 38 43 σ σ' → post (some (jI (nI (cnt (nO N ||| 2 ^ i) 40)))) σ') → C kX10_output [jR 38 0, jI x] σ post
theorem c_mhas {C : jm_C} (h : ct_mhas C) {S n : Nat} {v : Int64} {x : Int32} {σ : jm_G} {post : Option jm_V → jm_G → Prop} (hv : v = lN S) (hx : x = nI n) (hS : S < 2 ^ 63) (hn : n < 64) (hp : post (some (jI (bI (S.testBit n)))) σ) : C kX10_has [jJ v, jI x] σ post := by subst hv; subst hx; exact h S n σ post hS hn hp
theorem c_mmany {C : jm_C} (h : ct_mmany C) {S : Nat} {v : Int64} {σ : jm_G} {post : Option jm_V → jm_G → Prop} (hv : v = lN S) (hS : S < 2 ^ 63) (hp : post (some (jI (nI (cnt S 40)))) σ) : C kX10_manyOf [jJ v] σ post := by subst hv; exact h S σ post hS hp
theorem T_moutput (L : Nat) {C : jm_C} (hC : jm_mon C) (h1 : ct_misNode C) (h2 : ct_mhas C) (h3 : ct_mmany C) (h4 : ct_changes C) : ct_moutput (jm_up L C) := by
  intro N K on md x σ post hok hB hp1 hp2
  refine jm_start rfl (Nat.le_of_ble_eq_true rfl) hC fun X hg hw => ?_
  have hn := hok.1
  have hB0 := mB_th hB (nI 0)
  have hO := nO_lt hok
  refine hg [] 60 _ ?_
  refine h1 (nN N) x (sF σ 0 (nI 0)) _ hB0.1.1 ?_
  refine br_c (fun h => ?_) (fun h => ?_)
  · refine And.intro trivial (hp1 ?_)
    simp only [atN, bI_0.mp h, Bool.false_and]
  · obtain ⟨i, hi, rfl⟩ := inN_t (by omega) (bI_n0.mp h)
    have hat : atN (nN N) (nI i) (fun i => !(nO N).testBit i) = !(nO N).testBit i := by rw [atN_nI (by omega) (by omega)]; simp [hi]
    rw [hat] at hp1
    refine c_mhas h2 (S := nO N) (n := i) hB.1.2.2.2.2.2 rfl (p40 hO) (by omega) ?_
    refine br_c (fun h5 => ?_) (fun h5 => ?_)
    · have h5 := bI_0.mp h5
      rw [h5] at hp1
      refine c_mmany h3 (S := nO N) hB.1.2.2.2.2.2 (p40 hO) ?_
      have hc12 := hok.2.2.2.2.2.1
      refine br_c (fun h6 => ?_) (fun h6 => ?_)
      · have h6 : nI (cnt (nO N) 40) = nI 12 := h6
        rw [nI_eq (by omega) (by omega)] at h6
        refine And.intro trivial (hp1 ?_)
        simp [h6]
      · have h6 : ¬ nI (cnt (nO N) 40) = nI 12 := h6
        rw [nI_eq (by omega) (by omega)] at h6
        refine h4 _ _ ?_
        have eo : σ.2 38 0 6 ||| (lN 1 <<< ((nI i).toInt64 &&& 63)) = lN (nO N ||| 2 ^ i) := by rw [hB.1.2.2.2.2.2, lN_shl1 (by omega), fb_orL]
        refine c_mmany h3 (S := nO N ||| 2 ^ i) (show vp_updL (σ.2 38 0) 6 (σ.2 38 0 6 ||| (lN 1 <<< ((nI i).toInt64 &&& 63))) 6 = _ by rw [pk_uLs, eo]) (p40 (or_lt hO (pw_lt (by omega)))) ?_
        refine And.intro trivial ?_
        show post (some (jI (nI (cnt (nO N ||| 2 ^ i) 40)))) (sF (sF (wJ (sF σ 0 (nI 0)) 38 0 (vp_updL (σ.2 38 0) 6 (σ.2 38 0 6 ||| (lN 1 <<< ((nI i).toInt64 &&& 63))))) 8 (nI 0)) 9 (nI 0))
        rw [eo]
        obtain ⟨⟨a1, a2, a3, a4, a5, a6⟩, b1, b2, b3⟩ := hB
        refine hp2 i hi h5 (by omega) rfl _ ⟨⟨a1, a2, a3, a4, a5, ?_⟩, b1, rfl, b3⟩ rfl (off_wI (off_wI (off_wJ (off_wI (off_refl _ _ _) (by omega) (by omega)) (by omega) (by omega)) (by omega) (by omega)) (by omega) (by omega))
        show vp_updL (σ.2 38 0) 6 (lN (nO N ||| 2 ^ i)) 6 = lN (nO N ||| 2 ^ i)
        rw [pk_uLs]
    · refine And.intro trivial (hp1 ?_)
      rw [bI_n0.mp h5]
      rfl
abbrev ct_minputs (C : jm_C) : Prop := ∀ (N : nw) (K on : Nat) (md : Bool) (x : Int32) (σ : jm_G) (post : Option jm_V → jm_G → Prop), mB N K md on σ → K < 7 →
  ((decide (¬ x < nI 3) && decide (¬ nI 6 < x)) = false → post (some (jI (-(nI 1)))) (sF σ 0 (nI 0))) → (∀ k, 3 ≤ k → k ≤ 6 → x = nI k → k = K → post (some (jI (nI K))) (sF (sF σ 0 (nI 0)) 7 (nI K))) → (∀ k, 3 ≤ k → k ≤ 6 → x = nI k → k ≠ K → ∀ σ', mB N k false on σ' → σ'.1 38 0 9 = nI 0 → off 38 43 σ σ' → post (some (jI (nI K))) σ') → C kX10_inputs [jR 38 0, jI x] σ post
theorem T_minputs (L : Nat) {C : jm_C} (hC : jm_mon C) (h1 : ct_within C) (h2 : ct_changes C) : ct_minputs (jm_up L C) := by
  intro N K on md x σ post hB hK hp1 hp2 hp3
  refine jm_start rfl (Nat.le_of_ble_eq_true rfl) hC fun X hg hw => ?_
  have hB0 := mB_th hB (nI 0)
  refine hg [] 60 _ ?_
  refine h1 x (nI 3) (nI 6) (sF σ 0 (nI 0)) _ ?_
  refine br_c (fun h => ?_) (fun h => ?_)
  · exact And.intro trivial (hp1 (bI_0.mp h))
  · obtain ⟨k, k3, k6, rfl⟩ := wi_nI (by omega) (by omega) (bI_n0.mp h)
    refine br_c (fun h3 => ?_) (fun h3 => ?_)
    · have h3 : σ.1 38 0 7 = nI k := h3
      rw [hB.2.1, nI_eq (by omega) (by omega)] at h3
      refine And.intro trivial ?_
      show post (some (jI (σ.1 38 0 7))) (sF (sF σ 0 (nI 0)) 7 (nI k))
      subst h3
      rw [hB.2.1]
      exact hp2 K k3 k6 rfl rfl
    · have h3 : ¬ σ.1 38 0 7 = nI k := h3
      rw [hB.2.1, nI_eq (by omega) (by omega)] at h3
      refine h2 _ _ ?_
      refine And.intro trivial ?_
      show post (some (jI (σ.1 38 0 7))) (sF (sF (sF (sF σ 0 (nI 0)) 7 (nI k)) 8 (nI 0)) 9 (nI 0))
      rw [hB.2.1]
      obtain ⟨⟨a1, a2, a3, a4, a5, a6⟩, b1, b2, b3⟩ := hB
      exact hp3 k k3 k6 rfl (fun e => h3 e.symm) _ ⟨⟨a1, a2, a3, a4, a5, a6⟩, rfl, rfl, b3⟩ rfl (off_wI (off_wI (off_wI (off_wI (off_refl _ _ _) (by omega) (by omega)) (by omega) (by omega)) (by omega) (by omega)) (by omega) (by omega))
end
section
/-! THE MODEL: gate -/
/-- whether a gate can be told so -/
def gOK (n : Nat) (xk xa xb xc : Int32) : Bool := inN 7 xk && decide (n < 40) && inN n xa && (decide (ar xk.toNatClampNeg ≤ 1) || inN n xb) && (decide (ar xk.toNatClampNeg ≤ 2) || inN n xc)
theorem wi_7 (x : Int32) : (decide (¬ x < nI 0) && decide (¬ nI 6 < x)) = inN 7 x := by
  unfold inN
  have h : (nI 6 < x) ↔ (nI 7 ≤ x) := by
    rw [Int32.lt_iff_toInt_lt, Int32.le_iff_toInt_le, nI_toInt (by omega), nI_toInt (by omega)]
    omega
  simp only [h, show nI 0 = (0 : Int32) from rfl]
/-- while its sources are told -/
def gtP (N : nw) (k a b c j : Nat) (σ τ : jm_G) : Prop := (∀ i, τ.1 38 0 i = if i = 1 then nI (nN N + 1) else if i = 8 then nI 0 else if i = 9 then nI 0 else σ.1 38 0 i) ∧ τ.2 38 0 = σ.2 38 0 ∧ τ.1 39 0 = upd (σ.1 39 0) (nN N) (nI 1) ∧ τ.1 40 0 = upd (σ.1 40 0) (nN N) (nI k) ∧
  (∀ i, i < nN N → ∀ m, m < 3 → τ.1 41 0 (3 * i + m) = σ.1 41 0 (3 * i + m)) ∧ (∀ m, m < 3 → τ.1 41 0 (3 * nN N + m) = if m < j then nI (nR (addG N k a b c) (nN N) m) else -(nI 1)) ∧ (∀ i, i < nN N → τ.2 42 0 i = σ.2 42 0 i) ∧ τ.2 42 0 (nN N) = lN (bMk (addG N k a b c) (nN N) j) ∧ τ.1 43 0 = upd (σ.1 43 0) (nN N) (nI 0) ∧ off 38 43 σ τ
abbrev ct_mgate (C : jm_C) : Prop := ∀ (N : nw) (K on : Nat) (md : Bool) (xk xa xb xc : Int32) (σ : jm_G) (post : Option jm_V → jm_G → Prop), nw_ok N → mB N K md on σ → onOK N on →
  (gOK (nN N) xk xa xb xc = false → post (some (jI (-(nI 1)))) (sF σ 0 (nI 0))) → (∀ k a b c, nN N < 40 → k < 7 → xk = nI k → a < nN N → xa = nI a → (1 < ar k → b < nN N ∧ xb = nI b) → (2 < ar k → c < nN N ∧ xc = nI c) → ∀ σ', mB (addG N k a b c) K false on σ' → σ'.1 38 0 9 = nI 0 → off 38 43 σ σ' → post (some (jI (nI (nN N)))) σ') → C kX10_gate [jR 38 0, jI xk, jI xa, jI xb, jI xc] σ post
set_option maxHeartbeats 4000000 in
theorem T_mgate (L : Nat) {C : jm_C} (hC : jm_mon C) (h1 : ct_within C) (h2 : ct_misNode C) (h3 : ct_msrcOf C) (h4 : ct_adds C) : ct_mgate (jm_up L C) := by
  intro N K on md xk xa xb xc σ post hok hB hon hp1 hp2
  refine jm_start rfl (Nat.le_of_ble_eq_true rfl) hC fun X hg hw => ?_
  have hn := hok.1
  have hB0 := mB_th hB (nI 0)
  -- behind all tests
  have main : ∀ k a b c : Nat, nN N < 40 → k < 7 → xk = nI k → a < nN N → xa = nI a → (1 < ar k → b < nN N ∧ xb = nI b) → (2 < ar k → c < nN N ∧ xc = nI c) → X (sF σ 0 (nI 0), 90, [some (jR 38 0), some (jI xk), some (jI xa), some (jI xb), some (jI xc), some (jI (nI 1)), some (jI (nI (ar k))), none, none, none], []) := by
    intro k a b c h40 hk ek ha ea hb hc
    have har := ar_pos k
    refine hg [108] 40 _ ?_
    refine h4 (nN N) 1 _ _ hB0.1.1 h40 fun τ hτ => ?_
    have hτ : adP (nN N) 1 (sF σ 0 (nI 0)) τ := hτ
    obtain ⟨c1, c2, c3, c4, c5, c6, c7, c8⟩ := hτ
    refine And.intro (vp_in_nI h40 (by omega)) ?_
    show X (wI τ 40 0 (upd (τ.1 40 0) (nI (nN N)).toNatClampNeg xk), 108, [some (jR 38 0), some (jI xk), some (jI xa), some (jI xb), some (jI xc), some (jI (nI 1)), some (jI (nI (ar k))), some (jI (nI (nN N))), some (jI (nI 0)), none], [])
    rw [nI_clamp (by omega), ek]
    have start : gtP N k a b c 0 (sF σ 0 (nI 0)) (wI τ 40 0 (upd (τ.1 40 0) (nN N) (nI k))) := by
      refine ⟨c1, c2, c3, ?_, ?_, ?_, ?_, ?_, c7, off_wI c8 (by omega) (by omega)⟩
      · show upd (τ.1 40 0) (nN N) (nI k) = _
        rw [c4, fa_upd_twice]
      · intro i hi m hm
        show τ.1 41 0 (3 * i + m) = _
        rw [c5, upd_at, upd_at, upd_at, if_neg (by omega), if_neg (by omega), if_neg (by omega)]
      · intro m hm
        show τ.1 41 0 (3 * nN N + m) = _
        rw [c5, upd_at, upd_at, upd_at, if_neg (show ¬ m < 0 by omega)]
        rcases (show m = 0 ∨ m = 1 ∨ m = 2 by omega) with rfl | rfl | rfl <;> simp
      · intro i hi
        show τ.2 42 0 i = _
        rw [c6, updL_at, if_neg (by omega)]
      · show τ.2 42 0 (nN N) = lN 0
        rw [c6, pk_uLs]
    generalize wI τ 40 0 (upd (τ.1 40 0) (nN N) (nI k)) = υ at start ⊢
    have gen : ∀ (m j : Nat) (υ : jm_G), j + m = ar k → gtP N k a b c j (sF σ 0 (nI 0)) υ → X (υ, 108, [some (jR 38 0), some (jI (nI k)), some (jI xa), some (jI xb), some (jI xc), some (jI (nI 1)), some (jI (nI (ar k))), some (jI (nI (nN N))), some (jI (nI j)), none], []) := by
      intro m
      induction m with
      | zero =>
        intro j υ hj hυ
        have hj : j = ar k := by omega
        subst hj
        refine hg [108] 60 _ ?_
        refine br_c (fun h => ?_) (fun h => ?_)
        · refine And.intro trivial ?_
          obtain ⟨g1, g2, g3, g4, g5, g6, g7, g8, g9, g10⟩ := hυ
          obtain ⟨⟨a1, a2, a3, a4, a5, a6⟩, b1, b2, b3⟩ := hB
          refine hp2 k a b c h40 hk ek ha ea hb hc υ ⟨⟨?_, ?_, ?_, ?_, ?_, ?_⟩, ?_, ?_, ?_⟩ ?_ (off_trans (off_wI (off_refl _ _ _) (by omega) (by omega)) g10)
          · rw [g1, if_pos rfl]; rfl
          · intro i hi
            have hi : i < nN N + 1 := hi
            rw [g3, upd_at]
            show _ = nI (if i = nN N then 1 else nS N i)
            by_cases e : i = nN N
            · rw [if_pos e, if_pos e]
            · rw [if_neg e, if_neg e]; exact a2 i (by omega)
          · intro i hi
            have hi : i < nN N + 1 := hi
            rw [g4, upd_at, isG_addG]
            show _ = if (isG N i || decide (i = nN N)) = true then nI (if i = nN N then k else nK N i) else _
            by_cases e : i = nN N
            · rw [if_pos e, if_pos e]; simp [e]
            · rw [if_neg e, if_neg e]; simp only [e, decide_false, Bool.or_false]; exact a3 i (by omega)
          · intro i hi z hz
            have hi : i < nN N + 1 := hi
            by_cases e : i = nN N
            · subst e
              rw [g6 z hz]
              unfold sofI srcI
              have hK9 : nK (addG N k a b c) (nN N) = k := if_pos rfl
              rw [isG_addG, hK9]
              simp only [decide_true, Bool.or_true, if_true]
            · rw [g5 i (by omega) z hz]
              have := a4 i (by omega) z hz
              have hR : nR (addG N k a b c) i z = nR N i z := if_neg e
              have hK9 : nK (addG N k a b c) i = nK N i := if_neg e
              rw [sofI_eq (N := N) (M := addG N k a b c) z (by rw [isG_addG]; simp [e]) (isR_addG N k a b c i) hK9 hR rfl]
              exact this
          · intro i hi
            have hi : i < nN N + 1 := hi
            by_cases e : i = nN N
            · subst e
              rw [g8]
              have h9 := (ok_addG hok h40 hk ha (fun q => (hb q).1) (fun q => (hc q).1)).2.2.2.2.2.2 (nN N)
              have hK9 : nK (addG N k a b c) (nN N) = k := if_pos rfl
              rw [isG_addG, hK9] at h9
              simp only [decide_true, Bool.or_true, if_true] at h9
              rw [h9]
            · rw [g7 i (by omega)]
              have hBi : nB (addG N k a b c) i = nB N i := if_neg e
              rw [hBi]
              exact a5 i (by omega)
          · rw [g2]; exact a6
          · rw [g1]; exact b1
          · rw [g1]; rfl
          · intro i hi
            have hi : i < nN N + 1 := hi
            rw [g9, upd_at]
            by_cases e : i = nN N
            · rw [if_pos e, e, onOK_n hon (Nat.le_refl _)]; rfl
            · rw [if_neg e]; exact b3 i (by omega)
          · rw [g1]; rfl
        · exact absurd (nI_le (Nat.le_refl _) (by omega)) h
      | succ m ih =>
        intro j υ hj hυ
        -- one source
        have one : ∀ s : Nat, s < nN N → s = nR (addG N k a b c) (nN N) j → X (υ, 138, [some (jR 38 0), some (jI (nI k)), some (jI xa), some (jI xb), some (jI xc), some (jI (nI 1)), some (jI (nI (ar k))), some (jI (nI (nN N))), some (jI (nI j)), some (jI (nI s))], []) := by
          intro s hs es
          refine hg [108] 60 _ ?_
          refine And.intro (show vp_in (nI 3 * nI (nN N) + nI j) 120 by rw [n3I]; exact vp_in_nI (by omega) (by omega)) ?_
          refine And.intro (vp_in_nI h40 (by omega)) ?_
          refine And.intro (vp_in_nI (by omega) (by omega)) ?_
          refine And.intro (vp_in_nI h40 (by omega)) ?_
          obtain ⟨g1, g2, g3, g4, g5, g6, g7, g8, g9, g10⟩ := hυ
          refine hw _ _ _ [some (jR 38 0), some (jI (nI k)), some (jI xa), some (jI xb), some (jI xc), some (jI (nI 1)), some (jI (nI (ar k))), some (jI (nI (nN N))), some (jI (nI j + nI 1)), none] _ (by repeat' first | exact trivial | exact rfl | apply And.intro) ?_
          have h9 := ih (j + 1) (wJ (wI υ 41 0 (upd (υ.1 41 0) (3 * nN N + j) (nI s))) 42 0 (vp_updL (υ.2 42 0) (nN N) (υ.2 42 0 (nN N) ||| (υ.2 42 0 s ||| lN (2 ^ s))))) (by omega) (by
            refine ⟨g1, g2, g3, g4, ?_, ?_, ?_, ?_, g9, off_wJ (off_wI g10 (by omega) (by omega)) (by omega) (by omega)⟩
            · intro i hi z hz
              show upd (υ.1 41 0) (3 * nN N + j) (nI s) (3 * i + z) = _
              rw [upd_at, if_neg (by omega)]
              exact g5 i hi z hz
            · intro z hz
              show upd (υ.1 41 0) (3 * nN N + j) (nI s) (3 * nN N + z) = _
              rw [upd_at]
              by_cases e : z = j
              · rw [if_pos (by omega), if_pos (by omega), e, es]
              · rw [if_neg (by omega), g6 z hz]
                by_cases q : z < j
                · rw [if_pos q, if_pos (by omega)]
                · rw [if_neg q, if_neg (by omega)]
            · intro i hi
              show vp_updL (υ.2 42 0) (nN N) _ i = _
              rw [updL_at, if_neg (by omega)]
              exact g7 i hi
            · show vp_updL (υ.2 42 0) (nN N) (υ.2 42 0 (nN N) ||| (υ.2 42 0 s ||| lN (2 ^ s))) (nN N) = _
              have e5 : (sF σ 0 (nI 0)).2 42 0 s = lN (nB N s) := hB.1.2.2.2.2.1 s hs
              have hBs : nB (addG N k a b c) s = nB N s := if_neg (by omega)
              rw [pk_uLs, g8, g7 s hs, e5, fb_orL, fb_orL, bMk, ← es, hBs, Nat.or_comm (nB N s)])
          refine jm_eqv (X := X) h9 ?_ rfl ?_ rfl
          · show wJ (wI υ 41 0 (upd (υ.1 41 0) (nI 3 * nI (nN N) + nI j).toNatClampNeg (nI s))) 42 0 (vp_updL (υ.2 42 0) (nI (nN N)).toNatClampNeg (υ.2 42 0 (nI (nN N)).toNatClampNeg ||| (υ.2 42 0 (nI s).toNatClampNeg ||| (lN 1 <<< ((nI s).toInt64 &&& 63))))) = _
            rw [n3I, nI_clamp (by omega), nI_clamp (by omega), nI_clamp (by omega), lN_shl1 (by omega)]
          · rw [nI_add]
        refine hg [138] 60 _ ?_
        refine br_c (fun h => ?_) (fun h => ?_)
        · have h : nI (ar k) ≤ nI j := h
          rw [nI_leI (by omega) (by omega)] at h
          omega
        · refine br_c (fun h5 => ?_) (fun h5 => ?_)
          · have h5 : nI j = nI 0 := h5
            rw [nI_eq (by omega) (by omega)] at h5
            subst h5
            have h9 := one a ha (show a = if nN N = nN N then _ else _ by rw [if_pos rfl]; rfl)
            rw [← ea] at h9
            exact h9
          · have h5 : ¬ nI j = nI 0 := h5
            rw [nI_eq (by omega) (by omega)] at h5
            refine br_c (fun h6 => ?_) (fun h6 => ?_)
            · have h6 : nI j = nI 1 := h6
              rw [nI_eq (by omega) (by omega)] at h6
              subst h6
              obtain ⟨hb1, hb2⟩ := hb (by omega)
              have h9 := one b hb1 (show b = if nN N = nN N then _ else _ by rw [if_pos rfl]; rfl)
              rw [← hb2] at h9
              exact h9
            · have h6 : ¬ nI j = nI 1 := h6
              rw [nI_eq (by omega) (by omega)] at h6
              have e2 : j = 2 := by omega
              subst e2
              obtain ⟨hc1, hc2⟩ := hc (by omega)
              have h9 := one c hc1 (show c = if nN N = nN N then _ else _ by rw [if_pos rfl]; rfl)
              rw [← hc2] at h9
              exact h9
    exact gen (ar k) 0 υ (by omega) start
  -- the tests
  refine hg [37, 90] 60 _ ?_
  refine h1 xk (nI 0) (nI 6) (sF σ 0 (nI 0)) _ ?_
  rw [wi_7]
  have bad : (inN 7 xk && decide (nN N < 40) && inN (nN N) xa) = false → X (sF σ 0 (nI 0), 37, [some (jR 38 0), some (jI xk), some (jI xa), some (jI xb), some (jI xc), none, none, none, none, none], [jI (nI 0)]) := by
    intro hb
    refine hg [90] 60 _ ?_
    refine br_c (fun h => ?_) (fun h => ?_)
    · refine br_c (fun h5 => ?_) (fun h5 => ?_)
      · exact And.intro trivial (hp1 (by unfold gOK; rw [hb]; rfl))
      · exact absurd rfl h5
    · exact absurd rfl h
  refine br_c (fun h => ?_) (fun h => ?_)
  · exact bad (by rw [bI_0.mp h]; rfl)
  · obtain ⟨k, hk, rfl⟩ := inN_t (by omega) (bI_n0.mp h)
    have hk7 := bI_n0.mp h
    have hkc : (nI k).toNatClampNeg = k := nI_clamp (by omega)
    refine br_c (fun h5 => ?_) (fun h5 => ?_)
    · have h5 : nI 40 ≤ σ.1 38 0 1 := h5
      rw [hB.1.1, nI_leI (by omega) (by omega)] at h5
      exact bad (by simp; omega)
    · have h5 : ¬ nI 40 ≤ σ.1 38 0 1 := h5
      rw [hB.1.1, nI_leI (by omega) (by omega)] at h5
      have h40 : nN N < 40 := by omega
      refine h2 (nN N) xa (sF σ 0 (nI 0)) _ hB0.1.1 ?_
      refine br_c (fun h6 => ?_) (fun h6 => ?_)
      · exact bad (by rw [bI_0.mp h6]; simp)
      · have hxa := bI_n0.mp h6
        obtain ⟨a, ha, ea⟩ := inN_t (by omega) hxa
        have fail : ∀ v : Bool, (decide (ar k ≤ 1) || inN (nN N) xb) = v → (decide (ar k ≤ 2) || inN (nN N) xc) = !v ∨ v = false → gOK (nN N) (nI k) xa xb xc = false := by
          intro v h7 h8
          unfold gOK
          rw [hkc, h7]
          rcases h8 with h8 | h8
          · rw [h8]; cases v <;> simp
          · rw [h8]; simp
        refine hg [90] 60 _ ?_
        refine br_c (fun h7 => ?_) (fun h7 => ?_)
        · exact absurd h7 (by decide)
        · refine h3 k (sF σ 0 (nI 0)) _ hk ?_
          refine br_c (fun h8 => ?_) (fun h8 => ?_)
          · exact absurd h8 (by decide)
          · refine br_c (fun h9 => ?_) (fun h9 => ?_)
            · have h9 : nI (ar k) ≤ nI 1 := h9
              have har := ar_pos k
              rw [nI_leI (by omega) (by omega)] at h9
              refine br_c (fun h10 => ?_) (fun h10 => ?_)
              · exact main k a 0 0 h40 hk rfl ha ea (fun q => by omega) (fun q => by omega)
              · have h10 : ¬ nI (ar k) ≤ nI 2 := h10
                rw [nI_leI (by omega) (by omega)] at h10
                omega
            · have h9 : ¬ nI (ar k) ≤ nI 1 := h9
              have har := ar_pos k
              rw [nI_leI (by omega) (by omega)] at h9
              refine h2 (nN N) xb (sF σ 0 (nI 0)) _ hB0.1.1 ?_
              refine br_c (fun h11 => ?_) (fun h11 => ?_)
              · refine And.intro trivial (hp1 (fail false ?_ (Or.inr rfl)))
                rw [bI_0.mp h11]; simp; omega
              · have hxb := bI_n0.mp h11
                obtain ⟨b, hb, eb⟩ := inN_t (by omega) hxb
                refine br_c (fun h10 => ?_) (fun h10 => ?_)
                · have h10 : nI (ar k) ≤ nI 2 := h10
                  rw [nI_leI (by omega) (by omega)] at h10
                  exact main k a b 0 h40 hk rfl ha ea (fun q => ⟨hb, eb⟩) (fun q => by omega)
                · have h10 : ¬ nI (ar k) ≤ nI 2 := h10
                  rw [nI_leI (by omega) (by omega)] at h10
                  refine h2 (nN N) xc (sF σ 0 (nI 0)) _ hB0.1.1 ?_
                  refine br_c (fun h12 => ?_) (fun h12 => ?_)
                  · refine And.intro trivial (hp1 (fail true ?_ (Or.inl ?_)))
                    · rw [hxb]; simp
                    · rw [bI_0.mp h12]; simp; omega
                  · obtain ⟨c, hc, ec⟩ := inN_t (by omega) (bI_n0.mp h12)
                    exact main k a b c h40 hk rfl ha ea (fun q => ⟨hb, eb⟩) (fun q => ⟨hc, ec⟩)
end
section
/-! REACH AND CUTS -/
theorem rdn_mono (N : nw) (S : Nat) : ∀ (k R i : Nat), R.testBit i = true → (rdn N S k R).testBit i = true
  | 0, _, _, h => h
  | k + 1, R, i, h => by
    rw [rdn]
    apply rdn_mono N S k
    split
    · rw [Nat.testBit_or, h]; rfl
    · exact h
theorem rdn_hi {N : nw} (hok : nw_ok N) (S : Nat) : ∀ (k R i : Nat), k ≤ i → (rdn N S k R).testBit i = R.testBit i
  | 0, _, _, _ => rfl
  | k + 1, R, i, h => by
    rw [rdn, rdn_hi hok S k _ i (by omega)]
    split
    · rw [Nat.testBit_or, sD_bit]
      cases hb : (sM N k).testBit i with
      | false => simp
      | true => have := sM_lt hok hb; omega
    · rfl
theorem rdn_closed {N : nw} (hok : nw_ok N) (S : Nat) : ∀ (k R i j : Nat), i < k → (rdn N S k R).testBit i = true → (sM N i).testBit j = true → S.testBit j = false → (rdn N S k R).testBit j = true
  | 0, _, _, _, h, _, _, _ => absurd h (by omega)
  | k + 1, R, i, j, h, hi, hs, hc => by
    rw [rdn] at hi ⊢
    by_cases e : i = k
    · subst e
      rw [rdn_hi hok S i _ i (Nat.le_refl _)] at hi
      have hR : R.testBit i = true := by
        split at hi
        · assumption
        · exact hi
      rw [if_pos hR]
      apply rdn_mono
      rw [Nat.testBit_or, sD_bit, hs, hc]
      simp
    · exact rdn_closed hok S k _ i j (by omega) hi hs hc
theorem rdn_min {N : nw} (S : Nat) (P : Nat → Prop) (hP : ∀ i j, P i → (sM N i).testBit j = true → S.testBit j = false → P j) : ∀ (k R : Nat), (∀ i, R.testBit i = true → P i) → ∀ i, (rdn N S k R).testBit i = true → P i
  | 0, _, h => h
  | k + 1, R, h => by
    rw [rdn]
    apply rdn_min S P hP k
    intro i hi
    split at hi
    · rename_i hk
      rw [Nat.testBit_or, Bool.or_eq_true] at hi
      rcases hi with hi | hi
      · exact h i hi
      · rw [sD_bit] at hi
        simp at hi
        exact hP k i (h k hk) hi.1 hi.2
    · exact h i hi
theorem rch_self (N : nw) (g S : Nat) : (rch N g S).testBit g = true := rdn_mono N S _ _ _ (by rw [Nat.testBit_two_pow]; simp)
theorem rch_le {N : nw} (hok : nw_ok N) (g S : Nat) : ∀ i, (rch N g S).testBit i = true → i ≤ g := by
  refine rdn_min S (fun i => i ≤ g) (fun i j hi hs _ => by have := sM_lt hok hs; omega) _ _ ?_
  intro i hi
  rw [Nat.testBit_two_pow] at hi
  simp at hi
  omega
theorem rch_closed {N : nw} (hok : nw_ok N) {g S i j : Nat} (hi : (rch N g S).testBit i = true) (hs : (sM N i).testBit j = true) (hc : S.testBit j = false) : (rch N g S).testBit j = true :=
  rdn_closed hok S (g + 1) _ i j (by have := rch_le hok g S i hi; omega) hi hs hc
theorem rch_min {N : nw} {g S : Nat} (P : Nat → Prop) (hg : P g) (hP : ∀ i j, P i → (sM N i).testBit j = true → S.testBit j = false → P j) : ∀ i, (rch N g S).testBit i = true → P i := by
  refine rdn_min S P hP _ _ ?_
  intro i hi
  rw [Nat.testBit_two_pow] at hi
  simp at hi
  subst hi
  exact hg
/-- what is reached, but for the gate, is reached by a source's step -/
theorem rch_par {N : nw} (hok : nw_ok N) {g S i : Nat} (h : (rch N g S).testBit i = true) : i = g ∨ (S.testBit i = false ∧ ∃ p, (rch N g S).testBit p = true ∧ (sM N p).testBit i = true) := by
  have h2 := rch_min (N := N) (g := g) (S := S) (fun i => (rch N g S).testBit i = true ∧ (i = g ∨ (S.testBit i = false ∧ ∃ p, (rch N g S).testBit p = true ∧ (sM N p).testBit i = true))) ⟨rch_self N g S, Or.inl rfl⟩ (fun i j hi hs hc => ⟨rch_closed hok hi.1 hs hc, Or.inr ⟨hc, i, hi.1, hs⟩⟩) i h
  exact h2.2
theorem src_of {N : nw} {i j : Nat} (h : (sM N i).testBit j = true) : isG N i = true ∧ ∃ k, k < ar (nK N i) ∧ nR N i k = j := by
  rw [sM_bit] at h
  simp at h
  exact h
theorem nB_src {N : nw} (hok : nw_ok N) {i j : Nat} (h : (sM N i).testBit j = true) : (nB N i).testBit j = true := by
  obtain ⟨hg, k, hk, e⟩ := src_of h
  rw [nB_bit hok, hg]
  simp
  exact ⟨k, hk, Or.inl e⟩
theorem nB_via {N : nw} (hok : nw_ok N) {i s j : Nat} (h : (sM N i).testBit s = true) (h2 : (nB N s).testBit j = true) : (nB N i).testBit j = true := by
  obtain ⟨hg, k, hk, e⟩ := src_of h
  rw [nB_bit hok, hg]
  simp
  exact ⟨k, hk, Or.inr (by rw [e]; exact h2)⟩
theorem nB_inv {N : nw} (hok : nw_ok N) {i j : Nat} (h : (nB N i).testBit j = true) : isG N i = true ∧ ∃ s, (sM N i).testBit s = true ∧ (s = j ∨ (nB N s).testBit j = true) := by
  rw [nB_bit hok] at h
  simp at h
  obtain ⟨hg, k, hk, h⟩ := h
  exact ⟨hg, nR N i k, by rw [sM_bit, hg]; simp; exact ⟨k, hk, rfl⟩, h⟩
theorem nB_trans {N : nw} (hok : nw_ok N) : ∀ (i j l : Nat), (nB N i).testBit j = true → (sM N j).testBit l = true → (nB N i).testBit l = true := by
  intro i
  induction i using Nat.strongRecOn with
  | ind i ih =>
    intro j l h1 h2
    obtain ⟨hg, s, hs, h⟩ := nB_inv hok h1
    rcases h with rfl | h
    · exact nB_via hok hs (nB_src hok h2)
    · exact nB_via hok hs (ih s (sM_lt hok hs) j l h h2)
theorem nB_min {N : nw} (hok : nw_ok N) (P : Nat → Prop) : ∀ (i : Nat), (∀ j, (sM N i).testBit j = true → P j) → (∀ j l, P j → (sM N j).testBit l = true → P l) → ∀ j, (nB N i).testBit j = true → P j := by
  intro i
  induction i using Nat.strongRecOn with
  | ind i ih =>
    intro h1 h2 j hj
    obtain ⟨hg, s, hs, h⟩ := nB_inv hok hj
    rcases h with rfl | h
    · exact h1 _ hs
    · exact ih s (sM_lt hok hs) (fun l hl => h2 s l (h1 s hs) hl) h2 j h
theorem rch_nB {N : nw} (hok : nw_ok N) {g S i : Nat} (h : (rch N g S).testBit i = true) : i = g ∨ (nB N g).testBit i = true := by
  refine rch_min (N := N) (g := g) (S := S) (fun i => i = g ∨ (nB N g).testBit i = true) (Or.inl rfl) (fun i j hi hs _ => ?_) i h
  rcases hi with rfl | hi
  · exact Or.inr (nB_src hok hs)
  · exact Or.inr (nB_trans hok g i j hi hs)
/-- a set that cuts a gate off -/
def Sep (N : nw) (g S : Nat) : Prop := (∀ j, S.testBit j = true → (nB N g).testBit j = true) ∧ ∀ i, (rch N g S).testBit i = true → isG N i = true
theorem sD_0 {a b : Nat} : sD a b = 0 ↔ ∀ i, a.testBit i = true → b.testBit i = true := by
  constructor
  · intro h i hi
    have h2 := sD_bit a b i
    rw [h, hi] at h2
    simpa using h2
  · intro h
    apply set_eq
    intro i
    rw [sD_bit]
    cases ha : a.testBit i with
    | false => simp
    | true => simp [h i ha]
theorem seps_iff (N : nw) (g S : Nat) : seps N g S = true ↔ Sep N g S := by
  unfold seps Sep
  rw [Bool.and_eq_true, beq_iff_eq, beq_iff_eq, sD_0, sD_0]
  simp only [gM_bit]
theorem nB_lt_n {N : nw} (hok : nw_ok N) {g j : Nat} (h : (nB N g).testBit j = true) : j < nN N := by
  have h1 := nB_lt hok g j h
  have h2 := isG_lt (nB_inv hok h).1
  omega
theorem Sep_lt {N : nw} (hok : nw_ok N) {g S : Nat} (h : Sep N g S) : S < 2 ^ 40 := set_lt fun i hi => by
  cases hb : S.testBit i with
  | false => rfl
  | true => have := nB_lt_n hok (h.1 i hb); have := hok.1; omega
/-! sums -/
theorem sm_0 (n : Nat) : fb_sm (fun _ => 0) n = 0 := by induction n with
  | zero => rfl
  | succ n ih => rw [fb_sm_succ, ih]
theorem sm_swap (f : Nat → Nat → Nat) (m : Nat) : ∀ n, fb_sm (fun v => fb_sm (fun u => f u v) m) n = fb_sm (fun u => fb_sm (fun v => f u v) n) m
  | 0 => by
    show 0 = fb_sm (fun u => 0) m
    rw [sm_0]
  | n + 1 => by
    rw [fb_sm_succ, sm_swap f m n, ← fb_sm_add]
    rfl
theorem sm_if (p : Nat → Bool) (f : Nat → Nat) (n : Nat) : fb_sm f n = fb_sm (fun k => if p k then f k else 0) n + fb_sm (fun k => if p k then 0 else f k) n := by
  rw [← fb_sm_add]
  apply fb_sm_cong
  intro k _
  cases p k <;> simp
theorem cnt_sm (S n : Nat) : cnt S n = fb_sm (fun k => if S.testBit k then 1 else 0) n := by
  induction n with
  | zero => rfl
  | succ n ih => rw [cnt_succ, fb_sm_succ, ih]; cases S.testBit n <;> rfl
theorem cnt_sub {S T n : Nat} (h : ∀ i, i < n → S.testBit i = true → T.testBit i = true) : cnt S n ≤ cnt T n := fb_ct_sub h
theorem cnt_eq_sub {S T n : Nat} (hS : S < 2 ^ n) (hT : T < 2 ^ n) (h : ∀ i, S.testBit i = true → T.testBit i = true) (hc : cnt T n ≤ cnt S n) : S = T := by
  apply set_eq
  intro i
  cases hs : S.testBit i with
  | true => rw [h i hs]
  | false =>
    cases ht : T.testBit i with
    | false => rfl
    | true =>
      exfalso
      have hi := bit_lt hT ht
      have h1 : cnt S n + 1 ≤ cnt T n := by
        have h2 : ∀ m, i < m → m ≤ n → cnt S m + 1 ≤ cnt T m := by
          intro m
          induction m with
          | zero => intro q; omega
          | succ m ih =>
            intro q1 q2
            rw [cnt_succ, cnt_succ]
            by_cases e : i = m
            · subst e
              have := cnt_sub (S := S) (T := T) (n := i) (fun j _ hj => h j hj)
              rw [hs, ht]
              simp
              omega
            · have := ih (by omega) (by omega)
              have h3 : (S.testBit m).toNat ≤ (T.testBit m).toNat := by
                cases hq : S.testBit m with
                | false => simp
                | true => rw [h m hq]; simp
              omega
        exact h2 n hi (Nat.le_refl _)
      omega
end
section
/-! FLOW: where no way is left, the nearest fewest nodes that cut a gate off -/
theorem pick (P : Nat → Prop) : ∃ b : Nat → Bool, ∀ v, b v = true ↔ P v := ⟨fun v => @decide (P v) (Classical.propDecidable _), fun v => by simp⟩
def fV (N : nw) (g C v : Nat) : Prop := (nB N g).testBit v = true ∧ C.testBit v = false
/-- gates drawn together with a gate -/
def C_ok (N : nw) (g C : Nat) : Prop := C.testBit g = true ∧ (∀ c, C.testBit c = true → isG N c = true ∧ (c = g ∨ ((nB N g).testBit c = true ∧ ∃ p, C.testBit p = true ∧ (sM N p).testBit c = true))) ∧ ∀ u v, (nB N g).testBit u = true → (sM N u).testBit v = true → C.testBit v = true → C.testBit u = true
def fl_ok (N : nw) (g C : Nat) (t : Nat → Nat) (e : Nat → Nat → Nat) (s : Nat → Nat) : Prop :=
  (∀ v, s v ≠ 0 → fV N g C v ∧ ∃ c, C.testBit c = true ∧ (sM N c).testBit v = true) ∧ (∀ u v, e u v ≠ 0 → fV N g C u ∧ (sM N u).testBit v = true ∧ fV N g C v) ∧
  (∀ v, s v + fb_sm (fun u => e u v) 40 = t v) ∧ (∀ u, isG N u = true → fb_sm (fun v => e u v) 40 = t u) ∧ ∀ v, t v ≤ 1
def rs_cl (N : nw) (C : Nat) (t : Nat → Nat) (e : Nat → Nat → Nat) (I O : Nat → Prop) : Prop :=
  (∀ c v, C.testBit c = true → (sM N c).testBit v = true → C.testBit v = false → I v) ∧ (∀ u v, O u → (sM N u).testBit v = true → I v) ∧ (∀ v, I v → t v = 0 → O v) ∧ (∀ u v, I v → e u v ≠ 0 → O u) ∧ (∀ u, O u → t u ≠ 0 → I u)
def nearC (N : nw) (g C U : Nat) : Prop := Sep N g U ∧ (∀ j, U.testBit j = true → C.testBit j = false) ∧ ∀ T, Sep N g T → (∀ j, T.testBit j = true → C.testBit j = false) → cnt U 40 ≤ cnt T 40 ∧ (cnt T 40 = cnt U 40 → ∀ i, (rch N g U).testBit i = true → (rch N g T).testBit i = true)
theorem C_in {N : nw} (hok : nw_ok N) {g C T : Nat} (hC : C_ok N g C) (hT : ∀ j, T.testBit j = true → C.testBit j = false) : ∀ c, C.testBit c = true → (rch N g T).testBit c = true := by
  have key : ∀ m c, g - c = m → C.testBit c = true → (rch N g T).testBit c = true := by
    intro m
    induction m using Nat.strongRecOn with
    | ind m ih =>
      intro c hm hc
      rcases (hC.2.1 c hc).2 with rfl | ⟨hb, p, hp, hs⟩
      · exact rch_self N _ T
      · have hlt := sM_lt hok hs
        have hcg := nB_lt hok g c hb
        have hpg : p ≤ g := by
          rcases (hC.2.1 p hp).2 with e | ⟨hb2, -⟩
          · omega
          · have := nB_lt hok g p hb2; omega
        refine rch_closed hok (ih (g - p) (by omega) p rfl hp) hs ?_
        cases ht : T.testBit c with
        | false => rfl
        | true => have := hT c ht; rw [hc] at this; cases this
  exact fun c hc => key _ c rfl hc
theorem cutsum {N : nw} {g C : Nat} {t : Nat → Nat} {e : Nat → Nat → Nat} {s : Nat → Nat} (hf : fl_ok N g C t e s) (I O : Nat → Bool) (ha : ∀ v, s v ≠ 0 → I v = true) (hb : ∀ u, O u = true → isG N u = true) (hc : ∀ u v, O u = true → e u v ≠ 0 → I v = true) :
    fb_sm s 40 + fb_sm (fun u => if O u then t u else 0) 40 + fb_sm (fun v => if I v then fb_sm (fun u => if O u then 0 else e u v) 40 else 0) 40 = fb_sm (fun v => if I v then t v else 0) 40 := by
  obtain ⟨h1, h2, h3, h4, h5⟩ := hf
  have e1 : fb_sm (fun v => if I v then t v else 0) 40 = fb_sm s 40 + fb_sm (fun v => if I v then fb_sm (fun u => e u v) 40 else 0) 40 := by
    rw [← fb_sm_add]
    apply fb_sm_cong
    intro v _
    cases hI : I v with
    | true => simp only [if_true]; exact (h3 v).symm
    | false =>
      have : s v = 0 := by
        cases hs : s v with
        | zero => rfl
        | succ q => have := ha v (by omega); rw [hI] at this; cases this
      simp [this]
  have e2 : fb_sm (fun v => if I v then fb_sm (fun u => e u v) 40 else 0) 40 = fb_sm (fun v => fb_sm (fun u => if O u then e u v else 0) 40) 40 + fb_sm (fun v => if I v then fb_sm (fun u => if O u then 0 else e u v) 40 else 0) 40 := by
    rw [← fb_sm_add]
    apply fb_sm_cong
    intro v _
    cases hI : I v with
    | true =>
      simp only [if_true]
      rw [sm_if O (fun u => e u v) 40]
    | false =>
      have : fb_sm (fun u => if O u then e u v else 0) 40 = 0 := by
        rw [← sm_0 40]
        apply fb_sm_cong
        intro u _
        cases hO : O u with
        | false => rfl
        | true =>
          simp only [if_true]
          cases he : e u v with
          | zero => rfl
          | succ q => have := hc u v hO (by omega); rw [hI] at this; cases this
      simp [this]
  have e3 : fb_sm (fun v => fb_sm (fun u => if O u then e u v else 0) 40) 40 = fb_sm (fun u => if O u then t u else 0) 40 := by
    rw [sm_swap (fun u v => if O u then e u v else 0) 40 40]
    apply fb_sm_cong
    intro u _
    cases hO : O u with
    | true => simp only [if_true]; exact h4 u (hb u hO)
    | false => simp only [Bool.false_eq_true, if_false]; exact sm_0 40
  rw [e1, e2, e3]
  omega
theorem sm_le {f h : Nat → Nat} {n : Nat} (H : ∀ k, k < n → f k ≤ h k) : fb_sm f n ≤ fb_sm h n := fb_sm_le H
theorem flow_near {N : nw} (hok : nw_ok N) {g C : Nat} (hC : C_ok N g C) {t : Nat → Nat} {e : Nat → Nat → Nat} {s : Nat → Nat} (hf : fl_ok N g C t e s) {I O : Nat} (hcl : rs_cl N C t e (fun v => I.testBit v = true) (fun v => O.testBit v = true)) (hI : ∀ v, I.testBit v = true → fV N g C v) (hO : ∀ v, O.testBit v = true → fV N g C v ∧ isG N v = true)
    (hmin : ∀ I' O' : Nat → Prop, rs_cl N C t e I' O' → (∀ v, I.testBit v = true → I' v) ∧ ∀ v, O.testBit v = true → O' v) : nearC N g C (sD I O) ∧ cnt (sD I O) 40 = fb_sm s 40 := by
  obtain ⟨r1, r2, r3, r4, r5⟩ := hcl
  dsimp only at r1 r2 r3 r4 r5
  -- how many there are
  have hcnt : cnt (sD I O) 40 = fb_sm s 40 := by
    have h1 := cutsum hf (fun v => I.testBit v) (fun v => O.testBit v) (fun v hv => by
      obtain ⟨hv2, c, hc, hs⟩ := hf.1 v hv
      exact r1 c v hc hs hv2.2) (fun u hu => (hO u hu).2) (fun u v hu he => r2 u v hu (hf.2.1 u v he).2.1)
    have h2 : fb_sm (fun v => if I.testBit v then fb_sm (fun u => if O.testBit u then 0 else e u v) 40 else 0) 40 = 0 := by
      rw [← sm_0 40]
      apply fb_sm_cong
      intro v _
      cases hv : I.testBit v with
      | false => rfl
      | true =>
        simp only [if_true]
        rw [← sm_0 40]
        apply fb_sm_cong
        intro u _
        cases hu : O.testBit u with
        | true => rfl
        | false =>
          simp only [Bool.false_eq_true, if_false]
          cases he : e u v with
          | zero => rfl
          | succ q => have := r4 u v hv (by omega); rw [hu] at this; cases this
    have h3 : fb_sm (fun v => if I.testBit v then t v else 0) 40 = fb_sm (fun v => if O.testBit v then t v else 0) 40 + cnt (sD I O) 40 := by
      rw [cnt_sm, ← fb_sm_add]
      apply fb_sm_cong
      intro v _
      rw [sD_bit]
      cases hv : I.testBit v with
      | true =>
        cases hu : O.testBit v with
        | true => simp
        | false =>
          simp
          have h5 := hf.2.2.2.2 v
          have h6 : t v ≠ 0 := fun q => by have := r3 v hv q; rw [hu] at this; cases this
          omega
      | false =>
        cases hu : O.testBit v with
        | false => simp
        | true =>
          simp
          cases ht : t v with
          | zero => rfl
          | succ q => have := r5 v hu (by omega); rw [hv] at this; cases this
    omega
  have hUC : ∀ j, (sD I O).testBit j = true → C.testBit j = false := fun j hj => by
    rw [sD_bit] at hj
    simp at hj
    exact (hI j hj.1).2
  have hR : ∀ i, (rch N g (sD I O)).testBit i = true → C.testBit i = true ∨ O.testBit i = true := by
    refine rch_min (fun i => C.testBit i = true ∨ O.testBit i = true) (Or.inl hC.1) (fun i j hi hs hc => ?_)
    cases hj : C.testBit j with
    | true => exact Or.inl rfl
    | false =>
      have hIj : I.testBit j = true := by
        rcases hi with hi | hi
        · exact r1 i j hi hs hj
        · exact r2 i j hi hs
      rw [sD_bit, hIj] at hc
      simp at hc
      exact Or.inr hc
  refine ⟨⟨⟨fun j hj => ?_, fun i hi => ?_⟩, hUC, fun T hT hTC => ?_⟩, hcnt⟩
  · rw [sD_bit] at hj
    simp at hj
    exact (hI j hj.1).1
  · rcases hR i hi with h | h
    · exact (hC.2.1 i h).1
    · exact (hO i h).2
  -- another set that cuts it off
  have hTC' := C_in hok hC hTC
  -- what is on the gate's side of it
  obtain ⟨I', hI'⟩ := pick fun v => fV N g C v ∧ ∃ i, (rch N g T).testBit i = true ∧ (sM N i).testBit v = true
  obtain ⟨O', hO'⟩ := pick fun v => fV N g C v ∧ (rch N g T).testBit v = true
  have hI' : ∀ v, I' v = true ↔ fV N g C v ∧ ∃ i, (rch N g T).testBit i = true ∧ (sM N i).testBit v = true := hI'
  have hO' : ∀ v, O' v = true ↔ fV N g C v ∧ (rch N g T).testBit v = true := hO'
  have hOI : ∀ v, O' v = true → I' v = true := fun v hv => by
    obtain ⟨h1, h2⟩ := (hO' v).mp hv
    rcases rch_par hok h2 with rfl | ⟨-, p, hp, hs⟩
    · have := h1.2; rw [hC.1] at this; cases this
    · exact (hI' v).mpr ⟨h1, p, hp, hs⟩
  have hIT : ∀ v, I' v = true → O' v = false → T.testBit v = true := fun v hv hn => by
    obtain ⟨h1, i, hi, hs⟩ := (hI' v).mp hv
    cases ht : T.testBit v with
    | true => rfl
    | false =>
      have := (hO' v).mpr ⟨h1, rch_closed hok hi hs ht⟩
      rw [hn] at this
      cases this
  have hVsrc : ∀ u v, fV N g C u → (sM N u).testBit v = true → fV N g C v := fun u v hu hs => by
    refine ⟨nB_trans hok g u v hu.1 hs, ?_⟩
    cases hv : C.testBit v with
    | false => rfl
    | true => have := hC.2.2 u v hu.1 hs hv; rw [hu.2] at this; cases this
  have h1 := cutsum hf I' O' (fun v hv => by
    obtain ⟨hv2, c, hc, hs⟩ := hf.1 v hv
    exact (hI' v).mpr ⟨hv2, c, hTC' c hc, hs⟩) (fun u hu => hT.2 u ((hO' u).mp hu).2) (fun u v hu he => by
    obtain ⟨q1, q2, q3⟩ := hf.2.1 u v he
    exact (hI' v).mpr ⟨q3, u, ((hO' u).mp hu).2, q2⟩)
  have h2 : fb_sm (fun v => if I' v then t v else 0) 40 = fb_sm (fun u => if O' u then t u else 0) 40 + fb_sm (fun v => if I' v && !O' v then t v else 0) 40 := by
    rw [← fb_sm_add]
    apply fb_sm_cong
    intro v _
    cases hv : I' v with
    | true => cases hu : O' v <;> simp
    | false =>
      cases hu : O' v with
      | false => simp
      | true => have := hOI v hu; rw [hv] at this; cases this
  have h3 : fb_sm (fun v => if I' v && !O' v then t v else 0) 40 ≤ fb_sm (fun v => if I' v && !O' v then 1 else 0) 40 := by
    apply sm_le
    intro v _
    cases I' v && !O' v
    · simp
    · simp; exact hf.2.2.2.2 v
  have h4 : fb_sm (fun v => if I' v && !O' v then 1 else 0) 40 ≤ cnt T 40 := by
    rw [cnt_sm]
    apply sm_le
    intro v _
    cases hv : I' v with
    | false => simp
    | true =>
      cases hu : O' v with
      | true => simp
      | false => simp [hIT v hv hu]
  refine ⟨by omega, fun heq => ?_⟩
  have h5 : fb_sm (fun v => if I' v then fb_sm (fun u => if O' u then 0 else e u v) 40 else 0) 40 = 0 := by omega
  have h6 : fb_sm (fun v => if I' v && !O' v then t v else 0) 40 = fb_sm (fun v => if I' v && !O' v then 1 else 0) 40 := by omega
  have lt40 : ∀ v, fV N g C v → v < 40 := fun v hv => by have := nB_lt_n hok hv.1; have := hok.1; omega
  -- all of it is full
  have h7 : ∀ v, I' v = true → O' v = false → t v = 1 := fun v hv hu => by
    have hv40 := lt40 v ((hI' v).mp hv).1
    have h8 : fb_sm (fun v => (if I' v && !O' v then 1 else 0) - (if I' v && !O' v then t v else 0)) 40 = 0 := by
      have h9 : fb_sm (fun v => (if I' v && !O' v then 1 else 0) - (if I' v && !O' v then t v else 0)) 40 + fb_sm (fun v => if I' v && !O' v then t v else 0) 40 = fb_sm (fun v => if I' v && !O' v then 1 else 0) 40 := by
        rw [← fb_sm_add]
        apply fb_sm_cong
        intro w _
        have := hf.2.2.2.2 w
        cases I' w && !O' w
        · simp
        · simp; omega
      omega
    have h9 := fb_sm_zero h8 v hv40
    simp only [hv, hu, Bool.not_false, Bool.and_self, if_true] at h9
    have := hf.2.2.2.2 v
    omega
  have hcl' : rs_cl N C t e (fun v => I' v = true) (fun v => O' v = true) := by
    refine ⟨fun c v hc hs hv => ?_, fun u v hu hs => ?_, fun v hv ht => ?_, fun u v hv he => ?_, fun u hu _ => hOI u hu⟩
    · refine (hI' v).mpr ⟨⟨?_, hv⟩, c, hTC' c hc, hs⟩
      rcases (hC.2.1 c hc).2 with rfl | ⟨hb, -⟩
      · exact nB_src hok hs
      · exact nB_trans hok g c v hb hs
    · obtain ⟨q1, q2⟩ := (hO' u).mp hu
      exact (hI' v).mpr ⟨hVsrc u v q1 hs, u, q2, hs⟩
    · cases hu : O' v with
      | true => exact hu
      | false => have := h7 v hv hu; omega
    · cases hu : O' u with
      | true => exact hu
      | false =>
        have hv40 := lt40 v ((hI' v).mp hv).1
        have hu40 := lt40 u (hf.2.1 u v he).1
        have h8 := fb_sm_zero h5 v hv40
        simp only [hv, if_true] at h8
        have h9 := fb_sm_zero h8 u hu40
        simp only [hu, Bool.false_eq_true, if_false] at h9
        exact absurd h9 he
  intro i hi
  rcases hR i hi with h | h
  · exact hTC' i h
  · exact ((hO' i).mp ((hmin _ _ hcl').2 i h)).2
/-- there is just one -/
theorem nearC_one {N : nw} (hok : nw_ok N) {g C U W : Nat} (hg : isG N g = true) (hU : nearC N g C U) (hW : nearC N g C W) : U = W := by
  have c1 := (hU.2.2 W hW.1 hW.2.1).1
  have c2 := (hW.2.2 U hU.1 hU.2.1).1
  have hc : cnt U 40 = cnt W 40 := by omega
  have r1 := (hU.2.2 W hW.1 hW.2.1).2 hc.symm
  have r2 := (hW.2.2 U hU.1 hU.2.1).2 hc
  have hr : ∀ i, (rch N g U).testBit i = (rch N g W).testBit i := fun i => by
    cases h : (rch N g U).testBit i with
    | true => rw [r1 i h]
    | false =>
      cases h2 : (rch N g W).testBit i with
      | false => rfl
      | true => have := r2 i h2; rw [h] at this; cases this
  -- both hold the brim of what is reached, and that cuts off too
  obtain ⟨b, hB'⟩ := pick fun v => (rch N g U).testBit v = false ∧ ∃ i, (rch N g U).testBit i = true ∧ (sM N i).testBit v = true
  have hB' : ∀ v, b v = true ↔ (rch N g U).testBit v = false ∧ ∃ i, (rch N g U).testBit i = true ∧ (sM N i).testBit v = true := hB'
  have hBn : ∀ v, b v = true → v < 40 := fun v hv => by
    obtain ⟨-, i, hi, hs⟩ := (hB' v).mp hv
    have h1 := sM_lt hok hs
    have h2 := isG_lt (src_of hs).1
    have := hok.1
    omega
  have hbit : ∀ v, (mk b 40).testBit v = b v := fun v => by
    rw [mk_bit]
    cases h : b v with
    | false => simp
    | true => simp [hBn v h]
  have hBU : ∀ v, (mk b 40).testBit v = true → U.testBit v = true := fun v hv => by
    rw [hbit] at hv
    obtain ⟨h1, i, hi, hs⟩ := (hB' v).mp hv
    cases hu : U.testBit v with
    | true => rfl
    | false => have := rch_closed hok hi hs hu; rw [h1] at this; cases this
  have hBW : ∀ v, (mk b 40).testBit v = true → W.testBit v = true := fun v hv => by
    rw [hbit] at hv
    obtain ⟨h1, i, hi, hs⟩ := (hB' v).mp hv
    cases hu : W.testBit v with
    | true => rfl
    | false => have := rch_closed hok (by rw [← hr]; exact hi) hs hu; rw [← hr, h1] at this; cases this
  have hBS : Sep N g (mk b 40) := by
    refine ⟨fun j hj => hU.1.1 j (hBU j hj), ?_⟩
    intro i hi
    apply hU.1.2
    refine rch_min (N := N) (g := g) (S := mk b 40) (fun i => (rch N g U).testBit i = true) (rch_self N g U) (fun i j hi hs hc => ?_) i hi
    cases hq : (rch N g U).testBit j with
    | true => rfl
    | false =>
      have := (hB' j).mpr ⟨hq, i, hi, hs⟩
      rw [hbit, this] at hc
      cases hc
  have k1 := (hU.2.2 _ hBS (fun j hj => hU.2.1 j (hBU j hj))).1
  have k2 := (hW.2.2 _ hBS (fun j hj => hU.2.1 j (hBU j hj))).1
  have lB : mk b 40 < 2 ^ 40 := mk_lt b 40
  rw [← cnt_eq_sub lB (Sep_lt hok hU.1) hBU k1, ← cnt_eq_sub lB (Sep_lt hok hW.1) hBW k2]
end
section
/-! WAYS without a shared node: how the component holds its flow; one more way -/
def wS (N : nw) (g C on : Nat) (ah : Nat → Option Nat) : Prop :=
  (∀ v, on.testBit v = true → fV N g C v) ∧ (∀ v, on.testBit v = true → ah v = none → ∃ c, C.testBit c = true ∧ (sM N c).testBit v = true) ∧ (∀ v u, on.testBit v = true → ah v = some u → on.testBit u = true ∧ (sM N u).testBit v = true) ∧
  (∀ u, on.testBit u = true → isG N u = true → ∃ v, on.testBit v = true ∧ ah v = some u) ∧ (∀ u v w, on.testBit v = true → on.testBit w = true → ah v = some u → ah w = some u → v = w)
def wt (on v : Nat) : Nat := if on.testBit v then 1 else 0
def we (on : Nat) (ah : Nat → Option Nat) (u v : Nat) : Nat := if on.testBit v = true ∧ ah v = some u then 1 else 0
def wsrc (on : Nat) (ah : Nat → Option Nat) (v : Nat) : Nat := if on.testBit v = true ∧ ah v = none then 1 else 0
theorem sm_one {u n : Nat} (h : u < n) {f : Nat → Nat} (h1 : f u = 1) (h0 : ∀ k, k ≠ u → f k = 0) : fb_sm f n = 1 := by
  induction n with
  | zero => omega
  | succ n ih =>
    rw [fb_sm_succ]
    by_cases e : u = n
    · subst e
      have : fb_sm f u = 0 := by
        rw [← sm_0 u]
        apply fb_sm_cong
        intro k hk
        exact h0 k (by omega)
      omega
    · rw [ih (by omega), h0 n (by omega)]
theorem sm_none {n : Nat} {f : Nat → Nat} (h0 : ∀ k, f k = 0) : fb_sm f n = 0 := by
  rw [← sm_0 n]
  exact fb_sm_cong fun k _ => h0 k
theorem fV_lt {N : nw} (hok : nw_ok N) {g C v : Nat} (h : fV N g C v) : v < 40 := by have := nB_lt_n hok h.1; have := hok.1; omega
theorem wS_fl {N : nw} (hok : nw_ok N) {g C on : Nat} {ah : Nat → Option Nat} (h : wS N g C on ah) : fl_ok N g C (wt on) (we on ah) (wsrc on ah) := by
  obtain ⟨h1, h2, h3, h4, h5⟩ := h
  refine ⟨fun v hv => ?_, fun u v hv => ?_, fun v => ?_, fun u hu => ?_, fun v => ?_⟩
  · unfold wsrc at hv
    split at hv
    · rename_i q; exact ⟨h1 v q.1, h2 v q.1 q.2⟩
    · exact absurd rfl hv
  · unfold we at hv
    split at hv
    · rename_i q
      obtain ⟨q1, q2⟩ := h3 v u q.1 q.2
      exact ⟨h1 u q1, q2, h1 v q.1⟩
    · exact absurd rfl hv
  · unfold wsrc wt
    cases hb : on.testBit v with
    | false =>
      rw [sm_none (fun u => by unfold we; simp [hb])]
      simp
    | true =>
      cases ha : ah v with
      | none =>
        rw [sm_none (fun u => by unfold we; simp [ha])]
        simp
      | some u =>
        have hu := fV_lt hok (h1 u (h3 v u hb ha).1)
        rw [sm_one hu (by unfold we; simp [hb, ha]) (fun k hk => by unfold we; simp [ha]; intro _; exact fun e => hk e.symm)]
        simp
  · unfold wt
    cases hb : on.testBit u with
    | true =>
      obtain ⟨v, hv, ha⟩ := h4 u hb hu
      have hv40 := fV_lt hok (h1 v hv)
      rw [sm_one hv40 (by unfold we; simp [hv, ha]) (fun k hk => by
        unfold we
        rw [if_neg]
        intro q
        exact hk (h5 u k v q.1 hv q.2 ha))]
      simp
    | false =>
      rw [sm_none (fun v => by
        unfold we
        rw [if_neg]
        intro q
        have := (h3 v u q.1 q.2).1
        rw [hb] at this
        cases this)]
      simp
  · unfold wt; split <;> omega
/-- residual steps between ends: the upper end of v is v, the lower one 40 + v -/
def rE (N : nw) (on : Nat) (ah : Nat → Option Nat) (x y : Nat) : Prop :=
  (x < 40 ∧ on.testBit x = false ∧ y = 40 + x) ∨ (∃ u, x < 40 ∧ on.testBit x = true ∧ ah x = some u ∧ y = 40 + u) ∨ (∃ u, x = 40 + u ∧ (sM N u).testBit y = true) ∨ (∃ u, x = 40 + u ∧ isG N u = true ∧ on.testBit u = true ∧ y = u)
def rS (N : nw) (C y : Nat) : Prop := C.testBit y = false ∧ ∃ c, C.testBit c = true ∧ (sM N c).testBit y = true
/-- the search: so many ends in a row, none twice, each come to from an earlier one; those of the first p looked at -/
def bQ (N : nw) (g C on : Nat) (ah : Nat → Option Nat) (Q : Nat → Nat) (q p : Nat) (cf : Nat → Option Nat) : Prop :=
  (∀ i j, i < q → j < q → Q i = Q j → i = j) ∧ (∀ i, i < q → ((Q i < 40 ∧ fV N g C (Q i)) ∨ (40 ≤ Q i ∧ fV N g C (Q i - 40)))) ∧
  (∀ i, i < q → (cf (Q i) = none ∧ rS N C (Q i) ∧ Q i < 40) ∨ ∃ j, j < i ∧ cf (Q i) = some (Q j) ∧ rE N on ah (Q j) (Q i)) ∧ (∀ y, rS N C y → ∃ i, i < q ∧ Q i = y) ∧ p ≤ q ∧
  (∀ i, i < p → (∀ y, rE N on ah (Q i) y → ∃ j, j < q ∧ Q j = y) ∧ ∀ u, Q i = 40 + u → isG N u = true)
/-- a search that is through: the nearest cut -/
theorem bQ_near {N : nw} (hok : nw_ok N) {g C on : Nat} {ah : Nat → Option Nat} {Q : Nat → Nat} {q : Nat} {cf : Nat → Option Nat} {I O : Nat} (hC : C_ok N g C) (hw : wS N g C on ah) (hb : bQ N g C on ah Q q q cf) (hI : ∀ v, I.testBit v = true ↔ v < 40 ∧ ∃ i, i < q ∧ Q i = v) (hO : ∀ v, O.testBit v = true ↔ v < 40 ∧ ∃ i, i < q ∧ Q i = 40 + v) :
    nearC N g C (sD I O) ∧ cnt (sD I O) 40 = fb_sm (wsrc on ah) 40 := by
  obtain ⟨b1, b2, b3, b4, b5, b6⟩ := hb
  have lower : ∀ i u, i < q → Q i = 40 + u → fV N g C u := fun i u hi e => by
    rcases b2 i hi with ⟨h, -⟩ | ⟨-, h⟩
    · omega
    · rw [e, show 40 + u - 40 = u by omega] at h; exact h
  have upper : ∀ i v, i < q → Q i = v → v < 40 → fV N g C v := fun i v hi e hv => by
    rcases b2 i hi with ⟨-, h⟩ | ⟨h, -⟩
    · rw [e] at h; exact h
    · omega
  refine flow_near hok hC (wS_fl hok hw) ⟨fun c v hc hs hv => ?_, fun u v hu hs => ?_, fun v hv ht => ?_, fun u v hv he => ?_, fun u hu ht => ?_⟩ (fun v hv => ?_) (fun v hv => ?_) (fun I' O' hcl => ?_)
  · obtain ⟨i, hi, e⟩ := b4 v ⟨hv, c, hc, hs⟩
    have h1 := sM_lt hok hs
    have h2 := isG_lt (src_of hs).1
    have := hok.1
    exact (hI v).mpr ⟨by omega, i, hi, e⟩
  · obtain ⟨hu40, i, hi, e⟩ := (hO u).mp hu
    obtain ⟨j, hj, e2⟩ := (b6 i hi).1 v (Or.inr (Or.inr (Or.inl ⟨u, e, hs⟩)))
    have h1 := sM_lt hok hs
    exact (hI v).mpr ⟨by omega, j, hj, e2⟩
  · obtain ⟨hv40, i, hi, e⟩ := (hI v).mp hv
    have hon : on.testBit v = false := by
      cases h : on.testBit v with
      | false => rfl
      | true => unfold wt at ht; rw [h] at ht; cases ht
    obtain ⟨j, hj, e2⟩ := (b6 i hi).1 (40 + v) (Or.inl ⟨by omega, by rw [e]; exact hon, by omega⟩)
    exact (hO v).mpr ⟨hv40, j, hj, e2⟩
  · obtain ⟨hv40, i, hi, e⟩ := (hI v).mp hv
    unfold we at he
    split at he
    · rename_i hq
      obtain ⟨j, hj, e2⟩ := (b6 i hi).1 (40 + u) (Or.inr (Or.inl ⟨u, by omega, by rw [e]; exact hq.1, by rw [e]; exact hq.2, rfl⟩))
      exact (hO u).mpr ⟨fV_lt hok (lower j u hj e2), j, hj, e2⟩
    · exact absurd rfl he
  · obtain ⟨hu40, i, hi, e⟩ := (hO u).mp hu
    have hon : on.testBit u = true := by
      cases h : on.testBit u with
      | true => rfl
      | false => unfold wt at ht; rw [h] at ht; exact absurd rfl ht
    obtain ⟨j, hj, e2⟩ := (b6 i hi).1 u (Or.inr (Or.inr (Or.inr ⟨u, e, (b6 i hi).2 u e, hon, rfl⟩)))
    exact (hI u).mpr ⟨hu40, j, hj, e2⟩
  · obtain ⟨hv40, i, hi, e⟩ := (hI v).mp hv
    exact upper i v hi e hv40
  · obtain ⟨hv40, i, hi, e⟩ := (hO v).mp hv
    exact ⟨lower i v hi e, (b6 i hi).2 v e⟩
  · obtain ⟨c1, c2, c3, c4, c5⟩ := hcl
    have all : ∀ i, i < q → (Q i < 40 → I' (Q i)) ∧ ∀ u, Q i = 40 + u → O' u := by
      intro i
      induction i using Nat.strongRecOn with
      | ind i ih =>
        intro hi
        rcases b3 i hi with ⟨-, ⟨hC9, c, hc, hs⟩, hlt⟩ | ⟨j, hj, -, hr⟩
        · exact ⟨fun _ => c1 c (Q i) hc hs hC9, fun u e => by omega⟩
        · obtain ⟨q1, q2⟩ := ih j hj (by omega)
          rcases hr with ⟨hx, hon, e⟩ | ⟨u, hx, hon, ha, e⟩ | ⟨u, e, hs⟩ | ⟨u, e, hg, hon, e2⟩
          · refine ⟨fun h => by omega, fun u eu => ?_⟩
            have : u = Q j := by omega
            rw [this]
            exact c3 _ (q1 hx) (by unfold wt; simp [hon])
          · refine ⟨fun h => by omega, fun w ew => ?_⟩
            have : w = u := by omega
            rw [this]
            exact c4 u (Q j) (q1 hx) (by unfold we; rw [if_pos ⟨hon, ha⟩]; omega)
          · have h1 := sM_lt hok hs
            have h2 := isG_lt (src_of hs).1
            have := hok.1
            exact ⟨fun _ => c2 u (Q i) (q2 u e) hs, fun w ew => by omega⟩
          · have h2 := isG_lt hg
            have := hok.1
            refine ⟨fun _ => ?_, fun w ew => by omega⟩
            rw [e2]
            exact c5 u (q2 u e) (by unfold wt; simp [hon])
    refine ⟨fun v hv => ?_, fun v hv => ?_⟩
    · obtain ⟨hv40, i, hi, e⟩ := (hI v).mp hv
      have := (all i hi).1 (by omega)
      rwa [e] at this
    · obtain ⟨hv40, i, hi, e⟩ := (hO v).mp hv
      exact (all i hi).2 v e
/-! one more way: a path P of ends, from a start to the lower end of a leaf, each with the one that it was come to from -/
def pth (N : nw) (g C on : Nat) (ah cf : Nat → Option Nat) (leaf : Nat) (P : Nat → Prop) : Prop :=
  P (40 + leaf) ∧ (∀ x z, P x → cf x = some z → P z ∧ rE N on ah z x) ∧ (∀ x, P x → cf x = none → x < 40 ∧ rS N C x) ∧ (∀ x, P x → x ≠ 40 + leaf → ∃ y, P y ∧ cf y = some x) ∧ (∀ x y, P x → P y → cf x = cf y → x = y) ∧ (∀ x, P x → ((x < 40 ∧ fV N g C x) ∨ (40 ≤ x ∧ fV N g C (x - 40)))) ∧ isG N leaf = false ∧ leaf < 40 ∧ ∃ x, P x ∧ cf x = none
/-- behind it -/
def pOn (on : Nat) (cf : Nat → Option Nat) (P : Nat → Prop) (v : Nat) (b : Prop) : Prop := (P (40 + v) ∧ cf (40 + v) = some v) → b
def pNew (on on' : Nat) (ah ah' cf : Nat → Option Nat) (P : Nat → Prop) : Prop :=
  ∀ v, v < 40 → ((P (40 + v) ∧ cf (40 + v) = some v → on'.testBit v = true) ∧ (P v ∧ cf v = some (40 + v) → on'.testBit v = false) ∧ (¬ (P (40 + v) ∧ cf (40 + v) = some v) → ¬ (P v ∧ cf v = some (40 + v)) → on'.testBit v = on.testBit v)) ∧
    ((P v ∧ cf v ≠ some (40 + v) → ah' v = (cf v).map (fun z => z - 40)) ∧ (¬ (P v ∧ cf v ≠ some (40 + v)) → ah' v = ah v))
theorem pth_ws {N : nw} (hok : nw_ok N) {g C on on' leaf : Nat} {ah ah' cf : Nat → Option Nat} {P : Nat → Prop} (hC : C_ok N g C) (hw : wS N g C on ah) (hp : pth N g C on ah cf leaf P) (hn : pNew on on' ah ah' cf P) (hlt : on' < 2 ^ 40) : wS N g C on' ah' ∧ fb_sm (wsrc on' ah') 40 = fb_sm (wsrc on ah) 40 + 1 := by
  obtain ⟨w1, w2, w3, w4, w5⟩ := hw
  obtain ⟨p1, p2, p3, p4, p5, p6, p7, p8, p9⟩ := hp
  -- what an upper end on the path is come to from
  have up : ∀ v, v < 40 → P v → (cf v = none ∧ rS N C v) ∨ (∃ u, cf v = some (40 + u) ∧ (sM N u).testBit v = true ∧ u ≠ v) ∨ (cf v = some (40 + v) ∧ on.testBit v = true ∧ isG N v = true) := by
    intro v hv hP
    cases hc : cf v with
    | none => exact Or.inl ⟨rfl, (p3 v hP hc).2⟩
    | some z =>
      obtain ⟨-, hr⟩ := p2 v z hP hc
      rcases hr with ⟨hx, hon, e⟩ | ⟨u, hx, hon, ha, e⟩ | ⟨u, e, hs⟩ | ⟨u, e, hg, hon, e2⟩
      · omega
      · omega
      · exact Or.inr (Or.inl ⟨u, by rw [e], hs, by have := sM_lt hok hs; omega⟩)
      · subst e2; exact Or.inr (Or.inr ⟨by rw [e], hon, hg⟩)
  -- where it goes on to
  have upS : ∀ v, v < 40 → P v → (on.testBit v = false ∧ P (40 + v) ∧ cf (40 + v) = some v) ∨ (on.testBit v = true ∧ ∃ u, ah v = some u ∧ P (40 + u) ∧ cf (40 + u) = some v) := by
    intro v hv hP
    obtain ⟨y, hy, hc⟩ := p4 v hP (by omega)
    obtain ⟨-, hr⟩ := p2 y v hy hc
    rcases hr with ⟨hx, hon, e⟩ | ⟨u, hx, hon, ha, e⟩ | ⟨u, e, hs⟩ | ⟨u, e, hg, hon, e2⟩
    · subst e; exact Or.inl ⟨hon, hy, hc⟩
    · subst e; exact Or.inr ⟨hon, u, ha, hy, hc⟩
    · omega
    · omega
  -- a lower end
  have lo : ∀ u, u < 40 → P (40 + u) → (cf (40 + u) = some u ∧ on.testBit u = false ∧ P u) ∨ (∃ w, w < 40 ∧ cf (40 + u) = some w ∧ on.testBit w = true ∧ ah w = some u ∧ P w ∧ on.testBit u = true) := by
    intro u hu hP
    cases hc : cf (40 + u) with
    | none => have := (p3 _ hP hc).1; omega
    | some z =>
      obtain ⟨hz, hr⟩ := p2 _ z hP hc
      rcases hr with ⟨hx, hon, e⟩ | ⟨w, hx, hon, ha, e⟩ | ⟨w, e, hs⟩ | ⟨w, e, hg, hon, e2⟩
      · have : z = u := by omega
        subst this
        exact Or.inl ⟨rfl, hon, hz⟩
      · have : w = u := by omega
        subst this
        exact Or.inr ⟨z, hx, rfl, hon, ha, hz, (w3 z w hon ha).1⟩
      · have h1 := sM_lt hok hs
        have h2 := isG_lt (src_of hs).1
        have := hok.1
        omega
      · have h2 := isG_lt hg
        have := hok.1
        omega
  -- the new picture by the old
  have notboth : ∀ v, v < 40 → ¬ ((P (40 + v) ∧ cf (40 + v) = some v) ∧ (P v ∧ cf v = some (40 + v))) := by
    rintro v hv ⟨⟨h1, h2⟩, h3, h4⟩
    rcases lo v hv h1 with ⟨-, hon, -⟩ | ⟨w, -, hc, hon, ha, -, -⟩
    · rcases up v hv h3 with ⟨h5, -⟩ | ⟨u, h5, -, h6⟩ | ⟨-, h5, -⟩
      · rw [h5] at h4; cases h4
      · rw [h5] at h4
        have e := Option.some.inj h4
        have e2 : u = v := by omega
        exact h6 e2
      · rw [hon] at h5; cases h5
    · rw [hc] at h2
      cases h2
      have := (w3 v v hon ha).2
      have := sM_lt hok this
      omega
  have N1 : ∀ v, v < 40 → P v → cf v ≠ some (40 + v) → on'.testBit v = true ∧ ah' v = (cf v).map (fun z => z - 40) := by
    intro v hv hP hne
    refine ⟨?_, (hn v hv).2.1 ⟨hP, hne⟩⟩
    rcases upS v hv hP with ⟨-, h1, h2⟩ | ⟨hon, u, ha, h1, h2⟩
    · exact (hn v hv).1.1 ⟨h1, h2⟩
    · by_cases q : P (40 + v) ∧ cf (40 + v) = some v
      · exact (hn v hv).1.1 q
      · rw [(hn v hv).1.2.2 q (fun z => hne z.2)]; exact hon
  have N2 : ∀ v, v < 40 → P v → cf v = some (40 + v) → on'.testBit v = false := fun v hv hP he => (hn v hv).1.2.1 ⟨hP, he⟩
  have N3 : ∀ v, v < 40 → ¬ P v → on'.testBit v = on.testBit v ∧ ah' v = ah v := by
    intro v hv hP
    refine ⟨(hn v hv).1.2.2 (fun q => ?_) (fun q => hP q.1), (hn v hv).2.2 (fun q => hP q.1)⟩
    exact hP (p2 _ v q.1 q.2).1
  have lt' : ∀ v, on'.testBit v = true → v < 40 := fun v hv => bit_lt hlt hv
  -- who is behind u on a way now
  have Z : ∀ u v, v < 40 → (on'.testBit v = true ∧ ah' v = some u ↔ (¬ P v ∧ on.testBit v = true ∧ ah v = some u) ∨ (P v ∧ cf v = some (40 + u) ∧ u ≠ v)) := by
    intro u v hv
    by_cases hP : P v
    · rcases up v hv hP with ⟨h5, hS⟩ | ⟨w, h5, hs, hne⟩ | ⟨h5, hon, hg⟩
      · obtain ⟨q1, q2⟩ := N1 v hv hP (by rw [h5]; simp)
        rw [h5] at q2
        simp only [Option.map_none] at q2
        rw [q2]
        simp [hP, h5]
      · obtain ⟨q1, q2⟩ := N1 v hv hP (by rw [h5]; simp; exact hne)
        rw [h5] at q2
        simp only [Option.map_some] at q2
        rw [q1, q2]
        simp only [hP, h5, not_true, false_and, false_or, true_and, Option.some.injEq, show 40 + w - 40 = w by omega]
        constructor
        · intro e; subst e; exact ⟨rfl, hne⟩
        · rintro ⟨e, -⟩; omega
      · have q1 := N2 v hv hP h5
        rw [q1]
        simp only [hP, h5, not_true, false_and, false_or, true_and, Option.some.injEq, Bool.false_eq_true]
        constructor
        · intro h; exact h.elim
        · rintro ⟨e, hne⟩; omega
    · obtain ⟨q1, q2⟩ := N3 v hv hP
      rw [q1, q2]
      simp [hP]
  have onV : ∀ v, on'.testBit v = true → fV N g C v := by
    intro v hv
    have hv40 := lt' v hv
    by_cases hP : P v
    · rcases p6 v hP with ⟨-, h⟩ | ⟨h, -⟩
      · exact h
      · omega
    · rw [(N3 v hv40 hP).1] at hv; exact w1 v hv
  have lowU : ∀ u, u < 40 → P (40 + u) → fV N g C u := fun u hu hP => by
    rcases p6 _ hP with ⟨h, -⟩ | ⟨-, h⟩
    · omega
    · rwa [show 40 + u - 40 = u by omega] at h
  refine ⟨⟨onV, fun v hv ha => ?_, fun v u hv ha => ?_, fun u hu hg => ?_, fun u v w hv hw' ha hb => ?_⟩, ?_⟩
  · -- a start
    have hv40 := lt' v hv
    by_cases hP : P v
    · rcases up v hv40 hP with ⟨h5, hS⟩ | ⟨w, h5, hs, hne⟩ | ⟨h5, hon, hg⟩
      · exact hS.2
      · obtain ⟨-, q2⟩ := N1 v hv40 hP (by rw [h5]; simp; exact hne)
        rw [h5, ha] at q2
        cases q2
      · rw [N2 v hv40 hP h5] at hv; cases hv
    · obtain ⟨q1, q2⟩ := N3 v hv40 hP
      exact w2 v (by rw [← q1]; exact hv) (by rw [← q2]; exact ha)
  · -- what is ahead is on a way
    have hv40 := lt' v hv
    rcases (Z u v hv40).mp ⟨hv, ha⟩ with ⟨hP, hon, ha0⟩ | ⟨hP, hc, hne⟩
    · obtain ⟨q1, q2⟩ := w3 v u hon ha0
      have hu40 := fV_lt hok (w1 u q1)
      refine ⟨?_, q2⟩
      by_cases hPu : P u
      · by_cases hcu : cf u = some (40 + u)
        · -- u leaves the ways: its lower end was come to from v's upper end
          obtain ⟨hlu, -⟩ := p2 u _ hPu hcu
          rcases lo u hu40 hlu with ⟨-, h6, -⟩ | ⟨w, hw40, hcw, honw, haw, hPw, -⟩
          · rw [q1] at h6; cases h6
          · have := w5 u v w hon honw ha0 haw
            subst this
            exact absurd hPw hP
        · exact (N1 u hu40 hPu hcu).1
      · rw [(N3 u hu40 hPu).1]; exact q1
    · obtain ⟨hlu, hr⟩ := p2 v _ hP hc
      have hes : (sM N u).testBit v = true := by
        rcases up v hv40 hP with ⟨h5, -⟩ | ⟨w, h5, hs, -⟩ | ⟨h5, -, -⟩
        · rw [h5] at hc; cases hc
        · rw [h5] at hc
          have e := Option.some.inj hc
          have e2 : w = u := by omega
          subst e2
          exact hs
        · rw [h5] at hc
          have : u = v := by have e := Option.some.inj hc; omega
          exact absurd this hne
      refine ⟨?_, hes⟩
      have h2 := isG_lt (src_of hes).1
      have hu40 : u < 40 := by have := hok.1; omega
      rcases lo u hu40 hlu with ⟨h6, -, -⟩ | ⟨w, hw40, hcw, honw, haw, hPw, honu⟩
      · exact (hn u hu40).1.1 ⟨hlu, h6⟩
      · by_cases q : P (40 + u) ∧ cf (40 + u) = some u
        · exact (hn u hu40).1.1 q
        · rw [(hn u hu40).1.2.2 q ?_]; exact honu
          rintro ⟨hPu, hcu⟩
          have := p5 u v hPu hP (by rw [hcu, hc])
          exact hne this
  · -- behind a gate on a way there is one
    have hu40 := lt' u hu
    by_cases hlu : P (40 + u)
    · -- where the path goes on from u's lower end
      have hne : 40 + u ≠ 40 + leaf := fun e => by
        have : u = leaf := by omega
        subst this
        rw [p7] at hg; cases hg
      obtain ⟨y, hy, hc⟩ := p4 _ hlu hne
      obtain ⟨-, hr⟩ := p2 y _ hy hc
      rcases hr with ⟨hx, -, -⟩ | ⟨z, hx, -, -, -⟩ | ⟨z, e, hs⟩ | ⟨z, e, hgz, hon, e2⟩
      · omega
      · omega
      · have : z = u := by omega
        subst this
        have h1 := sM_lt hok hs
        have hy40 : y < 40 := by omega
        exact ⟨y, (Z z y hy40).mpr (Or.inr ⟨hy, hc, by omega⟩)⟩
      · have : z = u := by omega
        subst this
        subst e2
        rw [N2 y hu40 hy hc] at hu
        cases hu
    · have hon : on.testBit u = true := by
        by_cases hPu : P u
        · by_cases hcu : cf u = some (40 + u)
          · exact absurd (p2 u _ hPu hcu).1 hlu
          · rcases upS u hu40 hPu with ⟨-, h, -⟩ | ⟨h, -⟩
            · exact absurd h hlu
            · exact h
        · rw [← (N3 u hu40 hPu).1]; exact hu
      obtain ⟨v, hv, ha⟩ := w4 u hon hg
      have hv40 := fV_lt hok (w1 v hv)
      refine ⟨v, (Z u v hv40).mpr (Or.inl ⟨fun hP => ?_, hv, ha⟩)⟩
      rcases upS v hv40 hP with ⟨h, -⟩ | ⟨-, w, haw, hlw, -⟩
      · rw [hv] at h; cases h
      · rw [ha] at haw; cases haw; exact hlu hlw
  · -- and just one
    have hv40 := lt' v hv
    have hw40 := lt' w hw'
    rcases (Z u v hv40).mp ⟨hv, ha⟩ with ⟨hP, hon, ha0⟩ | ⟨hP, hc, hne⟩
    · rcases (Z u w hw40).mp ⟨hw', hb⟩ with ⟨hQ, hon2, hb0⟩ | ⟨hQ, hc2, hne2⟩
      · exact w5 u v w hon hon2 ha0 hb0
      · -- w is new behind u: then u's lower end is on the path, come to from v: but v isn't
        obtain ⟨hlu, -⟩ := p2 w _ hQ hc2
        have hu40 := fV_lt hok (w1 u (w3 v u hon ha0).1)
        rcases lo u hu40 hlu with ⟨-, h6, -⟩ | ⟨z, hz40, hcz, honz, haz, hPz, -⟩
        · have := (w3 v u hon ha0).1
          rw [h6] at this; cases this
        · have := w5 u v z hon honz ha0 haz
          subst this
          exact absurd hPz hP
    · rcases (Z u w hw40).mp ⟨hw', hb⟩ with ⟨hQ, hon2, hb0⟩ | ⟨hQ, hc2, hne2⟩
      · obtain ⟨hlu, -⟩ := p2 v _ hP hc
        have hu40 := fV_lt hok (w1 u (w3 w u hon2 hb0).1)
        rcases lo u hu40 hlu with ⟨-, h6, -⟩ | ⟨z, hz40, hcz, honz, haz, hPz, -⟩
        · have := (w3 w u hon2 hb0).1
          rw [h6] at this; cases this
        · have := w5 u w z hon2 honz hb0 haz
          subst this
          exact absurd hPz hQ
      · exact p5 v w hP hQ (by rw [hc, hc2])
  · -- one start more
    obtain ⟨x, hx, hcx⟩ := p9
    have hx40 := (p3 x hx hcx).1
    have key : ∀ v, v < 40 → wsrc on' ah' v = wsrc on ah v + (if v = x then 1 else 0) := by
      intro v hv
      unfold wsrc
      by_cases hP : P v
      · have h0 : ¬ (on.testBit v = true ∧ ah v = none) := by
          rintro ⟨q1, q2⟩
          rcases upS v hv hP with ⟨h, -⟩ | ⟨-, w, haw, -⟩
          · rw [q1] at h; cases h
          · rw [q2] at haw; cases haw
        rw [if_neg h0]
        rcases up v hv hP with ⟨h5, hS⟩ | ⟨w, h5, hs, hne⟩ | ⟨h5, hon, hg⟩
        · obtain ⟨q1, q2⟩ := N1 v hv hP (by rw [h5]; simp)
          rw [h5] at q2
          have : v = x := p5 v x hP hx (by rw [h5, hcx])
          rw [if_pos ⟨q1, q2⟩, if_pos this]
        · obtain ⟨q1, q2⟩ := N1 v hv hP (by rw [h5]; simp; exact hne)
          rw [h5] at q2
          have hvx : v ≠ x := fun e => by rw [e, hcx] at h5; cases h5
          rw [if_neg (by rw [q2]; simp), if_neg hvx]
        · have q1 := N2 v hv hP h5
          have hvx : v ≠ x := fun e => by rw [e, hcx] at h5; cases h5
          rw [if_neg (by rw [q1]; simp), if_neg hvx]
      · obtain ⟨q1, q2⟩ := N3 v hv hP
        have hvx : v ≠ x := fun e => hP (by rw [e]; exact hx)
        rw [q1, q2, if_neg hvx]
        rfl
    rw [fb_sm_cong key, fb_sm_add, sm_one hx40 (f := fun v => if v = x then 1 else 0) (by simp) (fun k hk => by simp [hk])]
end
section
/-! the search for one more way, step by step; the chain back from its end -/
def oN (o : Option Nat) : Int32 := match o with
  | some z => nI z
  | none => -(nI 1)
theorem oN_none {z : Nat} (h : z < 2 ^ 31) : nI z ≠ -(nI 1) := fun e => nI_pos h (by rw [e]; exact m1_neg)
theorem oN_inj {o p : Option Nat} (ho : ∀ z, o = some z → z < 2 ^ 31) (hp : ∀ z, p = some z → z < 2 ^ 31) (h : oN o = oN p) : o = p := by
  cases o with
  | none =>
    cases p with
    | none => rfl
    | some z => exact absurd h.symm (oN_none (hp z rfl))
  | some y =>
    cases p with
    | none => exact absurd h (oN_none (ho y rfl))
    | some z =>
      have h : nI y = nI z := h
      rw [nI_eq (ho y rfl) (hp z rfl)] at h
      rw [h]
/-- some ends more, all come to from the same -/
def sX (q : Nat) (Q : Nat → Nat) (cf : Nat → Option Nat) (q' : Nat) (Q' : Nat → Nat) (cf' : Nat → Option Nat) (fr : Option Nat) (A : Nat → Prop) : Prop :=
  q ≤ q' ∧ (∀ i, i < q → Q' i = Q i) ∧ (∀ i, i < q → cf' (Q i) = cf (Q i)) ∧ (∀ i, q ≤ i → i < q' → A (Q' i) ∧ cf' (Q' i) = fr) ∧ ∀ y, A y → ∃ j, j < q' ∧ Q' j = y
def one (q : Nat) (Q : Nat → Nat) : Prop := ∀ i j, i < q → j < q → Q i = Q j → i = j
def eV (N : nw) (g C y : Nat) : Prop := (y < 40 ∧ fV N g C y) ∨ (40 ≤ y ∧ fV N g C (y - 40))
theorem rS_fV {N : nw} (hok : nw_ok N) {g C y : Nat} (hC : C_ok N g C) (h : rS N C y) : fV N g C y := by
  obtain ⟨h1, c, hc, hs⟩ := h
  refine ⟨?_, h1⟩
  rcases (hC.2.1 c hc).2 with e | ⟨e, -⟩
  · subst e; exact nB_src hok hs
  · exact nB_trans hok _ _ _ e hs
theorem rE_eV {N : nw} (hok : nw_ok N) {g C on x y : Nat} {ah : Nat → Option Nat} (hC : C_ok N g C) (hw : wS N g C on ah) (hx : eV N g C x) (h : rE N on ah x y) : eV N g C y := by
  rcases h with ⟨hx4, hon, e⟩ | ⟨u, hx4, hon, ha, e⟩ | ⟨u, e, hs⟩ | ⟨u, e, hg, hon, e2⟩
  · rcases hx with ⟨-, hv⟩ | ⟨q, -⟩
    · refine Or.inr ⟨by omega, ?_⟩
      rw [e, show 40 + x - 40 = x by omega]; exact hv
    · omega
  · have := hw.1 u (hw.2.2.1 x u hon ha).1
    refine Or.inr ⟨by omega, ?_⟩
    rw [e, show 40 + u - 40 = u by omega]; exact this
  · rcases hx with ⟨q, -⟩ | ⟨-, hv⟩
    · omega
    · rw [e, show 40 + u - 40 = u by omega] at hv
      have hf : fV N g C y := by
        refine ⟨nB_trans hok _ _ _ hv.1 hs, ?_⟩
        cases hc : C.testBit y with
        | false => rfl
        | true =>
          have := hC.2.2 u y hv.1 hs hc
          rw [hv.2] at this
          cases this
      exact Or.inl ⟨fV_lt hok hf, hf⟩
  · have hf := hw.1 u hon
    subst e2
    exact Or.inl ⟨fV_lt hok hf, hf⟩
theorem bQ_start {N : nw} (hok : nw_ok N) {g C on : Nat} {ah : Nat → Option Nat} {Q Q' : Nat → Nat} {q' : Nat} {cf cf' : Nat → Option Nat} (hC : C_ok N g C) (hd : one q' Q') (hx : sX 0 Q cf q' Q' cf' none (rS N C)) : bQ N g C on ah Q' q' 0 cf' := by
  obtain ⟨-, -, -, h4, h5⟩ := hx
  refine ⟨hd, fun i hi => ?_, fun i hi => ?_, fun y hy => h5 y hy, Nat.zero_le _, fun i hi => absurd hi (by omega)⟩
  · have hf := rS_fV hok hC (h4 i (by omega) hi).1
    exact Or.inl ⟨fV_lt hok hf, hf⟩
  · have h := h4 i (by omega) hi
    exact Or.inl ⟨h.2, h.1, fV_lt hok (rS_fV hok hC h.1)⟩
theorem bQ_step {N : nw} (hok : nw_ok N) {g C on : Nat} {ah : Nat → Option Nat} {Q Q' : Nat → Nat} {q q' p : Nat} {cf cf' : Nat → Option Nat} (hC : C_ok N g C) (hw : wS N g C on ah) (hb : bQ N g C on ah Q q p cf) (hp : p < q) (hd : one q' Q') (hx : sX q Q cf q' Q' cf' (some (Q p)) (rE N on ah (Q p))) (hgt : ∀ u, Q p = 40 + u → isG N u = true) : bQ N g C on ah Q' q' (p + 1) cf' := by
  obtain ⟨b1, b2, b3, b4, b5, b6⟩ := hb
  obtain ⟨x1, x2, x3, x4, x5⟩ := hx
  have old : ∀ y, (∃ j, j < q ∧ Q j = y) → ∃ j, j < q' ∧ Q' j = y := fun y ⟨j, hj, e⟩ => ⟨j, by omega, by rw [x2 j hj]; exact e⟩
  refine ⟨hd, fun i hi => ?_, fun i hi => ?_, fun y hy => old y (b4 y hy), by omega, fun i hi => ?_⟩
  · by_cases h : i < q
    · rw [x2 i h]; exact b2 i h
    · exact rE_eV hok hC hw (b2 p hp) (x4 i (by omega) hi).1
  · by_cases h : i < q
    · rw [x2 i h, x3 i h]
      rcases b3 i h with h3 | ⟨j, hj, h3⟩
      · exact Or.inl h3
      · exact Or.inr ⟨j, hj, by rw [x2 j (by omega)]; exact h3⟩
    · obtain ⟨h3, h4⟩ := x4 i (by omega) hi
      exact Or.inr ⟨p, by omega, by rw [x2 p hp]; exact ⟨h4, h3⟩⟩
  · rw [x2 i (by omega)]
    by_cases h : i < p
    · exact ⟨fun y hy => old y ((b6 i h).1 y hy), (b6 i h).2⟩
    · have e : i = p := by omega
      subst e
      exact ⟨fun y hy => x5 y hy, hgt⟩
/-- back from an end -/
def ch (cf : Nat → Option Nat) (s : Nat) : Nat → Option Nat
  | 0 => some s
  | n + 1 => (ch cf s n).bind cf
theorem ch_succ {cf : Nat → Option Nat} {s n x : Nat} (h : ch cf s n = some x) : ch cf s (n + 1) = cf x := by show (ch cf s n).bind cf = cf x; rw [h]; rfl
theorem ch_pred {cf : Nat → Option Nat} {s n x : Nat} (h : ch cf s (n + 1) = some x) : ∃ y, ch cf s n = some y ∧ cf y = some x := by
  have h : (ch cf s n).bind cf = some x := h
  cases hc : ch cf s n with
  | none => rw [hc] at h; cases h
  | some y => rw [hc] at h; exact ⟨y, rfl, h⟩
theorem ch_down {N : nw} {g C on : Nat} {ah : Nat → Option Nat} {Q : Nat → Nat} {q p : Nat} {cf : Nat → Option Nat} (hb : bQ N g C on ah Q q p cf) {s a i : Nat} (ha : ch cf s a = some (Q i)) (hi : i < q) : ∀ (k x : Nat), ch cf s (a + k) = some x → ∃ j, j + k ≤ i ∧ Q j = x := by
  intro k
  induction k with
  | zero =>
    intro x hx
    rw [Nat.add_zero, ha] at hx
    exact ⟨i, by omega, Option.some.inj hx⟩
  | succ k ih =>
    intro x hx
    obtain ⟨y, h1, h2⟩ := ch_pred (n := a + k) hx
    obtain ⟨j, hj, e⟩ := ih y h1
    rcases hb.2.2.1 j (by omega) with ⟨h3, -⟩ | ⟨l, hl, h3, -⟩
    · rw [e, h2] at h3; cases h3
    · rw [e, h2] at h3
      exact ⟨l, by omega, (Option.some.inj h3).symm⟩
theorem ch_end {cf : Nat → Option Nat} {s n : Nat} (h : ch cf s n = none) : ∀ k, ch cf s (n + k) = none
  | 0 => h
  | k + 1 => by show (ch cf s (n + k)).bind cf = none; rw [ch_end h k]; rfl
/-- whether an end is on the chain, among so many -/
def onC (cf : Nat → Option Nat) (s n x : Nat) : Prop := ∃ k, k < n ∧ ch cf s k = some x
def inC (cf : Nat → Option Nat) (s x : Nat) : Prop := ∃ k, ch cf s k = some x
theorem ch_one {N : nw} {g C on : Nat} {ah : Nat → Option Nat} {Q : Nat → Nat} {q p : Nat} {cf : Nat → Option Nat} (hb : bQ N g C on ah Q q p cf) (hp : p < q) {a b x : Nat} (h1 : ch cf (Q p) a = some x) (h2 : ch cf (Q p) b = some x) : a = b := by
  have key : ∀ a b, a < b → ch cf (Q p) a = some x → ch cf (Q p) b = some x → False := by
    intro a b hab h1 h2
    obtain ⟨i, hi, e⟩ := ch_down hb (a := 0) (i := p) rfl hp a x (by rw [Nat.zero_add]; exact h1)
    have h1' := h1
    rw [← e] at h1'
    obtain ⟨j, hj, e2⟩ := ch_down hb h1' (by omega) (b - a) x (by rw [show a + (b - a) = b by omega]; exact h2)
    have := hb.1 i j (by omega) (by omega) (by rw [e, e2])
    omega
  rcases Nat.lt_trichotomy a b with h | h | h
  · exact (key a b h h1 h2).elim
  · exact h
  · exact (key b a h h2 h1).elim
theorem ch_far {N : nw} {g C on : Nat} {ah : Nat → Option Nat} {Q : Nat → Nat} {q p : Nat} {cf : Nat → Option Nat} (hb : bQ N g C on ah Q q p cf) (hp : p < q) {n : Nat} (hn : p < n) : ch cf (Q p) n = none := by
  cases h : ch cf (Q p) n with
  | none => rfl
  | some x =>
    obtain ⟨j, hj, -⟩ := ch_down hb (a := 0) (i := p) rfl hp n x (by rw [Nat.zero_add]; exact h)
    omega
theorem ch_at {N : nw} {g C on : Nat} {ah : Nat → Option Nat} {Q : Nat → Nat} {q p : Nat} {cf : Nat → Option Nat} (hb : bQ N g C on ah Q q p cf) (hp : p < q) {n x : Nat} (h : ch cf (Q p) n = some x) : ∃ i, i < q ∧ Q i = x := by
  obtain ⟨j, hj, e⟩ := ch_down hb (a := 0) (i := p) rfl hp n x (by rw [Nat.zero_add]; exact h)
  exact ⟨j, by omega, e⟩
theorem ch_pth {N : nw} {g C on : Nat} {ah : Nat → Option Nat} {Q : Nat → Nat} {q p : Nat} {cf : Nat → Option Nat} {leaf : Nat} (hb : bQ N g C on ah Q q p cf) (hp : p < q) (he : Q p = 40 + leaf) (hl : isG N leaf = false) (hl4 : leaf < 40) : pth N g C on ah cf leaf (inC cf (40 + leaf)) := by
  rw [← he]
  obtain ⟨b1, b2, b3, -, -, -⟩ := id hb
  refine ⟨⟨0, by rw [he]; rfl⟩, fun x z ⟨n, hx⟩ hc => ?_, fun x ⟨n, hx⟩ hc => ?_, fun x ⟨n, hx⟩ hne => ?_, fun x y ⟨n, hx⟩ ⟨m, hy⟩ hc => ?_, fun x ⟨n, hx⟩ => ?_, hl, hl4, ?_⟩
  · refine ⟨⟨n + 1, by rw [ch_succ hx, hc]⟩, ?_⟩
    obtain ⟨i, hi, e⟩ := ch_at hb hp hx
    rcases b3 i hi with ⟨h3, -⟩ | ⟨l, -, h3, h4⟩
    · rw [e, hc] at h3; cases h3
    · rw [e, hc] at h3
      rw [e, ← Option.some.inj h3] at h4
      exact h4
  · obtain ⟨i, hi, e⟩ := ch_at hb hp hx
    rcases b3 i hi with ⟨-, h3, h4⟩ | ⟨l, -, h3, -⟩
    · rw [e] at h3 h4; exact ⟨h4, h3⟩
    · rw [e, hc] at h3; cases h3
  · cases n with
    | zero => exact absurd (Option.some.inj hx).symm (by rw [he]; exact hne)
    | succ n =>
      obtain ⟨y, h1, h2⟩ := ch_pred hx
      exact ⟨y, ⟨n, h1⟩, h2⟩
  · cases hcx : cf x with
    | none =>
      have e1 : ch cf (Q p) (n + 1) = none := by rw [ch_succ hx, hcx]
      have e2 : ch cf (Q p) (m + 1) = none := by rw [ch_succ hy, ← hc, hcx]
      have a1 : ¬ n < m := fun h => by
        have := ch_end e1 (m - n - 1)
        rw [show n + 1 + (m - n - 1) = m by omega, hy] at this
        cases this
      have a2 : ¬ m < n := fun h => by
        have := ch_end e2 (n - m - 1)
        rw [show m + 1 + (n - m - 1) = n by omega, hx] at this
        cases this
      have : n = m := by omega
      subst this
      rw [hx] at hy
      exact Option.some.inj hy
    | some z =>
      have := ch_one hb hp (a := n + 1) (b := m + 1) (x := z) (by rw [ch_succ hx, hcx]) (by rw [ch_succ hy, ← hc, hcx])
      have : n = m := by omega
      subst this
      rw [hx] at hy
      exact Option.some.inj hy
  · obtain ⟨i, hi, e⟩ := ch_at hb hp hx
    rw [← e]
    exact b2 i hi
  · have hfar := ch_far hb hp (n := p + 1) (by omega)
    have : ∀ n, ch cf (Q p) n = none → ∃ x, inC cf (Q p) x ∧ cf x = none := by
      intro n
      induction n with
      | zero => intro h; cases h
      | succ n ih =>
        intro h
        cases hc : ch cf (Q p) n with
        | none => exact ih hc
        | some x => exact ⟨x, ⟨n, hc⟩, by rw [← ch_succ hc]; exact h⟩
    exact this _ hfar
end
section
/-! the component's Ways: seeUppers, seeLower, findWay -/
def sQ (σ : jm_G) (q : Nat) (Q : Nat → Nat) (cf : Nat → Option Nat) : Prop :=
  σ.1 10 0 7 = nI q ∧ (∀ i, i < q → Q i < 80 ∧ σ.1 12 0 i = nI (Q i) ∧ σ.1 11 0 (Q i) = oN (cf (Q i))) ∧ one q Q
def add1 (q : Nat) (Q : Nat → Nat) (y : Nat) : Nat → Nat := fun i => if i = q then y else Q i
def addc (cf : Nat → Option Nat) (y : Nat) (f : Option Nat) : Nat → Option Nat := fun x => if x = y then f else cf x
theorem add1_lt {q i y : Nat} {Q : Nat → Nat} (h : i < q) : add1 q Q y i = Q i := if_neg (by omega)
theorem add1_q (q : Nat) (Q : Nat → Nat) (y : Nat) : add1 q Q y q = y := if_pos rfl
theorem addc_y (cf : Nat → Option Nat) (y : Nat) (f : Option Nat) : addc cf y f y = f := if_pos rfl
theorem addc_n {cf : Nat → Option Nat} {x y : Nat} {f : Option Nat} (h : x ≠ y) : addc cf y f x = cf x := if_neg h
theorem one_add {q y : Nat} {Q : Nat → Nat} (h : one q Q) (hy : ∀ i, i < q → Q i ≠ y) : one (q + 1) (add1 q Q y) := by
  intro i j hi hj e
  by_cases h1 : i = q
  · by_cases h2 : j = q
    · omega
    · rw [h1, add1_q, add1_lt (by omega)] at e
      exact absurd e.symm (hy j (by omega))
  · by_cases h2 : j = q
    · rw [h2, add1_q, add1_lt (by omega)] at e
      exact absurd e (hy i (by omega))
    · rw [add1_lt (by omega), add1_lt (by omega)] at e
      exact h i j (by omega) (by omega) e
theorem sQ_q {σ : jm_G} {q y : Nat} {Q : Nat → Nat} {cf : Nat → Option Nat} (h : sQ σ q Q cf) (hy : y < 80) (hn : ∀ i, i < q → Q i ≠ y) : q < 80 := by
  have := fb_holes 80 (q + 1) (add1 q Q y) (fun i hi => by
    by_cases e : i = q
    · rw [e, add1_q]; exact hy
    · rw [add1_lt (by omega)]; exact (h.2.1 i (by omega)).1) (fun i j hij hj e => by
    have := one_add h.2.2 hn i j (by omega) hj e
    omega)
  omega
theorem sQ_add {σ τ : jm_G} {q y : Nat} {Q : Nat → Nat} {cf : Nat → Option Nat} {f : Option Nat} (h : sQ σ q Q cf) (hy : y < 80) (hn : ∀ i, i < q → Q i ≠ y) (h7 : τ.1 10 0 7 = nI (q + 1)) (h11 : τ.1 11 0 = upd (σ.1 11 0) y (oN f)) (h12 : τ.1 12 0 = upd (σ.1 12 0) q (nI y)) : sQ τ (q + 1) (add1 q Q y) (addc cf y f) := by
  refine ⟨h7, fun i hi => ?_, one_add h.2.2 hn⟩
  rw [h11, h12, upd_at, upd_at]
  by_cases e : i = q
  · subst e
    rw [add1_q, if_pos rfl, if_pos rfl, addc_y]
    exact ⟨hy, rfl, rfl⟩
  · have hi' : i < q := by omega
    have := h.2.1 i hi'
    rw [add1_lt hi', if_neg e, if_neg (hn i hi'), addc_n (hn i hi')]
    exact this
def sUp (S q : Nat) (Q : Nat → Nat) : Prop := ∀ v, v < 40 → (S.testBit v = true ↔ ∃ i, i < q ∧ Q i = v)
def sLo (S q : Nat) (Q : Nat → Nat) : Prop := ∀ v, v < 40 → (S.testBit v = true ↔ ∃ i, i < q ∧ Q i = 40 + v)
abbrev ct_seeU (C : jm_C) : Prop := ∀ (S us q : Nat) (Q : Nat → Nat) (cf : Nat → Option Nat) (fr : Option Nat) (σ : jm_G) (post : Option jm_V → jm_G → Prop), S < 2 ^ 40 → us < 2 ^ 40 → σ.2 10 0 5 = lN us → sUp us q Q → sQ σ q Q cf →
  (∀ σ' q' Q' cf', off 10 12 σ σ' → σ'.2 10 0 4 = σ.2 10 0 4 → σ'.2 10 0 5 = lN (us ||| S) → σ'.2 10 0 6 = σ.2 10 0 6 → sQ σ' q' Q' cf' → sUp (us ||| S) q' Q' → sX q Q cf q' Q' cf' fr (fun y => y < 40 ∧ S.testBit y = true ∧ us.testBit y = false) → post none σ') → C kX8_seeUppers [jR 10 0, jJ (lN S), jI (oN fr)] σ post
theorem T_seeU (L : Nat) {C : jm_C} (hC : jm_mon C) (h1 : ct_low C) : ct_seeU (jm_up L C) := by
  intro S us q Q cf fr σ post hS hus h5 hU hQ hp
  refine jm_start rfl (Nat.le_of_ble_eq_true rfl) hC fun X hg hw => ?_
  refine hg [12] 30 _ ?_
  show X (σ, 12, [some (jR 10 0), some (jJ (lN S)), none, some (jI (oN fr)), some (jJ (lN S &&& (σ.2 10 0 5 ^^^ (-1)))), none, none], [])
  rw [h5, lN_andn]
  have hD : sD S us < 2 ^ 40 := sD_lt hS
  have gen : ∀ (m k : Nat), k + m = 40 → ∀ (τ : jm_G) (q' : Nat) (Q' : Nat → Nat) (cf' : Nat → Option Nat), off 10 12 σ τ → τ.2 = σ.2 → sQ τ q' Q' cf' → sX q Q cf q' Q' cf' fr (fun y => y < k ∧ S.testBit y = true ∧ us.testBit y = false) →
      X (τ, 12, [some (jR 10 0), some (jJ (lN S)), none, some (jI (oN fr)), some (jJ (lN (hi (sD S us) k))), none, none], []) := by
    intro m
    induction m with
    | zero =>
      intro k hk τ q' Q' cf' ho h2 hQ' hx
      have e : k = 40 := by omega
      subst e
      rw [hi_end hD]
      refine hg [] 30 _ ?_
      refine br_c (fun h => ?_) (fun h => ?_)
      · refine And.intro trivial ?_
        refine hp _ q' Q' cf' (off_wJ ho (by omega) (by omega)) ?_ ?_ ?_ hQ' ?_ hx
        · show vp_updL (τ.2 10 0) 5 (τ.2 10 0 5 ||| lN S) 4 = _
          rw [updL_at, if_neg (by omega), h2]
        · show vp_updL (τ.2 10 0) 5 (τ.2 10 0 5 ||| lN S) 5 = _
          rw [updL_at, if_pos rfl, h2, h5, fb_orL]
        · show vp_updL (τ.2 10 0) 5 (τ.2 10 0 5 ||| lN S) 6 = _
          rw [updL_at, if_neg (by omega), h2]
        · intro v hv
          obtain ⟨x1, x2, x3, x4, x5⟩ := hx
          rw [Nat.testBit_or, Bool.or_eq_true]
          constructor
          · intro h
            by_cases hb : us.testBit v = true
            · obtain ⟨i, hi, e⟩ := (hU v hv).mp hb
              exact ⟨i, by omega, by rw [x2 i hi]; exact e⟩
            · exact x5 v ⟨hv, h.resolve_left hb, by simpa using hb⟩
          · rintro ⟨i, hi, e⟩
            by_cases hq : i < q
            · rw [x2 i hq] at e
              exact Or.inl ((hU v hv).mpr ⟨i, hq, e⟩)
            · have := (x4 i (by omega) hi).1.2.1
              rw [e] at this
              exact Or.inr this
      · exact absurd ((cmp_0 _ _).mpr rfl) h
    | succ m ih =>
      intro k hk τ q' Q' cf' ho h2 hQ' hx
      obtain ⟨x1, x2, x3, x4, x5⟩ := id hx
      cases hb : (sD S us).testBit k with
      | false =>
        rw [← hi_skip hb]
        have hb' : ¬ (S.testBit k = true ∧ us.testBit k = false) := by
          rintro ⟨a, b⟩
          rw [sD_bit, a, b] at hb
          cases hb
        refine ih (k + 1) (by omega) τ q' Q' cf' ho h2 hQ' ⟨x1, x2, x3, fun i h3 h4 => ?_, fun y hy => ?_⟩
        · obtain ⟨⟨a, b⟩, c⟩ := x4 i h3 h4
          exact ⟨⟨by omega, b⟩, c⟩
        · by_cases e : y = k
          · subst e; exact absurd hy.2 hb'
          · exact x5 y ⟨by omega, hy.2⟩
      | true =>
        have hb2 := hb
        rw [sD_bit, Bool.and_eq_true, Bool.not_eq_true'] at hb2
        have hn : ∀ i, i < q' → Q' i ≠ k := by
          intro i hi e
          by_cases hq : i < q
          · rw [x2 i hq] at e
            have := (hU k (by omega)).mpr ⟨i, hq, e⟩
            rw [hb2.2] at this
            cases this
          · have := (x4 i (by omega) hi).1.1
            omega
        have hq80 := sQ_q hQ' (show k < 80 by omega) hn
        refine hg [12] 40 _ ?_
        refine br_c (fun h => ?_) (fun h => ?_)
        · exact absurd h (hi_n0 hD hb)
        · refine h1 (sD S us) k τ _ (p40 hD) hb ?_
          refine And.intro (vp_in_nI (by omega) (by omega)) ?_
          refine And.intro (show vp_in (τ.1 10 0 7) 80 by rw [hQ'.1]; exact vp_in_nI hq80 (by omega)) ?_
          refine hw _ _ _ [some (jR 10 0), some (jJ (lN S)), none, some (jI (oN fr)), some (jJ (lN (hi (sD S us) k) &&& (lN (hi (sD S us) k) - lN 1))), none, none] _ (by repeat' first | exact trivial | exact rfl | apply And.intro) ?_
          rw [nxt hb]
          refine ih (k + 1) (by omega) _ (q' + 1) (add1 q' Q' k) (addc cf' k fr) (off_wI (off_wI (off_wI ho (by omega) (by omega)) (by omega) (by omega)) (by omega) (by omega)) h2 (sQ_add hQ' (by omega) hn ?_ ?_ ?_) ⟨by omega, fun i hi => ?_, fun i hi => ?_, fun i h3 h4 => ?_, fun y hy => ?_⟩
          · show upd (τ.1 10 0) 7 (τ.1 10 0 7 + nI 1) 7 = _
            rw [upd_at, if_pos rfl, hQ'.1, nI_add]
          · show upd (τ.1 11 0) (nI k).toNatClampNeg (oN fr) = _
            rw [nI_clamp (by omega)]
          · show upd (τ.1 12 0) (τ.1 10 0 7).toNatClampNeg (nI k) = _
            rw [hQ'.1, nI_clamp (by omega)]
          · rw [add1_lt (by omega)]; exact x2 i hi
          · rw [addc_n (by rw [← x2 i hi]; exact hn i (by omega))]; exact x3 i hi
          · by_cases e : i = q'
            · subst e
              rw [add1_q, addc_y]
              exact ⟨⟨by omega, hb2⟩, rfl⟩
            · obtain ⟨⟨a, b⟩, c⟩ := x4 i h3 (by omega)
              rw [add1_lt (by omega), addc_n (by omega)]
              exact ⟨⟨by omega, b⟩, c⟩
          · by_cases e : y = k
            · exact ⟨q', by omega, by rw [add1_q, e]⟩
            · obtain ⟨j, hj, e2⟩ := x5 y ⟨by omega, hy.2⟩
              exact ⟨j, by omega, by rw [add1_lt hj]; exact e2⟩
  have main := gen 40 0 (by omega) σ q Q cf (off_refl _ _ _) rfl hQ ⟨Nat.le_refl _, fun _ _ => rfl, fun _ _ => rfl, fun i h1 h2 => absurd h2 (by omega), fun y hy => absurd hy.1 (by omega)⟩
  rw [hi_0] at main
  exact main
abbrev ct_seeL (C : jm_C) : Prop := ∀ (o : Option Nat) (ls q : Nat) (Q : Nat → Nat) (cf : Nat → Option Nat) (fr : Option Nat) (σ : jm_G) (post : Option jm_V → jm_G → Prop), (∀ u, o = some u → u < 40) → ls < 2 ^ 40 → σ.2 10 0 6 = lN ls → sLo ls q Q → sQ σ q Q cf →
  (∀ σ' ls' q' Q' cf', off 10 12 σ σ' → σ'.2 10 0 4 = σ.2 10 0 4 → σ'.2 10 0 5 = σ.2 10 0 5 → σ'.2 10 0 6 = lN ls' → ls' < 2 ^ 40 → sQ σ' q' Q' cf' → sLo ls' q' Q' → sX q Q cf q' Q' cf' fr (fun y => (∃ u, o = some u ∧ y = 40 + u) ∧ ¬ ∃ i, i < q ∧ Q i = y) → post none σ') → C kX8_seeLower [jR 10 0, jI (oN o), jI (oN fr)] σ post
theorem T_seeL (L : Nat) {C : jm_C} (hC : jm_mon C) (h1 : ct_has C) (h2 : ct_bit C) : ct_seeL (jm_up L C) := by
  intro o ls q Q cf fr σ post ho hls h6 hL hQ hp
  refine jm_start rfl (Nat.le_of_ble_eq_true rfl) hC fun X hg hw => ?_
  refine hg [] 60 _ ?_
  have stay : (¬ ∃ u, o = some u ∧ ¬ ∃ i, i < q ∧ Q i = 40 + u) → post none σ := fun hno =>
    hp σ ls q Q cf (off_refl _ _ _) rfl rfl h6 hls hQ hL ⟨Nat.le_refl _, fun _ _ => rfl, fun _ _ => rfl, fun i h1 h2 => absurd h2 (by omega), fun y hy => by
      obtain ⟨⟨u, e, e2⟩, h⟩ := hy
      exact absurd ⟨u, e, by rw [← e2]; exact h⟩ hno⟩
  cases o with
  | none =>
    refine br_c (fun h => ?_) (fun h => ?_)
    · exact And.intro trivial (stay fun ⟨u, e, _⟩ => by cases e)
    · exact absurd rfl h
  | some u =>
    have hu := ho u rfl
    refine br_c (fun h => ?_) (fun h => ?_)
    · exact absurd h (oN_none (by omega))
    · refine c_has h1 h6 rfl (p40 hls) (by omega) ?_
      refine br_c (fun h => ?_) (fun h => ?_)
      · have h := bI_0.mp h
        have hno : ∀ i, i < q → Q i ≠ 40 + u := fun i hi e => by
          have := (hL u hu).mpr ⟨i, hi, e⟩
          rw [h] at this
          cases this
        have hq80 := sQ_q hQ (show 40 + u < 80 by omega) hno
        refine c_bit h2 rfl (show u < 63 by omega) ?_
        have e4 : nI u + nI 40 = nI (40 + u) := by rw [nI_add, Nat.add_comm]
        refine And.intro (show vp_in (nI u + nI 40) 80 by rw [e4]; exact vp_in_nI (by omega) (by omega)) ?_
        refine And.intro (show vp_in (σ.1 10 0 7) 80 by rw [hQ.1]; exact vp_in_nI hq80 (by omega)) ?_
        refine And.intro trivial ?_
        refine hp _ (ls ||| 2 ^ u) (q + 1) (add1 q Q (40 + u)) (addc cf (40 + u) fr) (off_wI (off_wI (off_wI (off_wJ (off_refl _ _ _) (by omega) (by omega)) (by omega) (by omega)) (by omega) (by omega)) (by omega) (by omega)) ?_ ?_ ?_ (or_lt hls (pw_lt hu)) (sQ_add hQ (by omega) hno ?_ ?_ ?_) ?_ ?_
        · show vp_updL (σ.2 10 0) 6 (σ.2 10 0 6 ||| lN (2 ^ u)) 4 = _
          rw [updL_at, if_neg (by omega)]
        · show vp_updL (σ.2 10 0) 6 (σ.2 10 0 6 ||| lN (2 ^ u)) 5 = _
          rw [updL_at, if_neg (by omega)]
        · show vp_updL (σ.2 10 0) 6 (σ.2 10 0 6 ||| lN (2 ^ u)) 6 = _
          rw [updL_at, if_pos rfl, h6, fb_orL]
        · show upd (σ.1 10 0) 7 (σ.1 10 0 7 + nI 1) 7 = _
          rw [upd_at, if_pos rfl, hQ.1, nI_add]
        · show upd (σ.1 11 0) (nI u + nI 40).toNatClampNeg (oN fr) = _
          rw [e4, nI_clamp (by omega)]
        · show upd (σ.1 12 0) (σ.1 10 0 7).toNatClampNeg (nI u + nI 40) = _
          rw [e4, hQ.1, nI_clamp (by omega)]
        · intro v hv
          rw [or_bit, Bool.or_eq_true, decide_eq_true_eq]
          constructor
          · rintro (h | e)
            · obtain ⟨i, hi, e⟩ := (hL v hv).mp h
              exact ⟨i, by omega, by rw [add1_lt hi]; exact e⟩
            · exact ⟨q, by omega, by rw [add1_q, e]⟩
          · rintro ⟨i, hi, e⟩
            by_cases hq : i = q
            · rw [hq, add1_q] at e
              exact Or.inr (by omega)
            · rw [add1_lt (by omega)] at e
              exact Or.inl ((hL v hv).mpr ⟨i, by omega, e⟩)
        · refine ⟨by omega, fun i hi => add1_lt hi, fun i hi => addc_n (hno i hi), fun i h3 h4 => ?_, fun y hy => ?_⟩
          · have e : i = q := by omega
            subst e
            rw [add1_q, addc_y]
            exact ⟨⟨⟨u, rfl, rfl⟩, fun ⟨i, hi, e⟩ => hno i hi e⟩, rfl⟩
          · obtain ⟨⟨w, e, e2⟩, -⟩ := hy
            have e := Option.some.inj e
            exact ⟨q, by omega, by rw [add1_q]; omega⟩
      · have h := bI_n0.mp h
        exact And.intro trivial (stay fun ⟨w, e, hn⟩ => by
          have e := Option.some.inj e
          subst e
          exact hn ((hL u hu).mp h))
end
section
/-! findWay -/
theorem sX_w {q q' : Nat} {Q Q' : Nat → Nat} {cf cf' : Nat → Option Nat} {fr : Option Nat} {A B : Nat → Prop} (h : sX q Q cf q' Q' cf' fr A) (h1 : ∀ y, A y → B y) (h2 : ∀ y, B y → A y ∨ ∃ i, i < q ∧ Q i = y) : sX q Q cf q' Q' cf' fr B := by
  obtain ⟨x1, x2, x3, x4, x5⟩ := h
  refine ⟨x1, x2, x3, fun i a b => ⟨h1 _ (x4 i a b).1, (x4 i a b).2⟩, fun y hy => ?_⟩
  rcases h2 y hy with h | ⟨i, hi, e⟩
  · exact x5 y h
  · exact ⟨i, by omega, by rw [x2 i hi]; exact e⟩
theorem sQ_le {σ : jm_G} {q : Nat} {Q : Nat → Nat} {cf : Nat → Option Nat} (h : sQ σ q Q cf) : q ≤ 80 :=
  fb_holes 80 q Q (fun i hi => (h.2.1 i hi).1) (fun i j hij hj e => by have := h.2.2 i j (by omega) hj e; omega)
theorem c_seeL {C : jm_C} (h : ct_seeL C) {o : Option Nat} {ls q : Nat} {Q : Nat → Nat} {cf : Nat → Option Nat} {fr : Option Nat} {σ : jm_G} {post : Option jm_V → jm_G → Prop} {x y : Int32} (hx : x = oN o) (hy : y = oN fr) (ho : ∀ u, o = some u → u < 40) (hl : ls < 2 ^ 40) (h6 : σ.2 10 0 6 = lN ls) (hL : sLo ls q Q) (hQ : sQ σ q Q cf)
  (hp : ∀ σ' ls' q' Q' cf', off 10 12 σ σ' → σ'.2 10 0 4 = σ.2 10 0 4 → σ'.2 10 0 5 = σ.2 10 0 5 → σ'.2 10 0 6 = lN ls' → ls' < 2 ^ 40 → sQ σ' q' Q' cf' → sLo ls' q' Q' → sX q Q cf q' Q' cf' fr (fun y => (∃ u, o = some u ∧ y = 40 + u) ∧ ¬ ∃ i, i < q ∧ Q i = y) → post none σ') : C kX8_seeLower [jR 10 0, jI x, jI y] σ post := by
  subst hx; subst hy; exact h o ls q Q cf fr σ post ho hl h6 hL hQ hp
theorem c_seeU {C : jm_C} (h : ct_seeU C) {S us q : Nat} {Q : Nat → Nat} {cf : Nat → Option Nat} {fr : Option Nat} {σ : jm_G} {post : Option jm_V → jm_G → Prop} {x : Int64} {y : Int32} (hx : x = lN S) (hy : y = oN fr) (hS : S < 2 ^ 40) (hu : us < 2 ^ 40) (h5 : σ.2 10 0 5 = lN us) (hU : sUp us q Q) (hQ : sQ σ q Q cf)
  (hp : ∀ σ' q' Q' cf', off 10 12 σ σ' → σ'.2 10 0 4 = σ.2 10 0 4 → σ'.2 10 0 5 = lN (us ||| S) → σ'.2 10 0 6 = σ.2 10 0 6 → sQ σ' q' Q' cf' → sUp (us ||| S) q' Q' → sX q Q cf q' Q' cf' fr (fun y => y < 40 ∧ S.testBit y = true ∧ us.testBit y = false) → post none σ') : C kX8_seeUppers [jR 10 0, jJ x, jI y] σ post := by
  subst hx; subst hy; exact h S us q Q cf fr σ post hS hu h5 hU hQ hp
def ahR (σ : jm_G) (on : Nat) (ah : Nat → Option Nat) : Prop := ∀ v, on.testBit v = true → σ.1 13 0 v = oN (ah v)
abbrev ct_findWay (C : jm_C) : Prop := ∀ (N : nw) (g Cs on St : Nat) (ah : Nat → Option Nat) (σ : jm_G) (post : Option jm_V → jm_G → Prop), nw_ok N → cN N σ → C_ok N g Cs → wS N g Cs on ah → on < 2 ^ 40 → σ.2 10 0 4 = lN on → ahR σ on ah → St < 2 ^ 40 → (∀ y, St.testBit y = true ↔ rS N Cs y) →
  (∀ σ' us ls, off 10 12 σ σ' → σ'.2 10 0 4 = lN on → σ'.2 10 0 5 = lN us → σ'.2 10 0 6 = lN ls → us < 2 ^ 40 → nearC N g Cs (sD us ls) → cnt (sD us ls) 40 = fb_sm (wsrc on ah) 40 → post (some (jI (-(nI 1)))) σ') →
  (∀ σ' leaf q p Q cf, off 10 12 σ σ' → σ'.2 10 0 4 = lN on → sQ σ' q Q cf → bQ N g Cs on ah Q q p cf → p < q → Q p = 40 + leaf → isG N leaf = false → leaf < 40 → post (some (jI (nI leaf))) σ') → C kX8_findWay [jR 10 0, jJ (lN St)] σ post
theorem T_findWay (L : Nat) {C : jm_C} (hC : jm_mon C) (h1 : ct_seeU C) (h2 : ct_seeL C) (h3 : ct_has C) (h4 : ct_bit C) : ct_findWay (jm_up L C) := by
  intro N g Cs on St ah σ post hok hN hCs hws hon h10 hah hSt hS hp1 hp2
  refine jm_start rfl (Nat.le_of_ble_eq_true rfl) hC fun X hg hw => ?_
  refine hg [23] 40 _ ?_
  refine c_seeU h1 (S := St) (us := 0) (q := 0) (Q := fun _ => 0) (cf := fun _ => none) (fr := none) rfl rfl hSt (by omega) ?_ ?_ ⟨?_, fun i hi => absurd hi (by omega), fun i j hi => absurd hi (by omega)⟩ fun τ q Q cf ho e4 e5 e6 hQ hU hx => ?_
  · show vp_updL (vp_updL (σ.2 10 0) 5 (lN 0)) 6 (lN 0) 5 = _
    rw [updL_at, if_neg (by omega), updL_at, if_pos rfl]
  · intro v hv
    rw [Nat.zero_testBit]
    exact ⟨fun h => (by cases h), fun ⟨i, hi, _⟩ => absurd hi (by omega)⟩
  · show upd (σ.1 10 0) 7 (nI 0) 7 = _
    rw [upd_at, if_pos rfl]
  rw [Nat.zero_or] at e5 hU
  have e4' : τ.2 10 0 4 = lN on := by
    rw [e4, ← h10]
    show vp_updL (vp_updL (σ.2 10 0) 5 (lN 0)) 6 (lN 0) 4 = _
    rw [updL_at, if_neg (by omega), updL_at, if_neg (by omega)]
  have e6' : τ.2 10 0 6 = lN 0 := by
    rw [e6]
    show vp_updL (vp_updL (σ.2 10 0) 5 (lN 0)) 6 (lN 0) 6 = _
    rw [updL_at, if_pos rfl]
  have ho' : off 10 12 σ τ := off_trans (off_wI (off_wJ (off_wJ (off_refl _ _ _) (by omega) (by omega)) (by omega) (by omega)) (by omega) (by omega)) ho
  have hx' : sX 0 (fun _ => 0) (fun _ => none) q Q cf none (rS N Cs) := sX_w hx (fun y hy => (hS y).mp hy.2.1) (fun y hy => Or.inl ⟨bit_lt hSt ((hS y).mpr hy), (hS y).mpr hy, Nat.zero_testBit y⟩)
  have hb0 := bQ_start (on := on) (ah := ah) hok hCs hQ.2.2 hx'
  have hL0 : sLo 0 q Q := by
    intro v hv
    rw [Nat.zero_testBit]
    refine ⟨fun h => (by cases h), fun ⟨i, hi, e⟩ => ?_⟩
    have := (hx.2.2.2.1 i (by omega) hi).1.1
    omega
  show X (τ, 23, [some (jR 10 0), some (jJ (lN St)), none, some (jI (nI 0)), none, none, none, none], [])
  have gen : ∀ (m p : Nat), p + m = 81 → ∀ (τ : jm_G) (us ls q : Nat) (Q : Nat → Nat) (cf : Nat → Option Nat), off 10 12 σ τ → τ.2 10 0 4 = lN on → τ.2 10 0 5 = lN us → τ.2 10 0 6 = lN ls → us < 2 ^ 40 → ls < 2 ^ 40 → sQ τ q Q cf → sUp us q Q → sLo ls q Q → bQ N g Cs on ah Q q p cf →
      X (τ, 23, [some (jR 10 0), some (jJ (lN St)), none, some (jI (nI p)), none, none, none, none], []) := by
    intro m
    induction m with
    | zero =>
      intro p hp τ us ls q Q cf _ _ _ _ _ _ hQ _ _ hb
      have := sQ_le hQ
      have := hb.2.2.2.2.1
      omega
    | succ m ih =>
      intro p hp τ us ls q Q cf ho e4 e5 e6 hus hls hQ hU hL hb
      have hq80 := sQ_le hQ
      have hpq := hb.2.2.2.2.1
      refine hg [23] 80 _ ?_
      refine br_c (fun h => ?_) (fun h => ?_)
      · have h : τ.1 10 0 7 ≤ nI p := h
        rw [hQ.1, nI_leI (by omega) (by omega)] at h
        have e : p = q := by omega
        subst e
        have hI : ∀ v, us.testBit v = true ↔ v < 40 ∧ ∃ i, i < p ∧ Q i = v := fun v => ⟨fun h => ⟨bit_lt hus h, (hU v (bit_lt hus h)).mp h⟩, fun h => (hU v h.1).mpr h.2⟩
        have hO : ∀ v, ls.testBit v = true ↔ v < 40 ∧ ∃ i, i < p ∧ Q i = 40 + v := fun v => ⟨fun h => ⟨bit_lt hls h, (hL v (bit_lt hls h)).mp h⟩, fun h => (hL v h.1).mpr h.2⟩
        obtain ⟨r1, r2⟩ := bQ_near hok hCs hws hb hI hO
        exact And.intro trivial (hp1 τ us ls ho e4 e5 e6 hus r1 r2)
      · have h : ¬ τ.1 10 0 7 ≤ nI p := h
        rw [hQ.1, nI_leI (by omega) (by omega)] at h
        have hpq' : p < q := by omega
        obtain ⟨hQ80, hQp, -⟩ := hQ.2.1 p hpq'
        have eN := cN_off hN ho (by omega) (by omega)
        refine And.intro (vp_in_nI (by omega) (by omega)) ?_
        have hend : τ.1 12 0 (nI p).toNatClampNeg = nI (Q p) := by rw [nI_clamp (by omega)]; exact hQp
        have hev := hb.2.1 p hpq'
        by_cases hx4 : Q p < 40
        · -- an upper end
          refine br_c (fun h => ?_) (fun h => ?_)
          · have h : nI 40 ≤ τ.1 12 0 (nI p).toNatClampNeg := h
            rw [hend, nI_leI (by omega) (by omega)] at h
            omega
          · refine br_c (fun _ => ?_) (fun h => absurd rfl h)
            have stp : ∀ (o : Option Nat), (∀ u, o = some u → u < 40) → (∀ y, rE N on ah (Q p) y ↔ ∃ u, o = some u ∧ y = 40 + u) → ∀ (τ' : jm_G) (ls' q' : Nat) (Q' : Nat → Nat) (cf' : Nat → Option Nat), off 10 12 τ τ' → τ'.2 10 0 4 = τ.2 10 0 4 → τ'.2 10 0 5 = τ.2 10 0 5 → τ'.2 10 0 6 = lN ls' → ls' < 2 ^ 40 → sQ τ' q' Q' cf' → sLo ls' q' Q' → sX q Q cf q' Q' cf' (some (Q p)) (fun y => (∃ u, o = some u ∧ y = 40 + u) ∧ ¬ ∃ i, i < q ∧ Q i = y) →
                X (τ', 23, [some (jR 10 0), some (jJ (lN St)), none, some (jI (nI p + nI 1)), none, none, none, none], []) := by
              intro o ho4 hrE τ' ls' q' Q' cf' o1 o4 o5 o6 o7 oQ oL ox
              have hx2 : sX q Q cf q' Q' cf' (some (Q p)) (rE N on ah (Q p)) := sX_w ox (fun y hy => (hrE y).mpr hy.1) (fun y hy => by
                by_cases he : ∃ i, i < q ∧ Q i = y
                · exact Or.inr he
                · exact Or.inl ⟨(hrE y).mp hy, he⟩)
              rw [nI_add]
              refine ih (p + 1) (by omega) τ' us ls' q' Q' cf' (off_trans ho o1) (by rw [o4]; exact e4) (by rw [o5]; exact e5) o6 hus o7 oQ ?_ oL (bQ_step hok hCs hws hb hpq' oQ.2.2 hx2 (fun u e => by omega))
              intro v hv
              rw [hU v hv]
              constructor
              · rintro ⟨i, hi, e⟩
                exact ⟨i, by have := ox.1; omega, by rw [ox.2.1 i hi]; exact e⟩
              · rintro ⟨i, hi, e⟩
                by_cases hq : i < q
                · rw [ox.2.1 i hq] at e; exact ⟨i, hq, e⟩
                · obtain ⟨⟨⟨u, -, e2⟩, -⟩, -⟩ := ox.2.2.2.1 i (by omega) hi
                  omega
            refine c_has h3 e4 hend (p40 hon) (by omega) ?_
            refine br_c (fun h => ?_) (fun h => ?_)
            · have h := bI_0.mp h
              refine c_seeL h2 (o := some (Q p)) (fr := some (Q p)) hend hend (fun u e => by have := Option.some.inj e; omega) hls e6 hL hQ fun τ' ls' q' Q' cf' o1 o4 o5 o6 o7 oQ oL ox => ?_
              refine hw _ _ _ [some (jR 10 0), some (jJ (lN St)), none, some (jI (nI p + nI 1)), none, none, none, none] _ (by repeat' first | exact trivial | exact rfl | apply And.intro) ?_
              refine stp (some (Q p)) (fun u e => by have := Option.some.inj e; omega) (fun y => ⟨?_, ?_⟩) τ' ls' q' Q' cf' o1 o4 o5 o6 o7 oQ oL ox
              · rintro (⟨-, -, e⟩ | ⟨u, -, h5, -⟩ | ⟨u, e, -⟩ | ⟨u, e, -⟩)
                · exact ⟨Q p, rfl, e⟩
                · rw [h] at h5; cases h5
                · omega
                · omega
              · rintro ⟨u, e, e2⟩
                have e := Option.some.inj e
                exact Or.inl ⟨hx4, h, by omega⟩
            · have h := bI_n0.mp h
              refine And.intro (show vp_in (τ.1 12 0 (nI p).toNatClampNeg) 40 by rw [hend]; exact vp_in_nI (by omega) (by omega)) ?_
              have hav : τ.1 13 0 (τ.1 12 0 (nI p).toNatClampNeg).toNatClampNeg = oN (ah (Q p)) := by
                rw [hend, nI_clamp (by omega), (ho 13 0 (by omega)).1]
                exact hah _ h
              have ha4 : ∀ u, ah (Q p) = some u → u < 40 := fun u e => fV_lt hok (hws.1 u (hws.2.2.1 _ u h e).1)
              refine c_seeL h2 (o := ah (Q p)) (fr := some (Q p)) hav hend ha4 hls e6 hL hQ fun τ' ls' q' Q' cf' o1 o4 o5 o6 o7 oQ oL ox => ?_
              refine hw _ _ _ [some (jR 10 0), some (jJ (lN St)), none, some (jI (nI p + nI 1)), none, none, none, none] _ (by repeat' first | exact trivial | exact rfl | apply And.intro) ?_
              refine stp (ah (Q p)) ha4 (fun y => ⟨?_, ?_⟩) τ' ls' q' Q' cf' o1 o4 o5 o6 o7 oQ oL ox
              · rintro (⟨-, h5, e⟩ | ⟨u, -, -, h5, h6⟩ | ⟨u, e, -⟩ | ⟨u, e, -⟩)
                · rw [h] at h5; cases h5
                · exact ⟨u, h5, h6⟩
                · omega
                · omega
              · rintro ⟨u, e, e2⟩
                exact Or.inr (Or.inl ⟨u, hx4, h, e, e2⟩)
        · -- a lower end
          have hsub : τ.1 12 0 (nI p).toNatClampNeg - nI 40 = nI (Q p - 40) := by rw [hend, pk_sub (by omega)]
          have hfV : fV N g Cs (Q p - 40) := by
            rcases hev with ⟨q1, -⟩ | ⟨-, q1⟩
            · omega
            · exact q1
          have hu40 : Q p - 40 < 40 := fV_lt hok hfV
          refine br_c (fun h => ?_) (fun h => ?_)
          · refine br_c (fun h => ?_) (fun _ => ?_)
            · have h : τ.1 12 0 (nI p).toNatClampNeg = τ.1 12 0 (nI p).toNatClampNeg - nI 40 := h
              rw [hsub, hend, nI_eq (by omega) (by omega)] at h
              omega
            · refine c_has h3 eN.2.2.1 hsub (p40 (gM_lt hok)) (by omega) ?_
              rw [gM_bit]
              refine br_c (fun h => ?_) (fun h => ?_)
              · have h := bI_0.mp h
                refine And.intro trivial ?_
                show post (some (jI (τ.1 12 0 (nI p).toNatClampNeg - nI 40))) τ
                rw [hsub]
                exact hp2 τ (Q p - 40) q p Q cf ho e4 hQ hb hpq' (by omega) h hu40
              · have h := bI_n0.mp h
                refine c_bit h4 hsub (by omega) ?_
                refine And.intro (show vp_in (τ.1 12 0 (nI p).toNatClampNeg - nI 40) 40 by rw [hsub]; exact vp_in_nI hu40 (by omega)) ?_
                have hSv : τ.2 6 0 (τ.1 12 0 (nI p).toNatClampNeg - nI 40).toNatClampNeg ||| (τ.2 10 0 4 &&& lN (2 ^ (Q p - 40))) = lN (sM N (Q p - 40) ||| (on &&& 2 ^ (Q p - 40))) := by
                  rw [hsub, nI_clamp (by omega), eN.2.2.2.2.2.2.2.1 _ hu40, e4, fb_andL, fb_orL]
                have hSb : ∀ y, (sM N (Q p - 40) ||| (on &&& 2 ^ (Q p - 40))).testBit y = true ↔ rE N on ah (Q p) y := by
                  intro y
                  rw [Nat.testBit_or, Nat.testBit_and, Nat.testBit_two_pow, Bool.or_eq_true, Bool.and_eq_true, decide_eq_true_eq]
                  constructor
                  · rintro (h5 | ⟨h5, h6⟩)
                    · exact Or.inr (Or.inr (Or.inl ⟨Q p - 40, by omega, h5⟩))
                    · exact Or.inr (Or.inr (Or.inr ⟨Q p - 40, by omega, h, by rw [h6]; exact h5, h6.symm⟩))
                  · rintro (⟨q1, -⟩ | ⟨u, q1, -⟩ | ⟨u, e, q1⟩ | ⟨u, e, -, q1, q2⟩)
                    · omega
                    · omega
                    · rw [show Q p - 40 = u by omega]; exact Or.inl q1
                    · rw [show Q p - 40 = u by omega, q2]; exact Or.inr ⟨q1, rfl⟩
                have hSl : sM N (Q p - 40) ||| (on &&& 2 ^ (Q p - 40)) < 2 ^ 40 := or_lt (sM_lt40 hok _) (Nat.lt_of_le_of_lt Nat.and_le_left hon)
                refine c_seeU h1 (S := sM N (Q p - 40) ||| (on &&& 2 ^ (Q p - 40))) (fr := some (Q p)) hSv hend hSl hus e5 hU hQ fun τ' q' Q' cf' o1 o4 o5 o6 oQ oU ox => ?_
                refine hw _ _ _ [some (jR 10 0), some (jJ (lN St)), none, some (jI (nI p + nI 1)), none, none, none, none] _ (by repeat' first | exact trivial | exact rfl | apply And.intro) ?_
                have hx2 : sX q Q cf q' Q' cf' (some (Q p)) (rE N on ah (Q p)) := sX_w ox (fun y hy => (hSb y).mp hy.2.1) (fun y hy => by
                  have hy4 := bit_lt hSl ((hSb y).mpr hy)
                  cases hc : us.testBit y with
                  | true => exact Or.inr ((hU y hy4).mp hc)
                  | false => exact Or.inl ⟨hy4, (hSb y).mpr hy, rfl⟩)
                rw [nI_add]
                refine ih (p + 1) (by omega) τ' _ ls q' Q' cf' (off_trans ho o1) (by rw [o4]; exact e4) o5 (by rw [o6]; exact e6) (or_lt hus hSl) hls oQ oU ?_ (bQ_step hok hCs hws hb hpq' oQ.2.2 hx2 (fun u e => by rw [show u = Q p - 40 by omega]; exact h))
                intro v hv
                rw [hL v hv]
                constructor
                · rintro ⟨i, hi, e⟩
                  exact ⟨i, by have := ox.1; omega, by rw [ox.2.1 i hi]; exact e⟩
                · rintro ⟨i, hi, e⟩
                  by_cases hq : i < q
                  · rw [ox.2.1 i hq] at e; exact ⟨i, hq, e⟩
                  · obtain ⟨⟨e2, -⟩, -⟩ := ox.2.2.2.1 i (by omega) hi
                    omega
          · have h : ¬ nI 40 ≤ τ.1 12 0 (nI p).toNatClampNeg := h
            rw [hend, nI_leI (by omega) (by omega)] at h
            omega
  exact gen 81 0 (by omega) τ St 0 q Q cf ho' e4' e5 e6' hSt (by omega) hQ hU hL0 hb0
end
section
/-! layWay, nearestCut -/
theorem onC_succ {cf : Nat → Option Nat} {s n x y : Nat} (h : ch cf s n = some x) : onC cf s (n + 1) y ↔ onC cf s n y ∨ y = x := by
  constructor
  · rintro ⟨k, hk, e⟩
    by_cases hkn : k = n
    · subst hkn
      rw [h] at e
      exact Or.inr (Option.some.inj e).symm
    · exact Or.inl ⟨k, by omega, e⟩
  · rintro (⟨k, hk, e⟩ | e)
    · exact ⟨k, by omega, e⟩
    · subst e; exact ⟨n, by omega, h⟩
theorem onC_all {cf : Nat → Option Nat} {s n x : Nat} (h : ch cf s n = none) : onC cf s n x ↔ inC cf s x := by
  constructor
  · rintro ⟨k, -, e⟩; exact ⟨k, e⟩
  · rintro ⟨k, e⟩
    refine ⟨k, ?_, e⟩
    by_cases hk : k < n
    · exact hk
    · have := ch_end h (k - n)
      rw [show n + (k - n) = k by omega, e] at this
      cases this
/-- an end and the one that it was come to from, not both ways round -/
theorem cf_asym {N : nw} {g C on : Nat} {ah : Nat → Option Nat} {Q : Nat → Nat} {q p : Nat} {cf : Nat → Option Nat} (hb : bQ N g C on ah Q q p cf) {x y : Nat} (hx : ∃ i, i < q ∧ Q i = x) (hy : ∃ i, i < q ∧ Q i = y) (h1 : cf x = some y) (h2 : cf y = some x) : False := by
  obtain ⟨i, hi, e⟩ := hx
  obtain ⟨j, hj, f⟩ := hy
  have a : j < i := by
    rcases hb.2.2.1 i hi with ⟨h3, -⟩ | ⟨l, hl, h3, -⟩
    · rw [e, h1] at h3; cases h3
    · rw [e, h1] at h3
      have := hb.1 j l hj (by omega) (by rw [f]; exact Option.some.inj h3)
      omega
  have b : i < j := by
    rcases hb.2.2.1 j hj with ⟨h3, -⟩ | ⟨l, hl, h3, -⟩
    · rw [f, h2] at h3; cases h3
    · rw [f, h2] at h3
      have := hb.1 i l hi (by omega) (by rw [e]; exact Option.some.inj h3)
      omega
  omega
def lay (on on' : Nat) (cf : Nat → Option Nat) (D : Nat → Prop) : Prop := ∀ v, v < 40 → (D (40 + v) → cf (40 + v) = some v → on'.testBit v = true) ∧ (D v → cf v = some (40 + v) → on'.testBit v = false) ∧ (¬ (D (40 + v) ∧ cf (40 + v) = some v) → ¬ (D v ∧ cf v = some (40 + v)) → on'.testBit v = on.testBit v)
def layA (a a' : Nat → Int32) (cf : Nat → Option Nat) (D : Nat → Prop) : Prop := ∀ v, v < 40 → (D v → cf v ≠ some (40 + v) → a' v = oN ((cf v).map fun z => z - 40)) ∧ (¬ (D v ∧ cf v ≠ some (40 + v)) → a' v = a v)
abbrev ct_layWay (C : jm_C) : Prop := ∀ (N : nw) (g Cs on leaf q p : Nat) (Q : Nat → Nat) (ah cf : Nat → Option Nat) (σ : jm_G) (post : Option jm_V → jm_G → Prop), nw_ok N → C_ok N g Cs → wS N g Cs on ah → on < 2 ^ 40 → σ.2 10 0 4 = lN on → ahR σ on ah → sQ σ q Q cf → bQ N g Cs on ah Q q p cf → p < q → Q p = 40 + leaf → isG N leaf = false → leaf < 40 →
  (∀ σ' on' ah', off 10 13 σ σ' → on' < 2 ^ 40 → σ'.2 10 0 4 = lN on' → ahR σ' on' ah' → wS N g Cs on' ah' → fb_sm (wsrc on' ah') 40 = fb_sm (wsrc on ah) 40 + 1 → post none σ') → C kX8_layWay [jR 10 0, jI (nI (40 + leaf))] σ post
theorem sD_pw (S k i : Nat) : (sD S (2 ^ k)).testBit i = (S.testBit i && !decide (i = k)) := by
  rw [sD_bit, Nat.testBit_two_pow]
  by_cases e : k = i
  · subst e; simp
  · have : ¬ i = k := fun h => e h.symm
    simp [e, this]
theorem T_layWay (L : Nat) {C : jm_C} (hC : jm_mon C) (h1 : ct_bit C) : ct_layWay (jm_up L C) := by
  intro N g Cs on leaf q p Q ah cf σ post hok hCs hws hon h4 hah hQ hb hpq hQp hlf hl4 hp
  refine jm_start rfl (Nat.le_of_ble_eq_true rfl) hC fun X hg hw => ?_
  have hn := hok.1
  have hq80 := sQ_le hQ
  refine hg [4] 30 _ ?_
  show X (σ, 4, [some (jR 10 0), some (jI (nI (40 + leaf))), some (jI (nI (40 + leaf))), some (jI (nI 0)), none], [])
  have hpth := ch_pth hb hpq hQp hlf hl4
  have fin : ∀ n τ onN, ch cf (40 + leaf) n = none → off 10 13 σ τ → onN < 2 ^ 40 → τ.2 10 0 4 = lN onN → lay on onN cf (onC cf (40 + leaf) n) → layA (σ.1 13 0) (τ.1 13 0) cf (onC cf (40 + leaf) n) → post none τ := by
    intro n τ onN hnone ho ho4 e4 hl ha
    have hP : ∀ x, onC cf (40 + leaf) n x ↔ inC cf (40 + leaf) x := fun x => onC_all hnone
    obtain ⟨D, hD⟩ : ∃ D : Nat → Bool, ∀ v, D v = true ↔ (inC cf (40 + leaf) v ∧ cf v ≠ some (40 + v)) := pick _
    have hnew : pNew on onN ah (fun v => if D v then (cf v).map (fun z => z - 40) else ah v) cf (inC cf (40 + leaf)) := by
      intro v hv
      obtain ⟨l1, l2, l3⟩ := hl v hv
      rw [hP, hP] at l3
      rw [hP] at l1 l2
      refine ⟨⟨fun h => l1 h.1 h.2, fun h => l2 h.1 h.2, l3⟩, fun h => ?_, fun h => ?_⟩
      · show (if D v then _ else _) = _
        rw [if_pos ((hD v).mpr h)]
      · show (if D v then _ else _) = _
        rw [if_neg (fun e => h ((hD v).mp e))]
    obtain ⟨w1, w2⟩ := pth_ws hok hCs hws hpth hnew ho4
    refine hp τ onN _ ho ho4 e4 ?_ w1 w2
    intro v hv
    have hv4 := bit_lt ho4 hv
    obtain ⟨a1, a2⟩ := ha v hv4
    rw [hP] at a1 a2
    show _ = oN (if D v then _ else _)
    by_cases hd : D v = true
    · rw [if_pos hd]
      exact a1 ((hD v).mp hd).1 ((hD v).mp hd).2
    · rw [if_neg hd, a2 (fun e => hd ((hD v).mpr e))]
      apply hah
      obtain ⟨l1, l2, l3⟩ := hl v hv4
      rw [hP] at l2
      rw [hP, hP] at l3
      rw [← l3 ?_ ?_]
      · exact hv
      · rintro ⟨k1, k2⟩
        have hPv := (hpth.2.1 _ _ k1 k2).1
        apply hd
        refine (hD v).mpr ⟨hPv, fun e => ?_⟩
        obtain ⟨n1, c1⟩ := k1
        obtain ⟨n2, c2⟩ := hPv
        rw [← hQp] at c1 c2
        exact cf_asym hb (ch_at hb hpq c1) (ch_at hb hpq c2) k2 e
      · rintro ⟨k1, k2⟩
        rw [l2 k1 k2] at hv
        cases hv
  have gen : ∀ (m n : Nat), n + m = 80 → ∀ (τ : jm_G) (onN : Nat), off 10 13 σ τ → τ.1 11 0 = σ.1 11 0 → onN < 2 ^ 40 → τ.2 10 0 4 = lN onN → lay on onN cf (onC cf (40 + leaf) n) → layA (σ.1 13 0) (τ.1 13 0) cf (onC cf (40 + leaf) n) →
      X (τ, 4, [some (jR 10 0), some (jI (nI (40 + leaf))), some (jI (oN (ch cf (40 + leaf) n))), some (jI (nI n)), none], []) := by
    intro m
    induction m with
    | zero =>
      intro n hnm τ onN ho e11 ho4 e4 hl ha
      have e : n = 80 := by omega
      subst e
      refine hg [4] 60 _ ?_
      refine br_c (fun h => ?_) (fun h => ?_)
      · exact And.intro trivial (fin 80 τ onN (by rw [← hQp]; exact ch_far hb hpq (by omega)) ho ho4 e4 hl ha)
      · exact absurd (show nI 80 ≤ nI 80 from (nI_leI (by omega) (by omega)).mpr (Nat.le_refl _)) h
    | succ m ih =>
      intro n hnm τ onN ho e11 ho4 e4 hl ha
      cases hcx : ch cf (40 + leaf) n with
      | none =>
        refine hg [4] 60 _ ?_
        refine br_c (fun h => ?_) (fun h => ?_)
        · have h : nI 80 ≤ nI n := h
          rw [nI_leI (by omega) (by omega)] at h
          omega
        · refine br_c (fun h => ?_) (fun h => ?_)
          · exact And.intro trivial (fin n τ onN hcx ho ho4 e4 hl ha)
          · exact absurd rfl h
      | some x =>
        obtain ⟨i, hi, hix⟩ := ch_at hb hpq (n := n) (x := x) (by rw [hQp]; exact hcx)
        obtain ⟨hx80, -, hcf⟩ := hQ.2.1 i hi
        rw [hix] at hx80 hcf
        have hfr : τ.1 11 0 (nI x).toNatClampNeg = oN (cf x) := by rw [nI_clamp (by omega), e11]; exact hcf
        have hnx : ch cf (40 + leaf) (n + 1) = cf x := ch_succ hcx
        have hPx : inC cf (40 + leaf) x := ⟨n, hcx⟩
        have hz80 : ∀ z, cf x = some z → z < 2 ^ 31 := by
          intro z hz
          obtain ⟨j, hj, e⟩ := ch_at hb hpq (n := n + 1) (x := z) (by rw [hQp, hnx, hz])
          have := (hQ.2.1 j hj).1
          omega
        have asym : ∀ v, onC cf (40 + leaf) (n + 1) (40 + v) → cf (40 + v) = some v → cf v = some (40 + v) → False := by
          rintro v ⟨k1, -, c1⟩ k2 k3
          have c2 := ch_succ c1
          rw [k2] at c2
          rw [← hQp] at c1 c2
          exact cf_asym hb (ch_at hb hpq c1) (ch_at hb hpq c2) k2 k3
        have hst : ∀ y, onC cf (40 + leaf) (n + 1) y ↔ onC cf (40 + leaf) n y ∨ y = x := fun y => onC_succ hcx
        refine hg [4] 60 _ ?_
        refine br_c (fun h => ?_) (fun h => ?_)
        · have h : nI 80 ≤ nI n := h
          rw [nI_leI (by omega) (by omega)] at h
          omega
        · refine br_c (fun h => ?_) (fun h => ?_)
          · exact absurd h (oN_none (by omega))
          · refine And.intro (vp_in_nI (by omega) (by omega)) ?_
            have nxtS : ∀ (τ' : jm_G) (onN' : Nat), off 10 13 σ τ' → τ'.1 11 0 = σ.1 11 0 → onN' < 2 ^ 40 → τ'.2 10 0 4 = lN onN' → lay on onN' cf (onC cf (40 + leaf) (n + 1)) → layA (σ.1 13 0) (τ'.1 13 0) cf (onC cf (40 + leaf) (n + 1)) →
                X (τ', 4, [some (jR 10 0), some (jI (nI (40 + leaf))), some (jI (τ.1 11 0 (nI x).toNatClampNeg)), some (jI (nI n + nI 1)), some (jI (τ.1 11 0 (nI x).toNatClampNeg))], []) := by
              intro τ' onN' o1 o2 o3 o4 o5 o6
              refine hw _ _ _ [some (jR 10 0), some (jI (nI (40 + leaf))), some (jI (τ.1 11 0 (nI x).toNatClampNeg)), some (jI (nI n + nI 1)), none] _ (by repeat' first | exact trivial | exact rfl | apply And.intro) ?_
              rw [hfr, ← hnx, nI_add]
              exact ih (n + 1) (by omega) τ' onN' o1 o2 o3 o4 o5 o6
            refine br_c (fun h => ?_) (fun h => ?_)
            · have h : nI x < nI 40 := h
              rw [nI_ltI (by omega) (by omega)] at h
              have e40 : nI x + nI 40 = nI (40 + x) := by rw [nI_add, Nat.add_comm]
              refine br_c (fun h5 => ?_) (fun h5 => ?_)
              · have h5 : τ.1 11 0 (nI x).toNatClampNeg = nI x + nI 40 := h5
                rw [hfr, e40] at h5
                have hcx4 : cf x = some (40 + x) := oN_inj hz80 (fun z e => by have := Option.some.inj e; omega) h5
                refine c_bit h1 rfl (show x < 63 by omega) ?_
                refine nxtS _ (sD onN (2 ^ x)) (off_wJ ho (by omega) (by omega)) e11 (sD_lt ho4) ?_ ?_ ?_
                · show vp_updL (τ.2 10 0) 4 (τ.2 10 0 4 &&& (lN (2 ^ x) ^^^ (-1))) 4 = _
                  rw [updL_at, if_pos rfl, e4, lN_andn]
                · intro v hv
                  obtain ⟨l1, l2, l3⟩ := hl v hv
                  by_cases e : v = x
                  · subst e
                    refine ⟨fun h6 h7 => (asym v h6 h7 hcx4).elim, fun _ _ => ?_, fun _ h6 => absurd ⟨(hst v).mpr (Or.inr rfl), hcx4⟩ h6⟩
                    rw [sD_pw]; simp
                  · have s1 : onC cf (40 + leaf) (n + 1) (40 + v) ↔ onC cf (40 + leaf) n (40 + v) := by rw [hst]; exact ⟨fun h => h.resolve_right (by omega), Or.inl⟩
                    have s2 : onC cf (40 + leaf) (n + 1) v ↔ onC cf (40 + leaf) n v := by rw [hst]; exact ⟨fun h => h.resolve_right e, Or.inl⟩
                    rw [s1, s2, sD_pw]
                    simp only [e, decide_false, Bool.not_false, Bool.and_true]
                    exact ⟨l1, l2, l3⟩
                · intro v hv
                  obtain ⟨a1, a2⟩ := ha v hv
                  by_cases e : v = x
                  · subst e
                    exact ⟨fun _ h7 => absurd hcx4 h7, fun _ => a2 fun h8 => h8.2 hcx4⟩
                  · have s2 : onC cf (40 + leaf) (n + 1) v ↔ onC cf (40 + leaf) n v := by rw [hst]; exact ⟨fun h => h.resolve_right e, Or.inl⟩
                    rw [s2]
                    exact ⟨a1, a2⟩
              · have h5 : ¬ τ.1 11 0 (nI x).toNatClampNeg = nI x + nI 40 := h5
                rw [hfr, e40] at h5
                have hne : cf x ≠ some (40 + x) := fun e => h5 (by rw [e]; rfl)
                have layS : lay on onN cf (onC cf (40 + leaf) (n + 1)) := by
                  intro v hv
                  obtain ⟨l1, l2, l3⟩ := hl v hv
                  have s1 : onC cf (40 + leaf) (n + 1) (40 + v) ↔ onC cf (40 + leaf) n (40 + v) := by rw [hst]; exact ⟨fun h => h.resolve_right (by omega), Or.inl⟩
                  rw [s1]
                  by_cases e : v = x
                  · subst e
                    exact ⟨l1, fun _ h7 => absurd h7 hne, fun h6 _ => l3 h6 fun h8 => hne h8.2⟩
                  · have s2 : onC cf (40 + leaf) (n + 1) v ↔ onC cf (40 + leaf) n v := by rw [hst]; exact ⟨fun h => h.resolve_right e, Or.inl⟩
                    rw [s2]
                    exact ⟨l1, l2, l3⟩
                have layT : ∀ w, w = oN ((cf x).map fun z => z - 40) → layA (σ.1 13 0) (upd (τ.1 13 0) (nI x).toNatClampNeg w) cf (onC cf (40 + leaf) (n + 1)) := by
                  intro w hw9 v hv
                  obtain ⟨a1, a2⟩ := ha v hv
                  rw [nI_clamp (by omega), upd_at]
                  by_cases e : v = x
                  · subst e
                    rw [if_pos rfl]
                    exact ⟨fun _ _ => hw9, fun h8 => absurd ⟨(hst v).mpr (Or.inr rfl), hne⟩ h8⟩
                  · have s2 : onC cf (40 + leaf) (n + 1) v ↔ onC cf (40 + leaf) n v := by rw [hst]; exact ⟨fun h => h.resolve_right e, Or.inl⟩
                    rw [s2, if_neg e]
                    exact ⟨a1, a2⟩
                refine br_c (fun h6 => ?_) (fun h6 => ?_)
                · have h6 : τ.1 11 0 (nI x).toNatClampNeg = -(nI 1) := h6
                  rw [hfr] at h6
                  have hcn : cf x = none := oN_inj (p := none) hz80 (fun z e => by cases e) h6
                  refine And.intro (vp_in_nI (by omega) (by omega)) ?_
                  refine nxtS _ onN (off_wI ho (by omega) (by omega)) e11 ho4 e4 layS ?_
                  refine layT _ ?_
                  rw [hcn]; rfl
                · have h6 : ¬ τ.1 11 0 (nI x).toNatClampNeg = -(nI 1) := h6
                  rw [hfr] at h6
                  refine And.intro (vp_in_nI (by omega) (by omega)) ?_
                  refine nxtS _ onN (off_wI ho (by omega) (by omega)) e11 ho4 e4 layS ?_
                  refine layT _ ?_
                  show τ.1 11 0 (nI x).toNatClampNeg - nI 40 = _
                  rw [hfr]
                  cases hcz : cf x with
                  | none => rw [hcz] at h6; exact absurd rfl h6
                  | some z =>
                    have hr := (hpth.2.1 x z hPx hcz).2
                    have hz40 : 40 ≤ z := by
                      rcases hr with ⟨_, _, e⟩ | ⟨u, _, _, _, e⟩ | ⟨u, e, _⟩ | ⟨u, e, _, _, _⟩ <;> omega
                    show nI z - nI 40 = nI (z - 40)
                    exact pk_sub hz40
            · have h : ¬ nI x < nI 40 := h
              rw [nI_ltI (by omega) (by omega)] at h
              have e40 : nI x - nI 40 = nI (x - 40) := pk_sub (by omega)
              have layU : layA (σ.1 13 0) (τ.1 13 0) cf (onC cf (40 + leaf) (n + 1)) := by
                intro v hv
                have s2 : onC cf (40 + leaf) (n + 1) v ↔ onC cf (40 + leaf) n v := by rw [hst]; exact ⟨fun h => h.resolve_right (by omega), Or.inl⟩
                rw [s2]
                exact ha v hv
              refine br_c (fun h5 => ?_) (fun h5 => ?_)
              · have h5 : τ.1 11 0 (nI x).toNatClampNeg = nI x - nI 40 := h5
                have h5' := h5
                rw [hfr, e40] at h5'
                have hcx4 : cf x = some (x - 40) := oN_inj hz80 (fun z e => by have := Option.some.inj e; omega) h5'
                refine c_bit h1 (h5.trans e40) (by omega) ?_
                refine nxtS _ (onN ||| 2 ^ (x - 40)) (off_wJ ho (by omega) (by omega)) e11 (or_lt ho4 (pw_lt (by omega))) ?_ ?_ layU
                · show vp_updL (τ.2 10 0) 4 (τ.2 10 0 4 ||| lN (2 ^ (x - 40))) 4 = _
                  rw [updL_at, if_pos rfl, e4, fb_orL]
                · intro v hv
                  obtain ⟨l1, l2, l3⟩ := hl v hv
                  have s2 : onC cf (40 + leaf) (n + 1) v ↔ onC cf (40 + leaf) n v := by rw [hst]; exact ⟨fun h => h.resolve_right (by omega), Or.inl⟩
                  by_cases e : v = x - 40
                  · have ex : 40 + v = x := by omega
                    have hon2 : onC cf (40 + leaf) (n + 1) (40 + v) := (hst _).mpr (Or.inr ex)
                    have hcv : cf (40 + v) = some v := by rw [ex, hcx4, e]
                    refine ⟨fun _ _ => ?_, fun _ h7 => (asym v hon2 hcv h7).elim, fun h6 _ => absurd ⟨hon2, hcv⟩ h6⟩
                    rw [or_bit]; simp [e]
                  · have s1 : onC cf (40 + leaf) (n + 1) (40 + v) ↔ onC cf (40 + leaf) n (40 + v) := by rw [hst]; exact ⟨fun h => h.resolve_right (by omega), Or.inl⟩
                    rw [s1, s2, or_bit]
                    simp only [e, decide_false, Bool.or_false]
                    exact ⟨l1, l2, l3⟩
              · have h5 : ¬ τ.1 11 0 (nI x).toNatClampNeg = nI x - nI 40 := h5
                rw [hfr, e40] at h5
                refine nxtS τ onN ho e11 ho4 e4 ?_ layU
                intro v hv
                obtain ⟨l1, l2, l3⟩ := hl v hv
                have s2 : onC cf (40 + leaf) (n + 1) v ↔ onC cf (40 + leaf) n v := by rw [hst]; exact ⟨fun h => h.resolve_right (by omega), Or.inl⟩
                rw [s2]
                by_cases e : v = x - 40
                · have ex : 40 + v = x := by omega
                  have hcv : cf (40 + v) ≠ some v := fun h8 => h5 (by rw [ex] at h8; rw [h8, e]; rfl)
                  exact ⟨fun _ h8 => absurd h8 hcv, l2, fun _ h8 => l3 (fun h9 => hcv h9.2) h8⟩
                · have s1 : onC cf (40 + leaf) (n + 1) (40 + v) ↔ onC cf (40 + leaf) n (40 + v) := by rw [hst]; exact ⟨fun h => h.resolve_right (by omega), Or.inl⟩
                  rw [s1]
                  exact ⟨l1, l2, l3⟩
  exact gen 80 0 (by omega) σ on (off_refl _ _ _) rfl hon h4 (fun v hv => ⟨fun h => absurd h (by rintro ⟨k, hk, -⟩; omega), fun h => absurd h (by rintro ⟨k, hk, -⟩; omega), fun _ _ => rfl⟩) (fun v hv => ⟨fun h => absurd h (by rintro ⟨k, hk, -⟩; omega), fun _ => rfl⟩)
end
section
/-! nearestCut -/
theorem flow_le {N : nw} (hok : nw_ok N) {g C : Nat} (hC : C_ok N g C) {t : Nat → Nat} {e : Nat → Nat → Nat} {s : Nat → Nat} (hf : fl_ok N g C t e s) {T : Nat} (hT : Sep N g T) (hTC : ∀ j, T.testBit j = true → C.testBit j = false) : fb_sm s 40 ≤ cnt T 40 := by
  have hTC' := C_in hok hC hTC
  obtain ⟨I', hI'⟩ := pick fun v => fV N g C v ∧ ∃ i, (rch N g T).testBit i = true ∧ (sM N i).testBit v = true
  obtain ⟨O', hO'⟩ := pick fun v => fV N g C v ∧ (rch N g T).testBit v = true
  have hI' : ∀ v, I' v = true ↔ fV N g C v ∧ ∃ i, (rch N g T).testBit i = true ∧ (sM N i).testBit v = true := hI'
  have hO' : ∀ v, O' v = true ↔ fV N g C v ∧ (rch N g T).testBit v = true := hO'
  have hIT : ∀ v, I' v = true → O' v = false → T.testBit v = true := fun v hv hn => by
    obtain ⟨h1, i, hi, hs⟩ := (hI' v).mp hv
    cases ht : T.testBit v with
    | true => rfl
    | false =>
      have := (hO' v).mpr ⟨h1, rch_closed hok hi hs ht⟩
      rw [hn] at this
      cases this
  have h1 := cutsum hf I' O' (fun v hv => by
    obtain ⟨hv2, c, hc, hs⟩ := hf.1 v hv
    exact (hI' v).mpr ⟨hv2, c, hTC' c hc, hs⟩) (fun u hu => hT.2 u ((hO' u).mp hu).2) (fun u v hu he => by
    obtain ⟨q1, q2, q3⟩ := hf.2.1 u v he
    exact (hI' v).mpr ⟨q3, u, ((hO' u).mp hu).2, q2⟩)
  have h2 : fb_sm (fun v => if I' v then t v else 0) 40 ≤ fb_sm (fun u => if O' u then t u else 0) 40 + fb_sm (fun v => if I' v && !O' v then t v else 0) 40 := by
    rw [← fb_sm_add]
    apply sm_le
    intro v _
    cases hv : I' v with
    | true => cases hu : O' v <;> simp
    | false => simp
  have h3 : fb_sm (fun v => if I' v && !O' v then t v else 0) 40 ≤ fb_sm (fun v => if I' v && !O' v then 1 else 0) 40 := by
    apply sm_le
    intro v _
    cases I' v && !O' v
    · simp
    · simp; exact hf.2.2.2.2 v
  have h4 : fb_sm (fun v => if I' v && !O' v then 1 else 0) 40 ≤ cnt T 40 := by
    rw [cnt_sm]
    apply sm_le
    intro v _
    cases hv : I' v with
    | false => simp
    | true =>
      cases hu : O' v with
      | true => simp
      | false => simp [hIT v hv hu]
  omega
/-- the sources of a set of gates below a number -/
def uS (N : nw) (C : Nat) : Nat → Nat
  | 0 => 0
  | k + 1 => uS N C k ||| (if C.testBit k then sM N k else 0)
theorem uS_bit (N : nw) (C j : Nat) : ∀ n, (uS N C n).testBit j = true ↔ ∃ c, c < n ∧ C.testBit c = true ∧ (sM N c).testBit j = true
  | 0 => by
    show (0 : Nat).testBit j = true ↔ _
    rw [Nat.zero_testBit]
    exact ⟨fun h => (by cases h), fun ⟨c, h, _⟩ => absurd h (by omega)⟩
  | n + 1 => by
    rw [uS, Nat.testBit_or, Bool.or_eq_true, uS_bit N C j n]
    constructor
    · rintro (⟨c, h1, h2⟩ | h)
      · exact ⟨c, by omega, h2⟩
      · cases hc : C.testBit n with
        | true => rw [hc, if_pos rfl] at h; exact ⟨n, by omega, hc, h⟩
        | false => rw [hc] at h; simp at h
    · rintro ⟨c, h1, h2, h3⟩
      by_cases e : c = n
      · subst e; rw [h2, if_pos rfl]; exact Or.inr h3
      · exact Or.inl ⟨c, by omega, h2, h3⟩
theorem uS_lt {N : nw} (hok : nw_ok N) (C : Nat) : ∀ n, uS N C n < 2 ^ 40
  | 0 => by show 0 < _; omega
  | n + 1 => by
    rw [uS]
    refine or_lt (uS_lt hok C n) ?_
    split
    · exact sM_lt40 hok n
    · omega
theorem wS_0 (N : nw) (g C : Nat) (ah : Nat → Option Nat) : wS N g C 0 ah ∧ fb_sm (wsrc 0 ah) 40 = 0 := by
  have h0 : ∀ v, (0 : Nat).testBit v = true → False := fun v h => by rw [Nat.zero_testBit] at h; cases h
  refine ⟨⟨fun v h => (h0 v h).elim, fun v h => (h0 v h).elim, fun v u h => (h0 v h).elim, fun u h => (h0 u h).elim, fun u v w h => (h0 v h).elim⟩, sm_none fun k => ?_⟩
  unfold wsrc
  rw [if_neg]
  exact fun h => h0 k h.1
abbrev ct_nearest (C : jm_C) : Prop := ∀ (N : nw) (g Cs k : Nat) (σ : jm_G) (post : Option jm_V → jm_G → Prop), nw_ok N → cN N σ → C_ok N g Cs → Cs < 2 ^ 40 → k < 100 →
  (∀ σ' U, off 10 13 σ σ' → nearC N g Cs U → cnt U 40 ≤ k → U < 2 ^ 40 → post (some (jJ (lN U))) σ') →
  ((∀ T, Sep N g T → (∀ j, T.testBit j = true → Cs.testBit j = false) → k < cnt T 40) → ∀ σ', off 10 13 σ σ' → post (some (jJ (lN 0))) σ') → C kX8_nearestCut [jR 10 0, jJ (lN Cs), jI (nI k)] σ post
theorem T_nearest (L : Nat) {C : jm_C} (hC : jm_mon C) (h1 : ct_low C) (h2 : ct_findWay C) (h3 : ct_layWay C) : ct_nearest (jm_up L C) := by
  intro N g Cs k σ post hok hN hCs hlt hk hp1 hp2
  refine jm_start rfl (Nat.le_of_ble_eq_true rfl) hC fun X hg hw => ?_
  have hn := hok.1
  refine hg [6] 30 _ ?_
  show X (σ, 6, [some (jR 10 0), some (jJ (lN Cs)), none, some (jI (nI k)), some (jJ (lN 0)), none, some (jJ (lN Cs)), none], [])
  have hSt : ∀ y, (sD (uS N Cs 40) Cs).testBit y = true ↔ rS N Cs y := by
    intro y
    rw [sD_bit, Bool.and_eq_true, Bool.not_eq_true', uS_bit]
    exact ⟨fun ⟨⟨c, _, b⟩, d⟩ => ⟨d, c, b⟩, fun ⟨d, c, b⟩ => ⟨⟨c, bit_lt hlt b.1, b⟩, d⟩⟩
  have hSl : sD (uS N Cs 40) Cs < 2 ^ 40 := sD_lt (uS_lt hok Cs 40)
  have gen : ∀ (m w : Nat), w + m = k + 1 → ∀ (τ : jm_G) (on : Nat) (ah : Nat → Option Nat), off 10 13 σ τ → on < 2 ^ 40 → τ.2 10 0 4 = lN on → ahR τ on ah → wS N g Cs on ah → fb_sm (wsrc on ah) 40 = w →
      X (τ, 61, [some (jR 10 0), some (jJ (lN Cs)), none, some (jI (nI k)), some (jJ (lN (sD (uS N Cs 40) Cs))), none, some (jI (nI w)), none], []) := by
    intro m
    induction m with
    | zero =>
      intro w hwm τ on ah ho hon e4 hah hws hsm
      refine hg [61] 40 _ ?_
      refine br_c (fun h => ?_) (fun h => ?_)
      · refine And.intro trivial (hp2 (fun T hT hd => ?_) τ ho)
        have := flow_le hok hCs (wS_fl hok hws) hT hd
        omega
      · have h : ¬ nI k < nI w := h
        rw [nI_ltI (by omega) (by omega)] at h
        omega
    | succ m ih =>
      intro w hwm τ on ah ho hon e4 hah hws hsm
      have eN := cN_off hN ho (by omega) (by omega)
      refine hg [61] 40 _ ?_
      refine br_c (fun h => ?_) (fun h => ?_)
      · have h : nI k < nI w := h
        rw [nI_ltI (by omega) (by omega)] at h
        omega
      · refine h2 N g Cs on _ ah τ _ hok eN hCs hws hon e4 hah hSl hSt ?_ ?_
        · intro τ' us ls o1 o4 o5 o6 hus hnr hct
          refine br_c (fun _ => ?_) (fun h => absurd rfl h)
          refine And.intro trivial ?_
          show post (some (jJ (τ'.2 10 0 5 &&& (τ'.2 10 0 6 ^^^ (-1))))) τ'
          rw [o5, o6, lN_andn]
          exact hp1 τ' _ (off_trans ho (off_wide o1 (by omega) (by omega))) hnr (by omega) (sD_lt hus)
        · intro τ' leaf q p Q cf o1 o4 oQ ob hpq hQp hlf hl4
          refine br_c (fun h => absurd h (oN_none (by omega))) (fun _ => ?_)
          have e40 : nI leaf + nI 40 = nI (40 + leaf) := by rw [nI_add, Nat.add_comm]
          have call : ∀ {post' : Option jm_V → jm_G → Prop}, (∀ σ', post' none σ' → post' none σ') → C kX8_layWay [jR 10 0, jI (nI (40 + leaf))] τ' post' → C kX8_layWay [jR 10 0, jI (nI leaf + nI 40)] τ' post' := fun _ h => by rw [e40]; exact h
          refine call (fun _ h => h) ?_
          refine h3 N g Cs on leaf q p Q ah cf τ' _ hok hCs hws hon o4 (fun v hv => by rw [(o1 13 0 (by omega)).1]; exact hah v hv) oQ ob hpq hQp hlf hl4 ?_
          intro τ'' on' ah' p1 p2 p3 p4 p5 p6
          refine hw _ _ _ [some (jR 10 0), some (jJ (lN Cs)), none, some (jI (nI k)), some (jJ (lN (sD (uS N Cs 40) Cs))), none, some (jI (nI w + nI 1)), none] _ (by repeat' first | exact trivial | exact rfl | apply And.intro) ?_
          rw [nI_add]
          exact ih (w + 1) (by omega) τ'' on' ah' (off_trans ho (off_trans (off_wide o1 (by omega) (by omega)) p1)) p2 p3 p4 p5 (by omega)
  have main := jm_bits (X := X) Cs (fun j => (σ, 6, [some (jR 10 0), some (jJ (lN Cs)), none, some (jI (nI k)), some (jJ (lN (uS N Cs j))), none, some (jJ (lN (hi Cs j))), none], [])) 40 ?_ ?_ ?_ 0 (by omega)
  · have main : X (σ, 6, [some (jR 10 0), some (jJ (lN Cs)), none, some (jI (nI k)), some (jJ (lN 0)), none, some (jJ (lN (hi Cs 0))), none], []) := main
    rw [hi_0] at main
    exact main
  · show X (σ, 6, [some (jR 10 0), some (jJ (lN Cs)), none, some (jI (nI k)), some (jJ (lN (uS N Cs 40))), none, some (jJ (lN (hi Cs 40))), none], [])
    rw [hi_end hlt]
    refine hg [61] 30 _ ?_
    refine br_c (fun h => ?_) (fun h => ?_)
    · obtain ⟨w1, w2⟩ := wS_0 N g Cs (fun _ => none)
      refine hw _ _ _ [some (jR 10 0), some (jJ (lN Cs)), none, some (jI (nI k)), some (jJ (lN (uS N Cs 40) &&& (lN Cs ^^^ (-1)))), none, some (jI (nI 0)), none] _ (by repeat' first | exact trivial | exact rfl | apply And.intro) ?_
      rw [lN_andn]
      refine gen (k + 1) 0 (by omega) _ 0 (fun _ => none) (off_wJ (off_refl _ _ _) (by omega) (by omega)) (by omega) ?_ (fun v hv => by rw [Nat.zero_testBit] at hv; cases hv) w1 w2
      show vp_updL (σ.2 10 0) 4 (lN 0) 4 = _
      rw [updL_at, if_pos rfl]
    · exact absurd ((cmp_0 _ _).mpr rfl) h
  · intro j hj hb
    have e : uS N Cs (j + 1) = uS N Cs j := by rw [uS, hb]; simp
    simp only [e, hi_skip hb]
  · intro j hj hb ih
    refine hg [6] 30 _ ?_
    refine br_c (fun h => ?_) (fun h => ?_)
    · exact absurd h (hi_n0 hlt hb)
    · refine h1 Cs j σ _ (p40 hlt) hb ?_
      refine And.intro (vp_in_nI (by omega) (by omega)) ?_
      refine jm_eqv (X := X) ih rfl rfl ?_ rfl
      show [some (jR 10 0), some (jJ (lN Cs)), none, some (jI (nI k)), some (jJ (lN (uS N Cs j) ||| σ.2 6 0 (nI j).toNatClampNeg)), none, some (jJ (lN (hi Cs j) &&& (lN (hi Cs j) - lN 1))), none] = _
      rw [nxt hb, nI_clamp (by omega), hN.2.2.2.2.2.2.2.1 j (by omega), fb_orL, uS, hb, if_pos rfl]
end
section
/-! LEVELS and NEAR CUTS, as the document says them -/
noncomputable def lst (P : Nat → Prop) : Nat := @dite _ (∃ m, P m ∧ ∀ j, j < m → ¬ P j) (Classical.propDecidable _) (fun h => Classical.choose h) (fun _ => 0)
theorem lst_eq {P : Nat → Prop} {m : Nat} (h1 : P m) (h2 : ∀ j, j < m → ¬ P j) : lst P = m := by
  have h : ∃ m, P m ∧ ∀ j, j < m → ¬ P j := ⟨m, h1, h2⟩
  unfold lst
  rw [dif_pos h]
  obtain ⟨a, b⟩ := Classical.choose_spec h
  rcases Nat.lt_trichotomy (Classical.choose h) m with q | q | q
  · exact absurd a (h2 _ q)
  · exact q
  · exact absurd h1 (b _ q)
theorem lst_ex {P : Nat → Prop} {n : Nat} (h : P n) : P (lst P) ∧ (∀ j, j < lst P → ¬ P j) ∧ lst P ≤ n := by
  have key : ∀ m, P m → ∃ k, k ≤ m ∧ P k ∧ ∀ j, j < k → ¬ P j := by
    intro m
    induction m using Nat.strongRecOn with
    | ind m ih =>
      intro hm
      by_cases q : ∃ j, j < m ∧ P j
      · obtain ⟨j, hj, hP⟩ := q
        obtain ⟨k, h1, h2⟩ := ih j hj hP
        exact ⟨k, by omega, h2⟩
      · exact ⟨m, Nat.le_refl _, hm, fun j hj hP => q ⟨j, hj, hP⟩⟩
  obtain ⟨k, h1, h2, h3⟩ := key n h
  rw [lst_eq h2 h3]
  exact ⟨h2, h3, h1⟩
/-- so few nodes of levels below a number cut a gate off -/
def cutt (N : nw) (K : Nat) (l : Nat → Nat) (g m : Nat) : Prop := ∃ U, Sep N g U ∧ cnt U 40 ≤ K ∧ ∀ j, U.testBit j = true → l j < m
noncomputable def levT (N : nw) (K : Nat) : Nat → Nat → Nat
  | 0 => fun _ => 0
  | n + 1 => fun i => if i = n then (if isG N n then lst (cutt N K (levT N K n) n) else 0) else levT N K n i
noncomputable def lev (N : nw) (K i : Nat) : Nat := levT N K (i + 1) i
theorem levT_lt (N : nw) (K : Nat) : ∀ (n i : Nat), i < n → levT N K n i = lev N K i
  | 0, i, h => absurd h (by omega)
  | n + 1, i, h => by
    by_cases e : i = n
    · subst e; rfl
    · show (if i = n then _ else levT N K n i) = _
      rw [if_neg e]
      exact levT_lt N K n i (by omega)
theorem cutt_cong {N : nw} {K : Nat} {l l' : Nat → Nat} {g m : Nat} (hok : nw_ok N) (h : ∀ j, j < g → l j = l' j) : cutt N K l g m ↔ cutt N K l' g m := by
  constructor
  · rintro ⟨U, h1, h2, h3⟩
    exact ⟨U, h1, h2, fun j hj => by rw [← h j (nB_lt hok _ _ (h1.1 j hj))]; exact h3 j hj⟩
  · rintro ⟨U, h1, h2, h3⟩
    exact ⟨U, h1, h2, fun j hj => by rw [h j (nB_lt hok _ _ (h1.1 j hj))]; exact h3 j hj⟩
theorem lev_leaf {N : nw} {K i : Nat} (h : isG N i = false) : lev N K i = 0 := by
  show (if i = i then (if isG N i then _ else 0) else _) = 0
  rw [if_pos rfl, h]
  rfl
theorem lev_gate {N : nw} {K i : Nat} (hok : nw_ok N) (h : isG N i = true) : lev N K i = lst (cutt N K (lev N K) i) := by
  show (if i = i then (if isG N i then _ else 0) else _) = _
  rw [if_pos rfl, h, if_pos rfl]
  congr 1
  funext m
  exact propext (cutt_cong hok fun j hj => levT_lt N K i j hj)
theorem sM_cnt {N : nw} (hok : nw_ok N) (g : Nat) : cnt (sM N g) 40 ≤ 3 := by
  rw [cnt_sm]
  have h : ∀ v, (if (sM N g).testBit v then 1 else 0) ≤ (if v = nR N g 0 then 1 else 0) + ((if v = nR N g 1 then 1 else 0) + (if v = nR N g 2 then 1 else 0)) := by
    intro v
    split
    · rename_i q
      obtain ⟨-, k, hk, e⟩ := src_of q
      have := ar_pos (nK N g)
      have hk3 : k = 0 ∨ k = 1 ∨ k = 2 := by omega
      rcases hk3 with rfl | rfl | rfl <;> (rw [if_pos e.symm]; omega)
    · omega
  have one : ∀ a, fb_sm (fun v => if v = a then 1 else 0) 40 ≤ 1 := by
    intro a
    by_cases ha : a < 40
    · rw [sm_one (f := fun v => if v = a then 1 else 0) ha (if_pos rfl) (fun k hk => if_neg hk)]
      exact Nat.le_refl _
    · rw [fb_sm_cong (g := fun _ => 0) (fun k hk => if_neg (by omega)), sm_0]
      omega
  refine Nat.le_trans (sm_le fun v _ => h v) ?_
  rw [fb_sm_add, fb_sm_add]
  have := one (nR N g 0); have := one (nR N g 1); have := one (nR N g 2)
  omega
theorem Sep_src {N : nw} (hok : nw_ok N) {g : Nat} (hg : isG N g = true) : Sep N g (sM N g) := by
  refine ⟨fun j hj => nB_src hok hj, fun i hi => ?_⟩
  have := rch_min (N := N) (g := g) (S := sM N g) (fun i => i = g) rfl (fun i j hi hs hc => by subst hi; rw [hs] at hc; cases hc) i hi
  rw [this]; exact hg
theorem cutt_src {N : nw} {K : Nat} {l : Nat → Nat} {g m : Nat} (hok : nw_ok N) (hK : 3 ≤ K) (hg : isG N g = true) (h : ∀ j, (sM N g).testBit j = true → l j < m) : cutt N K l g m :=
  ⟨sM N g, Sep_src hok hg, Nat.le_trans (sM_cnt hok g) hK, h⟩
theorem lev_spec {N : nw} {K g : Nat} (hok : nw_ok N) (hK : 3 ≤ K) (hg : isG N g = true) : cutt N K (lev N K) g (lev N K g) ∧ ∀ m, m < lev N K g → ¬ cutt N K (lev N K) g m := by
  have hex : cutt N K (lev N K) g (fb_sm (lev N K) g + 1) := cutt_src hok hK hg fun j hj => by
    have := fb_sm_part (lev N K) (sM_lt hok hj)
    omega
  rw [lev_gate hok hg]
  exact ⟨(lst_ex hex).1, (lst_ex hex).2.1⟩
theorem lev_eq {N : nw} {K g m : Nat} (hok : nw_ok N) (hg : isG N g = true) (h1 : cutt N K (lev N K) g m) (h2 : ∀ j, j < m → ¬ cutt N K (lev N K) g j) : lev N K g = m := by rw [lev_gate hok hg]; exact lst_eq h1 h2
theorem lev_le {N : nw} {K g m : Nat} (hok : nw_ok N) (hK : 3 ≤ K) (hg : isG N g = true) (h : cutt N K (lev N K) g m) : lev N K g ≤ m := Nat.le_of_not_lt fun q => (lev_spec hok hK hg).2 m q h
theorem Sep_ne {N : nw} (hok : nw_ok N) {g U : Nat} (hg : isG N g = true) (h : Sep N g U) : ∃ j, U.testBit j = true := by
  apply Classical.byContradiction
  intro hno
  have h0 : ∀ j, U.testBit j = false := fun j => by
    cases hb : U.testBit j with
    | false => rfl
    | true => exact absurd ⟨j, hb⟩ hno
  -- down from gate to gate
  have dn : ∀ m i, i ≤ m → (rch N g U).testBit i = true → False := by
    intro m
    induction m with
    | zero =>
      intro i hi hr
      have hgi := h.2 i hr
      have har := ar_pos (nK N i)
      have hs : (sM N i).testBit (nR N i 0) = true := by rw [sM_bit, hgi]; simp; exact ⟨0, by omega, rfl⟩
      have := sM_lt hok hs
      omega
    | succ m ih =>
      intro i hi hr
      have hgi := h.2 i hr
      have har := ar_pos (nK N i)
      have hs : (sM N i).testBit (nR N i 0) = true := by rw [sM_bit, hgi]; simp; exact ⟨0, by omega, rfl⟩
      have := sM_lt hok hs
      exact ih _ (by omega) (rch_closed hok hr hs (h0 _))
  exact dn g g (Nat.le_refl _) (rch_self N g U)
theorem lev_pos {N : nw} {K g : Nat} (hok : nw_ok N) (hK : 3 ≤ K) (hg : isG N g = true) : 1 ≤ lev N K g := by
  obtain ⟨U, h1, -, h3⟩ := (lev_spec hok hK hg).1
  obtain ⟨j, hj⟩ := Sep_ne hok hg h1
  have := h3 j hj
  omega
/-- a cut of a gate cuts off those that are above it as well -/
theorem Sep_down {N : nw} (hok : nw_ok N) {g s U : Nat} (h : Sep N g U) (hr : (rch N g U).testBit s = true) : Sep N s (U &&& nB N s) := by
  refine ⟨fun j hj => ?_, fun i hi => ?_⟩
  · rw [Nat.testBit_and, Bool.and_eq_true] at hj; exact hj.2
  · apply h.2
    have := rch_min (N := N) (g := s) (S := U &&& nB N s) (fun i => (rch N g U).testBit i = true ∧ (i = s ∨ (nB N s).testBit i = true)) ⟨hr, Or.inl rfl⟩ (fun i j hi hs hc => by
      have hb : (nB N s).testBit j = true := by
        rcases hi.2 with e | e
        · subst e; exact nB_src hok hs
        · exact nB_trans hok _ _ _ e hs
      refine ⟨rch_closed hok hi.1 hs ?_, Or.inr hb⟩
      rw [Nat.testBit_and, hb, Bool.and_true] at hc
      exact hc) i hi
    exact this.1
theorem lev_src {N : nw} {K g s : Nat} (hok : nw_ok N) (hK : 3 ≤ K) (hs : (sM N g).testBit s = true) : lev N K s ≤ lev N K g := by
  have hg := (src_of hs).1
  cases hgs : isG N s with
  | false => rw [lev_leaf hgs]; exact Nat.zero_le _
  | true =>
    obtain ⟨U, h1, h2, h3⟩ := (lev_spec hok hK hg).1
    cases hu : U.testBit s with
    | true => have := h3 s hu; omega
    | false =>
      refine lev_le hok hK hgs ⟨U &&& nB N s, Sep_down hok h1 (rch_closed hok (rch_self N g U) hs hu), Nat.le_trans (cnt_sub fun i _ hi => ?_) h2, fun j hj => h3 j ?_⟩
      · rw [Nat.testBit_and, Bool.and_eq_true] at hi; exact hi.1
      · rw [Nat.testBit_and, Bool.and_eq_true] at hj; exact hj.1
theorem lev_below {N : nw} {K g j m : Nat} (hok : nw_ok N) (hK : 3 ≤ K) (hm : ∀ s, (sM N g).testBit s = true → lev N K s ≤ m) (hj : (nB N g).testBit j = true) : lev N K j ≤ m :=
  nB_min hok (fun j => lev N K j ≤ m) g hm (fun j k h1 h2 => Nat.le_trans (lev_src hok hK h2) h1) j hj
theorem lev_bound {N : nw} {K : Nat} (hok : nw_ok N) (hK : 3 ≤ K) : ∀ i, lev N K i ≤ i := by
  intro i
  induction i using Nat.strongRecOn with
  | ind i ih =>
    cases hg : isG N i with
    | false => rw [lev_leaf hg]; omega
    | true => exact lev_le hok hK hg (cutt_src hok hK hg fun j hj => by have := sM_lt hok hj; have := ih j this; omega)
/-- the gate, and what is below it at this level or above -/
def Cm (N : nw) (l : Nat → Nat) (g m : Nat) : Nat := 2 ^ g ||| mk (fun j => (nB N g).testBit j && decide (m ≤ l j)) 40
theorem Cm_bit {N : nw} (hok : nw_ok N) (l : Nat → Nat) (g m j : Nat) : (Cm N l g m).testBit j = true ↔ j = g ∨ ((nB N g).testBit j = true ∧ m ≤ l j) := by
  rw [Cm, Nat.testBit_or, Nat.testBit_two_pow, mk_bit, Bool.or_eq_true, decide_eq_true_eq, Bool.and_eq_true, Bool.and_eq_true, decide_eq_true_eq, decide_eq_true_eq]
  constructor
  · rintro (h | ⟨-, h⟩)
    · exact Or.inl h.symm
    · exact Or.inr h
  · rintro (h | h)
    · exact Or.inl h.symm
    · exact Or.inr ⟨bit_lt (nB_lt40 hok g) h.1, h⟩
theorem Cm_lt {N : nw} {l : Nat → Nat} {g m : Nat} (hg : g < 40) : Cm N l g m < 2 ^ 40 := or_lt (pw_lt hg) (mk_lt _ _)
/-- something below a gate is a source of it or of something below it -/
theorem nB_par {N : nw} (hok : nw_ok N) {g j : Nat} (h : (nB N g).testBit j = true) : ∃ p, (p = g ∨ (nB N g).testBit p = true) ∧ (sM N p).testBit j = true := by
  have := nB_min hok (fun j => (nB N g).testBit j = true ∧ ∃ p, (p = g ∨ (nB N g).testBit p = true) ∧ (sM N p).testBit j = true) g (fun j hj => ⟨nB_src hok hj, g, Or.inl rfl, hj⟩) (fun j k h1 h2 => ⟨nB_trans hok _ _ _ h1.1 h2, j, Or.inr h1.1, h2⟩) j h
  exact this.2
theorem Cm_ok {N : nw} {K g m : Nat} (hok : nw_ok N) (hK : 3 ≤ K) (hg : isG N g = true) (hm : 1 ≤ m) : C_ok N g (Cm N (lev N K) g m) := by
  refine ⟨(Cm_bit hok _ _ _ _).mpr (Or.inl rfl), fun c hc => ?_, fun u v hu hs hv => ?_⟩
  · rcases (Cm_bit hok _ _ _ _).mp hc with e | ⟨h1, h2⟩
    · subst e; exact ⟨hg, Or.inl rfl⟩
    · refine ⟨?_, Or.inr ⟨h1, ?_⟩⟩
      · cases hgc : isG N c with
        | true => rfl
        | false => rw [lev_leaf hgc] at h2; omega
      · obtain ⟨p, hp, hs⟩ := nB_par hok h1
        refine ⟨p, (Cm_bit hok _ _ _ _).mpr ?_, hs⟩
        rcases hp with e | e
        · exact Or.inl e
        · exact Or.inr ⟨e, Nat.le_trans h2 (lev_src hok hK hs)⟩
  · refine (Cm_bit hok _ _ _ _).mpr (Or.inr ⟨hu, ?_⟩)
    rcases (Cm_bit hok _ _ _ _).mp hv with e | ⟨-, h2⟩
    · subst e
      have := nB_lt hok _ _ hu
      have := sM_lt hok hs
      omega
    · exact Nat.le_trans h2 (lev_src hok hK hs)
theorem Cm_dis {N : nw} {l : Nat → Nat} {g m U : Nat} (hok : nw_ok N) (hU : Sep N g U) : (∀ j, U.testBit j = true → (Cm N l g m).testBit j = false) ↔ ∀ j, U.testBit j = true → l j < m := by
  constructor
  · intro h j hj
    refine Nat.lt_of_not_le fun q => ?_
    have := (Cm_bit hok l g m j).mpr (Or.inr ⟨hU.1 j hj, q⟩)
    rw [h j hj] at this
    cases this
  · intro h j hj
    cases hc : (Cm N l g m).testBit j with
    | false => rfl
    | true =>
      rcases (Cm_bit hok l g m j).mp hc with e | ⟨-, q⟩
      · have := nB_lt hok _ _ (hU.1 j hj); omega
      · have := h j hj; omega
theorem near_cutt {N : nw} {K : Nat} {l : Nat → Nat} {g m U : Nat} (hok : nw_ok N) (h : nearC N g (Cm N l g m) U) : cutt N K l g m ↔ cnt U 40 ≤ K := by
  constructor
  · rintro ⟨T, h1, h2, h3⟩
    exact Nat.le_trans (h.2.2 T h1 ((Cm_dis hok h1).mpr h3)).1 h2
  · intro hc
    exact ⟨U, h.1, hc, (Cm_dis hok h.1).mp h.2.1⟩
/-- the nearest of the fewest, for a gate -/
noncomputable def nea (N : nw) (K g : Nat) : Nat := @ite _ (isG N g = true) (Classical.propDecidable _) (lst (fun U => nearC N g (Cm N (lev N K) g (lev N K g)) U)) 0
theorem nea_eq {N : nw} {K g U : Nat} (hok : nw_ok N) (hg : isG N g = true) (h : nearC N g (Cm N (lev N K) g (lev N K g)) U) : nea N K g = U := by
  unfold nea
  rw [if_pos hg]
  exact lst_eq h fun j hj q => by
    have := nearC_one hok hg h q
    omega
theorem nea_leaf {N : nw} {K g : Nat} (hg : isG N g = false) : nea N K g = 0 := by
  unfold nea
  rw [if_neg]
  rw [hg]; exact fun e => by cases e
theorem cutt_mono {N : nw} {K : Nat} {l : Nat → Nat} {g m m' : Nat} (h : cutt N K l g m) (hm : m ≤ m') : cutt N K l g m' := by
  obtain ⟨U, h1, h2, h3⟩ := h
  exact ⟨U, h1, h2, fun j hj => Nat.lt_of_lt_of_le (h3 j hj) hm⟩
end
section
/-! the component's Cuts: greatestLevel, belowAtLevel -/
def mxL (l : Nat → Nat) (S : Nat) : Nat → Nat
  | 0 => 0
  | n + 1 => if S.testBit n then max (mxL l S n) (l n) else mxL l S n
theorem mxL_le {l : Nat → Nat} {S m : Nat} (h : ∀ j, S.testBit j = true → l j ≤ m) : ∀ n, mxL l S n ≤ m
  | 0 => Nat.zero_le _
  | n + 1 => by
    rw [mxL]
    split
    · rename_i q
      exact Nat.max_le.mpr ⟨mxL_le h n, h n q⟩
    · exact mxL_le h n
theorem mxL_ge {l : Nat → Nat} {S j : Nat} (h : S.testBit j = true) : ∀ n, j < n → l j ≤ mxL l S n
  | 0, hj => absurd hj (by omega)
  | n + 1, hj => by
    rw [mxL]
    by_cases e : j = n
    · subst e; rw [if_pos h]; exact Nat.le_max_right _ _
    · have := mxL_ge (l := l) h n (by omega)
      split
      · exact Nat.le_trans this (Nat.le_max_left _ _)
      · exact this
theorem mxL_at {l : Nat → Nat} {S : Nat} : ∀ n, mxL l S n = 0 ∨ ∃ j, j < n ∧ S.testBit j = true ∧ l j = mxL l S n
  | 0 => Or.inl rfl
  | n + 1 => by
    rw [mxL]
    have ih := mxL_at (l := l) (S := S) n
    split
    · rename_i q
      by_cases h : mxL l S n ≤ l n
      · rw [Nat.max_eq_right h]; exact Or.inr ⟨n, by omega, q, rfl⟩
      · rw [Nat.max_eq_left (by omega)]
        rcases ih with h1 | ⟨j, h1, h2⟩
        · exact Or.inl h1
        · exact Or.inr ⟨j, by omega, h2⟩
    · rcases ih with h1 | ⟨j, h1, h2⟩
      · exact Or.inl h1
      · exact Or.inr ⟨j, by omega, h2⟩
theorem maxI {a b : Nat} (ha : a < 2 ^ 31) (hb : b < 2 ^ 31) : (if nI a < nI b then nI b else nI a) = nI (max a b) := by
  by_cases h : a < b
  · rw [if_pos ((nI_ltI ha hb).mpr h), Nat.max_eq_right (by omega)]
  · rw [if_neg (fun q => h ((nI_ltI ha hb).mp q)), Nat.max_eq_left (by omega)]
abbrev ct_greatest (C : jm_C) : Prop := ∀ (i S : Nat) (l : Nat → Nat) (σ : jm_G) (post : Option jm_V → jm_G → Prop), S < 2 ^ 40 → (∀ j, S.testBit j = true → σ.1 18 i j = nI (l j) ∧ l j < 100) → post (some (jI (nI (mxL l S 40)))) σ → C kX4_greatestLevel [jR 17 i, jJ (lN S)] σ post
theorem T_greatest (L : Nat) {C : jm_C} (hC : jm_mon C) (h1 : ct_low C) : ct_greatest (jm_up L C) := by
  intro i S l σ post hS hl hp
  refine jm_start rfl (Nat.le_of_ble_eq_true rfl) hC fun X hg hw => ?_
  refine hg [5] 20 _ ?_
  show X (σ, 5, [some (jR 17 i), some (jJ (lN S)), none, some (jI (nI 0)), some (jJ (lN S)), none], [])
  have hb9 : ∀ n, mxL l S n < 100 := fun n => Nat.lt_of_le_of_lt (mxL_le (m := 99) (fun j hj => by have := (hl j hj).2; omega) n) (by omega)
  have main := jm_bits (X := X) S (fun k => (σ, 5, [some (jR 17 i), some (jJ (lN S)), none, some (jI (nI (mxL l S k))), some (jJ (lN (hi S k))), none], [])) 40 ?_ ?_ ?_ 0 (by omega)
  · have main : X (σ, 5, [some (jR 17 i), some (jJ (lN S)), none, some (jI (nI 0)), some (jJ (lN (hi S 0))), none], []) := main
    rw [hi_0] at main
    exact main
  · show X (σ, 5, [some (jR 17 i), some (jJ (lN S)), none, some (jI (nI (mxL l S 40))), some (jJ (lN (hi S 40))), none], [])
    rw [hi_end hS]
    refine hg [] 30 _ ?_
    refine br_c (fun h => ?_) (fun h => ?_)
    · exact And.intro trivial hp
    · exact absurd ((cmp_0 _ _).mpr rfl) h
  · intro k hk hb
    have e : mxL l S (k + 1) = mxL l S k := by rw [mxL, hb]; simp
    simp only [e, hi_skip hb]
  · intro k hk hb ih
    refine hg [5] 30 _ ?_
    refine br_c (fun h => ?_) (fun h => ?_)
    · exact absurd h (hi_n0 hS hb)
    · refine h1 S k σ _ (p40 hS) hb ?_
      refine And.intro (vp_in_nI (by omega) (by omega)) ?_
      refine jm_eqv (X := X) ih rfl rfl ?_ rfl
      show [some (jR 17 i), some (jJ (lN S)), none, some (jI (if nI (mxL l S k) < σ.1 18 i (nI k).toNatClampNeg then σ.1 18 i (nI k).toNatClampNeg else nI (mxL l S k))), some (jJ (lN (hi S k) &&& (lN (hi S k) - lN 1))), none] = _
      have h9 := hb9 k
      have := (hl k hb).2
      rw [nxt hb, nI_clamp (by omega), (hl k hb).1, maxI (by omega) (by omega), mxL, if_pos hb]
abbrev ct_belowAt (C : jm_C) : Prop := ∀ (N : nw) (i g m : Nat) (l : Nat → Nat) (σ : jm_G) (post : Option jm_V → jm_G → Prop), nw_ok N → cN N σ → g < nN N → m < 100 → (∀ j, (nB N g).testBit j = true → σ.1 18 i j = nI (l j) ∧ l j < 100) → post (some (jJ (lN (mk (fun j => (nB N g).testBit j && decide (l j = m)) 40)))) σ → C kX4_belowAtLevel [jR 17 i, jI (nI g), jI (nI m)] σ post
theorem T_belowAt (L : Nat) {C : jm_C} (hC : jm_mon C) (h1 : ct_low C) (h2 : ct_bit C) : ct_belowAt (jm_up L C) := by
  intro N i g m l σ post hok hN hgn hm hl hp
  refine jm_start rfl (Nat.le_of_ble_eq_true rfl) hC fun X hg hw => ?_
  have hn := hok.1
  have hS := nB_lt40 hok g
  refine hg [13] 30 _ ?_
  refine And.intro (in40 hok hgn) ?_
  show X (σ, 13, [some (jR 17 i), some (jI (nI g)), some (jI (nI m)), some (jJ (lN 0)), none, some (jJ (σ.2 7 0 (nI g).toNatClampNeg)), none, none], [])
  rw [cl40 hok hgn, hN.2.2.2.2.2.2.2.2.1 g (by omega)]
  have main := jm_bits (X := X) (nB N g) (fun k => (σ, 13, [some (jR 17 i), some (jI (nI g)), some (jI (nI m)), some (jJ (lN (mk (fun j => (nB N g).testBit j && decide (l j = m)) k))), none, some (jJ (lN (hi (nB N g) k))), none, none], [])) 40 ?_ ?_ ?_ 0 (by omega)
  · have main : X (σ, 13, [some (jR 17 i), some (jI (nI g)), some (jI (nI m)), some (jJ (lN 0)), none, some (jJ (lN (hi (nB N g) 0))), none, none], []) := main
    rw [hi_0] at main
    exact main
  · show X (σ, 13, [some (jR 17 i), some (jI (nI g)), some (jI (nI m)), some (jJ (lN (mk (fun j => (nB N g).testBit j && decide (l j = m)) 40))), none, some (jJ (lN (hi (nB N g) 40))), none, none], [])
    rw [hi_end hS]
    refine hg [] 30 _ ?_
    refine br_c (fun h => ?_) (fun h => ?_)
    · exact And.intro trivial hp
    · exact absurd ((cmp_0 _ _).mpr rfl) h
  · intro k hk hb
    have e : mk (fun j => (nB N g).testBit j && decide (l j = m)) (k + 1) = mk (fun j => (nB N g).testBit j && decide (l j = m)) k := by rw [mk]; simp [hb]
    simp only [e, hi_skip hb]
  · intro k hk hb ih
    refine hg [13] 40 _ ?_
    refine br_c (fun h => ?_) (fun h => ?_)
    · exact absurd h (hi_n0 hS hb)
    · refine h1 (nB N g) k σ _ (p40 hS) hb ?_
      refine And.intro (vp_in_nI (by omega) (by omega)) ?_
      obtain ⟨e1, e2⟩ := hl k hb
      refine br_c (fun h3 => ?_) (fun h3 => ?_)
      · have h3 : σ.1 18 i (nI k).toNatClampNeg = nI m := h3
        rw [nI_clamp (by omega), e1, nI_eq (by omega) (by omega)] at h3
        refine h2 k σ _ (by omega) ?_
        refine hw _ _ _ [some (jR 17 i), some (jI (nI g)), some (jI (nI m)), some (jJ (lN (mk (fun j => (nB N g).testBit j && decide (l j = m)) k) ||| lN (2 ^ k))), none, some (jJ (lN (hi (nB N g) k) &&& (lN (hi (nB N g) k) - lN 1))), none, none] _ (by repeat' first | exact trivial | exact rfl | apply And.intro) ?_
        refine jm_eqv (X := X) ih rfl rfl ?_ rfl
        rw [nxt hb, fb_orL, mk]
        simp [hb, h3]
      · have h3 : ¬ σ.1 18 i (nI k).toNatClampNeg = nI m := h3
        rw [nI_clamp (by omega), e1, nI_eq (by omega) (by omega)] at h3
        refine hw _ _ _ [some (jR 17 i), some (jI (nI g)), some (jI (nI m)), some (jJ (lN (mk (fun j => (nB N g).testBit j && decide (l j = m)) k))), none, some (jJ (lN (hi (nB N g) k) &&& (lN (hi (nB N g) k) - lN 1))), none, none] _ (by repeat' first | exact trivial | exact rfl | apply And.intro) ?_
        refine jm_eqv (X := X) ih rfl rfl ?_ rfl
        rw [nxt hb, mk]
        simp [hb, h3]
end
section
/-! ROW and KEPT CUTS, as the document says them -/
/-- the nodes of a cut as digits, from below; m: how many places are left to look at, r: how many digits -/
def dg (c : Nat) : Nat → Nat → Nat
  | 0, _ => 0
  | m + 1, r => if c.testBit (39 - m) then (match r with
    | 0 => 0
    | r + 1 => (39 - m) * 64 ^ r + dg c m r) else dg c m r
def cu (c : Nat) : Nat → Nat
  | 0 => 0
  | m + 1 => cu c m + (c.testBit (39 - m)).toNat
theorem cu_cnt (c : Nat) : ∀ m, m ≤ 40 → cu c m + cnt c (40 - m) = cnt c 40
  | 0, _ => by show 0 + _ = _; rw [Nat.zero_add]
  | m + 1, h => by
    have ih := cu_cnt c m (by omega)
    rw [show 40 - m = (40 - (m + 1)) + 1 by omega, cnt_succ] at ih
    rw [cu, show 39 - m = 40 - (m + 1) by omega]
    omega
theorem dg_t {c m : Nat} (r : Nat) (h : c.testBit (39 - m) = true) : dg c (m + 1) (r + 1) = (39 - m) * 64 ^ r + dg c m r := by
  show (if c.testBit (39 - m) then (39 - m) * 64 ^ r + dg c m r else dg c m (r + 1)) = _
  rw [if_pos h]
theorem dg_t0 {c m : Nat} (h : c.testBit (39 - m) = true) : dg c (m + 1) 0 = 0 := by
  show (if c.testBit (39 - m) then 0 else dg c m 0) = _
  rw [if_pos h]
theorem dg_f {c m : Nat} (r : Nat) (h : c.testBit (39 - m) = false) : dg c (m + 1) r = dg c m r := by
  cases r with
  | zero =>
    show (if c.testBit (39 - m) then 0 else dg c m 0) = _
    rw [if_neg (by rw [h]; exact fun q => by cases q)]
  | succ r =>
    show (if c.testBit (39 - m) then (39 - m) * 64 ^ r + dg c m r else dg c m (r + 1)) = _
    rw [if_neg (by rw [h]; exact fun q => by cases q)]
theorem dg_lt (c : Nat) : ∀ m, m ≤ 40 → ∀ r, dg c m r < 64 ^ r
  | 0, _, r => Nat.pow_pos (by omega)
  | m + 1, hm, r => by
    cases h : c.testBit (39 - m) with
    | true =>
      cases r with
      | zero => rw [dg_t0 h]; exact Nat.pow_pos (by omega)
      | succ r =>
        have ih := dg_lt c m (by omega) r
        rw [dg_t r h]
        have h1 : (39 - m) * 64 ^ r ≤ 39 * 64 ^ r := Nat.mul_le_mul_right _ (by omega)
        rw [Nat.pow_succ]
        omega
    | false => rw [dg_f r h]; exact dg_lt c m (by omega) r
theorem dg_ge (c : Nat) : ∀ m, m ≤ 40 → ∀ r, (∃ i, 40 - m ≤ i ∧ i < 40 ∧ c.testBit i = true) → (40 - m) * 64 ^ r ≤ dg c m (r + 1)
  | 0, _, r, ⟨i, h1, h2, _⟩ => absurd h1 (by omega)
  | m + 1, hm, r, ⟨i, h1, h2, h3⟩ => by
    cases h : c.testBit (39 - m) with
    | true =>
      rw [dg_t r h, show 40 - (m + 1) = 39 - m by omega]
      exact Nat.le_add_right _ _
    | false =>
      rw [dg_f _ h]
      have hne : i ≠ 39 - m := fun e => by rw [e, h] at h3; cases h3
      have ih := dg_ge c m (by omega) r ⟨i, by omega, h2, h3⟩
      have h4 : (40 - (m + 1)) * 64 ^ r ≤ (40 - m) * 64 ^ r := Nat.mul_le_mul_right _ (by omega)
      exact Nat.le_trans h4 ih
theorem dg_cmp {a b j : Nat} (ha : a.testBit j = true) (hb : b.testBit j = false) (hj : ∃ i, j < i ∧ i < 40 ∧ b.testBit i = true) : ∀ m, m ≤ 40 → ∀ r, 40 - m ≤ j → (∀ i, 40 - m ≤ i → i < j → a.testBit i = b.testBit i) → cu a m ≤ r → dg a m r < dg b m r
  | 0, _, r, h1, _, _ => by obtain ⟨i, h2, h3, _⟩ := hj; omega
  | m + 1, hm, r, h1, h2, h3 => by
    obtain ⟨i0, j1, j2, j3⟩ := id hj
    by_cases e : 39 - m = j
    · rw [cu, e, ha] at h3
      have h3 : cu a m + 1 ≤ r := h3
      obtain ⟨r', rfl⟩ : ∃ r', r = r' + 1 := ⟨r - 1, by omega⟩
      rw [dg_t r' (by rw [e]; exact ha), dg_f _ (by rw [e]; exact hb), e]
      have h4 := dg_lt a m (by omega) r'
      have h5 := dg_ge b m (by omega) r' ⟨i0, by omega, j2, j3⟩
      have h6 : (j + 1) * 64 ^ r' ≤ (40 - m) * 64 ^ r' := Nat.mul_le_mul_right _ (by omega)
      have h7 : (j + 1) * 64 ^ r' = j * 64 ^ r' + 64 ^ r' := by rw [Nat.add_mul, Nat.one_mul]
      rw [h7] at h6
      refine Nat.lt_of_lt_of_le ?_ (Nat.le_trans h6 h5)
      exact Nat.add_lt_add_left h4 _
    · have h4 := h2 (39 - m) (by omega) (by omega)
      rw [cu] at h3
      cases hq : a.testBit (39 - m) with
      | true =>
        rw [hq] at h3
        have h3 : cu a m + 1 ≤ r := h3
        obtain ⟨r', rfl⟩ : ∃ r', r = r' + 1 := ⟨r - 1, by omega⟩
        rw [dg_t r' hq, dg_t r' (by rw [← h4]; exact hq)]
        exact Nat.add_lt_add_left (dg_cmp ha hb hj m (by omega) r' (by omega) (fun i p q => h2 i (by omega) q) (by omega)) _
      | false =>
        rw [hq] at h3
        have h3 : cu a m + 0 ≤ r := h3
        rw [dg_f r hq, dg_f r (by rw [← h4]; exact hq)]
        exact dg_cmp ha hb hj m (by omega) r (by omega) (fun i p q => h2 i (by omega) q) (by omega)
/-- the place of a cut in ROW -/
def plc (l : Nat → Nat) (c : Nat) : Nat := (mxL l c 40 * 8 + cnt c 40) * 64 ^ 6 + dg c 40 6
/-- the first place where two sets differ -/
theorem dif_bit {a b : Nat} (ha : a < 2 ^ 40) (hb : b < 2 ^ 40) (h : a ≠ b) : ∃ j, j < 40 ∧ a.testBit j ≠ b.testBit j ∧ ∀ i, i < j → a.testBit i = b.testBit i := by
  have hex : ∃ j, j < 40 ∧ a.testBit j ≠ b.testBit j := by
    apply Classical.byContradiction
    intro hno
    apply h
    apply set_eq
    intro i
    apply Classical.byContradiction
    intro hi
    by_cases h4 : i < 40
    · exact hno ⟨i, h4, hi⟩
    · apply hi
      have h1 : a.testBit i = false := by
        cases q : a.testBit i with
        | false => rfl
        | true => exact absurd (bit_lt ha q) h4
      have h2 : b.testBit i = false := by
        cases q : b.testBit i with
        | false => rfl
        | true => exact absurd (bit_lt hb q) h4
      rw [h1, h2]
  obtain ⟨j, h1, h2, h3⟩ := fb_first (p := fun j => a.testBit j ≠ b.testBit j) hex
  exact ⟨j, h1, h2, fun i hi => Classical.byContradiction fun q => h3 i hi q⟩
theorem cnt_cong {a b n : Nat} (h : ∀ i, i < n → a.testBit i = b.testBit i) : cnt a n = cnt b n := fb_ct_cong h
/-- of two sets with as many nodes, the other one has one behind -/
theorem dif_more {a b j : Nat} (hj : j < 40) (ha : a.testBit j = true) (hb : b.testBit j = false) (h : ∀ i, i < j → a.testBit i = b.testBit i) (hc : cnt a 40 = cnt b 40) : ∃ i, j < i ∧ i < 40 ∧ b.testBit i = true := by
  apply Classical.byContradiction
  intro hno
  have h1 : ∀ n, j + 1 + n ≤ 40 → cnt b (j + 1 + n) = cnt b (j + 1) := by
    intro n
    induction n with
    | zero => intro _; rfl
    | succ n ih =>
      intro hn
      rw [← Nat.add_assoc, cnt_succ, ih (by omega)]
      have : b.testBit (j + 1 + n) = false := by
        cases q : b.testBit (j + 1 + n) with
        | false => rfl
        | true => exact absurd ⟨_, by omega, by omega, q⟩ hno
      rw [this]; rfl
  have h2 := h1 (39 - j) (by omega)
  rw [show j + 1 + (39 - j) = 40 by omega, cnt_succ b j, hb] at h2
  have h3 : cnt a (j + 1) ≤ cnt a 40 := fb_ct_mono _ (by omega)
  rw [cnt_succ a j, ha, cnt_cong h] at h3
  have h2 : cnt b 40 = cnt b j + 0 := h2
  have h3 : cnt b j + 1 ≤ cnt a 40 := h3
  omega
def ahd (l : Nat → Nat) (a b : Nat) : Prop := mxL l a 40 < mxL l b 40 ∨ (mxL l a 40 = mxL l b 40 ∧ (cnt a 40 < cnt b 40 ∨ (cnt a 40 = cnt b 40 ∧ ∃ j, a.testBit j = true ∧ b.testBit j = false ∧ ∀ i, i < j → a.testBit i = b.testBit i)))
theorem plc_of {l : Nat → Nat} {a b : Nat} (ha : a < 2 ^ 40) (ha6 : cnt a 40 ≤ 6) (hb6 : cnt b 40 ≤ 6) (h : ahd l a b) : plc l a < plc l b := by
  have d1 := dg_lt a 40 (by omega) 6
  have d2 := dg_lt b 40 (by omega) 6
  have key : ∀ x y, x < y → x * 64 ^ 6 + dg a 40 6 < y * 64 ^ 6 + dg b 40 6 := by
    intro x y hxy
    have : (x + 1) * 64 ^ 6 ≤ y * 64 ^ 6 := Nat.mul_le_mul_right _ hxy
    rw [Nat.add_mul] at this
    omega
  unfold plc
  rcases h with h | ⟨h, h2 | ⟨h2, j, h3, h4, h5⟩⟩
  · exact key _ _ (by omega)
  · exact key _ _ (by omega)
  · rw [h, h2]
    have hj := bit_lt ha h3
    have hu := cu_cnt a 40 (by omega)
    have h0 : cnt a 0 = 0 := rfl
    rw [Nat.sub_self, h0] at hu
    have := dg_cmp h3 h4 (dif_more hj h3 h4 h5 h2) 40 (by omega) 6 (by omega) (fun i _ q => h5 i q) (by omega)
    omega
theorem ahd_tri {l : Nat → Nat} {a b : Nat} (ha : a < 2 ^ 40) (hb : b < 2 ^ 40) : ahd l a b ∨ a = b ∨ ahd l b a := by
  rcases Nat.lt_trichotomy (mxL l a 40) (mxL l b 40) with h | h | h
  · exact Or.inl (Or.inl h)
  · rcases Nat.lt_trichotomy (cnt a 40) (cnt b 40) with h2 | h2 | h2
    · exact Or.inl (Or.inr ⟨h, Or.inl h2⟩)
    · by_cases e : a = b
      · exact Or.inr (Or.inl e)
      · obtain ⟨j, h3, h4, h5⟩ := dif_bit ha hb e
        cases q : a.testBit j with
        | true =>
          rw [q] at h4
          exact Or.inl (Or.inr ⟨h, Or.inr ⟨h2, j, q, by cases p : b.testBit j with | true => exact absurd p.symm h4 | false => rfl, h5⟩⟩)
        | false =>
          rw [q] at h4
          exact Or.inr (Or.inr (Or.inr ⟨h.symm, Or.inr ⟨h2.symm, j, by cases p : b.testBit j with | false => exact absurd p.symm h4 | true => rfl, q, fun i hi => (h5 i hi).symm⟩⟩))
    · exact Or.inr (Or.inr (Or.inr ⟨h.symm, Or.inl h2⟩))
  · exact Or.inr (Or.inr (Or.inl h))
theorem plc_iff {l : Nat → Nat} {a b : Nat} (ha : a < 2 ^ 40) (hb : b < 2 ^ 40) (ha6 : cnt a 40 ≤ 6) (hb6 : cnt b 40 ≤ 6) : plc l a < plc l b ↔ ahd l a b := by
  refine ⟨fun h => ?_, plc_of ha ha6 hb6⟩
  rcases ahd_tri (l := l) ha hb with q | q | q
  · exact q
  · subst q; omega
  · have := plc_of hb hb6 ha6 q; omega
theorem plc_inj {l : Nat → Nat} {a b : Nat} (ha : a < 2 ^ 40) (hb : b < 2 ^ 40) (ha6 : cnt a 40 ≤ 6) (hb6 : cnt b 40 ≤ 6) (h : plc l a = plc l b) : a = b := by
  rcases ahd_tri (l := l) ha hb with q | q | q
  · have := plc_of ha ha6 hb6 q; omega
  · exact q
  · have := plc_of hb hb6 ha6 q; omega
def sub (a b : Nat) : Prop := ∀ i, a.testBit i = true → b.testBit i = true
theorem plc_sub {l : Nat → Nat} {a b : Nat} (ha : a < 2 ^ 40) (hb : b < 2 ^ 40) (ha6 : cnt a 40 ≤ 6) (hb6 : cnt b 40 ≤ 6) (h : sub a b) (hne : a ≠ b) : plc l a < plc l b := by
  apply plc_of ha ha6 hb6
  have h1 : mxL l a 40 ≤ mxL l b 40 := mxL_le (fun j hj => mxL_ge (h j hj) 40 (bit_lt ha hj)) 40
  have h2 : cnt a 40 < cnt b 40 := by
    refine Nat.lt_of_not_le fun q => hne (cnt_eq_sub ha hb h q)
  rcases Nat.lt_or_ge (mxL l a 40) (mxL l b 40) with q | q
  · exact Or.inl q
  · exact Or.inr ⟨by omega, Or.inl h2⟩
/-- of some sets, those without all nodes of another one -/
def mn (M : Nat → Prop) (x : Nat) : Prop := M x ∧ ∀ y, M y → sub y x → y = x
def isKept (l : Nat → Nat) (M : Nat → Prop) (n : Nat) (kc : Nat → Nat) : Prop :=
  n ≤ 8 ∧ (∀ i, i < n → mn M (kc i)) ∧ (∀ i j, i < j → j < n → plc l (kc i) < plc l (kc j)) ∧ ∀ x, mn M x → (∃ i, i < n ∧ kc i = x) ∨ (n = 8 ∧ ∀ i, i < n → plc l (kc i) < plc l x)
theorem kept_one {l : Nat → Nat} {M : Nat → Prop} {n n' : Nat} {kc kc' : Nat → Nat} (h : isKept l M n kc) (h' : isKept l M n' kc') : n = n' ∧ ∀ i, i < n → kc i = kc' i := by
  obtain ⟨a1, a2, a3, a4⟩ := h
  obtain ⟨b1, b2, b3, b4⟩ := h'
  have same : ∀ i, i < n → i < n' → kc i = kc' i := by
    intro i
    induction i using Nat.strongRecOn with
    | ind i ih =>
      intro hi hi'
      have h1 : ¬ plc l (kc i) < plc l (kc' i) := by
        intro q
        rcases b4 (kc i) (a2 i hi) with ⟨j, hj, e⟩ | ⟨-, hall⟩
        · rcases Nat.lt_trichotomy j i with q2 | q2 | q2
          · have := a3 j i q2 hi
            rw [ih j q2 (by omega) hj, e] at this
            omega
          · subst q2; rw [e] at q; omega
          · have := b3 i j q2 hj
            rw [e] at this
            omega
        · have := hall i hi'
          omega
      rcases a4 (kc' i) (b2 i hi') with ⟨j, hj, e⟩ | ⟨-, hall⟩
      · rcases Nat.lt_trichotomy j i with q2 | q2 | q2
        · have := b3 j i q2 hi'
          rw [← ih j q2 hj (by omega), e] at this
          omega
        · subst q2; exact e
        · have := a3 i j q2 hj
          rw [e] at this
          omega
      · have := hall i hi
        omega
  refine ⟨?_, ?_⟩
  · rcases Nat.lt_trichotomy n n' with q | q | q
    · rcases a4 (kc' n) (b2 n q) with ⟨j, hj, e⟩ | ⟨e, -⟩
      · have := b3 j n hj q
        rw [← same j hj (by omega), e] at this
        omega
      · omega
    · exact q
    · rcases b4 (kc n') (a2 n' q) with ⟨j, hj, e⟩ | ⟨e, -⟩
      · have := a3 j n' hj q
        rw [same j (by omega) hj, e] at this
        omega
      · omega
  · intro i hi
    by_cases hi' : i < n'
    · exact same i hi hi'
    · rcases b4 (kc n') (a2 n' (by omega)) with ⟨j, hj, e⟩ | ⟨e, -⟩
      · have := a3 j n' hj (by omega)
        rw [same j (by omega) hj, e] at this
        omega
      · omega
theorem mn_iff {M M' : Nat → Prop} (h : ∀ x, M x ↔ M' x) (x : Nat) : mn M x ↔ mn M' x := by
  unfold mn
  rw [h x]
  exact and_congr Iff.rfl ⟨fun q y hy => q y ((h y).mpr hy), fun q y hy => q y ((h y).mp hy)⟩
theorem kept_iff {l : Nat → Nat} {M M' : Nat → Prop} {n : Nat} {kc : Nat → Nat} (h : ∀ x, M x ↔ M' x) (hk : isKept l M n kc) : isKept l M' n kc := by
  obtain ⟨a1, a2, a3, a4⟩ := hk
  exact ⟨a1, fun i hi => (mn_iff h _).mp (a2 i hi), a3, fun x hx => a4 x ((mn_iff h x).mpr hx)⟩
theorem kept_cong {l l' : Nat → Nat} {M : Nat → Prop} {n : Nat} {kc : Nat → Nat} (h : ∀ x, M x → plc l x = plc l' x) (hk : isKept l M n kc) : isKept l' M n kc := by
  obtain ⟨a1, a2, a3, a4⟩ := hk
  refine ⟨a1, a2, fun i j hi hj => ?_, fun x hx => ?_⟩
  · rw [← h _ (a2 i (by omega)).1, ← h _ (a2 j hj).1]; exact a3 i j hi hj
  · rcases a4 x hx with q | ⟨q1, q2⟩
    · exact Or.inl q
    · refine Or.inr ⟨q1, fun i hi => ?_⟩
      rw [← h _ (a2 i hi).1, ← h _ hx.1]; exact q2 i hi
end
section
/-! the component's Row, and placeInRow -/
theorem plc_lt {l : Nat → Nat} {c : Nat} (hl : ∀ j, c.testBit j = true → l j < 100) : plc l c < 2 ^ 62 := by
  have h1 : mxL l c 40 ≤ 99 := mxL_le (fun j hj => by have := hl j hj; omega) 40
  have h2 := cnt_le c 40
  have h3 := dg_lt c 40 (by omega) 6
  unfold plc
  omega
def rR (σ : jm_G) (n : Nat) (R : Nat → Nat) (l : Nat → Nat) : Prop :=
  σ.1 14 0 2 = nI n ∧ n ≤ 730 ∧ ∀ i, i < n → R i < 2 ^ 40 ∧ plc l (R i) < 2 ^ 62 ∧ σ.2 15 0 i = lN (R i) ∧ σ.2 16 0 i = lN (plc l (R i))
abbrev ct_rclear (C : jm_C) : Prop := ∀ (l : Nat → Nat) (σ : jm_G) (post : Option jm_V → jm_G → Prop), (∀ σ', off 14 16 σ σ' → rR σ' 0 (fun _ => 0) l → post none σ') → C kX6_clear [jR 14 0] σ post
theorem T_rclear (L : Nat) {C : jm_C} (hC : jm_mon C) : ct_rclear (jm_up L C) := by
  intro l σ post hp
  refine jm_start rfl (Nat.le_of_ble_eq_true rfl) hC fun X hg hw => ?_
  refine hg [] 20 _ ?_
  refine And.intro trivial (hp _ (off_wI (off_refl _ _ _) (by omega) (by omega)) ⟨?_, by omega, fun i hi => absurd hi (by omega)⟩)
  show upd (σ.1 14 0) 2 (nI 0) 2 = _
  rw [upd_at, if_pos rfl]
abbrev ct_radd (C : jm_C) : Prop := ∀ (l : Nat → Nat) (n c : Nat) (R : Nat → Nat) (σ : jm_G) (post : Option jm_V → jm_G → Prop), rR σ n R l → n < 730 → c < 2 ^ 40 → plc l c < 2 ^ 62 → (∀ σ', off 14 16 σ σ' → rR σ' (n + 1) (add1 n R c) l → post none σ') → C kX6_add [jR 14 0, jJ (lN c), jJ (lN (plc l c))] σ post
theorem T_radd (L : Nat) {C : jm_C} (hC : jm_mon C) : ct_radd (jm_up L C) := by
  intro l n c R σ post hR hn hc hpl hp
  refine jm_start rfl (Nat.le_of_ble_eq_true rfl) hC fun X hg hw => ?_
  refine hg [] 40 _ ?_
  have hin : vp_in (σ.1 14 0 2) 730 := by rw [hR.1]; exact vp_in_nI hn (by omega)
  refine br_c (fun h => ?_) (fun h => ?_)
  · have h : nI 730 ≤ σ.1 14 0 2 := h
    rw [hR.1, nI_leI (by omega) (by omega)] at h
    omega
  · refine And.intro hin ?_
    refine And.intro hin ?_
    refine And.intro trivial ?_
    refine hp _ (off_wI (off_wJ (off_wJ (off_refl _ _ _) (by omega) (by omega)) (by omega) (by omega)) (by omega) (by omega)) ⟨?_, by omega, fun i hi => ?_⟩
    · show upd (σ.1 14 0) 2 (σ.1 14 0 2 + nI 1) 2 = _
      rw [upd_at, if_pos rfl, hR.1, nI_add]
    · have e1 : (σ.1 14 0 2).toNatClampNeg = n := by rw [hR.1, nI_clamp (by omega)]
      by_cases e : i = n
      · subst e
        rw [add1_q]
        refine ⟨hc, hpl, ?_, ?_⟩
        · show vp_updL (σ.2 15 0) (σ.1 14 0 2).toNatClampNeg (lN c) i = _
          rw [e1, updL_at, if_pos rfl]
        · show vp_updL (σ.2 16 0) (σ.1 14 0 2).toNatClampNeg (lN (plc l c)) i = _
          rw [e1, updL_at, if_pos rfl]
      · rw [add1_lt (by omega)]
        obtain ⟨a1, a2, a3, a4⟩ := hR.2.2 i (by omega)
        refine ⟨a1, a2, ?_, ?_⟩
        · show vp_updL (σ.2 15 0) (σ.1 14 0 2).toNatClampNeg (lN c) i = _
          rw [e1, updL_at, if_neg e]; exact a3
        · show vp_updL (σ.2 16 0) (σ.1 14 0 2).toNatClampNeg (lN (plc l c)) i = _
          rw [e1, updL_at, if_neg e]; exact a4
def dropped (n : Nat) (R : Nat → Nat) (c n' : Nat) (R' : Nat → Nat) : Prop := (∀ j, j < n' → ∃ k, k < n ∧ R' j = R k ∧ ¬ sub c (R k)) ∧ ∀ k, k < n → ¬ sub c (R k) → ∃ j, j < n' ∧ R' j = R k
abbrev ct_rdrop (C : jm_C) : Prop := ∀ (l : Nat → Nat) (n c : Nat) (R : Nat → Nat) (σ : jm_G) (post : Option jm_V → jm_G → Prop), rR σ n R l → c < 2 ^ 40 → (∀ σ' n' R', off 14 16 σ σ' → rR σ' n' R' l → dropped n R c n' R' → post none σ') → C kX6_dropAllWith [jR 14 0, jJ (lN c)] σ post
theorem T_rdrop (L : Nat) {C : jm_C} (hC : jm_mon C) : ct_rdrop (jm_up L C) := by
  intro l n c R σ post hR hc hp
  refine jm_start rfl (Nat.le_of_ble_eq_true rfl) hC fun X hg hw => ?_
  obtain ⟨hR1, hn, hR3⟩ := hR
  refine hg [5] 30 _ ?_
  show X (σ, 5, [some (jR 14 0), some (jJ (lN c)), none, some (jI (nI 0)), some (jI (nI 0))], [])
  have gen : ∀ (m i : Nat), i + m = n → ∀ (τ : jm_G) (n' : Nat) (R' : Nat → Nat), off 14 16 σ τ → τ.1 = σ.1 → n' ≤ i → (∀ j, i ≤ j → j < n → τ.2 15 0 j = lN (R j) ∧ τ.2 16 0 j = lN (plc l (R j))) → (∀ j, j < n' → R' j < 2 ^ 40 ∧ plc l (R' j) < 2 ^ 62 ∧ τ.2 15 0 j = lN (R' j) ∧ τ.2 16 0 j = lN (plc l (R' j))) → dropped i R c n' R' →
      X (τ, 5, [some (jR 14 0), some (jJ (lN c)), none, some (jI (nI n')), some (jI (nI i))], []) := by
    intro m
    induction m with
    | zero =>
      intro i him τ n' R' ho e1 hni hold hnew hd
      have e : i = n := by omega
      subst e
      refine hg [5] 40 _ ?_
      refine br_c (fun h => ?_) (fun h => ?_)
      · refine And.intro trivial (hp _ n' R' (off_wI ho (by omega) (by omega)) ⟨?_, by omega, hnew⟩ hd)
        show upd (τ.1 14 0) 2 (nI n') 2 = _
        rw [upd_at, if_pos rfl]
      · have h : ¬ τ.1 14 0 2 ≤ nI i := h
        rw [e1, hR1, nI_leI (by omega) (by omega)] at h
        omega
    | succ m ih =>
      intro i him τ n' R' ho e1 hni hold hnew hd
      have hin : vp_in (nI i) 730 := vp_in_nI (by omega) (by omega)
      have hin' : vp_in (nI n') 730 := vp_in_nI (by omega) (by omega)
      refine hg [5] 60 _ ?_
      refine br_c (fun h => ?_) (fun h => ?_)
      · have h : τ.1 14 0 2 ≤ nI i := h
        rw [e1, hR1, nI_leI (by omega) (by omega)] at h
        omega
      · refine And.intro hin ?_
        obtain ⟨o1, o2⟩ := hold i (Nat.le_refl _) (by omega)
        obtain ⟨r1, r2, -, -⟩ := hR3 i (by omega)
        have esD : lN c &&& (τ.2 15 0 (nI i).toNatClampNeg ^^^ (-1)) = lN (sD c (R i)) := by rw [nI_clamp (by omega), o1, lN_andn]
        have lsD : sD c (R i) < 2 ^ 64 := Nat.lt_trans (sD_lt hc) (by omega)
        refine br_c (fun h => ?_) (fun h => ?_)
        · have h : lg_cmp (lN c &&& (τ.2 15 0 (nI i).toNatClampNeg ^^^ (-1))) (lN 0) = 0 := h
          rw [esD, cmp_0, lN_inj lsD (by omega), sD_0] at h
          show X (τ, 5, [some (jR 14 0), some (jJ (lN c)), none, some (jI (nI n')), some (jI (nI i + nI 1))], [])
          rw [nI_add]
          refine ih (i + 1) (by omega) τ n' R' ho e1 (by omega) (fun j h1 h2 => hold j (by omega) h2) hnew ⟨fun j hj => ?_, fun k hk hs => ?_⟩
          · obtain ⟨k, h1, h2⟩ := hd.1 j hj
            exact ⟨k, by omega, h2⟩
          · by_cases e : k = i
            · subst e; exact absurd h hs
            · exact hd.2 k (by omega) hs
        · have h : ¬ lg_cmp (lN c &&& (τ.2 15 0 (nI i).toNatClampNeg ^^^ (-1))) (lN 0) = 0 := h
          rw [esD, cmp_0, lN_inj lsD (by omega), sD_0] at h
          refine And.intro hin ?_
          refine And.intro hin' ?_
          refine And.intro hin ?_
          refine And.intro hin' ?_
          show X (wJ (wJ τ 15 0 (vp_updL (τ.2 15 0) (nI n').toNatClampNeg (τ.2 15 0 (nI i).toNatClampNeg))) 16 0 (vp_updL (τ.2 16 0) (nI n').toNatClampNeg (τ.2 16 0 (nI i).toNatClampNeg)), 5, [some (jR 14 0), some (jJ (lN c)), none, some (jI (nI n' + nI 1)), some (jI (nI i + nI 1))], [])
          rw [nI_add, nI_add, nI_clamp (by omega), nI_clamp (by omega), o1, o2]
          refine ih (i + 1) (by omega) _ (n' + 1) (add1 n' R' (R i)) (off_wJ (off_wJ ho (by omega) (by omega)) (by omega) (by omega)) e1 (by omega) (fun j h1 h2 => ?_) (fun j hj => ?_) ⟨fun j hj => ?_, fun k hk hs => ?_⟩
          · show vp_updL (τ.2 15 0) n' (lN (R i)) j = _ ∧ vp_updL (τ.2 16 0) n' (lN (plc l (R i))) j = _
            rw [updL_at, updL_at, if_neg (by omega), if_neg (by omega)]
            exact hold j (by omega) h2
          · show _ ∧ _ ∧ vp_updL (τ.2 15 0) n' (lN (R i)) j = _ ∧ vp_updL (τ.2 16 0) n' (lN (plc l (R i))) j = _
            rw [updL_at, updL_at]
            by_cases e : j = n'
            · subst e
              rw [add1_q, if_pos rfl, if_pos rfl]
              exact ⟨r1, r2, rfl, rfl⟩
            · rw [add1_lt (by omega), if_neg e, if_neg e]
              exact hnew j (by omega)
          · by_cases e : j = n'
            · subst e
              rw [add1_q]
              exact ⟨i, by omega, rfl, h⟩
            · rw [add1_lt (by omega)]
              obtain ⟨k, h1, h2⟩ := hd.1 j (by omega)
              exact ⟨k, by omega, h2⟩
          · by_cases e : k = i
            · subst e; exact ⟨n', by omega, add1_q _ _ _⟩
            · obtain ⟨j, h1, h2⟩ := hd.2 k (by omega) hs
              exact ⟨j, by omega, by rw [add1_lt h1]; exact h2⟩
  exact gen n 0 (by omega) σ 0 (fun _ => 0) (off_refl _ _ _) rfl (by omega) (fun j _ h2 => (hR3 j h2).2.2) (fun j hj => absurd hj (by omega)) ⟨fun j hj => absurd hj (by omega), fun k hk => absurd hk (by omega)⟩
abbrev ct_rtake (C : jm_C) : Prop := ∀ (l : Nat → Nat) (n : Nat) (R : Nat → Nat) (σ : jm_G) (post : Option jm_V → jm_G → Prop), rR σ n R l → (n = 0 → post (some (jJ (lN 0))) σ) →
  (∀ σ' f n' R', f < n → (∀ i, i < n → plc l (R f) ≤ plc l (R i)) → off 14 16 σ σ' → rR σ' n' R' l → dropped n R (R f) n' R' → post (some (jJ (lN (R f)))) σ') → C kX6_takeFirst [jR 14 0] σ post
theorem T_rtake (L : Nat) {C : jm_C} (hC : jm_mon C) (h1 : ct_rdrop C) : ct_rtake (jm_up L C) := by
  intro l n R σ post hR hp0 hp
  refine jm_start rfl (Nat.le_of_ble_eq_true rfl) hC fun X hg hw => ?_
  obtain ⟨hR1, hn, hR3⟩ := id hR
  refine hg [13] 30 _ ?_
  refine br_c (fun h => ?_) (fun h => ?_)
  · have h : σ.1 14 0 2 = nI 0 := h
    rw [hR1, nI_eq (by omega) (by omega)] at h
    exact And.intro trivial (hp0 h)
  · have h : ¬ σ.1 14 0 2 = nI 0 := h
    rw [hR1, nI_eq (by omega) (by omega)] at h
    show X (σ, 13, [some (jR 14 0), some (jI (nI 0)), some (jI (nI 1)), none], [])
    have gen : ∀ (m i : Nat), i + m = n → 1 ≤ i → ∀ f, f < i → (∀ j, j < i → plc l (R f) ≤ plc l (R j)) → X (σ, 13, [some (jR 14 0), some (jI (nI f)), some (jI (nI i)), none], []) := by
      intro m
      induction m with
      | zero =>
        intro i him hi f hf hall
        have e : i = n := by omega
        subst e
        obtain ⟨r1, r2, r3, r4⟩ := hR3 f hf
        refine hg [13] 40 _ ?_
        refine br_c (fun h => ?_) (fun h => ?_)
        · refine And.intro (vp_in_nI (by omega) (by omega)) ?_
          have ev : σ.2 15 0 (nI f).toNatClampNeg = lN (R f) := by rw [nI_clamp (by omega)]; exact r3
          have call : ∀ {post' : Option jm_V → jm_G → Prop}, (∀ τ, post' none τ → post' none τ) → C kX6_dropAllWith [jR 14 0, jJ (lN (R f))] σ post' → C kX6_dropAllWith [jR 14 0, jJ (σ.2 15 0 (nI f).toNatClampNeg)] σ post' := fun _ h => by rw [ev]; exact h
          refine call (fun _ h => h) ?_
          refine h1 l i (R f) R σ _ hR r1 fun σ' n' R' o1 o2 o3 => ?_
          refine And.intro trivial ?_
          show post (some (jJ (σ.2 15 0 (nI f).toNatClampNeg))) σ'
          rw [ev]
          exact hp σ' f n' R' hf hall o1 o2 o3
        · have h : ¬ σ.1 14 0 2 ≤ nI i := h
          rw [hR1, nI_leI (by omega) (by omega)] at h
          omega
      | succ m ih =>
        intro i him hi f hf hall
        obtain ⟨-, f2, -, f4⟩ := hR3 f (by omega)
        obtain ⟨-, i2, -, i4⟩ := hR3 i (by omega)
        refine hg [13] 40 _ ?_
        refine br_c (fun h => ?_) (fun h => ?_)
        · have h : σ.1 14 0 2 ≤ nI i := h
          rw [hR1, nI_leI (by omega) (by omega)] at h
          omega
        · refine And.intro (vp_in_nI (by omega) (by omega)) ?_
          refine And.intro (vp_in_nI (by omega) (by omega)) ?_
          refine br_c (fun h => ?_) (fun h => ?_)
          · have h : 0 ≤ lg_cmp (σ.2 16 0 (nI i).toNatClampNeg) (σ.2 16 0 (nI f).toNatClampNeg) := h
            rw [nI_clamp (by omega), nI_clamp (by omega), f4, i4, cmp_ge, pk_lLT (by omega) (by omega)] at h
            show X (σ, 13, [some (jR 14 0), some (jI (nI f)), some (jI (nI i + nI 1)), none], [])
            rw [nI_add]
            refine ih (i + 1) (by omega) (by omega) f (by omega) fun j hj => ?_
            by_cases e : j = i
            · subst e; omega
            · exact hall j (by omega)
          · have h : ¬ 0 ≤ lg_cmp (σ.2 16 0 (nI i).toNatClampNeg) (σ.2 16 0 (nI f).toNatClampNeg) := h
            rw [nI_clamp (by omega), nI_clamp (by omega), f4, i4, cmp_ge, pk_lLT (by omega) (by omega)] at h
            have h := Classical.not_not.mp h
            show X (σ, 13, [some (jR 14 0), some (jI (nI i)), some (jI (nI i + nI 1)), none], [])
            rw [nI_add]
            refine ih (i + 1) (by omega) (by omega) i (by omega) fun j hj => ?_
            by_cases e : j = i
            · subst e; omega
            · have := hall j (by omega); omega
    exact gen (n - 1) 1 (by omega) (by omega) 0 (by omega) fun j hj => by rw [show j = 0 by omega]; exact Nat.le_refl _
/-! a cut's place -/
def nd (c : Nat) : Nat → Nat
  | 0 => 0
  | k + 1 => if c.testBit k then nd c k * 64 + k else nd c k
theorem nd_lt (c : Nat) : ∀ k, k ≤ 40 → nd c k < 64 ^ cnt c k
  | 0, _ => by show 0 < 64 ^ 0; omega
  | k + 1, h => by
    have ih := nd_lt c k (by omega)
    rw [nd, cnt_succ]
    cases hb : c.testBit k with
    | true =>
      rw [if_pos rfl]
      show _ < 64 ^ (cnt c k + 1)
      rw [Nat.pow_succ]
      omega
    | false =>
      rw [if_neg (fun q => by cases q)]
      exact ih
theorem nd_dg (c : Nat) (h6 : cnt c 40 ≤ 6) : ∀ k, k ≤ 40 → dg c 40 6 = nd c k * 64 ^ (6 - cnt c k) + dg c (40 - k) (6 - cnt c k)
  | 0, _ => by
    show _ = 0 * _ + dg c 40 (6 - 0)
    rw [Nat.zero_mul, Nat.zero_add]
  | k + 1, h => by
    have ih := nd_dg c h6 k (by omega)
    have hm : cnt c (k + 1) ≤ cnt c 40 := fb_ct_mono _ h
    rw [ih, nd]
    rw [cnt_succ] at hm ⊢
    rw [show 40 - k = (40 - (k + 1)) + 1 by omega]
    cases hb : c.testBit k with
    | true =>
      rw [hb] at hm
      have hm : cnt c k + 1 ≤ cnt c 40 := hm
      obtain ⟨r, hr⟩ : ∃ r, 6 - cnt c k = r + 1 := ⟨5 - cnt c k, by omega⟩
      show _ = (if true = true then _ else _) * 64 ^ (6 - (cnt c k + 1)) + dg c _ (6 - (cnt c k + 1))
      rw [show 6 - (cnt c k + 1) = r by omega, hr, if_pos rfl, dg_t r (by rw [show 39 - (40 - (k + 1)) = k by omega]; exact hb), show 39 - (40 - (k + 1)) = k by omega, Nat.pow_succ, Nat.add_mul]
      have : nd c k * (64 ^ r * 64) = nd c k * 64 * 64 ^ r := by rw [Nat.mul_comm (64 ^ r) 64, Nat.mul_assoc]
      omega
    | false =>
      show _ = (if false = true then _ else _) * 64 ^ (6 - (cnt c k + 0)) + dg c _ (6 - (cnt c k + 0))
      rw [if_neg (fun q => by cases q), dg_f _ (by rw [show 39 - (40 - (k + 1)) = k by omega]; exact hb)]
      rfl
theorem nd_end {c : Nat} (h6 : cnt c 40 ≤ 6) : dg c 40 6 = nd c 40 * 64 ^ (6 - cnt c 40) := by
  rw [nd_dg c h6 40 (Nat.le_refl _)]
  show _ + dg c 0 _ = _
  rfl
theorem or_sumL {a b k : Nat} (h : a < 2 ^ k) : lN (b * 2 ^ k) ||| lN a = lN (b * 2 ^ k + a) := by
  rw [Nat.mul_comm b, fb_or_sumL b h]
abbrev ct_place (C : jm_C) : Prop := ∀ (i c : Nat) (l : Nat → Nat) (σ : jm_G) (post : Option jm_V → jm_G → Prop), c < 2 ^ 40 → cnt c 40 ≤ 6 → (∀ j, c.testBit j = true → σ.1 18 i j = nI (l j) ∧ l j < 100) → post (some (jJ (lN (plc l c)))) σ → C kX4_placeInRow [jR 17 i, jJ (lN c)] σ post
theorem T_place (L : Nat) {C : jm_C} (hC : jm_mon C) (h1 : ct_low C) : ct_place (jm_up L C) := by
  intro i c l σ post hc h6 hl hp
  refine jm_start rfl (Nat.le_of_ble_eq_true rfl) hC fun X hg hw => ?_
  refine hg [11] 30 _ ?_
  show X (σ, 11, [some (jR 17 i), some (jJ (lN c)), none, some (jJ (lN 0)), none, some (jI (nI 0)), some (jI (nI 0)), some (jJ (lN c)), none, none], [])
  have hb9 : ∀ n, mxL l c n < 100 := fun n => Nat.lt_of_le_of_lt (mxL_le (m := 99) (fun j hj => by have := (hl j hj).2; omega) n) (by omega)
  have main := jm_bits (X := X) c (fun k => (σ, 11, [some (jR 17 i), some (jJ (lN c)), none, some (jJ (lN (nd c k))), none, some (jI (nI (cnt c k))), some (jI (nI (mxL l c k))), some (jJ (lN (hi c k))), none, none], [])) 40 ?_ ?_ ?_ 0 (by omega)
  · have main : X (σ, 11, [some (jR 17 i), some (jJ (lN c)), none, some (jJ (lN 0)), none, some (jI (nI 0)), some (jI (nI 0)), some (jJ (lN (hi c 0))), none, none], []) := main
    rw [hi_0] at main
    exact main
  · show X (σ, 11, [some (jR 17 i), some (jJ (lN c)), none, some (jJ (lN (nd c 40))), none, some (jI (nI (cnt c 40))), some (jI (nI (mxL l c 40))), some (jJ (lN (hi c 40))), none, none], [])
    rw [hi_end hc]
    refine hg [] 60 _ ?_
    refine br_c (fun h => ?_) (fun h => ?_)
    · refine And.intro trivial ?_
      show post (some (jJ (((((nI (mxL l c 40)).toInt64 <<< ((nI 3).toInt64 &&& 63)) ||| (nI (cnt c 40)).toInt64) <<< ((nI 36).toInt64 &&& 63)) ||| (lN (nd c 40) <<< ((nI 6 * (nI 6 - nI (cnt c 40))).toInt64 &&& 63))))) σ
      have h9 := hb9 40
      have hd := dg_lt c 40 (by omega) 6
      rw [nI_l (n := mxL l c 40) (by omega), nI_l (n := cnt c 40) (by omega), wb_shl (mxL l c 40) (k := 3) (by omega), or_sumL (k := 3) (by omega), wb_shl _ (k := 36) (by omega), pk_sub h6, pk_mul, wb_shl (nd c 40) (by omega)]
      have e1 : nd c 40 * 2 ^ (6 * (6 - cnt c 40)) = dg c 40 6 := by rw [nd_end h6, Nat.pow_mul]
      rw [e1, or_sumL (by omega)]
      exact hp
    · exact absurd ((cmp_0 _ _).mpr rfl) h
  · intro k hk hb
    have e : mxL l c (k + 1) = mxL l c k := by rw [mxL, hb]; simp
    have e2 : nd c (k + 1) = nd c k := by rw [nd, hb]; simp
    have e3 : cnt c (k + 1) = cnt c k := by rw [cnt_succ, hb]; rfl
    simp only [e, e2, e3, hi_skip hb]
  · intro k hk hb ih
    have e3 : cnt c (k + 1) = cnt c k + 1 := by rw [cnt_succ, hb]; rfl
    have hm : cnt c (k + 1) ≤ cnt c 40 := fb_ct_mono _ (by omega)
    refine hg [11] 60 _ ?_
    refine br_c (fun h => ?_) (fun h => ?_)
    · exact absurd h (hi_n0 hc hb)
    · refine br_c (fun h => ?_) (fun h => ?_)
      · have h : nI 6 ≤ nI (cnt c k) := h
        rw [nI_leI (by omega) (by omega)] at h
        omega
      · refine h1 c k σ _ (p40 hc) hb ?_
        refine And.intro (vp_in_nI (by omega) (by omega)) ?_
        refine hw _ _ _ [some (jR 17 i), some (jJ (lN c)), none, some (jJ ((lN (nd c k) <<< ((nI 6).toInt64 &&& 63)) ||| (nI k).toInt64)), none, some (jI (nI (cnt c k) + nI 1)), some (jI (if nI (mxL l c k) < σ.1 18 i (nI k).toNatClampNeg then σ.1 18 i (nI k).toNatClampNeg else nI (mxL l c k))), some (jJ (lN (hi c k) &&& (lN (hi c k) - lN 1))), none, none] _ (by repeat' first | exact trivial | exact rfl | apply And.intro) ?_
        refine jm_eqv (X := X) ih rfl rfl ?_ rfl
        have h9 := hb9 k
        have := (hl k hb).2
        rw [nxt hb, nI_clamp (by omega), (hl k hb).1, maxI (by omega) (by omega), mxL, if_pos hb, nI_add, e3, wb_shl _ (k := 6) (by omega), nI_l (n := k) (by omega), or_sumL (by omega), nd, if_pos hb]
end
section
/-! KEPT CUTS, gate by gate -/
def chN (N : nw) (g : Nat) (kp : Nat → Nat × (Nat → Nat)) (p : Nat) : Nat := if p < ar (nK N g) then 1 + (kp (nR N g p)).1 else 1
def chC (N : nw) (g : Nat) (kp : Nat → Nat × (Nat → Nat)) (p i : Nat) : Nat := if p < ar (nK N g) then (if i = 0 then 2 ^ nR N g p else (kp (nR N g p)).2 (i - 1)) else 0
def cand (N : nw) (K g : Nat) (kp : Nat → Nat × (Nat → Nat)) (x : Nat) : Prop := x = nea N K g ∨ (cnt x 40 ≤ K ∧ ∃ a b c, a < chN N g kp 0 ∧ b < chN N g kp 1 ∧ c < chN N g kp 2 ∧ x = chC N g kp 0 a ||| chC N g kp 1 b ||| chC N g kp 2 c)
noncomputable def keep (l : Nat → Nat) (M : Nat → Prop) : Nat × (Nat → Nat) := @dite _ (∃ p : Nat × (Nat → Nat), isKept l M p.1 p.2) (Classical.propDecidable _) (fun h => Classical.choose h) (fun _ => (0, fun _ => 0))
theorem keep_eq {l : Nat → Nat} {M : Nat → Prop} {n : Nat} {kc : Nat → Nat} (h : isKept l M n kc) : (keep l M).1 = n ∧ ∀ i, i < n → (keep l M).2 i = kc i := by
  have hex : ∃ p : Nat × (Nat → Nat), isKept l M p.1 p.2 := ⟨(n, kc), h⟩
  unfold keep
  rw [dif_pos hex]
  obtain ⟨h1, h2⟩ := kept_one (Classical.choose_spec hex) h
  exact ⟨h1, fun i hi => h2 i (by omega)⟩
theorem keep_in {l : Nat → Nat} {M : Nat → Prop} : (keep l M).1 ≤ 8 ∧ ∀ i, i < (keep l M).1 → M ((keep l M).2 i) := by
  by_cases h : ∃ p : Nat × (Nat → Nat), isKept l M p.1 p.2
  · obtain ⟨⟨n, kc⟩, hk⟩ := h
    obtain ⟨h1, h2⟩ := keep_eq hk
    rw [h1]
    refine ⟨hk.1, fun i hi => ?_⟩
    rw [h2 i hi]
    exact (hk.2.1 i hi).1
  · have e : keep l M = (0, fun _ => 0) := by unfold keep; rw [dif_neg h]
    rw [e]
    exact ⟨by omega, fun i hi => absurd hi (Nat.not_lt_zero _)⟩
noncomputable def kpT (N : nw) (K : Nat) : Nat → Nat → Nat × (Nat → Nat)
  | 0 => fun _ => (0, fun _ => 0)
  | n + 1 => fun i => if i = n then (if isG N n then keep (lev N K) (cand N K n (kpT N K n)) else (0, fun _ => 0)) else kpT N K n i
noncomputable def kp (N : nw) (K i : Nat) : Nat × (Nat → Nat) := kpT N K (i + 1) i
theorem kpT_lt (N : nw) (K : Nat) : ∀ (n i : Nat), i < n → kpT N K n i = kp N K i
  | 0, i, h => absurd h (by omega)
  | n + 1, i, h => by
    by_cases e : i = n
    · subst e; rfl
    · show (if i = n then _ else kpT N K n i) = _
      rw [if_neg e]
      exact kpT_lt N K n i (by omega)
theorem nR_lt {N : nw} (hok : nw_ok N) {g p : Nat} (hg : isG N g = true) (hp : p < ar (nK N g)) : nR N g p < g := by
  apply sM_lt hok (i := g)
  rw [sM_bit, hg]
  simp
  exact ⟨p, hp, rfl⟩
theorem nR_src {N : nw} {g p : Nat} (hg : isG N g = true) (hp : p < ar (nK N g)) : (sM N g).testBit (nR N g p) = true := by
  rw [sM_bit, hg]
  simp
  exact ⟨p, hp, rfl⟩
theorem chN_cong {N : nw} (hok : nw_ok N) {g : Nat} {k1 k2 : Nat → Nat × (Nat → Nat)} (hg : isG N g = true) (h : ∀ s, s < g → k1 s = k2 s) (p : Nat) : chN N g k1 p = chN N g k2 p := by
  unfold chN
  split
  · rename_i q; rw [h _ (nR_lt hok hg q)]
  · rfl
theorem chC_cong {N : nw} (hok : nw_ok N) {g : Nat} {k1 k2 : Nat → Nat × (Nat → Nat)} (hg : isG N g = true) (h : ∀ s, s < g → k1 s = k2 s) (p i : Nat) : chC N g k1 p i = chC N g k2 p i := by
  unfold chC
  split
  · rename_i q; rw [h _ (nR_lt hok hg q)]
  · rfl
theorem kp_leaf {N : nw} {K i : Nat} (h : isG N i = false) : kp N K i = (0, fun _ => 0) := by
  show (if i = i then (if isG N i then _ else _) else _) = _
  rw [if_pos rfl, h]
  rfl
theorem kp_gate {N : nw} {K i : Nat} (hok : nw_ok N) (h : isG N i = true) : kp N K i = keep (lev N K) (cand N K i (kp N K)) := by
  show (if i = i then (if isG N i then _ else _) else _) = _
  rw [if_pos rfl, h, if_pos rfl]
  congr 1
  funext x
  have hc := kpT_lt N K i
  unfold cand
  simp only [chN_cong hok h hc, chC_cong hok h hc]
theorem kp_le {N : nw} {K i : Nat} (hok : nw_ok N) : (kp N K i).1 ≤ 8 := by
  cases h : isG N i with
  | false => rw [kp_leaf h]; exact Nat.zero_le _
  | true => rw [kp_gate hok h]; exact keep_in.1
/-- the near cuts of the gates below a number are what they should be -/
def nOK (N : nw) (K n : Nat) : Prop := ∀ g, g < n → isG N g = true → nearC N g (Cm N (lev N K) g (lev N K g)) (nea N K g) ∧ cnt (nea N K g) 40 ≤ K
/-- what is so of every cut that can be kept -/
def cOK (K g x : Nat) : Prop := x < 2 ^ 40 ∧ cnt x 40 ≤ K ∧ (∀ j, x.testBit j = true → j < g) ∧ ∃ j, x.testBit j = true
theorem cand_ok {N : nw} {K g : Nat} (hok : nw_ok N) (hg : isG N g = true) (hn : nOK N K (g + 1)) (ih : ∀ s, s < g → ∀ i, i < (kp N K s).1 → cOK K s ((kp N K s).2 i)) {x : Nat} (hx : cand N K g (kp N K) x) : cOK K g x := by
  have h40 := isG_lt hg
  have hn40 := hok.1
  rcases hx with e | ⟨h1, a, b, c, ha, hb, hc, e⟩
  · subst e
    obtain ⟨q1, q2⟩ := hn g (by omega) hg
    exact ⟨Sep_lt hok q1.1, q2, fun j hj => nB_lt hok _ _ (q1.1.1 j hj), Sep_ne hok hg q1.1⟩
  · have part : ∀ p i, i < chN N g (kp N K) p → ∀ j, (chC N g (kp N K) p i).testBit j = true → j < g := by
      intro p i hi j hj
      unfold chN at hi
      unfold chC at hj
      by_cases hp : p < ar (nK N g)
      · rw [if_pos hp] at hi hj
        have hs := nR_lt hok hg hp
        by_cases h0 : i = 0
        · rw [if_pos h0, Nat.testBit_two_pow, decide_eq_true_eq] at hj
          omega
        · rw [if_neg h0] at hj
          have := (ih _ hs (i - 1) (by omega)).2.2.1 j hj
          omega
      · rw [if_neg hp, Nat.zero_testBit] at hj
        cases hj
    have hlt : ∀ j, x.testBit j = true → j < g := by
      intro j hj
      rw [e, Nat.testBit_or, Nat.testBit_or, Bool.or_eq_true, Bool.or_eq_true] at hj
      rcases hj with (h | h) | h
      · exact part 0 a ha j h
      · exact part 1 b hb j h
      · exact part 2 c hc j h
    refine ⟨set_lt fun j hj => ?_, h1, hlt, ?_⟩
    · cases h : x.testBit j with
      | false => rfl
      | true => have := hlt j h; omega
    · have har := ar_pos (nK N g)
      have hp : 0 < ar (nK N g) := by omega
      have : ∃ j, (chC N g (kp N K) 0 a).testBit j = true := by
        unfold chN at ha
        unfold chC
        rw [if_pos hp] at ha ⊢
        by_cases h0 : a = 0
        · rw [if_pos h0]
          exact ⟨nR N g 0, by rw [Nat.testBit_two_pow]; simp⟩
        · rw [if_neg h0]
          exact (ih _ (nR_lt hok hg hp) (a - 1) (by omega)).2.2.2
      obtain ⟨j, hj⟩ := this
      exact ⟨j, by rw [e, Nat.testBit_or, Nat.testBit_or, hj]; rfl⟩
theorem kp_ok {N : nw} {K n : Nat} (hok : nw_ok N) (hn : nOK N K n) : ∀ s, s < n → ∀ i, i < (kp N K s).1 → cOK K s ((kp N K s).2 i) := by
  intro s
  induction s using Nat.strongRecOn with
  | ind s ih =>
    intro hs i hi
    cases h : isG N s with
    | false => rw [kp_leaf h] at hi; exact absurd hi (Nat.not_lt_zero _)
    | true =>
      have hk := kp_gate (K := K) hok h
      have hin := (keep_in (l := lev N K) (M := cand N K s (kp N K))).2
      rw [← hk] at hin
      exact cand_ok hok h (fun g hg => hn g (by omega)) (fun t ht => ih t ht (by omega)) (hin i hi)
/-- taking the first in ROW and dropping all with its nodes, over and over -/
def tkI (l : Nat → Nat) (M : Nat → Prop) (t : Nat) (kc : Nat → Nat) (n : Nat) (R : Nat → Nat) : Prop :=
  (∀ i, i < t → mn M (kc i)) ∧ (∀ i j, i < j → j < t → plc l (kc i) < plc l (kc j)) ∧ (∀ j, j < n → M (R j) ∧ ∀ i, i < t → ¬ sub (kc i) (R j) ∧ plc l (kc i) < plc l (R j)) ∧ ∀ x, M x → (∀ i, i < t → ¬ sub (kc i) x) → ∃ j, j < n ∧ R j = x
theorem sub_refl (a : Nat) : sub a a := fun _ h => h
theorem sub_anti {a b : Nat} (h1 : sub a b) (h2 : sub b a) : a = b := set_eq fun i => by
  cases ha : a.testBit i with
  | true => exact (h1 i ha).symm
  | false =>
    cases hb : b.testBit i with
    | true => have := h2 i hb; rw [ha] at this; cases this
    | false => rfl
theorem tkI_step {l : Nat → Nat} {M : Nat → Prop} {t n n' f : Nat} {kc R R' : Nat → Nat} (hM : ∀ x, M x → x < 2 ^ 40 ∧ cnt x 40 ≤ 6) (h : tkI l M t kc n R) (hf : f < n) (hmin : ∀ i, i < n → plc l (R f) ≤ plc l (R i)) (hd : dropped n R (R f) n' R') : tkI l M (t + 1) (add1 t kc (R f)) n' R' := by
  obtain ⟨h1, h2, h3, h4⟩ := h
  obtain ⟨hMf, hff⟩ := h3 f hf
  refine ⟨fun i hi => ?_, fun i j hi hj => ?_, fun j hj => ?_, fun x hx hno => ?_⟩
  · by_cases e : i = t
    · rw [e, add1_q]
      refine ⟨hMf, fun y hy hs => ?_⟩
      apply Classical.byContradiction
      intro hne
      have hlt := plc_sub (l := l) (hM y hy).1 (hM _ hMf).1 (hM y hy).2 (hM _ hMf).2 hs hne
      by_cases hq : ∀ i, i < t → ¬ sub (kc i) y
      · obtain ⟨j, hj, e2⟩ := h4 y hy hq
        have := hmin j hj
        rw [e2] at this
        omega
      · apply hq
        intro i hi hs2
        exact (hff i hi).1 fun k hk => hs k (hs2 k hk)
    · rw [add1_lt (by omega)]; exact h1 i (by omega)
  · by_cases e : j = t
    · rw [e, add1_q, add1_lt (by omega)]; exact (hff i (by omega)).2
    · rw [add1_lt (by omega), add1_lt (by omega)]; exact h2 i j hi (by omega)
  · obtain ⟨k, hk, e, hs⟩ := hd.1 j hj
    rw [e]
    refine ⟨(h3 k hk).1, fun i hi => ?_⟩
    by_cases e2 : i = t
    · rw [e2, add1_q]
      refine ⟨hs, ?_⟩
      rcases Nat.lt_or_ge (plc l (R f)) (plc l (R k)) with q | q
      · exact q
      · have e3 : plc l (R f) = plc l (R k) := Nat.le_antisymm (hmin k hk) q
        have hk2 := hM _ (h3 k hk).1
        have := plc_inj (hM _ hMf).1 hk2.1 (hM _ hMf).2 hk2.2 e3
        rw [this] at hs
        exact absurd (sub_refl _) hs
    · rw [add1_lt (by omega)]; exact (h3 k hk).2 i (by omega)
  · obtain ⟨k, hk, e⟩ := h4 x hx (fun i hi => by have := hno i (by omega); rw [add1_lt hi] at this; exact this)
    have ht := hno t (by omega)
    rw [add1_q, ← e] at ht
    obtain ⟨j, hj, e2⟩ := hd.2 k hk ht
    exact ⟨j, hj, by rw [e2, e]⟩
theorem tkI_end {l : Nat → Nat} {M : Nat → Prop} {t n : Nat} {kc R : Nat → Nat} (h : tkI l M t kc n R) (ht : t ≤ 8) (he : n = 0 ∨ t = 8) : isKept l M t kc := by
  obtain ⟨h1, h2, h3, h4⟩ := h
  refine ⟨ht, h1, h2, fun x hx => ?_⟩
  by_cases hq : ∃ i, i < t ∧ kc i = x
  · exact Or.inl hq
  · obtain ⟨j, hj, e⟩ := h4 x hx.1 (fun i hi hs => hq ⟨i, hi, hx.2 _ (h1 i hi).1 hs⟩)
    rcases he with e0 | e8
    · omega
    · refine Or.inr ⟨e8, fun i hi => ?_⟩
      have := ((h3 j hj).2 i hi).2
      rw [e] at this
      exact this
theorem tkI_0 {l : Nat → Nat} {M : Nat → Prop} {n : Nat} {R : Nat → Nat} (h1 : ∀ j, j < n → M (R j)) (h2 : ∀ x, M x → ∃ j, j < n ∧ R j = x) : tkI l M 0 (fun _ => 0) n R :=
  ⟨fun i hi => absurd hi (by omega), fun i j _ hj => absurd hj (by omega), fun j hj => ⟨h1 j hj, fun i hi => absurd hi (by omega)⟩, fun x hx _ => h2 x hx⟩
end
section
/-! the component's Cuts: choices, choice, addWithThird, takeKept, learnKept, keptCut -/
/-- of the four, all but one stay as they are -/
def offC (i : Nat) (σ τ : jm_G) : Prop := off 10 21 σ τ ∧ ∀ t, 17 ≤ t → t ≤ 21 → ∀ j, j ≠ i → τ.1 t j = σ.1 t j ∧ τ.2 t j = σ.2 t j
theorem offC_refl (i : Nat) (σ : jm_G) : offC i σ σ := ⟨off_refl _ _ _, fun _ _ _ _ _ => ⟨rfl, rfl⟩⟩
theorem offC_trans {i : Nat} {σ τ υ : jm_G} (h1 : offC i σ τ) (h2 : offC i τ υ) : offC i σ υ := ⟨off_trans h1.1 h2.1, fun t a b j hj => ⟨((h2.2 t a b j hj).1).trans (h1.2 t a b j hj).1, ((h2.2 t a b j hj).2).trans (h1.2 t a b j hj).2⟩⟩
theorem offC_off {i lo hi : Nat} {σ τ : jm_G} (h : off lo hi σ τ) (h1 : 10 ≤ lo) (h2 : hi < 17) : offC i σ τ := ⟨off_wide h h1 (by omega), fun t a b j _ => h t j (by omega)⟩
theorem offC_wI {i t : Nat} {σ τ : jm_G} {f : Nat → Int32} (h : offC i σ τ) (h1 : 17 ≤ t) (h2 : t ≤ 21) : offC i σ (wI τ t i f) := ⟨off_wI h.1 (by omega) (by omega), fun a b c j hj => ⟨by rw [wI1, if_neg (by omega)]; exact (h.2 a b c j hj).1, by rw [wI2]; exact (h.2 a b c j hj).2⟩⟩
theorem offC_wJ {i t : Nat} {σ τ : jm_G} {f : Nat → Int64} (h : offC i σ τ) (h1 : 17 ≤ t) (h2 : t ≤ 21) : offC i σ (wJ τ t i f) := ⟨off_wJ h.1 (by omega) (by omega), fun a b c j hj => ⟨by rw [wJ1]; exact (h.2 a b c j hj).1, by rw [wJ2, if_neg (by omega)]; exact (h.2 a b c j hj).2⟩⟩
def kR (σ : jm_G) (i n : Nat) (kp : Nat → Nat × (Nat → Nat)) : Prop := ∀ s, s < n → (kp s).1 ≤ 8 ∧ σ.1 21 i s = nI (kp s).1 ∧ ∀ c, c < (kp s).1 → σ.2 20 i (s * 8 + c) = lN ((kp s).2 c)
theorem kR_off {i n : Nat} {kp : Nat → Nat × (Nat → Nat)} {σ τ : jm_G} (h : kR σ i n kp) (h1 : τ.1 21 i = σ.1 21 i) (h2 : τ.2 20 i = σ.2 20 i) : kR τ i n kp := fun s hs => by rw [h1, h2]; exact h s hs
abbrev ct_choices (C : jm_C) : Prop := ∀ (N : nw) (i g p : Nat) (kp : Nat → Nat × (Nat → Nat)) (σ : jm_G) (post : Option jm_V → jm_G → Prop), nw_ok N → cN N σ → isG N g = true → p < 3 → kR σ i g kp → post (some (jI (nI (chN N g kp p)))) σ → C kX4_choices [jR 17 i, jI (nI g), jI (nI p)] σ post
theorem T_choices (L : Nat) {C : jm_C} (hC : jm_mon C) (h1 : ct_sourceOf C) : ct_choices (jm_up L C) := by
  intro N i g p kp σ post hok hN hgt hp3 hk hp
  refine jm_start rfl (Nat.le_of_ble_eq_true rfl) hC fun X hg hw => ?_
  have hn := hok.1
  have hlt := isG_lt hgt
  refine hg [] 30 _ ?_
  refine h1 N g p σ _ hok hN hgt hp3 ?_
  unfold chN at hp
  unfold srcI
  by_cases q : p < ar (nK N g)
  · rw [if_pos q] at hp ⊢
    have hs := nR_lt hok hgt q
    refine br_c (fun h => absurd h (oN_none (by omega))) (fun _ => ?_)
    refine And.intro (vp_in_nI (by omega) (by omega)) ?_
    refine And.intro trivial ?_
    show post (some (jI (nI 1 + σ.1 21 i (nI (nR N g p)).toNatClampNeg))) σ
    rw [nI_clamp (by omega), (hk _ hs).2.1, nI_add]
    exact hp
  · rw [if_neg q] at hp ⊢
    refine br_c (fun _ => ?_) (fun h => absurd rfl h)
    exact And.intro trivial hp
abbrev ct_choice (C : jm_C) : Prop := ∀ (N : nw) (i g p a : Nat) (kp : Nat → Nat × (Nat → Nat)) (σ : jm_G) (post : Option jm_V → jm_G → Prop), nw_ok N → cN N σ → isG N g = true → p < 3 → kR σ i g kp → a < chN N g kp p → post (some (jJ (lN (chC N g kp p a)))) σ → C kX4_choice [jR 17 i, jI (nI g), jI (nI p), jI (nI a)] σ post
theorem T_choice (L : Nat) {C : jm_C} (hC : jm_mon C) (h1 : ct_sourceOf C) (h2 : ct_bit C) : ct_choice (jm_up L C) := by
  intro N i g p a kp σ post hok hN hgt hp3 hk ha hp
  refine jm_start rfl (Nat.le_of_ble_eq_true rfl) hC fun X hg hw => ?_
  have hn := hok.1
  have hlt := isG_lt hgt
  refine hg [] 40 _ ?_
  refine h1 N g p σ _ hok hN hgt hp3 ?_
  unfold chC at hp
  unfold chN at ha
  unfold srcI
  by_cases q : p < ar (nK N g)
  · rw [if_pos q] at hp ha ⊢
    have hs := nR_lt hok hgt q
    obtain ⟨k1, k2, k3⟩ := hk _ hs
    refine br_c (fun h => absurd h (oN_none (by omega))) (fun _ => ?_)
    refine br_c (fun h => ?_) (fun h => ?_)
    · have h : nI a = nI 0 := h
      rw [nI_eq (by omega) (by omega)] at h
      rw [if_pos h] at hp
      refine h2 (nR N g p) σ _ (by omega) ?_
      exact And.intro trivial hp
    · have h : ¬ nI a = nI 0 := h
      rw [nI_eq (by omega) (by omega)] at h
      rw [if_neg h] at hp
      have e : nI (nR N g p) * nI 8 + nI a - nI 1 = nI (nR N g p * 8 + (a - 1)) := by rw [pk_mul, nI_add, pk_sub (by omega), show nR N g p * 8 + a - 1 = nR N g p * 8 + (a - 1) by omega]
      refine And.intro (show vp_in (nI (nR N g p) * nI 8 + nI a - nI 1) 320 by rw [e]; exact vp_in_nI (by omega) (by omega)) ?_
      refine And.intro trivial ?_
      show post (some (jJ (σ.2 20 i (nI (nR N g p) * nI 8 + nI a - nI 1).toNatClampNeg))) σ
      rw [e, nI_clamp (by omega), k3 (a - 1) (by omega)]
      exact hp
  · rw [if_neg q] at hp ha ⊢
    refine br_c (fun _ => ?_) (fun h => absurd rfl h)
    exact And.intro trivial hp
theorem cnt64 {S : Nat} (h : S < 2 ^ 40) : cnt S 64 = cnt S 40 := by
  have : ∀ n, cnt S (40 + n) = cnt S 40 := by
    intro n
    induction n with
    | zero => rfl
    | succ n ih =>
      rw [← Nat.add_assoc, cnt_succ, ih]
      have : S.testBit (40 + n) = false := by
        cases q : S.testBit (40 + n) with
        | false => rfl
        | true => have := bit_lt h q; omega
      rw [this]; rfl
  exact this 24
/-- the row has some more sets, each of which is one of these; and has all of these -/
def rMore (n : Nat) (R : Nat → Nat) (n' : Nat) (R' : Nat → Nat) (A : Nat → Prop) : Prop := n ≤ n' ∧ (∀ j, j < n → R' j = R j) ∧ (∀ j, n ≤ j → j < n' → A (R' j)) ∧ ∀ x, A x → ∃ j, j < n' ∧ R' j = x
abbrev ct_addThird (C : jm_C) : Prop := ∀ (N : nw) (i K g n x : Nat) (R : Nat → Nat) (kp : Nat → Nat × (Nat → Nat)) (l : Nat → Nat) (σ : jm_G) (post : Option jm_V → jm_G → Prop), nw_ok N → cN N σ → isG N g = true → kR σ i g kp → K ≤ 6 → σ.1 17 i 3 = nI K → (∀ j, j < g → σ.1 18 i j = nI (l j) ∧ l j < 100) →
  (∀ j, x.testBit j = true → j < g) → (∀ c, c < chN N g kp 2 → ∀ j, (chC N g kp 2 c).testBit j = true → j < g) → rR σ n R l → n + 9 ≤ 730 →
  (∀ σ' n' R', off 14 16 σ σ' → rR σ' n' R' l → n' ≤ n + 9 → rMore n R n' R' (fun y => cnt y 40 ≤ K ∧ ∃ c, c < chN N g kp 2 ∧ y = x ||| chC N g kp 2 c) → post none σ') → C kX4_addWithThird [jR 17 i, jI (nI g), jJ (lN x)] σ post
theorem lt40 {x g : Nat} (hg : g ≤ 40) (h : ∀ j, x.testBit j = true → j < g) : x < 2 ^ 40 := set_lt fun j hj => by
  cases q : x.testBit j with
  | false => rfl
  | true => have := h j q; omega
theorem T_addThird (L : Nat) {C : jm_C} (hC : jm_mon C) (h1 : ct_bc C) (h2 : ct_choices C) (h3 : ct_choice C) (h4 : ct_place C) (h5 : ct_radd C) : ct_addThird (jm_up L C) := by
  intro N i K g n x R kp l σ post hok hN hgt hk hK hK3 hl hx hch hR hn hp
  refine jm_start rfl (Nat.le_of_ble_eq_true rfl) hC fun X hg hw => ?_
  have h40 := hok.1
  have hlt := isG_lt hgt
  have hx40 : x < 2 ^ 40 := lt40 (by omega) hx
  refine hg [23] 30 _ ?_
  refine h1 x σ _ (Nat.lt_trans hx40 (by omega)) ?_
  rw [cnt64 hx40]
  have hcx := cnt_le x 40
  refine br_c (fun h => ?_) (fun h => ?_)
  · refine h2 N i g 2 kp σ _ hok hN hgt (by omega) hk ?_
    have hc9 : chN N g kp 2 ≤ 9 := by
      unfold chN
      split
      · rename_i q; have := (hk _ (nR_lt hok hgt q)).1; omega
      · omega
    show X (σ, 23, [some (jR 17 i), some (jI (nI g)), some (jJ (lN x)), none, some (jI (nI (chN N g kp 2))), some (jI (nI 0)), none, none], [])
    have gen : ∀ (m c : Nat), c + m = chN N g kp 2 → ∀ (τ : jm_G) (n' : Nat) (R' : Nat → Nat), off 14 16 σ τ → rR τ n' R' l → n' ≤ n + c → rMore n R n' R' (fun y => cnt y 40 ≤ K ∧ ∃ d, d < c ∧ y = x ||| chC N g kp 2 d) →
        X (τ, 23, [some (jR 17 i), some (jI (nI g)), some (jJ (lN x)), none, some (jI (nI (chN N g kp 2))), some (jI (nI c)), none, none], []) := by
      intro m
      induction m with
      | zero =>
        intro c hcm τ n' R' ho hR' hn' hm
        have e : c = chN N g kp 2 := by omega
        refine hg [23] 40 _ ?_
        refine br_c (fun h => ?_) (fun h => ?_)
        · refine And.intro trivial (hp τ n' R' ho hR' (by omega) ?_)
          rw [← e]; exact hm
        · have h : ¬ nI (chN N g kp 2) ≤ nI c := h
          rw [nI_leI (by omega) (by omega)] at h
          omega
      | succ m ih =>
        intro c hcm τ n' R' ho hR' hn' hm
        obtain ⟨m1, m2, m3, m4⟩ := id hm
        refine hg [23] 60 _ ?_
        refine br_c (fun h => ?_) (fun h => ?_)
        · have h : nI (chN N g kp 2) ≤ nI c := h
          rw [nI_leI (by omega) (by omega)] at h
          omega
        · have hNt := cN_off hN ho (by omega) (by omega)
          have hkt : kR τ i g kp := kR_off hk (ho 21 i (by omega)).1 (ho 20 i (by omega)).2
          refine h3 N i g 2 c kp τ _ hok hNt hgt (by omega) hkt (by omega) ?_
          have hy : ∀ j, (x ||| chC N g kp 2 c).testBit j = true → j < g := by
            intro j hj
            rw [Nat.testBit_or, Bool.or_eq_true] at hj
            rcases hj with q | q
            · exact hx j q
            · exact hch c (by omega) j q
          have hy40 := lt40 (x := x ||| chC N g kp 2 c) (by omega) hy
          have hcy := cnt_le (x ||| chC N g kp 2 c) 40
          refine c_bc h1 (S := x ||| chC N g kp 2 c) (fb_orL _ _) (Nat.lt_trans hy40 (by omega)) ?_
          rw [cnt64 hy40]
          have e3 : τ.1 17 i 3 = nI K := by rw [(ho 17 i (by omega)).1]; exact hK3
          refine br_c (fun h => ?_) (fun h => ?_)
          · have h : τ.1 17 i 3 < nI (cnt (x ||| chC N g kp 2 c) 40) := h
            rw [e3, nI_ltI (by omega) (by omega)] at h
            refine hw _ _ _ [some (jR 17 i), some (jI (nI g)), some (jJ (lN x)), none, some (jI (nI (chN N g kp 2))), some (jI (nI c + nI 1)), none, none] _ (by repeat' first | exact trivial | exact rfl | apply And.intro) ?_
            rw [nI_add]
            refine ih (c + 1) (by omega) τ n' R' ho hR' (by omega) ⟨m1, m2, fun j a b => ?_, fun y hy2 => ?_⟩
            · obtain ⟨q1, d, q2, q3⟩ := m3 j a b
              exact ⟨q1, d, by omega, q3⟩
            · obtain ⟨q1, d, q2, q3⟩ := hy2
              by_cases e : d = c
              · subst e; rw [q3] at q1; omega
              · exact m4 y ⟨q1, d, by omega, q3⟩
          · have h : ¬ τ.1 17 i 3 < nI (cnt (x ||| chC N g kp 2 c) 40) := h
            rw [e3, nI_ltI (by omega) (by omega)] at h
            have hlv : ∀ j, (x ||| chC N g kp 2 c).testBit j = true → τ.1 18 i j = nI (l j) ∧ l j < 100 := fun j hj => by rw [(ho 18 i (by omega)).1]; exact hl j (hy j hj)
            have hpl : plc l (x ||| chC N g kp 2 c) < 2 ^ 62 := plc_lt fun j hj => (hlv j hj).2
            have ev : lN x ||| lN (chC N g kp 2 c) = lN (x ||| chC N g kp 2 c) := fb_orL _ _
            have call : ∀ {post' : Option jm_V → jm_G → Prop}, (∀ v υ, post' v υ → post' v υ) → C kX4_placeInRow [jR 17 i, jJ (lN (x ||| chC N g kp 2 c))] τ post' → C kX4_placeInRow [jR 17 i, jJ (lN x ||| lN (chC N g kp 2 c))] τ post' := fun _ h => by rw [ev]; exact h
            refine call (fun _ _ h => h) ?_
            refine h4 i _ l τ _ hy40 (by omega) hlv ?_
            have call2 : ∀ {post' : Option jm_V → jm_G → Prop}, (∀ v υ, post' v υ → post' v υ) → C kX6_add [jR 14 0, jJ (lN (x ||| chC N g kp 2 c)), jJ (lN (plc l (x ||| chC N g kp 2 c)))] τ post' → C kX6_add [jR 14 0, jJ (lN x ||| lN (chC N g kp 2 c)), jJ (lN (plc l (x ||| chC N g kp 2 c)))] τ post' := fun _ h => by rw [ev]; exact h
            refine call2 (fun _ _ h => h) ?_
            refine h5 l n' _ R' τ _ hR' (by omega) hy40 hpl fun υ o1 o2 => ?_
            refine hw _ _ _ [some (jR 17 i), some (jI (nI g)), some (jJ (lN x)), none, some (jI (nI (chN N g kp 2))), some (jI (nI c + nI 1)), none, none] _ (by repeat' first | exact trivial | exact rfl | apply And.intro) ?_
            rw [nI_add]
            refine ih (c + 1) (by omega) υ (n' + 1) _ (off_trans ho o1) o2 (by omega) ⟨by omega, fun j hj => ?_, fun j a b => ?_, fun y hy2 => ?_⟩
            · rw [add1_lt (by omega)]; exact m2 j hj
            · by_cases e : j = n'
              · rw [e, add1_q]; exact ⟨by omega, c, by omega, rfl⟩
              · rw [add1_lt (by omega)]
                obtain ⟨q1, d, q2, q3⟩ := m3 j a (by omega)
                exact ⟨q1, d, by omega, q3⟩
            · obtain ⟨q1, d, q2, q3⟩ := hy2
              by_cases e : d = c
              · subst e; exact ⟨n', by omega, by rw [add1_q, q3]⟩
              · obtain ⟨j, q4, q5⟩ := m4 y ⟨q1, d, by omega, q3⟩
                exact ⟨j, by omega, by rw [add1_lt q4]; exact q5⟩
    exact gen (chN N g kp 2) 0 (by omega) σ n R (off_refl _ _ _) hR (by omega) ⟨Nat.le_refl _, fun _ _ => rfl, fun j a b => absurd b (by omega), fun y ⟨_, d, hd, _⟩ => absurd hd (by omega)⟩
  · have h : ¬ nI (cnt x 40) ≤ σ.1 17 i 3 := h
    rw [hK3, nI_leI (by omega) (by omega)] at h
    refine And.intro trivial (hp σ n R (off_refl _ _ _) hR (by omega) ⟨Nat.le_refl _, fun _ _ => rfl, fun j a b => absurd b (by omega), fun y ⟨q1, c, _, q3⟩ => ?_⟩)
    have : cnt x 40 ≤ cnt y 40 := cnt_sub fun j _ hj => by rw [q3, Nat.testBit_or, hj]; rfl
    omega
end
section
/-! the component's Cuts: takeKept, learnKept, learn, keptCut -/
def tkF (i g : Nat) (σ τ : jm_G) : Prop := offC i σ τ ∧ τ.1 17 i = σ.1 17 i ∧ τ.1 18 i = σ.1 18 i ∧ τ.2 19 i = σ.2 19 i ∧ (∀ j, j ≠ g → τ.1 21 i j = σ.1 21 i j) ∧ ∀ j, (j < g * 8 ∨ g * 8 + 8 ≤ j) → τ.2 20 i j = σ.2 20 i j
theorem tkF_refl (i g : Nat) (σ : jm_G) : tkF i g σ σ := ⟨offC_refl _ _, rfl, rfl, rfl, fun _ _ => rfl, fun _ _ => rfl⟩
theorem tkF_trans {i g : Nat} {σ τ υ : jm_G} (h : tkF i g σ τ) (k : tkF i g τ υ) : tkF i g σ υ :=
  ⟨offC_trans h.1 k.1, k.2.1.trans h.2.1, k.2.2.1.trans h.2.2.1, k.2.2.2.1.trans h.2.2.2.1, fun j hj => (k.2.2.2.2.1 j hj).trans (h.2.2.2.2.1 j hj), fun j hj => (k.2.2.2.2.2 j hj).trans (h.2.2.2.2.2 j hj)⟩
theorem tkF_off {i g lo hi : Nat} {σ τ : jm_G} (h : off lo hi σ τ) (h1 : 10 ≤ lo) (h2 : hi < 17) : tkF i g σ τ :=
  ⟨offC_off h h1 h2, (h 17 i (by omega)).1, (h 18 i (by omega)).1, (h 19 i (by omega)).2, fun j _ => by rw [(h 21 i (by omega)).1], fun j _ => by rw [(h 20 i (by omega)).2]⟩
abbrev ct_takeKept (C : jm_C) : Prop := ∀ (i g n : Nat) (R : Nat → Nat) (l : Nat → Nat) (M : Nat → Prop) (σ : jm_G) (post : Option jm_V → jm_G → Prop), g < 40 → rR σ n R l → (∀ j, j < n → M (R j)) → (∀ x, M x → ∃ j, j < n ∧ R j = x) → (∀ x, M x → (x < 2 ^ 40 ∧ cnt x 40 ≤ 6) ∧ ∃ j, x.testBit j = true) →
  (∀ σ' t kc, tkF i g σ σ' → σ'.1 21 i g = nI t → (∀ c, c < t → σ'.2 20 i (g * 8 + c) = lN (kc c)) → isKept l M t kc → post none σ') → C kX4_takeKept [jR 17 i, jI (nI g)] σ post
theorem T_takeKept (L : Nat) {C : jm_C} (hC : jm_mon C) (h1 : ct_rtake C) : ct_takeKept (jm_up L C) := by
  intro i g n R l M σ post hg4 hR hM1 hM2 hM3 hp
  refine jm_start rfl (Nat.le_of_ble_eq_true rfl) hC fun X hg hw => ?_
  have eg : (nI g).toNatClampNeg = g := nI_clamp (by omega)
  refine hg [9] 30 _ ?_
  refine And.intro (vp_in_nI hg4 (by omega)) ?_
  have gen : ∀ (m t : Nat), t + m = 8 → ∀ (τ : jm_G) (kc : Nat → Nat) (n : Nat) (R : Nat → Nat), tkF i g σ τ → τ.1 21 i g = nI t → (∀ c, c < t → τ.2 20 i (g * 8 + c) = lN (kc c)) → rR τ n R l → tkI l M t kc n R →
      X (τ, 9, [some (jR 17 i), some (jI (nI g)), some (jI (nI t)), none, none], []) := by
    intro m
    induction m with
    | zero =>
      intro t htm τ kc n R hf h21 h20 hR hI
      have e : t = 8 := by omega
      subst e
      refine hg [9] 40 _ ?_
      refine br_c (fun h => ?_) (fun h => ?_)
      · exact And.intro trivial (hp τ 8 kc hf h21 h20 (tkI_end hI (by omega) (Or.inr rfl)))
      · exact absurd (show nI 8 ≤ nI 8 from (nI_leI (by omega) (by omega)).mpr (Nat.le_refl _)) h
    | succ m ih =>
      intro t htm τ kc n R hf h21 h20 hR hI
      refine hg [9] 60 _ ?_
      refine br_c (fun h => ?_) (fun h => ?_)
      · have h : nI 8 ≤ nI t := h
        rw [nI_leI (by omega) (by omega)] at h
        omega
      · refine h1 l n R τ _ hR (fun hn0 => ?_) (fun υ f n' R' hf2 hmin o1 o2 o3 => ?_)
        · refine br_c (fun _ => ?_) (fun h => absurd ((cmp_0 _ _).mpr rfl) h)
          exact And.intro trivial (hp τ t kc hf h21 h20 (tkI_end hI (by omega) (Or.inl hn0)))
        · have hMf := hM3 _ (hI.2.2.1 f hf2).1
          have ne : R f ≠ 0 := fun e => by
            obtain ⟨j, hj⟩ := hMf.2
            rw [e, Nat.zero_testBit] at hj
            cases hj
          refine br_c (fun h => ?_) (fun _ => ?_)
          · have h : lg_cmp (lN (R f)) (lN 0) = 0 := h
            rw [cmp_0, lN_inj (Nat.lt_trans hMf.1.1 (by omega)) (by omega)] at h
            exact absurd h ne
          · have e8 : nI g * nI 8 + nI t = nI (g * 8 + t) := by rw [pk_mul, nI_add]
            refine And.intro (show vp_in (nI g * nI 8 + nI t) 320 by rw [e8]; exact vp_in_nI (by omega) (by omega)) ?_
            refine And.intro (vp_in_nI hg4 (by omega)) ?_
            refine hw _ _ _ [some (jR 17 i), some (jI (nI g)), some (jI (nI t + nI 1)), none, none] _ (by repeat' first | exact trivial | exact rfl | apply And.intro) ?_
            show X (wI (wJ υ 20 i (vp_updL (υ.2 20 i) (nI g * nI 8 + nI t).toNatClampNeg (lN (R f)))) 21 i (upd (υ.1 21 i) (nI g).toNatClampNeg (nI t + nI 1)), 9, [some (jR 17 i), some (jI (nI g)), some (jI (nI t + nI 1)), none, none], [])
            rw [e8, nI_clamp (by omega), eg, nI_add]
            have hf3 : tkF i g σ υ := tkF_trans hf (tkF_off o1 (by omega) (by omega))
            obtain ⟨f1, f2, f3, f4, f5, f6⟩ := hf3
            refine ih (t + 1) (by omega) _ (add1 t kc (R f)) n' R' ⟨offC_wI (offC_wJ f1 (by omega) (by omega)) (by omega) (by omega), ?_, ?_, ?_, fun j hj => ?_, fun j hj => ?_⟩ ?_ (fun c hc => ?_) ?_ (tkI_step (fun x hx => (hM3 x hx).1) hI hf2 hmin o3)
            · rw [wI1, if_neg (by omega)]; exact f2
            · rw [wI1, if_neg (by omega)]; exact f3
            · rw [wI2, wJ2, if_neg (by omega)]; exact f4
            · rw [wI1, if_pos ⟨rfl, rfl⟩, upd_at, if_neg hj]; exact f5 j hj
            · rw [wI2, wJ2, if_pos ⟨rfl, rfl⟩, updL_at, if_neg (by omega)]; exact f6 j hj
            · rw [wI1, if_pos ⟨rfl, rfl⟩, upd_at, if_pos rfl]
            · rw [wI2, wJ2, if_pos ⟨rfl, rfl⟩, updL_at]
              by_cases e : c = t
              · rw [e, if_pos rfl, add1_q]
              · rw [if_neg (by omega), add1_lt (by omega), (o1 20 i (by omega)).2]
                exact h20 c (by omega)
            · exact o2
  refine gen 8 0 (by omega) _ (fun _ => 0) n R ⟨offC_wI (offC_refl _ _) (by omega) (by omega), ?_, ?_, rfl, fun j hj => ?_, fun _ _ => rfl⟩ ?_ (fun c hc => absurd hc (by omega)) hR (tkI_0 hM1 hM2)
  · rw [wI1, if_neg (by omega)]
  · rw [wI1, if_neg (by omega)]
  · rw [wI1, if_pos ⟨rfl, rfl⟩, eg, upd_at, if_neg hj]
    rfl
  · rw [wI1, if_pos ⟨rfl, rfl⟩, eg, upd_at, if_pos rfl]
    rfl
abbrev ct_learnKept (C : jm_C) : Prop := ∀ (N : nw) (i K g : Nat) (σ : jm_G) (post : Option jm_V → jm_G → Prop), nw_ok N → cN N σ → isG N g = true → K ≤ 6 → σ.1 17 i 3 = nI K → (∀ j, j < g → σ.1 18 i j = nI (lev N K j) ∧ lev N K j < 100) → σ.2 19 i g = lN (nea N K g) → nOK N K (g + 1) → kR σ i g (kp N K) →
  (∀ σ', tkF i g σ σ' → σ'.1 21 i g = nI (kp N K g).1 → (∀ c, c < (kp N K g).1 → σ'.2 20 i (g * 8 + c) = lN ((kp N K g).2 c)) → post none σ') → C kX4_learnKept [jR 17 i, jI (nI g)] σ post
def Pab (N : nw) (K g a b : Nat) (kp : Nat → Nat × (Nat → Nat)) (y : Nat) : Prop := cnt y 40 ≤ K ∧ ∃ a' b' c, (a' < a ∨ (a' = a ∧ b' < b)) ∧ a' < chN N g kp 0 ∧ b' < chN N g kp 1 ∧ c < chN N g kp 2 ∧ y = chC N g kp 0 a' ||| chC N g kp 1 b' ||| chC N g kp 2 c
theorem T_learnKept (L : Nat) {C : jm_C} (hC : jm_mon C) (h1 : ct_rclear C) (h2 : ct_place C) (h3 : ct_radd C) (h4 : ct_choices C) (h5 : ct_choice C) (h6 : ct_addThird C) (h7 : ct_takeKept C) : ct_learnKept (jm_up L C) := by
  intro N i K g σ post hok hN hgt hK hK3 hl h19 hnO hk hp
  refine jm_start rfl (Nat.le_of_ble_eq_true rfl) hC fun X hg hw => ?_
  have h40 := hok.1
  have hlt := isG_lt hgt
  have eg : (nI g).toNatClampNeg = g := nI_clamp (by omega)
  have hcOK : ∀ x, cand N K g (kp N K) x → cOK K g x := fun x hx => cand_ok hok hgt hnO (kp_ok hok (n := g) (fun s hs => hnO s (by omega))) hx
  have hne := hcOK _ (Or.inl rfl)
  have part : ∀ p a, a < chN N g (kp N K) p → ∀ j, (chC N g (kp N K) p a).testBit j = true → j < g := by
    intro p a ha j hj
    unfold chN at ha
    unfold chC at hj
    by_cases hp : p < ar (nK N g)
    · rw [if_pos hp] at ha hj
      have hs := nR_lt hok hgt hp
      by_cases h0 : a = 0
      · rw [if_pos h0, Nat.testBit_two_pow, decide_eq_true_eq] at hj
        omega
      · rw [if_neg h0] at hj
        have := (kp_ok hok (n := g) (fun s hs => hnO s (by omega)) _ hs (a - 1) (by omega)).2.2.1 j hj
        omega
    · rw [if_neg hp, Nat.zero_testBit] at hj
      cases hj
  have hc9 : ∀ p, chN N g (kp N K) p ≤ 9 := by
    intro p
    unfold chN
    split
    · rename_i q; have := (hk _ (nR_lt hok hgt q)).1; omega
    · omega
  have hc1 := hc9 0
  have hc2 := hc9 1
  refine hg [47, 56] 60 _ ?_
  refine h1 (lev N K) σ _ fun τ o1 r1 => ?_
  refine And.intro (vp_in_nI (by omega) (by omega)) ?_
  refine And.intro (vp_in_nI (by omega) (by omega)) ?_
  have ev : τ.2 19 i (nI g).toNatClampNeg = lN (nea N K g) := by rw [eg, (o1 19 i (by omega)).2]; exact h19
  have hlv : ∀ j, (nea N K g).testBit j = true → τ.1 18 i j = nI (lev N K j) ∧ lev N K j < 100 := fun j hj => by rw [(o1 18 i (by omega)).1]; exact hl j (hne.2.2.1 j hj)
  have call : ∀ {post' : Option jm_V → jm_G → Prop}, (∀ v υ, post' v υ → post' v υ) → C kX4_placeInRow [jR 17 i, jJ (lN (nea N K g))] τ post' → C kX4_placeInRow [jR 17 i, jJ (τ.2 19 i (nI g).toNatClampNeg)] τ post' := fun _ h => by rw [ev]; exact h
  refine call (fun _ _ h => h) ?_
  refine h2 i _ (lev N K) τ _ hne.1 (by have := hne.2.1; omega) hlv ?_
  have call2 : ∀ {post' : Option jm_V → jm_G → Prop}, (∀ v υ, post' v υ → post' v υ) → C kX6_add [jR 14 0, jJ (lN (nea N K g)), jJ (lN (plc (lev N K) (nea N K g)))] τ post' → C kX6_add [jR 14 0, jJ (τ.2 19 i (nI g).toNatClampNeg), jJ (lN (plc (lev N K) (nea N K g)))] τ post' := fun _ h => by rw [ev]; exact h
  refine call2 (fun _ _ h => h) ?_
  refine h3 (lev N K) 0 _ _ τ _ r1 (by omega) hne.1 (plc_lt fun j hj => (hlv j hj).2) fun υ o2 r2 => ?_
  have o3 := off_trans o1 o2
  have hNu := cN_off hN o3 (by omega) (by omega)
  have hku : kR υ i g (kp N K) := kR_off hk (o3 21 i (by omega)).1 (o3 20 i (by omega)).2
  refine h4 N i g 0 (kp N K) υ _ hok hNu hgt (by omega) hku ?_
  refine h4 N i g 1 (kp N K) υ _ hok hNu hgt (by omega) hku ?_
  show X (υ, 47, [some (jR 17 i), some (jI (nI g)), some (jI (nI (chN N g (kp N K) 0))), some (jI (nI (chN N g (kp N K) 1))), some (jI (nI 0)), none], [])
  have outer : ∀ (m a : Nat), a + m = chN N g (kp N K) 0 → ∀ (τ : jm_G) (n : Nat) (R : Nat → Nat), off 14 16 σ τ → rR τ n R (lev N K) → n ≤ 1 + a * 81 → (∀ j, j < n → cand N K g (kp N K) (R j)) → (∃ j, j < n ∧ R j = nea N K g) → (∀ y, Pab N K g a 0 (kp N K) y → ∃ j, j < n ∧ R j = y) →
      X (τ, 47, [some (jR 17 i), some (jI (nI g)), some (jI (nI (chN N g (kp N K) 0))), some (jI (nI (chN N g (kp N K) 1))), some (jI (nI a)), none], []) := by
    intro m
    induction m with
    | zero =>
      intro a ham τ n R ho hR hn hM hnr hP
      have e : a = chN N g (kp N K) 0 := by omega
      refine hg [47, 56] 40 _ ?_
      refine br_c (fun h => ?_) (fun h => ?_)
      · refine h7 i g n R (lev N K) (cand N K g (kp N K)) τ _ (by omega) hR hM (fun x hx => ?_) (fun x hx => ?_) fun σ' t kc f1 f2 f3 f4 => ?_
        · rcases hx with e2 | ⟨q1, a', b', c', qa, qb, qc, e2⟩
          · rw [e2]; exact hnr
          · exact hP x ⟨q1, a', b', c', Or.inl (by omega), qa, qb, qc, e2⟩
        · have := hcOK x hx
          exact ⟨⟨this.1, by have := this.2.1; omega⟩, this.2.2.2⟩
        · obtain ⟨k1, k2⟩ := keep_eq f4
          rw [← kp_gate hok hgt] at k1 k2
          refine And.intro trivial (hp σ' (tkF_trans (tkF_off ho (by omega) (by omega)) f1) (by rw [k1]; exact f2) fun c hc => ?_)
          rw [k1] at hc
          rw [k2 c hc]
          exact f3 c hc
      · have h : ¬ nI (chN N g (kp N K) 0) ≤ nI a := h
        rw [nI_leI (by omega) (by omega)] at h
        omega
    | succ m ih =>
      intro a ham τ n R ho hR hn hM hnr hP
      refine hg [47, 56] 40 _ ?_
      refine br_c (fun h => ?_) (fun h => ?_)
      · have h : nI (chN N g (kp N K) 0) ≤ nI a := h
        rw [nI_leI (by omega) (by omega)] at h
        omega
      · show X (τ, 56, [some (jR 17 i), some (jI (nI g)), some (jI (nI (chN N g (kp N K) 0))), some (jI (nI (chN N g (kp N K) 1))), some (jI (nI a)), some (jI (nI 0))], [])
        have inner : ∀ (m' b : Nat), b + m' = chN N g (kp N K) 1 → ∀ (τ : jm_G) (n : Nat) (R : Nat → Nat), off 14 16 σ τ → rR τ n R (lev N K) → n ≤ 1 + a * 81 + b * 9 → (∀ j, j < n → cand N K g (kp N K) (R j)) → (∃ j, j < n ∧ R j = nea N K g) → (∀ y, Pab N K g a b (kp N K) y → ∃ j, j < n ∧ R j = y) →
            X (τ, 56, [some (jR 17 i), some (jI (nI g)), some (jI (nI (chN N g (kp N K) 0))), some (jI (nI (chN N g (kp N K) 1))), some (jI (nI a)), some (jI (nI b))], []) := by
          intro m'
          induction m' with
          | zero =>
            intro b hbm τ n R ho hR hn hM hnr hP
            refine hg [47, 56] 40 _ ?_
            refine br_c (fun h => ?_) (fun h => ?_)
            · refine hw _ _ _ [some (jR 17 i), some (jI (nI g)), some (jI (nI (chN N g (kp N K) 0))), some (jI (nI (chN N g (kp N K) 1))), some (jI (nI a + nI 1)), none] _ (by repeat' first | exact trivial | exact rfl | apply And.intro) ?_
              rw [nI_add]
              refine ih (a + 1) (by omega) τ n R ho hR (by omega) hM hnr fun y hy => ?_
              obtain ⟨q1, a', b', c', q2, qa, qb, qc, e2⟩ := hy
              refine hP y ⟨q1, a', b', c', ?_, qa, qb, qc, e2⟩
              omega
            · have h : ¬ nI (chN N g (kp N K) 1) ≤ nI b := h
              rw [nI_leI (by omega) (by omega)] at h
              omega
          | succ m' ih' =>
            intro b hbm τ n R ho hR hn hM hnr hP
            have hNt := cN_off hN ho (by omega) (by omega)
            have hkt : kR τ i g (kp N K) := kR_off hk (ho 21 i (by omega)).1 (ho 20 i (by omega)).2
            refine hg [47, 56] 60 _ ?_
            refine br_c (fun h => ?_) (fun h => ?_)
            · have h : nI (chN N g (kp N K) 1) ≤ nI b := h
              rw [nI_leI (by omega) (by omega)] at h
              omega
            · refine h5 N i g 0 a (kp N K) τ _ hok hNt hgt (by omega) hkt (by omega) ?_
              refine h5 N i g 1 b (kp N K) τ _ hok hNt hgt (by omega) hkt (by omega) ?_
              have ev2 : lN (chC N g (kp N K) 0 a) ||| lN (chC N g (kp N K) 1 b) = lN (chC N g (kp N K) 0 a ||| chC N g (kp N K) 1 b) := fb_orL _ _
              have call3 : ∀ {post' : Option jm_V → jm_G → Prop}, (∀ v υ, post' v υ → post' v υ) → C kX4_addWithThird [jR 17 i, jI (nI g), jJ (lN (chC N g (kp N K) 0 a ||| chC N g (kp N K) 1 b))] τ post' → C kX4_addWithThird [jR 17 i, jI (nI g), jJ (lN (chC N g (kp N K) 0 a) ||| lN (chC N g (kp N K) 1 b))] τ post' := fun _ h => by rw [ev2]; exact h
              refine call3 (fun _ _ h => h) ?_
              refine h6 N i K g n _ R (kp N K) (lev N K) τ _ hok hNt hgt hkt hK (by rw [(ho 17 i (by omega)).1]; exact hK3) (fun j hj => by rw [(ho 18 i (by omega)).1]; exact hl j hj) (fun j hj => ?_) (fun c hc j hj => part 2 c hc j hj) hR (by omega) fun υ n' R' o4 r4 hn' hm => ?_
              · rw [Nat.testBit_or, Bool.or_eq_true] at hj
                rcases hj with q | q
                · exact part 0 a (by omega) j q
                · exact part 1 b (by omega) j q
              · obtain ⟨m1, m2, m3, m4⟩ := hm
                show X (υ, 56, [some (jR 17 i), some (jI (nI g)), some (jI (nI (chN N g (kp N K) 0))), some (jI (nI (chN N g (kp N K) 1))), some (jI (nI a)), some (jI (nI b + nI 1))], [])
                rw [nI_add]
                refine ih' (b + 1) (by omega) υ n' R' (off_trans ho o4) r4 (by omega) (fun j hj => ?_) ?_ (fun y hy => ?_)
                · by_cases q : j < n
                  · rw [m2 j q]; exact hM j q
                  · obtain ⟨q1, c, q2, q3⟩ := m3 j (by omega) hj
                    exact Or.inr ⟨q1, a, b, c, by omega, by omega, q2, q3⟩
                · obtain ⟨j, q1, q2⟩ := hnr
                  exact ⟨j, by omega, by rw [m2 j q1]; exact q2⟩
                · obtain ⟨q1, a', b', c', q2, qa, qb, qc, e2⟩ := hy
                  by_cases q : a' = a ∧ b' = b
                  · obtain ⟨rfl, rfl⟩ := q
                    exact m4 y ⟨q1, c', qc, e2⟩
                  · obtain ⟨j, q3, q4⟩ := hP y ⟨q1, a', b', c', by omega, qa, qb, qc, e2⟩
                    exact ⟨j, by omega, by rw [m2 j q3]; exact q4⟩
        exact inner (chN N g (kp N K) 1) 0 (by omega) τ n R ho hR (by omega) hM hnr hP
  refine outer (chN N g (kp N K) 0) 0 (by omega) υ 1 _ o3 r2 (by omega) (fun j hj => ?_) ⟨0, by omega, add1_q _ _ _⟩ (fun y hy => ?_)
  · have e : j = 0 := by omega
    rw [e, add1_q]
    exact Or.inl rfl
  · obtain ⟨q1, a', b', c', q2, -⟩ := hy
    omega
end
section
/-! the component's Cuts: learn, keptCut, cutsOfK -/
def cA (N : nw) (i K n : Nat) (σ : jm_G) : Prop :=
  σ.1 17 i 3 = nI K ∧ (∀ j, j < n → σ.1 18 i j = nI (lev N K j) ∧ σ.2 19 i j = lN (nea N K j)) ∧ (∀ j, n ≤ j → j < 40 → σ.1 18 i j = nI 0 ∧ σ.2 19 i j = lN 0 ∧ σ.1 21 i j = nI 0) ∧ kR σ i n (kp N K) ∧ nOK N K n
/-- what a search for the nearest cut answers, for the gates at one level or above -/
theorem learn_lev {N : nw} {K g m : Nat} (hok : nw_ok N) (hK : 3 ≤ K) (hg : isG N g = true) (hm : m = mxL (lev N K) (sM N g) 40) : (∀ j, (nB N g).testBit j = true → lev N K j ≤ m) ∧ m ≤ lev N K g ∧ lev N K g ≤ m + 1 := by
  have hs : ∀ s, (sM N g).testBit s = true → lev N K s ≤ m := fun s q => by
    rw [hm]; exact mxL_ge q 40 (bit_lt (sM_lt40 hok g) q)
  refine ⟨fun j hj => lev_below hok hK hs hj, ?_, lev_le hok hK hg (cutt_src hok hK hg fun j hj => by have := hs j hj; omega)⟩
  rw [hm]
  exact mxL_le (fun s q => lev_src hok hK q) 40
theorem Cm_top {N : nw} {K g m : Nat} (hok : nw_ok N) (h : ∀ j, (nB N g).testBit j = true → lev N K j ≤ m) : Cm N (lev N K) g (m + 1) = 2 ^ g := set_eq fun j => by
  rw [Nat.testBit_two_pow]
  apply Bool.eq_iff_iff.mpr
  rw [Cm_bit hok, decide_eq_true_eq]
  constructor
  · rintro (e | ⟨h1, h2⟩)
    · exact e.symm
    · have := h j h1; omega
  · exact fun e => Or.inl e.symm
theorem Cm_at {N : nw} {K g m : Nat} (hok : nw_ok N) (h : ∀ j, (nB N g).testBit j = true → lev N K j ≤ m) : 2 ^ g ||| mk (fun j => (nB N g).testBit j && decide (lev N K j = m)) 40 = Cm N (lev N K) g m := set_eq fun j => by
  apply Bool.eq_iff_iff.mpr
  rw [Cm_bit hok, Nat.testBit_or, Nat.testBit_two_pow, mk_bit, Bool.or_eq_true, decide_eq_true_eq, Bool.and_eq_true, Bool.and_eq_true, decide_eq_true_eq, decide_eq_true_eq]
  constructor
  · rintro (e | ⟨-, h1, h2⟩)
    · exact Or.inl e.symm
    · exact Or.inr ⟨h1, by omega⟩
  · rintro (e | ⟨h1, h2⟩)
    · exact Or.inl e.symm
    · exact Or.inr ⟨bit_lt (nB_lt40 hok g) h1, h1, Nat.le_antisymm (h j h1) h2⟩
theorem c_nearest {C : jm_C} (h : ct_nearest C) {N : nw} {g Cs k : Nat} {v : Int64} {x : Int32} {σ : jm_G} {post : Option jm_V → jm_G → Prop} (hv : v = lN Cs) (hx : x = nI k) (hok : nw_ok N) (hN : cN N σ) (hC : C_ok N g Cs) (hl : Cs < 2 ^ 40) (hk : k < 100)
  (hp1 : ∀ σ' U, off 10 13 σ σ' → nearC N g Cs U → cnt U 40 ≤ k → U < 2 ^ 40 → post (some (jJ (lN U))) σ')
  (hp2 : (∀ T, Sep N g T → (∀ j, T.testBit j = true → Cs.testBit j = false) → k < cnt T 40) → ∀ σ', off 10 13 σ σ' → post (some (jJ (lN 0))) σ') : C kX8_nearestCut [jR 10 0, jJ v, jI x] σ post := by
  subst hv; subst hx; exact h N g Cs k σ post hok hN hC hl hk hp1 hp2
def lT0 (i K g : Nat) (σ τ : jm_G) : Prop := offC i σ τ ∧ τ.1 17 i 3 = nI K ∧ τ.1 17 i 8 = nI (g + 1) ∧ (∀ j, j ≠ g → τ.1 18 i j = σ.1 18 i j) ∧ (∀ j, j ≠ g → τ.2 19 i j = σ.2 19 i j) ∧ τ.1 21 i = σ.1 21 i ∧ τ.2 20 i = σ.2 20 i
theorem lT0_off {i K g : Nat} {σ τ υ : jm_G} (h : lT0 i K g σ τ) (ho : off 10 13 τ υ) : lT0 i K g σ υ := by
  obtain ⟨h1, h2, h3, h4, h5, h6, h7⟩ := h
  have e17 := (ho 17 i (by omega)).1
  have e18 := (ho 18 i (by omega)).1
  have e19 := (ho 19 i (by omega)).2
  refine ⟨offC_trans h1 (offC_off ho (by omega) (by omega)), by rw [e17]; exact h2, by rw [e17]; exact h3, by rw [e18]; exact h4, by rw [e19]; exact h5, by rw [(ho 21 i (by omega)).1]; exact h6, by rw [(ho 20 i (by omega)).2]; exact h7⟩
theorem lT0_wI {i K g : Nat} {σ τ : jm_G} (x : Int32) (h : lT0 i K g σ τ) : lT0 i K g σ (wI τ 18 i (upd (τ.1 18 i) g x)) := by
  obtain ⟨h1, h2, h3, h4, h5, h6, h7⟩ := h
  refine ⟨offC_wI h1 (by omega) (by omega), ?_, ?_, fun j hj => ?_, h5, ?_, h7⟩
  · rw [wI1, if_neg (by omega)]; exact h2
  · rw [wI1, if_neg (by omega)]; exact h3
  · rw [wI1, if_pos ⟨rfl, rfl⟩, upd_at, if_neg hj]; exact h4 j hj
  · rw [wI1, if_neg (by omega)]; exact h6
theorem lT0_wJ {i K g : Nat} {σ τ : jm_G} (x : Int64) (h : lT0 i K g σ τ) : lT0 i K g σ (wJ τ 19 i (vp_updL (τ.2 19 i) g x)) := by
  obtain ⟨h1, h2, h3, h4, h5, h6, h7⟩ := h
  refine ⟨offC_wJ h1 (by omega) (by omega), h2, h3, h4, fun j hj => ?_, h6, ?_⟩
  · rw [wJ2, if_pos ⟨rfl, rfl⟩, updL_at, if_neg hj]; exact h5 j hj
  · rw [wJ2, if_neg (by omega)]; exact h7
theorem lT_fin {N : nw} {i K g : Nat} {σ τ υ : jm_G} (hA : cA N i K g σ) (h : lT0 i K g σ τ) (h18 : τ.1 18 i g = nI (lev N K g)) (h19 : τ.2 19 i g = lN (nea N K g)) (hn : nOK N K (g + 1)) (hk8 : (kp N K g).1 ≤ 8) (hf : tkF i g τ υ) (h21 : υ.1 21 i g = nI (kp N K g).1) (h20 : ∀ c, c < (kp N K g).1 → υ.2 20 i (g * 8 + c) = lN ((kp N K g).2 c)) : offC i σ υ ∧ cA N i K (g + 1) υ ∧ υ.1 17 i 8 = nI (g + 1) := by
  obtain ⟨a1, a2, a3, a4, a5⟩ := hA
  obtain ⟨t1, t2, t3, t4, t5, t6, t7⟩ := h
  obtain ⟨f1, f2, f3, f4, f5, f6⟩ := hf
  refine ⟨offC_trans t1 f1, ⟨by rw [f2]; exact t2, fun j hj => ?_, fun j h1 h2 => ?_, fun s hs => ?_, hn⟩, by rw [f2]; exact t3⟩
  · rw [f3, f4]
    by_cases e : j = g
    · subst e; exact ⟨h18, h19⟩
    · rw [t4 j e, t5 j e]; exact a2 j (by omega)
  · rw [f3, f4, t4 j (by omega), t5 j (by omega), f5 j (by omega), t6]
    exact a3 j (by omega) h2
  · by_cases e : s = g
    · subst e; exact ⟨hk8, h21, h20⟩
    · obtain ⟨k1, k2, k3⟩ := a4 s (by omega)
      refine ⟨k1, ?_, fun c hc => ?_⟩
      · rw [f5 s e, t6]; exact k2
      · rw [f6 _ (by omega), t7]; exact k3 c hc
abbrev ct_learn (C : jm_C) : Prop := ∀ (N : nw) (i K g : Nat) (σ : jm_G) (post : Option jm_V → jm_G → Prop), nw_ok N → cN N σ → 3 ≤ K → K ≤ 6 → g < nN N → cA N i K g σ → (∀ σ', offC i σ σ' → cA N i K (g + 1) σ' → σ'.1 17 i 8 = nI (g + 1) → post none σ') → C kX4_learn [jR 17 i, jI (nI g)] σ post
theorem T_learn (L : Nat) {C : jm_C} (hC : jm_mon C) (h1 : ct_has C) (h2 : ct_greatest C) (h3 : ct_bit C) (h4 : ct_belowAt C) (h5 : ct_nearest C) (h6 : ct_learnKept C) : ct_learn (jm_up L C) := by
  intro N i K g σ post hok hN hK hK6 hgn hA hp
  refine jm_start rfl (Nat.le_of_ble_eq_true rfl) hC fun X hg hw => ?_
  have h40 := hok.1
  have eg : (nI g).toNatClampNeg = g := nI_clamp (by omega)
  obtain ⟨a1, a2, a3, a4, a5⟩ := id hA
  refine hg [7] 20 _ ?_
  show X (wI σ 17 i (upd (σ.1 17 i) 8 (nI g + nI 1)), 7, [some (jR 17 i), some (jI (nI g)), none, none, none], [])
  have lt0 : lT0 i K g σ (wI σ 17 i (upd (σ.1 17 i) 8 (nI g + nI 1))) := by
    refine ⟨offC_wI (offC_refl _ _) (by omega) (by omega), ?_, ?_, fun j _ => ?_, fun _ _ => rfl, ?_, rfl⟩
    · rw [wI1, if_pos ⟨rfl, rfl⟩, upd_at, if_neg (by omega)]; exact a1
    · rw [wI1, if_pos ⟨rfl, rfl⟩, upd_at, if_pos rfl, nI_add]
    · rw [wI1, if_neg (by omega)]
    · rw [wI1, if_neg (by omega)]
  have b18 : (wI σ 17 i (upd (σ.1 17 i) 8 (nI g + nI 1))).1 18 i = σ.1 18 i := by rw [wI1, if_neg (by omega)]
  have b19 : (wI σ 17 i (upd (σ.1 17 i) 8 (nI g + nI 1))).2 19 i = σ.2 19 i := rfl
  generalize (wI σ 17 i (upd (σ.1 17 i) 8 (nI g + nI 1))) = τ at lt0 b18 b19 ⊢
  have eN : ∀ υ, lT0 i K g σ υ → cN N υ := fun υ h => cN_off hN h.1.1 (by omega) (by omega)
  have hNt := eN τ lt0
  refine hg [] 120 _ ?_
  refine c_has h1 hNt.2.2.1 rfl (p40 (gM_lt hok)) (by omega) ?_
  rw [gM_bit]
  refine br_c (fun h => ?_) (fun h => ?_)
  · -- not a gate
    have h := bI_0.mp h
    refine And.intro trivial ?_
    obtain ⟨t1, t2, t3, t4, t5, t6, t7⟩ := lt0
    obtain ⟨z1, z2, z3⟩ := a3 g (Nat.le_refl _) (by omega)
    refine hp τ t1 ⟨t2, fun j hj => ?_, fun j q1 q2 => ?_, fun s hs => ?_, fun s hs hsg => ?_⟩ t3
    · rw [b18, b19]
      by_cases e : j = g
      · rw [e, lev_leaf h, nea_leaf h]; exact ⟨z1, z2⟩
      · exact a2 j (by omega)
    · rw [b18, b19, t6]; exact a3 j (by omega) q2
    · rw [t6, t7]
      by_cases e : s = g
      · rw [e, kp_leaf h]; exact ⟨Nat.zero_le _, z3, fun c hc => absurd hc (Nat.not_lt_zero _)⟩
      · exact a4 s (by omega)
    · by_cases e : s = g
      · rw [e, h] at hsg; cases hsg
      · exact a5 s (by omega) hsg
  · have hgt := bI_n0.mp h
    have hb40 : ∀ j, lev N K j < 100 ∨ 40 ≤ j := fun j => by have := lev_bound hok hK (N := N) (K := K) j; omega
    have hlv : ∀ j, j < g → σ.1 18 i j = nI (lev N K j) ∧ lev N K j < 100 := fun j hj => ⟨(a2 j hj).1, by have := hb40 j; omega⟩
    obtain ⟨m, hm⟩ : ∃ m, m = mxL (lev N K) (sM N g) 40 := ⟨_, rfl⟩
    obtain ⟨l1, l2, l3⟩ := learn_lev hok hK hgt hm
    have hlg := lev_bound hok hK (N := N) (K := K) g
    have h2g : 2 ^ g < 2 ^ 40 := pw_lt (by omega)
    -- the end of it
    have fin : ∀ (υ σ' : jm_G), lT0 i K g σ υ → υ.1 18 i g = nI (lev N K g) → υ.2 19 i g = lN (nea N K g) → nOK N K (g + 1) → tkF i g υ σ' → σ'.1 21 i g = nI (kp N K g).1 → (∀ c, c < (kp N K g).1 → σ'.2 20 i (g * 8 + c) = lN ((kp N K g).2 c)) → post none σ' := by
      intro υ σ' q1 q2 q3 q4 q5 q6 q7
      obtain ⟨r1, r2, r3⟩ := lT_fin hA q1 q2 q3 q4 (kp_le hok) q5 q6 q7
      exact hp σ' r1 r2 r3
    have lk : ∀ (υ : jm_G) (post' : Option jm_V → jm_G → Prop), lT0 i K g σ υ → υ.1 18 i g = nI (lev N K g) → υ.2 19 i g = lN (nea N K g) → nOK N K (g + 1) → (∀ σ', post none σ' → post' none σ') → C kX4_learnKept [jR 17 i, jI (nI g)] υ post' := by
      intro υ post' q1 q2 q3 q4 q5
      refine h6 N i K g υ post' hok (eN υ q1) hgt hK6 q1.2.1 (fun j hj => ?_) q3 q4 (kR_off a4 q1.2.2.2.2.2.1 q1.2.2.2.2.2.2) fun σ' r1 r2 r3 => q5 σ' (fin υ σ' q1 q2 q3 q4 r1 r2 r3)
      rw [q1.2.2.2.1 j (by omega)]; exact hlv j hj
    have nO : ∀ U, nearC N g (Cm N (lev N K) g (lev N K g)) U → cnt U 40 ≤ K → nOK N K (g + 1) := by
      intro U q1 q2 s hs hsg
      by_cases e : s = g
      · rw [e, nea_eq hok hgt q1]; exact ⟨q1, q2⟩
      · exact a5 s (by omega) hsg
    -- one level more than the sources
    have up : lev N K g = m + 1 → ∀ (υ : jm_G) (post' : Option jm_V → jm_G → Prop), lT0 i K g σ υ → υ.1 18 i g = nI (m + 1) → (∀ σ', post none σ' → post' none σ') → ∀ (x : Int32), x = nI K →
        C kX8_nearestCut [jR 10 0, jJ (lN (2 ^ g)), jI x] υ (fun r υ' => ∃ U, r = some (jJ (lN U)) ∧ C kX4_learnKept [jR 17 i, jI (nI g)] (wJ υ' 19 i (vp_updL (υ'.2 19 i) g (lN U))) post') := by
      intro hlm υ post' q1 q2 q3 x hx
      have hCm := Cm_top (K := K) hok l1
      have hCok := Cm_ok (m := m + 1) hok hK hgt (by omega)
      rw [hCm] at hCok
      refine c_nearest h5 rfl hx hok (eN υ q1) hCok h2g (by omega) (fun υ' U o1 hU hc hU4 => ⟨U, rfl, ?_⟩) (fun hno => ?_)
      · rw [← hCm, ← hlm] at hU
        refine lk _ post' (lT0_wJ _ (lT0_off q1 o1)) ?_ ?_ (nO U hU hc) q3
        · rw [wJ1, (o1 18 i (by omega)).1, hlm]; exact q2
        · rw [wJ2, if_pos ⟨rfl, rfl⟩, updL_at, if_pos rfl, nea_eq hok hgt hU]
      · exfalso
        have h9 := hno (sM N g) (Sep_src hok hgt) (fun j hj => by
          rw [← hCm]
          refine (Cm_dis hok (Sep_src hok hgt)).mpr (fun j hj => ?_) j hj
          have := l1 j (nB_src hok hj)
          omega)
        have := sM_cnt hok g
        omega
    refine And.intro (vp_in_nI (by omega) (by omega)) ?_
    have esrc : τ.2 6 0 (nI g).toNatClampNeg = lN (sM N g) := by rw [eg]; exact hNt.2.2.2.2.2.2.2.1 g (by omega)
    have callg : ∀ {post' : Option jm_V → jm_G → Prop}, (∀ v υ, post' v υ → post' v υ) → C kX4_greatestLevel [jR 17 i, jJ (lN (sM N g))] τ post' → C kX4_greatestLevel [jR 17 i, jJ (τ.2 6 0 (nI g).toNatClampNeg)] τ post' := fun _ h => by rw [esrc]; exact h
    refine callg (fun _ _ h => h) ?_
    refine h2 i (sM N g) (lev N K) τ _ (sM_lt40 hok g) (fun j hj => by rw [b18]; exact hlv j (sM_lt hok hj)) ?_
    rw [← hm]
    refine br_c (fun h => ?_) (fun h => ?_)
    · have h : nI m = nI 0 := h
      rw [nI_eq (by omega) (by omega)] at h
      have hlm : lev N K g = m + 1 := by have := lev_pos hok hK hgt; omega
      refine br_c (fun _ => ?_) (fun h => absurd ((cmp_0 _ _).mpr rfl) h)
      refine And.intro (vp_in_nI (by omega) (by omega)) ?_
      refine h3 g _ _ (by omega) ?_
      refine hC _ _ _ _ _ ?_ (up hlm (wI τ 18 i (upd (τ.1 18 i) (nI g).toNatClampNeg (nI m + nI 1))) (fun r s => r = none ∧ post none s) ?_ ?_ ?_ _ ?_)
      · rintro r υ' ⟨U, rfl, hU⟩
        refine And.intro (vp_in_nI (by omega) (by omega)) ?_
        refine hC _ _ _ _ _ ?_ (show C kX4_learnKept [jR 17 i, jI (nI g)] (wJ υ' 19 i (vp_updL (υ'.2 19 i) (nI g).toNatClampNeg (lN U))) (fun r s => r = none ∧ post none s) by rw [eg]; exact hU)
        rintro r s ⟨rfl, q⟩
        exact And.intro trivial q
      · rw [eg]; exact lT0_wI _ lt0
      · rw [wI1, if_pos ⟨rfl, rfl⟩, eg, upd_at, if_pos rfl, nI_add]
      · exact fun σ' q => ⟨rfl, q⟩
      · show (wI τ 18 i (upd (τ.1 18 i) (nI g).toNatClampNeg (nI m + nI 1))).1 17 i 3 = _
        rw [wI1, if_neg (by omega)]; exact lt0.2.1
    · have h : ¬ nI m = nI 0 := h
      rw [nI_eq (by omega) (by omega)] at h
      refine h3 g _ _ (by omega) ?_
      refine h4 N i g m (lev N K) τ _ hok hNt hgn (by omega) (fun j hj => by rw [b18]; exact hlv j (nB_lt hok _ _ hj)) ?_
      have hCs := Cm_at (K := K) hok l1
      refine c_nearest h5 (Cs := Cm N (lev N K) g m) (by rw [← hCs]; exact fb_orL _ _) (show τ.1 17 i 3 = nI K from lt0.2.1) hok hNt (Cm_ok hok hK hgt (by omega)) (Cm_lt (by omega)) (by omega) (fun υ U o1 hU hc hU4 => ?_) (fun hno υ o1 => ?_)
      · have hlm : lev N K g = m := lev_eq hok hgt ((near_cutt hok hU).mpr hc) fun j hj q => by
          have := lev_le hok hK hgt q
          omega
        refine br_c (fun h9 => ?_) (fun _ => ?_)
        · have h9 : lg_cmp (lN U) (lN 0) = 0 := h9
          rw [cmp_0, lN_inj (Nat.lt_trans hU4 (by omega)) (by omega)] at h9
          obtain ⟨j, hj⟩ := Sep_ne hok hgt hU.1
          rw [h9, Nat.zero_testBit] at hj
          cases hj
        · refine And.intro (vp_in_nI (by omega) (by omega)) ?_
          refine And.intro (vp_in_nI (by omega) (by omega)) ?_
          have hU' : nearC N g (Cm N (lev N K) g (lev N K g)) U := by rw [hlm]; exact hU
          refine lk (wJ (wI υ 18 i (upd (υ.1 18 i) (nI g).toNatClampNeg (nI m))) 19 i (vp_updL ((wI υ 18 i (upd (υ.1 18 i) (nI g).toNatClampNeg (nI m))).2 19 i) (nI g).toNatClampNeg (lN U))) _ ?_ ?_ ?_ (nO U hU' hc) (fun σ' q => And.intro trivial q)
          · rw [eg]; exact lT0_wJ _ (lT0_wI _ (lT0_off lt0 o1))
          · rw [wJ1, wI1, if_pos ⟨rfl, rfl⟩, eg, upd_at, if_pos rfl, hlm]
          · rw [wJ2, if_pos ⟨rfl, rfl⟩, eg, updL_at, if_pos rfl, nea_eq hok hgt hU']
      · have hlm : lev N K g = m + 1 := by
          refine lev_eq hok hgt (cutt_src hok hK hgt fun j hj => by have := l1 j (nB_src hok hj); omega) fun j hj q => ?_
          obtain ⟨T, t1, t2, t3⟩ := cutt_mono q (show j ≤ m by omega)
          have := hno T t1 ((Cm_dis hok t1).mpr t3)
          omega
        refine br_c (fun _ => ?_) (fun h => absurd ((cmp_0 _ _).mpr rfl) h)
        refine And.intro (vp_in_nI (by omega) (by omega)) ?_
        refine h3 g _ _ (by omega) ?_
        refine hC _ _ _ _ _ ?_ (up hlm (wI υ 18 i (upd (υ.1 18 i) (nI g).toNatClampNeg (nI m + nI 1))) (fun r s => r = none ∧ post none s) ?_ ?_ ?_ _ ?_)
        · rintro r υ' ⟨U, rfl, hU⟩
          refine And.intro (vp_in_nI (by omega) (by omega)) ?_
          refine hC _ _ _ _ _ ?_ (show C kX4_learnKept [jR 17 i, jI (nI g)] (wJ υ' 19 i (vp_updL (υ'.2 19 i) (nI g).toNatClampNeg (lN U))) (fun r s => r = none ∧ post none s) by rw [eg]; exact hU)
          rintro r s ⟨rfl, q⟩
          exact And.intro trivial q
        · rw [eg]; exact lT0_wI _ (lT0_off lt0 o1)
        · rw [wI1, if_pos ⟨rfl, rfl⟩, eg, upd_at, if_pos rfl, nI_add]
        · exact fun σ' q => ⟨rfl, q⟩
        · show (wI υ 18 i (upd (υ.1 18 i) (nI g).toNatClampNeg (nI m + nI 1))).1 17 i 3 = _
          rw [wI1, if_neg (by omega)]; exact (lT0_off lt0 o1).2.1
end
section
/-! keptCut, cutsOfK -/
theorem cA_lev {N : nw} {i K n j : Nat} {σ : jm_G} (h : cA N i K n σ) (hj : j < n) : σ.1 18 i j = nI (lev N K j) := (h.2.1 j hj).1
theorem cA_nea {N : nw} {i K n j : Nat} {σ : jm_G} (h : cA N i K n σ) (hj : j < n) : σ.2 19 i j = lN (nea N K j) := (h.2.1 j hj).2
noncomputable def kpI (N : nw) (K g c : Nat) : Nat := @ite _ (c < (kp N K g).1) (Classical.propDecidable _) ((kp N K g).2 c) 0
abbrev ct_keptCut (C : jm_C) : Prop := ∀ (N : nw) (i K n g c : Nat) (σ : jm_G) (post : Option jm_V → jm_G → Prop), cA N i K n σ → g < n → n ≤ 40 → c < 8 → post (some (jJ (lN (kpI N K g c)))) σ → C kX4_keptCut [jR 17 i, jI (nI g), jI (nI c)] σ post
theorem T_keptCut (L : Nat) {C : jm_C} (hC : jm_mon C) : ct_keptCut (jm_up L C) := by
  intro N i K n g c σ post hA hg1 hn hc hp
  refine jm_start rfl (Nat.le_of_ble_eq_true rfl) hC fun X hg hw => ?_
  obtain ⟨k1, k2, k3⟩ := hA.2.2.2.1 g hg1
  have eg : (nI g).toNatClampNeg = g := nI_clamp (by omega)
  refine hg [] 30 _ ?_
  refine And.intro (vp_in_nI (by omega) (by omega)) ?_
  unfold kpI at hp
  refine br_c (fun h => ?_) (fun h => ?_)
  · have h : σ.1 21 i (nI g).toNatClampNeg ≤ nI c := h
    rw [eg, k2, nI_leI (by omega) (by omega)] at h
    rw [if_neg (by omega)] at hp
    exact And.intro trivial hp
  · have h : ¬ σ.1 21 i (nI g).toNatClampNeg ≤ nI c := h
    rw [eg, k2, nI_leI (by omega) (by omega)] at h
    rw [if_pos (by omega)] at hp
    have e8 : nI g * nI 8 + nI c = nI (g * 8 + c) := by rw [pk_mul, nI_add]
    refine And.intro (show vp_in (nI g * nI 8 + nI c) 320 by rw [e8]; exact vp_in_nI (by omega) (by omega)) ?_
    refine And.intro trivial ?_
    show post (some (jJ (σ.2 20 i (nI g * nI 8 + nI c).toNatClampNeg))) σ
    rw [e8, nI_clamp (by omega), k3 c (by omega)]
    exact hp
abbrev ct_cutsOfK (C : jm_C) : Prop := ∀ (N : nw) (K n : Nat) (σ : jm_G) (post : Option jm_V → jm_G → Prop), nw_ok N → cN N σ → 3 ≤ K → K ≤ 6 → σ.1 0 0 7 = nI K → cA N (K - 3) K n σ → σ.1 17 (K - 3) 8 = nI n → n ≤ nN N →
  (∀ σ', offC (K - 3) σ σ' → cA N (K - 3) K (nN N) σ' → σ'.1 17 (K - 3) 8 = nI (nN N) → post (some (jR 17 (K - 3))) σ') → C kX9_cutsOfK [jR 0 0] σ post
theorem T_cutsOfK (L : Nat) {C : jm_C} (hC : jm_mon C) (h1 : ct_learn C) : ct_cutsOfK (jm_up L C) := by
  intro N K n σ post hok hN hK hK6 h7 hA h8 hn hp
  refine jm_start rfl (Nat.le_of_ble_eq_true rfl) hC fun X hg hw => ?_
  have h40 := hok.1
  have e3 : σ.1 0 0 7 - nI 3 = nI (K - 3) := by rw [h7, pk_sub hK]
  refine hg [17] 30 _ ?_
  refine And.intro (show vp_in (σ.1 0 0 7 - nI 3) 4 by rw [e3]; exact vp_in_nI (by omega) (by omega)) ?_
  show X (σ, 17, [some (jR 0 0), some (jR 17 (σ.1 0 0 7 - nI 3).toNatClampNeg), some (jI (σ.1 17 (σ.1 0 0 7 - nI 3).toNatClampNeg 8))], [])
  rw [e3, nI_clamp (by omega), h8]
  have gen : ∀ (m j : Nat), j + m = nN N → ∀ (τ : jm_G), offC (K - 3) σ τ → cA N (K - 3) K j τ → τ.1 17 (K - 3) 8 = nI j → X (τ, 17, [some (jR 0 0), some (jR 17 (K - 3)), some (jI (nI j))], []) := by
    intro m
    induction m with
    | zero =>
      intro j hjm τ ho hA h8
      have e : j = nN N := by omega
      have hNt := cN_off hN ho.1 (by omega) (by omega)
      refine hg [17] 30 _ ?_
      refine br_c (fun h => ?_) (fun h => ?_)
      · refine And.intro trivial (hp τ ho ?_ ?_)
        · rw [← e]; exact hA
        · rw [← e]; exact h8
      · have h : ¬ τ.1 2 0 9 ≤ nI j := h
        rw [hNt.1, nI_leI (by omega) (by omega)] at h
        omega
    | succ m ih =>
      intro j hjm τ ho hA h8
      have hNt := cN_off hN ho.1 (by omega) (by omega)
      refine hg [17] 30 _ ?_
      refine br_c (fun h => ?_) (fun h => ?_)
      · have h : τ.1 2 0 9 ≤ nI j := h
        rw [hNt.1, nI_leI (by omega) (by omega)] at h
        omega
      · refine h1 N (K - 3) K j τ _ hok hNt hK hK6 (by omega) hA fun υ o1 o2 o3 => ?_
        show X (υ, 17, [some (jR 0 0), some (jR 17 (K - 3)), some (jI (nI j + nI 1))], [])
        rw [nI_add]
        exact ih (j + 1) (by omega) υ (offC_trans ho o1) o2 o3
  exact gen (nN N - n) n (by omega) σ (offC_refl _ _) hA h8
end
section
/-! the model's flow: by node and by slot; drawn together it is a flow -/
def iN (N : nw) (g v : Nat) : Prop := v = g ∨ (nB N g).testBit v = true
def slB (N : nw) (p k : Nat) : Bool := isG N p && decide (k < ar (nK N p))
def eF (N : nw) (a : Nat → Nat → Nat) (p n : Nat) : Nat := fb_sm (fun k => if slB N p k && decide (nR N p k = n) then a p k else 0) 3
def inF (N : nw) (a : Nat → Nat → Nat) (n : Nat) : Nat := fb_sm (fun p => eF N a p n) 40
def outF (N : nw) (a : Nat → Nat → Nat) (p : Nat) : Nat := fb_sm (fun k => if slB N p k then a p k else 0) 3
theorem slB_iff {N : nw} {p k : Nat} : slB N p k = true ↔ isG N p = true ∧ k < ar (nK N p) := by unfold slB; rw [Bool.and_eq_true, decide_eq_true_eq]
theorem slB_lt {N : nw} (hok : nw_ok N) {p k : Nat} (h : slB N p k = true) : nR N p k < p ∧ p < 40 ∧ k < 3 := by
  obtain ⟨h1, h2⟩ := slB_iff.mp h
  have := isG_lt h1
  have := hok.1
  have := ar_pos (nK N p)
  exact ⟨nR_lt hok h1 h2, by omega, by omega⟩
theorem sm_ite {f : Nat → Nat} {i n v : Nat} (hi : i < n) : fb_sm (fun k => if i = k then v else 0) n = v := by
  induction n with
  | zero => omega
  | succ n ih =>
    rw [fb_sm_succ]
    by_cases e : i = n
    · subst e
      rw [if_pos rfl, fb_sm_cong (g := fun _ => 0) (fun k hk => if_neg (by omega)), sm_0, Nat.zero_add]
    · rw [ih (by omega), if_neg e, Nat.add_zero]
theorem eF_out {N : nw} (hok : nw_ok N) (a : Nat → Nat → Nat) (p : Nat) : fb_sm (fun n => eF N a p n) 40 = outF N a p := by
  show fb_sm (fun n => fb_sm (fun k => if slB N p k && decide (nR N p k = n) then a p k else 0) 3) 40 = _
  rw [sm_swap (fun k n => if slB N p k && decide (nR N p k = n) then a p k else 0) 3 40]
  apply fb_sm_cong
  intro k _
  cases h : slB N p k with
  | false => rw [if_neg (fun q => by cases q), fb_sm_cong (g := fun _ => 0) (fun n _ => by simp), sm_0]
  | true =>
    have := slB_lt hok h
    rw [if_pos rfl, fb_sm_cong (g := fun n => if nR N p k = n then a p k else 0) (fun n _ => by simp)]
    exact sm_ite (f := fun _ => 0) (by omega)
theorem eF_0 {N : nw} {a : Nat → Nat → Nat} {p n : Nat} (h : eF N a p n ≠ 0) : ∃ k, slB N p k = true ∧ nR N p k = n ∧ a p k ≠ 0 := by
  apply Classical.byContradiction
  intro hno
  apply h
  unfold eF
  rw [fb_sm_cong (g := fun _ => 0) (fun k _ => ?_), sm_0]
  split
  · rename_i q
    rw [Bool.and_eq_true, decide_eq_true_eq] at q
    cases e : a p k with
    | zero => rfl
    | succ x => exact absurd ⟨k, q.1, q.2, by omega⟩ hno
  · rfl
/-- one more in one slot -/
theorem eF_inc {N : nw} {a a' : Nat → Nat → Nat} {u k0 : Nat} (hk : k0 < 3) (hs : slB N u k0 = true) (h : ∀ p k, a' p k = a p k + (if p = u ∧ k = k0 then 1 else 0)) (p n : Nat) : eF N a' p n = eF N a p n + (if p = u ∧ nR N u k0 = n then 1 else 0) := by
  unfold eF
  have e : ∀ k, k < 3 → (if slB N p k && decide (nR N p k = n) then a' p k else 0) = (if slB N p k && decide (nR N p k = n) then a p k else 0) + (if k0 = k then (if p = u ∧ nR N u k0 = n then 1 else 0) else 0) := by
    intro k _
    rw [h]
    by_cases e1 : k0 = k
    · subst e1
      by_cases e2 : p = u
      · subst e2
        by_cases e3 : nR N p k0 = n
        · simp [hs, e3]
        · simp [hs, e3]
      · simp [e2]
    · have : ¬ k = k0 := fun q => e1 q.symm
      simp [e1, this]
  rw [fb_sm_cong e, fb_sm_add, sm_ite (f := fun _ => 0) hk]
theorem inF_inc {N : nw} (hok : nw_ok N) {a a' : Nat → Nat → Nat} {u k0 : Nat} (hs : slB N u k0 = true) (h : ∀ p k, a' p k = a p k + (if p = u ∧ k = k0 then 1 else 0)) (n : Nat) : inF N a' n = inF N a n + (if nR N u k0 = n then 1 else 0) := by
  have hl := slB_lt hok hs
  unfold inF
  have e : ∀ p, p < 40 → eF N a' p n = eF N a p n + (if u = p then (if nR N u k0 = n then 1 else 0) else 0) := by
    intro p _
    rw [eF_inc hl.2.2 hs h]
    by_cases e2 : u = p
    · subst e2; simp
    · have : ¬ p = u := fun q => e2 q.symm
      simp [e2, this]
  rw [fb_sm_cong e, fb_sm_add, sm_ite (f := fun _ => 0) hl.2.1]
theorem outF_inc {N : nw} (hok : nw_ok N) {a a' : Nat → Nat → Nat} {u k0 : Nat} (hs : slB N u k0 = true) (h : ∀ p k, a' p k = a p k + (if p = u ∧ k = k0 then 1 else 0)) (p : Nat) : outF N a' p = outF N a p + (if p = u then 1 else 0) := by
  have hl := slB_lt hok hs
  unfold outF
  have e : ∀ k, k < 3 → (if slB N p k then a' p k else 0) = (if slB N p k then a p k else 0) + (if k0 = k then (if p = u then 1 else 0) else 0) := by
    intro k _
    rw [h]
    by_cases e1 : k0 = k
    · subst e1
      by_cases e2 : p = u
      · subst e2; simp [hs]
      · simp [e2]
    · have : ¬ k = k0 := fun q => e1 q.symm
      simp [e1, this]
  rw [fb_sm_cong e, fb_sm_add, sm_ite (f := fun _ => 0) hl.2.2]
/-- a flow of so many from a gate, with room for one through each node of a level below a number -/
def mF (N : nw) (g m : Nat) (l : Nat → Nat) (t : Nat → Nat) (a : Nat → Nat → Nat) (F : Nat) : Prop :=
  (∀ v, t v ≠ 0 → (nB N g).testBit v = true) ∧ (∀ p k, a p k ≠ 0 → slB N p k = true ∧ iN N g p) ∧ (∀ v, v < 40 → inF N a v = t v) ∧ (∀ u, isG N u = true → u ≠ g → outF N a u = t u) ∧ outF N a g = F ∧ (∀ v, l v < m → t v ≤ 1) ∧ (∀ v, t v ≤ F) ∧ ∀ p k, a p k ≤ F
theorem mF_0 (N : nw) (g m : Nat) (l : Nat → Nat) : mF N g m l (fun _ => 0) (fun _ _ => 0) 0 := by
  have e : ∀ p n, eF N (fun _ _ => 0) p n = 0 := fun p n => by unfold eF; rw [fb_sm_cong (g := fun _ => 0) (fun k _ => by simp), sm_0]
  have o : ∀ p, outF N (fun _ _ => 0) p = 0 := fun p => by unfold outF; rw [fb_sm_cong (g := fun _ => 0) (fun k _ => by simp), sm_0]
  refine ⟨fun v h => absurd rfl h, fun p k h => absurd rfl h, fun v _ => ?_, fun u _ _ => o u, o g, fun v _ => Nat.zero_le _, fun v => Nat.le_refl _, fun p k => Nat.le_refl _⟩
  unfold inF
  rw [fb_sm_cong (g := fun _ => 0) (fun p _ => e p v), sm_0]
def tC (C : Nat) (t : Nat → Nat) (v : Nat) : Nat := if C.testBit v then 0 else t v
def eC (N : nw) (C : Nat) (a : Nat → Nat → Nat) (u v : Nat) : Nat := if C.testBit u then 0 else eF N a u v
def sC (N : nw) (C : Nat) (a : Nat → Nat → Nat) (v : Nat) : Nat := if C.testBit v then 0 else fb_sm (fun c => if C.testBit c then eF N a c v else 0) 40
theorem mF_par {N : nw} (hok : nw_ok N) {g m C F : Nat} {l t : Nat → Nat} {a : Nat → Nat → Nat} (hC : C_ok N g C) (h : mF N g m l t a F) {u v : Nat} (he : eF N a u v ≠ 0) (hv : C.testBit v = true) : C.testBit u = true := by
  obtain ⟨k, h1, h2, h3⟩ := eF_0 he
  have hs : (sM N u).testBit v = true := by rw [← h2]; exact nR_src (slB_iff.mp h1).1 (slB_iff.mp h1).2
  rcases (h.2.1 u k h3).2 with e | e
  · rw [e]; exact hC.1
  · exact hC.2.2 u v e hs hv
theorem mF_fl {N : nw} (hok : nw_ok N) {g m C F : Nat} {l t : Nat → Nat} {a : Nat → Nat → Nat} (hC : C_ok N g C) (hCm : ∀ v, (nB N g).testBit v = true → C.testBit v = false → l v < m) (h : mF N g m l t a F) : fl_ok N g C (tC C t) (eC N C a) (sC N C a) ∧ fb_sm (sC N C a) 40 = F := by
  obtain ⟨h1, h2, h3, h4, h5, h6, h7⟩ := id h
  have hpar := fun {u v : Nat} (he : eF N a u v ≠ 0) hv => mF_par hok hC h he hv
  have esrc : ∀ u v, eF N a u v ≠ 0 → isG N u = true ∧ (sM N u).testBit v = true ∧ iN N g u := fun u v he => by
    obtain ⟨k, q1, q2, q3⟩ := eF_0 he
    obtain ⟨q4, q5⟩ := slB_iff.mp q1
    exact ⟨q4, by rw [← q2]; exact nR_src q4 q5, (h2 u k q3).2⟩
  have ebel : ∀ u v, eF N a u v ≠ 0 → (nB N g).testBit v = true := fun u v he => by
    obtain ⟨q1, q2, q3⟩ := esrc u v he
    rcases q3 with e | e
    · rw [← e]; exact nB_src hok q2
    · exact nB_trans hok _ _ _ e q2
  have hC40 : ∀ c, C.testBit c = true → c < 40 := fun c hc => by
    have := isG_lt (hC.2.1 c hc).1
    have := hok.1
    omega
  refine ⟨⟨fun v hv => ?_, fun u v hv => ?_, fun v => ?_, fun u hu => ?_, fun v => ?_⟩, ?_⟩
  · unfold sC at hv
    cases hc : C.testBit v with
    | true => rw [hc, if_pos rfl] at hv; exact absurd rfl hv
    | false =>
      rw [hc, if_neg (fun q => by cases q)] at hv
      have : ∃ c, C.testBit c = true ∧ eF N a c v ≠ 0 := by
        apply Classical.byContradiction
        intro hno
        apply hv
        rw [fb_sm_cong (g := fun _ => 0) (fun c _ => ?_), sm_0]
        split
        · rename_i q
          cases e : eF N a c v with
          | zero => rfl
          | succ x => exact absurd ⟨c, q, by omega⟩ hno
        · rfl
      obtain ⟨c, q1, q2⟩ := this
      exact ⟨⟨ebel c v q2, hc⟩, c, q1, (esrc c v q2).2.1⟩
  · unfold eC at hv
    cases hc : C.testBit u with
    | true => rw [hc, if_pos rfl] at hv; exact absurd rfl hv
    | false =>
      rw [hc, if_neg (fun q => by cases q)] at hv
      obtain ⟨q1, q2, q3⟩ := esrc u v hv
      have hu : (nB N g).testBit u = true := by
        rcases q3 with e | e
        · rw [e, hC.1] at hc; cases hc
        · exact e
      refine ⟨⟨hu, hc⟩, q2, ebel u v hv, ?_⟩
      cases hcv : C.testBit v with
      | false => rfl
      | true => have := hpar hv hcv; rw [hc] at this; cases this
  · unfold sC tC
    cases hc : C.testBit v with
    | true =>
      rw [if_pos rfl, if_pos rfl, Nat.zero_add, fb_sm_cong (g := fun _ => 0) (fun u _ => ?_), sm_0]
      unfold eC
      cases hu : C.testBit u with
      | true => rfl
      | false =>
        rw [if_neg (fun q => by cases q)]
        cases e : eF N a u v with
        | zero => rfl
        | succ x => have := hpar (u := u) (v := v) (by omega) hc; rw [hu] at this; cases this
    | false =>
      rw [if_neg (fun q => by cases q), if_neg (fun q => by cases q), ← fb_sm_add]
      by_cases hv : v < 40
      · rw [← h3 v hv]
        unfold inF
        apply fb_sm_cong
        intro u _
        unfold eC
        cases C.testBit u <;> simp
      · have ht : t v = 0 := by
          cases e : t v with
          | zero => rfl
          | succ x => have := bit_lt (nB_lt40 hok g) (h1 v (by omega)); omega
        rw [ht, fb_sm_cong (g := fun _ => 0) (fun u _ => ?_), sm_0]
        have : eF N a u v = 0 := by
          cases e : eF N a u v with
          | zero => rfl
          | succ x => have := bit_lt (nB_lt40 hok g) (ebel u v (by omega)); omega
        unfold eC
        cases C.testBit u <;> simp [this]
  · unfold eC tC
    cases hc : C.testBit u with
    | true => rw [if_pos rfl, fb_sm_cong (g := fun _ => 0) (fun v _ => by simp), sm_0]
    | false =>
      rw [if_neg (fun q => by cases q), fb_sm_cong (g := fun v => eF N a u v) (fun v _ => by simp), eF_out hok]
      exact h4 u hu (fun e => by rw [e, hC.1] at hc; cases hc)
  · unfold tC
    cases hc : C.testBit v with
    | true => rw [if_pos rfl]; omega
    | false =>
      rw [if_neg (fun q => by cases q)]
      cases e : t v with
      | zero => omega
      | succ x =>
        have := h6 v (hCm v (h1 v (by omega)) hc)
        omega
  · -- what goes out of them is what comes to them and F
    have tg : t g = 0 := by
      cases e : t g with
      | zero => rfl
      | succ x => have := nB_lt hok _ _ (h1 g (by omega)); omega
    have hg40 := hC40 g hC.1
    have A : fb_sm (fun c => if C.testBit c then outF N a c else 0) 40 = F + fb_sm (fun c => if C.testBit c then t c else 0) 40 := by
      have e : ∀ c, c < 40 → (if C.testBit c then outF N a c else 0) = (if g = c then F else 0) + (if C.testBit c then t c else 0) := by
        intro c _
        by_cases e : g = c
        · subst e
          rw [if_pos hC.1, if_pos hC.1, if_pos rfl, tg, h5, Nat.add_zero]
        · rw [if_neg e, Nat.zero_add]
          cases hc : C.testBit c with
          | true => rw [if_pos rfl, if_pos rfl]; exact h4 c (hC.2.1 c hc).1 (fun q => e q.symm)
          | false => rfl
      rw [fb_sm_cong e, fb_sm_add, sm_ite (f := fun _ => 0) hg40]
    have B : fb_sm (fun c => if C.testBit c then outF N a c else 0) 40 = fb_sm (fun v => fb_sm (fun c => if C.testBit c then eF N a c v else 0) 40) 40 := by
      rw [sm_swap (fun c v => if C.testBit c then eF N a c v else 0) 40 40]
      apply fb_sm_cong
      intro c _
      cases C.testBit c with
      | true =>
        rw [if_pos rfl, ← eF_out hok]
        apply fb_sm_cong
        intro v _
        rw [if_pos rfl]
      | false => rw [if_neg (fun q => by cases q), fb_sm_cong (g := fun _ => 0) (fun v _ => by simp), sm_0]
    have D : fb_sm (fun v => fb_sm (fun c => if C.testBit c then eF N a c v else 0) 40) 40 = fb_sm (sC N C a) 40 + fb_sm (fun c => if C.testBit c then t c else 0) 40 := by
      rw [← fb_sm_add]
      apply fb_sm_cong
      intro v hv
      unfold sC
      cases hc : C.testBit v with
      | false => rw [if_neg (fun q => by cases q), if_neg (fun q => by cases q), Nat.add_zero]
      | true =>
        rw [if_pos rfl, if_pos rfl, Nat.zero_add, ← h3 v hv]
        unfold inF
        apply fb_sm_cong
        intro u _
        cases hu : C.testBit u with
        | true => rfl
        | false =>
          rw [if_neg (fun q => by cases q)]
          cases e : eF N a u v with
          | zero => rfl
          | succ x => have := hpar (u := u) (v := v) (by omega) hc; rw [hu] at this; cases this
    omega
end
section
/-! the model's search: where it is through, the nearest fewest -/
def gQ (r : Nat → Nat → Prop) (S : Nat → Prop) (Q : Nat → Nat) (q : Nat) (cf : Nat → Option Nat) : Prop :=
  one q Q ∧ ∀ i, i < q → (cf (Q i) = none ∧ S (Q i)) ∨ ∃ j, j < i ∧ cf (Q i) = some (Q j) ∧ r (Q j) (Q i)
theorem gh_down {r : Nat → Nat → Prop} {S : Nat → Prop} {Q : Nat → Nat} {q : Nat} {cf : Nat → Option Nat} (hb : gQ r S Q q cf) {s a i : Nat} (ha : ch cf s a = some (Q i)) (hi : i < q) : ∀ (k x : Nat), ch cf s (a + k) = some x → ∃ j, j + k ≤ i ∧ Q j = x := by
  intro k
  induction k with
  | zero =>
    intro x hx
    rw [Nat.add_zero, ha] at hx
    exact ⟨i, by omega, Option.some.inj hx⟩
  | succ k ih =>
    intro x hx
    obtain ⟨y, h1, h2⟩ := ch_pred (n := a + k) hx
    obtain ⟨j, hj, e⟩ := ih y h1
    rcases hb.2 j (by omega) with ⟨h3, -⟩ | ⟨l, hl, h3, -⟩
    · rw [e, h2] at h3; cases h3
    · rw [e, h2] at h3
      exact ⟨l, by omega, (Option.some.inj h3).symm⟩
theorem gh_one {r : Nat → Nat → Prop} {S : Nat → Prop} {Q : Nat → Nat} {q p : Nat} {cf : Nat → Option Nat} (hb : gQ r S Q q cf) (hp : p < q) {a b x : Nat} (h1 : ch cf (Q p) a = some x) (h2 : ch cf (Q p) b = some x) : a = b := by
  have key : ∀ a b, a < b → ch cf (Q p) a = some x → ch cf (Q p) b = some x → False := by
    intro a b hab h1 h2
    obtain ⟨i, hi, e⟩ := gh_down hb (a := 0) (i := p) rfl hp a x (by rw [Nat.zero_add]; exact h1)
    have h1' := h1
    rw [← e] at h1'
    obtain ⟨j, hj, e2⟩ := gh_down hb h1' (by omega) (b - a) x (by rw [show a + (b - a) = b by omega]; exact h2)
    have := hb.1 i j (by omega) (by omega) (by rw [e, e2])
    omega
  rcases Nat.lt_trichotomy a b with h | h | h
  · exact (key a b h h1 h2).elim
  · exact h
  · exact (key b a h h2 h1).elim
theorem gh_far {r : Nat → Nat → Prop} {S : Nat → Prop} {Q : Nat → Nat} {q p : Nat} {cf : Nat → Option Nat} (hb : gQ r S Q q cf) (hp : p < q) {n : Nat} (hn : p < n) : ch cf (Q p) n = none := by
  cases h : ch cf (Q p) n with
  | none => rfl
  | some x =>
    obtain ⟨j, hj, -⟩ := gh_down hb (a := 0) (i := p) rfl hp n x (by rw [Nat.zero_add]; exact h)
    omega
theorem gh_at {r : Nat → Nat → Prop} {S : Nat → Prop} {Q : Nat → Nat} {q p : Nat} {cf : Nat → Option Nat} (hb : gQ r S Q q cf) (hp : p < q) {n x : Nat} (h : ch cf (Q p) n = some x) : ∃ i, i < q ∧ Q i = x := by
  obtain ⟨j, hj, e⟩ := gh_down hb (a := 0) (i := p) rfl hp n x (by rw [Nat.zero_add]; exact h)
  exact ⟨j, by omega, e⟩
theorem gf_asym {r : Nat → Nat → Prop} {S : Nat → Prop} {Q : Nat → Nat} {q : Nat} {cf : Nat → Option Nat} (hb : gQ r S Q q cf) {x y : Nat} (hx : ∃ i, i < q ∧ Q i = x) (hy : ∃ i, i < q ∧ Q i = y) (h1 : cf x = some y) (h2 : cf y = some x) : False := by
  obtain ⟨i, hi, e⟩ := hx
  obtain ⟨j, hj, f⟩ := hy
  have a : j < i := by
    rcases hb.2 i hi with ⟨h3, -⟩ | ⟨l, hl, h3, -⟩
    · rw [e, h1] at h3; cases h3
    · rw [e, h1] at h3
      have := hb.1 j l hj (by omega) (by rw [f]; exact Option.some.inj h3)
      omega
  have b : i < j := by
    rcases hb.2 j hj with ⟨h3, -⟩ | ⟨l, hl, h3, -⟩
    · rw [f, h2] at h3; cases h3
    · rw [f, h2] at h3
      have := hb.1 i l hi (by omega) (by rw [e]; exact Option.some.inj h3)
      omega
  omega
/-- a step of the model's search -/
def rmO (N : nw) (t : Nat → Nat) (u y : Nat) : Prop := (∃ k, slB N u k = true ∧ nR N u k = y) ∨ (0 < t u ∧ y = u)
def rmI (N : nw) (g m : Nat) (l t : Nat → Nat) (a : Nat → Nat → Nat) (x y : Nat) : Prop := (y = 40 + x ∧ t x < (if l x < m then 1 else 1000)) ∨ ∃ p k, y = 40 + p ∧ iN N g p ∧ slB N p k = true ∧ nR N p k = x ∧ 0 < a p k
def rMs (N : nw) (g m : Nat) (l t : Nat → Nat) (a : Nat → Nat → Nat) (x y : Nat) : Prop :=
  (∃ u, x = 40 + u ∧ isG N u = true ∧ rmO N t u y) ∨ (x < 40 ∧ x ≠ g ∧ rmI N g m l t a x y)
def eI (N : nw) (g y : Nat) : Prop := (y < 40 ∧ iN N g y) ∨ (40 ≤ y ∧ y < 80 ∧ iN N g (y - 40))
def bM (N : nw) (g m : Nat) (l t : Nat → Nat) (a : Nat → Nat → Nat) (Q : Nat → Nat) (q p : Nat) (cf : Nat → Option Nat) : Prop :=
  gQ (rMs N g m l t a) (fun x => x = 40 + g) Q q cf ∧ (0 < q ∧ Q 0 = 40 + g) ∧ p ≤ q ∧ (∀ i, i < q → eI N g (Q i)) ∧ ∀ i, i < p → (∀ y, rMs N g m l t a (Q i) y → ∃ j, j < q ∧ Q j = y) ∧ ∀ u, Q i = 40 + u → isG N u = true
theorem iN_lt {N : nw} (hok : nw_ok N) {g v : Nat} (hg : g < 40) (h : iN N g v) : v < 40 ∧ v ≤ g := by
  rcases h with e | e
  · exact ⟨by omega, by omega⟩
  · have := nB_lt hok _ _ e
    exact ⟨by omega, by omega⟩
theorem iN_src {N : nw} (hok : nw_ok N) {g u v : Nat} (h : iN N g u) (hs : (sM N u).testBit v = true) : (nB N g).testBit v = true := by
  rcases h with e | e
  · rw [← e]; exact nB_src hok hs
  · exact nB_trans hok _ _ _ e hs
theorem rMs_eI {N : nw} (hok : nw_ok N) {g m F x y : Nat} {l t : Nat → Nat} {a : Nat → Nat → Nat} (hg : g < 40) (hf : mF N g m l t a F) (hx : eI N g x) (h : rMs N g m l t a x y) : eI N g y := by
  rcases h with ⟨u, e, hgu, ⟨k, h1, h2⟩ | ⟨h1, h2⟩⟩ | ⟨hx4, hne, ⟨h1, -⟩ | ⟨p, k, h1, h2, -⟩⟩
  · have hu : iN N g u := by
      rcases hx with ⟨q, -⟩ | ⟨-, -, q⟩
      · omega
      · rw [e, show 40 + u - 40 = u by omega] at q; exact q
    have hs : (sM N u).testBit y = true := by rw [← h2]; exact nR_src (slB_iff.mp h1).1 (slB_iff.mp h1).2
    have := iN_src hok hu hs
    exact Or.inl ⟨bit_lt (nB_lt40 hok g) this, Or.inr this⟩
  · have := hf.1 u (by omega)
    rw [h2]
    exact Or.inl ⟨bit_lt (nB_lt40 hok g) this, Or.inr this⟩
  · rcases hx with ⟨-, q⟩ | ⟨q, -⟩
    · refine Or.inr ⟨by omega, by omega, ?_⟩
      rw [h1, show 40 + x - 40 = x by omega]; exact q
    · omega
  · have := iN_lt hok hg h2
    refine Or.inr ⟨by omega, by omega, ?_⟩
    rw [h1, show 40 + p - 40 = p by omega]; exact h2
theorem bM_step {N : nw} (hok : nw_ok N) {g m F : Nat} {l t : Nat → Nat} {a : Nat → Nat → Nat} {Q Q' : Nat → Nat} {q q' p : Nat} {cf cf' : Nat → Option Nat} (hg : g < 40) (hf : mF N g m l t a F) (hb : bM N g m l t a Q q p cf) (hp : p < q) (hd : one q' Q') (hx : sX q Q cf q' Q' cf' (some (Q p)) (rMs N g m l t a (Q p))) (hgt : ∀ u, Q p = 40 + u → isG N u = true) : bM N g m l t a Q' q' (p + 1) cf' := by
  obtain ⟨⟨b1, b2⟩, ⟨b3, b4⟩, b5, b6, b7⟩ := hb
  obtain ⟨x1, x2, x3, x4, x5⟩ := hx
  have old : ∀ y, (∃ j, j < q ∧ Q j = y) → ∃ j, j < q' ∧ Q' j = y := fun y ⟨j, hj, e⟩ => ⟨j, by omega, by rw [x2 j hj]; exact e⟩
  refine ⟨⟨hd, fun i hi => ?_⟩, ⟨by omega, by rw [x2 0 b3]; exact b4⟩, by omega, fun i hi => ?_, fun i hi => ?_⟩
  · by_cases h : i < q
    · rw [x2 i h, x3 i h]
      rcases b2 i h with h3 | ⟨j, hj, h3⟩
      · exact Or.inl h3
      · exact Or.inr ⟨j, hj, by rw [x2 j (by omega)]; exact h3⟩
    · obtain ⟨h3, h4⟩ := x4 i (by omega) hi
      exact Or.inr ⟨p, by omega, by rw [x2 p hp]; exact ⟨h4, h3⟩⟩
  · by_cases h : i < q
    · rw [x2 i h]; exact b6 i h
    · exact rMs_eI hok hg hf (b6 p hp) (x4 i (by omega) hi).1
  · rw [x2 i (by omega)]
    by_cases h : i < p
    · exact ⟨fun y hy => old y ((b7 i h).1 y hy), (b7 i h).2⟩
    · have e : i = p := by omega
      subst e
      exact ⟨fun y hy => x5 y hy, hgt⟩
theorem bM_near {N : nw} (hok : nw_ok N) {g m K F : Nat} {t : Nat → Nat} {a : Nat → Nat → Nat} {Q : Nat → Nat} {q : Nat} {cf : Nat → Option Nat} {U : Nat} (hK : 3 ≤ K) (hg : isG N g = true) (hm : 1 ≤ m) (hF : F < 1000) (hf : mF N g m (lev N K) t a F) (hb : bM N g m (lev N K) t a Q q q cf) (hU : ∀ v, U.testBit v = true ↔ v < 40 ∧ (∃ i, i < q ∧ Q i = v) ∧ ¬ ∃ i, i < q ∧ Q i = 40 + v) :
    nearC N g (Cm N (lev N K) g m) U ∧ cnt U 40 = F := by
  have hC := Cm_ok (m := m) hok hK hg hm
  have hg40 : g < 40 := by have := isG_lt hg; have := hok.1; omega
  obtain ⟨C, hCe⟩ : ∃ C, C = Cm N (lev N K) g m := ⟨_, rfl⟩
  have hCb := Cm_bit hok (lev N K) g m
  rw [← hCe] at hC hCb ⊢
  have hCm : ∀ v, (nB N g).testBit v = true → C.testBit v = false → lev N K v < m := fun v h1 h2 => Nat.lt_of_not_le fun q => by
    have := (hCb v).mpr (Or.inr ⟨h1, q⟩)
    rw [h2] at this
    cases this
  obtain ⟨hfl, hsum⟩ := mF_fl hok hC hCm hf
  obtain ⟨⟨b1, b2⟩, ⟨b3, b4⟩, b5, b6, b7⟩ := hb
  have seenU : ∀ u, (∃ i, i < q ∧ Q i = 40 + u) → isG N u = true ∧ ∀ y, rmO N t u y → ∃ j, j < q ∧ Q j = y := fun u ⟨i, hi, e⟩ => ⟨(b7 i hi).2 u e, fun y hy => (b7 i hi).1 y (Or.inl ⟨u, e, (b7 i hi).2 u e, hy⟩)⟩
  have seenI : ∀ v, v < 40 → v ≠ g → (∃ i, i < q ∧ Q i = v) → ∀ y, rmI N g m (lev N K) t a v y → ∃ j, j < q ∧ Q j = y := fun v hv hne ⟨i, hi, e⟩ y hy => (b7 i hi).1 y (by rw [e]; exact Or.inr ⟨hv, hne, hy⟩)
  -- all of those drawn together are come to
  have allC : ∀ d c, g - c = d → C.testBit c = true → ∃ i, i < q ∧ Q i = 40 + c := by
    intro d
    induction d using Nat.strongRecOn with
    | ind d ih =>
      intro c hd hc
      rcases (hC.2.1 c hc).2 with e | ⟨h1, p, hp, hs⟩
      · rw [e]; exact ⟨0, b3, b4⟩
      · have hpg : p ≤ g := by
          rcases (hC.2.1 p hp).2 with e | ⟨e, -⟩
          · omega
          · have := nB_lt hok _ _ e; omega
        have hcp := sM_lt hok hs
        have hcg := nB_lt hok _ _ h1
        have hpS := ih (g - p) (by omega) p rfl hp
        obtain ⟨k, hk, ek⟩ := (src_of hs).2
        have hcS := (seenU p hpS).2 c (Or.inl ⟨k, slB_iff.mpr ⟨(src_of hs).1, hk⟩, ek⟩)
        refine seenI c (by omega) (by omega) hcS (40 + c) (Or.inl ⟨rfl, ?_⟩)
        have hlc : ¬ lev N K c < m := by
          rcases (hCb c).mp hc with e | ⟨-, e⟩
          · omega
          · omega
        rw [if_neg hlc]
        have := hf.2.2.2.2.2.2.1 c
        omega
  obtain ⟨I, hI⟩ : ∃ I : Nat → Bool, ∀ v, I v = true ↔ (C.testBit v = false ∧ ∃ i, i < q ∧ Q i = v) := pick _
  obtain ⟨O, hO⟩ : ∃ O : Nat → Bool, ∀ v, O v = true ↔ (C.testBit v = false ∧ ∃ i, i < q ∧ Q i = 40 + v) := pick _
  have hIm : ∀ v, (mk I 40).testBit v = true ↔ v < 40 ∧ C.testBit v = false ∧ ∃ i, i < q ∧ Q i = v := fun v => by rw [mk_bit, Bool.and_eq_true, decide_eq_true_eq, hI]
  have hOm : ∀ v, (mk O 40).testBit v = true ↔ v < 40 ∧ C.testBit v = false ∧ ∃ i, i < q ∧ Q i = 40 + v := fun v => by rw [mk_bit, Bool.and_eq_true, decide_eq_true_eq, hO]
  have inb : ∀ v, C.testBit v = false → iN N g v → (nB N g).testBit v = true := fun v hc h => by
    rcases h with e | e
    · rw [e, hC.1] at hc; cases hc
    · exact e
  have upI : ∀ v i, v < 40 → i < q → Q i = v → iN N g v := fun v i hv hi e => by
    rcases b6 i hi with ⟨-, h⟩ | ⟨h, -, -⟩
    · rw [e] at h; exact h
    · omega
  have loI : ∀ v i, i < q → Q i = 40 + v → iN N g v ∧ v < 40 := fun v i hi e => by
    rcases b6 i hi with ⟨h, -⟩ | ⟨h, h2, h3⟩
    · omega
    · rw [e, show 40 + v - 40 = v by omega] at h3; exact ⟨h3, by omega⟩
  have hUe : U = sD (mk I 40) (mk O 40) := set_eq fun v => by
    apply Bool.eq_iff_iff.mpr
    rw [hU, sD_bit, Bool.and_eq_true, Bool.not_eq_true', hIm]
    constructor
    · rintro ⟨h1, h2, h3⟩
      have hc : C.testBit v = false := by
        cases hc : C.testBit v with
        | false => rfl
        | true => exact absurd (allC _ v rfl hc) h3
      refine ⟨⟨h1, hc, h2⟩, ?_⟩
      cases ho : (mk O 40).testBit v with
      | false => rfl
      | true => exact absurd ((hOm v).mp ho).2.2 h3
    · rintro ⟨⟨h1, h2, h3⟩, h4⟩
      refine ⟨h1, h3, fun h5 => ?_⟩
      have := (hOm v).mpr ⟨h1, h2, h5⟩
      rw [h4] at this
      cases this
  have s40 : ∀ {u v : Nat}, (sM N u).testBit v = true → v < 40 := fun hs => by
    have h1 := sM_lt hok hs
    have h2 := isG_lt (src_of hs).1
    have := hok.1
    omega
  have src : ∀ {u v : Nat}, (∃ i, i < q ∧ Q i = 40 + u) → (sM N u).testBit v = true → ∃ j, j < q ∧ Q j = v := fun hu hs => by
    obtain ⟨k, hk, ek⟩ := (src_of hs).2
    exact (seenU _ hu).2 _ (Or.inl ⟨k, slB_iff.mpr ⟨(src_of hs).1, hk⟩, ek⟩)
  rw [hUe, ← hsum]
  refine flow_near hok hC hfl ⟨fun c v hc hs hv => ?_, fun u v hu hs => ?_, fun v hv ht => ?_, fun u v hv he => ?_, fun u hu ht => ?_⟩ (fun v hv => ?_) (fun v hv => ?_) (fun I' O' hcl => ?_)
  · exact (hIm v).mpr ⟨s40 hs, hv, src (allC _ c rfl hc) hs⟩
  · obtain ⟨h1, h2, h3⟩ := (hOm u).mp hu
    refine (hIm v).mpr ⟨s40 hs, ?_, src h3 hs⟩
    cases hc : C.testBit v with
    | false => rfl
    | true =>
      obtain ⟨i, hi, e⟩ := h3
      have := hC.2.2 u v (inb u h2 (loI u i hi e).1) hs hc
      rw [h2] at this
      cases this
  · obtain ⟨h1, h2, h3⟩ := (hIm v).mp hv
    obtain ⟨i, hi, e⟩ := h3
    have hb := inb v h2 (upI v i h1 hi e)
    refine (hOm v).mpr ⟨h1, h2, seenI v h1 (fun e2 => by rw [e2, hC.1] at h2; cases h2) ⟨i, hi, e⟩ (40 + v) (Or.inl ⟨rfl, ?_⟩)⟩
    unfold tC at ht
    rw [h2, if_neg (fun q => by cases q)] at ht
    rw [if_pos (hCm v hb h2), ht]
    omega
  · obtain ⟨h1, h2, h3⟩ := (hIm v).mp hv
    unfold eC at he
    cases hc : C.testBit u with
    | true => rw [hc, if_pos rfl] at he; exact absurd rfl he
    | false =>
      rw [hc, if_neg (fun q => by cases q)] at he
      obtain ⟨k, q1, q2, q3⟩ := eF_0 he
      have hu := (hf.2.1 u k q3).2
      exact (hOm u).mpr ⟨(iN_lt hok hg40 hu).1, hc, seenI v h1 (fun e2 => by rw [e2, hC.1] at h2; cases h2) h3 (40 + u) (Or.inr ⟨u, k, rfl, hu, q1, q2, by omega⟩)⟩
  · obtain ⟨h1, h2, h3⟩ := (hOm u).mp hu
    unfold tC at ht
    rw [h2, if_neg (fun q => by cases q)] at ht
    exact (hIm u).mpr ⟨h1, h2, (seenU u h3).2 u (Or.inr ⟨by omega, rfl⟩)⟩
  · obtain ⟨h1, h2, i, hi, e⟩ := (hIm v).mp hv
    exact ⟨inb v h2 (upI v i h1 hi e), h2⟩
  · obtain ⟨h1, h2, i, hi, e⟩ := (hOm v).mp hv
    exact ⟨⟨inb v h2 (loI v i hi e).1, h2⟩, (b7 i hi).2 v e⟩
  · obtain ⟨c1, c2, c3, c4, c5⟩ := hcl
    have all : ∀ i, i < q → (∀ v, v < 40 → Q i = v → C.testBit v = false → I' v) ∧ ∀ u, Q i = 40 + u → C.testBit u = false → O' u := by
      intro i
      induction i using Nat.strongRecOn with
      | ind i ih =>
        intro hi
        rcases b2 i hi with ⟨-, h0⟩ | ⟨j, hj, -, hr⟩
        · refine ⟨fun v hv e _ => by omega, fun u e hc => ?_⟩
          have : u = g := by omega
          rw [this, hC.1] at hc
          cases hc
        · obtain ⟨q1, q2⟩ := ih j hj (by omega)
          rcases hr with ⟨u, e, hgu, ⟨k, r1, r2⟩ | ⟨r1, r2⟩⟩ | ⟨hx4, hne, ⟨r1, r2⟩ | ⟨p, k, r1, r2, r3, r4, r5⟩⟩
          · have hs : (sM N u).testBit (Q i) = true := by rw [← r2]; exact nR_src (slB_iff.mp r1).1 (slB_iff.mp r1).2
            have h4 := s40 hs
            refine ⟨fun v hv ev hcv => ?_, fun w ew => by omega⟩
            rw [ev] at hs
            cases hcu : C.testBit u with
            | true => exact c1 u v hcu hs hcv
            | false => exact c2 u v (q2 u e hcu) hs
          · have hu := (loI u j (by omega) e).2
            refine ⟨fun v hv ev hcv => ?_, fun w ew => by omega⟩
            have : v = u := by omega
            subst this
            refine c5 v (q2 v e hcv) ?_
            unfold tC
            rw [hcv, if_neg (fun q => by cases q)]
            omega
          · refine ⟨fun v hv ev _ => by omega, fun w ew hcw => ?_⟩
            have : w = Q j := by omega
            subst this
            have hb := inb (Q j) hcw (upI (Q j) j hx4 (by omega) rfl)
            rw [if_pos (hCm _ hb hcw)] at r2
            refine c3 _ (q1 _ hx4 rfl hcw) ?_
            unfold tC
            rw [hcw, if_neg (fun q => by cases q)]
            omega
          · have hp40 := (iN_lt hok hg40 r2).1
            refine ⟨fun v hv ev _ => by omega, fun w ew hcw => ?_⟩
            have : w = p := by omega
            subst this
            have he : eF N a w (Q j) ≠ 0 := by
              have h3 := slB_lt hok r3
              have := fb_sm_part (fun k => if slB N w k && decide (nR N w k = Q j) then a w k else 0) h3.2.2
              simp only [r3, r4, decide_true, Bool.and_self, if_true] at this
              unfold eF
              omega
            have hcj : C.testBit (Q j) = false := by
              cases hc : C.testBit (Q j) with
              | false => rfl
              | true => have := mF_par hok hC hf he hc; rw [hcw] at this; cases this
            refine c4 w (Q j) (q1 _ hx4 rfl hcj) ?_
            unfold eC
            rw [hcw, if_neg (fun q => by cases q)]
            exact he
    refine ⟨fun v hv => ?_, fun v hv => ?_⟩
    · obtain ⟨h1, h2, i, hi, e⟩ := (hIm v).mp hv
      exact (all i hi).1 v h1 e h2
    · obtain ⟨h1, h2, i, hi, e⟩ := (hOm v).mp hv
      exact (all i hi).2 v e h2
end
section
/-! one more flows along the way by which an end was come to -/
def rmV (m : Nat) (l : Nat → Nat) (v : Nat) : Nat := if l v < m then 1 else 1000
def dl (o : Option Nat) (x : Nat) : Nat := if o = some x then 1 else 0
theorem dl_y {x : Nat} : dl (some x) x = 1 := if_pos rfl
theorem dl_n {x y : Nat} (h : x ≠ y) : dl (some x) y = 0 := if_neg fun e => h (Option.some.inj e)
def wk (N : nw) (g m F : Nat) (l t : Nat → Nat) (a : Nat → Nat → Nat) (cf : Nat → Option Nat) (s n : Nat) (t' : Nat → Nat) (a' : Nat → Nat → Nat) : Prop :=
  (∀ v, v < 40 → inF N a' v + dl (ch cf s n) v = t' v) ∧ (∀ u, isG N u = true → u ≠ g → t' u + dl (ch cf s n) (40 + u) = outF N a' u) ∧ outF N a' g = F + dl (ch cf s n) (40 + g) ∧
  (∀ v, (t' v ≤ t v ∨ (t' v = t v + 1 ∧ t v < rmV m l v)) ∧ (¬ (onC cf s n (40 + v) ∧ cf (40 + v) = some v) → ¬ (onC cf s n v ∧ cf v = some (40 + v)) → t' v = t v)) ∧
  (∀ p k, a' p k ≤ a p k + 1 ∧ (¬ (onC cf s n (nR N p k) ∧ cf (nR N p k) = some (40 + p)) → ¬ (onC cf s n (40 + p) ∧ cf (40 + p) = some (nR N p k)) → a' p k = a p k)) ∧
  (∀ v, t' v ≠ 0 → (nB N g).testBit v = true) ∧ ∀ p k, a' p k ≠ 0 → slB N p k = true ∧ iN N g p
theorem wk_0 {N : nw} {g m F : Nat} {l t : Nat → Nat} {a : Nat → Nat → Nat} {cf : Nat → Option Nat} {leaf : Nat} (hf : mF N g m l t a F) (hg : isG N g = true) (hl : isG N leaf = false) : wk N g m F l t a cf (40 + leaf) 0 t a := by
  obtain ⟨f1, f2, f3, f4, f5, f6, f7, f8⟩ := hf
  have hne : ∀ u, isG N u = true → leaf ≠ u := fun u hu e => by rw [← e, hl] at hu; cases hu
  refine ⟨fun v hv => ?_, fun u hu hug => ?_, ?_, fun v => ⟨Or.inl (Nat.le_refl _), fun _ _ => rfl⟩, fun p k => ⟨by omega, fun _ _ => rfl⟩, f1, f2⟩
  · show _ + dl (some (40 + leaf)) v = _
    rw [dl_n (by omega), f3 v hv, Nat.add_zero]
  · show _ + dl (some (40 + leaf)) (40 + u) = _
    rw [dl_n (by have := hne u hu; omega), f4 u hu hug, Nat.add_zero]
  · show _ = _ + dl (some (40 + leaf)) (40 + g)
    rw [dl_n (by have := hne g hg; omega), f5, Nat.add_zero]
theorem wk_end {N : nw} {g m F : Nat} {l t : Nat → Nat} {a : Nat → Nat → Nat} {cf : Nat → Option Nat} {s n : Nat} {t' : Nat → Nat} {a' : Nat → Nat → Nat} (hf : mF N g m l t a F) (h : wk N g m F l t a cf s n t' a') (hg : g < 40) (he : ch cf s n = some (40 + g)) : mF N g m l t' a' (F + 1) := by
  obtain ⟨f1, f2, f3, f4, f5, f6, f7, f8⟩ := hf
  obtain ⟨w1, w2, w3, w4, w5, w6, w7⟩ := h
  rw [he] at w1 w2 w3
  refine ⟨w6, w7, fun v hv => ?_, fun u hu hug => ?_, ?_, fun v hv => ?_, fun v => ?_, fun p k => ?_⟩
  · have := w1 v hv
    rw [dl_n (by omega)] at this
    omega
  · have := w2 u hu hug
    rw [dl_n (by omega)] at this
    omega
  · rw [w3, dl_y]
  · have h1 := (w4 v).1
    have h2 := f6 v hv
    unfold rmV at h1
    rw [if_pos hv] at h1
    omega
  · have h1 := (w4 v).1
    have h2 := f7 v
    omega
  · have h1 := (w5 p k).1
    have h2 := f8 p k
    omega
section
variable {N : nw} {g m F : Nat} {l t : Nat → Nat} {a : Nat → Nat → Nat} {r : Nat → Nat → Prop} {S : Nat → Prop} {Q : Nat → Nat} {q p0 : Nat} {cf : Nat → Option Nat} {n x z : Nat} {t' : Nat → Nat} {a' : Nat → Nat → Nat}
theorem wk_new (hb : gQ r S Q q cf) (hp : p0 < q) (hx : ch cf (Q p0) n = some x) : ¬ onC cf (Q p0) n x := by
  rintro ⟨k, hk, e⟩
  have := gh_one hb hp hx e
  omega
theorem wk_asym (hb : gQ r S Q q cf) (hp : p0 < q) {y w : Nat} (hy : inC cf (Q p0) y) (h1 : cf y = some w) (h2 : cf w = some y) : False := by
  obtain ⟨k, e⟩ := hy
  have e2 := ch_succ e
  rw [h1] at e2
  exact gf_asym hb (gh_at hb hp e) (gh_at hb hp e2) h1 h2
theorem onC_in {s k y : Nat} (h : onC cf s k y) : inC cf s y := by obtain ⟨k, -, e⟩ := h; exact ⟨k, e⟩
theorem onC_mono {s y : Nat} (h : onC cf s n y) : onC cf s (n + 1) y := by obtain ⟨k, h1, e⟩ := h; exact ⟨k, by omega, e⟩
/-- along a source -/
theorem wk_A (hok : nw_ok N) (hb : gQ r S Q q cf) (hp : p0 < q) (hx : ch cf (Q p0) n = some x) {u k0 : Nat} (hz : cf x = some (40 + u)) (hs : slB N u k0 = true) (hk : nR N u k0 = x) (hu : iN N g u) (h : wk N g m F l t a cf (Q p0) n t' a') {a'' : Nat → Nat → Nat} (ha : ∀ p k, a'' p k = a' p k + (if p = u ∧ k = k0 then 1 else 0)) :
    wk N g m F l t a cf (Q p0) (n + 1) t' a'' := by
  obtain ⟨w1, w2, w3, w4, w5, w6, w7⟩ := h
  have hl := slB_lt hok hs
  have hnx : ch cf (Q p0) (n + 1) = some (40 + u) := by rw [ch_succ hx, hz]
  have hnew := wk_new hb hp hx
  unfold wk
  rw [hnx]
  rw [hx] at w1 w2 w3
  refine ⟨fun v hv => ?_, fun w hw hwg => ?_, ?_, fun v => ⟨(w4 v).1, fun q1 q2 => (w4 v).2 (fun e => q1 ⟨onC_mono e.1, e.2⟩) (fun e => q2 ⟨onC_mono e.1, e.2⟩)⟩, fun p k => ?_, w6, fun p k hpk => ?_⟩
  · have := w1 v hv
    rw [inF_inc hok hs ha, dl_n (by omega), hk]
    by_cases e : x = v
    · rw [e, dl_y] at this; rw [if_pos e]; omega
    · rw [dl_n e] at this; rw [if_neg e]; omega
  · have := w2 w hw hwg
    rw [dl_n (by omega)] at this
    rw [outF_inc hok hs ha]
    by_cases e : w = u
    · rw [e, dl_y, if_pos rfl, ← e]; omega
    · rw [dl_n (by omega), if_neg e]; omega
  · rw [dl_n (by omega)] at w3
    rw [outF_inc hok hs ha]
    by_cases e : g = u
    · rw [← e, dl_y, if_pos rfl]; omega
    · rw [dl_n (by omega), if_neg e]; omega
  · rw [ha]
    by_cases e : p = u ∧ k = k0
    · obtain ⟨rfl, rfl⟩ := e
      rw [if_pos ⟨rfl, rfl⟩, hk]
      have hun := (w5 p k).2
      rw [hk] at hun
      have := hun (fun e => hnew e.1) (fun e => wk_asym hb hp (onC_in e.1) e.2 hz)
      exact ⟨by omega, fun q1 _ => absurd ⟨⟨n, by omega, hx⟩, hz⟩ q1⟩
    · rw [if_neg e, Nat.add_zero]
      exact ⟨(w5 p k).1, fun q1 q2 => (w5 p k).2 (fun e => q1 ⟨onC_mono e.1, e.2⟩) (fun e => q2 ⟨onC_mono e.1, e.2⟩)⟩
  · rw [ha] at hpk
    by_cases e : p = u ∧ k = k0
    · obtain ⟨rfl, rfl⟩ := e
      exact ⟨hs, hu⟩
    · rw [if_neg e, Nat.add_zero] at hpk
      exact w7 p k hpk
/-- back through a node -/
theorem wk_B (hf : mF N g m l t a F) (hok : nw_ok N) (hb : gQ r S Q q cf) (hp : p0 < q) (hx : ch cf (Q p0) n = some x) (hx4 : x < 40) (hz : cf x = some (40 + x)) (ht : 0 < t x) (h : wk N g m F l t a cf (Q p0) n t' a') {t'' : Nat → Nat} (ha : ∀ v, t' v = t'' v + (if v = x then 1 else 0)) :
    wk N g m F l t a cf (Q p0) (n + 1) t'' a' := by
  obtain ⟨w1, w2, w3, w4, w5, w6, w7⟩ := h
  have hnx : ch cf (Q p0) (n + 1) = some (40 + x) := by rw [ch_succ hx, hz]
  have hnew := wk_new hb hp hx
  have hxg : x ≠ g := fun e => by have := nB_lt hok _ _ (hf.1 x (by omega)); omega
  unfold wk
  rw [hnx]
  rw [hx] at w1 w2 w3
  refine ⟨fun v hv => ?_, fun w hw hwg => ?_, ?_, fun v => ?_, fun p k => ⟨(w5 p k).1, fun q1 q2 => (w5 p k).2 (fun e => q1 ⟨onC_mono e.1, e.2⟩) (fun e => q2 ⟨onC_mono e.1, e.2⟩)⟩, fun v hv => w6 v (by have := ha v; omega), w7⟩
  · have h1 := w1 v hv
    have h2 := ha v
    rw [dl_n (by omega)]
    by_cases e : x = v
    · rw [e, dl_y] at h1; rw [if_pos e.symm] at h2; omega
    · rw [dl_n e] at h1; rw [if_neg (fun q => e q.symm)] at h2; omega
  · have h1 := w2 w hw hwg
    have h2 := ha w
    rw [dl_n (by omega)] at h1
    by_cases e : w = x
    · rw [e, dl_y, ← e]; rw [if_pos e] at h2; omega
    · rw [dl_n (by omega)]; rw [if_neg e] at h2; omega
  · rw [dl_n (by omega)] at w3
    rw [dl_n (by omega)]
    exact w3
  · have h2 := ha v
    by_cases e : v = x
    · subst e
      rw [if_pos rfl] at h2
      have h3 := (w4 v).2 (fun e => wk_asym hb hp (onC_in e.1) e.2 hz) (fun e => hnew e.1)
      exact ⟨Or.inl (by omega), fun _ q2 => absurd ⟨⟨n, by omega, hx⟩, hz⟩ q2⟩
    · rw [if_neg e, Nat.add_zero] at h2
      rw [← h2]
      exact ⟨(w4 v).1, fun q1 q2 => (w4 v).2 (fun e => q1 ⟨onC_mono e.1, e.2⟩) (fun e => q2 ⟨onC_mono e.1, e.2⟩)⟩
/-- through a node -/
theorem wk_C (hb : gQ r S Q q cf) (hp : p0 < q) (hx : ch cf (Q p0) n = some (40 + z)) (hz4 : z < 40) (hzg : z ≠ g) (hzI : iN N g z) (hz : cf (40 + z) = some z) (ht : t z < rmV m l z) (h : wk N g m F l t a cf (Q p0) n t' a') {t'' : Nat → Nat} (ha : ∀ v, t'' v = t' v + (if v = z then 1 else 0)) :
    wk N g m F l t a cf (Q p0) (n + 1) t'' a' := by
  obtain ⟨w1, w2, w3, w4, w5, w6, w7⟩ := h
  have hnx : ch cf (Q p0) (n + 1) = some z := by rw [ch_succ hx, hz]
  have hnew := wk_new hb hp hx
  unfold wk
  rw [hnx]
  rw [hx] at w1 w2 w3
  refine ⟨fun v hv => ?_, fun w hw hwg => ?_, ?_, fun v => ?_, fun p k => ⟨(w5 p k).1, fun q1 q2 => (w5 p k).2 (fun e => q1 ⟨onC_mono e.1, e.2⟩) (fun e => q2 ⟨onC_mono e.1, e.2⟩)⟩, fun v hv => ?_, w7⟩
  · have h1 := w1 v hv
    rw [dl_n (by omega)] at h1
    rw [ha v]
    by_cases e : z = v
    · rw [e, dl_y, if_pos rfl]; omega
    · rw [dl_n e, if_neg (fun q => e q.symm)]; omega
  · have h1 := w2 w hw hwg
    rw [ha w, dl_n (by omega)]
    by_cases e : w = z
    · rw [if_pos e]; rw [← e, dl_y] at h1; omega
    · rw [if_neg e]; rw [dl_n (by omega)] at h1; omega
  · rw [dl_n (by omega)] at w3
    rw [dl_n (by omega)]
    exact w3
  · rw [ha v]
    by_cases e : v = z
    · subst e
      rw [if_pos rfl]
      have h3 := (w4 v).2 (fun e => hnew e.1) (fun e => wk_asym hb hp (onC_in e.1) e.2 hz)
      exact ⟨Or.inr ⟨by omega, ht⟩, fun q1 _ => absurd ⟨⟨n, by omega, hx⟩, hz⟩ q1⟩
    · rw [if_neg e, Nat.add_zero]
      exact ⟨(w4 v).1, fun q1 q2 => (w4 v).2 (fun e => q1 ⟨onC_mono e.1, e.2⟩) (fun e => q2 ⟨onC_mono e.1, e.2⟩)⟩
  · rw [ha v] at hv
    by_cases e : v = z
    · subst e
      rcases hzI with q1 | q1
      · exact absurd q1 hzg
      · exact q1
    · rw [if_neg e] at hv
      exact w6 v (by omega)
/-- back along a source -/
theorem wk_D (hok : nw_ok N) (hb : gQ r S Q q cf) (hp : p0 < q) {u k0 : Nat} (hx : ch cf (Q p0) n = some (40 + u)) (hz4 : z < 40) (hz : cf (40 + u) = some z) (hs : slB N u k0 = true) (hk : nR N u k0 = z) (h : wk N g m F l t a cf (Q p0) n t' a') {a'' : Nat → Nat → Nat} (ha : ∀ p k, a' p k = a'' p k + (if p = u ∧ k = k0 then 1 else 0)) :
    wk N g m F l t a cf (Q p0) (n + 1) t' a'' := by
  obtain ⟨w1, w2, w3, w4, w5, w6, w7⟩ := h
  have hnx : ch cf (Q p0) (n + 1) = some z := by rw [ch_succ hx, hz]
  have hnew := wk_new hb hp hx
  unfold wk
  rw [hnx]
  rw [hx] at w1 w2 w3
  refine ⟨fun v hv => ?_, fun w hw hwg => ?_, ?_, fun v => ⟨(w4 v).1, fun q1 q2 => (w4 v).2 (fun e => q1 ⟨onC_mono e.1, e.2⟩) (fun e => q2 ⟨onC_mono e.1, e.2⟩)⟩, fun p k => ?_, w6, fun p k hpk => w7 p k (by have := ha p k; omega)⟩
  · have h1 := w1 v hv
    rw [inF_inc hok hs ha, dl_n (by omega), hk] at h1
    by_cases e : z = v
    · rw [e, dl_y]; rw [if_pos e] at h1; omega
    · rw [dl_n e]; rw [if_neg e] at h1; omega
  · have h1 := w2 w hw hwg
    rw [outF_inc hok hs ha] at h1
    rw [dl_n (by omega)]
    by_cases e : w = u
    · rw [if_pos e, ← e, dl_y] at h1; omega
    · rw [if_neg e, dl_n (by omega)] at h1; omega
  · rw [outF_inc hok hs ha] at w3
    rw [dl_n (by omega)]
    by_cases e : g = u
    · rw [if_pos e, ← e, dl_y] at w3; omega
    · rw [if_neg e, dl_n (by omega)] at w3; omega
  · have h2 := ha p k
    by_cases e : p = u ∧ k = k0
    · obtain ⟨rfl, rfl⟩ := e
      rw [if_pos ⟨rfl, rfl⟩] at h2
      have h3 := (w5 p k).1
      refine ⟨by omega, fun _ q2 => absurd ⟨⟨n, by omega, hx⟩, ?_⟩ q2⟩
      rw [hk]; exact hz
    · rw [if_neg e, Nat.add_zero] at h2
      rw [← h2]
      exact ⟨(w5 p k).1, fun q1 q2 => (w5 p k).2 (fun e => q1 ⟨onC_mono e.1, e.2⟩) (fun e => q2 ⟨onC_mono e.1, e.2⟩)⟩
/-- in the slots of the step to be taken back there is as much as there was -/
theorem wk_D0 (hb : gQ r S Q q cf) (hp : p0 < q) {u k : Nat} (hx : ch cf (Q p0) n = some (40 + u)) (hz : cf (40 + u) = some (nR N u k)) (h : wk N g m F l t a cf (Q p0) n t' a') : a' u k = a u k :=
  (h.2.2.2.2.1 u k).2 (fun e => wk_asym hb hp (onC_in e.1) e.2 hz) (fun e => wk_new hb hp hx e.1)
theorem wk_B0 (hb : gQ r S Q q cf) (hp : p0 < q) (hx : ch cf (Q p0) n = some x) (hz : cf x = some (40 + x)) (h : wk N g m F l t a cf (Q p0) n t' a') : t' x = t x :=
  (h.2.2.2.1 x).2 (fun e => wk_asym hb hp (onC_in e.1) e.2 hz) (fun e => wk_new hb hp hx e.1)
end
end
section
/-! the model's search: comes, room, spreadsOut, spreadsIn -/
/-- what may be another: cells of these kinds, these places of the model -/
def mf (A B : List Nat) (σ τ : jm_G) : Prop := (∀ t i, t ≠ 38 → ¬ t ∈ A → τ.1 t i = σ.1 t i ∧ τ.2 t i = σ.2 t i) ∧ ∀ i f, ¬ f ∈ B → τ.1 38 i f = σ.1 38 i f ∧ τ.2 38 i f = σ.2 38 i f
theorem mf_refl (A B : List Nat) (σ : jm_G) : mf A B σ σ := ⟨fun _ _ _ _ => ⟨rfl, rfl⟩, fun _ _ _ => ⟨rfl, rfl⟩⟩
theorem mf_trans {A B : List Nat} {σ τ υ : jm_G} (h : mf A B σ τ) (k : mf A B τ υ) : mf A B σ υ := ⟨fun t i a b => ⟨(k.1 t i a b).1.trans (h.1 t i a b).1, (k.1 t i a b).2.trans (h.1 t i a b).2⟩, fun i f a => ⟨(k.2 i f a).1.trans (h.2 i f a).1, (k.2 i f a).2.trans (h.2 i f a).2⟩⟩
theorem mf_wide {A B A' B' : List Nat} {σ τ : jm_G} (h : mf A B σ τ) (h1 : ∀ t, t ∈ A → t ∈ A') (h2 : ∀ t, t ∈ B → t ∈ B') : mf A' B' σ τ := ⟨fun t i a b => h.1 t i a fun q => b (h1 t q), fun i f a => h.2 i f fun q => a (h2 f q)⟩
theorem mf_wI {A B : List Nat} {σ τ : jm_G} {t i : Nat} {f : Nat → Int32} (h : mf A B σ τ) (h1 : t ∈ A) (h2 : t ≠ 38) : mf A B σ (wI τ t i f) := ⟨fun a b q1 q2 => ⟨by rw [wI1, if_neg (fun e => q2 (by rw [e.1]; exact h1))]; exact (h.1 a b q1 q2).1, by rw [wI2]; exact (h.1 a b q1 q2).2⟩, fun a b q => ⟨by rw [wI1, if_neg (fun e => h2 e.1.symm)]; exact (h.2 a b q).1, by rw [wI2]; exact (h.2 a b q).2⟩⟩
theorem mf_wJ {A B : List Nat} {σ τ : jm_G} {t i : Nat} {f : Nat → Int64} (h : mf A B σ τ) (h1 : t ∈ A) (h2 : t ≠ 38) : mf A B σ (wJ τ t i f) := ⟨fun a b q1 q2 => ⟨by rw [wJ1]; exact (h.1 a b q1 q2).1, by rw [wJ2, if_neg (fun e => q2 (by rw [e.1]; exact h1))]; exact (h.1 a b q1 q2).2⟩, fun a b q => ⟨by rw [wJ1]; exact (h.2 a b q).1, by rw [wJ2, if_neg (fun e => h2 e.1.symm)]; exact (h.2 a b q).2⟩⟩
theorem mf_sF {A B : List Nat} {σ τ : jm_G} {k : Nat} {x : Int32} (h : mf A B σ τ) (h1 : k ∈ B) : mf A B σ (wI τ 38 0 (upd (τ.1 38 0) k x)) := ⟨fun a b q1 q2 => ⟨by rw [wI1, if_neg (fun e => q1 e.1)]; exact (h.1 a b q1 q2).1, by rw [wI2]; exact (h.1 a b q1 q2).2⟩, fun a b q => ⟨by
  rw [wI1]
  by_cases e : a = 0
  · rw [if_pos ⟨rfl, e⟩, upd_at, if_neg (fun e2 => q (by rw [e2]; exact h1)), ← (h.2 a b q).1, e]
  · rw [if_neg (fun e2 => e e2.2)]; exact (h.2 a b q).1, by rw [wI2]; exact (h.2 a b q).2⟩⟩
theorem mN_mf {N : nw} {A B : List Nat} {σ τ : jm_G} (h : mN N σ) (hm : mf A B σ τ) (h1 : ∀ t, t ∈ A → ¬ t ∈ [39, 40, 41, 42]) (h2 : ∀ t, t ∈ B → ¬ t ∈ [1, 6]) : mN N τ := by
  obtain ⟨a1, a2, a3, a4, a5, a6⟩ := h
  have e39 := hm.1 39 0 (by omega) (fun q => h1 39 q (by decide))
  have e40 := hm.1 40 0 (by omega) (fun q => h1 40 q (by decide))
  have e41 := hm.1 41 0 (by omega) (fun q => h1 41 q (by decide))
  have e42 := hm.1 42 0 (by omega) (fun q => h1 42 q (by decide))
  have f1 := (hm.2 0 1 (fun q => h2 1 q (by decide))).1
  have f6 := (hm.2 0 6 (fun q => h2 6 q (by decide))).2
  unfold mN
  rw [e39.1, e40.1, e41.1, e42.2, f1, f6]
  exact ⟨a1, a2, a3, a4, a5, a6⟩
def fN (o : Option Nat) : Int32 := match o with
  | some z => nI z
  | none => nI 1000
theorem fN_ne {o : Option Nat} (h : ∀ z, o = some z → z < 80) : fN o ≠ -(nI 1) := by
  cases o with
  | none => exact oN_none (by omega)
  | some z => exact oN_none (by have := h z rfl; omega)
def mQ (σ : jm_G) (q : Nat) (Q : Nat → Nat) (cf : Nat → Option Nat) : Prop :=
  σ.1 38 0 17 = nI q ∧ (∀ i, i < q → Q i < 80 ∧ σ.1 49 0 i = nI (Q i) ∧ σ.1 48 0 (Q i) = fN (cf (Q i)) ∧ ∀ z, cf (Q i) = some z → z < 80) ∧ one q Q ∧ ∀ x, x < 80 → (¬ ∃ i, i < q ∧ Q i = x) → σ.1 48 0 x = -(nI 1)
theorem mQ_q {σ : jm_G} {q y : Nat} {Q : Nat → Nat} {cf : Nat → Option Nat} (h : mQ σ q Q cf) (hy : y < 80) (hn : ¬ ∃ i, i < q ∧ Q i = y) : q < 80 := by
  have hn' : ∀ i, i < q → Q i ≠ y := fun i hi e => hn ⟨i, hi, e⟩
  have := fb_holes 80 (q + 1) (add1 q Q y) (fun i hi => by
    by_cases e : i = q
    · rw [e, add1_q]; exact hy
    · rw [add1_lt (by omega)]; exact (h.2.1 i (by omega)).1) (fun i j hij hj e => by
    have := one_add h.2.2.1 hn' i j (by omega) hj e
    omega)
  omega
theorem mQ_le {σ : jm_G} {q : Nat} {Q : Nat → Nat} {cf : Nat → Option Nat} (h : mQ σ q Q cf) : q ≤ 80 :=
  fb_holes 80 q Q (fun i hi => (h.2.1 i hi).1) (fun i j hij hj e => by have := h.2.2.1 i j (by omega) hj e; omega)
theorem sX_refl (q : Nat) (Q : Nat → Nat) (cf : Nat → Option Nat) (fr : Option Nat) : sX q Q cf q Q cf fr (fun _ => False) := ⟨Nat.le_refl _, fun _ _ => rfl, fun _ _ => rfl, fun i h1 h2 => absurd h2 (by omega), fun _ h => h.elim⟩
theorem sX_comp {q q1 q2 : Nat} {Q Q1 Q2 : Nat → Nat} {cf cf1 cf2 : Nat → Option Nat} {fr : Option Nat} {A B : Nat → Prop} (h : sX q Q cf q1 Q1 cf1 fr A) (k : sX q1 Q1 cf1 q2 Q2 cf2 fr B) : sX q Q cf q2 Q2 cf2 fr (fun y => A y ∨ B y) := by
  obtain ⟨h1, h2, h3, h4, h5⟩ := h
  obtain ⟨k1, k2, k3, k4, k5⟩ := k
  refine ⟨by omega, fun i hi => (k2 i (by omega)).trans (h2 i hi), fun i hi => ?_, fun i hi hi2 => ?_, fun y hy => ?_⟩
  · have := k3 i (by omega)
    rw [h2 i hi] at this
    rw [this]; exact h3 i hi
  · by_cases e : i < q1
    · have := h4 i hi e
      rw [k2 i e, k3 i e]
      exact ⟨Or.inl this.1, this.2⟩
    · have := k4 i (by omega) hi2
      exact ⟨Or.inr this.1, this.2⟩
  · rcases hy with hy | hy
    · obtain ⟨j, hj, e⟩ := h5 y hy
      exact ⟨j, by omega, by rw [k2 j hj]; exact e⟩
    · exact k5 y hy
theorem sX_iff {q q' : Nat} {Q Q' : Nat → Nat} {cf cf' : Nat → Option Nat} {fr : Option Nat} {A B : Nat → Prop} (h : sX q Q cf q' Q' cf' fr A) (e : ∀ y, A y ↔ B y) : sX q Q cf q' Q' cf' fr B := sX_w h (fun y => (e y).mp) (fun y hy => Or.inl ((e y).mpr hy))
abbrev ct_mcomes (C : jm_C) : Prop := ∀ (y q : Nat) (Q : Nat → Nat) (cf : Nat → Option Nat) (fr : Option Nat) (σ : jm_G) (post : Option jm_V → jm_G → Prop), y < 80 → (∀ z, fr = some z → z < 80) → mQ σ q Q cf →
  (∀ σ' q' Q' cf', mf [48, 49] [17] σ σ' → mQ σ' q' Q' cf' → sX q Q cf q' Q' cf' fr (fun w => w = y) → post none σ') → C kX10_comes [jR 38 0, jI (nI y), jI (fN fr)] σ post
theorem T_mcomes (L : Nat) {C : jm_C} (hC : jm_mon C) : ct_mcomes (jm_up L C) := by
  intro y q Q cf fr σ post hy hfr hQ hp
  refine jm_start rfl (Nat.le_of_ble_eq_true rfl) hC fun X hg hw => ?_
  have ey : (nI y).toNatClampNeg = y := nI_clamp (by omega)
  have hin : vp_in (nI y) 80 := vp_in_nI hy (by omega)
  obtain ⟨h17, hQ2, hd, hno⟩ := id hQ
  refine hg [] 60 _ ?_
  refine And.intro hin ?_
  by_cases hs : ∃ i, i < q ∧ Q i = y
  · obtain ⟨i, hi, e⟩ := id hs
    obtain ⟨-, -, h3, h4⟩ := hQ2 i hi
    refine br_c (fun h => ?_) (fun h => ?_)
    · have h : σ.1 48 0 (nI y).toNatClampNeg = -(nI 1) := h
      rw [ey, ← e, h3] at h
      exact absurd h (fN_ne h4)
    · exact And.intro trivial (hp σ q Q cf (mf_refl _ _ _) hQ (sX_w (sX_refl q Q cf fr) (fun _ h => h.elim) (fun w hw => Or.inr (by rw [hw]; exact hs))))
  · have hq80 := mQ_q hQ hy hs
    have hn : ∀ i, i < q → Q i ≠ y := fun i hi e => hs ⟨i, hi, e⟩
    refine br_c (fun h => ?_) (fun h => ?_)
    · refine And.intro hin ?_
      have e17 : (wI σ 48 0 (upd (σ.1 48 0) (nI y).toNatClampNeg (fN fr))).1 38 0 17 = nI q := by rw [wI1, if_neg (by omega)]; exact h17
      refine And.intro (show vp_in (σ.1 38 0 17) 80 by rw [h17]; exact vp_in_nI hq80 (by omega)) ?_
      refine And.intro trivial ?_
      refine hp _ (q + 1) (add1 q Q y) (addc cf y fr) (mf_sF (mf_wI (mf_wI (mf_refl _ _ _) (by decide) (by decide)) (by decide) (by decide)) (by decide)) ⟨?_, fun i hi => ?_, one_add hd hn, fun x hx hnx => ?_⟩ ⟨by omega, fun i hi => add1_lt hi, fun i hi => addc_n (hn i hi), fun i h1 h2 => ?_, fun w hw => ⟨q, by omega, by rw [add1_q, hw]⟩⟩
      · show upd (σ.1 38 0) 17 (σ.1 38 0 17 + nI 1) 17 = _
        rw [upd_at, if_pos rfl, h17, nI_add]
      · show _ ∧ upd (σ.1 49 0) (σ.1 38 0 17).toNatClampNeg (nI y) i = _ ∧ upd (σ.1 48 0) (nI y).toNatClampNeg (fN fr) (add1 q Q y i) = _ ∧ _
        rw [h17, nI_clamp (by omega), ey, upd_at, upd_at]
        by_cases e : i = q
        · rw [e, add1_q, if_pos rfl, if_pos rfl, addc_y]
          exact ⟨hy, rfl, rfl, hfr⟩
        · rw [add1_lt (by omega), if_neg e, if_neg (hn i (by omega)), addc_n (hn i (by omega))]
          exact hQ2 i (by omega)
      · show upd (σ.1 48 0) (nI y).toNatClampNeg (fN fr) x = _
        rw [ey, upd_at, if_neg]
        · refine hno x hx fun ⟨i, hi, e⟩ => hnx ⟨i, by omega, by rw [add1_lt hi]; exact e⟩
        · intro e
          exact hnx ⟨q, by omega, by rw [add1_q, e]⟩
      · have e : i = q := by omega
        rw [e, add1_q, addc_y]
        exact ⟨rfl, rfl⟩
    · have h : ¬ σ.1 48 0 (nI y).toNatClampNeg = -(nI 1) := h
      rw [ey] at h
      exact absurd (hno y hy hs) h
theorem c_mcomes {C : jm_C} (h : ct_mcomes C) {y q : Nat} {Q : Nat → Nat} {cf : Nat → Option Nat} {fr : Option Nat} {σ : jm_G} {post : Option jm_V → jm_G → Prop} {u v : Int32} (hu : u = nI y) (hv : v = fN fr) (hy : y < 80) (hfr : ∀ z, fr = some z → z < 80) (hQ : mQ σ q Q cf)
  (hp : ∀ σ' q' Q' cf', mf [48, 49] [17] σ σ' → mQ σ' q' Q' cf' → sX q Q cf q' Q' cf' fr (fun w => w = y) → post none σ') : C kX10_comes [jR 38 0, jI u, jI v] σ post := by
  subst hu; subst hv; exact h y q Q cf fr σ post hy hfr hQ hp
abbrev ct_mroom (C : jm_C) : Prop := ∀ (v m : Nat) (l : Nat → Nat) (σ : jm_G) (post : Option jm_V → jm_G → Prop), v < 40 → m < 2 ^ 31 → σ.1 44 0 v = nI (l v) → l v < 2 ^ 31 → post (some (jI (nI (rmV m l v)))) σ → C kX10_room [jR 38 0, jI (nI v), jI (nI m)] σ post
theorem T_mroom (L : Nat) {C : jm_C} (hC : jm_mon C) : ct_mroom (jm_up L C) := by
  intro v m l σ post hv hm h44 hl hp
  refine jm_start rfl (Nat.le_of_ble_eq_true rfl) hC fun X hg hw => ?_
  have ev : (nI v).toNatClampNeg = v := nI_clamp (by omega)
  refine hg [] 30 _ ?_
  refine And.intro (vp_in_nI hv (by omega)) ?_
  unfold rmV at hp
  refine br_c (fun h => ?_) (fun h => ?_)
  · have h : nI m ≤ σ.1 44 0 (nI v).toNatClampNeg := h
    rw [ev, h44, nI_leI (by omega) (by omega)] at h
    rw [if_neg (by omega)] at hp
    exact And.intro trivial hp
  · have h : ¬ nI m ≤ σ.1 44 0 (nI v).toNatClampNeg := h
    rw [ev, h44, nI_leI (by omega) (by omega)] at h
    rw [if_pos (by omega)] at hp
    exact And.intro trivial hp
def fR (σ : jm_G) (t : Nat → Nat) (a : Nat → Nat → Nat) : Prop := (∀ v, v < 40 → σ.1 46 0 v = nI (t v)) ∧ ∀ p k, p < 40 → k < 3 → σ.1 47 0 (3 * p + k) = nI (a p k)
theorem fR_mf {A B : List Nat} {σ τ : jm_G} {t : Nat → Nat} {a : Nat → Nat → Nat} (h : fR σ t a) (hm : mf A B σ τ) (h1 : ∀ x, x ∈ A → ¬ x ∈ [46, 47]) : fR τ t a := by
  unfold fR
  rw [(hm.1 46 0 (by omega) (fun q => h1 46 q (by decide))).1, (hm.1 47 0 (by omega) (fun q => h1 47 q (by decide))).1]
  exact h
theorem pos_0 {a : Nat} (h : a < 2 ^ 31) : nI a ≤ 0 ↔ a = 0 := by
  have : nI a ≤ nI 0 ↔ a ≤ 0 := nI_leI h (by omega)
  exact this.trans ⟨fun h => by omega, fun h => by omega⟩
theorem mN_src {N : nw} {σ : jm_G} (h : mN N σ) {u k : Nat} (hu : isG N u = true) (hk : k < 3) : σ.1 41 0 (3 * u + k) = srcI N u k := by
  rw [h.2.2.2.1 u (isG_lt hu) k hk]
  unfold sofI
  rw [if_pos hu]
theorem mN_gate {N : nw} {σ : jm_G} (hok : nw_ok N) (h : mN N σ) {u : Nat} (hu : u < nN N) : σ.1 39 0 u = nI 1 ↔ isG N u = true := by
  rw [h.2.1 u hu, nI_eq (by have := hok.2.1 u hu; omega) (by omega)]
  unfold isG
  rw [Bool.and_eq_true, decide_eq_true_eq]
  simp [hu]
abbrev ct_sprOut (C : jm_C) : Prop := ∀ (N : nw) (u q : Nat) (t : Nat → Nat) (a : Nat → Nat → Nat) (Q : Nat → Nat) (cf : Nat → Option Nat) (σ : jm_G) (post : Option jm_V → jm_G → Prop), nw_ok N → mN N σ → isG N u = true → fR σ t a → t u < 2 ^ 31 → mQ σ q Q cf →
  (∀ σ' q' Q' cf', mf [48, 49] [17] σ σ' → mQ σ' q' Q' cf' → sX q Q cf q' Q' cf' (some (40 + u)) (rmO N t u) → post none σ') → C kX10_spreadsOut [jR 38 0, jI (nI u)] σ post
theorem T_sprOut (L : Nat) {C : jm_C} (hC : jm_mon C) (h1 : ct_mcomes C) : ct_sprOut (jm_up L C) := by
  intro N u q t a Q cf σ post hok hN hgu hR ht hQ hp
  refine jm_start rfl (Nat.le_of_ble_eq_true rfl) hC fun X hg hw => ?_
  have h40 := hok.1
  have hun := isG_lt hgu
  have eu : (nI u).toNatClampNeg = u := nI_clamp (by omega)
  have hfr : ∀ z, some (40 + u) = some z → z < 80 := fun z e => by have := Option.some.inj e; omega
  have e40 : nI 40 + nI u = fN (some (40 + u)) := by rw [nI_add]; rfl
  refine hg [2] 30 _ ?_
  show X (σ, 2, [some (jR 38 0), some (jI (nI u)), some (jI (nI 0)), none], [])
  have gen : ∀ (m k : Nat), k + m = 3 → ∀ (τ : jm_G) (q' : Nat) (Q' : Nat → Nat) (cf' : Nat → Option Nat), mf [48, 49] [17] σ τ → mQ τ q' Q' cf' → sX q Q cf q' Q' cf' (some (40 + u)) (fun y => ∃ j, j < k ∧ slB N u j = true ∧ nR N u j = y) →
      X (τ, 2, [some (jR 38 0), some (jI (nI u)), some (jI (nI k)), none], []) := by
    intro m
    induction m with
    | zero =>
      intro k hkm τ q' Q' cf' hm hQ' hx
      have e : k = 3 := by omega
      subst e
      have hRt := fR_mf hR hm (by decide)
      refine hg [2] 40 _ ?_
      refine br_c (fun _ => ?_) (fun h => absurd (show nI 3 ≤ nI 3 from (nI_leI (by omega) (by omega)).mpr (Nat.le_refl _)) h)
      refine And.intro (vp_in_nI (by omega) (by omega)) ?_
      have et : τ.1 46 0 (nI u).toNatClampNeg = nI (t u) := by rw [eu]; exact hRt.1 u (by omega)
      refine br_c (fun h => ?_) (fun h => ?_)
      · have h : τ.1 46 0 (nI u).toNatClampNeg ≤ 0 := h
        rw [et, pos_0 ht] at h
        refine And.intro trivial (hp τ q' Q' cf' hm hQ' (sX_iff hx fun y => ⟨?_, ?_⟩))
        · rintro ⟨j, -, h2, h3⟩; exact Or.inl ⟨j, h2, h3⟩
        · rintro (⟨j, h2, h3⟩ | ⟨h2, -⟩)
          · exact ⟨j, (slB_lt hok h2).2.2, h2, h3⟩
          · omega
      · have h : ¬ τ.1 46 0 (nI u).toNatClampNeg ≤ 0 := h
        rw [et, pos_0 ht] at h
        refine c_mcomes h1 (y := u) rfl e40 (by omega) hfr hQ' fun σ' q2 Q2 cf2 o1 o2 o3 => ?_
        refine And.intro trivial (hp σ' q2 Q2 cf2 (mf_trans hm o1) o2 (sX_iff (sX_comp hx o3) fun y => ⟨?_, ?_⟩))
        · rintro (⟨j, -, h2, h3⟩ | h2)
          · exact Or.inl ⟨j, h2, h3⟩
          · exact Or.inr ⟨by omega, h2⟩
        · rintro (⟨j, h2, h3⟩ | ⟨-, h2⟩)
          · exact Or.inl ⟨j, (slB_lt hok h2).2.2, h2, h3⟩
          · exact Or.inr h2
    | succ m ih =>
      intro k hkm τ q' Q' cf' hm hQ' hx
      have hNt := mN_mf hN hm (by decide) (by decide)
      refine hg [2] 40 _ ?_
      refine br_c (fun h => ?_) (fun _ => ?_)
      · have h : nI 3 ≤ nI k := h
        rw [nI_leI (by omega) (by omega)] at h
        omega
      · refine And.intro (vp_in_nI (by omega) (by omega)) ?_
        refine br_c (fun _ => ?_) (fun h => ?_)
        · have es : τ.1 41 0 (nI 3 * nI u + nI k).toNatClampNeg = srcI N u k := by rw [n3I, nI_clamp (by omega)]; exact mN_src hNt hgu (by omega)
          refine And.intro (show vp_in (nI 3 * nI u + nI k) 120 by rw [n3I]; exact vp_in_nI (by omega) (by omega)) ?_
          unfold srcI at es
          by_cases hk : k < ar (nK N u)
          · rw [if_pos hk] at es
            have hr := nR_lt hok hgu hk
            refine br_c (fun h => ?_) (fun _ => ?_)
            · have h : τ.1 41 0 (nI 3 * nI u + nI k).toNatClampNeg < 0 := h
              rw [es] at h
              exact absurd h (nI_pos (by omega))
            · refine c_mcomes h1 (y := nR N u k) es e40 (by omega) hfr hQ' fun σ' q2 Q2 cf2 o1 o2 o3 => ?_
              refine hw _ _ _ [some (jR 38 0), some (jI (nI u)), some (jI (nI k + nI 1)), none] _ (by repeat' first | exact trivial | exact rfl | apply And.intro) ?_
              rw [nI_add]
              refine ih (k + 1) (by omega) σ' q2 Q2 cf2 (mf_trans hm o1) o2 (sX_iff (sX_comp hx o3) fun y => ⟨?_, ?_⟩)
              · rintro (⟨j, h0, h2, h3⟩ | h2)
                · exact ⟨j, by omega, h2, h3⟩
                · exact ⟨k, by omega, slB_iff.mpr ⟨hgu, hk⟩, h2.symm⟩
              · rintro ⟨j, h0, h2, h3⟩
                by_cases e : j = k
                · subst e; exact Or.inr h3.symm
                · exact Or.inl ⟨j, by omega, h2, h3⟩
          · rw [if_neg hk] at es
            refine br_c (fun _ => ?_) (fun h => ?_)
            · refine hw _ _ _ [some (jR 38 0), some (jI (nI u)), some (jI (nI k + nI 1)), none] _ (by repeat' first | exact trivial | exact rfl | apply And.intro) ?_
              rw [nI_add]
              refine ih (k + 1) (by omega) τ q' Q' cf' hm hQ' (sX_iff hx fun y => ⟨?_, ?_⟩)
              · rintro ⟨j, h0, h2, h3⟩; exact ⟨j, by omega, h2, h3⟩
              · rintro ⟨j, h0, h2, h3⟩
                by_cases e : j = k
                · subst e; exact absurd (slB_iff.mp h2).2 hk
                · exact ⟨j, by omega, h2, h3⟩
            · have h : ¬ τ.1 41 0 (nI 3 * nI u + nI k).toNatClampNeg < 0 := h
              rw [es] at h
              exact absurd m1_neg h
        · have h : ¬ τ.1 39 0 (nI u).toNatClampNeg = nI 1 := h
          rw [eu, mN_gate hok hNt hun] at h
          exact absurd hgu h
  exact gen 3 0 (by omega) σ q Q cf (mf_refl _ _ _) hQ (sX_iff (sX_refl q Q cf _) fun y => ⟨fun h => h.elim, fun ⟨j, h, _⟩ => absurd h (by omega)⟩)
end
section
/-! the model's search: spreadsIn, spreads -/
def inS (N : nw) (g : Nat) : Nat := nB N g ||| 2 ^ g
theorem inS_bit (N : nw) (g v : Nat) : (inS N g).testBit v = true ↔ iN N g v := by
  unfold inS iN
  rw [or_bit, Bool.or_eq_true, decide_eq_true_eq]
  exact Or.comm
abbrev ct_sprIn (C : jm_C) : Prop := ∀ (N : nw) (g m x q : Nat) (l t : Nat → Nat) (a : Nat → Nat → Nat) (Q : Nat → Nat) (cf : Nat → Option Nat) (σ : jm_G) (post : Option jm_V → jm_G → Prop), nw_ok N → mN N σ → g < 40 → x < 40 → m < 2 ^ 31 → σ.1 44 0 x = nI (l x) → l x < 2 ^ 31 → fR σ t a → (∀ v, t v < 2 ^ 31) → (∀ p k, a p k < 2 ^ 31) → mQ σ q Q cf →
  (∀ σ' q' Q' cf', mf [48, 49] [17] σ σ' → mQ σ' q' Q' cf' → sX q Q cf q' Q' cf' (some x) (rmI N g m l t a x) → post none σ') → C kX10_spreadsIn [jR 38 0, jI (nI x), jJ (lN (inS N g)), jI (nI m)] σ post
theorem T_sprIn (L : Nat) {C : jm_C} (hC : jm_mon C) (h1 : ct_mcomes C) (h2 : ct_mroom C) (h3 : ct_mhas C) : ct_sprIn (jm_up L C) := by
  intro N g m x q l t a Q cf σ post hok hN hg4 hx4 hm h44 hlx hR ht ha hQ hp
  refine jm_start rfl (Nat.le_of_ble_eq_true rfl) hC fun X hg hw => ?_
  have h40 := hok.1
  have ex : (nI x).toNatClampNeg = x := nI_clamp (by omega)
  have hfr : ∀ z, some x = some z → z < 80 := fun z e => by have := Option.some.inj e; omega
  have hSl : inS N g < 2 ^ 40 := or_lt (nB_lt40 hok g) (pw_lt hg4)
  -- all nodes, and of one node so many sources
  have gen : ∀ (d p : Nat), p + d = nN N → ∀ (τ : jm_G) (q' : Nat) (Q' : Nat → Nat) (cf' : Nat → Option Nat), mf [48, 49] [17] σ τ → mQ τ q' Q' cf' → sX q Q cf q' Q' cf' (some x) (fun y => (y = 40 + x ∧ t x < rmV m l x) ∨ ∃ p' k, p' < p ∧ y = 40 + p' ∧ iN N g p' ∧ slB N p' k = true ∧ nR N p' k = x ∧ 0 < a p' k) →
      X (τ, 28, [some (jR 38 0), some (jI (nI x)), some (jJ (lN (inS N g))), none, some (jI (nI m)), some (jI (nI p)), none], []) := by
    intro d
    induction d with
    | zero =>
      intro p hpd τ q' Q' cf' hm9 hQ' hx
      have hNt := mN_mf hN hm9 (by decide) (by decide)
      refine hg [28, 40] 40 _ ?_
      refine br_c (fun _ => ?_) (fun h => ?_)
      · refine And.intro trivial (hp τ q' Q' cf' hm9 hQ' (sX_iff hx fun y => ⟨?_, ?_⟩))
        · rintro (h | ⟨p', k, -, h⟩)
          · exact Or.inl h
          · exact Or.inr ⟨p', k, h⟩
        · rintro (h | ⟨p', k, h⟩)
          · exact Or.inl h
          · exact Or.inr ⟨p', k, by have := isG_lt (slB_iff.mp h.2.2.1).1; omega, h⟩
      · have h : ¬ τ.1 38 0 1 ≤ nI p := h
        rw [hNt.1, nI_leI (by omega) (by omega)] at h
        omega
    | succ d ih =>
      intro p hpd τ q' Q' cf' hm9 hQ' hx
      have hNt := mN_mf hN hm9 (by decide) (by decide)
      refine hg [28, 40] 40 _ ?_
      refine br_c (fun h => ?_) (fun _ => ?_)
      · have h : τ.1 38 0 1 ≤ nI p := h
        rw [hNt.1, nI_leI (by omega) (by omega)] at h
        omega
      · show X (τ, 40, [some (jR 38 0), some (jI (nI x)), some (jJ (lN (inS N g))), none, some (jI (nI m)), some (jI (nI p)), some (jI (nI 0))], [])
        -- the next node
        have nx : ∀ (k : Nat) (υ : jm_G) (q' : Nat) (Q' : Nat → Nat) (cf' : Nat → Option Nat), mf [48, 49] [17] σ υ → mQ υ q' Q' cf' → sX q Q cf q' Q' cf' (some x) (fun y => (y = 40 + x ∧ t x < rmV m l x) ∨ ∃ p' k, p' < p + 1 ∧ y = 40 + p' ∧ iN N g p' ∧ slB N p' k = true ∧ nR N p' k = x ∧ 0 < a p' k) →
            X (υ, 28, [some (jR 38 0), some (jI (nI x)), some (jJ (lN (inS N g))), none, some (jI (nI m)), some (jI (nI p + nI 1)), some (jI (nI k))], []) := by
          intro k υ q' Q' cf' q1 q2 q3
          refine hw _ _ _ [some (jR 38 0), some (jI (nI x)), some (jJ (lN (inS N g))), none, some (jI (nI m)), some (jI (nI p + nI 1)), none] _ (by repeat' first | exact trivial | exact rfl | apply And.intro) ?_
          rw [nI_add]
          exact ih (p + 1) (by omega) υ q' Q' cf' q1 q2 q3
        have inner : ∀ (e k : Nat), k + e = 3 → ∀ (υ : jm_G) (q' : Nat) (Q' : Nat → Nat) (cf' : Nat → Option Nat), mf [48, 49] [17] σ υ → mQ υ q' Q' cf' → sX q Q cf q' Q' cf' (some x) (fun y => (y = 40 + x ∧ t x < rmV m l x) ∨ ∃ p' k', (p' < p ∨ (p' = p ∧ k' < k)) ∧ y = 40 + p' ∧ iN N g p' ∧ slB N p' k' = true ∧ nR N p' k' = x ∧ 0 < a p' k') →
            X (υ, 40, [some (jR 38 0), some (jI (nI x)), some (jJ (lN (inS N g))), none, some (jI (nI m)), some (jI (nI p)), some (jI (nI k))], []) := by
          intro e
          induction e with
          | zero =>
            intro k hke υ q' Q' cf' q1 q2 q3
            refine hg [28, 40] 40 _ ?_
            refine br_c (fun _ => ?_) (fun h => ?_)
            · refine nx k υ q' Q' cf' q1 q2 (sX_iff q3 fun y => ⟨?_, ?_⟩)
              · rintro (h | ⟨p', k', h0, h⟩)
                · exact Or.inl h
                · exact Or.inr ⟨p', k', by omega, h⟩
              · rintro (h | ⟨p', k', h0, h⟩)
                · exact Or.inl h
                · exact Or.inr ⟨p', k', by have := (slB_lt hok h.2.2.1).2.2; omega, h⟩
            · have h : ¬ nI 3 ≤ nI k := h
              rw [nI_leI (by omega) (by omega)] at h
              omega
          | succ e ihe =>
            intro k hke υ q' Q' cf' q1 q2 q3
            have hNu := mN_mf hN q1 (by decide) (by decide)
            have hRu := fR_mf hR q1 (by decide)
            have ep : (nI p).toNatClampNeg = p := nI_clamp (by omega)
            refine hg [28, 40] 60 _ ?_
            refine br_c (fun h => ?_) (fun _ => ?_)
            · have h : nI 3 ≤ nI k := h
              rw [nI_leI (by omega) (by omega)] at h
              omega
            · refine h3 (inS N g) p υ _ (p40 hSl) (by omega) ?_
              -- a node without such sources
              have skip : (¬ (iN N g p ∧ isG N p = true)) → X (υ, 28, [some (jR 38 0), some (jI (nI x)), some (jJ (lN (inS N g))), none, some (jI (nI m)), some (jI (nI p + nI 1)), some (jI (nI k))], []) := by
                intro hno
                refine nx k υ q' Q' cf' q1 q2 (sX_iff q3 fun y => ⟨?_, ?_⟩)
                · rintro (h | ⟨p', k', h0, h⟩)
                  · exact Or.inl h
                  · exact Or.inr ⟨p', k', by omega, h⟩
                · rintro (h | ⟨p', k', h0, h⟩)
                  · exact Or.inl h
                  · refine Or.inr ⟨p', k', ?_, h⟩
                    by_cases e2 : p' = p
                    · subst e2; exact absurd ⟨h.2.1, (slB_iff.mp h.2.2.1).1⟩ hno
                    · exact Or.inl (by omega)
              refine br_c (fun h => ?_) (fun h => ?_)
              · have h := bI_0.mp h
                exact skip fun q => by rw [(inS_bit N g p).mpr q.1] at h; cases h
              · have h := bI_n0.mp h
                have hpI := (inS_bit N g p).mp h
                refine And.intro (vp_in_nI (by omega) (by omega)) ?_
                refine br_c (fun h4 => ?_) (fun h4 => ?_)
                · have h4 : υ.1 39 0 (nI p).toNatClampNeg = nI 1 := h4
                  rw [ep, mN_gate hok hNu (by omega)] at h4
                  have hin : vp_in (nI 3 * nI p + nI k) 120 := by rw [n3I]; exact vp_in_nI (by omega) (by omega)
                  have es : υ.1 41 0 (nI 3 * nI p + nI k).toNatClampNeg = srcI N p k := by rw [n3I, nI_clamp (by omega)]; exact mN_src hNu h4 (by omega)
                  have ea : υ.1 47 0 (nI 3 * nI p + nI k).toNatClampNeg = nI (a p k) := by rw [n3I, nI_clamp (by omega)]; exact hRu.2 p k (by omega) (by omega)
                  have hsrc : srcI N p k = nI x ↔ (slB N p k = true ∧ nR N p k = x) := by
                    unfold srcI
                    by_cases hk : k < ar (nK N p)
                    · have := nR_lt hok h4 hk
                      rw [if_pos hk, nI_eq (by omega) (by omega)]
                      exact ⟨fun q => ⟨slB_iff.mpr ⟨h4, hk⟩, q⟩, fun q => q.2⟩
                    · rw [if_neg hk]
                      exact ⟨fun q => absurd q.symm (oN_none (by omega)), fun q => absurd (slB_iff.mp q.1).2 hk⟩
                  have stay : ¬ (slB N p k = true ∧ nR N p k = x ∧ 0 < a p k) → X (υ, 40, [some (jR 38 0), some (jI (nI x)), some (jJ (lN (inS N g))), none, some (jI (nI m)), some (jI (nI p)), some (jI (nI k + nI 1))], []) := by
                    intro hno
                    rw [nI_add]
                    refine ihe (k + 1) (by omega) υ q' Q' cf' q1 q2 (sX_iff q3 fun y => ⟨?_, ?_⟩)
                    · rintro (h | ⟨p', k', h0, h⟩)
                      · exact Or.inl h
                      · exact Or.inr ⟨p', k', by omega, h⟩
                    · rintro (h | ⟨p', k', h0, hh⟩)
                      · exact Or.inl h
                      · refine Or.inr ⟨p', k', ?_, hh⟩
                        by_cases e2 : p' = p ∧ k' = k
                        · rw [e2.1, e2.2] at hh; exact absurd hh.2.2 hno
                        · omega
                  refine And.intro hin ?_
                  refine br_c (fun h5 => ?_) (fun h5 => ?_)
                  · have h5 : υ.1 41 0 (nI 3 * nI p + nI k).toNatClampNeg = nI x := h5
                    rw [es, hsrc] at h5
                    refine And.intro hin ?_
                    refine br_c (fun h6 => ?_) (fun h6 => ?_)
                    · have h6 : υ.1 47 0 (nI 3 * nI p + nI k).toNatClampNeg ≤ 0 := h6
                      rw [ea, pos_0 (ha p k)] at h6
                      exact stay fun q => by omega
                    · have h6 : ¬ υ.1 47 0 (nI 3 * nI p + nI k).toNatClampNeg ≤ 0 := h6
                      rw [ea, pos_0 (ha p k)] at h6
                      refine c_mcomes h1 (y := 40 + p) (nI_add 40 p) (show nI x = fN (some x) from rfl) (by omega) hfr q2 fun σ' q3' Q3 cf3 o1 o2 o3 => ?_
                      show X (σ', 40, [some (jR 38 0), some (jI (nI x)), some (jJ (lN (inS N g))), none, some (jI (nI m)), some (jI (nI p)), some (jI (nI k + nI 1))], [])
                      rw [nI_add]
                      refine ihe (k + 1) (by omega) σ' q3' Q3 cf3 (mf_trans q1 o1) o2 (sX_iff (sX_comp q3 o3) fun y => ⟨?_, ?_⟩)
                      · rintro ((h | ⟨p', k', h0, h⟩) | h)
                        · exact Or.inl h
                        · exact Or.inr ⟨p', k', by omega, h⟩
                        · exact Or.inr ⟨p, k, Or.inr ⟨rfl, by omega⟩, h, hpI, h5.1, h5.2, by omega⟩
                      · rintro (h | ⟨p', k', h0, hh⟩)
                        · exact Or.inl (Or.inl h)
                        · by_cases e2 : p' = p ∧ k' = k
                          · rw [e2.1, e2.2] at hh; exact Or.inr hh.1
                          · exact Or.inl (Or.inr ⟨p', k', by omega, hh⟩)
                  · have h5 : ¬ υ.1 41 0 (nI 3 * nI p + nI k).toNatClampNeg = nI x := h5
                    rw [es, hsrc] at h5
                    exact stay fun q => h5 ⟨q.1, q.2.1⟩
                · have h4 : ¬ υ.1 39 0 (nI p).toNatClampNeg = nI 1 := h4
                  rw [ep, mN_gate hok hNu (by omega)] at h4
                  exact skip fun q => h4 q.2
        refine inner 3 0 (by omega) τ q' Q' cf' hm9 hQ' (sX_iff hx fun y => ⟨?_, ?_⟩)
        · rintro (h | ⟨p', k, h0, h⟩)
          · exact Or.inl h
          · exact Or.inr ⟨p', k, Or.inl h0, h⟩
        · rintro (h | ⟨p', k, h0, h⟩)
          · exact Or.inl h
          · exact Or.inr ⟨p', k, by omega, h⟩
  have start : ∀ (τ : jm_G) (q' : Nat) (Q' : Nat → Nat) (cf' : Nat → Option Nat), mf [48, 49] [17] σ τ → mQ τ q' Q' cf' → sX q Q cf q' Q' cf' (some x) (fun y => y = 40 + x ∧ t x < rmV m l x) → X (τ, 28, [some (jR 38 0), some (jI (nI x)), some (jJ (lN (inS N g))), none, some (jI (nI m)), some (jI (nI 0)), none], []) := by
    intro τ q' Q' cf' q1 q2 q3
    refine gen (nN N) 0 (by omega) τ q' Q' cf' q1 q2 (sX_iff q3 fun y => ⟨Or.inl, ?_⟩)
    rintro (h | ⟨p', k, h0, -⟩)
    · exact h
    · omega
  refine hg [28, 40] 40 _ ?_
  refine And.intro (vp_in_nI hx4 (by omega)) ?_
  refine h2 x m l σ _ hx4 hm h44 hlx ?_
  have hrm : rmV m l x < 2 ^ 31 := by unfold rmV; split <;> omega
  have et : σ.1 46 0 (nI x).toNatClampNeg = nI (t x) := by rw [ex]; exact hR.1 x hx4
  refine br_c (fun h => ?_) (fun h => ?_)
  · have h : nI (rmV m l x) ≤ σ.1 46 0 (nI x).toNatClampNeg := h
    rw [et, nI_leI hrm (ht x)] at h
    exact start σ q Q cf (mf_refl _ _ _) hQ (sX_iff (sX_refl q Q cf _) fun y => ⟨fun h => h.elim, fun h => by omega⟩)
  · have h : ¬ nI (rmV m l x) ≤ σ.1 46 0 (nI x).toNatClampNeg := h
    rw [et, nI_leI hrm (ht x)] at h
    refine c_mcomes h1 (y := 40 + x) (nI_add 40 x) (show nI x = fN (some x) from rfl) (by omega) hfr hQ fun σ' q3' Q3 cf3 o1 o2 o3 => ?_
    exact start σ' q3' Q3 cf3 o1 o2 (sX_iff o3 fun y => ⟨fun e => ⟨e, by omega⟩, fun e => e.1⟩)
end
section
/-! the model's search: spreads -/
theorem c_sprOut {C : jm_C} (h : ct_sprOut C) {N : nw} {u q : Nat} {t : Nat → Nat} {a : Nat → Nat → Nat} {Q : Nat → Nat} {cf : Nat → Option Nat} {σ : jm_G} {post : Option jm_V → jm_G → Prop} {x : Int32} (hx : x = nI u) (hok : nw_ok N) (hN : mN N σ) (hu : isG N u = true) (hR : fR σ t a) (ht : t u < 2 ^ 31) (hQ : mQ σ q Q cf)
  (hp : ∀ σ' q' Q' cf', mf [48, 49] [17] σ σ' → mQ σ' q' Q' cf' → sX q Q cf q' Q' cf' (some (40 + u)) (rmO N t u) → post none σ') : C kX10_spreadsOut [jR 38 0, jI x] σ post := by
  subst hx; exact h N u q t a Q cf σ post hok hN hu hR ht hQ hp
theorem c_sprIn {C : jm_C} (h : ct_sprIn C) {N : nw} {g m x q : Nat} {l t : Nat → Nat} {a : Nat → Nat → Nat} {Q : Nat → Nat} {cf : Nat → Option Nat} {σ : jm_G} {post : Option jm_V → jm_G → Prop} {z : Int32} (hz : z = nI x) (hok : nw_ok N) (hN : mN N σ) (hg4 : g < 40) (hx4 : x < 40) (hm : m < 2 ^ 31) (h44 : σ.1 44 0 x = nI (l x)) (hl : l x < 2 ^ 31) (hR : fR σ t a) (ht : ∀ v, t v < 2 ^ 31) (ha : ∀ p k, a p k < 2 ^ 31) (hQ : mQ σ q Q cf)
  (hp : ∀ σ' q' Q' cf', mf [48, 49] [17] σ σ' → mQ σ' q' Q' cf' → sX q Q cf q' Q' cf' (some x) (rmI N g m l t a x) → post none σ') : C kX10_spreadsIn [jR 38 0, jI z, jJ (lN (inS N g)), jI (nI m)] σ post := by
  subst hz; exact h N g m x q l t a Q cf σ post hok hN hg4 hx4 hm h44 hl hR ht ha hQ hp
theorem bM_start {N : nw} {g m : Nat} {l t : Nat → Nat} {a : Nat → Nat → Nat} {Q Q' : Nat → Nat} {q' : Nat} {cf cf' : Nat → Option Nat} (hg : g < 40) (hd : one q' Q') (hx : sX 0 Q cf q' Q' cf' none (fun w => w = 40 + g)) : bM N g m l t a Q' q' 0 cf' := by
  obtain ⟨-, -, -, h4, h5⟩ := hx
  obtain ⟨j, hj, e⟩ := h5 _ rfl
  refine ⟨⟨hd, fun i hi => Or.inl ⟨(h4 i (by omega) hi).2, (h4 i (by omega) hi).1⟩⟩, ⟨by omega, (h4 0 (by omega) (by omega)).1⟩, Nat.zero_le _, fun i hi => ?_, fun i hi => absurd hi (by omega)⟩
  refine Or.inr ?_
  rw [(h4 i (by omega) hi).1]
  exact ⟨by omega, by omega, Or.inl (by omega)⟩
abbrev ct_spreads (C : jm_C) : Prop := ∀ (N : nw) (g m F : Nat) (l t : Nat → Nat) (a : Nat → Nat → Nat) (σ : jm_G) (post : Option jm_V → jm_G → Prop), nw_ok N → mN N σ → isG N g = true → m < 2 ^ 31 → (∀ v, (nB N g).testBit v = true → σ.1 44 0 v = nI (l v) ∧ l v < 2 ^ 31) → fR σ t a → mF N g m l t a F → F < 1000 →
  (∀ σ' q Q cf, mf [48, 49] [17] σ σ' → mQ σ' q Q cf → bM N g m l t a Q q q cf → post (some (jI (-(nI 1)))) σ') →
  (∀ σ' q p Q cf leaf, mf [48, 49] [17] σ σ' → mQ σ' q Q cf → bM N g m l t a Q q p cf → p < q → Q p = 40 + leaf → isG N leaf = false → leaf < 40 → post (some (jI (nI (40 + leaf)))) σ') → C kX10_spreads [jR 38 0, jI (nI g), jI (nI m)] σ post
theorem T_spreads (L : Nat) {C : jm_C} (hC : jm_mon C) (h1 : ct_mcomes C) (h2 : ct_sprOut C) (h3 : ct_sprIn C) : ct_spreads (jm_up L C) := by
  intro N g m F l t a σ post hok hN hgt hm hl hR hF hF4 hp1 hp2
  refine jm_start rfl (Nat.le_of_ble_eq_true rfl) hC fun X hg hw => ?_
  have h40 := hok.1
  have hgn := isG_lt hgt
  have hg4 : g < 40 := by omega
  have eg : (nI g).toNatClampNeg = g := nI_clamp (by omega)
  have ht : ∀ v, t v < 2 ^ 31 := fun v => by have := hF.2.2.2.2.2.2.1 v; omega
  have ha : ∀ p k, a p k < 2 ^ 31 := fun p k => by have := hF.2.2.2.2.2.2.2 p k; omega
  -- the search
  have srch : ∀ (d p : Nat), p + d = 81 → ∀ (τ : jm_G) (q : Nat) (Q : Nat → Nat) (cf : Nat → Option Nat), mf [48, 49] [17] σ τ → mQ τ q Q cf → bM N g m l t a Q q p cf →
      X (τ, 51, [some (jR 38 0), some (jI (nI g)), some (jI (nI m)), some (jJ (lN (inS N g))), none, some (jI (nI p)), none], []) := by
    intro d
    induction d with
    | zero =>
      intro p hpd τ q Q cf _ hQ hb
      have := mQ_le hQ
      have := hb.2.2.1
      omega
    | succ d ih =>
      intro p hpd τ q Q cf hf hQ hb
      have hq80 := mQ_le hQ
      have hpq := hb.2.2.1
      have hNt := mN_mf hN hf (by decide) (by decide)
      have hRt := fR_mf hR hf (by decide)
      refine hg [51] 80 _ ?_
      refine br_c (fun h => ?_) (fun h => ?_)
      · have h : τ.1 38 0 17 ≤ nI p := h
        rw [hQ.1, nI_leI (by omega) (by omega)] at h
        have e : p = q := by omega
        subst e
        exact And.intro trivial (hp1 τ p Q cf hf hQ hb)
      · have h : ¬ τ.1 38 0 17 ≤ nI p := h
        rw [hQ.1, nI_leI (by omega) (by omega)] at h
        have hpq' : p < q := by omega
        obtain ⟨hQ80, hQp, -, -⟩ := hQ.2.1 p hpq'
        have hend : τ.1 49 0 (nI p).toNatClampNeg = nI (Q p) := by rw [nI_clamp (by omega)]; exact hQp
        have hev := hb.2.2.2.1 p hpq'
        refine And.intro (vp_in_nI (by omega) (by omega)) ?_
        have nx : ∀ (υ : jm_G) (q' : Nat) (Q' : Nat → Nat) (cf' : Nat → Option Nat) (w : Int32), mf [48, 49] [17] τ υ → mQ υ q' Q' cf' → sX q Q cf q' Q' cf' (some (Q p)) (rMs N g m l t a (Q p)) → (∀ u, Q p = 40 + u → isG N u = true) →
            X (υ, 51, [some (jR 38 0), some (jI (nI g)), some (jI (nI m)), some (jJ (lN (inS N g))), none, some (jI (nI p + nI 1)), some (jI w)], []) := by
          intro υ q' Q' cf' w q1 q2 q3 q4
          refine hw _ _ _ [some (jR 38 0), some (jI (nI g)), some (jI (nI m)), some (jJ (lN (inS N g))), none, some (jI (nI p + nI 1)), none] _ (by repeat' first | exact trivial | exact rfl | apply And.intro) ?_
          rw [nI_add]
          exact ih (p + 1) (by omega) υ q' Q' cf' (mf_trans hf q1) q2 (bM_step hok hg4 hF hb hpq' q2.2.2.1 q3 q4)
        by_cases hx4 : Q p < 40
        · have hlt : τ.1 49 0 (nI p).toNatClampNeg < nI 40 := by rw [hend]; exact (nI_ltI (by omega) (by omega)).mpr hx4
          have hxI : iN N g (Q p) := by
            rcases hev with ⟨-, q1⟩ | ⟨q1, -⟩
            · exact q1
            · omega
          refine br_c (fun _ => ?_) (fun h => absurd hlt h)
          refine br_c (fun _ => ?_) (fun h => absurd hlt h)
          refine br_c (fun h => ?_) (fun h => ?_)
          · have h : τ.1 49 0 (nI p).toNatClampNeg = nI g := h
            rw [hend, nI_eq (by omega) (by omega)] at h
            refine nx τ q Q cf _ (mf_refl _ _ _) hQ (sX_iff (sX_refl q Q cf _) fun y => ⟨fun h => h.elim, ?_⟩) (fun u e => by omega)
            rintro (⟨u, e, -⟩ | ⟨-, e, -⟩)
            · omega
            · exact e h
          · have h : ¬ τ.1 49 0 (nI p).toNatClampNeg = nI g := h
            rw [hend, nI_eq (by omega) (by omega)] at h
            have hxB : (nB N g).testBit (Q p) = true := hxI.resolve_left h
            obtain ⟨l1, l2⟩ := hl _ hxB
            refine c_sprIn h3 hend hok hNt hg4 hx4 hm (by rw [(hf.1 44 0 (by omega) (by decide)).1]; exact l1) l2 hRt ht ha hQ fun υ q' Q' cf' o1 o2 o3 => ?_
            refine nx υ q' Q' cf' _ o1 o2 (sX_iff o3 fun y => ⟨fun e => Or.inr ⟨hx4, h, e⟩, ?_⟩) (fun u e => by omega)
            rintro (⟨u, e, -⟩ | ⟨-, -, e⟩)
            · omega
            · exact e
        · have hnlt : ¬ τ.1 49 0 (nI p).toNatClampNeg < nI 40 := by rw [hend, nI_ltI (by omega) (by omega)]; omega
          have hsub : τ.1 49 0 (nI p).toNatClampNeg - nI 40 = nI (Q p - 40) := by rw [hend, pk_sub (by omega)]
          have hxI : iN N g (Q p - 40) := by
            rcases hev with ⟨q1, -⟩ | ⟨-, -, q1⟩
            · omega
            · exact q1
          have hxn : Q p - 40 < nN N := by
            rcases hxI with e | e
            · omega
            · exact nB_lt_n hok e
          refine br_c (fun h => absurd h hnlt) (fun _ => ?_)
          refine And.intro (show vp_in (τ.1 49 0 (nI p).toNatClampNeg - nI 40) 40 by rw [hsub]; exact vp_in_nI (by omega) (by omega)) ?_
          refine br_c (fun h => ?_) (fun h => ?_)
          · have h : τ.1 39 0 (τ.1 49 0 (nI p).toNatClampNeg - nI 40).toNatClampNeg = nI 1 := h
            rw [hsub, nI_clamp (by omega), mN_gate hok hNt hxn] at h
            refine br_c (fun h => absurd h hnlt) (fun _ => ?_)
            refine c_sprOut h2 hsub hok hNt h hRt (ht _) hQ fun υ q' Q' cf' o1 o2 o3 => ?_
            rw [show 40 + (Q p - 40) = Q p by omega] at o3
            refine nx υ q' Q' cf' _ o1 o2 (sX_iff o3 fun y => ⟨fun e => Or.inl ⟨Q p - 40, by omega, h, e⟩, ?_⟩) (fun u e => by rw [show u = Q p - 40 by omega]; exact h)
            rintro (⟨u, e, -, e2⟩ | ⟨e, -⟩)
            · rw [show Q p - 40 = u by omega]; exact e2
            · omega
          · have h : ¬ τ.1 39 0 (τ.1 49 0 (nI p).toNatClampNeg - nI 40).toNatClampNeg = nI 1 := h
            rw [hsub, nI_clamp (by omega), mN_gate hok hNt hxn] at h
            refine And.intro trivial ?_
            show post (some (jI (τ.1 49 0 (nI p).toNatClampNeg))) τ
            rw [hend, show Q p = 40 + (Q p - 40) by omega]
            exact hp2 τ q p Q cf (Q p - 40) hf hQ hb hpq' (by omega) (by simpa using h) (by omega)
  -- nothing is come to
  refine hg [2] 30 _ ?_
  show X (σ, 2, [some (jR 38 0), some (jI (nI g)), some (jI (nI m)), some (jI (nI 0)), none, none, none], [])
  have clr : ∀ (d k : Nat), k + d = 80 → ∀ (τ : jm_G), mf [48, 49] [17] σ τ → (∀ x, x < k → τ.1 48 0 x = -(nI 1)) →
      X (τ, 2, [some (jR 38 0), some (jI (nI g)), some (jI (nI m)), some (jI (nI k)), none, none, none], []) := by
    intro d
    induction d with
    | zero =>
      intro k hkd τ hf hno
      have e : k = 80 := by omega
      subst e
      have hNt := mN_mf hN hf (by decide) (by decide)
      refine hg [2, 51] 60 _ ?_
      refine br_c (fun _ => ?_) (fun h => absurd (show nI 80 ≤ nI 80 from (nI_leI (by omega) (by omega)).mpr (Nat.le_refl _)) h)
      refine And.intro (vp_in_nI (by omega) (by omega)) ?_
      refine c_mcomes h1 (y := 40 + g) (q := 0) (Q := fun _ => 0) (cf := fun _ => none) (fr := none) (nI_add 40 g) rfl (by omega) (fun z e => by cases e) ⟨?_, fun i hi => absurd hi (by omega), fun i j hi => absurd hi (by omega), fun x hx _ => ?_⟩ fun υ q' Q' cf' o1 o2 o3 => ?_
      · show upd (τ.1 38 0) 17 (nI 0) 17 = _
        rw [upd_at, if_pos rfl]
      · show τ.1 48 0 x = _
        exact hno x hx
      · have ein : τ.2 42 0 (nI g).toNatClampNeg ||| (lN 1 <<< ((nI g).toInt64 &&& 63)) = lN (inS N g) := by
          rw [eg, hNt.2.2.2.2.1 g hgn, lN_shl1 (by omega), fb_orL]
          rfl
        show X (υ, 51, [some (jR 38 0), some (jI (nI g)), some (jI (nI m)), some (jJ (τ.2 42 0 (nI g).toNatClampNeg ||| (lN 1 <<< ((nI g).toInt64 &&& 63)))), none, some (jI (nI 0)), none], [])
        rw [ein]
        exact srch 81 0 (by omega) υ q' Q' cf' (mf_trans (mf_sF hf (by decide)) o1) o2 (bM_start hg4 o2.2.2.1 o3)
    | succ d ih =>
      intro k hkd τ hf hno
      refine hg [2, 51] 40 _ ?_
      refine br_c (fun h => ?_) (fun _ => ?_)
      · have h : nI 80 ≤ nI k := h
        rw [nI_leI (by omega) (by omega)] at h
        omega
      · refine And.intro (vp_in_nI (by omega) (by omega)) ?_
        show X (wI τ 48 0 (upd (τ.1 48 0) (nI k).toNatClampNeg (-(nI 1))), 2, [some (jR 38 0), some (jI (nI g)), some (jI (nI m)), some (jI (nI k + nI 1)), none, none, none], [])
        rw [nI_add, nI_clamp (by omega)]
        refine ih (k + 1) (by omega) _ (mf_wI hf (by decide) (by decide)) fun x hx => ?_
        rw [wI1, if_pos ⟨rfl, rfl⟩, upd_at]
        by_cases e : x = k
        · rw [if_pos e]
        · rw [if_neg e]; exact hno x (by omega)
  exact clr 80 0 (by omega) σ (mf_refl _ _ _) (fun x hx => absurd hx (by omega))
end
section
/-! the model's flow: slotOf, flows -/
abbrev ct_slotOf (C : jm_C) : Prop := ∀ (N : nw) (u x : Nat) (b : Bool) (t : Nat → Nat) (a : Nat → Nat → Nat) (σ : jm_G) (post : Option jm_V → jm_G → Prop), nw_ok N → mN N σ → isG N u = true → x < 40 → fR σ t a → (∀ p k, a p k < 2 ^ 31) → (∃ k, slB N u k = true ∧ nR N u k = x ∧ (b = true → 0 < a u k)) →
  (∀ k, slB N u k = true → nR N u k = x → (b = true → 0 < a u k) → post (some (jI (nI (3 * u + k)))) σ) → C kX10_slotOf [jR 38 0, jI (nI u), jI (nI x), jI (bI b)] σ post
theorem T_slotOf (L : Nat) {C : jm_C} (hC : jm_mon C) : ct_slotOf (jm_up L C) := by
  intro N u x b t a σ post hok hN hu hx4 hR ha hex hp
  refine jm_start rfl (Nat.le_of_ble_eq_true rfl) hC fun X hg hw => ?_
  have h40 := hok.1
  have hun := isG_lt hu
  refine hg [3] 30 _ ?_
  show X (σ, 3, [some (jR 38 0), some (jI (nI u)), some (jI (nI x)), some (jI (bI b)), some (jI (nI 0))], [])
  have gen : ∀ (d k : Nat), k + d = 3 → (∃ k', k ≤ k' ∧ slB N u k' = true ∧ nR N u k' = x ∧ (b = true → 0 < a u k')) → X (σ, 3, [some (jR 38 0), some (jI (nI u)), some (jI (nI x)), some (jI (bI b)), some (jI (nI k))], []) := by
    intro d
    induction d with
    | zero =>
      intro k hkd ⟨k', h1, h2, _⟩
      have := (slB_lt hok h2).2.2
      omega
    | succ d ih =>
      intro k hkd ⟨k', q1, q2, q3, q4⟩
      have hin : vp_in (nI 3 * nI u + nI k) 120 := by rw [n3I]; exact vp_in_nI (by omega) (by omega)
      have es : σ.1 41 0 (nI 3 * nI u + nI k).toNatClampNeg = srcI N u k := by rw [n3I, nI_clamp (by omega)]; exact mN_src hN hu (by omega)
      have ea : σ.1 47 0 (nI 3 * nI u + nI k).toNatClampNeg = nI (a u k) := by rw [n3I, nI_clamp (by omega)]; exact hR.2 u k (by omega) (by omega)
      have hsrc : srcI N u k = nI x ↔ (slB N u k = true ∧ nR N u k = x) := by
        unfold srcI
        by_cases hk : k < ar (nK N u)
        · have := nR_lt hok hu hk
          rw [if_pos hk, nI_eq (by omega) (by omega)]
          exact ⟨fun q => ⟨slB_iff.mpr ⟨hu, hk⟩, q⟩, fun q => q.2⟩
        · rw [if_neg hk]
          exact ⟨fun q => absurd q.symm (oN_none (by omega)), fun q => absurd (slB_iff.mp q.1).2 hk⟩
      have nx : ¬ (slB N u k = true ∧ nR N u k = x ∧ (b = true → 0 < a u k)) → X (σ, 3, [some (jR 38 0), some (jI (nI u)), some (jI (nI x)), some (jI (bI b)), some (jI (nI k + nI 1))], []) := by
        intro hno
        rw [nI_add]
        refine ih (k + 1) (by omega) ⟨k', ?_, q2, q3, q4⟩
        by_cases e : k = k'
        · rw [← e] at q2 q3 q4; exact absurd ⟨q2, q3, q4⟩ hno
        · omega
      refine hg [3] 40 _ ?_
      refine br_c (fun h => ?_) (fun _ => ?_)
      · have h : nI 3 ≤ nI k := h
        rw [nI_leI (by omega) (by omega)] at h
        omega
      · refine And.intro hin ?_
        refine br_c (fun h => ?_) (fun h => ?_)
        · have h : σ.1 41 0 (nI 3 * nI u + nI k).toNatClampNeg = nI x := h
          rw [es, hsrc] at h
          refine br_c (fun h2 => ?_) (fun h2 => ?_)
          · have h2 := bI_0.mp h2
            refine And.intro trivial ?_
            show post (some (jI (nI 3 * nI u + nI k))) σ
            rw [n3I]
            exact hp k h.1 h.2 (fun e => by rw [h2] at e; cases e)
          · have h2 := bI_n0.mp h2
            refine And.intro hin ?_
            refine br_c (fun h3 => ?_) (fun h3 => ?_)
            · have h3 : σ.1 47 0 (nI 3 * nI u + nI k).toNatClampNeg ≤ 0 := h3
              rw [ea, pos_0 (ha u k)] at h3
              exact nx fun q => by have := q.2.2 h2; omega
            · have h3 : ¬ σ.1 47 0 (nI 3 * nI u + nI k).toNatClampNeg ≤ 0 := h3
              rw [ea, pos_0 (ha u k)] at h3
              refine And.intro trivial ?_
              show post (some (jI (nI 3 * nI u + nI k))) σ
              rw [n3I]
              exact hp k h.1 h.2 (fun _ => by omega)
        · have h : ¬ σ.1 41 0 (nI 3 * nI u + nI k).toNatClampNeg = nI x := h
          rw [es, hsrc] at h
          exact nx fun q => h ⟨q.1, q.2.1⟩
  obtain ⟨k, h1⟩ := hex
  exact gen 3 0 (by omega) ⟨k, by omega, h1⟩
theorem c_slotOf {C : jm_C} (h : ct_slotOf C) {N : nw} {u x : Nat} {b : Bool} {t : Nat → Nat} {a : Nat → Nat → Nat} {σ : jm_G} {post : Option jm_V → jm_G → Prop} {y z w : Int32} (hy : y = nI u) (hz : z = nI x) (hb : w = bI b) (hok : nw_ok N) (hN : mN N σ) (hu : isG N u = true) (hx4 : x < 40) (hR : fR σ t a) (ha : ∀ p k, a p k < 2 ^ 31) (hex : ∃ k, slB N u k = true ∧ nR N u k = x ∧ (b = true → 0 < a u k))
  (hp : ∀ k, slB N u k = true → nR N u k = x → (b = true → 0 < a u k) → post (some (jI (nI (3 * u + k)))) σ) : C kX10_slotOf [jR 38 0, jI y, jI z, jI w] σ post := by
  subst hy; subst hz; subst hb; exact h N u x b t a σ post hok hN hu hx4 hR ha hex hp
theorem mod40 {x : Nat} (h : x < 80) : nI x - nI x / nI 40 * nI 40 = nI (x % 40) := pk_rem (by omega) (by omega) (by omega)
theorem fR_t {σ : jm_G} {t t' : Nat → Nat} {a : Nat → Nat → Nat} {u : Nat} {x : Int32} (h : fR σ t a) (hx : x = nI (t' u)) (ht : ∀ v, v ≠ u → t' v = t v) : fR (wI σ 46 0 (upd (σ.1 46 0) u x)) t' a := by
  refine ⟨fun v hv => ?_, fun p k hp hk => ?_⟩
  · rw [wI1, if_pos ⟨rfl, rfl⟩, upd_at]
    by_cases e : v = u
    · rw [if_pos e, hx, e]
    · rw [if_neg e, ht v e]; exact h.1 v hv
  · rw [wI1, if_neg (by omega)]; exact h.2 p k hp hk
theorem fR_a {σ : jm_G} {t : Nat → Nat} {a a' : Nat → Nat → Nat} {u k0 : Nat} {x : Int32} (h : fR σ t a) (hk0 : k0 < 3) (hx : x = nI (a' u k0)) (ht : ∀ p k, ¬ (p = u ∧ k = k0) → a' p k = a p k) : fR (wI σ 47 0 (upd (σ.1 47 0) (3 * u + k0) x)) t a' := by
  refine ⟨fun v hv => ?_, fun p k hp hk => ?_⟩
  · rw [wI1, if_neg (by omega)]; exact h.1 v hv
  · rw [wI1, if_pos ⟨rfl, rfl⟩, upd_at]
    by_cases e : p = u ∧ k = k0
    · rw [e.1, e.2, if_pos rfl, hx]
    · rw [if_neg (by omega), ht p k e]; exact h.2 p k hp hk
abbrev ct_flows (C : jm_C) : Prop := ∀ (N : nw) (g m F leaf q p : Nat) (l t : Nat → Nat) (a : Nat → Nat → Nat) (Q : Nat → Nat) (cf : Nat → Option Nat) (σ : jm_G) (post : Option jm_V → jm_G → Prop), nw_ok N → mN N σ → isG N g = true → fR σ t a → mF N g m l t a F → F < 900 → mQ σ q Q cf → bM N g m l t a Q q p cf → p < q → Q p = 40 + leaf → isG N leaf = false →
  (∀ σ' t' a', mf [46, 47] [] σ σ' → fR σ' t' a' → mF N g m l t' a' (F + 1) → post none σ') → C kX10_flows [jR 38 0, jI (nI (40 + leaf))] σ post
theorem T_flows (L : Nat) {C : jm_C} (hC : jm_mon C) (h1 : ct_slotOf C) : ct_flows (jm_up L C) := by
  intro N g m F leaf q p l t a Q cf σ post hok hN hgt hR hF hF9 hQ hb hpq hQp hlf hp
  refine jm_start rfl (Nat.le_of_ble_eq_true rfl) hC fun X hg hw => ?_
  have h40 := hok.1
  have hg4 : g < 40 := by have := isG_lt hgt; omega
  have hq80 := mQ_le hQ
  have hgQ := hb.1
  refine hg [2] 30 _ ?_
  show X (σ, 2, [some (jR 38 0), some (jI (nI (40 + leaf))), some (jI (nI (40 + leaf))), none, none, none], [])
  have gen : ∀ (d n : Nat), n + d = 81 → ∀ (τ : jm_G) (t' : Nat → Nat) (a' : Nat → Nat → Nat) (x : Nat), ch cf (Q p) n = some x → mf [46, 47] [] σ τ → fR τ t' a' → wk N g m F l t a cf (Q p) n t' a' →
      X (τ, 2, [some (jR 38 0), some (jI (nI (40 + leaf))), some (jI (nI x)), none, none, none], []) := by
    intro d
    induction d with
    | zero =>
      intro n hnd τ t' a' x hx
      rw [gh_far hgQ hpq (by omega)] at hx
      cases hx
    | succ d ih =>
      intro n hnd τ t' a' x hx hf hRt hwk
      obtain ⟨i, hi, hix⟩ := gh_at hgQ hpq hx
      obtain ⟨hx80, -, hcf, hcz⟩ := hQ.2.1 i hi
      rw [hix] at hx80 hcf hcz
      have hNt := mN_mf hN hf (by decide) (by decide)
      have hfr : τ.1 48 0 (nI x).toNatClampNeg = fN (cf x) := by rw [nI_clamp (by omega), (hf.1 48 0 (by omega) (by decide)).1]; exact hcf
      have hin : vp_in (nI x) 80 := vp_in_nI hx80 (by omega)
      have ht31 : ∀ v, t' v < 2 ^ 31 := fun v => by
        have q1 := (hwk.2.2.2.1 v).1
        have q2 := hF.2.2.2.2.2.2.1 v
        omega
      have ha31 : ∀ p k, a' p k < 2 ^ 31 := fun p k => by
        have q1 := (hwk.2.2.2.2.1 p k).1
        have q2 := hF.2.2.2.2.2.2.2 p k
        omega
      refine hg [2] 80 _ ?_
      refine And.intro hin ?_
      cases hcx : cf x with
      | none =>
        rw [hcx] at hfr
        refine br_c (fun _ => ?_) (fun h => absurd hfr h)
        have hxg : x = 40 + g := by
          rcases hgQ.2 i hi with ⟨-, q2⟩ | ⟨j, -, q2, -⟩
          · rw [← hix]; exact q2
          · rw [hix, hcx] at q2; cases q2
        rw [hxg] at hx
        exact And.intro trivial (hp τ t' a' hf hRt (wk_end hF hwk hg4 hx))
      | some z =>
        have hz80 := hcz z hcx
        rw [hcx] at hfr
        have hfr : τ.1 48 0 (nI x).toNatClampNeg = nI z := hfr
        have hr : rMs N g m l t a z x ∧ eI N g z := by
          rcases hgQ.2 i hi with ⟨q1, -⟩ | ⟨j, hj, q2, q3⟩
          · rw [hix, hcx] at q1; cases q1
          · rw [hix, hcx] at q2
            rw [hix, ← Option.some.inj q2] at q3
            refine ⟨q3, ?_⟩
            rw [Option.some.inj q2]
            exact hb.2.2.2.1 j (by omega)
        refine br_c (fun h => ?_) (fun _ => ?_)
        · have h : τ.1 48 0 (nI x).toNatClampNeg = nI 1000 := h
          rw [hfr, nI_eq (by omega) (by omega)] at h
          omega
        · have e40 : ¬ nI 40 = 0 := by
            have : ¬ nI 40 = nI 0 := by rw [nI_eq (by omega) (by omega)]; omega
            exact this
          have ez : τ.1 48 0 (nI x).toNatClampNeg - τ.1 48 0 (nI x).toNatClampNeg / nI 40 * nI 40 = nI (z % 40) := by rw [hfr]; exact mod40 hz80
          have exm : nI x - nI x / nI 40 * nI 40 = nI (x % 40) := mod40 hx80
          refine And.intro hin ?_
          refine And.intro e40 ?_
          refine And.intro e40 ?_
          have hnx : ch cf (Q p) (n + 1) = some z := by rw [ch_succ hx, hcx]
          have nx : ∀ (υ : jm_G) (t'' : Nat → Nat) (a'' : Nat → Nat → Nat) (w1 w2 w3 : Int32), mf [46, 47] [] τ υ → fR υ t'' a'' → wk N g m F l t a cf (Q p) (n + 1) t'' a'' →
              X (υ, 2, [some (jR 38 0), some (jI (nI (40 + leaf))), some (jI (τ.1 48 0 (nI x).toNatClampNeg)), some (jI w1), some (jI w2), some (jI w3)], []) := by
            intro υ t'' a'' w1 w2 w3 q1 q2 q3
            refine hw _ _ _ [some (jR 38 0), some (jI (nI (40 + leaf))), some (jI (τ.1 48 0 (nI x).toNatClampNeg)), none, none, none] _ (by repeat' first | exact trivial | exact rfl | apply And.intro) ?_
            rw [hfr]
            exact ih (n + 1) (by omega) υ t'' a'' z hnx (mf_trans hf q1) q2 q3
          obtain ⟨hr, hez⟩ := hr
          rcases hr with ⟨u, e, hgu, ⟨k, r1, r2⟩ | ⟨r1, r2⟩⟩ | ⟨hz4, hzg, ⟨r1, r2⟩ | ⟨u, k, r1, r2, r3, r4, r5⟩⟩
          · -- along a source
            have hu4 : u < 40 := by have := isG_lt hgu; omega
            have hl := slB_lt hok r1
            have zu : z % 40 = u := by omega
            have xx : x % 40 = x := by omega
            have hiu : iN N g u := by
              rcases hez with ⟨q1, -⟩ | ⟨-, -, q1⟩
              · omega
              · rw [e, show 40 + u - 40 = u by omega] at q1; exact q1
            refine br_c (fun h => ?_) (fun _ => ?_)
            · have h : τ.1 48 0 (nI x).toNatClampNeg - τ.1 48 0 (nI x).toNatClampNeg / nI 40 * nI 40 = nI x - nI x / nI 40 * nI 40 := h
              rw [ez, exm, nI_eq (by omega) (by omega)] at h
              omega
            · refine br_c (fun h => ?_) (fun _ => ?_)
              · have h : τ.1 48 0 (nI x).toNatClampNeg < nI 40 := h
                rw [hfr, nI_ltI (by omega) (by omega)] at h
                omega
              · refine c_slotOf h1 (u := u) (x := x) (b := false) (ez.trans (by rw [zu])) (exm.trans (by rw [xx])) rfl hok hNt hgu (by omega) hRt ha31 ⟨k, r1, r2, fun q => by cases q⟩ fun k0 s1 s2 _ => ?_
                have hk0 := slB_lt hok s1
                have hin2 : vp_in (nI (3 * u + k0)) 120 := vp_in_nI (by omega) (by omega)
                refine And.intro hin2 ?_
                refine And.intro hin2 ?_
                have e3 : (nI (3 * u + k0)).toNatClampNeg = 3 * u + k0 := nI_clamp (by omega)
                have ha2 : ∀ p' k', (fun p' k' => if p' = u ∧ k' = k0 then a' p' k' + 1 else a' p' k') p' k' = a' p' k' + (if p' = u ∧ k' = k0 then 1 else 0) := by
                  intro p' k'
                  by_cases q : p' = u ∧ k' = k0
                  · simp only [if_pos q]
                  · simp only [if_neg q, Nat.add_zero]
                refine nx _ t' (fun p' k' => if p' = u ∧ k' = k0 then a' p' k' + 1 else a' p' k') _ _ _ (mf_wI (mf_refl _ _ _) (by decide) (by decide)) ?_ (wk_A hok hgQ hpq hx (by rw [hcx, e]) s1 s2 hiu hwk ha2)
                show fR (wI τ 47 0 (upd (τ.1 47 0) (nI (3 * u + k0)).toNatClampNeg (τ.1 47 0 (nI (3 * u + k0)).toNatClampNeg + nI 1))) _ _
                rw [e3]
                refine fR_a hRt hk0.2.2 ?_ (fun p' k' q => by simp only [if_neg q])
                rw [hRt.2 u k0 (by omega) hk0.2.2, nI_add]
                show _ = nI (if u = u ∧ k0 = k0 then _ else _)
                rw [if_pos ⟨rfl, rfl⟩]
          · -- back through a node
            subst r2
            have hx4 : x < 40 := by have := isG_lt hgu; omega
            have zu : z % 40 = x := by omega
            have xx : x % 40 = x := by omega
            have hcx' : cf x = some (40 + x) := by rw [hcx, e]
            have hteq := wk_B0 hgQ hpq hx hcx' hwk
            have hinx : vp_in (τ.1 48 0 (nI x).toNatClampNeg - τ.1 48 0 (nI x).toNatClampNeg / nI 40 * nI 40) 40 := by rw [ez, zu]; exact vp_in_nI hx4 (by omega)
            refine br_c (fun _ => ?_) (fun h => ?_)
            · refine And.intro hinx ?_
              refine br_c (fun _ => ?_) (fun h => ?_)
              · refine And.intro hinx ?_
                have ha2 : ∀ v, t' v = (fun v => if v = x then t' v - 1 else t' v) v + (if v = x then 1 else 0) := by
                  intro v
                  by_cases q : v = x
                  · simp only [if_pos q]; rw [q]; omega
                  · simp only [if_neg q, Nat.add_zero]
                refine nx _ (fun v => if v = x then t' v - 1 else t' v) a' _ _ _ (mf_wI (mf_refl _ _ _) (by decide) (by decide)) ?_ (wk_B hF hok hgQ hpq hx hx4 hcx' r1 hwk ha2)
                show fR (wI τ 46 0 (upd (τ.1 46 0) (τ.1 48 0 (nI x).toNatClampNeg - τ.1 48 0 (nI x).toNatClampNeg / nI 40 * nI 40).toNatClampNeg (τ.1 46 0 (τ.1 48 0 (nI x).toNatClampNeg - τ.1 48 0 (nI x).toNatClampNeg / nI 40 * nI 40).toNatClampNeg + -(nI 1)))) _ _
                rw [ez, zu, nI_clamp (by omega)]
                refine fR_t hRt ?_ (fun v q => by simp only [if_neg q])
                rw [hRt.1 x hx4]
                simp only [if_pos (Eq.refl x)]
                rw [show t' x = (t' x - 1) + 1 by omega, nI_m1]
                rfl
              · have h : ¬ nI 40 ≤ τ.1 48 0 (nI x).toNatClampNeg := h
                rw [hfr, nI_leI (by omega) (by omega)] at h
                omega
            · have h : ¬ τ.1 48 0 (nI x).toNatClampNeg - τ.1 48 0 (nI x).toNatClampNeg / nI 40 * nI 40 = nI x - nI x / nI 40 * nI 40 := h
              rw [ez, exm, zu, xx] at h
              exact absurd rfl h
          · -- through a node
            have zz : z % 40 = z := by omega
            have xz : x % 40 = z := by omega
            have hiz : iN N g z := by
              rcases hez with ⟨-, q1⟩ | ⟨q1, -⟩
              · exact q1
              · omega
            have hinz : vp_in (τ.1 48 0 (nI x).toNatClampNeg - τ.1 48 0 (nI x).toNatClampNeg / nI 40 * nI 40) 40 := by rw [ez, zz]; exact vp_in_nI hz4 (by omega)
            refine br_c (fun _ => ?_) (fun h => ?_)
            · refine And.intro hinz ?_
              refine br_c (fun h => ?_) (fun _ => ?_)
              · have h : nI 40 ≤ τ.1 48 0 (nI x).toNatClampNeg := h
                rw [hfr, nI_leI (by omega) (by omega)] at h
                omega
              · refine And.intro hinz ?_
                have ha2 : ∀ v, (fun v => if v = z then t' v + 1 else t' v) v = t' v + (if v = z then 1 else 0) := by
                  intro v
                  by_cases q : v = z
                  · simp only [if_pos q]
                  · simp only [if_neg q, Nat.add_zero]
                refine nx _ (fun v => if v = z then t' v + 1 else t' v) a' _ _ _ (mf_wI (mf_refl _ _ _) (by decide) (by decide)) ?_ (wk_C hgQ hpq (by rw [← r1]; exact hx) hz4 hzg hiz (by rw [← r1]; exact hcx) r2 hwk ha2)
                show fR (wI τ 46 0 (upd (τ.1 46 0) (τ.1 48 0 (nI x).toNatClampNeg - τ.1 48 0 (nI x).toNatClampNeg / nI 40 * nI 40).toNatClampNeg (τ.1 46 0 (τ.1 48 0 (nI x).toNatClampNeg - τ.1 48 0 (nI x).toNatClampNeg / nI 40 * nI 40).toNatClampNeg + nI 1))) _ _
                rw [ez, zz, nI_clamp (by omega)]
                refine fR_t hRt ?_ (fun v q => by simp only [if_neg q])
                rw [hRt.1 z hz4, nI_add]
                show _ = nI (if z = z then _ else _)
                rw [if_pos rfl]
            · have h : ¬ τ.1 48 0 (nI x).toNatClampNeg - τ.1 48 0 (nI x).toNatClampNeg / nI 40 * nI 40 = nI x - nI x / nI 40 * nI 40 := h
              rw [ez, exm, zz, xz] at h
              exact absurd rfl h
          · -- back along a source
            have hu4 : u < 40 := (slB_lt hok r3).2.1
            have hgu := (slB_iff.mp r3).1
            have hl := slB_lt hok r3
            have zz : z % 40 = z := by omega
            have xu : x % 40 = u := by omega
            rw [r1] at hx hcx
            refine br_c (fun h => ?_) (fun _ => ?_)
            · have h : τ.1 48 0 (nI x).toNatClampNeg - τ.1 48 0 (nI x).toNatClampNeg / nI 40 * nI 40 = nI x - nI x / nI 40 * nI 40 := h
              rw [ez, exm, nI_eq (by omega) (by omega)] at h
              omega
            · refine br_c (fun _ => ?_) (fun h => ?_)
              · have hsame : ∀ k, nR N u k = z → a' u k = a u k := fun k q => wk_D0 hgQ hpq hx (by rw [q]; exact hcx) hwk
                refine c_slotOf h1 (u := u) (x := z) (b := true) (exm.trans (by rw [xu])) (ez.trans (by rw [zz])) rfl hok hNt hgu hz4 hRt ha31 ⟨k, r3, r4, fun _ => by rw [hsame k r4]; exact r5⟩ fun k0 s1 s2 s3 => ?_
                have s3 := s3 rfl
                have hk0 := slB_lt hok s1
                have hin2 : vp_in (nI (3 * u + k0)) 120 := vp_in_nI (by omega) (by omega)
                refine And.intro hin2 ?_
                refine And.intro hin2 ?_
                have e3 : (nI (3 * u + k0)).toNatClampNeg = 3 * u + k0 := nI_clamp (by omega)
                have ha2 : ∀ p' k', a' p' k' = (fun p' k' => if p' = u ∧ k' = k0 then a' p' k' - 1 else a' p' k') p' k' + (if p' = u ∧ k' = k0 then 1 else 0) := by
                  intro p' k'
                  by_cases q : p' = u ∧ k' = k0
                  · simp only [if_pos q]; rw [q.1, q.2]; omega
                  · simp only [if_neg q, Nat.add_zero]
                refine nx _ t' (fun p' k' => if p' = u ∧ k' = k0 then a' p' k' - 1 else a' p' k') _ _ _ (mf_wI (mf_refl _ _ _) (by decide) (by decide)) ?_ (wk_D hok hgQ hpq hx hz4 hcx s1 s2 hwk ha2)
                show fR (wI τ 47 0 (upd (τ.1 47 0) (nI (3 * u + k0)).toNatClampNeg (τ.1 47 0 (nI (3 * u + k0)).toNatClampNeg - nI 1))) _ _
                rw [e3]
                refine fR_a hRt hk0.2.2 ?_ (fun p' k' q => by simp only [if_neg q])
                rw [hRt.2 u k0 (by omega) hk0.2.2, pk_sub (by omega)]
                show _ = nI (if u = u ∧ k0 = k0 then _ else _)
                rw [if_pos ⟨rfl, rfl⟩]
              · have h : ¬ τ.1 48 0 (nI x).toNatClampNeg < nI 40 := h
                rw [hfr, nI_ltI (by omega) (by omega)] at h
                omega
  refine gen 81 0 (by omega) σ t a (40 + leaf) (by rw [← hQp]; rfl) (mf_refl _ _ _) hR ?_
  rw [hQp]
  exact wk_0 hF hgt hlf
end
section
/-! the model's isCutOff -/
def coA : List Nat := [45, 46, 47, 48, 49]
abbrev ct_cutOff (C : jm_C) : Prop := ∀ (N : nw) (g m K : Nat) (σ : jm_G) (post : Option jm_V → jm_G → Prop), nw_ok N → mN N σ → isG N g = true → 1 ≤ m → m < 2 ^ 31 → 3 ≤ K → K ≤ 6 → σ.1 38 0 7 = nI K → (∀ v, (nB N g).testBit v = true → σ.1 44 0 v = nI (lev N K v) ∧ lev N K v < 2 ^ 31) →
  (∀ σ' U, mf coA [17] σ σ' → (∀ j, j ≠ g → σ'.2 45 0 j = σ.2 45 0 j) → nearC N g (Cm N (lev N K) g m) U → cnt U 40 ≤ K → σ'.2 45 0 g = lN U → post (some (jI (nI 1))) σ') →
  (¬ cutt N K (lev N K) g m → ∀ σ', mf coA [17] σ σ' → (∀ j, j ≠ g → σ'.2 45 0 j = σ.2 45 0 j) → post (some (jI (nI 0))) σ') → C kX10_isCutOff [jR 38 0, jI (nI g), jI (nI m)] σ post
theorem T_cutOff (L : Nat) {C : jm_C} (hC : jm_mon C) (h1 : ct_spreads C) (h2 : ct_flows C) : ct_cutOff (jm_up L C) := by
  intro N g m K σ post hok hN hgt hm1 hm hK hK6 h7 hl hp1 hp0
  refine jm_start rfl (Nat.le_of_ble_eq_true rfl) hC fun X hg hw => ?_
  have h40 := hok.1
  have hgn := isG_lt hgt
  have eg : (nI g).toNatClampNeg = g := nI_clamp (by omega)
  have hing : vp_in (nI g) 40 := vp_in_nI (by omega) (by omega)
  have hCok := Cm_ok (m := m) hok hK hgt hm1
  have hCm : ∀ v, (nB N g).testBit v = true → (Cm N (lev N K) g m).testBit v = false → lev N K v < m := fun v q1 q2 => Nat.lt_of_not_le fun q => by
    have := (Cm_bit hok (lev N K) g m v).mpr (Or.inr ⟨q1, q⟩)
    rw [q2] at this
    cases this
  have w48 : ∀ {υ τ : jm_G}, mf [48, 49] [17] υ τ → mf coA [17] υ τ := fun h => mf_wide h (by decide) (by decide)
  have w46 : ∀ {υ τ : jm_G}, mf [46, 47] [] υ τ → mf coA [17] υ τ := fun h => mf_wide h (by decide) (by decide)
  -- the cut is told
  have tell : ∀ (τ : jm_G) (q F : Nat) (Q : Nat → Nat) (cf : Nat → Option Nat) (z : Int32), F < 900 → mf coA [17] σ τ → mQ τ q Q cf → (∀ j, j ≠ g → τ.2 45 0 j = σ.2 45 0 j) →
      (∀ U, (∀ v, U.testBit v = true ↔ v < 40 ∧ (∃ i, i < q ∧ Q i = v) ∧ ¬ ∃ i, i < q ∧ Q i = 40 + v) → (z < 0 ∧ F ≤ K ∧ nearC N g (Cm N (lev N K) g m) U ∧ cnt U 40 ≤ K) ∨ ((¬ z < 0 ∨ K < F) ∧ ¬ cutt N K (lev N K) g m)) → (∀ i, i < q → ∃ v, v < nN N ∧ (Q i = v ∨ Q i = 40 + v)) →
      ∀ (d j : Nat), j + d = nN N → ∀ (υ : jm_G) (P : Nat → Bool), mf coA [17] τ υ → υ.1 48 0 = τ.1 48 0 → (∀ j, j ≠ g → υ.2 45 0 j = τ.2 45 0 j) → (∀ v, P v = true ↔ (∃ i, i < q ∧ Q i = v) ∧ ¬ ∃ i, i < q ∧ Q i = 40 + v) → υ.2 45 0 g = lN (mk P j) →
      X (υ, 95, [some (jR 38 0), some (jI (nI g)), some (jI (nI m)), some (jI (nI F)), some (jI z), some (jI (nI j))], []) := by
    intro τ q F Q cf z hF hf hQ h45 hend hsm d
    induction d with
    | zero =>
      intro j hjd υ P q1 q2 q3 q4 q5
      have e : j = nN N := by omega
      subst e
      have hfu := mf_trans hf q1
      have hNu := mN_mf hN hfu (by decide) (by decide)
      have e7 : υ.1 38 0 7 = nI K := by rw [(hfu.2 0 7 (by decide)).1]; exact h7
      have hU : ∀ v, (mk P (nN N)).testBit v = true ↔ v < 40 ∧ (∃ i, i < q ∧ Q i = v) ∧ ¬ ∃ i, i < q ∧ Q i = 40 + v := by
        intro v
        rw [mk_bit, Bool.and_eq_true, decide_eq_true_eq, q4]
        refine ⟨fun h => ⟨by omega, h.2⟩, fun h => ⟨?_, h.2⟩⟩
        obtain ⟨hv4, ⟨i, hi, e⟩, hno⟩ := h
        obtain ⟨w, hw9, hq9⟩ := hsm i hi
        rcases hq9 with e2 | e2
        · omega
        · omega
      refine hg [95] 60 _ ?_
      refine br_c (fun _ => ?_) (fun h => ?_)
      · rcases hend _ hU with ⟨z1, z2, z3, z4⟩ | ⟨z1, z2⟩
        · refine br_c (fun h => ?_) (fun _ => ?_)
          · have h : 0 ≤ z := h
            exact absurd z1 (Int32.not_lt.mpr h)
          · refine br_c (fun h => ?_) (fun _ => ?_)
            · have h : υ.1 38 0 7 < nI F := h
              rw [e7, nI_ltI (by omega) (by omega)] at h
              omega
            · exact And.intro (Or.inr rfl) (hp1 υ _ hfu (fun j hj => (q3 j hj).trans (h45 j hj)) z3 z4 q5)
        · refine br_c (fun _ => ?_) (fun h => ?_)
          · exact And.intro (Or.inl rfl) (hp0 z2 υ hfu (fun j hj => (q3 j hj).trans (h45 j hj)))
          · have h : ¬ 0 ≤ z := h
            have h := Int32.not_le.mp h
            refine br_c (fun _ => ?_) (fun h3 => ?_)
            · exact And.intro (Or.inl rfl) (hp0 z2 υ hfu (fun j hj => (q3 j hj).trans (h45 j hj)))
            · have h3 : ¬ υ.1 38 0 7 < nI F := h3
              rw [e7, nI_ltI (by omega) (by omega)] at h3
              rcases z1 with z1 | z1
              · exact absurd h z1
              · omega
      · have h : ¬ υ.1 38 0 1 ≤ nI (nN N) := h
        rw [hNu.1, nI_leI (by omega) (by omega)] at h
        omega
    | succ d ih =>
      intro j hjd υ P q1 q2 q3 q4 q5
      have hfu := mf_trans hf q1
      have hNu := mN_mf hN hfu (by decide) (by decide)
      have ej : (nI j).toNatClampNeg = j := nI_clamp (by omega)
      have e4j : nI 40 + nI j = nI (40 + j) := nI_add 40 j
      have seen : ∀ x, x < 80 → (υ.1 48 0 x = -(nI 1) ↔ ¬ ∃ i, i < q ∧ Q i = x) := by
        intro x hx
        rw [q2]
        constructor
        · rintro h ⟨i, hi, e⟩
          obtain ⟨-, -, h3, h4⟩ := hQ.2.1 i hi
          rw [e] at h3
          rw [h3] at h
          exact fN_ne (by rw [← e]; exact h4) h
        · exact hQ.2.2.2 x hx
      have stay : P j = false → X (wJ υ 45 0 (vp_updL (υ.2 45 0) (nI g).toNatClampNeg (υ.2 45 0 (nI g).toNatClampNeg ||| lN 0)), 95, [some (jR 38 0), some (jI (nI g)), some (jI (nI m)), some (jI (nI F)), some (jI z), some (jI (nI j + nI 1))], []) := by
        intro hPj
        rw [eg, nI_add]
        refine ih (j + 1) (by omega) _ P (mf_wJ q1 (by decide) (by decide)) q2 (fun i hi => ?_) q4 ?_
        · rw [wJ2, if_pos ⟨rfl, rfl⟩, updL_at, if_neg hi]; exact q3 i hi
        · rw [wJ2, if_pos ⟨rfl, rfl⟩, updL_at, if_pos rfl, q5, fb_orL, mk, hPj]
          simp
      refine hg [95] 60 _ ?_
      refine br_c (fun h => ?_) (fun _ => ?_)
      · have h : υ.1 38 0 1 ≤ nI j := h
        rw [hNu.1, nI_leI (by omega) (by omega)] at h
        omega
      · refine And.intro hing ?_
        refine And.intro (vp_in_nI (by omega) (by omega)) ?_
        refine br_c (fun h => ?_) (fun h => ?_)
        · have h : υ.1 48 0 (nI j).toNatClampNeg = -(nI 1) := h
          rw [ej, seen j (by omega)] at h
          refine And.intro hing ?_
          apply stay
          cases hPj : P j with
          | false => rfl
          | true => exact absurd ((q4 j).mp hPj).1 h
        · have h : ¬ υ.1 48 0 (nI j).toNatClampNeg = -(nI 1) := h
          rw [ej, seen j (by omega)] at h
          have h := Classical.not_not.mp h
          refine And.intro (show vp_in (nI 40 + nI j) 80 by rw [e4j]; exact vp_in_nI (by omega) (by omega)) ?_
          refine br_c (fun h5 => ?_) (fun h5 => ?_)
          · have h5 : υ.1 48 0 (nI 40 + nI j).toNatClampNeg = -(nI 1) := h5
            rw [e4j, nI_clamp (by omega), seen (40 + j) (by omega)] at h5
            refine And.intro hing ?_
            have hPj : P j = true := (q4 j).mpr ⟨h, h5⟩
            show X (wJ υ 45 0 (vp_updL (υ.2 45 0) (nI g).toNatClampNeg (υ.2 45 0 (nI g).toNatClampNeg ||| (lN 1 <<< ((nI j).toInt64 &&& 63)))), 95, [some (jR 38 0), some (jI (nI g)), some (jI (nI m)), some (jI (nI F)), some (jI z), some (jI (nI j + nI 1))], [])
            rw [eg, nI_add]
            refine ih (j + 1) (by omega) _ P (mf_wJ q1 (by decide) (by decide)) q2 (fun i hi => ?_) q4 ?_
            · rw [wJ2, if_pos ⟨rfl, rfl⟩, updL_at, if_neg hi]; exact q3 i hi
            · rw [wJ2, if_pos ⟨rfl, rfl⟩, updL_at, if_pos rfl, q5, lN_shl1 (by omega), fb_orL, mk, hPj, if_pos rfl]
          · have h5 : ¬ υ.1 48 0 (nI 40 + nI j).toNatClampNeg = -(nI 1) := h5
            rw [e4j, nI_clamp (by omega), seen (40 + j) (by omega)] at h5
            have h5 := Classical.not_not.mp h5
            refine And.intro hing ?_
            apply stay
            cases hPj : P j with
            | false => rfl
            | true => exact absurd h5 ((q4 j).mp hPj).2
  -- what a search's ends are
  have small : ∀ {t : Nat → Nat} {a : Nat → Nat → Nat} {Q : Nat → Nat} {q p : Nat} {cf : Nat → Option Nat}, bM N g m (lev N K) t a Q q p cf → ∀ i, i < q → ∃ v, v < nN N ∧ (Q i = v ∨ Q i = 40 + v) := by
    intro t a Q q p cf hb i hi
    have hn : ∀ v, iN N g v → v < nN N := fun v h => by
      rcases h with e | e
      · omega
      · exact nB_lt_n hok e
    rcases hb.2.2.2.1 i hi with ⟨-, h⟩ | ⟨h1, -, h2⟩
    · exact ⟨Q i, hn _ h, Or.inl rfl⟩
    · exact ⟨Q i - 40, hn _ h2, Or.inr (by omega)⟩
  have begin9 : ∀ (τ : jm_G) (q F : Nat) (Q : Nat → Nat) (cf : Nat → Option Nat) (z : Int32), F < 900 → mf coA [17] σ τ → mQ τ q Q cf → (∀ j, j ≠ g → τ.2 45 0 j = σ.2 45 0 j) →
      (∀ U, (∀ v, U.testBit v = true ↔ v < 40 ∧ (∃ i, i < q ∧ Q i = v) ∧ ¬ ∃ i, i < q ∧ Q i = 40 + v) → (z < 0 ∧ F ≤ K ∧ nearC N g (Cm N (lev N K) g m) U ∧ cnt U 40 ≤ K) ∨ ((¬ z < 0 ∨ K < F) ∧ ¬ cutt N K (lev N K) g m)) → (∀ i, i < q → ∃ v, v < nN N ∧ (Q i = v ∨ Q i = 40 + v)) →
      X (wJ τ 45 0 (vp_updL (τ.2 45 0) (nI g).toNatClampNeg (lN 0)), 95, [some (jR 38 0), some (jI (nI g)), some (jI (nI m)), some (jI (nI F)), some (jI z), some (jI (nI 0))], []) := by
    intro τ q F Q cf z q1 q2 q3 q4 q5 q6
    obtain ⟨P, hP⟩ : ∃ P : Nat → Bool, ∀ v, P v = true ↔ ((∃ i, i < q ∧ Q i = v) ∧ ¬ ∃ i, i < q ∧ Q i = 40 + v) := pick _
    refine tell τ q F Q cf z q1 q2 q3 q4 q5 q6 (nN N) 0 (by omega) _ P (mf_wJ (mf_refl _ _ _) (by decide) (by decide)) rfl (fun j hj => ?_) hP ?_
    · rw [wJ2, if_pos ⟨rfl, rfl⟩, eg, updL_at, if_neg hj]
    · rw [wJ2, if_pos ⟨rfl, rfl⟩, eg, updL_at, if_pos rfl]
      rfl
  -- one flow after another
  have loop : ∀ (d F : Nat), F + d = K + 1 → ∀ (τ : jm_G) (t : Nat → Nat) (a : Nat → Nat → Nat), mf coA [17] σ τ → (∀ j, j ≠ g → τ.2 45 0 j = σ.2 45 0 j) → fR τ t a → mF N g m (lev N K) t a F →
      (∀ q Q cf, mQ τ q Q cf → bM N g m (lev N K) t a Q q q cf → X (τ, 52, [some (jR 38 0), some (jI (nI g)), some (jI (nI m)), some (jI (nI F)), some (jI (-(nI 1))), none], [])) ∧
      (∀ q p Q cf leaf, mQ τ q Q cf → bM N g m (lev N K) t a Q q p cf → p < q → Q p = 40 + leaf → isG N leaf = false → leaf < 40 → X (τ, 52, [some (jR 38 0), some (jI (nI g)), some (jI (nI m)), some (jI (nI F)), some (jI (nI (40 + leaf))), none], [])) := by
    intro d
    induction d with
    | zero =>
      intro F hFd τ t a hf h45 hRt hF
      have e7 : τ.1 38 0 7 = nI K := by rw [(hf.2 0 7 (by decide)).1]; exact h7
      refine ⟨fun q Q cf hQ hb => ?_, fun q p Q cf leaf hQ hb hpq hQp hlf hl4 => ?_⟩
      · refine hg [95] 60 _ ?_
        refine br_c (fun _ => ?_) (fun h => absurd m1_neg h)
        refine And.intro hing ?_
        refine begin9 τ q F Q cf _ (by omega) hf hQ h45 (fun U hU => ?_) (small hb)
        obtain ⟨r1, r2⟩ := bM_near hok hK hgt hm1 (by omega) hF hb hU
        refine Or.inr ⟨Or.inr (by omega), fun hc => ?_⟩
        have := (near_cutt hok r1).mp hc
        omega
      · refine hg [95] 60 _ ?_
        refine br_c (fun h => absurd h (nI_pos (by omega))) (fun _ => ?_)
        refine br_c (fun _ => ?_) (fun h => ?_)
        · refine And.intro hing ?_
          refine begin9 τ q F Q cf _ (by omega) hf hQ h45 (fun U hU => ?_) (small hb)
          refine Or.inr ⟨Or.inl (nI_pos (by omega)), ?_⟩
          rintro ⟨T, t1, t2, t3⟩
          obtain ⟨f1, f2⟩ := mF_fl hok hCok hCm hF
          have := flow_le hok hCok f1 t1 ((Cm_dis hok t1).mpr t3)
          omega
        · have h : ¬ τ.1 38 0 7 < nI F := h
          rw [e7, nI_ltI (by omega) (by omega)] at h
          omega
    | succ d ih =>
      intro F hFd τ t a hf h45 hRt hF
      have e7 : τ.1 38 0 7 = nI K := by rw [(hf.2 0 7 (by decide)).1]; exact h7
      have hNt := mN_mf hN hf (by decide) (by decide)
      refine ⟨fun q Q cf hQ hb => ?_, fun q p Q cf leaf hQ hb hpq hQp hlf hl4 => ?_⟩
      · refine hg [95] 60 _ ?_
        refine br_c (fun _ => ?_) (fun h => absurd m1_neg h)
        refine And.intro hing ?_
        refine begin9 τ q F Q cf _ (by omega) hf hQ h45 (fun U hU => ?_) (small hb)
        obtain ⟨r1, r2⟩ := bM_near hok hK hgt hm1 (by omega) hF hb hU
        exact Or.inl ⟨m1_neg, by omega, r1, by omega⟩
      · refine hg [52, 95] 60 _ ?_
        refine br_c (fun h => absurd h (nI_pos (by omega))) (fun _ => ?_)
        refine br_c (fun h => ?_) (fun _ => ?_)
        · have h : τ.1 38 0 7 < nI F := h
          rw [e7, nI_ltI (by omega) (by omega)] at h
          omega
        · refine h2 N g m F leaf q p (lev N K) t a Q cf τ _ hok hNt hgt hRt hF (by omega) hQ hb hpq hQp hlf fun υ t' a' o1 o2 o3 => ?_
          have hfu := mf_trans hf (w46 o1)
          have h45u : ∀ j, j ≠ g → υ.2 45 0 j = σ.2 45 0 j := fun j hj => by rw [(o1.1 45 0 (by omega) (by decide)).2]; exact h45 j hj
          refine h1 N g m (F + 1) (lev N K) t' a' υ _ hok (mN_mf hN hfu (by decide) (by decide)) hgt hm (fun v hv => by rw [(hfu.1 44 0 (by omega) (by decide)).1]; exact hl v hv) o2 o3 (by omega) ?_ ?_
          · intro ω q' Q' cf' p1 p2 p3
            show X (ω, 52, [some (jR 38 0), some (jI (nI g)), some (jI (nI m)), some (jI (nI F + nI 1)), some (jI (-(nI 1))), none], [])
            rw [nI_add]
            exact (ih (F + 1) (by omega) ω t' a' (mf_trans hfu (w48 p1)) (fun j hj => by rw [(p1.1 45 0 (by omega) (by decide)).2]; exact h45u j hj) (fR_mf o2 p1 (by decide)) o3).1 q' Q' cf' p2 p3
          · intro ω q' p' Q' cf' leaf' p1 p2 p3 p4 p5 p6 p7
            show X (ω, 52, [some (jR 38 0), some (jI (nI g)), some (jI (nI m)), some (jI (nI F + nI 1)), some (jI (nI (40 + leaf'))), none], [])
            rw [nI_add]
            exact (ih (F + 1) (by omega) ω t' a' (mf_trans hfu (w48 p1)) (fun j hj => by rw [(p1.1 45 0 (by omega) (by decide)).2]; exact h45u j hj) (fR_mf o2 p1 (by decide)) o3).2 q' p' Q' cf' leaf' p2 p3 p4 p5 p6 p7
  -- nothing flows
  refine hg [2] 30 _ ?_
  show X (σ, 2, [some (jR 38 0), some (jI (nI g)), some (jI (nI m)), some (jI (nI 0)), none, none], [])
  have clrT : ∀ (d k : Nat), k + d = 40 → ∀ (τ : jm_G), mf coA [17] σ τ → τ.2 45 0 = σ.2 45 0 → (∀ p k, p < 40 → k < 3 → τ.1 47 0 (3 * p + k) = nI 0) → (∀ v, v < k → τ.1 46 0 v = nI 0) →
      X (τ, 23, [some (jR 38 0), some (jI (nI g)), some (jI (nI m)), some (jI (nI k)), none, none], []) := by
    intro d
    induction d with
    | zero =>
      intro k hkd τ hf h45 ha ht
      have e : k = 40 := by omega
      subst e
      have hR0 : fR τ (fun _ => 0) (fun _ _ => 0) := ⟨ht, ha⟩
      refine hg [52] 60 _ ?_
      refine br_c (fun _ => ?_) (fun h => absurd (show nI 40 ≤ nI 40 from (nI_leI (by omega) (by omega)).mpr (Nat.le_refl _)) h)
      refine h1 N g m 0 (lev N K) _ _ τ _ hok (mN_mf hN hf (by decide) (by decide)) hgt hm (fun v hv => by rw [(hf.1 44 0 (by omega) (by decide)).1]; exact hl v hv) hR0 (mF_0 N g m _) (by omega) ?_ ?_
      · intro ω q' Q' cf' p1 p2 p3
        exact (loop (K + 1) 0 (by omega) ω _ _ (mf_trans hf (w48 p1)) (fun j hj => by rw [(p1.1 45 0 (by omega) (by decide)).2, h45]) (fR_mf hR0 p1 (by decide)) (mF_0 N g m _)).1 q' Q' cf' p2 p3
      · intro ω q' p' Q' cf' leaf' p1 p2 p3 p4 p5 p6 p7
        exact (loop (K + 1) 0 (by omega) ω _ _ (mf_trans hf (w48 p1)) (fun j hj => by rw [(p1.1 45 0 (by omega) (by decide)).2, h45]) (fR_mf hR0 p1 (by decide)) (mF_0 N g m _)).2 q' p' Q' cf' leaf' p2 p3 p4 p5 p6 p7
    | succ d ih =>
      intro k hkd τ hf h45 ha ht
      refine hg [23] 40 _ ?_
      refine br_c (fun h => ?_) (fun _ => ?_)
      · have h : nI 40 ≤ nI k := h
        rw [nI_leI (by omega) (by omega)] at h
        omega
      · refine And.intro (vp_in_nI (by omega) (by omega)) ?_
        show X (wI τ 46 0 (upd (τ.1 46 0) (nI k).toNatClampNeg (nI 0)), 23, [some (jR 38 0), some (jI (nI g)), some (jI (nI m)), some (jI (nI k + nI 1)), none, none], [])
        rw [nI_add, nI_clamp (by omega)]
        refine ih (k + 1) (by omega) _ (mf_wI hf (by decide) (by decide)) h45 (fun p i hp hi => ?_) (fun v hv => ?_)
        · rw [wI1, if_neg (by omega)]; exact ha p i hp hi
        · rw [wI1, if_pos ⟨rfl, rfl⟩, upd_at]
          by_cases e : v = k
          · rw [if_pos e]
          · rw [if_neg e]; exact ht v (by omega)
  have clrA : ∀ (d k : Nat), k + d = 120 → ∀ (τ : jm_G), mf coA [17] σ τ → τ.2 45 0 = σ.2 45 0 → (∀ i, i < k → τ.1 47 0 i = nI 0) →
      X (τ, 2, [some (jR 38 0), some (jI (nI g)), some (jI (nI m)), some (jI (nI k)), none, none], []) := by
    intro d
    induction d with
    | zero =>
      intro k hkd τ hf h45 ha
      have e : k = 120 := by omega
      subst e
      refine hg [23] 40 _ ?_
      refine br_c (fun _ => ?_) (fun h => absurd (show nI 120 ≤ nI 120 from (nI_leI (by omega) (by omega)).mpr (Nat.le_refl _)) h)
      exact clrT 40 0 (by omega) τ hf h45 (fun p i hp hi => ha _ (by omega)) (fun v hv => absurd hv (by omega))
    | succ d ih =>
      intro k hkd τ hf h45 ha
      refine hg [2] 40 _ ?_
      refine br_c (fun h => ?_) (fun _ => ?_)
      · have h : nI 120 ≤ nI k := h
        rw [nI_leI (by omega) (by omega)] at h
        omega
      · refine And.intro (vp_in_nI (by omega) (by omega)) ?_
        show X (wI τ 47 0 (upd (τ.1 47 0) (nI k).toNatClampNeg (nI 0)), 2, [some (jR 38 0), some (jI (nI g)), some (jI (nI m)), some (jI (nI k + nI 1)), none, none], [])
        rw [nI_add, nI_clamp (by omega)]
        refine ih (k + 1) (by omega) _ (mf_wI hf (by decide) (by decide)) h45 (fun i hi => ?_)
        rw [wI1, if_pos ⟨rfl, rfl⟩, upd_at]
        by_cases e : i = k
        · rw [if_pos e]
        · rw [if_neg e]; exact ha i (by omega)
  exact clrA 120 0 (by omega) σ (mf_refl _ _ _) rfl (fun i hi => absurd hi (by omega))
end
section
/-! the model's kept cuts: greatestIn, isAhead, makes, setOf -/
theorem mxL_end {l : Nat → Nat} {S n : Nat} (hS : ∀ j, S.testBit j = true → j < n) : ∀ d, mxL l S (n + d) = mxL l S n
  | 0 => rfl
  | d + 1 => by
    rw [← Nat.add_assoc, mxL, if_neg, mxL_end hS d]
    intro q
    have := hS _ q
    omega
abbrev ct_grIn (C : jm_C) : Prop := ∀ (N : nw) (S : Nat) (l : Nat → Nat) (σ : jm_G) (post : Option jm_V → jm_G → Prop), nw_ok N → mN N σ → S < 2 ^ 40 → (∀ j, S.testBit j = true → j < nN N ∧ σ.1 44 0 j = nI (l j) ∧ l j < 100) → post (some (jI (nI (mxL l S 40)))) σ → C kX10_greatestIn [jR 38 0, jJ (lN S)] σ post
theorem T_grIn (L : Nat) {C : jm_C} (hC : jm_mon C) (h1 : ct_mhas C) : ct_grIn (jm_up L C) := by
  intro N S l σ post hok hN hS hl hp
  refine jm_start rfl (Nat.le_of_ble_eq_true rfl) hC fun X hg hw => ?_
  have h40 := hok.1
  refine hg [5] 20 _ ?_
  show X (σ, 5, [some (jR 38 0), some (jJ (lN S)), none, some (jI (nI 0)), some (jI (nI 0))], [])
  have hb9 : ∀ n, mxL l S n < 100 := fun n => Nat.lt_of_le_of_lt (mxL_le (m := 99) (fun j hj => by have := (hl j hj).2.2; omega) n) (by omega)
  have main := jm_for (X := X) (fun k => (σ, 5, [some (jR 38 0), some (jJ (lN S)), none, some (jI (nI (mxL l S k))), some (jI (nI k))], [])) (nN N) ?_ ?_ 0 (by omega)
  · exact main
  · refine hg [5] 30 _ ?_
    refine br_c (fun _ => ?_) (fun h => ?_)
    · refine And.intro trivial ?_
      have e := mxL_end (l := l) (n := nN N) (fun j hj => (hl j hj).1) (40 - nN N)
      rw [show nN N + (40 - nN N) = 40 by omega] at e
      rw [e] at hp
      exact hp
    · have h : ¬ σ.1 38 0 1 ≤ nI (nN N) := h
      rw [hN.1, nI_leI (by omega) (by omega)] at h
      omega
  · intro k hk ih
    have h9 := hb9 k
    refine hg [5] 40 _ ?_
    refine br_c (fun h => ?_) (fun _ => ?_)
    · have h : σ.1 38 0 1 ≤ nI k := h
      rw [hN.1, nI_leI (by omega) (by omega)] at h
      omega
    · refine h1 S k σ _ (p40 hS) (by omega) ?_
      refine br_c (fun h => ?_) (fun h => ?_)
      · have h := bI_0.mp h
        refine jm_eqv (X := X) ih rfl rfl ?_ rfl
        show [some (jR 38 0), some (jJ (lN S)), none, some (jI (nI (mxL l S k))), some (jI (nI k + nI 1))] = _
        rw [nI_add, mxL, h]
        simp
      · have h := bI_n0.mp h
        obtain ⟨e0, e1, e2⟩ := hl k h
        have ek : (nI k).toNatClampNeg = k := nI_clamp (by omega)
        refine And.intro (vp_in_nI (by omega) (by omega)) ?_
        refine br_c (fun h2 => ?_) (fun h2 => ?_)
        · have h2 : σ.1 44 0 (nI k).toNatClampNeg ≤ nI (mxL l S k) := h2
          rw [ek, e1, nI_leI (by omega) (by omega)] at h2
          refine jm_eqv (X := X) ih rfl rfl ?_ rfl
          show [some (jR 38 0), some (jJ (lN S)), none, some (jI (nI (mxL l S k))), some (jI (nI k + nI 1))] = _
          rw [nI_add, mxL, if_pos h, Nat.max_eq_left h2]
        · have h2 : ¬ σ.1 44 0 (nI k).toNatClampNeg ≤ nI (mxL l S k) := h2
          rw [ek, e1, nI_leI (by omega) (by omega)] at h2
          refine And.intro (vp_in_nI (by omega) (by omega)) ?_
          refine jm_eqv (X := X) ih rfl rfl ?_ rfl
          show [some (jR 38 0), some (jJ (lN S)), none, some (jI (σ.1 44 0 (nI k).toNatClampNeg)), some (jI (nI k + nI 1))] = _
          rw [nI_add, ek, e1, mxL, if_pos h, Nat.max_eq_right (by omega)]
noncomputable def ahB (l : Nat → Nat) (a b : Nat) : Bool := @decide (plc l a < plc l b) (Nat.decLt _ _)
abbrev ct_ahead (C : jm_C) : Prop := ∀ (N : nw) (x y : Nat) (l : Nat → Nat) (σ : jm_G) (post : Option jm_V → jm_G → Prop), nw_ok N → mN N σ → x < 2 ^ 40 → y < 2 ^ 40 → cnt x 40 ≤ 6 → cnt y 40 ≤ 6 → (∀ j, x.testBit j = true ∨ y.testBit j = true → j < nN N ∧ σ.1 44 0 j = nI (l j) ∧ l j < 100) → post (some (jI (bI (decide (plc l x < plc l y))))) σ → C kX10_isAhead [jR 38 0, jJ (lN x), jJ (lN y)] σ post
theorem xor_low {x y j : Nat} (h1 : x.testBit j ≠ y.testBit j) (h2 : ∀ i, i < j → x.testBit i = y.testBit i) : (x ^^^ y).testBit j = true ∧ ∀ i, i < j → (x ^^^ y).testBit i = false := by
  refine ⟨?_, fun i hi => ?_⟩
  · rw [Nat.testBit_xor]
    revert h1
    cases x.testBit j <;> cases y.testBit j <;> simp
  · rw [Nat.testBit_xor, h2 i hi]
    cases y.testBit i <;> rfl
end
section
/-! the model's kept cuts: isAhead, makes, setOf -/
theorem T_ahead (L : Nat) {C : jm_C} (hC : jm_mon C) (h1 : ct_grIn C) (h2 : ct_mmany C) (h3 : ct_mlow C) (h4 : ct_mhas C) : ct_ahead (jm_up L C) := by
  intro N x y l σ post hok hN hx hy hx6 hy6 hl hp
  refine jm_start rfl (Nat.le_of_ble_eq_true rfl) hC fun X hg hw => ?_
  have hbx : mxL l x 40 < 100 := Nat.lt_of_le_of_lt (mxL_le (m := 99) (fun j hj => by have := (hl j (Or.inl hj)).2.2; omega) 40) (by omega)
  have hby : mxL l y 40 < 100 := Nat.lt_of_le_of_lt (mxL_le (m := 99) (fun j hj => by have := (hl j (Or.inr hj)).2.2; omega) 40) (by omega)
  have yes : ahd l x y → post (some (jI (nI 1))) σ := fun h => by
    rw [decide_eq_true ((plc_iff hx hy hx6 hy6).mpr h)] at hp
    exact hp
  have no : ¬ ahd l x y → post (some (jI (nI 0))) σ := fun h => by
    rw [decide_eq_false (fun q => h ((plc_iff hx hy hx6 hy6).mp q))] at hp
    exact hp
  refine hg [] 120 _ ?_
  refine h1 N x l σ _ hok hN hx (fun j hj => hl j (Or.inl hj)) ?_
  refine h1 N y l σ _ hok hN hy (fun j hj => hl j (Or.inr hj)) ?_
  refine br_c (fun h => ?_) (fun h => ?_)
  · have h : nI (mxL l x 40) = nI (mxL l y 40) := h
    have hne := h
    rw [nI_eq (by omega) (by omega)] at h
    refine h2 x σ _ (p40 hx) ?_
    refine h2 y σ _ (p40 hy) ?_
    refine br_c (fun h5 => ?_) (fun h5 => ?_)
    · have h5 : nI (cnt x 40) = nI (cnt y 40) := h5
      rw [nI_eq (by omega) (by omega)] at h5
      refine br_c (fun h6 => ?_) (fun h6 => ?_)
      · have h6 : lg_cmp (lN x) (lN y) = 0 := h6
        rw [cmp_0, lN_inj (Nat.lt_trans hx (by omega)) (Nat.lt_trans hy (by omega))] at h6
        refine And.intro (Or.inl rfl) (no ?_)
        subst h6
        rintro (q | ⟨-, q | ⟨-, j, q1, q2, -⟩⟩)
        · omega
        · omega
        · rw [q1] at q2; cases q2
      · have h6 : ¬ lg_cmp (lN x) (lN y) = 0 := h6
        rw [cmp_0, lN_inj (Nat.lt_trans hx (by omega)) (Nat.lt_trans hy (by omega))] at h6
        obtain ⟨j, j1, j2, j3⟩ := dif_bit hx hy h6
        obtain ⟨k1, k2⟩ := xor_low j2 j3
        have call : ∀ {post' : Option jm_V → jm_G → Prop}, (∀ v υ, post' v υ → post' v υ) → C kX10_lowest [jJ (lN (x ^^^ y))] σ post' → C kX10_lowest [jJ (lN x ^^^ lN y)] σ post' := fun _ h => by rw [fb_xorL]; exact h
        refine call (fun _ _ h => h) ?_
        refine h3 (x ^^^ y) j σ _ (p40 (Nat.xor_lt_two_pow hx hy)) k1 k2 ?_
        refine h4 x j σ _ (p40 hx) (by omega) ?_
        refine br_c (fun h7 => ?_) (fun h7 => ?_)
        · have h7 := bI_0.mp h7
          refine And.intro (Or.inl rfl) (no ?_)
          rintro (q | ⟨-, q | ⟨-, i, q1, q2, q3⟩⟩)
          · omega
          · omega
          · rcases Nat.lt_trichotomy i j with e | e | e
            · have := j3 i e; rw [q1, q2] at this; cases this
            · rw [e, h7] at q1; cases q1
            · exact j2 (q3 j e)
        · have h7 := bI_n0.mp h7
          refine And.intro (Or.inr rfl) (yes (Or.inr ⟨h, Or.inr ⟨h5, j, h7, ?_, j3⟩⟩))
          cases hq : y.testBit j with
          | false => rfl
          | true => exact absurd (h7.trans hq.symm) j2
    · have h5 : ¬ nI (cnt x 40) = nI (cnt y 40) := h5
      rw [nI_eq (by omega) (by omega)] at h5
      refine br_c (fun _ => ?_) (fun h => absurd hne h)
      refine h2 x σ _ (p40 hx) ?_
      refine h2 y σ _ (p40 hy) ?_
      refine br_c (fun h6 => ?_) (fun h6 => ?_)
      · have h6 : nI (cnt y 40) ≤ nI (cnt x 40) := h6
        rw [nI_leI (by omega) (by omega)] at h6
        refine And.intro (Or.inl rfl) (no ?_)
        rintro (q | ⟨-, q | ⟨q, -⟩⟩) <;> omega
      · have h6 : ¬ nI (cnt y 40) ≤ nI (cnt x 40) := h6
        rw [nI_leI (by omega) (by omega)] at h6
        exact And.intro (Or.inr rfl) (yes (Or.inr ⟨h, Or.inl (by omega)⟩))
  · have hne : ¬ nI (mxL l x 40) = nI (mxL l y 40) := h
    have h := hne
    rw [nI_eq (by omega) (by omega)] at h
    refine br_c (fun h5 => absurd h5 hne) (fun _ => ?_)
    refine br_c (fun h6 => ?_) (fun h6 => ?_)
    · have h6 : nI (mxL l y 40) ≤ nI (mxL l x 40) := h6
      rw [nI_leI (by omega) (by omega)] at h6
      refine And.intro (Or.inl rfl) (no ?_)
      rintro (q | ⟨q, -⟩) <;> omega
    · have h6 : ¬ nI (mxL l y 40) ≤ nI (mxL l x 40) := h6
      rw [nI_leI (by omega) (by omega)] at h6
      exact And.intro (Or.inr rfl) (yes (Or.inl (by omega)))
/-- the sets made so far: none twice -/
def dR (σ : jm_G) (n : Nat) (R : Nat → Nat) : Prop := σ.1 38 0 21 = nI n ∧ n ≤ 730 ∧ (∀ i, i < n → R i < 2 ^ 40 ∧ σ.2 52 0 i = lN (R i)) ∧ one n R
abbrev ct_makes (C : jm_C) : Prop := ∀ (n x K : Nat) (R : Nat → Nat) (σ : jm_G) (post : Option jm_V → jm_G → Prop), dR σ n R → n < 730 → x < 2 ^ 40 → K ≤ 6 → σ.1 38 0 7 = nI K →
  (∀ σ' n' R', mf [52] [21] σ σ' → dR σ' n' R' → n' ≤ n + 1 → rMore n R n' R' (fun y => cnt y 40 ≤ K ∧ y = x) → post none σ') → C kX10_makes [jR 38 0, jJ (lN x)] σ post
theorem T_makes (L : Nat) {C : jm_C} (hC : jm_mon C) (h1 : ct_mmany C) : ct_makes (jm_up L C) := by
  intro n x K R σ post hR hn hx hK h7 hp
  refine jm_start rfl (Nat.le_of_ble_eq_true rfl) hC fun X hg hw => ?_
  obtain ⟨r1, r2, r3, r4⟩ := id hR
  have hcx := cnt_le x 40
  refine hg [20] 40 _ ?_
  refine h1 x σ _ (p40 hx) ?_
  have gen : ∀ (d j : Nat), j + d = n → ∀ b : Bool, (b = true ↔ cnt x 40 ≤ K ∧ ∀ i, i < j → R i ≠ x) → X (σ, 20, [some (jR 38 0), some (jJ (lN x)), none, some (jI (bI b)), some (jI (nI j))], []) := by
    intro d
    induction d with
    | zero =>
      intro j hjd b hb
      have e : j = n := by omega
      subst e
      refine hg [20] 40 _ ?_
      refine br_c (fun _ => ?_) (fun h => ?_)
      · refine br_c (fun h => ?_) (fun h => ?_)
        · have h := bI_0.mp h
          refine And.intro trivial (hp σ j R (mf_refl _ _ _) hR (by omega) ⟨Nat.le_refl _, fun _ _ => rfl, fun i a b => absurd b (by omega), fun y hy => ?_⟩)
          apply Classical.byContradiction
          intro hno
          have : b = true := hb.mpr ⟨by rw [← hy.2]; exact hy.1, fun i hi e => hno ⟨i, hi, by rw [e, hy.2]⟩⟩
          rw [h] at this
          cases this
        · have h := bI_n0.mp h
          obtain ⟨hc, hno⟩ := hb.mp h
          refine And.intro (show vp_in (σ.1 38 0 21) 800 by rw [r1]; exact vp_in_nI (by omega) (by omega)) ?_
          have e1 : (σ.1 38 0 21).toNatClampNeg = j := by rw [r1, nI_clamp (by omega)]
          refine And.intro trivial (hp _ (j + 1) (add1 j R x) (mf_sF (mf_wJ (mf_refl _ _ _) (by decide) (by decide)) (by decide)) ⟨?_, by omega, fun i hi => ?_, one_add r4 hno⟩ (by omega) ⟨by omega, fun i hi => add1_lt hi, fun i a b => ?_, fun y hy => ⟨j, by omega, by rw [add1_q, hy.2]⟩⟩)
          · show upd (σ.1 38 0) 21 (σ.1 38 0 21 + nI 1) 21 = _
            rw [upd_at, if_pos rfl, r1, nI_add]
          · show _ ∧ vp_updL (σ.2 52 0) (σ.1 38 0 21).toNatClampNeg (lN x) i = _
            rw [e1, updL_at]
            by_cases e : i = j
            · rw [e, add1_q, if_pos rfl]; exact ⟨hx, rfl⟩
            · rw [add1_lt (by omega), if_neg e]; exact r3 i (by omega)
          · have e : i = j := by omega
            rw [e, add1_q]
            exact ⟨hc, rfl⟩
      · have h : ¬ σ.1 38 0 21 ≤ nI j := h
        rw [r1, nI_leI (by omega) (by omega)] at h
        omega
    | succ d ih =>
      intro j hjd b hb
      refine hg [20] 40 _ ?_
      refine br_c (fun h => ?_) (fun _ => ?_)
      · have h : σ.1 38 0 21 ≤ nI j := h
        rw [r1, nI_leI (by omega) (by omega)] at h
        omega
      · refine br_c (fun h => ?_) (fun h => ?_)
        · have h := bI_0.mp h
          show X (σ, 20, [some (jR 38 0), some (jJ (lN x)), none, some (jI (bI false)), some (jI (nI j + nI 1))], [])
          rw [nI_add]
          refine ih (j + 1) (by omega) false ⟨fun q => (by cases q), fun q => ?_⟩
          rw [← h]
          exact hb.mpr ⟨q.1, fun i hi => q.2 i (by omega)⟩
        · have h := bI_n0.mp h
          obtain ⟨hc, hno⟩ := hb.mp h
          obtain ⟨s1, s2⟩ := r3 j (by omega)
          refine And.intro (vp_in_nI (by omega) (by omega)) ?_
          refine br_c (fun h5 => ?_) (fun h5 => ?_)
          · have h5 : lg_cmp (σ.2 52 0 (nI j).toNatClampNeg) (lN x) = 0 := h5
            rw [nI_clamp (by omega), s2, cmp_0, lN_inj (Nat.lt_trans s1 (by omega)) (Nat.lt_trans hx (by omega))] at h5
            show X (σ, 20, [some (jR 38 0), some (jJ (lN x)), none, some (jI (bI false)), some (jI (nI j + nI 1))], [])
            rw [nI_add]
            exact ih (j + 1) (by omega) false ⟨fun q => (by cases q), fun q => absurd h5 (q.2 j (by omega))⟩
          · have h5 : ¬ lg_cmp (σ.2 52 0 (nI j).toNatClampNeg) (lN x) = 0 := h5
            rw [nI_clamp (by omega), s2, cmp_0, lN_inj (Nat.lt_trans s1 (by omega)) (Nat.lt_trans hx (by omega))] at h5
            show X (σ, 20, [some (jR 38 0), some (jJ (lN x)), none, some (jI (bI true)), some (jI (nI j + nI 1))], [])
            rw [nI_add]
            refine ih (j + 1) (by omega) true ⟨fun _ => ⟨hc, fun i hi => ?_⟩, fun _ => rfl⟩
            by_cases e : i = j
            · rw [e]; exact h5
            · exact hno i (by omega)
  refine br_c (fun h => ?_) (fun h => ?_)
  · have h : σ.1 38 0 7 < nI (cnt x 40) := h
    rw [h7, nI_ltI (by omega) (by omega)] at h
    exact gen n 0 (by omega) false ⟨fun q => (by cases q), fun q => by omega⟩
  · have h : ¬ σ.1 38 0 7 < nI (cnt x 40) := h
    rw [h7, nI_ltI (by omega) (by omega)] at h
    exact gen n 0 (by omega) true ⟨fun _ => ⟨by omega, fun i hi => absurd hi (by omega)⟩, fun _ => rfl⟩
/-- the kept cuts in the model -/
def mkR (σ : jm_G) (n : Nat) (kp : Nat → Nat × (Nat → Nat)) : Prop := ∀ s, s < n → (kp s).1 ≤ 8 ∧ σ.1 51 0 s = nI (kp s).1 ∧ ∀ c, c < (kp s).1 → σ.2 50 0 (8 * s + c) = lN ((kp s).2 c)
/-- the i-th set of a source, 0 if none -/
def stO (kp : Nat → Nat × (Nat → Nat)) (s i : Nat) : Nat := if i = 0 then 2 ^ s else if i ≤ (kp s).1 then (kp s).2 (i - 1) else 0
abbrev ct_setOf (C : jm_C) : Prop := ∀ (N : nw) (s i n : Nat) (kp : Nat → Nat × (Nat → Nat)) (σ : jm_G) (post : Option jm_V → jm_G → Prop), nw_ok N → mN N σ → s < n → n ≤ nN N → i < 9 → mkR σ n kp → (isG N s = false → (kp s).1 = 0) → post (some (jJ (lN (stO kp s i)))) σ → C kX10_setOf [jR 38 0, jI (nI s), jI (nI i)] σ post
theorem T_setOf (L : Nat) {C : jm_C} (hC : jm_mon C) : ct_setOf (jm_up L C) := by
  intro N s i n kp σ post hok hN hs hn hi hk hleaf hp
  refine jm_start rfl (Nat.le_of_ble_eq_true rfl) hC fun X hg hw => ?_
  have h40 := hok.1
  obtain ⟨k1, k2, k3⟩ := hk s hs
  have es : (nI s).toNatClampNeg = s := nI_clamp (by omega)
  have hins : vp_in (nI s) 40 := vp_in_nI (by omega) (by omega)
  unfold stO at hp
  refine hg [] 60 _ ?_
  refine br_c (fun h => ?_) (fun h => ?_)
  · have h : nI i = nI 0 := h
    rw [nI_eq (by omega) (by omega)] at h
    rw [if_pos h] at hp
    refine And.intro trivial ?_
    show post (some (jJ (lN 1 <<< ((nI s).toInt64 &&& 63)))) σ
    rw [lN_shl1 (by omega)]
    exact hp
  · have h : ¬ nI i = nI 0 := h
    rw [nI_eq (by omega) (by omega)] at h
    rw [if_neg h] at hp
    refine And.intro hins ?_
    refine br_c (fun h2 => ?_) (fun h2 => ?_)
    · refine And.intro hins ?_
      refine br_c (fun h3 => ?_) (fun h3 => ?_)
      · have h3 : σ.1 51 0 (nI s).toNatClampNeg < nI i := h3
        rw [es, k2, nI_ltI (by omega) (by omega)] at h3
        rw [if_neg (by omega)] at hp
        exact And.intro trivial hp
      · have h3 : ¬ σ.1 51 0 (nI s).toNatClampNeg < nI i := h3
        rw [es, k2, nI_ltI (by omega) (by omega)] at h3
        rw [if_pos (by omega)] at hp
        have e : nI 8 * nI s + nI i - nI 1 = nI (8 * s + (i - 1)) := by rw [pk_mul, nI_add, pk_sub (by omega), show 8 * s + i - 1 = 8 * s + (i - 1) by omega]
        refine And.intro (show vp_in (nI 8 * nI s + nI i - nI 1) 320 by rw [e]; exact vp_in_nI (by omega) (by omega)) ?_
        refine And.intro trivial ?_
        show post (some (jJ (σ.2 50 0 (nI 8 * nI s + nI i - nI 1).toNatClampNeg))) σ
        rw [e, nI_clamp (by omega), k3 (i - 1) (by omega)]
        exact hp
    · have h2 : ¬ σ.1 39 0 (nI s).toNatClampNeg = nI 1 := h2
      rw [es, mN_gate hok hN (by omega)] at h2
      have := hleaf (by simpa using h2)
      rw [if_neg (by omega)] at hp
      exact And.intro trivial hp
end
section
/-! the model's kept cuts: puts -/
def f8 (l : Nat → Nat) (P : Nat → Prop) (n : Nat) (kc : Nat → Nat) : Prop :=
  n ≤ 8 ∧ (∀ i, i < n → P (kc i)) ∧ (∀ i j, i < j → j < n → plc l (kc i) < plc l (kc j)) ∧ ∀ x, P x → (∃ i, i < n ∧ kc i = x) ∨ (n = 8 ∧ ∀ i, i < n → plc l (kc i) < plc l x)
theorem f8_kept {l : Nat → Nat} {M : Nat → Prop} {n : Nat} {kc : Nat → Nat} : f8 l (mn M) n kc ↔ isKept l M n kc := Iff.rfl
def insR (l : Nat → Nat) (n : Nat) (kc : Nat → Nat) (x n' : Nat) (kc' : Nat → Nat) : Prop :=
  ∃ p, p ≤ n ∧ (∀ i, i < p → plc l (kc i) ≤ plc l x) ∧ (∀ i, p ≤ i → i < n → plc l x < plc l (kc i)) ∧ ((p = 8 ∧ n' = n ∧ ∀ i, i < n → kc' i = kc i) ∨ (p < 8 ∧ n' = (if n < 8 then n + 1 else 8) ∧ ∀ i, i < n' → kc' i = if i < p then kc i else if i = p then x else kc (i - 1)))
theorem ins_f8 {l : Nat → Nat} {P : Nat → Prop} {n n' x : Nat} {kc kc' : Nat → Nat} (h : f8 l P n kc) (hne : ∀ y, P y → plc l y ≠ plc l x) (hi : insR l n kc x n' kc') : f8 l (fun y => P y ∨ y = x) n' kc' := by
  obtain ⟨a1, a2, a3, a4⟩ := h
  obtain ⟨p, p1, p2, p3, p4⟩ := hi
  have p2 : ∀ i, i < p → plc l (kc i) < plc l x := fun i hi => Nat.lt_of_le_of_ne (p2 i hi) (hne _ (a2 i (by omega)))
  rcases p4 with ⟨e1, e2, e3⟩ | ⟨e1, e2, e3⟩
  · have e8 : n = 8 := by omega
    rw [e2]
    refine ⟨a1, fun i hi => ?_, fun i j hi hj => ?_, fun y hy => ?_⟩
    · rw [e3 i hi]; exact Or.inl (a2 i hi)
    · rw [e3 i (by omega), e3 j hj]; exact a3 i j hi hj
    · rcases hy with hy | hy
      · rcases a4 y hy with ⟨i, hi, e⟩ | ⟨q1, q2⟩
        · exact Or.inl ⟨i, hi, by rw [e3 i hi]; exact e⟩
        · exact Or.inr ⟨q1, fun i hi => by rw [e3 i hi]; exact q2 i hi⟩
      · refine Or.inr ⟨e8, fun i hi => ?_⟩
        rw [e3 i hi, hy]; exact p2 i (by omega)
  · have hn' : n' ≤ 8 ∧ n' ≤ n + 1 ∧ p < n' ∧ (n < 8 → n' = n + 1) ∧ (¬ n < 8 → n' = 8 ∧ n = 8) := by
      rw [e2]
      split <;> omega
    obtain ⟨n1, n2, n3, n4, n5⟩ := hn'
    have kv : ∀ i, i < n' → (i < p ∧ kc' i = kc i) ∨ (i = p ∧ kc' i = x) ∨ (p < i ∧ kc' i = kc (i - 1)) := by
      intro i hi
      rw [e3 i hi]
      by_cases q : i < p
      · rw [if_pos q]; exact Or.inl ⟨q, rfl⟩
      · rw [if_neg q]
        by_cases q2 : i = p
        · rw [if_pos q2]; exact Or.inr (Or.inl ⟨q2, rfl⟩)
        · rw [if_neg q2]; exact Or.inr (Or.inr ⟨by omega, rfl⟩)
    refine ⟨n1, fun i hi => ?_, fun i j hi hj => ?_, fun y hy => ?_⟩
    · rcases kv i hi with ⟨q, e⟩ | ⟨q, e⟩ | ⟨q, e⟩
      · rw [e]; exact Or.inl (a2 i (by omega))
      · exact Or.inr e
      · rw [e]; exact Or.inl (a2 (i - 1) (by omega))
    · rcases kv i (by omega) with ⟨q, e⟩ | ⟨q, e⟩ | ⟨q, e⟩
      · rcases kv j hj with ⟨r, f⟩ | ⟨r, f⟩ | ⟨r, f⟩
        · rw [e, f]; exact a3 i j hi (by omega)
        · rw [e, f]; exact p2 i q
        · rw [e, f]; exact a3 i (j - 1) (by omega) (by omega)
      · rcases kv j hj with ⟨r, f⟩ | ⟨r, f⟩ | ⟨r, f⟩
        · omega
        · omega
        · rw [e, f]; exact p3 (j - 1) (by omega) (by omega)
      · rcases kv j hj with ⟨r, f⟩ | ⟨r, f⟩ | ⟨r, f⟩
        · omega
        · omega
        · rw [e, f]; exact a3 (i - 1) (j - 1) (by omega) (by omega)
    · -- all of them are before one that falls out
      have before : ∀ y, ¬ n < 8 → (∀ i, i < 7 → plc l (kc i) < plc l y) → plc l x < plc l y → n' = 8 ∧ ∀ i, i < n' → plc l (kc' i) < plc l y := by
        intro y q1 q2 q3
        refine ⟨(n5 q1).1, fun i hi => ?_⟩
        rcases kv i hi with ⟨q, e⟩ | ⟨q, e⟩ | ⟨q, e⟩
        · rw [e]; exact q2 i (by omega)
        · rw [e]; exact q3
        · rw [e]; exact q2 (i - 1) (by omega)
      rcases hy with hy | hy
      · rcases a4 y hy with ⟨i, hi, e⟩ | ⟨q1, q2⟩
        · by_cases q : i < p
          · refine Or.inl ⟨i, by omega, ?_⟩
            rw [e3 i (by omega), if_pos q]; exact e
          · by_cases q3 : i + 1 < n'
            · refine Or.inl ⟨i + 1, q3, ?_⟩
              rw [e3 (i + 1) q3, if_neg (by omega), if_neg (by omega)]
              exact e
            · have hn8 : ¬ n < 8 := fun q4 => by have := n4 q4; omega
              have hi7 : i = 7 := by have := n5 hn8; omega
              refine Or.inr (before y hn8 (fun j hj => ?_) ?_)
              · rw [← e]; exact a3 j i (by omega) hi
              · rw [← e]; exact p3 i (by omega) hi
        · refine Or.inr (before y (by omega) (fun j hj => q2 j (by omega)) ?_)
          exact Nat.lt_trans (p3 7 (by omega) (by omega)) (q2 7 (by omega))
      · refine Or.inl ⟨p, n3, ?_⟩
        rw [e3 p n3, if_neg (by omega), if_pos rfl, hy]
abbrev ct_puts (C : jm_C) : Prop := ∀ (N : nw) (g x n : Nat) (kc l : Nat → Nat) (σ : jm_G) (post : Option jm_V → jm_G → Prop), nw_ok N → mN N σ → g < nN N → n ≤ 8 → x < 2 ^ 40 → cnt x 40 ≤ 6 → (∀ c, c < n → kc c < 2 ^ 40 ∧ cnt (kc c) 40 ≤ 6) → (∀ j, (x.testBit j = true ∨ ∃ c, c < n ∧ (kc c).testBit j = true) → j < nN N ∧ σ.1 44 0 j = nI (l j) ∧ l j < 100) → (∀ i j, i < j → j < n → plc l (kc i) < plc l (kc j)) → (∀ c, c < n → σ.2 50 0 (8 * g + c) = lN (kc c)) →
  (∀ σ' n' kc', mf [50] [] σ σ' → (∀ j, (j < 8 * g ∨ 8 * g + 8 ≤ j) → σ'.2 50 0 j = σ.2 50 0 j) → (∀ c, c < n' → σ'.2 50 0 (8 * g + c) = lN (kc' c)) → insR l n kc x n' kc' → post (some (jI (nI n'))) σ') → C kX10_puts [jR 38 0, jI (nI g), jJ (lN x), jI (nI n)] σ post
theorem T_puts (L : Nat) {C : jm_C} (hC : jm_mon C) (h1 : ct_ahead C) : ct_puts (jm_up L C) := by
  intro N g x n kc l σ post hok hN hgn hn hx hx6 hkc hl hso h50 hp
  refine jm_start rfl (Nat.le_of_ble_eq_true rfl) hC fun X hg hw => ?_
  have h40 := hok.1
  refine hg [4, 67] 30 _ ?_
  show X (σ, 4, [some (jR 38 0), some (jI (nI g)), some (jJ (lN x)), none, some (jI (nI n)), some (jI (nI n)), none, none], [])
  -- the place is found
  have put : ∀ p, p ≤ n → p < 8 → (∀ i, i < p → plc l (kc i) ≤ plc l x) → (∀ i, p ≤ i → i < n → plc l x < plc l (kc i)) → ∀ (last : Nat), last = (if n < 8 then n else 7) → ∀ (d k : Nat), p + d = k → k ≤ last → ∀ (τ : jm_G), mf [50] [] σ τ → (∀ j, (j < 8 * g ∨ 8 * g + 8 ≤ j) → τ.2 50 0 j = σ.2 50 0 j) → (∀ c, c ≤ k → c < n → τ.2 50 0 (8 * g + c) = lN (kc c)) → (∀ c, k < c → c ≤ last → τ.2 50 0 (8 * g + c) = lN (kc (c - 1))) →
      X (τ, 67, [some (jR 38 0), some (jI (nI g)), some (jJ (lN x)), none, some (jI (nI n)), some (jI (nI p)), some (jI (nI last)), some (jI (nI k))], []) := by
    intro p hp1 hp8 hp2 hp3 last hlast d
    have hl7 : last ≤ 7 := by rw [hlast]; split <;> omega
    induction d with
    | zero =>
      intro k hkd hkl τ q1 q2 q3 q4
      have e : k = p := by omega
      subst e
      have e8 : nI 8 * nI g + nI k = nI (8 * g + k) := by rw [pk_mul, nI_add]
      have fin : ∀ n', n' = (if n < 8 then n + 1 else 8) → post (some (jI (nI n'))) (wJ τ 50 0 (vp_updL (τ.2 50 0) (nI 8 * nI g + nI k).toNatClampNeg (lN x))) := by
        intro n' hn'
        have hn2 : n' = last + 1 := by rw [hn', hlast]; split <;> omega
        rw [e8, nI_clamp (by omega)]
        refine hp _ n' (fun i => if i < k then kc i else if i = k then x else kc (i - 1)) (mf_wJ q1 (by decide) (by decide)) (fun j hj => ?_) (fun c hc => ?_) ⟨k, hp1, hp2, hp3, Or.inr ⟨hp8, hn', fun i _ => rfl⟩⟩
        · rw [wJ2, if_pos ⟨rfl, rfl⟩, updL_at, if_neg (by omega)]; exact q2 j hj
        · rw [wJ2, if_pos ⟨rfl, rfl⟩, updL_at]
          by_cases e1 : c < k
          · rw [if_neg (by omega), if_pos e1]; exact q3 c (by omega) (by omega)
          · rw [if_neg e1]
            by_cases e2 : c = k
            · rw [if_pos (by omega), if_pos e2]
            · rw [if_neg (by omega), if_neg e2]; exact q4 c (by omega) (by omega)
      refine hg [67] 60 _ ?_
      refine br_c (fun _ => ?_) (fun h => ?_)
      · refine And.intro (show vp_in (nI 8 * nI g + nI k) 320 by rw [e8]; exact vp_in_nI (by omega) (by omega)) ?_
        refine br_c (fun h => ?_) (fun h => ?_)
        · have h : nI 8 ≤ nI n := h
          rw [nI_leI (by omega) (by omega)] at h
          refine And.intro trivial (fin n ?_)
          rw [if_neg (by omega)]; omega
        · have h : ¬ nI 8 ≤ nI n := h
          rw [nI_leI (by omega) (by omega)] at h
          refine And.intro trivial ?_
          have := fin (n + 1) (by rw [if_pos (by omega)])
          rw [← nI_add] at this
          exact this
      · have h : ¬ nI k ≤ nI k := h
        rw [nI_leI (by omega) (by omega)] at h
        omega
    | succ d ih =>
      intro k hkd hkl τ q1 q2 q3 q4
      have e8 : nI 8 * nI g + nI k = nI (8 * g + k) := by rw [pk_mul, nI_add]
      have e8' : nI 8 * nI g + nI k - nI 1 = nI (8 * g + (k - 1)) := by rw [e8, pk_sub (by omega), show 8 * g + k - 1 = 8 * g + (k - 1) by omega]
      have hln : last ≤ n := by rw [hlast]; split <;> omega
      refine hg [67] 60 _ ?_
      refine br_c (fun h => ?_) (fun _ => ?_)
      · have h : nI k ≤ nI p := h
        rw [nI_leI (by omega) (by omega)] at h
        omega
      · refine And.intro (show vp_in (nI 8 * nI g + nI k - nI 1) 320 by rw [e8']; exact vp_in_nI (by omega) (by omega)) ?_
        refine And.intro (show vp_in (nI 8 * nI g + nI k) 320 by rw [e8]; exact vp_in_nI (by omega) (by omega)) ?_
        show X (wJ τ 50 0 (vp_updL (τ.2 50 0) (nI 8 * nI g + nI k).toNatClampNeg (τ.2 50 0 (nI 8 * nI g + nI k - nI 1).toNatClampNeg)), 67, [some (jR 38 0), some (jI (nI g)), some (jJ (lN x)), none, some (jI (nI n)), some (jI (nI p)), some (jI (nI last)), some (jI (nI k + -(nI 1)))], [])
        rw [e8', e8, nI_clamp (by omega), nI_clamp (by omega), q3 (k - 1) (by omega) (by omega), show nI k = nI ((k - 1) + 1) by rw [show k - 1 + 1 = k by omega], nI_m1]
        refine ih (k - 1) (by omega) (by omega) _ (mf_wJ q1 (by decide) (by decide)) (fun j hj => ?_) (fun c h1 h2 => ?_) (fun c h1 h2 => ?_)
        · rw [wJ2, if_pos ⟨rfl, rfl⟩, updL_at, if_neg (by omega)]; exact q2 j hj
        · rw [wJ2, if_pos ⟨rfl, rfl⟩, updL_at, if_neg (by omega)]; exact q3 c (by omega) h2
        · rw [wJ2, if_pos ⟨rfl, rfl⟩, updL_at]
          by_cases e : c = k
          · rw [if_pos (by omega), e]
          · rw [if_neg (by omega)]; exact q4 c (by omega) h2
  -- from the place on
  have go : ∀ p, p ≤ n → p < 8 → (∀ i, i < p → plc l (kc i) ≤ plc l x) → (∀ i, p ≤ i → i < n → plc l x < plc l (kc i)) → ∀ (last : Nat), last = (if n < 8 then n else 7) → X (σ, 67, [some (jR 38 0), some (jI (nI g)), some (jJ (lN x)), none, some (jI (nI n)), some (jI (nI p)), some (jI (nI last)), some (jI (nI last))], []) := by
    intro p q1 q2 q3 q4 last hlast
    have hpl : p ≤ last := by rw [hlast]; split <;> omega
    refine put p q1 q2 q3 q4 last hlast (last - p) last (by omega) (Nat.le_refl _) σ (mf_refl _ _ _) (fun _ _ => rfl) (fun c _ hc => h50 c hc) (fun c h1 h2 => by omega)
  have gen : ∀ (p : Nat), p ≤ n → (∀ i, p ≤ i → i < n → plc l x < plc l (kc i)) → X (σ, 4, [some (jR 38 0), some (jI (nI g)), some (jJ (lN x)), none, some (jI (nI n)), some (jI (nI p)), none, none], []) := by
    intro p
    induction p with
    | zero =>
      intro hp1 hp3
      refine hg [4, 67] 60 _ ?_
      refine br_c (fun _ => ?_) (fun h => absurd (show nI 0 ≤ nI 0 from (nI_leI (by omega) (by omega)).mpr (Nat.le_refl _)) h)
      refine br_c (fun h => ?_) (fun _ => ?_)
      · have h : nI 0 = nI 8 := h
        rw [nI_eq (by omega) (by omega)] at h
        omega
      · refine br_c (fun h => ?_) (fun h => ?_)
        · have h : nI 8 ≤ nI n := h
          rw [nI_leI (by omega) (by omega)] at h
          exact go 0 hp1 (by omega) (fun i hi => absurd hi (by omega)) hp3 7 (by rw [if_neg (by omega)])
        · have h : ¬ nI 8 ≤ nI n := h
          rw [nI_leI (by omega) (by omega)] at h
          exact go 0 hp1 (by omega) (fun i hi => absurd hi (by omega)) hp3 n (by rw [if_pos (by omega)])
    | succ p ih =>
      intro hp1 hp3
      have e8' : nI 8 * nI g + nI (p + 1) - nI 1 = nI (8 * g + p) := by rw [pk_mul, nI_add, pk_sub (by omega), show 8 * g + (p + 1) - 1 = 8 * g + p by omega]
      have ev : σ.2 50 0 (nI 8 * nI g + nI (p + 1) - nI 1).toNatClampNeg = lN (kc p) := by rw [e8', nI_clamp (by omega)]; exact h50 p (by omega)
      refine hg [4, 67] 80 _ ?_
      refine br_c (fun h => ?_) (fun _ => ?_)
      · have h : nI (p + 1) ≤ 0 := h
        rw [pos_0 (by omega)] at h
        omega
      · refine And.intro (show vp_in (nI 8 * nI g + nI (p + 1) - nI 1) 320 by rw [e8']; exact vp_in_nI (by omega) (by omega)) ?_
        have call : ∀ {post' : Option jm_V → jm_G → Prop}, (∀ v υ, post' v υ → post' v υ) → C kX10_isAhead [jR 38 0, jJ (lN x), jJ (lN (kc p))] σ post' → C kX10_isAhead [jR 38 0, jJ (lN x), jJ (σ.2 50 0 (nI 8 * nI g + nI (p + 1) - nI 1).toNatClampNeg)] σ post' := fun _ h => by rw [ev]; exact h
        refine call (fun _ _ h => h) ?_
        obtain ⟨k1, k2⟩ := hkc p (by omega)
        refine h1 N x (kc p) l σ _ hok hN hx k1 hx6 k2 (fun j hj => hl j (hj.elim Or.inl fun q => Or.inr ⟨p, by omega, q⟩)) ?_
        refine br_c (fun h => ?_) (fun h => ?_)
        · have h := bI_0.mp h
          have h := of_decide_eq_false h
          have hall : ∀ i, i < p + 1 → plc l (kc i) ≤ plc l x := fun i hi => by
            by_cases e : i = p
            · rw [e]; omega
            · have := hso i p (by omega) (by omega); omega
          refine br_c (fun h5 => ?_) (fun h5 => ?_)
          · have h5 : nI (p + 1) = nI 8 := h5
            rw [nI_eq (by omega) (by omega)] at h5
            refine And.intro trivial (hp σ n kc (mf_refl _ _ _) (fun _ _ => rfl) h50 ⟨8, by omega, fun i hi => hall i (by omega), fun i q1 q2 => by omega, Or.inl ⟨rfl, rfl, fun _ _ => rfl⟩⟩)
          · have h5 : ¬ nI (p + 1) = nI 8 := h5
            rw [nI_eq (by omega) (by omega)] at h5
            refine br_c (fun h6 => ?_) (fun h6 => ?_)
            · have h6 : nI 8 ≤ nI n := h6
              rw [nI_leI (by omega) (by omega)] at h6
              exact go (p + 1) hp1 (by omega) hall hp3 7 (by rw [if_neg (by omega)])
            · have h6 : ¬ nI 8 ≤ nI n := h6
              rw [nI_leI (by omega) (by omega)] at h6
              exact go (p + 1) hp1 (by omega) hall hp3 n (by rw [if_pos (by omega)])
        · have h := bI_n0.mp h
          have h := of_decide_eq_true h
          show X (σ, 4, [some (jR 38 0), some (jI (nI g)), some (jJ (lN x)), none, some (jI (nI n)), some (jI (nI (p + 1) + -(nI 1))), none, none], [])
          rw [nI_m1]
          refine ih (by omega) fun i q1 q2 => ?_
          by_cases e : i = p
          · rw [e]; exact h
          · exact hp3 i (by omega) q2
  exact gen n (Nat.le_refl _) fun i q1 q2 => by omega
end
section
/-! the model's kept cuts: which sets are made -/
def mva (N : nw) (g : Nat) (kp : Nat → Nat × (Nat → Nat)) (k : Nat) : Nat := stO kp (nR N g 0) (k % 9)
def mvb (N : nw) (g : Nat) (kp : Nat → Nat × (Nat → Nat)) (k : Nat) : Nat := if 1 < ar (nK N g) then stO kp (nR N g 1) (k / 9 % 9) else mva N g kp k
def mvc (N : nw) (g : Nat) (kp : Nat → Nat × (Nat → Nat)) (k : Nat) : Nat := if 2 < ar (nK N g) then stO kp (nR N g 2) (k / 9 / 9) else mva N g kp k
def mOK (N : nw) (g : Nat) (kp : Nat → Nat × (Nat → Nat)) (k x : Nat) : Prop := mva N g kp k ≠ 0 ∧ mvb N g kp k ≠ 0 ∧ mvc N g kp k ≠ 0 ∧ x = mva N g kp k ||| mvb N g kp k ||| mvc N g kp k
def mlim (N : nw) (g : Nat) : Nat := if ar (nK N g) = 1 then 9 else if ar (nK N g) = 2 then 81 else 729
theorem stO_ch {N : nw} {g p i : Nat} {kp : Nat → Nat × (Nat → Nat)} (hp : p < ar (nK N g)) (h : stO kp (nR N g p) i ≠ 0) : i < chN N g kp p ∧ stO kp (nR N g p) i = chC N g kp p i := by
  unfold stO at h ⊢
  unfold chN chC
  rw [if_pos hp, if_pos hp]
  by_cases e : i = 0
  · rw [if_pos e, if_pos e]; exact ⟨by omega, rfl⟩
  · rw [if_neg e] at h ⊢
    rw [if_neg e]
    by_cases e2 : i ≤ (kp (nR N g p)).1
    · rw [if_pos e2]; exact ⟨by omega, rfl⟩
    · rw [if_neg e2] at h; exact absurd rfl h
theorem ch_stO {N : nw} {g p i : Nat} {kp : Nat → Nat × (Nat → Nat)} (hp : p < ar (nK N g)) (hz : ∀ c, c < (kp (nR N g p)).1 → (kp (nR N g p)).2 c ≠ 0) (h : i < chN N g kp p) : stO kp (nR N g p) i = chC N g kp p i ∧ stO kp (nR N g p) i ≠ 0 := by
  unfold chN at h
  unfold stO chC
  rw [if_pos hp] at h ⊢
  by_cases e : i = 0
  · rw [if_pos e, if_pos e]
    exact ⟨rfl, Nat.ne_of_gt (Nat.two_pow_pos _)⟩
  · rw [if_neg e, if_neg e, if_pos (by omega)]
    exact ⟨rfl, hz _ (by omega)⟩
theorem chN_1 {N : nw} {g p : Nat} {kp : Nat → Nat × (Nat → Nat)} (hp : ¬ p < ar (nK N g)) : chN N g kp p = 1 ∧ ∀ i, chC N g kp p i = 0 := by
  unfold chN chC
  rw [if_neg hp]
  exact ⟨rfl, fun i => if_neg hp⟩
theorem or_self3 (a : Nat) : a ||| a ||| a = a ||| 0 ||| 0 := set_eq fun i => by
  simp only [Nat.testBit_or, Nat.zero_testBit]
  cases a.testBit i <;> rfl
theorem or_aba (a b : Nat) : a ||| b ||| a = a ||| b ||| 0 := set_eq fun i => by
  simp only [Nat.testBit_or, Nat.zero_testBit]
  cases a.testBit i <;> cases b.testBit i <;> rfl
theorem mOK_cand {N : nw} {K g k x : Nat} {kp : Nat → Nat × (Nat → Nat)} (h : mOK N g kp k x) (hc : cnt x 40 ≤ K) : cand N K g kp x := by
  obtain ⟨h1, h2, h3, h4⟩ := h
  have har := ar_pos (nK N g)
  obtain ⟨a1, a2⟩ := stO_ch (N := N) (g := g) (p := 0) (kp := kp) (by omega) h1
  refine Or.inr ⟨hc, ?_⟩
  unfold mvb at h2 h4
  unfold mvc at h3 h4
  by_cases q1 : 1 < ar (nK N g)
  · rw [if_pos q1] at h2 h4
    obtain ⟨b1, b2⟩ := stO_ch q1 h2
    by_cases q2 : 2 < ar (nK N g)
    · rw [if_pos q2] at h3 h4
      obtain ⟨c1, c2⟩ := stO_ch q2 h3
      refine ⟨_, _, _, a1, b1, c1, ?_⟩
      rw [h4, ← a2, ← b2, ← c2]
      rfl
    · rw [if_neg q2] at h4
      obtain ⟨n1, n2⟩ := chN_1 (kp := kp) q2
      refine ⟨_, _, 0, a1, b1, by omega, ?_⟩
      rw [h4, n2, ← a2, ← b2]
      exact or_aba _ _
  · rw [if_neg q1] at h4
    rw [if_neg (by omega)] at h4
    obtain ⟨n1, n2⟩ := chN_1 (kp := kp) q1
    obtain ⟨m1, m2⟩ := chN_1 (N := N) (g := g) (p := 2) (kp := kp) (by omega)
    refine ⟨_, 0, 0, a1, by omega, by omega, ?_⟩
    rw [h4, n2, m2, ← a2]
    exact or_self3 _
theorem cand_mOK {N : nw} {g x a b c : Nat} {kp : Nat → Nat × (Nat → Nat)} (hz : ∀ p, p < ar (nK N g) → (kp (nR N g p)).1 ≤ 8 ∧ ∀ c, c < (kp (nR N g p)).1 → (kp (nR N g p)).2 c ≠ 0) (ha : a < chN N g kp 0) (hb : b < chN N g kp 1) (hc : c < chN N g kp 2) (hx : x = chC N g kp 0 a ||| chC N g kp 1 b ||| chC N g kp 2 c) : ∃ k, k < mlim N g ∧ mOK N g kp k x := by
  have har := ar_pos (nK N g)
  have h9 : ∀ p i, p < ar (nK N g) → i < chN N g kp p → i < 9 := fun p i hp hi => by
    unfold chN at hi
    rw [if_pos hp] at hi
    have := (hz p hp).1
    omega
  have ha9 := h9 0 a (by omega) ha
  obtain ⟨a1, a2⟩ := ch_stO (p := 0) (by omega) (hz 0 (by omega)).2 ha
  unfold mlim mOK mvb mvc mva
  by_cases q1 : 1 < ar (nK N g)
  · have hb9 := h9 1 b q1 hb
    obtain ⟨b1, b2⟩ := ch_stO q1 (hz 1 q1).2 hb
    by_cases q2 : 2 < ar (nK N g)
    · have hc9 := h9 2 c q2 hc
      obtain ⟨c1, c2⟩ := ch_stO q2 (hz 2 q2).2 hc
      refine ⟨a + 9 * (b + 9 * c), by rw [if_neg (by omega), if_neg (by omega)]; omega, ?_⟩
      rw [if_pos q1, if_pos q2, show (a + 9 * (b + 9 * c)) % 9 = a by omega, show (a + 9 * (b + 9 * c)) / 9 % 9 = b by omega, show (a + 9 * (b + 9 * c)) / 9 / 9 = c by omega, hx, a1, b1, c1]
      rw [a1] at a2
      rw [b1] at b2
      rw [c1] at c2
      exact ⟨a2, b2, c2, rfl⟩
    · obtain ⟨n1, n2⟩ := chN_1 (kp := kp) q2
      refine ⟨a + 9 * b, by rw [if_neg (by omega), if_pos (by omega)]; omega, ?_⟩
      rw [if_pos q1, if_neg q2, show (a + 9 * b) % 9 = a by omega, show (a + 9 * b) / 9 % 9 = b by omega, hx, a1, b1, n2]
      rw [a1] at a2
      rw [b1] at b2
      exact ⟨a2, b2, a2, (or_aba _ _).symm⟩
  · obtain ⟨n1, n2⟩ := chN_1 (kp := kp) q1
    obtain ⟨m1, m2⟩ := chN_1 (N := N) (g := g) (p := 2) (kp := kp) (by omega)
    refine ⟨a, by rw [if_pos (by omega)]; omega, ?_⟩
    rw [if_neg q1, if_neg (by omega), show a % 9 = a by omega, hx, a1, n2, m2]
    rw [a1] at a2
    exact ⟨a2, a2, a2, (or_self3 _).symm⟩
end
section
/-! the model's laysKept -/
theorem f8_iff {l : Nat → Nat} {P P' : Nat → Prop} {n : Nat} {kc : Nat → Nat} (h : ∀ x, P x ↔ P' x) (hk : f8 l P n kc) : f8 l P' n kc := by
  obtain ⟨a1, a2, a3, a4⟩ := hk
  exact ⟨a1, fun i hi => (h _).mp (a2 i hi), a3, fun x hx => a4 x ((h x).mpr hx)⟩
theorem mkR_mf {A B : List Nat} {σ τ : jm_G} {n : Nat} {kp : Nat → Nat × (Nat → Nat)} (h : mkR σ n kp) (hm : mf A B σ τ) (h1 : ∀ x, x ∈ A → ¬ x ∈ [50, 51]) : mkR τ n kp := by
  unfold mkR
  rw [(hm.1 51 0 (by omega) (fun q => h1 51 q (by decide))).1, (hm.1 50 0 (by omega) (fun q => h1 50 q (by decide))).2]
  exact h
theorem c_setOf {C : jm_C} (h : ct_setOf C) {N : nw} {s i n : Nat} {kp : Nat → Nat × (Nat → Nat)} {σ : jm_G} {post : Option jm_V → jm_G → Prop} {x y : Int32} (hx : x = nI s) (hy : y = nI i) (hok : nw_ok N) (hN : mN N σ) (hs : s < n) (hn : n ≤ nN N) (hi : i < 9) (hk : mkR σ n kp) (hl : isG N s = false → (kp s).1 = 0) (hp : post (some (jJ (lN (stO kp s i)))) σ) : C kX10_setOf [jR 38 0, jI x, jI y] σ post := by
  subst hx; subst hy; exact h N s i n kp σ post hok hN hs hn hi hk hl hp
abbrev ct_mlayK (C : jm_C) : Prop := ∀ (N : nw) (g K : Nat) (σ : jm_G) (post : Option jm_V → jm_G → Prop), nw_ok N → mN N σ → isG N g = true → 3 ≤ K → K ≤ 6 → σ.1 38 0 7 = nI K → (∀ j, j < g → σ.1 44 0 j = nI (lev N K j) ∧ lev N K j < 100) → σ.2 45 0 g = lN (nea N K g) → nOK N K (g + 1) → mkR σ g (kp N K) →
  (∀ σ', mf [50, 51, 52] [21] σ σ' → (∀ j, j ≠ g → σ'.1 51 0 j = σ.1 51 0 j) → (∀ j, (j < 8 * g ∨ 8 * g + 8 ≤ j) → σ'.2 50 0 j = σ.2 50 0 j) → σ'.1 51 0 g = nI (kp N K g).1 → (∀ c, c < (kp N K g).1 → σ'.2 50 0 (8 * g + c) = lN ((kp N K g).2 c)) → post none σ') → C kX10_laysKept [jR 38 0, jI (nI g)] σ post
theorem T_mlayK (L : Nat) {C : jm_C} (hC : jm_mon C) (h1 : ct_makes C) (h2 : ct_msrcOf C) (h3 : ct_setOf C) (h4 : ct_puts C) : ct_mlayK (jm_up L C) := by
  intro N g K σ post hok hN hgt hK hK6 h7 hlv h45 hnO hkR hp
  refine jm_start rfl (Nat.le_of_ble_eq_true rfl) hC fun X hg hw => ?_
  have h40 := hok.1
  have hgn := isG_lt hgt
  have eg : (nI g).toNatClampNeg = g := nI_clamp (by omega)
  have hing : vp_in (nI g) 40 := vp_in_nI (by omega) (by omega)
  have har := ar_pos (nK N g)
  have hkp := kp_ok hok (n := g) (K := K) (fun s hs => hnO s (by omega))
  have hcOK : ∀ x, cand N K g (kp N K) x → cOK K g x := fun x hx => cand_ok hok hgt hnO hkp hx
  have hne := hcOK _ (Or.inl rfl)
  have hleaf : ∀ s, isG N s = false → (kp N K s).1 = 0 := fun s hs => by rw [kp_leaf hs]
  have hz : ∀ p, p < ar (nK N g) → (kp N K (nR N g p)).1 ≤ 8 ∧ ∀ c, c < (kp N K (nR N g p)).1 → (kp N K (nR N g p)).2 c ≠ 0 := fun p hp9 => ⟨kp_le hok, fun c hc e => by
    obtain ⟨j, hj⟩ := (hkp _ (nR_lt hok hgt hp9) c hc).2.2.2
    rw [e, Nat.zero_testBit] at hj
    cases hj⟩
  have h9 : ¬ nI 9 = 0 := by
    have : ¬ nI 9 = nI 0 := by rw [nI_eq (by omega) (by omega)]; omega
    exact this
  have hlim : mlim N g ≤ 729 := by unfold mlim; split <;> (try split) <;> omega
  -- how those are put in row
  have second : ∀ (τ : jm_G) (m : Nat) (R : Nat → Nat), mf [52] [21] σ τ → dR τ m R → (∀ j, j < m → cand N K g (kp N K) (R j)) → (∀ x, cand N K g (kp N K) x → ∃ j, j < m ∧ R j = x) →
      X (τ, 188, [some (jR 38 0), some (jI (nI g)), some (jI (nI (ar (nK N g)))), some (jI (nI 9)), some (jI (nI 0)), some (jI (nI 0)), none, none, none, none, none], []) := by
    intro τ m R hf hR hM1 hM2
    have gen : ∀ (d k : Nat), k + d = m → ∀ (υ : jm_G) (n : Nat) (kc : Nat → Nat), mf [50] [] τ υ → (∀ j, (j < 8 * g ∨ 8 * g + 8 ≤ j) → υ.2 50 0 j = τ.2 50 0 j) → (∀ c, c < n → υ.2 50 0 (8 * g + c) = lN (kc c)) → f8 (lev N K) (fun y => mn (cand N K g (kp N K)) y ∧ ∃ j, j < k ∧ R j = y) n kc →
        X (υ, 188, [some (jR 38 0), some (jI (nI g)), some (jI (nI (ar (nK N g)))), some (jI (nI 9)), some (jI (nI n)), some (jI (nI k)), none, none, none, none, none], []) := by
      intro d
      induction d with
      | zero =>
        intro k hkd υ n kc q1 q2 q3 q4
        have e : k = m := by omega
        subst e
        have e21 : υ.1 38 0 21 = nI k := by rw [(q1.2 0 21 (by decide)).1]; exact hR.1
        have hk2 : isKept (lev N K) (cand N K g (kp N K)) n kc := f8_iff (fun x => ⟨fun h => h.1, fun h => ⟨h, hM2 x h.1⟩⟩) q4
        obtain ⟨k1, k2⟩ := keep_eq hk2
        rw [← kp_gate hok hgt] at k1 k2
        have hn8 := hk2.1
        have hkm := hR.2.1
        refine hg [188, 203] 40 _ ?_
        refine br_c (fun _ => ?_) (fun h => ?_)
        · refine And.intro hing ?_
          refine And.intro trivial (hp _ (mf_wI (mf_trans (mf_wide hf (by decide) (by decide)) (mf_wide q1 (by decide) (by decide))) (by decide) (by decide)) (fun j hj => ?_) (fun j hj => ?_) ?_ (fun c hc => ?_))
          · rw [wI1, if_pos ⟨rfl, rfl⟩, eg, upd_at, if_neg hj]
            show υ.1 51 0 j = _
            rw [(q1.1 51 0 (by omega) (by decide)).1, (hf.1 51 0 (by omega) (by decide)).1]
          · rw [wI2, q2 j hj, (hf.1 50 0 (by omega) (by decide)).2]
          · rw [wI1, if_pos ⟨rfl, rfl⟩, eg, upd_at, if_pos rfl, k1]
          · rw [k1] at hc
            rw [wI2, k2 c hc]
            exact q3 c hc
        · have h : ¬ υ.1 38 0 21 ≤ nI k := h
          rw [e21, nI_leI (by omega) (by omega)] at h
          omega
      | succ d ih =>
        intro k hkd υ n kc q1 q2 q3 q4
        have hkm := hR.2.1
        have hn8 := q4.1
        have e21 : υ.1 38 0 21 = nI m := by rw [(q1.2 0 21 (by decide)).1]; exact hR.1
        have e52 : υ.2 52 0 = τ.2 52 0 := (q1.1 52 0 (by omega) (by decide)).2
        have hRv : ∀ j, j < m → R j < 2 ^ 40 ∧ υ.2 52 0 (nI j).toNatClampNeg = lN (R j) := fun j hj => by rw [nI_clamp (by omega), e52]; exact hR.2.2.1 j hj
        refine hg [188, 203] 40 _ ?_
        refine br_c (fun h => ?_) (fun _ => ?_)
        · have h : υ.1 38 0 21 ≤ nI k := h
          rw [e21, nI_leI (by omega) (by omega)] at h
          omega
        · have inner : ∀ (e j : Nat), j + e = m → ∀ b : Bool, (b = true ↔ ∀ i, i < j → i ≠ k → ¬ sub (R i) (R k)) →
              X (υ, 203, [some (jR 38 0), some (jI (nI g)), some (jI (nI (ar (nK N g)))), some (jI (nI 9)), some (jI (nI n)), some (jI (nI k)), some (jI (bI b)), some (jI (nI j)), none, none, none], []) := by
            intro e
            induction e with
            | zero =>
              intro j hje b hb
              have ej : j = m := by omega
              subst ej
              refine hg [188, 203] 60 _ ?_
              refine br_c (fun _ => ?_) (fun h => ?_)
              · refine br_c (fun h => ?_) (fun h => ?_)
                · have h := bI_0.mp h
                  refine hw _ _ _ [some (jR 38 0), some (jI (nI g)), some (jI (nI (ar (nK N g)))), some (jI (nI 9)), some (jI (nI n)), some (jI (nI k + nI 1)), none, none, none, none, none] _ (by repeat' first | exact trivial | exact rfl | apply And.intro) ?_
                  rw [nI_add]
                  refine ih (k + 1) (by omega) υ n kc q1 q2 q3 (f8_iff (fun y => ⟨fun w => ⟨w.1, ?_⟩, fun w => ⟨w.1, ?_⟩⟩) q4)
                  · obtain ⟨i, hi, ei⟩ := w.2; exact ⟨i, by omega, ei⟩
                  · obtain ⟨i, hi, ei⟩ := w.2
                    by_cases q : i = k
                    · exfalso
                      have : b = true := hb.mpr fun i2 hi2 hne2 hs2 => by
                        have := w.1.2 (R i2) (hM1 i2 hi2) (by rw [← ei, q]; exact hs2)
                        exact hne2 (hR.2.2.2 i2 k hi2 (by omega) (by rw [this, ← ei, q]))
                      rw [h] at this
                      cases this
                    · exact ⟨i, by omega, ei⟩
                · have h := bI_n0.mp h
                  have hall := hb.mp h
                  obtain ⟨rk1, rk2⟩ := hRv k (by omega)
                  have hck := hcOK _ (hM1 k (by omega))
                  have hmn : mn (cand N K g (kp N K)) (R k) := ⟨hM1 k (by omega), fun y hy hs => by
                    obtain ⟨i, hi, ei⟩ := hM2 y hy
                    by_cases q : i = k
                    · rw [← ei, q]
                    · exact absurd (by rw [ei]; exact hs) (hall i hi q)⟩
                  have hNu : mN N υ := mN_mf (mN_mf hN hf (by decide) (by decide)) q1 (by decide) (by decide)
                  have e44 : υ.1 44 0 = σ.1 44 0 := by rw [(q1.1 44 0 (by omega) (by decide)).1, (hf.1 44 0 (by omega) (by decide)).1]
                  refine And.intro (vp_in_nI (by omega) (by omega)) ?_
                  have call : ∀ {post' : Option jm_V → jm_G → Prop}, (∀ v ω, post' v ω → post' v ω) → C kX10_puts [jR 38 0, jI (nI g), jJ (lN (R k)), jI (nI n)] υ post' → C kX10_puts [jR 38 0, jI (nI g), jJ (υ.2 52 0 (nI k).toNatClampNeg), jI (nI n)] υ post' := fun _ h => by rw [rk2]; exact h
                  refine call (fun _ _ h => h) ?_
                  refine h4 N g (R k) n kc (lev N K) υ _ hok hNu hgn hn8 rk1 (by have := hck.2.1; omega) (fun c hc => ?_) (fun j hj => ?_) q4.2.2.1 q3 fun ω n' kc' o1 o2 o3 o4 => ?_
                  · have := hcOK _ (q4.2.1 c hc).1.1
                    exact ⟨this.1, by have := this.2.1; omega⟩
                  · have hjg : j < g := by
                      rcases hj with hj | ⟨c, hc, hj⟩
                      · exact hck.2.2.1 j hj
                      · exact (hcOK _ (q4.2.1 c hc).1.1).2.2.1 j hj
                    rw [e44]
                    exact ⟨by omega, hlv j hjg⟩
                  · refine hw _ _ _ [some (jR 38 0), some (jI (nI g)), some (jI (nI (ar (nK N g)))), some (jI (nI 9)), some (jI (nI n')), some (jI (nI k + nI 1)), none, none, none, none, none] _ (by repeat' first | exact trivial | exact rfl | apply And.intro) ?_
                    rw [nI_add]
                    refine ih (k + 1) (by omega) ω n' kc' (mf_trans q1 o1) (fun j hj => (o2 j hj).trans (q2 j hj)) o3 (f8_iff (fun y => ⟨?_, ?_⟩) (ins_f8 q4 (fun y hy he => ?_) o4))
                    · rintro (⟨w1, i, hi, ei⟩ | w)
                      · exact ⟨w1, i, by omega, ei⟩
                      · rw [w]; exact ⟨hmn, k, by omega, rfl⟩
                    · rintro ⟨w1, i, hi, ei⟩
                      by_cases q : i = k
                      · rw [q] at ei; exact Or.inr ei.symm
                      · exact Or.inl ⟨w1, i, by omega, ei⟩
                    · obtain ⟨w1, i, hi, ei⟩ := hy
                      have hcy := hcOK _ w1.1
                      have := plc_inj hcy.1 hck.1 (by have := hcy.2.1; omega) (by have := hck.2.1; omega) he
                      have := hR.2.2.2 i k (by omega) (by omega) (by rw [ei, this])
                      omega
              · have h : ¬ υ.1 38 0 21 ≤ nI j := h
                rw [e21, nI_leI (by omega) (by omega)] at h
                omega
            | succ e ihe =>
              intro j hje b hb
              refine hg [188, 203] 60 _ ?_
              refine br_c (fun h => ?_) (fun _ => ?_)
              · have h : υ.1 38 0 21 ≤ nI j := h
                rw [e21, nI_leI (by omega) (by omega)] at h
                omega
              · refine br_c (fun h => ?_) (fun h => ?_)
                · have h := bI_0.mp h
                  show X (υ, 203, [some (jR 38 0), some (jI (nI g)), some (jI (nI (ar (nK N g)))), some (jI (nI 9)), some (jI (nI n)), some (jI (nI k)), some (jI (bI false)), some (jI (nI j + nI 1)), none, none, none], [])
                  rw [nI_add]
                  refine ihe (j + 1) (by omega) false ⟨fun w => (by cases w), fun w => ?_⟩
                  rw [← h]
                  exact hb.mpr fun i hi => w i (by omega)
                · have h := bI_n0.mp h
                  have hall := hb.mp h
                  refine br_c (fun h5 => ?_) (fun h5 => ?_)
                  · have h5 : nI j = nI k := h5
                    rw [nI_eq (by omega) (by omega)] at h5
                    show X (υ, 203, [some (jR 38 0), some (jI (nI g)), some (jI (nI (ar (nK N g)))), some (jI (nI 9)), some (jI (nI n)), some (jI (nI k)), some (jI (bI true)), some (jI (nI j + nI 1)), none, none, none], [])
                    rw [nI_add]
                    refine ihe (j + 1) (by omega) true ⟨fun _ i hi hne2 => ?_, fun _ => rfl⟩
                    exact hall i (by omega) hne2
                  · have h5 : ¬ nI j = nI k := h5
                    rw [nI_eq (by omega) (by omega)] at h5
                    obtain ⟨j1, j2⟩ := hRv j (by omega)
                    obtain ⟨k1, k2⟩ := hRv k (by omega)
                    refine And.intro (vp_in_nI (by omega) (by omega)) ?_
                    refine And.intro (vp_in_nI (by omega) (by omega)) ?_
                    have es : υ.2 52 0 (nI j).toNatClampNeg &&& (υ.2 52 0 (nI k).toNatClampNeg ^^^ (-1)) = lN (sD (R j) (R k)) := by rw [j2, k2, lN_andn]
                    have ls : sD (R j) (R k) < 2 ^ 64 := Nat.lt_trans (sD_lt j1) (by omega)
                    refine br_c (fun h6 => ?_) (fun h6 => ?_)
                    · have h6 : lg_cmp (υ.2 52 0 (nI j).toNatClampNeg &&& (υ.2 52 0 (nI k).toNatClampNeg ^^^ (-1))) (lN 0) = 0 := h6
                      rw [es, cmp_0, lN_inj ls (by omega), sD_0] at h6
                      show X (υ, 203, [some (jR 38 0), some (jI (nI g)), some (jI (nI (ar (nK N g)))), some (jI (nI 9)), some (jI (nI n)), some (jI (nI k)), some (jI (bI false)), some (jI (nI j + nI 1)), none, none, none], [])
                      rw [nI_add]
                      exact ihe (j + 1) (by omega) false ⟨fun w => (by cases w), fun w => absurd h6 (w j (by omega) h5)⟩
                    · have h6 : ¬ lg_cmp (υ.2 52 0 (nI j).toNatClampNeg &&& (υ.2 52 0 (nI k).toNatClampNeg ^^^ (-1))) (lN 0) = 0 := h6
                      rw [es, cmp_0, lN_inj ls (by omega), sD_0] at h6
                      show X (υ, 203, [some (jR 38 0), some (jI (nI g)), some (jI (nI (ar (nK N g)))), some (jI (nI 9)), some (jI (nI n)), some (jI (nI k)), some (jI (bI true)), some (jI (nI j + nI 1)), none, none, none], [])
                      rw [nI_add]
                      refine ihe (j + 1) (by omega) true ⟨fun _ i hi hne2 => ?_, fun _ => rfl⟩
                      by_cases q : i = j
                      · rw [q]; exact h6
                      · exact hall i (by omega) hne2
          exact inner m 0 (by omega) true ⟨fun _ i hi => absurd hi (by omega), fun _ => rfl⟩
    exact gen m 0 (by omega) τ 0 (fun _ => 0) (mf_refl _ _ _) (fun _ _ => rfl) (fun c hc => absurd hc (by omega)) ⟨by omega, fun i hi => absurd hi (by omega), fun i j _ hj => absurd hj (by omega), fun x hx => by obtain ⟨-, j, hj, -⟩ := hx; omega⟩
  have w52 : ∀ {υ τ : jm_G}, mf [52] [21] υ τ → mN N υ → mN N τ := fun h hn => mN_mf hn h (by decide) (by decide)
  -- which are made
  have first : ∀ (d k : Nat), k + d = mlim N g → ∀ (τ : jm_G) (m : Nat) (R : Nat → Nat), mf [52] [21] σ τ → dR τ m R → m ≤ 1 + k → (∀ j, j < m → cand N K g (kp N K) (R j)) → (∃ j, j < m ∧ R j = nea N K g) → (∀ k' x, k' < k → mOK N g (kp N K) k' x → cnt x 40 ≤ K → ∃ j, j < m ∧ R j = x) →
      X (τ, 31, [some (jR 38 0), some (jI (nI g)), some (jI (nI (ar (nK N g)))), some (jI (nI 9)), some (jI (nI k)), none, none, none, none, none, none], []) := by
    intro d
    induction d with
    | zero =>
      intro k hkd τ m R hf hR hm hM1 hnr hM2
      have fin : X (τ, 188, [some (jR 38 0), some (jI (nI g)), some (jI (nI (ar (nK N g)))), some (jI (nI 9)), some (jI (nI 0)), some (jI (nI 0)), none, none, none, none, none], []) := by
        refine second τ m R hf hR hM1 fun x hx => ?_
        rcases id hx with e | ⟨q1, a, b, c, qa, qb, qc, e⟩
        · rw [e]; exact hnr
        · obtain ⟨k', r1, r2⟩ := cand_mOK hz qa qb qc e
          exact hM2 k' x (by omega) r2 q1
      unfold mlim at hkd
      refine hg [188] 40 _ ?_
      refine br_c (fun h => ?_) (fun h => ?_)
      · have h : nI (ar (nK N g)) = nI 1 := h
        rw [nI_eq (by omega) (by omega)] at h
        rw [if_pos h] at hkd
        refine br_c (fun _ => fin) (fun h5 => ?_)
        have h5 : ¬ nI 9 ≤ nI k := h5
        rw [nI_leI (by omega) (by omega)] at h5
        omega
      · have h : ¬ nI (ar (nK N g)) = nI 1 := h
        rw [nI_eq (by omega) (by omega)] at h
        rw [if_neg h] at hkd
        refine br_c (fun h2 => ?_) (fun h2 => ?_)
        · have h2 : nI (ar (nK N g)) = nI 2 := h2
          rw [nI_eq (by omega) (by omega)] at h2
          rw [if_pos h2] at hkd
          refine br_c (fun _ => fin) (fun h5 => ?_)
          have h5 : ¬ nI 9 * nI 9 ≤ nI k := h5
          rw [pk_mul, nI_leI (by omega) (by omega)] at h5
          omega
        · have h2 : ¬ nI (ar (nK N g)) = nI 2 := h2
          rw [nI_eq (by omega) (by omega)] at h2
          rw [if_neg h2] at hkd
          refine br_c (fun _ => fin) (fun h5 => ?_)
          have h5 : ¬ nI 9 * nI 9 * nI 9 ≤ nI k := h5
          rw [pk_mul, pk_mul, nI_leI (by omega) (by omega)] at h5
          omega
    | succ d ih =>
      intro k hkd τ m R hf hR hm hM1 hnr hM2
      have hNt := w52 hf hN
      have hkt := mkR_mf hkR hf (by decide)
      have e7 : τ.1 38 0 7 = nI K := by rw [(hf.2 0 7 (by decide)).1]; exact h7
      -- the next one
      have nx : ∀ (υ : jm_G) (m' : Nat) (R' : Nat → Nat) (A B D : Int64), mf [52] [21] τ υ → dR υ m' R' → m' ≤ m + 1 → (∀ j, j < m' → cand N K g (kp N K) (R' j)) → (∃ j, j < m' ∧ R' j = nea N K g) → (∀ k' x, k' < k + 1 → mOK N g (kp N K) k' x → cnt x 40 ≤ K → ∃ j, j < m' ∧ R' j = x) →
          X (υ, 31, [some (jR 38 0), some (jI (nI g)), some (jI (nI (ar (nK N g)))), some (jI (nI 9)), some (jI (nI k + nI 1)), some (jJ A), none, some (jJ B), none, some (jJ D), none], []) := by
        intro υ m' R' A B D q1 q2 q3 q4 q5 q6
        refine hw _ _ _ [some (jR 38 0), some (jI (nI g)), some (jI (nI (ar (nK N g)))), some (jI (nI 9)), some (jI (nI k + nI 1)), none, none, none, none, none, none] _ (by repeat' first | exact trivial | exact rfl | apply And.intro) ?_
        rw [nI_add]
        exact ih (k + 1) (by omega) υ m' R' (mf_trans hf q1) q2 (by omega) q4 q5 q6
      have skip : ∀ (A B D : Int64), (mva N g (kp N K) k = 0 ∨ mvb N g (kp N K) k = 0 ∨ mvc N g (kp N K) k = 0) → X (τ, 31, [some (jR 38 0), some (jI (nI g)), some (jI (nI (ar (nK N g)))), some (jI (nI 9)), some (jI (nI k + nI 1)), some (jJ A), none, some (jJ B), none, some (jJ D), none], []) := by
        intro A B D h0
        refine nx τ m R A B D (mf_refl _ _ _) hR (by omega) hM1 hnr fun k' x hk' hO hc => ?_
        by_cases e : k' = k
        · rw [e] at hO
          obtain ⟨o1, o2, o3, -⟩ := hO
          rcases h0 with q | q | q
          · exact absurd q o1
          · exact absurd q o2
          · exact absurd q o3
        · exact hM2 k' x (by omega) hO hc
      have st40 : ∀ p i, p < ar (nK N g) → stO (kp N K) (nR N g p) i < 2 ^ 40 := by
        intro p i hp9
        have hs := nR_lt hok hgt hp9
        unfold stO
        split
        · exact pw_lt (by omega)
        · split
          · exact (hkp _ hs (i - 1) (by omega)).1
          · omega
      have hA40 : mva N g (kp N K) k < 2 ^ 40 := st40 0 _ (by omega)
      have hB40 : mvb N g (kp N K) k < 2 ^ 40 := by
        unfold mvb; split
        · exact st40 1 _ (by assumption)
        · exact hA40
      have hC40 : mvc N g (kp N K) k < 2 ^ 40 := by
        unfold mvc; split
        · exact st40 2 _ (by assumption)
        · exact hA40
      have z0 : ∀ {S : Nat}, S < 2 ^ 40 → (lg_cmp (lN S) (lN 0) = 0 ↔ S = 0) := fun hS => by rw [cmp_0, lN_inj (Nat.lt_trans hS (by omega)) (by omega)]
      have h143 : X (τ, 143, [some (jR 38 0), some (jI (nI g)), some (jI (nI (ar (nK N g)))), some (jI (nI 9)), some (jI (nI k)), some (jJ (lN (mva N g (kp N K) k))), none, some (jJ (lN (mvb N g (kp N K) k))), none, some (jJ (lN (mvc N g (kp N K) k))), none], []) := by
        refine hg [31] 60 _ ?_
        refine br_c (fun h => ?_) (fun h => ?_)
        · exact skip _ _ _ (Or.inl ((z0 hA40).mp h))
        · have hA : ¬ mva N g (kp N K) k = 0 := fun e => h ((z0 hA40).mpr e)
          refine br_c (fun h => ?_) (fun h => ?_)
          · exact skip _ _ _ (Or.inr (Or.inl ((z0 hB40).mp h)))
          · have hB : ¬ mvb N g (kp N K) k = 0 := fun e => h ((z0 hB40).mpr e)
            refine br_c (fun h => ?_) (fun h => ?_)
            · exact skip _ _ _ (Or.inr (Or.inr ((z0 hC40).mp h)))
            · have hD : ¬ mvc N g (kp N K) k = 0 := fun e => h ((z0 hC40).mpr e)
              have call : ∀ {post' : Option jm_V → jm_G → Prop}, (∀ v ω, post' v ω → post' v ω) → C kX10_makes [jR 38 0, jJ (lN (mva N g (kp N K) k ||| mvb N g (kp N K) k ||| mvc N g (kp N K) k))] τ post' → C kX10_makes [jR 38 0, jJ (lN (mva N g (kp N K) k) ||| lN (mvb N g (kp N K) k) ||| lN (mvc N g (kp N K) k))] τ post' := fun _ h => by rw [fb_orL, fb_orL]; exact h
              refine call (fun _ _ h => h) ?_
              refine h1 m _ K R τ _ hR (by omega) (or_lt (or_lt hA40 hB40) hC40) hK6 e7 fun υ m' R' o1 o2 o3 o4 => ?_
              obtain ⟨m1, m2, m3, m4⟩ := o4
              refine nx υ m' R' _ _ _ o1 o2 o3 (fun j hj => ?_) ?_ (fun k' x hk' hO hc => ?_)
              · by_cases q : j < m
                · rw [m2 j q]; exact hM1 j q
                · obtain ⟨c1, c2⟩ := m3 j (by omega) hj
                  exact mOK_cand ⟨hA, hB, hD, c2⟩ c1
              · obtain ⟨j, q1, q2⟩ := hnr
                exact ⟨j, by omega, by rw [m2 j q1]; exact q2⟩
              · by_cases e : k' = k
                · rw [e] at hO
                  exact m4 x ⟨hc, hO.2.2.2⟩
                · obtain ⟨j, q1, q2⟩ := hM2 k' x (by omega) hO hc
                  exact ⟨j, by omega, by rw [m2 j q1]; exact q2⟩
      have kd : nI k / nI 9 = nI (k / 9) := pk_div (by omega) (by omega) (by omega)
      have srcs : ∀ p, p < ar (nK N g) → τ.1 41 0 (3 * g + p) = nI (nR N g p) := fun p hp9 => by
        rw [mN_src hNt hgt (by omega)]
        unfold srcI
        rw [if_pos hp9]
      have h111 : X (τ, 111, [some (jR 38 0), some (jI (nI g)), some (jI (nI (ar (nK N g)))), some (jI (nI 9)), some (jI (nI k)), some (jJ (lN (mva N g (kp N K) k))), none, some (jJ (lN (mvb N g (kp N K) k))), none, none, none], []) := by
        refine hg [143] 60 _ ?_
        refine br_c (fun h => ?_) (fun h => ?_)
        · have h : nI (ar (nK N g)) ≤ nI 2 := h
          rw [nI_leI (by omega) (by omega)] at h
          have e : mvc N g (kp N K) k = mva N g (kp N K) k := by unfold mvc; rw [if_neg (by omega)]
          rw [e] at h143
          exact h143
        · have h : ¬ nI (ar (nK N g)) ≤ nI 2 := h
          rw [nI_leI (by omega) (by omega)] at h
          have hk9 : k < 729 := by omega
          have e : mvc N g (kp N K) k = stO (kp N K) (nR N g 2) (k / 9 / 9) := by unfold mvc; rw [if_pos (by omega)]
          refine And.intro (show vp_in (nI 3 * nI g + nI 2) 120 by rw [n3I]; exact vp_in_nI (by omega) (by omega)) ?_
          refine And.intro h9 ?_
          refine And.intro h9 ?_
          refine c_setOf h3 (s := nR N g 2) (i := k / 9 / 9) (n := g) (kp := kp N K) (show τ.1 41 0 (nI 3 * nI g + nI 2).toNatClampNeg = nI (nR N g 2) by rw [n3I, nI_clamp (by omega)]; exact srcs 2 (by omega)) (show nI k / nI 9 / nI 9 = nI (k / 9 / 9) by rw [kd, pk_div (by omega) (by omega) (by omega)]) hok hNt (nR_lt hok hgt (by omega)) (by omega) (by omega) hkt (hleaf _) ?_
          rw [e] at h143
          exact h143
      have h79 : X (τ, 79, [some (jR 38 0), some (jI (nI g)), some (jI (nI (ar (nK N g)))), some (jI (nI 9)), some (jI (nI k)), some (jJ (lN (mva N g (kp N K) k))), none, none, none, none, none], []) := by
        refine hg [111] 60 _ ?_
        refine br_c (fun h => ?_) (fun h => ?_)
        · have h : nI (ar (nK N g)) ≤ nI 1 := h
          rw [nI_leI (by omega) (by omega)] at h
          have e : mvb N g (kp N K) k = mva N g (kp N K) k := by unfold mvb; rw [if_neg (by omega)]
          rw [e] at h111
          exact h111
        · have h : ¬ nI (ar (nK N g)) ≤ nI 1 := h
          rw [nI_leI (by omega) (by omega)] at h
          have e : mvb N g (kp N K) k = stO (kp N K) (nR N g 1) (k / 9 % 9) := by unfold mvb; rw [if_pos (by omega)]
          refine And.intro (show vp_in (nI 3 * nI g + nI 1) 120 by rw [n3I]; exact vp_in_nI (by omega) (by omega)) ?_
          refine And.intro h9 ?_
          refine And.intro h9 ?_
          refine c_setOf h3 (s := nR N g 1) (i := k / 9 % 9) (n := g) (kp := kp N K) (show τ.1 41 0 (nI 3 * nI g + nI 1).toNatClampNeg = nI (nR N g 1) by rw [n3I, nI_clamp (by omega)]; exact srcs 1 (by omega)) (show nI k / nI 9 - nI k / nI 9 / nI 9 * nI 9 = nI (k / 9 % 9) by rw [kd, pk_rem (by omega) (by omega) (by omega)]) hok hNt (nR_lt hok hgt (by omega)) (by omega) (by omega) hkt (hleaf _) ?_
          rw [e] at h111
          exact h111
      have h61 : X (τ, 61, [some (jR 38 0), some (jI (nI g)), some (jI (nI (ar (nK N g)))), some (jI (nI 9)), some (jI (nI k)), none, none, none, none, none, none], []) := by
        refine hg [79] 60 _ ?_
        refine And.intro (show vp_in (nI 3 * nI g) 120 by rw [n3]; exact vp_in_nI (by omega) (by omega)) ?_
        refine And.intro h9 ?_
        refine c_setOf h3 (s := nR N g 0) (i := k % 9) (n := g) (kp := kp N K) (show τ.1 41 0 (nI 3 * nI g).toNatClampNeg = nI (nR N g 0) by rw [n3, nI_clamp (by omega)]; exact srcs 0 (by omega)) (pk_rem (by omega) (by omega) (by omega)) hok hNt (nR_lt hok hgt (by omega)) (by omega) (by omega) hkt (hleaf _) ?_
        exact h79
      unfold mlim at hkd
      refine hg [61, 188] 40 _ ?_
      refine br_c (fun h => ?_) (fun h => ?_)
      · have h : nI (ar (nK N g)) = nI 1 := h
        rw [nI_eq (by omega) (by omega)] at h
        rw [if_pos h] at hkd
        refine br_c (fun h5 => ?_) (fun _ => h61)
        have h5 : nI 9 ≤ nI k := h5
        rw [nI_leI (by omega) (by omega)] at h5
        omega
      · have h : ¬ nI (ar (nK N g)) = nI 1 := h
        rw [nI_eq (by omega) (by omega)] at h
        rw [if_neg h] at hkd
        refine br_c (fun h2 => ?_) (fun h2 => ?_)
        · have h2 : nI (ar (nK N g)) = nI 2 := h2
          rw [nI_eq (by omega) (by omega)] at h2
          rw [if_pos h2] at hkd
          refine br_c (fun h5 => ?_) (fun _ => h61)
          have h5 : nI 9 * nI 9 ≤ nI k := h5
          rw [pk_mul, nI_leI (by omega) (by omega)] at h5
          omega
        · have h2 : ¬ nI (ar (nK N g)) = nI 2 := h2
          rw [nI_eq (by omega) (by omega)] at h2
          rw [if_neg h2] at hkd
          refine br_c (fun h5 => ?_) (fun _ => h61)
          have h5 : nI 9 * nI 9 * nI 9 ≤ nI k := h5
          rw [pk_mul, pk_mul, nI_leI (by omega) (by omega)] at h5
          omega
  refine hg [31] 60 _ ?_
  refine And.intro hing ?_
  have call : ∀ {post' : Option jm_V → jm_G → Prop}, (∀ v ω, post' v ω → post' v ω) → C kX10_makes [jR 38 0, jJ (lN (nea N K g))] (wI σ 38 0 (upd (σ.1 38 0) 21 (nI 0))) post' → C kX10_makes [jR 38 0, jJ (σ.2 45 0 (nI g).toNatClampNeg)] (wI σ 38 0 (upd (σ.1 38 0) 21 (nI 0))) post' := fun _ h => by rw [eg, h45]; exact h
  refine call (fun _ _ h => h) ?_
  have hf0 : mf [52] [21] σ (wI σ 38 0 (upd (σ.1 38 0) 21 (nI 0))) := mf_sF (mf_refl _ _ _) (by decide)
  refine h1 0 (nea N K g) K (fun _ => 0) _ _ ⟨?_, by omega, fun i hi => absurd hi (by omega), fun i j hi => absurd hi (by omega)⟩ (by omega) hne.1 hK6 ?_ fun υ m R o1 o2 o3 o4 => ?_
  · rw [wI1, if_pos ⟨rfl, rfl⟩, upd_at, if_pos rfl]
  · rw [(hf0.2 0 7 (by decide)).1]; exact h7
  · obtain ⟨m1, m2, m3, m4⟩ := o4
    have hfu := mf_trans hf0 o1
    have hNu := w52 hfu hN
    refine And.intro hing ?_
    have ek : υ.1 40 0 (nI g).toNatClampNeg = nI (nK N g) := by
      rw [eg, hNu.2.2.1 g hgn, if_pos hgt]
    have call2 : ∀ {post' : Option jm_V → jm_G → Prop}, (∀ v ω, post' v ω → post' v ω) → C kX10_sourcesOf [jI (nI (nK N g))] υ post' → C kX10_sourcesOf [jI (υ.1 40 0 (nI g).toNatClampNeg)] υ post' := fun _ h => by rw [ek]; exact h
    refine call2 (fun _ _ h => h) ?_
    refine h2 (nK N g) υ _ (hok.2.2.1 g hgt).1 ?_
    refine first (mlim N g) 0 (by omega) υ m R hfu o2 (by omega) (fun j hj => ?_) (m4 _ ⟨hne.2.1, rfl⟩) (fun k' x hk' => absurd hk' (by omega))
    rw [(m3 j (by omega) hj).2]
    exact Or.inl rfl
end
section
/-! the model's lays -/
def lyA : List Nat := [44, 45, 46, 47, 48, 49, 50, 51, 52]
def lyB : List Nat := [9, 17, 21]
def mL (N : nw) (K n : Nat) (σ : jm_G) : Prop := (∀ j, j < n → σ.1 44 0 j = nI (lev N K j) ∧ σ.2 45 0 j = lN (nea N K j)) ∧ mkR σ n (kp N K) ∧ nOK N K n
abbrev ct_lays (C : jm_C) : Prop := ∀ (N : nw) (K : Nat) (b : Bool) (σ : jm_G) (post : Option jm_V → jm_G → Prop), nw_ok N → mN N σ → 3 ≤ K → K ≤ 6 → σ.1 38 0 7 = nI K → σ.1 38 0 9 = bI b → (b = true → mL N K (nN N) σ) →
  (∀ σ', mf lyA lyB σ σ' → mL N K (nN N) σ' → σ'.1 38 0 9 = bI true → post none σ') → C kX10_lays [jR 38 0] σ post
theorem T_lays (L : Nat) {C : jm_C} (hC : jm_mon C) (h1 : ct_cutOff C) (h2 : ct_mlayK C) : ct_lays (jm_up L C) := by
  intro N K b σ post hok hN hK hK6 h7 h9 hlaid hp
  refine jm_start rfl (Nat.le_of_ble_eq_true rfl) hC fun X hg hw => ?_
  have h40 := hok.1
  refine hg [15] 30 _ ?_
  refine br_c (fun h => ?_) (fun h => ?_)
  · refine And.intro (Or.inr rfl) ?_
    show X (wI σ 38 0 (upd (σ.1 38 0) 9 (nI 1)), 15, [some (jR 38 0), some (jI (nI 0)), none], [])
    have gen : ∀ (d n : Nat), n + d = nN N → ∀ (τ : jm_G), mf lyA lyB σ τ → τ.1 38 0 9 = nI 1 → mL N K n τ → X (τ, 15, [some (jR 38 0), some (jI (nI n)), none], []) := by
      intro d
      induction d with
      | zero =>
        intro n hnd τ hf e9 hL
        have e : n = nN N := by omega
        subst e
        have hNt := mN_mf hN hf (by decide) (by decide)
        refine hg [15] 30 _ ?_
        refine br_c (fun _ => And.intro trivial (hp τ hf hL e9)) (fun h => ?_)
        have h : ¬ τ.1 38 0 1 ≤ nI (nN N) := h
        rw [hNt.1, nI_leI (by omega) (by omega)] at h
        omega
      | succ d ih =>
        intro n hnd τ hf e9 hL
        have hNt := mN_mf hN hf (by decide) (by decide)
        have en : (nI n).toNatClampNeg = n := nI_clamp (by omega)
        have hin : vp_in (nI n) 40 := vp_in_nI (by omega) (by omega)
        obtain ⟨l1, l2, l3⟩ := hL
        refine hg [15, 65] 60 _ ?_
        refine br_c (fun h => ?_) (fun _ => ?_)
        · have h : τ.1 38 0 1 ≤ nI n := h
          rw [hNt.1, nI_leI (by omega) (by omega)] at h
          omega
        · refine And.intro hin ?_
          refine And.intro hin ?_
          refine And.intro hin ?_
          refine And.intro hin ?_
          have e39 : (wI (wJ (wI τ 44 0 (upd (τ.1 44 0) (nI n).toNatClampNeg (nI 0))) 45 0 (vp_updL (τ.2 45 0) (nI n).toNatClampNeg (lN 0))) 51 0 (upd (τ.1 51 0) (nI n).toNatClampNeg (nI 0))).1 39 0 = τ.1 39 0 := rfl
          refine br_c (fun h => ?_) (fun h => ?_)
          · have h : τ.1 39 0 (nI n).toNatClampNeg = nI 1 := h
            rw [en, mN_gate hok hNt (by omega)] at h
            refine And.intro hin ?_
            show X (wI (wI (wJ (wI τ 44 0 (upd (τ.1 44 0) (nI n).toNatClampNeg (nI 0))) 45 0 (vp_updL (τ.2 45 0) (nI n).toNatClampNeg (lN 0))) 51 0 (upd (τ.1 51 0) (nI n).toNatClampNeg (nI 0))) 44 0 (upd (upd (τ.1 44 0) (nI n).toNatClampNeg (nI 0)) (nI n).toNatClampNeg (nI 1000)), 65, [some (jR 38 0), some (jI (nI n)), some (jI (nI 1))], [])
            rw [en]
            have st0 : ∀ (υ : jm_G), υ = wI (wI (wJ (wI τ 44 0 (upd (τ.1 44 0) n (nI 0))) 45 0 (vp_updL (τ.2 45 0) n (lN 0))) 51 0 (upd (τ.1 51 0) n (nI 0))) 44 0 (upd (upd (τ.1 44 0) n (nI 0)) n (nI 1000)) → mf lyA lyB τ υ ∧ υ.1 38 0 = τ.1 38 0 ∧ (∀ j, j ≠ n → υ.1 44 0 j = τ.1 44 0 j) ∧ (∀ j, j ≠ n → υ.2 45 0 j = τ.2 45 0 j) ∧ (∀ j, j ≠ n → υ.1 51 0 j = τ.1 51 0 j) ∧ υ.2 50 0 = τ.2 50 0 := by
              rintro υ rfl
              refine ⟨mf_wI (mf_wI (mf_wJ (mf_wI (mf_refl _ _ _) (by decide) (by decide)) (by decide) (by decide)) (by decide) (by decide)) (by decide) (by decide), rfl, fun j hj => ?_, fun j hj => ?_, fun j hj => ?_, rfl⟩
              · show upd (upd (τ.1 44 0) n (nI 0)) n (nI 1000) j = _
                rw [upd_at, if_neg hj, upd_at, if_neg hj]
              · show vp_updL (τ.2 45 0) n (lN 0) j = _
                rw [updL_at, if_neg hj]
              · show upd (τ.1 51 0) n (nI 0) j = _
                rw [upd_at, if_neg hj]
            generalize wI (wI (wJ (wI τ 44 0 (upd (τ.1 44 0) n (nI 0))) 45 0 (vp_updL (τ.2 45 0) n (lN 0))) 51 0 (upd (τ.1 51 0) n (nI 0))) 44 0 (upd (upd (τ.1 44 0) n (nI 0)) n (nI 1000)) = υ0 at st0 ⊢
            obtain ⟨s1, s2, s3, s4, s5, s6⟩ := st0 υ0 rfl
            have hlg := lev_bound hok hK (N := N) (K := K) n
            -- one level after another
            have lvl : ∀ (e m : Nat), m + e = lev N K n → 1 ≤ m → ∀ (υ : jm_G), mf lyA lyB τ υ → υ.1 38 0 9 = nI 1 → (∀ j, j ≠ n → υ.1 44 0 j = τ.1 44 0 j) → (∀ j, j ≠ n → υ.2 45 0 j = τ.2 45 0 j) → (∀ j, j ≠ n → υ.1 51 0 j = τ.1 51 0 j) → υ.2 50 0 = τ.2 50 0 →
                X (υ, 65, [some (jR 38 0), some (jI (nI n)), some (jI (nI m))], []) := by
              intro e
              induction e with
              | zero =>
                intro m hme hm1 υ q1 q9 q2 q3 q4 q5
                have hfu := mf_trans hf q1
                have hNu := mN_mf hN hfu (by decide) (by decide)
                have e7 : υ.1 38 0 7 = nI K := by rw [(hfu.2 0 7 (by decide)).1]; exact h7
                have hlv : ∀ v, v < n → υ.1 44 0 v = nI (lev N K v) := fun v hv => by rw [q2 v (by omega)]; exact (l1 v hv).1
                refine hg [15, 65] 60 _ ?_
                refine h1 N n m K υ _ hok hNu h hm1 (by omega) hK hK6 e7 (fun v hv => ⟨hlv v (nB_lt hok _ _ hv), by have := lev_bound hok hK (N := N) (K := K) v; have := nB_lt hok _ _ hv; omega⟩) ?_ ?_
                · intro ω U o1 o2 o3 o4 o5
                  refine br_c (fun h0 => absurd h0 (by decide)) (fun _ => ?_)
                  have hlm : lev N K n = m := by omega
                  have hU : nearC N n (Cm N (lev N K) n (lev N K n)) U := by rw [hlm]; exact o3
                  have hnO : nOK N K (n + 1) := by
                    intro s hs hsg
                    by_cases e : s = n
                    · rw [e, nea_eq hok h hU]; exact ⟨hU, o4⟩
                    · exact l3 s (by omega) hsg
                  have hfw : mf lyA lyB σ ω := mf_trans hfu (mf_wide o1 (by decide) (by decide))
                  have hN2 : mN N (wI ω 44 0 (upd (ω.1 44 0) (nI n).toNatClampNeg (nI m))) := mN_mf hN (mf_wI hfw (by decide) (by decide)) (by decide) (by decide)
                  have f44 : ω.1 44 0 = υ.1 44 0 := (o1.1 44 0 (by omega) (by decide)).1
                  have f51 : ω.1 51 0 = υ.1 51 0 := (o1.1 51 0 (by omega) (by decide)).1
                  have f50 : ω.2 50 0 = υ.2 50 0 := (o1.1 50 0 (by omega) (by decide)).2
                  refine And.intro hin ?_
                  refine h2 N n K (wI ω 44 0 (upd (ω.1 44 0) (nI n).toNatClampNeg (nI m))) _ hok hN2 h hK hK6 ?_ (fun j hj => ?_) ?_ hnO (fun s hs => ?_) fun ψ p1 p2 p3 p4 p5 => ?_
                  · show ω.1 38 0 7 = nI K
                    rw [(hfw.2 0 7 (by decide)).1]; exact h7
                  · rw [wI1, if_pos ⟨rfl, rfl⟩, en, upd_at, if_neg (by omega), f44]
                    exact ⟨hlv j hj, by have := lev_bound hok hK (N := N) (K := K) j; omega⟩
                  · show ω.2 45 0 n = _
                    rw [o5, nea_eq hok h hU]
                  · show _ ∧ ω.1 51 0 s = _ ∧ ∀ c, c < _ → ω.2 50 0 (8 * s + c) = _
                    rw [f51, f50, q4 s (by omega), q5]
                    exact l2 s hs
                  · refine hw _ _ _ [some (jR 38 0), some (jI (nI n + nI 1)), none] _ (by repeat' first | exact trivial | exact rfl | apply And.intro) ?_
                    rw [nI_add]
                    refine ih (n + 1) (by omega) ψ (mf_trans (mf_wI hfw (by decide) (by decide)) (mf_wide p1 (by decide) (by decide))) ?_ ⟨fun j hj => ?_, fun s hs => ?_, hnO⟩
                    · rw [(p1.2 0 9 (by decide)).1]
                      show ω.1 38 0 9 = nI 1
                      rw [(o1.2 0 9 (by decide)).1]; exact q9
                    · rw [(p1.1 44 0 (by omega) (by decide)).1, (p1.1 45 0 (by omega) (by decide)).2, wI1, if_pos ⟨rfl, rfl⟩, en, upd_at, wI2]
                      by_cases e : j = n
                      · rw [e, if_pos rfl, o5, nea_eq hok h hU, hlm]; exact ⟨rfl, rfl⟩
                      · rw [if_neg e, f44, q2 j e, o2 j e, q3 j e]; exact l1 j (by omega)
                    · by_cases e : s = n
                      · rw [e]; exact ⟨kp_le hok, p4, p5⟩
                      · have := l2 s (by omega)
                        rw [p2 s e]
                        show _ ∧ ω.1 51 0 s = _ ∧ _
                        rw [f51, q4 s e]
                        refine ⟨this.1, this.2.1, fun c hc => ?_⟩
                        have h8 := this.1
                        rw [p3 _ (by omega)]
                        show ω.2 50 0 (8 * s + c) = _
                        rw [f50, q5]
                        exact this.2.2 c hc
                · intro hno
                  exfalso
                  apply hno
                  have := (lev_spec hok hK h).1
                  rw [show m = lev N K n by omega]
                  exact this
              | succ e ihe =>
                intro m hme hm1 υ q1 q9 q2 q3 q4 q5
                have hfu := mf_trans hf q1
                have hNu := mN_mf hN hfu (by decide) (by decide)
                have e7 : υ.1 38 0 7 = nI K := by rw [(hfu.2 0 7 (by decide)).1]; exact h7
                have hlv : ∀ v, v < n → υ.1 44 0 v = nI (lev N K v) := fun v hv => by rw [q2 v (by omega)]; exact (l1 v hv).1
                refine hg [15, 65] 60 _ ?_
                refine h1 N n m K υ _ hok hNu h hm1 (by omega) hK hK6 e7 (fun v hv => ⟨hlv v (nB_lt hok _ _ hv), by have := lev_bound hok hK (N := N) (K := K) v; have := nB_lt hok _ _ hv; omega⟩) ?_ ?_
                · intro ω U o1 o2 o3 o4 o5
                  exfalso
                  have := lev_le hok hK h ((near_cutt hok o3).mpr o4)
                  omega
                · intro hno ω o1 o2
                  refine br_c (fun _ => ?_) (fun h0 => absurd rfl h0)
                  show X (ω, 65, [some (jR 38 0), some (jI (nI n)), some (jI (nI m + nI 1))], [])
                  rw [nI_add]
                  refine ihe (m + 1) (by omega) (by omega) ω (mf_trans q1 (mf_wide o1 (by decide) (by decide))) (by rw [(o1.2 0 9 (by decide)).1]; exact q9) (fun j hj => ?_) (fun j hj => ?_) (fun j hj => ?_) ?_
                  · rw [(o1.1 44 0 (by omega) (by decide)).1]; exact q2 j hj
                  · rw [o2 j hj]; exact q3 j hj
                  · rw [(o1.1 51 0 (by omega) (by decide)).1]; exact q4 j hj
                  · rw [(o1.1 50 0 (by omega) (by decide)).2]; exact q5
            exact lvl (lev N K n - 1) 1 (by have := lev_pos hok hK h; omega) (by omega) υ0 s1 (by rw [s2]; exact e9) s3 s4 s5 s6
          · have h : ¬ τ.1 39 0 (nI n).toNatClampNeg = nI 1 := h
            rw [en, mN_gate hok hNt (by omega)] at h
            have h : isG N n = false := by simpa using h
            show X (wI (wJ (wI τ 44 0 (upd (τ.1 44 0) (nI n).toNatClampNeg (nI 0))) 45 0 (vp_updL (τ.2 45 0) (nI n).toNatClampNeg (lN 0))) 51 0 (upd (τ.1 51 0) (nI n).toNatClampNeg (nI 0)), 15, [some (jR 38 0), some (jI (nI n + nI 1)), none], [])
            rw [en, nI_add]
            refine ih (n + 1) (by omega) _ (mf_wI (mf_wJ (mf_wI hf (by decide) (by decide)) (by decide) (by decide)) (by decide) (by decide)) e9 ⟨fun j hj => ?_, fun s hs => ?_, fun s hs hsg => ?_⟩
            · show upd (τ.1 44 0) n (nI 0) j = _ ∧ vp_updL (τ.2 45 0) n (lN 0) j = _
              rw [upd_at, updL_at]
              by_cases e : j = n
              · rw [e, if_pos rfl, if_pos rfl, lev_leaf h, nea_leaf h]; exact ⟨rfl, rfl⟩
              · rw [if_neg e, if_neg e]; exact l1 j (by omega)
            · show _ ∧ upd (τ.1 51 0) n (nI 0) s = _ ∧ ∀ c, c < _ → τ.2 50 0 (8 * s + c) = _
              rw [upd_at]
              by_cases e : s = n
              · rw [e, if_pos rfl, kp_leaf h]
                exact ⟨Nat.zero_le _, rfl, fun c hc => absurd hc (Nat.not_lt_zero _)⟩
              · rw [if_neg e]; exact l2 s (by omega)
            · by_cases e : s = n
              · rw [e, h] at hsg; cases hsg
              · exact l3 s (by omega) hsg
    refine gen (nN N) 0 (by omega) _ (mf_sF (mf_refl _ _ _) (by decide)) ?_ ⟨fun j hj => absurd hj (by omega), fun s hs => absurd hs (by omega), fun s hs => absurd hs (by omega)⟩
    rw [wI1, if_pos ⟨rfl, rfl⟩, upd_at, if_pos rfl]
  · have h : ¬ σ.1 38 0 9 = 0 := h
    rw [h9] at h
    have hb := bI_n0.mp h
    refine And.intro trivial (hp σ (mf_refl _ _ _) (hlaid hb) ?_)
    rw [h9, hb]
end
section
/-! what is told later changes no level, near cut, kept cut -/
def agr (N M : nw) (n : Nat) : Prop := ∀ i, i < n → isG N i = isG M i ∧ nK N i = nK M i ∧ nR N i = nR M i ∧ nB N i = nB M i
theorem agr_symm {N M : nw} {n : Nat} (h : agr N M n) : agr M N n := fun i hi => ⟨(h i hi).1.symm, (h i hi).2.1.symm, (h i hi).2.2.1.symm, (h i hi).2.2.2.symm⟩
theorem sM_agr {N M : nw} {n i : Nat} (h : agr N M n) (hi : i < n) : sM N i = sM M i := by
  obtain ⟨a1, a2, a3, -⟩ := h i hi
  apply set_eq
  intro j
  rw [sM_bit, sM_bit, a1, a2, a3]
theorem rdn_agr {N M : nw} {n : Nat} (h : agr N M n) (cut : Nat) : ∀ k R, k ≤ n → rdn N cut k R = rdn M cut k R
  | 0, R, _ => rfl
  | k + 1, R, hk => by
    rw [rdn, rdn, sM_agr h (by omega)]
    exact rdn_agr h cut k _ (by omega)
theorem rch_agr {N M : nw} {n g : Nat} (h : agr N M n) (hg : g < n) (S : Nat) : rch N g S = rch M g S := rdn_agr h S _ _ (by omega)
theorem Sep_agr {N M : nw} {n g : Nat} (hN : nw_ok N) (h : agr N M n) (hg : g < n) (U : Nat) : Sep N g U ↔ Sep M g U := by
  unfold Sep
  rw [← rch_agr h hg U, (h g hg).2.2.2]
  refine and_congr Iff.rfl ⟨fun q i hi => ?_, fun q i hi => ?_⟩
  · have := rch_le hN g U i hi
    rw [← (h i (by omega)).1]; exact q i hi
  · have := rch_le hN g U i hi
    rw [(h i (by omega)).1]; exact q i hi
theorem cutt_agr {N M : nw} {n K g m : Nat} {l l' : Nat → Nat} (hN : nw_ok N) (h : agr N M n) (hg : g < n) (hl : ∀ j, j < g → l j = l' j) : cutt N K l g m ↔ cutt M K l' g m := by
  constructor
  · rintro ⟨U, h1, h2, h3⟩
    exact ⟨U, (Sep_agr hN h hg U).mp h1, h2, fun j hj => by rw [← hl j (nB_lt hN _ _ (h1.1 j hj))]; exact h3 j hj⟩
  · rintro ⟨U, h1, h2, h3⟩
    have h1 := (Sep_agr hN h hg U).mpr h1
    exact ⟨U, h1, h2, fun j hj => by rw [hl j (nB_lt hN _ _ (h1.1 j hj))]; exact h3 j hj⟩
theorem lev_agr {N M : nw} {n K : Nat} (hN : nw_ok N) (hM : nw_ok M) (h : agr N M n) : ∀ g, g < n → lev N K g = lev M K g := by
  intro g
  induction g using Nat.strongRecOn with
  | ind g ih =>
    intro hg
    have e := (h g hg).1
    cases hb : isG N g with
    | false => rw [lev_leaf hb, lev_leaf (by rw [← e]; exact hb)]
    | true =>
      rw [lev_gate hN hb, lev_gate hM (by rw [← e]; exact hb)]
      congr 1
      funext m
      exact propext (cutt_agr hN h hg fun j hj => ih j hj (by omega))
theorem Cm_agr {N M : nw} {n K g m : Nat} (hN : nw_ok N) (hM : nw_ok M) (h : agr N M n) (hg : g < n) : Cm N (lev N K) g m = Cm M (lev M K) g m := set_eq fun j => by
  apply Bool.eq_iff_iff.mpr
  rw [Cm_bit hN, Cm_bit hM, (h g hg).2.2.2]
  refine or_congr Iff.rfl ⟨fun q => ⟨q.1, ?_⟩, fun q => ⟨q.1, ?_⟩⟩
  · have := nB_lt hM _ _ q.1
    rw [← lev_agr hN hM h j (by omega)]; exact q.2
  · have := nB_lt hM _ _ q.1
    rw [lev_agr hN hM h j (by omega)]; exact q.2
theorem nearC_agr {N M : nw} {n g C U : Nat} (hN : nw_ok N) (h : agr N M n) (hg : g < n) : nearC N g C U ↔ nearC M g C U := by
  unfold nearC
  simp only [Sep_agr hN h hg, rch_agr h hg]
theorem nea_agr {N M : nw} {n K g : Nat} (hN : nw_ok N) (hM : nw_ok M) (h : agr N M n) (hg : g < n) : nea N K g = nea M K g := by
  have e := (h g hg).1
  cases hb : isG N g with
  | false => rw [nea_leaf hb, nea_leaf (by rw [← e]; exact hb)]
  | true =>
    unfold nea
    rw [if_pos hb, if_pos (by rw [← e]; exact hb)]
    congr 1
    funext U
    rw [Cm_agr hN hM h hg, lev_agr hN hM h g hg]
    exact propext (nearC_agr hN h hg)
theorem mxL_cong {l l' : Nat → Nat} {S : Nat} (h : ∀ j, S.testBit j = true → l j = l' j) : ∀ n, mxL l S n = mxL l' S n
  | 0 => rfl
  | n + 1 => by
    rw [mxL, mxL, mxL_cong h n]
    split
    · rename_i q; rw [h n q]
    · rfl
theorem plc_cong {l l' : Nat → Nat} {S : Nat} (h : ∀ j, S.testBit j = true → l j = l' j) : plc l S = plc l' S := by unfold plc; rw [mxL_cong h]
theorem cand_agr {N M : nw} {n K g : Nat} {k1 k2 : Nat → Nat × (Nat → Nat)} (hN : nw_ok N) (hM : nw_ok M) (h : agr N M n) (hg : g < n) (hb : isG N g = true) (hk : ∀ s, s < g → k1 s = k2 s) (x : Nat) : cand N K g k1 x ↔ cand M K g k2 x := by
  obtain ⟨a1, a2, a3, -⟩ := h g hg
  have eN : ∀ p, chN N g k1 p = chN M g k2 p := fun p => by
    rw [chN_cong hN hb hk]
    unfold chN
    rw [a2, a3]
  have eC : ∀ p i, chC N g k1 p i = chC M g k2 p i := fun p i => by
    rw [chC_cong hN hb hk]
    unfold chC
    rw [a2, a3]
  unfold cand
  simp only [eN, eC, nea_agr hN hM h hg]
theorem nOK_agr {N M : nw} {n K : Nat} (hN : nw_ok N) (hM : nw_ok M) (h : agr N M n) (hn : nOK N K n) : nOK M K n := by
  intro g hg hb
  obtain ⟨q1, q2⟩ := hn g hg (by rw [(h g hg).1]; exact hb)
  rw [← nea_agr hN hM h hg, ← Cm_agr hN hM h hg, ← lev_agr hN hM h g hg]
  exact ⟨(nearC_agr hN h hg).mp q1, q2⟩
theorem keep_cong {l l' : Nat → Nat} {M M' : Nat → Prop} (h : ∀ x, M x ↔ M' x) (hl : ∀ x, M x → plc l x = plc l' x) : keep l M = keep l' M' := by
  have e : M = M' := funext fun x => propext (h x)
  subst e
  have e2 : (fun p : Nat × (Nat → Nat) => isKept l M p.1 p.2) = fun p => isKept l' M p.1 p.2 := funext fun p => propext ⟨kept_cong hl, kept_cong fun x hx => (hl x hx).symm⟩
  have e3 : (∃ p : Nat × (Nat → Nat), isKept l M p.1 p.2) = ∃ p : Nat × (Nat → Nat), isKept l' M p.1 p.2 := by rw [e2]
  unfold keep
  by_cases q : ∃ p : Nat × (Nat → Nat), isKept l M p.1 p.2
  · have q' : ∃ p : Nat × (Nat → Nat), isKept l' M p.1 p.2 := by rw [← e3]; exact q
    rw [dif_pos q, dif_pos q']
    congr 1
  · have q' : ¬ ∃ p : Nat × (Nat → Nat), isKept l' M p.1 p.2 := by rw [← e3]; exact q
    rw [dif_neg q, dif_neg q']
theorem kp_agr {N M : nw} {n K : Nat} (hN : nw_ok N) (hM : nw_ok M) (h : agr N M n) (hn : nOK N K n) : ∀ g, g < n → kp N K g = kp M K g := by
  intro g
  induction g using Nat.strongRecOn with
  | ind g ih =>
    intro hg
    have e := (h g hg).1
    cases hb : isG N g with
    | false => rw [kp_leaf hb, kp_leaf (by rw [← e]; exact hb)]
    | true =>
      rw [kp_gate hN hb, kp_gate hM (by rw [← e]; exact hb)]
      refine keep_cong (fun x => cand_agr hN hM h hg hb (fun s hs => ih s hs (by omega)) x) fun x hx => plc_cong fun j hj => ?_
      have := (cand_ok hN hb (fun s hs => hn s (by omega)) (kp_ok hN (n := g) (fun s hs => hn s (by omega))) hx).2.2.1 j hj
      exact lev_agr hN hM h j (by omega)
theorem cA_agr {N M : nw} {i K n : Nat} {σ : jm_G} (hN : nw_ok N) (hM : nw_ok M) (h : agr N M n) (hA : cA N i K n σ) : cA M i K n σ := by
  obtain ⟨a1, a2, a3, a4, a5⟩ := hA
  refine ⟨a1, fun j hj => ?_, a3, fun s hs => ?_, nOK_agr hN hM h a5⟩
  · rw [← lev_agr hN hM h j hj, ← nea_agr hN hM h hj]; exact a2 j hj
  · rw [← kp_agr hN hM h a5 s hs]; exact a4 s hs
end
section
/-! what is told later: the five kinds -/
theorem agr_addI (N : nw) : agr N (addI N) (nN N) := fun i hi => ⟨(isG_addI N i).symm, rfl, rfl, rfl⟩
theorem agr_addR (N : nw) : agr N (addR N) (nN N) := fun i hi => ⟨(isG_addR N i).symm, rfl, rfl, rfl⟩
theorem agr_addG (N : nw) (k a b c : Nat) : agr N (addG N k a b c) (nN N) := fun i hi => by
  have e : ¬ i = nN N := by omega
  refine ⟨?_, ?_, ?_, ?_⟩
  · rw [isG_addG]; simp [e]
  · show _ = (if i = nN N then k else nK N i)
    rw [if_neg e]
  · show _ = fun j => (if i = nN N then _ else nR N i j)
    funext j
    rw [if_neg e]
  · show _ = (if i = nN N then _ else nB N i)
    rw [if_neg e]
theorem agr_setF (N : nw) (r x n : Nat) : agr N (setF N r x) n := fun i hi => ⟨rfl, rfl, rfl, rfl⟩
theorem agr_addO (N : nw) (x n : Nat) : agr N (addO N x) n := fun i hi => ⟨rfl, rfl, rfl, rfl⟩
theorem agr_le {N M : nw} {n m : Nat} (h : agr N M n) (hm : m ≤ n) : agr N M m := fun i hi => h i (by omega)
theorem ok_addO {N : nw} (h : nw_ok N) {x : Nat} (hx : x < nN N) (hc : cnt (nO N ||| 2 ^ x) 40 ≤ 12) : nw_ok (addO N x) := by
  obtain ⟨a1, a2, a3, a4, a5, a6, a7⟩ := h
  refine ⟨a1, a2, a3, a4, fun i hi => ?_, hc, fun i => by rw [bMk_eq (N := addO N x) (M := N) (fun _ => rfl) rfl]; exact a7 i⟩
  have hi : (nO N ||| 2 ^ x).testBit i = true := hi
  rw [or_bit, Bool.or_eq_true, decide_eq_true_eq] at hi
  rcases hi with q | q
  · exact a5 i q
  · show i < nN N
    omega
theorem mL_agr {N M : nw} {K n : Nat} {σ : jm_G} (hN : nw_ok N) (hM : nw_ok M) (h : agr N M n) (hL : mL N K n σ) : mL M K n σ := by
  obtain ⟨a2, a4, a5⟩ := hL
  refine ⟨fun j hj => ?_, fun s hs => ?_, nOK_agr hN hM h a5⟩
  · rw [← lev_agr hN hM h j hj, ← nea_agr hN hM h hj]; exact a2 j hj
  · rw [← kp_agr hN hM h a5 s hs]; exact a4 s hs
end
section
/-! the model's coneOf -/
/-- gates one comes to, those below a number looked at from above -/
def cdn (N : nw) (cut : Nat) : Nat → Nat → Nat
  | 0, R => R
  | k + 1, R => cdn N cut k (if R.testBit k then R ||| (sD (sM N k) cut &&& gM N) else R)
def cne (N : nw) (g cut : Nat) : Nat := cdn N cut (g + 1) (2 ^ g)
/-- of a node, so many sources looked at -/
def cpt (N : nw) (cut i : Nat) : Nat → Nat
  | 0 => 0
  | k + 1 => cpt N cut i k ||| (if slB N i k && isG N (nR N i k) && !cut.testBit (nR N i k) then 2 ^ nR N i k else 0)
theorem cpt_bit (N : nw) (cut i j : Nat) : ∀ n, (cpt N cut i n).testBit j = true ↔ ∃ k, k < n ∧ slB N i k = true ∧ nR N i k = j ∧ isG N j = true ∧ cut.testBit j = false
  | 0 => by
    show (0 : Nat).testBit j = true ↔ _
    rw [Nat.zero_testBit]
    exact ⟨fun h => (by cases h), fun ⟨k, h, _⟩ => absurd h (by omega)⟩
  | n + 1 => by
    rw [cpt, Nat.testBit_or, Bool.or_eq_true, cpt_bit N cut i j n]
    constructor
    · rintro (⟨k, h1, h2⟩ | h)
      · exact ⟨k, by omega, h2⟩
      · by_cases q : (slB N i n && isG N (nR N i n) && !cut.testBit (nR N i n)) = true
        · rw [if_pos q, Nat.testBit_two_pow, decide_eq_true_eq] at h
          rw [h, Bool.and_eq_true, Bool.and_eq_true, Bool.not_eq_true'] at q
          exact ⟨n, by omega, q.1.1, h, q.1.2, q.2⟩
        · rw [if_neg q, Nat.zero_testBit] at h
          cases h
    · rintro ⟨k, h1, h2, h3, h4, h5⟩
      by_cases e : k = n
      · subst e
        right
        rw [if_pos (by rw [h2, h3, h4, h5]; rfl), h3, Nat.testBit_two_pow]
        simp
      · exact Or.inl ⟨k, by omega, h2, h3, h4, h5⟩
theorem cpt_3 {N : nw} (hok : nw_ok N) (cut i : Nat) : cpt N cut i 3 = sD (sM N i) cut &&& gM N := set_eq fun j => by
  apply Bool.eq_iff_iff.mpr
  rw [cpt_bit, Nat.testBit_and, sD_bit, Bool.and_eq_true, Bool.and_eq_true, Bool.not_eq_true', gM_bit]
  constructor
  · rintro ⟨k, h1, h2, h3, h4, h5⟩
    exact ⟨⟨by rw [← h3]; exact nR_src (slB_iff.mp h2).1 (slB_iff.mp h2).2, h5⟩, h4⟩
  · rintro ⟨⟨h1, h2⟩, h3⟩
    obtain ⟨hg, k, hk, e⟩ := src_of h1
    have := ar_pos (nK N i)
    exact ⟨k, by omega, slB_iff.mpr ⟨hg, hk⟩, e, h3, h2⟩
theorem cdn_gate {N : nw} {cut : Nat} : ∀ k R, (∀ i, R.testBit i = true → isG N i = true) → ∀ i, (cdn N cut k R).testBit i = true → isG N i = true
  | 0, R, h => h
  | k + 1, R, h => by
    rw [cdn]
    apply cdn_gate k
    intro i hi
    split at hi
    · rw [Nat.testBit_or, Nat.testBit_and, Bool.or_eq_true, Bool.and_eq_true, gM_bit] at hi
      rcases hi with q | q
      · exact h i q
      · exact q.2
    · exact h i hi
theorem cdn_rdn {N : nw} {cut : Nat} : ∀ k R, (∀ i, (rdn N cut k R).testBit i = true → isG N i = true) → cdn N cut k R = rdn N cut k R
  | 0, R, _ => rfl
  | k + 1, R, h => by
    rw [cdn, rdn]
    rw [rdn] at h
    by_cases q : R.testBit k = true
    · rw [if_pos q] at h ⊢
      have e : R ||| (sD (sM N k) cut &&& gM N) = R ||| sD (sM N k) cut := set_eq fun i => by
        rw [Nat.testBit_or, Nat.testBit_or, Nat.testBit_and]
        cases hs : (sD (sM N k) cut).testBit i with
        | false => simp
        | true =>
          have := h i (rdn_mono N cut k _ i (by rw [Nat.testBit_or, hs, Bool.or_true]))
          rw [gM_bit, this]
          rfl
      rw [e]
      exact (by rw [if_pos q]; exact cdn_rdn k _ h)
    · rw [if_neg q] at h ⊢
      exact (by rw [if_neg q]; exact cdn_rdn k _ h)
/-- a cut that cuts a gate off: its cone is all that one comes to -/
theorem cne_sep {N : nw} {g cut : Nat} (h : Sep N g cut) : cne N g cut = rch N g cut := cdn_rdn _ _ h.2
end
section
/-! the model's coneOf, walked; rootDepth -/
theorem cpt_lt {N : nw} (hok : nw_ok N) (cut i n : Nat) : cpt N cut i n < 2 ^ 40 := set_lt fun j hj => by
  cases hb : (cpt N cut i n).testBit j with
  | false => rfl
  | true =>
    obtain ⟨k, -, -, -, h4, -⟩ := (cpt_bit N cut i j n).mp hb
    have := isG_lt h4
    have := hok.1
    omega
abbrev ct_coneOf (C : jm_C) : Prop := ∀ (N : nw) (g cut : Nat) (σ : jm_G) (post : Option jm_V → jm_G → Prop), nw_ok N → mN N σ → isG N g = true → cut < 2 ^ 40 → post (some (jJ (lN (cne N g cut)))) σ → C kX10_coneOf [jR 38 0, jI (nI g), jJ (lN cut)] σ post
theorem T_coneOf (L : Nat) {C : jm_C} (hC : jm_mon C) (h1 : ct_mhas C) : ct_coneOf (jm_up L C) := by
  intro N g cut σ post hok hN hgt hcut hp
  refine jm_start rfl (Nat.le_of_ble_eq_true rfl) hC fun X hg hw => ?_
  have h40 := hok.1
  have hgn := isG_lt hgt
  refine hg [8] 30 _ ?_
  show X (σ, 8, [some (jR 38 0), some (jI (nI g)), some (jJ (lN cut)), none, some (jJ (lN 1 <<< ((nI g).toInt64 &&& 63))), none, some (jI (nI g)), none, none], [])
  rw [lN_shl1 (by omega)]
  have gen : ∀ (j R : Nat) (x : Int32), j ≤ nN N → x = nI j + -(nI 1) → R < 2 ^ 40 → (∀ i, R.testBit i = true → isG N i = true) → cdn N cut j R = cne N g cut →
      X (σ, 8, [some (jR 38 0), some (jI (nI g)), some (jJ (lN cut)), none, some (jJ (lN R)), none, some (jI x), none, none], []) := by
    intro j
    induction j with
    | zero =>
      intro R x _ hx hR hgR hrd
      rw [nI_0m1] at hx
      subst hx
      refine hg [8] 30 _ ?_
      refine br_c (fun _ => ?_) (fun h => absurd m1_neg h)
      refine And.intro trivial ?_
      have hrd : R = cne N g cut := hrd
      rw [← hrd] at hp
      exact hp
    | succ j ih =>
      intro R x hj hx hR hgR hrd
      rw [nI_m1] at hx
      subst hx
      rw [cdn] at hrd
      refine hg [8, 16] 30 _ ?_
      refine br_c (fun h => absurd h (nI_pos (by omega))) (fun _ => ?_)
      show X (σ, 16, [some (jR 38 0), some (jI (nI g)), some (jJ (lN cut)), none, some (jJ (lN R)), none, some (jI (nI j)), some (jI (nI 0)), none], [])
      cases hb : R.testBit j with
      | false =>
        rw [hb, if_neg (fun q => by cases q)] at hrd
        refine hg [8, 16] 40 _ ?_
        refine br_c (fun h => ?_) (fun _ => ?_)
        · have h : nI 3 ≤ nI 0 := h
          rw [nI_leI (by omega) (by omega)] at h
          omega
        · refine h1 R j σ _ (p40 hR) (by omega) ?_
          refine br_c (fun _ => ?_) (fun h => ?_)
          · refine hw _ _ _ [some (jR 38 0), some (jI (nI g)), some (jJ (lN cut)), none, some (jJ (lN R)), none, some (jI (nI j + -(nI 1))), none, none] _ (by repeat' first | exact trivial | exact rfl | apply And.intro) ?_
            exact ih R _ (by omega) rfl hR hgR hrd
          · have h := bI_n0.mp h
            rw [hb] at h
            cases h
      | true =>
        rw [hb, if_pos rfl, ← cpt_3 hok] at hrd
        have hgj := hgR j hb
        have inner : ∀ (d k : Nat), k + d = 3 → X (σ, 16, [some (jR 38 0), some (jI (nI g)), some (jJ (lN cut)), none, some (jJ (lN (R ||| cpt N cut j k))), none, some (jI (nI j)), some (jI (nI k)), none], []) := by
          intro d
          induction d with
          | zero =>
            intro k hkd
            have e : k = 3 := by omega
            subst e
            refine hg [8, 16] 40 _ ?_
            refine br_c (fun _ => ?_) (fun h => absurd (show nI 3 ≤ nI 3 from (nI_leI (by omega) (by omega)).mpr (Nat.le_refl _)) h)
            refine hw _ _ _ [some (jR 38 0), some (jI (nI g)), some (jJ (lN cut)), none, some (jJ (lN (R ||| cpt N cut j 3))), none, some (jI (nI j + -(nI 1))), none, none] _ (by repeat' first | exact trivial | exact rfl | apply And.intro) ?_
            refine ih _ _ (by omega) rfl (or_lt hR (cpt_lt hok _ _ _)) (fun i hi => ?_) hrd
            rw [Nat.testBit_or, Bool.or_eq_true] at hi
            rcases hi with q | q
            · exact hgR i q
            · obtain ⟨k, -, -, -, h4, -⟩ := (cpt_bit N cut j i 3).mp q
              exact h4
          | succ d ihd =>
            intro k hkd
            have hS : R ||| cpt N cut j k < 2 ^ 40 := or_lt hR (cpt_lt hok _ _ _)
            have es : σ.1 41 0 (nI 3 * nI j + nI k).toNatClampNeg = srcI N j k := by rw [n3I, nI_clamp (by omega)]; exact mN_src hN hgj (by omega)
            -- nothing more
            have stay : (slB N j k && isG N (nR N j k) && !cut.testBit (nR N j k)) = false → ∀ w : Int32, X (σ, 16, [some (jR 38 0), some (jI (nI g)), some (jJ (lN cut)), none, some (jJ (lN (R ||| cpt N cut j k) ||| lN 0)), none, some (jI (nI j)), some (jI (nI k + nI 1)), some (jI w)], []) := by
              intro hno w
              refine hw _ _ _ [some (jR 38 0), some (jI (nI g)), some (jJ (lN cut)), none, some (jJ (lN (R ||| cpt N cut j k) ||| lN 0)), none, some (jI (nI j)), some (jI (nI k + nI 1)), none] _ (by repeat' first | exact trivial | exact rfl | apply And.intro) ?_
              have := ihd (k + 1) (by omega)
              rw [cpt, if_neg (by rw [hno]; exact fun q => by cases q), Nat.or_zero] at this
              rw [fb_orL, Nat.or_zero, nI_add]
              exact this
            refine hg [8, 16] 60 _ ?_
            refine br_c (fun h => ?_) (fun _ => ?_)
            · have h : nI 3 ≤ nI k := h
              rw [nI_leI (by omega) (by omega)] at h
              omega
            · refine h1 (R ||| cpt N cut j k) j σ _ (p40 hS) (by omega) ?_
              refine br_c (fun h => ?_) (fun _ => ?_)
              · have h := bI_0.mp h
                rw [Nat.testBit_or, hb] at h
                cases h
              · refine And.intro (show vp_in (nI 3 * nI j + nI k) 120 by rw [n3I]; exact vp_in_nI (by omega) (by omega)) ?_
                unfold srcI at es
                by_cases hk : k < ar (nK N j)
                · rw [if_pos hk] at es
                  have hr := nR_lt hok hgj hk
                  have hsl : slB N j k = true := slB_iff.mpr ⟨hgj, hk⟩
                  have er : (σ.1 41 0 (nI 3 * nI j + nI k).toNatClampNeg).toNatClampNeg = nR N j k := by rw [es, nI_clamp (by omega)]
                  refine br_c (fun h => ?_) (fun _ => ?_)
                  · have h : σ.1 41 0 (nI 3 * nI j + nI k).toNatClampNeg < 0 := h
                    rw [es] at h
                    exact absurd h (nI_pos (by omega))
                  · refine And.intro (show vp_in (σ.1 41 0 (nI 3 * nI j + nI k).toNatClampNeg) 40 by rw [es]; exact vp_in_nI (by omega) (by omega)) ?_
                    refine br_c (fun h => ?_) (fun h => ?_)
                    · have h : σ.1 39 0 (σ.1 41 0 (nI 3 * nI j + nI k).toNatClampNeg).toNatClampNeg = nI 1 := h
                      rw [er, mN_gate hok hN (by omega)] at h
                      refine c_mhas h1 rfl es (p40 hcut) (by omega) ?_
                      refine br_c (fun h5 => ?_) (fun h5 => ?_)
                      · have h5 := bI_0.mp h5
                        have := ihd (k + 1) (by omega)
                        rw [cpt, if_pos (by rw [hsl, h, h5]; rfl), ← Nat.or_assoc] at this
                        refine hw _ _ _ [some (jR 38 0), some (jI (nI g)), some (jJ (lN cut)), none, some (jJ (lN (R ||| cpt N cut j k) ||| (lN 1 <<< ((σ.1 41 0 (nI 3 * nI j + nI k).toNatClampNeg).toInt64 &&& 63)))), none, some (jI (nI j)), some (jI (nI k + nI 1)), none] _ (by repeat' first | exact trivial | exact rfl | apply And.intro) ?_
                        rw [es, lN_shl1 (by omega), fb_orL, nI_add]
                        exact this
                      · have h5 := bI_n0.mp h5
                        exact stay (by rw [h5]; simp) _
                    · have h : ¬ σ.1 39 0 (σ.1 41 0 (nI 3 * nI j + nI k).toNatClampNeg).toNatClampNeg = nI 1 := h
                      rw [er, mN_gate hok hN (by omega)] at h
                      have h : isG N (nR N j k) = false := by simpa using h
                      exact stay (by rw [h]; simp) _
                · rw [if_neg hk] at es
                  refine br_c (fun _ => ?_) (fun h => ?_)
                  · refine stay ?_ _
                    have : slB N j k = false := by
                      cases q : slB N j k with
                      | false => rfl
                      | true => exact absurd (slB_iff.mp q).2 hk
                    rw [this]; rfl
                  · have h : ¬ σ.1 41 0 (nI 3 * nI j + nI k).toNatClampNeg < 0 := h
                    rw [es] at h
                    exact absurd m1_neg h
        have := inner 3 0 (by omega)
        have this : X (σ, 16, [some (jR 38 0), some (jI (nI g)), some (jJ (lN cut)), none, some (jJ (lN (R ||| 0))), none, some (jI (nI j)), some (jI (nI 0)), none], []) := this
        rw [Nat.or_zero] at this
        exact this
  refine gen (g + 1) (2 ^ g) (nI g) (by omega) (nI_m1 g).symm (pw_lt (by omega)) (fun i hi => ?_) rfl
  rw [Nat.testBit_two_pow, decide_eq_true_eq] at hi
  rw [← hi]; exact hgt
end
section
/-! the model's answers about cuts: rootDepth, depth, kept -/
/-- what the model holds about levels and cuts -/
def mLd (N : nw) (K : Nat) (σ : jm_G) : Prop := ∃ b, σ.1 38 0 9 = bI b ∧ (b = true → mL N K (nN N) σ)
abbrev ct_rootDepth (C : jm_C) : Prop := ∀ (N : nw) (K : Nat) (σ : jm_G) (post : Option jm_V → jm_G → Prop), nw_ok N → mN N σ → 3 ≤ K → mL N K (nN N) σ → post (some (jI (nI (mxL (lev N K) (rts N) 40)))) σ → C kX10_rootDepth [jR 38 0] σ post
theorem T_rootDepth (L : Nat) {C : jm_C} (hC : jm_mon C) (h1 : ct_mroots C) (h2 : ct_grIn C) : ct_rootDepth (jm_up L C) := by
  intro N K σ post hok hN hK hL hp
  refine jm_start rfl (Nat.le_of_ble_eq_true rfl) hC fun X hg hw => ?_
  have h40 := hok.1
  refine hg [] 30 _ ?_
  refine h1 N σ _ hok hN ?_
  refine h2 N (rts N) (lev N K) σ _ hok hN (rts_lt40 hok) (fun j hj => ?_) ?_
  · have hj := rts_lt hok hj
    exact ⟨hj, (hL.1 j hj).1, by have := lev_bound hok hK (N := N) (K := K) j; omega⟩
  · exact And.intro trivial hp
theorem mL_th {N : nw} {K n : Nat} {σ : jm_G} (h : mL N K n σ) (k : Nat) (x : Int32) : mL N K n (sF σ k x) := h
theorem mLd_th {N : nw} {K : Nat} {σ : jm_G} (h : mLd N K σ) {k : Nat} (hk : k ≠ 9) (x : Int32) : mLd N K (sF σ k x) := by
  obtain ⟨b, h1, h2⟩ := h
  exact ⟨b, by rw [sF_1, if_neg (fun e => hk e.symm)]; exact h1, h2⟩
abbrev ct_mdepth (C : jm_C) : Prop := ∀ (N : nw) (K : Nat) (σ : jm_G) (post : Option jm_V → jm_G → Prop), nw_ok N → mN N σ → 3 ≤ K → K ≤ 6 → σ.1 38 0 7 = nI K → mLd N K σ → (∀ σ', mf lyA (0 :: lyB) σ σ' → σ'.1 38 0 0 = nI 0 → mL N K (nN N) σ' → σ'.1 38 0 9 = bI true → post (some (jI (nI (mxL (lev N K) (rts N) 40)))) σ') → C kX10_depth [jR 38 0] σ post
theorem T_mdepth (L : Nat) {C : jm_C} (hC : jm_mon C) (h1 : ct_lays C) (h2 : ct_rootDepth C) : ct_mdepth (jm_up L C) := by
  intro N K σ post hok hN hK hK6 h7 hLd hp
  refine jm_start rfl (Nat.le_of_ble_eq_true rfl) hC fun X hg hw => ?_
  refine hg [] 30 _ ?_
  obtain ⟨b, b1, b2⟩ := mLd_th hLd (k := 0) (by omega) (nI 0)
  refine h1 N K b (sF σ 0 (nI 0)) _ hok (mN_sF hN (by omega) _) hK hK6 (by rw [sF_1, if_neg (by omega)]; exact h7) b1 b2 fun τ o1 o2 o3 => ?_
  have hf : mf lyA (0 :: lyB) σ τ := mf_trans (mf_sF (mf_refl _ _ _) (by decide)) (mf_wide o1 (by decide) (by decide))
  have hNt : mN N τ := mN_mf hN hf (by decide) (by decide)
  refine h2 N K τ _ hok hNt hK o2 ?_
  refine And.intro trivial (hp τ hf ?_ o2 o3)
  rw [(o1.2 0 0 (by decide)).1, sF_1, if_pos rfl]
end
section
/-! the model's answers about cuts: kept, cone -/
/-- what kept(x, c) tells -/
noncomputable def kpA (N : nw) (K : Nat) (x c : Int32) : Nat := if atN (nN N) x (isG N) then (if c < 0 then 0 else kpI N K x.toNatClampNeg c.toNatClampNeg) else 0
abbrev ct_mkept (C : jm_C) : Prop := ∀ (N : nw) (K : Nat) (x c : Int32) (σ : jm_G) (post : Option jm_V → jm_G → Prop), nw_ok N → mN N σ → 3 ≤ K → K ≤ 6 → σ.1 38 0 7 = nI K → mLd N K σ → (∀ σ', mf lyA (0 :: lyB) σ σ' → σ'.1 38 0 0 = nI 0 → mL N K (nN N) σ' → σ'.1 38 0 9 = bI true → post (some (jJ (lN (kpA N K x c)))) σ') → C kX10_kept [jR 38 0, jI x, jI c] σ post
theorem T_mkept (L : Nat) {C : jm_C} (hC : jm_mon C) (h1 : ct_lays C) (h2 : ct_misGate C) : ct_mkept (jm_up L C) := by
  intro N K x c σ post hok hN hK hK6 h7 hLd hp
  refine jm_start rfl (Nat.le_of_ble_eq_true rfl) hC fun X hg hw => ?_
  have h40 := hok.1
  refine hg [] 60 _ ?_
  obtain ⟨b, b1, b2⟩ := mLd_th hLd (k := 0) (by omega) (nI 0)
  refine h1 N K b (sF σ 0 (nI 0)) _ hok (mN_sF hN (by omega) _) hK hK6 (by rw [sF_1, if_neg (by omega)]; exact h7) b1 b2 fun τ o1 o2 o3 => ?_
  have hf : mf lyA (0 :: lyB) σ τ := mf_trans (mf_sF (mf_refl _ _ _) (by decide)) (mf_wide o1 (by decide) (by decide))
  have hNt : mN N τ := mN_mf hN hf (by decide) (by decide)
  have hp := hp τ hf (by rw [(o1.2 0 0 (by decide)).1, sF_1, if_pos rfl]) o2 o3
  unfold kpA at hp
  refine h2 N x τ _ hok hNt ?_
  refine br_c (fun h => ?_) (fun h => ?_)
  · have h := bI_0.mp h
    rw [h, if_neg (fun q => by cases q)] at hp
    exact And.intro trivial hp
  · have h := bI_n0.mp h
    rw [h, if_pos rfl] at hp
    obtain ⟨g, hgn, rfl, hgt⟩ := atN_t (by omega) h
    have eg : (nI g).toNatClampNeg = g := nI_clamp (by omega)
    rw [eg] at hp
    obtain ⟨k1, k2, k3⟩ := o2.2.1 g hgn
    refine br_c (fun h0 => ?_) (fun h0 => ?_)
    · have h0 : c < 0 := h0
      rw [if_pos h0] at hp
      exact And.intro trivial hp
    · have h0 : ¬ c < 0 := h0
      rw [if_neg h0] at hp
      obtain ⟨j, hj, rfl⟩ := nI_of h0
      rw [nI_clamp hj] at hp
      unfold kpI at hp
      refine And.intro (vp_in_nI (by omega) (by omega)) ?_
      refine br_c (fun h5 => ?_) (fun h5 => ?_)
      · have h5 : τ.1 51 0 (nI g).toNatClampNeg ≤ nI j := h5
        rw [eg, k2, nI_leI (by omega) (by omega)] at h5
        rw [if_neg (by omega)] at hp
        exact And.intro trivial hp
      · have h5 : ¬ τ.1 51 0 (nI g).toNatClampNeg ≤ nI j := h5
        rw [eg, k2, nI_leI (by omega) (by omega)] at h5
        rw [if_pos (by omega)] at hp
        have e8 : nI 8 * nI g + nI j = nI (8 * g + j) := by rw [pk_mul, nI_add]
        refine And.intro (show vp_in (nI 8 * nI g + nI j) 320 by rw [e8]; exact vp_in_nI (by omega) (by omega)) ?_
        refine And.intro trivial ?_
        show post (some (jJ (τ.2 50 0 (nI 8 * nI g + nI j).toNatClampNeg))) τ
        rw [e8, nI_clamp (by omega), k3 j (by omega)]
        exact hp
/-- what cone(x) tells -/
noncomputable def coA9 (N : nw) (K : Nat) (x : Int32) : Int32 := if atN (nN N) x (isG N) then nI (cnt (rch N x.toNatClampNeg (nea N K x.toNatClampNeg)) 40) else -(nI 1)
abbrev ct_mcone (C : jm_C) : Prop := ∀ (N : nw) (K : Nat) (x : Int32) (σ : jm_G) (post : Option jm_V → jm_G → Prop), nw_ok N → mN N σ → 3 ≤ K → K ≤ 6 → σ.1 38 0 7 = nI K → mLd N K σ → (∀ σ', mf lyA (0 :: lyB) σ σ' → σ'.1 38 0 0 = nI 0 → mL N K (nN N) σ' → σ'.1 38 0 9 = bI true → post (some (jI (coA9 N K x))) σ') → C kX10_cone [jR 38 0, jI x] σ post
theorem T_mcone (L : Nat) {C : jm_C} (hC : jm_mon C) (h1 : ct_lays C) (h2 : ct_misGate C) (h3 : ct_coneOf C) (h4 : ct_mmany C) : ct_mcone (jm_up L C) := by
  intro N K x σ post hok hN hK hK6 h7 hLd hp
  refine jm_start rfl (Nat.le_of_ble_eq_true rfl) hC fun X hg hw => ?_
  have h40 := hok.1
  refine hg [] 60 _ ?_
  obtain ⟨b, b1, b2⟩ := mLd_th hLd (k := 0) (by omega) (nI 0)
  refine h1 N K b (sF σ 0 (nI 0)) _ hok (mN_sF hN (by omega) _) hK hK6 (by rw [sF_1, if_neg (by omega)]; exact h7) b1 b2 fun τ o1 o2 o3 => ?_
  have hf : mf lyA (0 :: lyB) σ τ := mf_trans (mf_sF (mf_refl _ _ _) (by decide)) (mf_wide o1 (by decide) (by decide))
  have hNt : mN N τ := mN_mf hN hf (by decide) (by decide)
  have hp := hp τ hf (by rw [(o1.2 0 0 (by decide)).1, sF_1, if_pos rfl]) o2 o3
  unfold coA9 at hp
  refine h2 N x τ _ hok hNt ?_
  refine br_c (fun h => ?_) (fun h => ?_)
  · have h := bI_0.mp h
    rw [h, if_neg (fun q => by cases q)] at hp
    exact And.intro trivial hp
  · have h := bI_n0.mp h
    rw [h, if_pos rfl] at hp
    obtain ⟨g, hgn, rfl, hgt⟩ := atN_t (by omega) h
    have eg : (nI g).toNatClampNeg = g := nI_clamp (by omega)
    rw [eg] at hp
    have hnr := (o2.2.2 g hgn hgt).1
    have e45 : τ.2 45 0 (nI g).toNatClampNeg = lN (nea N K g) := by rw [eg]; exact (o2.1 g hgn).2
    refine And.intro (vp_in_nI (by omega) (by omega)) ?_
    have call : ∀ {post' : Option jm_V → jm_G → Prop}, (∀ v ω, post' v ω → post' v ω) → C kX10_coneOf [jR 38 0, jI (nI g), jJ (lN (nea N K g))] τ post' → C kX10_coneOf [jR 38 0, jI (nI g), jJ (τ.2 45 0 (nI g).toNatClampNeg)] τ post' := fun _ h => by rw [e45]; exact h
    refine call (fun _ _ h => h) ?_
    refine h3 N g (nea N K g) τ _ hok hNt hgt (Sep_lt hok hnr.1) ?_
    rw [cne_sep hnr.1]
    refine h4 _ τ _ (p40 (rch_lt hok g _ hgn)) ?_
    exact And.intro trivial hp
end
