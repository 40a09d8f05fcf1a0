-- written by wip/gen/gen.py out of the claim's printed tables; PART A of the skeleton first
-- ===== PART A: goes FIRST, ahead of the names: the tables' words, and 'selects' of the private methods out of them =====
/-- a private method of a class that the tables say can be made, by its rows of tables_1 -/
def lw_okq (q : MethodName × Nat) : Prop := (q.1.cls ≠ "java/lang/invoke/MethodHandle" ∧ q.1.cls ≠ "java/lang/invoke/VarHandle") ∧ Cond.instantiable q.1.cls q.2 ∈ tables_1 ∧ Cond.privateMethod q.1 ∈ tables_1 ∧ Cond.instanceMethod q.1 ∈ tables_1
theorem lw_p0 : lw_okq (⟨"TableMapper", "cutsOfK", "()LTableMapper$Cuts;"⟩, 9) := ⟨⟨by decide +kernel, by decide +kernel⟩, List.mem_of_getElem? (i := 19) (by decide +kernel), List.mem_of_getElem? (i := 430) (by decide +kernel), List.mem_of_getElem? (i := 431) (by decide +kernel)⟩
theorem lw_p1 : lw_okq (⟨"TableMapper$Cuts", "belowAtLevel", "(II)J"⟩, 9) := ⟨⟨by decide +kernel, by decide +kernel⟩, List.mem_of_getElem? (i := 152) (by decide +kernel), List.mem_of_getElem? (i := 450) (by decide +kernel), List.mem_of_getElem? (i := 451) (by decide +kernel)⟩
theorem lw_p2 : lw_okq (⟨"TableMapper$Ways", "findWay", "(J)I"⟩, 8) := ⟨⟨by decide +kernel, by decide +kernel⟩, List.mem_of_getElem? (i := 104) (by decide +kernel), List.mem_of_getElem? (i := 460) (by decide +kernel), List.mem_of_getElem? (i := 461) (by decide +kernel)⟩
theorem lw_p3 : lw_okq (⟨"TableMapper$Ways", "seeUppers", "(JI)V"⟩, 8) := ⟨⟨by decide +kernel, by decide +kernel⟩, List.mem_of_getElem? (i := 104) (by decide +kernel), List.mem_of_getElem? (i := 464) (by decide +kernel), List.mem_of_getElem? (i := 465) (by decide +kernel)⟩
theorem lw_p4 : lw_okq (⟨"TableMapper$Ways", "seeLower", "(II)V"⟩, 8) := ⟨⟨by decide +kernel, by decide +kernel⟩, List.mem_of_getElem? (i := 104) (by decide +kernel), List.mem_of_getElem? (i := 469) (by decide +kernel), List.mem_of_getElem? (i := 470) (by decide +kernel)⟩
theorem lw_p5 : lw_okq (⟨"TableMapper$Ways", "layWay", "(I)V"⟩, 8) := ⟨⟨by decide +kernel, by decide +kernel⟩, List.mem_of_getElem? (i := 104) (by decide +kernel), List.mem_of_getElem? (i := 474) (by decide +kernel), List.mem_of_getElem? (i := 475) (by decide +kernel)⟩
theorem lw_p6 : lw_okq (⟨"TableMapper$Cuts", "learnKept", "(I)V"⟩, 9) := ⟨⟨by decide +kernel, by decide +kernel⟩, List.mem_of_getElem? (i := 152) (by decide +kernel), List.mem_of_getElem? (i := 478) (by decide +kernel), List.mem_of_getElem? (i := 479) (by decide +kernel)⟩
theorem lw_p7 : lw_okq (⟨"TableMapper$Cuts", "placeInRow", "(J)J"⟩, 9) := ⟨⟨by decide +kernel, by decide +kernel⟩, List.mem_of_getElem? (i := 152) (by decide +kernel), List.mem_of_getElem? (i := 486) (by decide +kernel), List.mem_of_getElem? (i := 487) (by decide +kernel)⟩
theorem lw_p8 : lw_okq (⟨"TableMapper$Cuts", "choices", "(II)I"⟩, 9) := ⟨⟨by decide +kernel, by decide +kernel⟩, List.mem_of_getElem? (i := 152) (by decide +kernel), List.mem_of_getElem? (i := 494) (by decide +kernel), List.mem_of_getElem? (i := 495) (by decide +kernel)⟩
theorem lw_p9 : lw_okq (⟨"TableMapper$Cuts", "choice", "(III)J"⟩, 9) := ⟨⟨by decide +kernel, by decide +kernel⟩, List.mem_of_getElem? (i := 152) (by decide +kernel), List.mem_of_getElem? (i := 502) (by decide +kernel), List.mem_of_getElem? (i := 503) (by decide +kernel)⟩
theorem lw_p10 : lw_okq (⟨"TableMapper$Cuts", "addWithThird", "(IJ)V"⟩, 9) := ⟨⟨by decide +kernel, by decide +kernel⟩, List.mem_of_getElem? (i := 152) (by decide +kernel), List.mem_of_getElem? (i := 506) (by decide +kernel), List.mem_of_getElem? (i := 507) (by decide +kernel)⟩
theorem lw_p11 : lw_okq (⟨"TableMapper$Cuts", "takeKept", "(I)V"⟩, 9) := ⟨⟨by decide +kernel, by decide +kernel⟩, List.mem_of_getElem? (i := 152) (by decide +kernel), List.mem_of_getElem? (i := 511) (by decide +kernel), List.mem_of_getElem? (i := 512) (by decide +kernel)⟩
theorem lw_p12 : lw_okq (⟨"TableMapper$Row", "dropAllWith", "(J)V"⟩, 3) := ⟨⟨by decide +kernel, by decide +kernel⟩, List.mem_of_getElem? (i := 135) (by decide +kernel), List.mem_of_getElem? (i := 519) (by decide +kernel), List.mem_of_getElem? (i := 520) (by decide +kernel)⟩
theorem lw_p13 : lw_okq (⟨"TableMapper$Cover", "arrivalBy", "(J)I"⟩, 5) := ⟨⟨by decide +kernel, by decide +kernel⟩, List.mem_of_getElem? (i := 190) (by decide +kernel), List.mem_of_getElem? (i := 529) (by decide +kernel), List.mem_of_getElem? (i := 530) (by decide +kernel)⟩
theorem lw_p14 : lw_okq (⟨"TableMapper$Cover", "withChosen", "(JII)J"⟩, 5) := ⟨⟨by decide +kernel, by decide +kernel⟩, List.mem_of_getElem? (i := 190) (by decide +kernel), List.mem_of_getElem? (i := 543) (by decide +kernel), List.mem_of_getElem? (i := 544) (by decide +kernel)⟩
theorem lw_p15 : lw_okq (⟨"TableMapper", "followCover", "()V"⟩, 9) := ⟨⟨by decide +kernel, by decide +kernel⟩, List.mem_of_getElem? (i := 19) (by decide +kernel), List.mem_of_getElem? (i := 548) (by decide +kernel), List.mem_of_getElem? (i := 549) (by decide +kernel)⟩
def lw_privs_1 : List (MethodName × Nat) := [(⟨"TableMapper", "cutsOfK", "()LTableMapper$Cuts;"⟩, 9), (⟨"TableMapper$Cuts", "belowAtLevel", "(II)J"⟩, 9), (⟨"TableMapper$Ways", "findWay", "(J)I"⟩, 8), (⟨"TableMapper$Ways", "seeUppers", "(JI)V"⟩, 8), (⟨"TableMapper$Ways", "seeLower", "(II)V"⟩, 8), (⟨"TableMapper$Ways", "layWay", "(I)V"⟩, 8), (⟨"TableMapper$Cuts", "learnKept", "(I)V"⟩, 9), (⟨"TableMapper$Cuts", "placeInRow", "(J)J"⟩, 9), (⟨"TableMapper$Cuts", "choices", "(II)I"⟩, 9), (⟨"TableMapper$Cuts", "choice", "(III)J"⟩, 9), (⟨"TableMapper$Cuts", "addWithThird", "(IJ)V"⟩, 9), (⟨"TableMapper$Cuts", "takeKept", "(I)V"⟩, 9), (⟨"TableMapper$Row", "dropAllWith", "(J)V"⟩, 3), (⟨"TableMapper$Cover", "arrivalBy", "(J)I"⟩, 5), (⟨"TableMapper$Cover", "withChosen", "(JII)J"⟩, 5), (⟨"TableMapper", "followCover", "()V"⟩, 9)]
theorem lw_r1 : ∀ q ∈ lw_privs_1, lw_okq q := List.forall_mem_cons.mpr ⟨lw_p0, List.forall_mem_cons.mpr ⟨lw_p1, List.forall_mem_cons.mpr ⟨lw_p2, List.forall_mem_cons.mpr ⟨lw_p3, List.forall_mem_cons.mpr ⟨lw_p4, List.forall_mem_cons.mpr ⟨lw_p5, List.forall_mem_cons.mpr ⟨lw_p6, List.forall_mem_cons.mpr ⟨lw_p7, List.forall_mem_cons.mpr ⟨lw_p8, List.forall_mem_cons.mpr ⟨lw_p9, List.forall_mem_cons.mpr ⟨lw_p10, List.forall_mem_cons.mpr ⟨lw_p11, List.forall_mem_cons.mpr ⟨lw_p12, List.forall_mem_cons.mpr ⟨lw_p13, List.forall_mem_cons.mpr ⟨lw_p14, List.forall_mem_cons.mpr ⟨lw_p15, fun _ h => absurd h List.not_mem_nil⟩⟩⟩⟩⟩⟩⟩⟩⟩⟩⟩⟩⟩⟩⟩⟩
theorem lw_p16 : lw_okq (⟨"TableMapper$Cells", "findMates", "(I)V"⟩, 11) := ⟨⟨by decide +kernel, by decide +kernel⟩, List.mem_of_getElem? (i := 240) (by decide +kernel), List.mem_of_getElem? (i := 560) (by decide +kernel), List.mem_of_getElem? (i := 561) (by decide +kernel)⟩
theorem lw_p17 : lw_okq (⟨"TableMapper$Cells", "pairTables", "()V"⟩, 11) := ⟨⟨by decide +kernel, by decide +kernel⟩, List.mem_of_getElem? (i := 240) (by decide +kernel), List.mem_of_getElem? (i := 568) (by decide +kernel), List.mem_of_getElem? (i := 569) (by decide +kernel)⟩
theorem lw_p18 : lw_okq (⟨"TableMapper$Cells", "layTables", "()V"⟩, 11) := ⟨⟨by decide +kernel, by decide +kernel⟩, List.mem_of_getElem? (i := 240) (by decide +kernel), List.mem_of_getElem? (i := 573) (by decide +kernel), List.mem_of_getElem? (i := 574) (by decide +kernel)⟩
theorem lw_p19 : lw_okq (⟨"TableMapper$Cells", "addCell", "(JJJ)V"⟩, 11) := ⟨⟨by decide +kernel, by decide +kernel⟩, List.mem_of_getElem? (i := 240) (by decide +kernel), List.mem_of_getElem? (i := 577) (by decide +kernel), List.mem_of_getElem? (i := 578) (by decide +kernel)⟩
theorem lw_p20 : lw_okq (⟨"TableMapper$Cells", "join", "(II)V"⟩, 11) := ⟨⟨by decide +kernel, by decide +kernel⟩, List.mem_of_getElem? (i := 240) (by decide +kernel), List.mem_of_getElem? (i := 581) (by decide +kernel), List.mem_of_getElem? (i := 582) (by decide +kernel)⟩
theorem lw_p21 : lw_okq (⟨"TableMapper$Cells", "layRegisters", "()V"⟩, 11) := ⟨⟨by decide +kernel, by decide +kernel⟩, List.mem_of_getElem? (i := 240) (by decide +kernel), List.mem_of_getElem? (i := 585) (by decide +kernel), List.mem_of_getElem? (i := 586) (by decide +kernel)⟩
theorem lw_p22 : lw_okq (⟨"TableMapper$Cells", "usedByTables", "()J"⟩, 11) := ⟨⟨by decide +kernel, by decide +kernel⟩, List.mem_of_getElem? (i := 240) (by decide +kernel), List.mem_of_getElem? (i := 589) (by decide +kernel), List.mem_of_getElem? (i := 590) (by decide +kernel)⟩
theorem lw_p23 : lw_okq (⟨"TableMapper$Cells", "fedToSeveral", "()J"⟩, 11) := ⟨⟨by decide +kernel, by decide +kernel⟩, List.mem_of_getElem? (i := 240) (by decide +kernel), List.mem_of_getElem? (i := 593) (by decide +kernel), List.mem_of_getElem? (i := 594) (by decide +kernel)⟩
theorem lw_p24 : lw_okq (⟨"TableMapper$Cover", "findDue", "(JI)V"⟩, 5) := ⟨⟨by decide +kernel, by decide +kernel⟩, List.mem_of_getElem? (i := 190) (by decide +kernel), List.mem_of_getElem? (i := 615) (by decide +kernel), List.mem_of_getElem? (i := 616) (by decide +kernel)⟩
theorem lw_p25 : lw_okq (⟨"TableMapper$Cover", "bestCut", "(LTableMapper$Cuts;IJ)J"⟩, 5) := ⟨⟨by decide +kernel, by decide +kernel⟩, List.mem_of_getElem? (i := 190) (by decide +kernel), List.mem_of_getElem? (i := 622) (by decide +kernel), List.mem_of_getElem? (i := 623) (by decide +kernel)⟩
theorem lw_p26 : lw_okq (⟨"TableMapper$Cover", "tablesWith", "(JJI)J"⟩, 5) := ⟨⟨by decide +kernel, by decide +kernel⟩, List.mem_of_getElem? (i := 190) (by decide +kernel), List.mem_of_getElem? (i := 626) (by decide +kernel), List.mem_of_getElem? (i := 627) (by decide +kernel)⟩
theorem lw_p27 : lw_okq (⟨"TableMapper$Signals", "registersNext", "()J"⟩, 3) := ⟨⟨by decide +kernel, by decide +kernel⟩, List.mem_of_getElem? (i := 87) (by decide +kernel), List.mem_of_getElem? (i := 657) (by decide +kernel), List.mem_of_getElem? (i := 658) (by decide +kernel)⟩
theorem lw_p28 : lw_okq (⟨"TableMapper$Signals", "nodesOn", "(J)J"⟩, 3) := ⟨⟨by decide +kernel, by decide +kernel⟩, List.mem_of_getElem? (i := 87) (by decide +kernel), List.mem_of_getElem? (i := 665) (by decide +kernel), List.mem_of_getElem? (i := 666) (by decide +kernel)⟩
theorem lw_p29 : lw_okq (⟨"TableMapper$Contents", "findBits", "(I)J"⟩, 5) := ⟨⟨by decide +kernel, by decide +kernel⟩, List.mem_of_getElem? (i := 218) (by decide +kernel), List.mem_of_getElem? (i := 753) (by decide +kernel), List.mem_of_getElem? (i := 754) (by decide +kernel)⟩
theorem lw_p30 : lw_okq (⟨"TableMapper$Clustering", "withMostNetsIn", "()I"⟩, 8) := ⟨⟨by decide +kernel, by decide +kernel⟩, List.mem_of_getElem? (i := 290) (by decide +kernel), List.mem_of_getElem? (i := 804) (by decide +kernel), List.mem_of_getElem? (i := 805) (by decide +kernel)⟩
theorem lw_p31 : lw_okq (⟨"TableMapper$Clustering", "take", "(I)V"⟩, 8) := ⟨⟨by decide +kernel, by decide +kernel⟩, List.mem_of_getElem? (i := 290) (by decide +kernel), List.mem_of_getElem? (i := 810) (by decide +kernel), List.mem_of_getElem? (i := 811) (by decide +kernel)⟩
def lw_privs_2 : List (MethodName × Nat) := [(⟨"TableMapper$Cells", "findMates", "(I)V"⟩, 11), (⟨"TableMapper$Cells", "pairTables", "()V"⟩, 11), (⟨"TableMapper$Cells", "layTables", "()V"⟩, 11), (⟨"TableMapper$Cells", "addCell", "(JJJ)V"⟩, 11), (⟨"TableMapper$Cells", "join", "(II)V"⟩, 11), (⟨"TableMapper$Cells", "layRegisters", "()V"⟩, 11), (⟨"TableMapper$Cells", "usedByTables", "()J"⟩, 11), (⟨"TableMapper$Cells", "fedToSeveral", "()J"⟩, 11), (⟨"TableMapper$Cover", "findDue", "(JI)V"⟩, 5), (⟨"TableMapper$Cover", "bestCut", "(LTableMapper$Cuts;IJ)J"⟩, 5), (⟨"TableMapper$Cover", "tablesWith", "(JJI)J"⟩, 5), (⟨"TableMapper$Signals", "registersNext", "()J"⟩, 3), (⟨"TableMapper$Signals", "nodesOn", "(J)J"⟩, 3), (⟨"TableMapper$Contents", "findBits", "(I)J"⟩, 5), (⟨"TableMapper$Clustering", "withMostNetsIn", "()I"⟩, 8), (⟨"TableMapper$Clustering", "take", "(I)V"⟩, 8)]
theorem lw_r2 : ∀ q ∈ lw_privs_2, lw_okq q := List.forall_mem_cons.mpr ⟨lw_p16, List.forall_mem_cons.mpr ⟨lw_p17, List.forall_mem_cons.mpr ⟨lw_p18, List.forall_mem_cons.mpr ⟨lw_p19, List.forall_mem_cons.mpr ⟨lw_p20, List.forall_mem_cons.mpr ⟨lw_p21, List.forall_mem_cons.mpr ⟨lw_p22, List.forall_mem_cons.mpr ⟨lw_p23, List.forall_mem_cons.mpr ⟨lw_p24, List.forall_mem_cons.mpr ⟨lw_p25, List.forall_mem_cons.mpr ⟨lw_p26, List.forall_mem_cons.mpr ⟨lw_p27, List.forall_mem_cons.mpr ⟨lw_p28, List.forall_mem_cons.mpr ⟨lw_p29, List.forall_mem_cons.mpr ⟨lw_p30, List.forall_mem_cons.mpr ⟨lw_p31, fun _ h => absurd h List.not_mem_nil⟩⟩⟩⟩⟩⟩⟩⟩⟩⟩⟩⟩⟩⟩⟩⟩
theorem lw_p32 : lw_okq (⟨"TableMapper$Clustering", "bestToCome", "(I)I"⟩, 8) := ⟨⟨by decide +kernel, by decide +kernel⟩, List.mem_of_getElem? (i := 290) (by decide +kernel), List.mem_of_getElem? (i := 819) (by decide +kernel), List.mem_of_getElem? (i := 820) (by decide +kernel)⟩
theorem lw_p33 : lw_okq (⟨"TableMapper$Cover", "latestOf", "(J)I"⟩, 5) := ⟨⟨by decide +kernel, by decide +kernel⟩, List.mem_of_getElem? (i := 190) (by decide +kernel), List.mem_of_getElem? (i := 867) (by decide +kernel), List.mem_of_getElem? (i := 868) (by decide +kernel)⟩
theorem lw_p34 : lw_okq (⟨"java/lang/Throwable", "fillInStackTrace", "(I)Ljava/lang/Throwable;"⟩, 6) := ⟨⟨by decide +kernel, by decide +kernel⟩, List.mem_of_getElem? (i := 919) (by decide +kernel), List.mem_of_getElem? (i := 917) (by decide +kernel), List.mem_of_getElem? (i := 918) (by decide +kernel)⟩
theorem lw_p35 : lw_okq (⟨"TableMapperModel", "adds", "(I)I"⟩, 45) := ⟨⟨by decide +kernel, by decide +kernel⟩, List.mem_of_getElem? (i := 950) (by decide +kernel), List.mem_of_getElem? (i := 1101) (by decide +kernel), List.mem_of_getElem? (i := 1102) (by decide +kernel)⟩
theorem lw_p36 : lw_okq (⟨"TableMapperModel", "changes", "()V"⟩, 45) := ⟨⟨by decide +kernel, by decide +kernel⟩, List.mem_of_getElem? (i := 950) (by decide +kernel), List.mem_of_getElem? (i := 1105) (by decide +kernel), List.mem_of_getElem? (i := 1106) (by decide +kernel)⟩
theorem lw_p37 : lw_okq (⟨"TableMapperModel", "isNode", "(I)Z"⟩, 45) := ⟨⟨by decide +kernel, by decide +kernel⟩, List.mem_of_getElem? (i := 950) (by decide +kernel), List.mem_of_getElem? (i := 1116) (by decide +kernel), List.mem_of_getElem? (i := 1117) (by decide +kernel)⟩
theorem lw_p38 : lw_okq (⟨"TableMapperModel", "isRegister", "(I)Z"⟩, 45) := ⟨⟨by decide +kernel, by decide +kernel⟩, List.mem_of_getElem? (i := 950) (by decide +kernel), List.mem_of_getElem? (i := 1131) (by decide +kernel), List.mem_of_getElem? (i := 1132) (by decide +kernel)⟩
theorem lw_p39 : lw_okq (⟨"TableMapperModel", "lays", "()V"⟩, 45) := ⟨⟨by decide +kernel, by decide +kernel⟩, List.mem_of_getElem? (i := 950) (by decide +kernel), List.mem_of_getElem? (i := 1153) (by decide +kernel), List.mem_of_getElem? (i := 1154) (by decide +kernel)⟩
theorem lw_p40 : lw_okq (⟨"TableMapperModel", "isCutOff", "(II)Z"⟩, 45) := ⟨⟨by decide +kernel, by decide +kernel⟩, List.mem_of_getElem? (i := 950) (by decide +kernel), List.mem_of_getElem? (i := 1157) (by decide +kernel), List.mem_of_getElem? (i := 1158) (by decide +kernel)⟩
theorem lw_p41 : lw_okq (⟨"TableMapperModel", "spreads", "(II)I"⟩, 45) := ⟨⟨by decide +kernel, by decide +kernel⟩, List.mem_of_getElem? (i := 950) (by decide +kernel), List.mem_of_getElem? (i := 1161) (by decide +kernel), List.mem_of_getElem? (i := 1162) (by decide +kernel)⟩
theorem lw_p42 : lw_okq (⟨"TableMapperModel", "comes", "(II)V"⟩, 45) := ⟨⟨by decide +kernel, by decide +kernel⟩, List.mem_of_getElem? (i := 950) (by decide +kernel), List.mem_of_getElem? (i := 1165) (by decide +kernel), List.mem_of_getElem? (i := 1166) (by decide +kernel)⟩
theorem lw_p43 : lw_okq (⟨"TableMapperModel", "spreadsOut", "(I)V"⟩, 45) := ⟨⟨by decide +kernel, by decide +kernel⟩, List.mem_of_getElem? (i := 950) (by decide +kernel), List.mem_of_getElem? (i := 1169) (by decide +kernel), List.mem_of_getElem? (i := 1170) (by decide +kernel)⟩
theorem lw_p44 : lw_okq (⟨"TableMapperModel", "spreadsIn", "(IJI)V"⟩, 45) := ⟨⟨by decide +kernel, by decide +kernel⟩, List.mem_of_getElem? (i := 950) (by decide +kernel), List.mem_of_getElem? (i := 1173) (by decide +kernel), List.mem_of_getElem? (i := 1174) (by decide +kernel)⟩
theorem lw_p45 : lw_okq (⟨"TableMapperModel", "room", "(II)I"⟩, 45) := ⟨⟨by decide +kernel, by decide +kernel⟩, List.mem_of_getElem? (i := 950) (by decide +kernel), List.mem_of_getElem? (i := 1177) (by decide +kernel), List.mem_of_getElem? (i := 1178) (by decide +kernel)⟩
theorem lw_p46 : lw_okq (⟨"TableMapperModel", "flows", "(I)V"⟩, 45) := ⟨⟨by decide +kernel, by decide +kernel⟩, List.mem_of_getElem? (i := 950) (by decide +kernel), List.mem_of_getElem? (i := 1181) (by decide +kernel), List.mem_of_getElem? (i := 1182) (by decide +kernel)⟩
theorem lw_p47 : lw_okq (⟨"TableMapperModel", "slotOf", "(IIZ)I"⟩, 45) := ⟨⟨by decide +kernel, by decide +kernel⟩, List.mem_of_getElem? (i := 950) (by decide +kernel), List.mem_of_getElem? (i := 1185) (by decide +kernel), List.mem_of_getElem? (i := 1186) (by decide +kernel)⟩
def lw_privs_3 : List (MethodName × Nat) := [(⟨"TableMapper$Clustering", "bestToCome", "(I)I"⟩, 8), (⟨"TableMapper$Cover", "latestOf", "(J)I"⟩, 5), (⟨"java/lang/Throwable", "fillInStackTrace", "(I)Ljava/lang/Throwable;"⟩, 6), (⟨"TableMapperModel", "adds", "(I)I"⟩, 45), (⟨"TableMapperModel", "changes", "()V"⟩, 45), (⟨"TableMapperModel", "isNode", "(I)Z"⟩, 45), (⟨"TableMapperModel", "isRegister", "(I)Z"⟩, 45), (⟨"TableMapperModel", "lays", "()V"⟩, 45), (⟨"TableMapperModel", "isCutOff", "(II)Z"⟩, 45), (⟨"TableMapperModel", "spreads", "(II)I"⟩, 45), (⟨"TableMapperModel", "comes", "(II)V"⟩, 45), (⟨"TableMapperModel", "spreadsOut", "(I)V"⟩, 45), (⟨"TableMapperModel", "spreadsIn", "(IJI)V"⟩, 45), (⟨"TableMapperModel", "room", "(II)I"⟩, 45), (⟨"TableMapperModel", "flows", "(I)V"⟩, 45), (⟨"TableMapperModel", "slotOf", "(IIZ)I"⟩, 45)]
theorem lw_r3 : ∀ q ∈ lw_privs_3, lw_okq q := List.forall_mem_cons.mpr ⟨lw_p32, List.forall_mem_cons.mpr ⟨lw_p33, List.forall_mem_cons.mpr ⟨lw_p34, List.forall_mem_cons.mpr ⟨lw_p35, List.forall_mem_cons.mpr ⟨lw_p36, List.forall_mem_cons.mpr ⟨lw_p37, List.forall_mem_cons.mpr ⟨lw_p38, List.forall_mem_cons.mpr ⟨lw_p39, List.forall_mem_cons.mpr ⟨lw_p40, List.forall_mem_cons.mpr ⟨lw_p41, List.forall_mem_cons.mpr ⟨lw_p42, List.forall_mem_cons.mpr ⟨lw_p43, List.forall_mem_cons.mpr ⟨lw_p44, List.forall_mem_cons.mpr ⟨lw_p45, List.forall_mem_cons.mpr ⟨lw_p46, List.forall_mem_cons.mpr ⟨lw_p47, fun _ h => absurd h List.not_mem_nil⟩⟩⟩⟩⟩⟩⟩⟩⟩⟩⟩⟩⟩⟩⟩⟩
theorem lw_p48 : lw_okq (⟨"TableMapperModel", "laysKept", "(I)V"⟩, 45) := ⟨⟨by decide +kernel, by decide +kernel⟩, List.mem_of_getElem? (i := 950) (by decide +kernel), List.mem_of_getElem? (i := 1189) (by decide +kernel), List.mem_of_getElem? (i := 1190) (by decide +kernel)⟩
theorem lw_p49 : lw_okq (⟨"TableMapperModel", "makes", "(J)V"⟩, 45) := ⟨⟨by decide +kernel, by decide +kernel⟩, List.mem_of_getElem? (i := 950) (by decide +kernel), List.mem_of_getElem? (i := 1193) (by decide +kernel), List.mem_of_getElem? (i := 1194) (by decide +kernel)⟩
theorem lw_p50 : lw_okq (⟨"TableMapperModel", "setOf", "(II)J"⟩, 45) := ⟨⟨by decide +kernel, by decide +kernel⟩, List.mem_of_getElem? (i := 950) (by decide +kernel), List.mem_of_getElem? (i := 1197) (by decide +kernel), List.mem_of_getElem? (i := 1198) (by decide +kernel)⟩
theorem lw_p51 : lw_okq (⟨"TableMapperModel", "puts", "(IJI)I"⟩, 45) := ⟨⟨by decide +kernel, by decide +kernel⟩, List.mem_of_getElem? (i := 950) (by decide +kernel), List.mem_of_getElem? (i := 1202) (by decide +kernel), List.mem_of_getElem? (i := 1203) (by decide +kernel)⟩
theorem lw_p52 : lw_okq (⟨"TableMapperModel", "isAhead", "(JJ)Z"⟩, 45) := ⟨⟨by decide +kernel, by decide +kernel⟩, List.mem_of_getElem? (i := 950) (by decide +kernel), List.mem_of_getElem? (i := 1206) (by decide +kernel), List.mem_of_getElem? (i := 1207) (by decide +kernel)⟩
theorem lw_p53 : lw_okq (⟨"TableMapperModel", "greatestIn", "(J)I"⟩, 45) := ⟨⟨by decide +kernel, by decide +kernel⟩, List.mem_of_getElem? (i := 950) (by decide +kernel), List.mem_of_getElem? (i := 1210) (by decide +kernel), List.mem_of_getElem? (i := 1211) (by decide +kernel)⟩
theorem lw_p54 : lw_okq (⟨"TableMapperModel", "roots", "()J"⟩, 45) := ⟨⟨by decide +kernel, by decide +kernel⟩, List.mem_of_getElem? (i := 950) (by decide +kernel), List.mem_of_getElem? (i := 1217) (by decide +kernel), List.mem_of_getElem? (i := 1218) (by decide +kernel)⟩
theorem lw_p55 : lw_okq (⟨"TableMapperModel", "fed", "()J"⟩, 45) := ⟨⟨by decide +kernel, by decide +kernel⟩, List.mem_of_getElem? (i := 950) (by decide +kernel), List.mem_of_getElem? (i := 1221) (by decide +kernel), List.mem_of_getElem? (i := 1222) (by decide +kernel)⟩
theorem lw_p56 : lw_okq (⟨"TableMapperModel", "isGate", "(I)Z"⟩, 45) := ⟨⟨by decide +kernel, by decide +kernel⟩, List.mem_of_getElem? (i := 950) (by decide +kernel), List.mem_of_getElem? (i := 1229) (by decide +kernel), List.mem_of_getElem? (i := 1230) (by decide +kernel)⟩
theorem lw_p57 : lw_okq (⟨"TableMapperModel", "coneOf", "(IJ)J"⟩, 45) := ⟨⟨by decide +kernel, by decide +kernel⟩, List.mem_of_getElem? (i := 950) (by decide +kernel), List.mem_of_getElem? (i := 1237) (by decide +kernel), List.mem_of_getElem? (i := 1238) (by decide +kernel)⟩
theorem lw_p58 : lw_okq (⟨"TableMapperModel", "rootDepth", "()I"⟩, 45) := ⟨⟨by decide +kernel, by decide +kernel⟩, List.mem_of_getElem? (i := 950) (by decide +kernel), List.mem_of_getElem? (i := 1253) (by decide +kernel), List.mem_of_getElem? (i := 1254) (by decide +kernel)⟩
theorem lw_p59 : lw_okq (⟨"TableMapperModel", "looks", "()V"⟩, 45) := ⟨⟨by decide +kernel, by decide +kernel⟩, List.mem_of_getElem? (i := 950) (by decide +kernel), List.mem_of_getElem? (i := 1261) (by decide +kernel), List.mem_of_getElem? (i := 1262) (by decide +kernel)⟩
theorem lw_p60 : lw_okq (⟨"TableMapperModel", "laysTables", "()V"⟩, 45) := ⟨⟨by decide +kernel, by decide +kernel⟩, List.mem_of_getElem? (i := 950) (by decide +kernel), List.mem_of_getElem? (i := 1265) (by decide +kernel), List.mem_of_getElem? (i := 1266) (by decide +kernel)⟩
theorem lw_p61 : lw_okq (⟨"TableMapperModel", "gates", "()J"⟩, 45) := ⟨⟨by decide +kernel, by decide +kernel⟩, List.mem_of_getElem? (i := 950) (by decide +kernel), List.mem_of_getElem? (i := 1269) (by decide +kernel), List.mem_of_getElem? (i := 1270) (by decide +kernel)⟩
theorem lw_p62 : lw_okq (⟨"TableMapperModel", "laysArrival", "()V"⟩, 45) := ⟨⟨by decide +kernel, by decide +kernel⟩, List.mem_of_getElem? (i := 950) (by decide +kernel), List.mem_of_getElem? (i := 1273) (by decide +kernel), List.mem_of_getElem? (i := 1274) (by decide +kernel)⟩
theorem lw_p63 : lw_okq (⟨"TableMapperModel", "arrivalBy", "(J)I"⟩, 45) := ⟨⟨by decide +kernel, by decide +kernel⟩, List.mem_of_getElem? (i := 950) (by decide +kernel), List.mem_of_getElem? (i := 1277) (by decide +kernel), List.mem_of_getElem? (i := 1278) (by decide +kernel)⟩
def lw_privs_4 : List (MethodName × Nat) := [(⟨"TableMapperModel", "laysKept", "(I)V"⟩, 45), (⟨"TableMapperModel", "makes", "(J)V"⟩, 45), (⟨"TableMapperModel", "setOf", "(II)J"⟩, 45), (⟨"TableMapperModel", "puts", "(IJI)I"⟩, 45), (⟨"TableMapperModel", "isAhead", "(JJ)Z"⟩, 45), (⟨"TableMapperModel", "greatestIn", "(J)I"⟩, 45), (⟨"TableMapperModel", "roots", "()J"⟩, 45), (⟨"TableMapperModel", "fed", "()J"⟩, 45), (⟨"TableMapperModel", "isGate", "(I)Z"⟩, 45), (⟨"TableMapperModel", "coneOf", "(IJ)J"⟩, 45), (⟨"TableMapperModel", "rootDepth", "()I"⟩, 45), (⟨"TableMapperModel", "looks", "()V"⟩, 45), (⟨"TableMapperModel", "laysTables", "()V"⟩, 45), (⟨"TableMapperModel", "gates", "()J"⟩, 45), (⟨"TableMapperModel", "laysArrival", "()V"⟩, 45), (⟨"TableMapperModel", "arrivalBy", "(J)I"⟩, 45)]
theorem lw_r4 : ∀ q ∈ lw_privs_4, lw_okq q := List.forall_mem_cons.mpr ⟨lw_p48, List.forall_mem_cons.mpr ⟨lw_p49, List.forall_mem_cons.mpr ⟨lw_p50, List.forall_mem_cons.mpr ⟨lw_p51, List.forall_mem_cons.mpr ⟨lw_p52, List.forall_mem_cons.mpr ⟨lw_p53, List.forall_mem_cons.mpr ⟨lw_p54, List.forall_mem_cons.mpr ⟨lw_p55, List.forall_mem_cons.mpr ⟨lw_p56, List.forall_mem_cons.mpr ⟨lw_p57, List.forall_mem_cons.mpr ⟨lw_p58, List.forall_mem_cons.mpr ⟨lw_p59, List.forall_mem_cons.mpr ⟨lw_p60, List.forall_mem_cons.mpr ⟨lw_p61, List.forall_mem_cons.mpr ⟨lw_p62, List.forall_mem_cons.mpr ⟨lw_p63, fun _ h => absurd h List.not_mem_nil⟩⟩⟩⟩⟩⟩⟩⟩⟩⟩⟩⟩⟩⟩⟩⟩
theorem lw_p64 : lw_okq (⟨"TableMapperModel", "laysDue", "(I)V"⟩, 45) := ⟨⟨by decide +kernel, by decide +kernel⟩, List.mem_of_getElem? (i := 950) (by decide +kernel), List.mem_of_getElem? (i := 1285) (by decide +kernel), List.mem_of_getElem? (i := 1286) (by decide +kernel)⟩
theorem lw_p65 : lw_okq (⟨"TableMapperModel", "choosesAgain", "(I)V"⟩, 45) := ⟨⟨by decide +kernel, by decide +kernel⟩, List.mem_of_getElem? (i := 950) (by decide +kernel), List.mem_of_getElem? (i := 1289) (by decide +kernel), List.mem_of_getElem? (i := 1290) (by decide +kernel)⟩
theorem lw_p66 : lw_okq (⟨"TableMapperModel", "tablesBy", "(IJ)I"⟩, 45) := ⟨⟨by decide +kernel, by decide +kernel⟩, List.mem_of_getElem? (i := 950) (by decide +kernel), List.mem_of_getElem? (i := 1293) (by decide +kernel), List.mem_of_getElem? (i := 1294) (by decide +kernel)⟩
theorem lw_p67 : lw_okq (⟨"TableMapperModel", "holdsOf", "(I)J"⟩, 45) := ⟨⟨by decide +kernel, by decide +kernel⟩, List.mem_of_getElem? (i := 950) (by decide +kernel), List.mem_of_getElem? (i := 1305) (by decide +kernel), List.mem_of_getElem? (i := 1306) (by decide +kernel)⟩
theorem lw_p68 : lw_okq (⟨"TableMapperModel", "fixes", "(JI)V"⟩, 45) := ⟨⟨by decide +kernel, by decide +kernel⟩, List.mem_of_getElem? (i := 950) (by decide +kernel), List.mem_of_getElem? (i := 1309) (by decide +kernel), List.mem_of_getElem? (i := 1310) (by decide +kernel)⟩
theorem lw_p69 : lw_okq (⟨"TableMapperModel", "works", "(J)V"⟩, 45) := ⟨⟨by decide +kernel, by decide +kernel⟩, List.mem_of_getElem? (i := 950) (by decide +kernel), List.mem_of_getElem? (i := 1313) (by decide +kernel), List.mem_of_getElem? (i := 1314) (by decide +kernel)⟩
theorem lw_p70 : lw_okq (⟨"TableMapperModel", "gateIs", "(I)Z"⟩, 45) := ⟨⟨by decide +kernel, by decide +kernel⟩, List.mem_of_getElem? (i := 950) (by decide +kernel), List.mem_of_getElem? (i := 1317) (by decide +kernel), List.mem_of_getElem? (i := 1318) (by decide +kernel)⟩
theorem lw_p71 : lw_okq (⟨"TableMapperModel", "laysCells", "()V"⟩, 45) := ⟨⟨by decide +kernel, by decide +kernel⟩, List.mem_of_getElem? (i := 950) (by decide +kernel), List.mem_of_getElem? (i := 1348) (by decide +kernel), List.mem_of_getElem? (i := 1349) (by decide +kernel)⟩
theorem lw_p72 : lw_okq (⟨"TableMapperModel", "laysPairs", "()V"⟩, 45) := ⟨⟨by decide +kernel, by decide +kernel⟩, List.mem_of_getElem? (i := 950) (by decide +kernel), List.mem_of_getElem? (i := 1352) (by decide +kernel), List.mem_of_getElem? (i := 1353) (by decide +kernel)⟩
theorem lw_p73 : lw_okq (⟨"TableMapperModel", "isPair", "(II)Z"⟩, 45) := ⟨⟨by decide +kernel, by decide +kernel⟩, List.mem_of_getElem? (i := 950) (by decide +kernel), List.mem_of_getElem? (i := 1356) (by decide +kernel), List.mem_of_getElem? (i := 1357) (by decide +kernel)⟩
theorem lw_p74 : lw_okq (⟨"TableMapperModel", "newCell", "(III)V"⟩, 45) := ⟨⟨by decide +kernel, by decide +kernel⟩, List.mem_of_getElem? (i := 950) (by decide +kernel), List.mem_of_getElem? (i := 1360) (by decide +kernel), List.mem_of_getElem? (i := 1361) (by decide +kernel)⟩
theorem lw_p75 : lw_okq (⟨"TableMapperModel", "isPacked", "(I)Z"⟩, 45) := ⟨⟨by decide +kernel, by decide +kernel⟩, List.mem_of_getElem? (i := 950) (by decide +kernel), List.mem_of_getElem? (i := 1364) (by decide +kernel), List.mem_of_getElem? (i := 1365) (by decide +kernel)⟩
theorem lw_p76 : lw_okq (⟨"TableMapperModel", "usesOf", "(I)I"⟩, 45) := ⟨⟨by decide +kernel, by decide +kernel⟩, List.mem_of_getElem? (i := 950) (by decide +kernel), List.mem_of_getElem? (i := 1368) (by decide +kernel), List.mem_of_getElem? (i := 1369) (by decide +kernel)⟩
theorem lw_p77 : lw_okq (⟨"TableMapperModel", "packs", "(I)V"⟩, 45) := ⟨⟨by decide +kernel, by decide +kernel⟩, List.mem_of_getElem? (i := 950) (by decide +kernel), List.mem_of_getElem? (i := 1372) (by decide +kernel), List.mem_of_getElem? (i := 1373) (by decide +kernel)⟩
theorem lw_p78 : lw_okq (⟨"TableMapperModel", "caresOf", "(I)I"⟩, 45) := ⟨⟨by decide +kernel, by decide +kernel⟩, List.mem_of_getElem? (i := 950) (by decide +kernel), List.mem_of_getElem? (i := 1376) (by decide +kernel), List.mem_of_getElem? (i := 1377) (by decide +kernel)⟩
theorem lw_p79 : lw_okq (⟨"TableMapperModel", "slowest", "()I"⟩, 45) := ⟨⟨by decide +kernel, by decide +kernel⟩, List.mem_of_getElem? (i := 950) (by decide +kernel), List.mem_of_getElem? (i := 1384) (by decide +kernel), List.mem_of_getElem? (i := 1385) (by decide +kernel)⟩
def lw_privs_5 : List (MethodName × Nat) := [(⟨"TableMapperModel", "laysDue", "(I)V"⟩, 45), (⟨"TableMapperModel", "choosesAgain", "(I)V"⟩, 45), (⟨"TableMapperModel", "tablesBy", "(IJ)I"⟩, 45), (⟨"TableMapperModel", "holdsOf", "(I)J"⟩, 45), (⟨"TableMapperModel", "fixes", "(JI)V"⟩, 45), (⟨"TableMapperModel", "works", "(J)V"⟩, 45), (⟨"TableMapperModel", "gateIs", "(I)Z"⟩, 45), (⟨"TableMapperModel", "laysCells", "()V"⟩, 45), (⟨"TableMapperModel", "laysPairs", "()V"⟩, 45), (⟨"TableMapperModel", "isPair", "(II)Z"⟩, 45), (⟨"TableMapperModel", "newCell", "(III)V"⟩, 45), (⟨"TableMapperModel", "isPacked", "(I)Z"⟩, 45), (⟨"TableMapperModel", "usesOf", "(I)I"⟩, 45), (⟨"TableMapperModel", "packs", "(I)V"⟩, 45), (⟨"TableMapperModel", "caresOf", "(I)I"⟩, 45), (⟨"TableMapperModel", "slowest", "()I"⟩, 45)]
theorem lw_r5 : ∀ q ∈ lw_privs_5, lw_okq q := List.forall_mem_cons.mpr ⟨lw_p64, List.forall_mem_cons.mpr ⟨lw_p65, List.forall_mem_cons.mpr ⟨lw_p66, List.forall_mem_cons.mpr ⟨lw_p67, List.forall_mem_cons.mpr ⟨lw_p68, List.forall_mem_cons.mpr ⟨lw_p69, List.forall_mem_cons.mpr ⟨lw_p70, List.forall_mem_cons.mpr ⟨lw_p71, List.forall_mem_cons.mpr ⟨lw_p72, List.forall_mem_cons.mpr ⟨lw_p73, List.forall_mem_cons.mpr ⟨lw_p74, List.forall_mem_cons.mpr ⟨lw_p75, List.forall_mem_cons.mpr ⟨lw_p76, List.forall_mem_cons.mpr ⟨lw_p77, List.forall_mem_cons.mpr ⟨lw_p78, List.forall_mem_cons.mpr ⟨lw_p79, fun _ h => absurd h List.not_mem_nil⟩⟩⟩⟩⟩⟩⟩⟩⟩⟩⟩⟩⟩⟩⟩⟩
theorem lw_p80 : lw_okq (⟨"TableMapperModel", "mostPairs", "()I"⟩, 45) := ⟨⟨by decide +kernel, by decide +kernel⟩, List.mem_of_getElem? (i := 950) (by decide +kernel), List.mem_of_getElem? (i := 1388) (by decide +kernel), List.mem_of_getElem? (i := 1389) (by decide +kernel)⟩
theorem lw_p81 : lw_okq (⟨"TableMapperModel", "laysClusters", "(II)Z"⟩, 45) := ⟨⟨by decide +kernel, by decide +kernel⟩, List.mem_of_getElem? (i := 950) (by decide +kernel), List.mem_of_getElem? (i := 1400) (by decide +kernel), List.mem_of_getElem? (i := 1401) (by decide +kernel)⟩
theorem lw_p82 : lw_okq (⟨"TableMapperModel", "beginning", "()I"⟩, 45) := ⟨⟨by decide +kernel, by decide +kernel⟩, List.mem_of_getElem? (i := 950) (by decide +kernel), List.mem_of_getElem? (i := 1404) (by decide +kernel), List.mem_of_getElem? (i := 1405) (by decide +kernel)⟩
theorem lw_p83 : lw_okq (⟨"TableMapperModel", "joins", "(I)V"⟩, 45) := ⟨⟨by decide +kernel, by decide +kernel⟩, List.mem_of_getElem? (i := 950) (by decide +kernel), List.mem_of_getElem? (i := 1408) (by decide +kernel), List.mem_of_getElem? (i := 1409) (by decide +kernel)⟩
theorem lw_p84 : lw_okq (⟨"TableMapperModel", "nextTo", "(I)I"⟩, 45) := ⟨⟨by decide +kernel, by decide +kernel⟩, List.mem_of_getElem? (i := 950) (by decide +kernel), List.mem_of_getElem? (i := 1412) (by decide +kernel), List.mem_of_getElem? (i := 1413) (by decide +kernel)⟩
def lw_privs_6 : List (MethodName × Nat) := [(⟨"TableMapperModel", "mostPairs", "()I"⟩, 45), (⟨"TableMapperModel", "laysClusters", "(II)Z"⟩, 45), (⟨"TableMapperModel", "beginning", "()I"⟩, 45), (⟨"TableMapperModel", "joins", "(I)V"⟩, 45), (⟨"TableMapperModel", "nextTo", "(I)I"⟩, 45)]
theorem lw_r6 : ∀ q ∈ lw_privs_6, lw_okq q := List.forall_mem_cons.mpr ⟨lw_p80, List.forall_mem_cons.mpr ⟨lw_p81, List.forall_mem_cons.mpr ⟨lw_p82, List.forall_mem_cons.mpr ⟨lw_p83, List.forall_mem_cons.mpr ⟨lw_p84, fun _ h => absurd h List.not_mem_nil⟩⟩⟩⟩⟩
def lw_privs : List (MethodName × Nat) := lw_privs_1 ++ (lw_privs_2 ++ (lw_privs_3 ++ (lw_privs_4 ++ (lw_privs_5 ++ (lw_privs_6)))))
def lw_tbl : List Cond := k2_sels lw_privs ++ tables_1
theorem lw_privs_ok : ∀ q ∈ lw_privs, lw_okq q := by
  show ∀ q ∈ lw_privs_1 ++ (lw_privs_2 ++ (lw_privs_3 ++ (lw_privs_4 ++ (lw_privs_5 ++ (lw_privs_6))))), lw_okq q
  exact List.forall_mem_append.mpr ⟨lw_r1, List.forall_mem_append.mpr ⟨lw_r2, List.forall_mem_append.mpr ⟨lw_r3, List.forall_mem_append.mpr ⟨lw_r4, List.forall_mem_append.mpr ⟨lw_r5, lw_r6⟩⟩⟩⟩⟩
def RX0 : String := "TableMapper$Cells"
def TX0 : u_T := fun k => match k with
  | 0 => ("TableMapper$Cells", "network", "LTableMapper$Network;", true)
  | 1 => ("TableMapper$Cells", "cover", "LTableMapper$Cover;", true)
  | 2 => ("TableMapper$Cells", "mates", "[J", true)
  | 3 => ("TableMapper$Cells", "partner", "[I", true)
  | 4 => ("TableMapper$Cells", "cellOf", "[I", true)
  | 5 => ("TableMapper$Cells", "tablesIn", "[J", true)
  | 6 => ("TableMapper$Cells", "registersIn", "[J", true)
  | 7 => ("TableMapper$Cells", "netsIn", "[J", true)
  | 8 => ("TableMapper$Cells", "packed", "J", false)
  | 9 => ("TableMapper$Cells", "pairs", "I", false)
  | _ => ("TableMapper$Cells", "size", "I", false)
def tyX0 : Nat → FieldType := fun k => match k with
  | 0 => .object "TableMapper$Network"
  | 1 => .object "TableMapper$Cover"
  | 2 => .array .long
  | 3 => .array .int
  | 4 => .array .int
  | 5 => .array .long
  | 6 => .array .long
  | 7 => .array .long
  | 8 => .long
  | 9 => .int
  | _ => .int
abbrev wsX00 : List Cond := u_ws RX0 TX0 11
theorem nmX0 : ∀ a, a < 11 → ∀ b, b < 11 → a ≠ b → (TX0 a).2.1 ≠ (TX0 b).2.1 := by decide +kernel
theorem tyX0_ok : ∀ k, k < 11 → parseFieldDescriptor (TX0 k).2.2.1 = some (tyX0 k) := by decide +kernel
def RX1 : String := "TableMapper$Clustering"
def TX1 : u_T := fun k => match k with
  | 0 => ("TableMapper$Clustering", "cells", "LTableMapper$Cells;", true)
  | 1 => ("TableMapper$Clustering", "clusterOf", "[I", true)
  | 2 => ("TableMapper$Clustering", "size", "I", false)
  | 3 => ("TableMapper$Clustering", "filledCells", "I", false)
  | 4 => ("TableMapper$Clustering", "filledNets", "I", false)
  | 5 => ("TableMapper$Clustering", "left", "J", false)
  | 6 => ("TableMapper$Clustering", "netsIn", "J", false)
  | _ => ("TableMapper$Clustering", "netsOut", "J", false)
def tyX1 : Nat → FieldType := fun k => match k with
  | 0 => .object "TableMapper$Cells"
  | 1 => .array .int
  | 2 => .int
  | 3 => .int
  | 4 => .int
  | 5 => .long
  | 6 => .long
  | _ => .long
abbrev wsX10 : List Cond := u_ws RX1 TX1 8
theorem nmX1 : ∀ a, a < 8 → ∀ b, b < 8 → a ≠ b → (TX1 a).2.1 ≠ (TX1 b).2.1 := by decide +kernel
theorem tyX1_ok : ∀ k, k < 8 → parseFieldDescriptor (TX1 k).2.2.1 = some (tyX1 k) := by decide +kernel
def RX2 : String := "TableMapper$Contents"
def TX2 : u_T := fun k => match k with
  | 0 => ("TableMapper$Contents", "network", "LTableMapper$Network;", true)
  | 1 => ("TableMapper$Contents", "cover", "LTableMapper$Cover;", true)
  | 2 => ("TableMapper$Contents", "bits", "[J", true)
  | 3 => ("TableMapper$Contents", "values", "[J", true)
  | _ => ("TableMapper$Contents", "known", "J", false)
def tyX2 : Nat → FieldType := fun k => match k with
  | 0 => .object "TableMapper$Network"
  | 1 => .object "TableMapper$Cover"
  | 2 => .array .long
  | 3 => .array .long
  | _ => .long
abbrev wsX20 : List Cond := u_ws RX2 TX2 5
theorem nmX2 : ∀ a, a < 5 → ∀ b, b < 5 → a ≠ b → (TX2 a).2.1 ≠ (TX2 b).2.1 := by decide +kernel
theorem tyX2_ok : ∀ k, k < 5 → parseFieldDescriptor (TX2 k).2.2.1 = some (tyX2 k) := by decide +kernel
def RX3 : String := "TableMapper$Cover"
def TX3 : u_T := fun k => match k with
  | 0 => ("TableMapper$Cover", "network", "LTableMapper$Network;", true)
  | 1 => ("TableMapper$Cover", "due", "[I", true)
  | 2 => ("TableMapper$Cover", "chosen", "[J", true)
  | 3 => ("TableMapper$Cover", "arrival", "[I", true)
  | _ => ("TableMapper$Cover", "tables", "J", false)
def tyX3 : Nat → FieldType := fun k => match k with
  | 0 => .object "TableMapper$Network"
  | 1 => .array .int
  | 2 => .array .long
  | 3 => .array .int
  | _ => .long
abbrev wsX30 : List Cond := u_ws RX3 TX3 5
theorem nmX3 : ∀ a, a < 5 → ∀ b, b < 5 → a ≠ b → (TX3 a).2.1 ≠ (TX3 b).2.1 := by decide +kernel
theorem tyX3_ok : ∀ k, k < 5 → parseFieldDescriptor (TX3 k).2.2.1 = some (tyX3 k) := by decide +kernel
def RX4 : String := "TableMapper$Cuts"
def TX4 : u_T := fun k => match k with
  | 0 => ("TableMapper$Cuts", "network", "LTableMapper$Network;", true)
  | 1 => ("TableMapper$Cuts", "ways", "LTableMapper$Ways;", true)
  | 2 => ("TableMapper$Cuts", "row", "LTableMapper$Row;", true)
  | 3 => ("TableMapper$Cuts", "k", "I", true)
  | 4 => ("TableMapper$Cuts", "level", "[I", true)
  | 5 => ("TableMapper$Cuts", "near", "[J", true)
  | 6 => ("TableMapper$Cuts", "kept", "[J", true)
  | 7 => ("TableMapper$Cuts", "keptSize", "[I", true)
  | _ => ("TableMapper$Cuts", "learnt", "I", false)
def tyX4 : Nat → FieldType := fun k => match k with
  | 0 => .object "TableMapper$Network"
  | 1 => .object "TableMapper$Ways"
  | 2 => .object "TableMapper$Row"
  | 3 => .int
  | 4 => .array .int
  | 5 => .array .long
  | 6 => .array .long
  | 7 => .array .int
  | _ => .int
abbrev wsX40 : List Cond := u_ws RX4 TX4 9
theorem nmX4 : ∀ a, a < 9 → ∀ b, b < 9 → a ≠ b → (TX4 a).2.1 ≠ (TX4 b).2.1 := by decide +kernel
theorem tyX4_ok : ∀ k, k < 9 → parseFieldDescriptor (TX4 k).2.2.1 = some (tyX4 k) := by decide +kernel
def RX5 : String := "TableMapper$Network"
def TX5 : u_T := fun k => match k with
  | 0 => ("TableMapper$Network", "kind", "[I", true)
  | 1 => ("TableMapper$Network", "source", "[I", true)
  | 2 => ("TableMapper$Network", "feeds", "[I", true)
  | 3 => ("TableMapper$Network", "sources", "[J", true)
  | 4 => ("TableMapper$Network", "below", "[J", true)
  | 5 => ("TableMapper$Network", "inputs", "J", false)
  | 6 => ("TableMapper$Network", "gates", "J", false)
  | 7 => ("TableMapper$Network", "registers", "J", false)
  | 8 => ("TableMapper$Network", "outputs", "J", false)
  | _ => ("TableMapper$Network", "size", "I", false)
def tyX5 : Nat → FieldType := fun k => match k with
  | 0 => .array .int
  | 1 => .array .int
  | 2 => .array .int
  | 3 => .array .long
  | 4 => .array .long
  | 5 => .long
  | 6 => .long
  | 7 => .long
  | 8 => .long
  | _ => .int
abbrev wsX50 : List Cond := u_ws RX5 TX5 10
theorem nmX5 : ∀ a, a < 10 → ∀ b, b < 10 → a ≠ b → (TX5 a).2.1 ≠ (TX5 b).2.1 := by decide +kernel
theorem tyX5_ok : ∀ k, k < 10 → parseFieldDescriptor (TX5 k).2.2.1 = some (tyX5 k) := by decide +kernel
def RX6 : String := "TableMapper$Row"
def TX6 : u_T := fun k => match k with
  | 0 => ("TableMapper$Row", "cuts", "[J", true)
  | 1 => ("TableMapper$Row", "places", "[J", true)
  | _ => ("TableMapper$Row", "size", "I", false)
def tyX6 : Nat → FieldType := fun k => match k with
  | 0 => .array .long
  | 1 => .array .long
  | _ => .int
abbrev wsX60 : List Cond := u_ws RX6 TX6 3
theorem nmX6 : ∀ a, a < 3 → ∀ b, b < 3 → a ≠ b → (TX6 a).2.1 ≠ (TX6 b).2.1 := by decide +kernel
theorem tyX6_ok : ∀ k, k < 3 → parseFieldDescriptor (TX6 k).2.2.1 = some (tyX6 k) := by decide +kernel
def RX7 : String := "TableMapper$Signals"
def TX7 : u_T := fun k => match k with
  | 0 => ("TableMapper$Signals", "network", "LTableMapper$Network;", true)
  | 1 => ("TableMapper$Signals", "values", "[J", true)
  | _ => ("TableMapper$Signals", "leavesOn", "J", false)
def tyX7 : Nat → FieldType := fun k => match k with
  | 0 => .object "TableMapper$Network"
  | 1 => .array .long
  | _ => .long
abbrev wsX70 : List Cond := u_ws RX7 TX7 3
theorem nmX7 : ∀ a, a < 3 → ∀ b, b < 3 → a ≠ b → (TX7 a).2.1 ≠ (TX7 b).2.1 := by decide +kernel
theorem tyX7_ok : ∀ k, k < 3 → parseFieldDescriptor (TX7 k).2.2.1 = some (tyX7 k) := by decide +kernel
def RX8 : String := "TableMapper$Ways"
def TX8 : u_T := fun k => match k with
  | 0 => ("TableMapper$Ways", "cameFrom", "[I", true)
  | 1 => ("TableMapper$Ways", "queue", "[I", true)
  | 2 => ("TableMapper$Ways", "aheadOnWay", "[I", true)
  | 3 => ("TableMapper$Ways", "network", "LTableMapper$Network;", true)
  | 4 => ("TableMapper$Ways", "onWays", "J", false)
  | 5 => ("TableMapper$Ways", "upperSeen", "J", false)
  | 6 => ("TableMapper$Ways", "lowerSeen", "J", false)
  | _ => ("TableMapper$Ways", "queued", "I", false)
def tyX8 : Nat → FieldType := fun k => match k with
  | 0 => .array .int
  | 1 => .array .int
  | 2 => .array .int
  | 3 => .object "TableMapper$Network"
  | 4 => .long
  | 5 => .long
  | 6 => .long
  | _ => .int
abbrev wsX80 : List Cond := u_ws RX8 TX8 8
theorem nmX8 : ∀ a, a < 8 → ∀ b, b < 8 → a ≠ b → (TX8 a).2.1 ≠ (TX8 b).2.1 := by decide +kernel
theorem tyX8_ok : ∀ k, k < 8 → parseFieldDescriptor (TX8 k).2.2.1 = some (tyX8 k) := by decide +kernel
def RX9 : String := "TableMapper"
def TX9 : u_T := fun k => match k with
  | 0 => ("TableMapper", "network", "LTableMapper$Network;", true)
  | 1 => ("TableMapper", "signals", "LTableMapper$Signals;", true)
  | 2 => ("TableMapper", "cutsByK", "[LTableMapper$Cuts;", true)
  | 3 => ("TableMapper", "cover", "LTableMapper$Cover;", true)
  | 4 => ("TableMapper", "contents", "LTableMapper$Contents;", true)
  | 5 => ("TableMapper", "cells", "LTableMapper$Cells;", true)
  | 6 => ("TableMapper", "clustering", "LTableMapper$Clustering;", true)
  | 7 => ("TableMapper", "k", "I", false)
  | _ => ("TableMapper", "isMapped", "Z", false)
def tyX9 : Nat → FieldType := fun k => match k with
  | 0 => .object "TableMapper$Network"
  | 1 => .object "TableMapper$Signals"
  | 2 => .array (.object "TableMapper$Cuts")
  | 3 => .object "TableMapper$Cover"
  | 4 => .object "TableMapper$Contents"
  | 5 => .object "TableMapper$Cells"
  | 6 => .object "TableMapper$Clustering"
  | 7 => .int
  | _ => .boolean
abbrev wsX90 : List Cond := u_ws RX9 TX9 9
theorem nmX9 : ∀ a, a < 9 → ∀ b, b < 9 → a ≠ b → (TX9 a).2.1 ≠ (TX9 b).2.1 := by decide +kernel
theorem tyX9_ok : ∀ k, k < 9 → parseFieldDescriptor (TX9 k).2.2.1 = some (tyX9 k) := by decide +kernel
def RX10 : String := "TableMapperModel"
def TX10 : u_T := fun k => match k with
  | 0 => ("TableMapperModel", "thrown", "I", false)
  | 1 => ("TableMapperModel", "nodes", "I", false)
  | 2 => ("TableMapperModel", "sort", "[I", true)
  | 3 => ("TableMapperModel", "kind", "[I", true)
  | 4 => ("TableMapperModel", "source", "[I", true)
  | 5 => ("TableMapperModel", "below", "[J", true)
  | 6 => ("TableMapperModel", "outputs", "J", false)
  | 7 => ("TableMapperModel", "width", "I", false)
  | 8 => ("TableMapperModel", "isMapped", "Z", false)
  | 9 => ("TableMapperModel", "isLaid", "Z", false)
  | 10 => ("TableMapperModel", "state", "[Z", true)
  | 11 => ("TableMapperModel", "level", "[I", true)
  | 12 => ("TableMapperModel", "near", "[J", true)
  | 13 => ("TableMapperModel", "through", "[I", true)
  | 14 => ("TableMapperModel", "along", "[I", true)
  | 15 => ("TableMapperModel", "from", "[I", true)
  | 16 => ("TableMapperModel", "queue", "[I", true)
  | 17 => ("TableMapperModel", "queued", "I", false)
  | 18 => ("TableMapperModel", "kept", "[J", true)
  | 19 => ("TableMapperModel", "keptMany", "[I", true)
  | 20 => ("TableMapperModel", "made", "[J", true)
  | 21 => ("TableMapperModel", "madeMany", "I", false)
  | 22 => ("TableMapperModel", "chosen", "[J", true)
  | 23 => ("TableMapperModel", "arrival", "[I", true)
  | 24 => ("TableMapperModel", "due", "[I", true)
  | 25 => ("TableMapperModel", "tables", "J", false)
  | 26 => ("TableMapperModel", "value", "[Z", true)
  | 27 => ("TableMapperModel", "byTables", "[Z", true)
  | 28 => ("TableMapperModel", "paired", "[I", true)
  | 29 => ("TableMapperModel", "cellOf", "[I", true)
  | 30 => ("TableMapperModel", "lower", "[I", true)
  | 31 => ("TableMapperModel", "higher", "[I", true)
  | 32 => ("TableMapperModel", "first", "[I", true)
  | 33 => ("TableMapperModel", "second", "[I", true)
  | 34 => ("TableMapperModel", "netsIn", "[J", true)
  | 35 => ("TableMapperModel", "netsOut", "[J", true)
  | 36 => ("TableMapperModel", "cells", "I", false)
  | 37 => ("TableMapperModel", "packed", "I", false)
  | 38 => ("TableMapperModel", "pairs", "I", false)
  | 39 => ("TableMapperModel", "mostOf", "[I", true)
  | 40 => ("TableMapperModel", "few", "[I", true)
  | 41 => ("TableMapperModel", "clusterOf", "[I", true)
  | 42 => ("TableMapperModel", "clusterIn", "[J", true)
  | 43 => ("TableMapperModel", "clusterOut", "[J", true)
  | _ => ("TableMapperModel", "clusters", "I", false)
def tyX10 : Nat → FieldType := fun k => match k with
  | 0 => .int
  | 1 => .int
  | 2 => .array .int
  | 3 => .array .int
  | 4 => .array .int
  | 5 => .array .long
  | 6 => .long
  | 7 => .int
  | 8 => .boolean
  | 9 => .boolean
  | 10 => .array .boolean
  | 11 => .array .int
  | 12 => .array .long
  | 13 => .array .int
  | 14 => .array .int
  | 15 => .array .int
  | 16 => .array .int
  | 17 => .int
  | 18 => .array .long
  | 19 => .array .int
  | 20 => .array .long
  | 21 => .int
  | 22 => .array .long
  | 23 => .array .int
  | 24 => .array .int
  | 25 => .long
  | 26 => .array .boolean
  | 27 => .array .boolean
  | 28 => .array .int
  | 29 => .array .int
  | 30 => .array .int
  | 31 => .array .int
  | 32 => .array .int
  | 33 => .array .int
  | 34 => .array .long
  | 35 => .array .long
  | 36 => .int
  | 37 => .int
  | 38 => .int
  | 39 => .array .int
  | 40 => .array .int
  | 41 => .array .int
  | 42 => .array .long
  | 43 => .array .long
  | _ => .int
abbrev wsX100 : List Cond := u_ws RX10 TX10 45
theorem nmX10 : ∀ a, a < 45 → ∀ b, b < 45 → a ≠ b → (TX10 a).2.1 ≠ (TX10 b).2.1 := by decide +kernel
theorem tyX10_ok : ∀ k, k < 45 → parseFieldDescriptor (TX10 k).2.2.1 = some (tyX10 k) := by decide +kernel
abbrev vwCl : List vw_C := [(RX0, TX0, 11), (RX1, TX1, 8), (RX2, TX2, 5), (RX3, TX3, 5), (RX4, TX4, 9), (RX5, TX5, 10), (RX6, TX6, 3), (RX7, TX7, 3), (RX8, TX8, 8), (RX9, TX9, 9), (RX10, TX10, 45)]
def RJ13 : String := "java/lang/Long"
def RJ9 : String := "java/lang/Math"
def RL : String := "TableMapperLaw"
abbrev cX0_init : ByteArray := prog_2_method_1_code
def yX0_init : MethodName := ⟨RX0, "<init>", "(LTableMapper$Network;LTableMapper$Cover;)V"⟩
abbrev cX0_isCell : ByteArray := prog_2_method_2_code
def yX0_isCell : MethodName := ⟨RX0, "isCell", "(I)Z"⟩
abbrev cX0_netsOut : ByteArray := prog_2_method_3_code
def yX0_netsOut : MethodName := ⟨RX0, "netsOut", "(I)J"⟩
abbrev cX0_fillAnew : ByteArray := prog_2_method_4_code
def yX0_fillAnew : MethodName := ⟨RX0, "fillAnew", "(I)V"⟩
abbrev cX0_mostPairs : ByteArray := prog_2_method_5_code
def yX0_mostPairs : MethodName := ⟨RX0, "mostPairs", "()I"⟩
abbrev cX0_findMates : ByteArray := prog_2_method_6_code
def yX0_findMates : MethodName := ⟨RX0, "findMates", "(I)V"⟩
abbrev cX0_pairTables : ByteArray := prog_2_method_7_code
def yX0_pairTables : MethodName := ⟨RX0, "pairTables", "()V"⟩
abbrev cX0_layTables : ByteArray := prog_2_method_8_code
def yX0_layTables : MethodName := ⟨RX0, "layTables", "()V"⟩
abbrev cX0_addCell : ByteArray := prog_2_method_9_code
def yX0_addCell : MethodName := ⟨RX0, "addCell", "(JJJ)V"⟩
abbrev cX0_join : ByteArray := prog_2_method_10_code
def yX0_join : MethodName := ⟨RX0, "join", "(II)V"⟩
abbrev cX0_layRegisters : ByteArray := prog_2_method_11_code
def yX0_layRegisters : MethodName := ⟨RX0, "layRegisters", "()V"⟩
abbrev cX0_usedByTables : ByteArray := prog_2_method_12_code
def yX0_usedByTables : MethodName := ⟨RX0, "usedByTables", "()J"⟩
abbrev cX0_fedToSeveral : ByteArray := prog_2_method_13_code
def yX0_fedToSeveral : MethodName := ⟨RX0, "fedToSeveral", "()J"⟩
abbrev cX0_mostPairsOf : ByteArray := prog_2_method_14_code
def yX0_mostPairsOf : MethodName := ⟨RX0, "mostPairsOf", "([JJI)I"⟩
abbrev cX0_withMates : ByteArray := prog_2_method_15_code
def yX0_withMates : MethodName := ⟨RX0, "withMates", "([JJ)J"⟩
abbrev cX0_withFewestMates : ByteArray := prog_2_method_16_code
def yX0_withFewestMates : MethodName := ⟨RX0, "withFewestMates", "([JJ)I"⟩
abbrev cX1_init : ByteArray := prog_3_method_1_code
def yX1_init : MethodName := ⟨RX1, "<init>", "(LTableMapper$Cells;)V"⟩
abbrev cX1_isLimit : ByteArray := prog_3_method_2_code
def yX1_isLimit : MethodName := ⟨RX1, "isLimit", "(II)Z"⟩
abbrev cX1_forget : ByteArray := prog_3_method_3_code
def yX1_forget : MethodName := ⟨RX1, "forget", "()V"⟩
abbrev cX1_fill : ByteArray := prog_3_method_4_code
def yX1_fill : MethodName := ⟨RX1, "fill", "(II)V"⟩
abbrev cX1_countCrossing : ByteArray := prog_3_method_5_code
def yX1_countCrossing : MethodName := ⟨RX1, "countCrossing", "()I"⟩
abbrev cX1_take : ByteArray := prog_3_method_6_code
def yX1_take : MethodName := ⟨RX1, "take", "(I)V"⟩
abbrev cX1_withMostNetsIn : ByteArray := prog_3_method_7_code
def yX1_withMostNetsIn : MethodName := ⟨RX1, "withMostNetsIn", "()I"⟩
abbrev cX1_bestToCome : ByteArray := prog_3_method_8_code
def yX1_bestToCome : MethodName := ⟨RX1, "bestToCome", "(I)I"⟩
abbrev cX2_init : ByteArray := prog_4_method_1_code
def yX2_init : MethodName := ⟨RX2, "<init>", "(LTableMapper$Network;LTableMapper$Cover;)V"⟩
abbrev cX2_forget : ByteArray := prog_4_method_2_code
def yX2_forget : MethodName := ⟨RX2, "forget", "()V"⟩
abbrev cX2_bitsOf : ByteArray := prog_4_method_3_code
def yX2_bitsOf : MethodName := ⟨RX2, "bitsOf", "(I)J"⟩
abbrev cX2_caresOf : ByteArray := prog_4_method_4_code
def yX2_caresOf : MethodName := ⟨RX2, "caresOf", "(I)I"⟩
abbrev cX2_nodesByTables : ByteArray := prog_4_method_5_code
def yX2_nodesByTables : MethodName := ⟨RX2, "nodesByTables", "(JI)J"⟩
abbrev cX2_told : ByteArray := prog_4_method_6_code
def yX2_told : MethodName := ⟨RX2, "told", "(JJ)I"⟩
abbrev cX2_findBits : ByteArray := prog_4_method_7_code
def yX2_findBits : MethodName := ⟨RX2, "findBits", "(I)J"⟩
abbrev cX3_init : ByteArray := prog_5_method_1_code
def yX3_init : MethodName := ⟨RX3, "<init>", "(LTableMapper$Network;)V"⟩
abbrev cX3_takeNearCuts : ByteArray := prog_5_method_2_code
def yX3_takeNearCuts : MethodName := ⟨RX3, "takeNearCuts", "(LTableMapper$Cuts;)V"⟩
abbrev cX3_chooseAgain : ByteArray := prog_5_method_3_code
def yX3_chooseAgain : MethodName := ⟨RX3, "chooseAgain", "(LTableMapper$Cuts;I)I"⟩
abbrev cX3_greatestArrival : ByteArray := prog_5_method_4_code
def yX3_greatestArrival : MethodName := ⟨RX3, "greatestArrival", "(J)I"⟩
abbrev cX3_usesOf : ByteArray := prog_5_method_5_code
def yX3_usesOf : MethodName := ⟨RX3, "usesOf", "(I)I"⟩
abbrev cX3_onSlowWay : ByteArray := prog_5_method_6_code
def yX3_onSlowWay : MethodName := ⟨RX3, "onSlowWay", "(I)I"⟩
abbrev cX3_latestOf : ByteArray := prog_5_method_7_code
def yX3_latestOf : MethodName := ⟨RX3, "latestOf", "(J)I"⟩
abbrev cX3_arrivalBy : ByteArray := prog_5_method_8_code
def yX3_arrivalBy : MethodName := ⟨RX3, "arrivalBy", "(J)I"⟩
abbrev cX3_withChosen : ByteArray := prog_5_method_9_code
def yX3_withChosen : MethodName := ⟨RX3, "withChosen", "(JII)J"⟩
abbrev cX3_tablesWith : ByteArray := prog_5_method_10_code
def yX3_tablesWith : MethodName := ⟨RX3, "tablesWith", "(JJI)J"⟩
abbrev cX3_findDue : ByteArray := prog_5_method_11_code
def yX3_findDue : MethodName := ⟨RX3, "findDue", "(JI)V"⟩
abbrev cX3_bestCut : ByteArray := prog_5_method_12_code
def yX3_bestCut : MethodName := ⟨RX3, "bestCut", "(LTableMapper$Cuts;IJ)J"⟩
abbrev cX4_init : ByteArray := prog_6_method_1_code
def yX4_init : MethodName := ⟨RX4, "<init>", "(LTableMapper$Network;LTableMapper$Ways;LTableMapper$Row;I)V"⟩
abbrev cX4_learn : ByteArray := prog_6_method_2_code
def yX4_learn : MethodName := ⟨RX4, "learn", "(I)V"⟩
abbrev cX4_greatestLevel : ByteArray := prog_6_method_3_code
def yX4_greatestLevel : MethodName := ⟨RX4, "greatestLevel", "(J)I"⟩
abbrev cX4_keptCut : ByteArray := prog_6_method_4_code
def yX4_keptCut : MethodName := ⟨RX4, "keptCut", "(II)J"⟩
abbrev cX4_belowAtLevel : ByteArray := prog_6_method_5_code
def yX4_belowAtLevel : MethodName := ⟨RX4, "belowAtLevel", "(II)J"⟩
abbrev cX4_learnKept : ByteArray := prog_6_method_6_code
def yX4_learnKept : MethodName := ⟨RX4, "learnKept", "(I)V"⟩
abbrev cX4_takeKept : ByteArray := prog_6_method_7_code
def yX4_takeKept : MethodName := ⟨RX4, "takeKept", "(I)V"⟩
abbrev cX4_addWithThird : ByteArray := prog_6_method_8_code
def yX4_addWithThird : MethodName := ⟨RX4, "addWithThird", "(IJ)V"⟩
abbrev cX4_choices : ByteArray := prog_6_method_9_code
def yX4_choices : MethodName := ⟨RX4, "choices", "(II)I"⟩
abbrev cX4_choice : ByteArray := prog_6_method_10_code
def yX4_choice : MethodName := ⟨RX4, "choice", "(III)J"⟩
abbrev cX4_placeInRow : ByteArray := prog_6_method_11_code
def yX4_placeInRow : MethodName := ⟨RX4, "placeInRow", "(J)J"⟩
abbrev cX5_init : ByteArray := prog_7_method_1_code
def yX5_init : MethodName := ⟨RX5, "<init>", "()V"⟩
abbrev cX5_isKind : ByteArray := prog_7_method_2_code
def yX5_isKind : MethodName := ⟨RX5, "isKind", "(I)Z"⟩
abbrev cX5_sourcesOf : ByteArray := prog_7_method_3_code
def yX5_sourcesOf : MethodName := ⟨RX5, "sourcesOf", "(I)I"⟩
abbrev cX5_isFull : ByteArray := prog_7_method_4_code
def yX5_isFull : MethodName := ⟨RX5, "isFull", "()Z"⟩
abbrev cX5_isNode : ByteArray := prog_7_method_5_code
def yX5_isNode : MethodName := ⟨RX5, "isNode", "(I)Z"⟩
abbrev cX5_isInput : ByteArray := prog_7_method_6_code
def yX5_isInput : MethodName := ⟨RX5, "isInput", "(I)Z"⟩
abbrev cX5_isGate : ByteArray := prog_7_method_7_code
def yX5_isGate : MethodName := ⟨RX5, "isGate", "(I)Z"⟩
abbrev cX5_isRegister : ByteArray := prog_7_method_8_code
def yX5_isRegister : MethodName := ⟨RX5, "isRegister", "(I)Z"⟩
abbrev cX5_addInput : ByteArray := prog_7_method_9_code
def yX5_addInput : MethodName := ⟨RX5, "addInput", "()I"⟩
abbrev cX5_addRegister : ByteArray := prog_7_method_10_code
def yX5_addRegister : MethodName := ⟨RX5, "addRegister", "()I"⟩
abbrev cX5_addGate : ByteArray := prog_7_method_11_code
def yX5_addGate : MethodName := ⟨RX5, "addGate", "(IIII)I"⟩
abbrev cX5_setFeed : ByteArray := prog_7_method_12_code
def yX5_setFeed : MethodName := ⟨RX5, "setFeed", "(II)V"⟩
abbrev cX5_kindOf : ByteArray := prog_7_method_13_code
def yX5_kindOf : MethodName := ⟨RX5, "kindOf", "(I)I"⟩
abbrev cX5_feedOf : ByteArray := prog_7_method_14_code
def yX5_feedOf : MethodName := ⟨RX5, "feedOf", "(I)I"⟩
abbrev cX5_sourceOf : ByteArray := prog_7_method_15_code
def yX5_sourceOf : MethodName := ⟨RX5, "sourceOf", "(II)I"⟩
abbrev cX5_sourceOrFeed : ByteArray := prog_7_method_16_code
def yX5_sourceOrFeed : MethodName := ⟨RX5, "sourceOrFeed", "(II)I"⟩
abbrev cX5_roots : ByteArray := prog_7_method_17_code
def yX5_roots : MethodName := ⟨RX5, "roots", "()J"⟩
abbrev cX5_reached : ByteArray := prog_7_method_18_code
def yX5_reached : MethodName := ⟨RX5, "reached", "(IJ)J"⟩
abbrev cX5_separates : ByteArray := prog_7_method_19_code
def yX5_separates : MethodName := ⟨RX5, "separates", "(IJ)Z"⟩
abbrev cX5_valueOf : ByteArray := prog_7_method_20_code
def yX5_valueOf : MethodName := ⟨RX5, "valueOf", "(I[J)J"⟩
abbrev cX6_init : ByteArray := prog_8_method_1_code
def yX6_init : MethodName := ⟨RX6, "<init>", "()V"⟩
abbrev cX6_clear : ByteArray := prog_8_method_2_code
def yX6_clear : MethodName := ⟨RX6, "clear", "()V"⟩
abbrev cX6_add : ByteArray := prog_8_method_3_code
def yX6_add : MethodName := ⟨RX6, "add", "(JJ)V"⟩
abbrev cX6_takeFirst : ByteArray := prog_8_method_4_code
def yX6_takeFirst : MethodName := ⟨RX6, "takeFirst", "()J"⟩
abbrev cX6_dropAllWith : ByteArray := prog_8_method_5_code
def yX6_dropAllWith : MethodName := ⟨RX6, "dropAllWith", "(J)V"⟩
abbrev cX7_init : ByteArray := prog_9_method_1_code
def yX7_init : MethodName := ⟨RX7, "<init>", "(LTableMapper$Network;)V"⟩
abbrev cX7_setInput : ByteArray := prog_9_method_2_code
def yX7_setInput : MethodName := ⟨RX7, "setInput", "(IZ)I"⟩
abbrev cX7_now : ByteArray := prog_9_method_3_code
def yX7_now : MethodName := ⟨RX7, "now", "()J"⟩
abbrev cX7_changedBy : ByteArray := prog_9_method_4_code
def yX7_changedBy : MethodName := ⟨RX7, "changedBy", "(I)J"⟩
abbrev cX7_run : ByteArray := prog_9_method_5_code
def yX7_run : MethodName := ⟨RX7, "run", "(I)I"⟩
abbrev cX7_registersNext : ByteArray := prog_9_method_6_code
def yX7_registersNext : MethodName := ⟨RX7, "registersNext", "()J"⟩
abbrev cX7_nodesOn : ByteArray := prog_9_method_7_code
def yX7_nodesOn : MethodName := ⟨RX7, "nodesOn", "(J)J"⟩
abbrev cX8_init : ByteArray := prog_10_method_1_code
def yX8_init : MethodName := ⟨RX8, "<init>", "(LTableMapper$Network;)V"⟩
abbrev cX8_nearestCut : ByteArray := prog_10_method_2_code
def yX8_nearestCut : MethodName := ⟨RX8, "nearestCut", "(JI)J"⟩
abbrev cX8_findWay : ByteArray := prog_10_method_3_code
def yX8_findWay : MethodName := ⟨RX8, "findWay", "(J)I"⟩
abbrev cX8_seeUppers : ByteArray := prog_10_method_4_code
def yX8_seeUppers : MethodName := ⟨RX8, "seeUppers", "(JI)V"⟩
abbrev cX8_seeLower : ByteArray := prog_10_method_5_code
def yX8_seeLower : MethodName := ⟨RX8, "seeLower", "(II)V"⟩
abbrev cX8_layWay : ByteArray := prog_10_method_6_code
def yX8_layWay : MethodName := ⟨RX8, "layWay", "(I)V"⟩
abbrev cX9_init : ByteArray := prog_1_method_1_code
def yX9_init : MethodName := ⟨RX9, "<init>", "()V"⟩
abbrev cX9_input : ByteArray := prog_1_method_2_code
def yX9_input : MethodName := ⟨RX9, "input", "()I"⟩
abbrev cX9_gate : ByteArray := prog_1_method_3_code
def yX9_gate : MethodName := ⟨RX9, "gate", "(IIII)I"⟩
abbrev cX9_register : ByteArray := prog_1_method_4_code
def yX9_register : MethodName := ⟨RX9, "register", "()I"⟩
abbrev cX9_feed : ByteArray := prog_1_method_5_code
def yX9_feed : MethodName := ⟨RX9, "feed", "(II)Z"⟩
abbrev cX9_output : ByteArray := prog_1_method_6_code
def yX9_output : MethodName := ⟨RX9, "output", "(I)I"⟩
abbrev cX9_inputs : ByteArray := prog_1_method_7_code
def yX9_inputs : MethodName := ⟨RX9, "inputs", "(I)I"⟩
abbrev cX9_map : ByteArray := prog_1_method_8_code
def yX9_map : MethodName := ⟨RX9, "map", "()I"⟩
abbrev cX9_again : ByteArray := prog_1_method_9_code
def yX9_again : MethodName := ⟨RX9, "again", "(I)I"⟩
abbrev cX9_set : ByteArray := prog_1_method_10_code
def yX9_set : MethodName := ⟨RX9, "set", "(IZ)I"⟩
abbrev cX9_clock : ByteArray := prog_1_method_11_code
def yX9_clock : MethodName := ⟨RX9, "clock", "(I)I"⟩
abbrev cX9_node : ByteArray := prog_1_method_12_code
def yX9_node : MethodName := ⟨RX9, "node", "(II)I"⟩
abbrev cX9_near : ByteArray := prog_1_method_13_code
def yX9_near : MethodName := ⟨RX9, "near", "(II)I"⟩
abbrev cX9_cone : ByteArray := prog_1_method_14_code
def yX9_cone : MethodName := ⟨RX9, "cone", "(I)I"⟩
abbrev cX9_kept : ByteArray := prog_1_method_15_code
def yX9_kept : MethodName := ⟨RX9, "kept", "(II)J"⟩
abbrev cX9_isCut : ByteArray := prog_1_method_16_code
def yX9_isCut : MethodName := ⟨RX9, "isCut", "(IJ)Z"⟩
abbrev cX9_depth : ByteArray := prog_1_method_17_code
def yX9_depth : MethodName := ⟨RX9, "depth", "()I"⟩
abbrev cX9_chosen : ByteArray := prog_1_method_18_code
def yX9_chosen : MethodName := ⟨RX9, "chosen", "(I)J"⟩
abbrev cX9_table : ByteArray := prog_1_method_19_code
def yX9_table : MethodName := ⟨RX9, "table", "(II)I"⟩
abbrev cX9_holds : ByteArray := prog_1_method_20_code
def yX9_holds : MethodName := ⟨RX9, "holds", "(I)J"⟩
abbrev cX9_mapped : ByteArray := prog_1_method_21_code
def yX9_mapped : MethodName := ⟨RX9, "mapped", "(I)I"⟩
abbrev cX9_cell : ByteArray := prog_1_method_22_code
def yX9_cell : MethodName := ⟨RX9, "cell", "(II)I"⟩
abbrev cX9_clusters : ByteArray := prog_1_method_23_code
def yX9_clusters : MethodName := ⟨RX9, "clusters", "(II)I"⟩
abbrev cX9_cluster : ByteArray := prog_1_method_24_code
def yX9_cluster : MethodName := ⟨RX9, "cluster", "(III)I"⟩
abbrev cX9_cross : ByteArray := prog_1_method_25_code
def yX9_cross : MethodName := ⟨RX9, "cross", "(II)I"⟩
abbrev cX9_is : ByteArray := prog_1_method_26_code
def yX9_is : MethodName := ⟨RX9, "is", "(I)I"⟩
abbrev cX9_comes : ByteArray := prog_1_method_27_code
def yX9_comes : MethodName := ⟨RX9, "comes", "(I)I"⟩
abbrev cX9_differs : ByteArray := prog_1_method_28_code
def yX9_differs : MethodName := ⟨RX9, "differs", "(II)I"⟩
abbrev cX9_slow : ByteArray := prog_1_method_29_code
def yX9_slow : MethodName := ⟨RX9, "slow", "(I)I"⟩
abbrev cX9_count : ByteArray := prog_1_method_30_code
def yX9_count : MethodName := ⟨RX9, "count", "(I)I"⟩
abbrev cX9_cutsOfK : ByteArray := prog_1_method_31_code
def yX9_cutsOfK : MethodName := ⟨RX9, "cutsOfK", "()LTableMapper$Cuts;"⟩
abbrev cX9_followCover : ByteArray := prog_1_method_32_code
def yX9_followCover : MethodName := ⟨RX9, "followCover", "()V"⟩
abbrev cX9_bit : ByteArray := prog_1_method_33_code
def yX9_bit : MethodName := ⟨RX9, "bit", "(I)J"⟩
abbrev cX9_has : ByteArray := prog_1_method_34_code
def yX9_has : MethodName := ⟨RX9, "has", "(JI)Z"⟩
abbrev cX9_lowest : ByteArray := prog_1_method_35_code
def yX9_lowest : MethodName := ⟨RX9, "lowest", "(J)I"⟩
abbrev cX9_nthOf : ByteArray := prog_1_method_36_code
def yX9_nthOf : MethodName := ⟨RX9, "nthOf", "(JI)I"⟩
abbrev cX10_init : ByteArray := prog_12_method_1_code
def yX10_init : MethodName := ⟨RX10, "<init>", "()V"⟩
abbrev cX10_thrown : ByteArray := prog_12_method_2_code
def yX10_thrown : MethodName := ⟨RX10, "thrown", "()I"⟩
abbrev cX10_within : ByteArray := prog_12_method_3_code
def yX10_within : MethodName := ⟨RX10, "within", "(III)Z"⟩
abbrev cX10_has : ByteArray := prog_12_method_4_code
def yX10_has : MethodName := ⟨RX10, "has", "(JI)Z"⟩
abbrev cX10_manyOf : ByteArray := prog_12_method_5_code
def yX10_manyOf : MethodName := ⟨RX10, "manyOf", "(J)I"⟩
abbrev cX10_lowest : ByteArray := prog_12_method_6_code
def yX10_lowest : MethodName := ⟨RX10, "lowest", "(J)I"⟩
abbrev cX10_sourcesOf : ByteArray := prog_12_method_7_code
def yX10_sourcesOf : MethodName := ⟨RX10, "sourcesOf", "(I)I"⟩
abbrev cX10_isNode : ByteArray := prog_12_method_8_code
def yX10_isNode : MethodName := ⟨RX10, "isNode", "(I)Z"⟩
abbrev cX10_isGate : ByteArray := prog_12_method_9_code
def yX10_isGate : MethodName := ⟨RX10, "isGate", "(I)Z"⟩
abbrev cX10_isRegister : ByteArray := prog_12_method_10_code
def yX10_isRegister : MethodName := ⟨RX10, "isRegister", "(I)Z"⟩
abbrev cX10_changes : ByteArray := prog_12_method_11_code
def yX10_changes : MethodName := ⟨RX10, "changes", "()V"⟩
abbrev cX10_adds : ByteArray := prog_12_method_12_code
def yX10_adds : MethodName := ⟨RX10, "adds", "(I)I"⟩
abbrev cX10_input : ByteArray := prog_12_method_13_code
def yX10_input : MethodName := ⟨RX10, "input", "()I"⟩
abbrev cX10_gate : ByteArray := prog_12_method_14_code
def yX10_gate : MethodName := ⟨RX10, "gate", "(IIII)I"⟩
abbrev cX10_register : ByteArray := prog_12_method_15_code
def yX10_register : MethodName := ⟨RX10, "register", "()I"⟩
abbrev cX10_feed : ByteArray := prog_12_method_16_code
def yX10_feed : MethodName := ⟨RX10, "feed", "(II)Z"⟩
abbrev cX10_output : ByteArray := prog_12_method_17_code
def yX10_output : MethodName := ⟨RX10, "output", "(I)I"⟩
abbrev cX10_inputs : ByteArray := prog_12_method_18_code
def yX10_inputs : MethodName := ⟨RX10, "inputs", "(I)I"⟩
abbrev cX10_fed : ByteArray := prog_12_method_19_code
def yX10_fed : MethodName := ⟨RX10, "fed", "()J"⟩
abbrev cX10_roots : ByteArray := prog_12_method_20_code
def yX10_roots : MethodName := ⟨RX10, "roots", "()J"⟩
abbrev cX10_gates : ByteArray := prog_12_method_21_code
def yX10_gates : MethodName := ⟨RX10, "gates", "()J"⟩
abbrev cX10_comes : ByteArray := prog_12_method_22_code
def yX10_comes : MethodName := ⟨RX10, "comes", "(II)V"⟩
abbrev cX10_room : ByteArray := prog_12_method_23_code
def yX10_room : MethodName := ⟨RX10, "room", "(II)I"⟩
abbrev cX10_spreadsOut : ByteArray := prog_12_method_24_code
def yX10_spreadsOut : MethodName := ⟨RX10, "spreadsOut", "(I)V"⟩
abbrev cX10_spreadsIn : ByteArray := prog_12_method_25_code
def yX10_spreadsIn : MethodName := ⟨RX10, "spreadsIn", "(IJI)V"⟩
abbrev cX10_spreads : ByteArray := prog_12_method_26_code
def yX10_spreads : MethodName := ⟨RX10, "spreads", "(II)I"⟩
abbrev cX10_slotOf : ByteArray := prog_12_method_27_code
def yX10_slotOf : MethodName := ⟨RX10, "slotOf", "(IIZ)I"⟩
abbrev cX10_flows : ByteArray := prog_12_method_28_code
def yX10_flows : MethodName := ⟨RX10, "flows", "(I)V"⟩
abbrev cX10_isCutOff : ByteArray := prog_12_method_29_code
def yX10_isCutOff : MethodName := ⟨RX10, "isCutOff", "(II)Z"⟩
abbrev cX10_greatestIn : ByteArray := prog_12_method_30_code
def yX10_greatestIn : MethodName := ⟨RX10, "greatestIn", "(J)I"⟩
abbrev cX10_isAhead : ByteArray := prog_12_method_31_code
def yX10_isAhead : MethodName := ⟨RX10, "isAhead", "(JJ)Z"⟩
abbrev cX10_makes : ByteArray := prog_12_method_32_code
def yX10_makes : MethodName := ⟨RX10, "makes", "(J)V"⟩
abbrev cX10_setOf : ByteArray := prog_12_method_33_code
def yX10_setOf : MethodName := ⟨RX10, "setOf", "(II)J"⟩
abbrev cX10_laysKept : ByteArray := prog_12_method_34_code
def yX10_laysKept : MethodName := ⟨RX10, "laysKept", "(I)V"⟩
abbrev cX10_puts : ByteArray := prog_12_method_35_code
def yX10_puts : MethodName := ⟨RX10, "puts", "(IJI)I"⟩
abbrev cX10_lays : ByteArray := prog_12_method_36_code
def yX10_lays : MethodName := ⟨RX10, "lays", "()V"⟩
abbrev cX10_coneOf : ByteArray := prog_12_method_37_code
def yX10_coneOf : MethodName := ⟨RX10, "coneOf", "(IJ)J"⟩
abbrev cX10_rootDepth : ByteArray := prog_12_method_38_code
def yX10_rootDepth : MethodName := ⟨RX10, "rootDepth", "()I"⟩
abbrev cX10_node : ByteArray := prog_12_method_39_code
def yX10_node : MethodName := ⟨RX10, "node", "(II)I"⟩
abbrev cX10_near : ByteArray := prog_12_method_40_code
def yX10_near : MethodName := ⟨RX10, "near", "(II)I"⟩
abbrev cX10_cone : ByteArray := prog_12_method_41_code
def yX10_cone : MethodName := ⟨RX10, "cone", "(I)I"⟩
abbrev cX10_kept : ByteArray := prog_12_method_42_code
def yX10_kept : MethodName := ⟨RX10, "kept", "(II)J"⟩
abbrev cX10_isCut : ByteArray := prog_12_method_43_code
def yX10_isCut : MethodName := ⟨RX10, "isCut", "(IJ)Z"⟩
abbrev cX10_depth : ByteArray := prog_12_method_44_code
def yX10_depth : MethodName := ⟨RX10, "depth", "()I"⟩
abbrev cX10_laysTables : ByteArray := prog_12_method_45_code
def yX10_laysTables : MethodName := ⟨RX10, "laysTables", "()V"⟩
abbrev cX10_arrivalBy : ByteArray := prog_12_method_46_code
def yX10_arrivalBy : MethodName := ⟨RX10, "arrivalBy", "(J)I"⟩
abbrev cX10_laysArrival : ByteArray := prog_12_method_47_code
def yX10_laysArrival : MethodName := ⟨RX10, "laysArrival", "()V"⟩
abbrev cX10_looks : ByteArray := prog_12_method_48_code
def yX10_looks : MethodName := ⟨RX10, "looks", "()V"⟩
abbrev cX10_map : ByteArray := prog_12_method_49_code
def yX10_map : MethodName := ⟨RX10, "map", "()I"⟩
abbrev cX10_laysDue : ByteArray := prog_12_method_50_code
def yX10_laysDue : MethodName := ⟨RX10, "laysDue", "(I)V"⟩
abbrev cX10_tablesBy : ByteArray := prog_12_method_51_code
def yX10_tablesBy : MethodName := ⟨RX10, "tablesBy", "(IJ)I"⟩
abbrev cX10_choosesAgain : ByteArray := prog_12_method_52_code
def yX10_choosesAgain : MethodName := ⟨RX10, "choosesAgain", "(I)V"⟩
abbrev cX10_again : ByteArray := prog_12_method_53_code
def yX10_again : MethodName := ⟨RX10, "again", "(I)I"⟩
abbrev cX10_chosen : ByteArray := prog_12_method_54_code
def yX10_chosen : MethodName := ⟨RX10, "chosen", "(I)J"⟩
abbrev cX10_gateIs : ByteArray := prog_12_method_55_code
def yX10_gateIs : MethodName := ⟨RX10, "gateIs", "(I)Z"⟩
abbrev cX10_works : ByteArray := prog_12_method_56_code
def yX10_works : MethodName := ⟨RX10, "works", "(J)V"⟩
abbrev cX10_fixes : ByteArray := prog_12_method_57_code
def yX10_fixes : MethodName := ⟨RX10, "fixes", "(JI)V"⟩
abbrev cX10_holdsOf : ByteArray := prog_12_method_58_code
def yX10_holdsOf : MethodName := ⟨RX10, "holdsOf", "(I)J"⟩
abbrev cX10_holds : ByteArray := prog_12_method_59_code
def yX10_holds : MethodName := ⟨RX10, "holds", "(I)J"⟩
abbrev cX10_caresOf : ByteArray := prog_12_method_60_code
def yX10_caresOf : MethodName := ⟨RX10, "caresOf", "(I)I"⟩
abbrev cX10_has64 : ByteArray := prog_12_method_61_code
def yX10_has64 : MethodName := ⟨RX10, "has64", "(JI)Z"⟩
abbrev cX10_set : ByteArray := prog_12_method_62_code
def yX10_set : MethodName := ⟨RX10, "set", "(IZ)I"⟩
abbrev cX10_clock : ByteArray := prog_12_method_63_code
def yX10_clock : MethodName := ⟨RX10, "clock", "(I)I"⟩
abbrev cX10_is : ByteArray := prog_12_method_64_code
def yX10_is : MethodName := ⟨RX10, "is", "(I)I"⟩
abbrev cX10_comes_ : ByteArray := prog_12_method_65_code
def yX10_comes_ : MethodName := ⟨RX10, "comes", "(I)I"⟩
abbrev cX10_differs : ByteArray := prog_12_method_66_code
def yX10_differs : MethodName := ⟨RX10, "differs", "(II)I"⟩
abbrev cX10_isPair : ByteArray := prog_12_method_67_code
def yX10_isPair : MethodName := ⟨RX10, "isPair", "(II)Z"⟩
abbrev cX10_laysPairs : ByteArray := prog_12_method_68_code
def yX10_laysPairs : MethodName := ⟨RX10, "laysPairs", "()V"⟩
abbrev cX10_usesOf : ByteArray := prog_12_method_69_code
def yX10_usesOf : MethodName := ⟨RX10, "usesOf", "(I)I"⟩
abbrev cX10_isPacked : ByteArray := prog_12_method_70_code
def yX10_isPacked : MethodName := ⟨RX10, "isPacked", "(I)Z"⟩
abbrev cX10_newCell : ByteArray := prog_12_method_71_code
def yX10_newCell : MethodName := ⟨RX10, "newCell", "(III)V"⟩
abbrev cX10_packs : ByteArray := prog_12_method_72_code
def yX10_packs : MethodName := ⟨RX10, "packs", "(I)V"⟩
abbrev cX10_laysCells : ByteArray := prog_12_method_73_code
def yX10_laysCells : MethodName := ⟨RX10, "laysCells", "()V"⟩
abbrev cX10_mostPairs : ByteArray := prog_12_method_74_code
def yX10_mostPairs : MethodName := ⟨RX10, "mostPairs", "()I"⟩
abbrev cX10_table : ByteArray := prog_12_method_75_code
def yX10_table : MethodName := ⟨RX10, "table", "(II)I"⟩
abbrev cX10_slowest : ByteArray := prog_12_method_76_code
def yX10_slowest : MethodName := ⟨RX10, "slowest", "()I"⟩
abbrev cX10_mapped : ByteArray := prog_12_method_77_code
def yX10_mapped : MethodName := ⟨RX10, "mapped", "(I)I"⟩
abbrev cX10_cell : ByteArray := prog_12_method_78_code
def yX10_cell : MethodName := ⟨RX10, "cell", "(II)I"⟩
abbrev cX10_beginning : ByteArray := prog_12_method_79_code
def yX10_beginning : MethodName := ⟨RX10, "beginning", "()I"⟩
abbrev cX10_nextTo : ByteArray := prog_12_method_80_code
def yX10_nextTo : MethodName := ⟨RX10, "nextTo", "(I)I"⟩
abbrev cX10_joins : ByteArray := prog_12_method_81_code
def yX10_joins : MethodName := ⟨RX10, "joins", "(I)V"⟩
abbrev cX10_laysClusters : ByteArray := prog_12_method_82_code
def yX10_laysClusters : MethodName := ⟨RX10, "laysClusters", "(II)Z"⟩
abbrev cX10_clusters : ByteArray := prog_12_method_83_code
def yX10_clusters : MethodName := ⟨RX10, "clusters", "(II)I"⟩
abbrev cX10_cluster : ByteArray := prog_12_method_84_code
def yX10_cluster : MethodName := ⟨RX10, "cluster", "(III)I"⟩
abbrev cX10_cross : ByteArray := prog_12_method_85_code
def yX10_cross : MethodName := ⟨RX10, "cross", "(II)I"⟩
abbrev cX10_slow : ByteArray := prog_12_method_86_code
def yX10_slow : MethodName := ⟨RX10, "slow", "(I)I"⟩
abbrev cX10_count : ByteArray := prog_12_method_87_code
def yX10_count : MethodName := ⟨RX10, "count", "(I)I"⟩
abbrev cJ13_bitCount_95d88 : ByteArray := prog_15_method_50_code
def yJ13_bitCount_95d88 : MethodName := ⟨RJ13, "bitCount", "(J)I"⟩
abbrev cJ9_max_7cf53 : ByteArray := prog_16_method_65_code
def yJ9_max_7cf53 : MethodName := ⟨RJ9, "max", "(II)I"⟩
abbrev cJ9_min_7cf53 : ByteArray := prog_16_method_69_code
def yJ9_min_7cf53 : MethodName := ⟨RJ9, "min", "(II)I"⟩
abbrev cL_holds : ByteArray := method_3_code
def yL_holds : MethodName := ⟨RL, "holds", "(LTableMapper;I[J)I"⟩
abbrev cL_law : ByteArray := code
def yL_law : MethodName := ⟨RL, "law", "([I)Z"⟩
