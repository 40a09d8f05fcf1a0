-- written by wip/gen/gen.py: the cells, and the words of the tables by their places
def sd_cells : List (Nat × Nat) := [(0, 0), (1, 0), (2, 0), (3, 0), (4, 0), (5, 0), (6, 0), (7, 0), (8, 0), (9, 0), (10, 0), (11, 0), (12, 0), (13, 0), (14, 0), (15, 0), (16, 0), (17, 0), (17, 1), (17, 2), (17, 3), (18, 0), (18, 1), (18, 2), (18, 3), (19, 0), (19, 1), (19, 2), (19, 3), (20, 0), (20, 1), (20, 2), (20, 3), (21, 0), (21, 1), (21, 2), (21, 3), (22, 0), (23, 0), (24, 0), (25, 0), (26, 0), (27, 0), (28, 0), (29, 0), (30, 0), (31, 0), (32, 0), (33, 0), (34, 0), (35, 0), (36, 0), (37, 0), (38, 0), (39, 0), (40, 0), (41, 0), (42, 0), (43, 0), (44, 0), (45, 0), (46, 0), (47, 0), (48, 0), (49, 0), (50, 0), (51, 0), (52, 0), (53, 0), (54, 0), (55, 0), (56, 0), (57, 0), (58, 0), (59, 0), (60, 0), (61, 0), (62, 0), (63, 0), (64, 0), (65, 0), (66, 0), (67, 0), (68, 0), (69, 0), (70, 0), (71, 0)]
theorem sd_nodup : sd_cells.Nodup := by decide +kernel
def sd_own (i : Nat) : String := (["TableMapper$Cells", "TableMapper$Clustering", "TableMapper$Contents", "TableMapper$Cover", "TableMapper$Cuts", "TableMapper$Network", "TableMapper$Row", "TableMapper$Signals", "TableMapper$Ways", "TableMapper", "TableMapperModel", "TableMapperLaw", "java/lang/Long", "java/lang/Math"] : List String).getD i ""
def sd_nest : List Cond := [.methodLinkNest "TableMapper$Cells" 75 ⟨"TableMapper", "lowest", "(J)I"⟩ "TableMapper", .methodLinkNest "TableMapper$Cells" 81 ⟨"TableMapper", "has", "(JI)Z"⟩ "TableMapper", .methodLinkNest "TableMapper$Cells" 85 ⟨"TableMapper", "bit", "(I)J"⟩ "TableMapper", .methodLinkNest "TableMapper$Clustering" 31 ⟨"TableMapper", "bit", "(I)J"⟩ "TableMapper", .methodLinkNest "TableMapper$Clustering" 71 ⟨"TableMapper", "lowest", "(J)I"⟩ "TableMapper", .methodLinkNest "TableMapper$Contents" 30 ⟨"TableMapper", "has", "(JI)Z"⟩ "TableMapper", .methodLinkNest "TableMapper$Contents" 38 ⟨"TableMapper", "bit", "(I)J"⟩ "TableMapper", .methodLinkNest "TableMapper$Contents" 69 ⟨"TableMapper", "lowest", "(J)I"⟩ "TableMapper", .methodLinkNest "TableMapper$Cover" 32 ⟨"TableMapper", "lowest", "(J)I"⟩ "TableMapper", .methodLinkNest "TableMapper$Cover" 71 ⟨"TableMapper", "has", "(JI)Z"⟩ "TableMapper", .methodLinkNest "TableMapper$Cuts" 50 ⟨"TableMapper", "has", "(JI)Z"⟩ "TableMapper", .methodLinkNest "TableMapper$Cuts" 61 ⟨"TableMapper", "bit", "(I)J"⟩ "TableMapper", .methodLinkNest "TableMapper$Cuts" 79 ⟨"TableMapper", "lowest", "(J)I"⟩ "TableMapper", .methodLinkNest "TableMapper$Network" 43 ⟨"TableMapper", "has", "(JI)Z"⟩ "TableMapper", .methodLinkNest "TableMapper$Network" 53 ⟨"TableMapper", "bit", "(I)J"⟩ "TableMapper", .methodLinkNest "TableMapper$Network" 70 ⟨"TableMapper", "lowest", "(J)I"⟩ "TableMapper", .methodLinkNest "TableMapper$Signals" 23 ⟨"TableMapper", "has", "(JI)Z"⟩ "TableMapper", .methodLinkNest "TableMapper$Signals" 27 ⟨"TableMapper", "bit", "(I)J"⟩ "TableMapper", .methodLinkNest "TableMapper$Signals" 58 ⟨"TableMapper", "lowest", "(J)I"⟩ "TableMapper", .methodLinkNest "TableMapper$Ways" 31 ⟨"TableMapper", "lowest", "(J)I"⟩ "TableMapper", .methodLinkNest "TableMapper$Ways" 62 ⟨"TableMapper", "has", "(JI)Z"⟩ "TableMapper", .methodLinkNest "TableMapper$Ways" 73 ⟨"TableMapper", "bit", "(I)J"⟩ "TableMapper"]
theorem sd_nest_in : ∀ w ∈ sd_nest, w ∈ lw_tbl := by
  intro w hw
  have h : sd_nest = [648, 649, 651, 887, 892, 836, 846, 843, 612, 631, 522, 533, 527, 487, 447, 626, 730, 731, 758, 542, 552, 557].filterMap (fun i => lw_tbl[i]?) := by decide +kernel
  rw [h] at hw
  obtain ⟨i, -, hi⟩ := List.mem_filterMap.mp hw
  exact List.mem_of_getElem? hi
def sd_W : List Cond := lw_tbl.filter goodWord
theorem sd_in {i : Nat} {w : Cond} (h : lw_tbl[i]? = some w) (hg : goodWord w = true) : w ∈ sd_W := List.mem_filter.mpr ⟨List.mem_of_getElem? h, hg⟩
theorem sd_inL {ws : List Cond} (ps : List Nat) (h : ws = ps.filterMap (fun i => lw_tbl[i]?)) (hg : ws.all goodWord = true) : ∀ w ∈ ws, w ∈ sd_W := by
  intro w hw
  have h1 := List.all_eq_true.mp hg w hw
  rw [h] at hw
  obtain ⟨i, -, hi⟩ := List.mem_filterMap.mp hw
  exact sd_in hi h1
def sd_clsOK (r : vw_C) : Prop := (∀ w ∈ u_ws r.1 r.2.1 r.2.2, w ∈ sd_W) ∧ ∃ ty0 : Nat → FieldType, (∀ k, k < r.2.2 → parseFieldDescriptor (r.2.1 k).2.2.1 = some (ty0 k)) ∧ (∀ a, a < r.2.2 → ∀ b, b < r.2.2 → a ≠ b → (r.2.1 a).2.1 ≠ (r.2.1 b).2.1)
set_option maxRecDepth 100000 in
theorem sd_cls0 : sd_clsOK (RX0, TX0, 11) := ⟨sd_inL [351, 353, 355, 357, 359, 361, 363, 365, 367, 369, 371] (by decide +kernel) (by decide +kernel), tyX0, tyX0_ok, nmX0⟩
set_option maxRecDepth 100000 in
theorem sd_cls1 : sd_clsOK (RX1, TX1, 8) := ⟨sd_inL [390, 392, 394, 396, 398, 400, 402, 404] (by decide +kernel) (by decide +kernel), tyX1, tyX1_ok, nmX1⟩
set_option maxRecDepth 100000 in
theorem sd_cls2 : sd_clsOK (RX2, TX2, 5) := ⟨sd_inL [313, 315, 317, 319, 321] (by decide +kernel) (by decide +kernel), tyX2, tyX2_ok, nmX2⟩
set_option maxRecDepth 100000 in
theorem sd_cls3 : sd_clsOK (RX3, TX3, 5) := ⟨sd_inL [291, 293, 295, 297, 299] (by decide +kernel) (by decide +kernel), tyX3, tyX3_ok, nmX3⟩
set_option maxRecDepth 100000 in
theorem sd_cls4 : sd_clsOK (RX4, TX4, 9) := ⟨sd_inL [255, 257, 259, 261, 263, 265, 267, 269, 271] (by decide +kernel) (by decide +kernel), tyX4, tyX4_ok, nmX4⟩
set_option maxRecDepth 100000 in
theorem sd_cls5 : sd_clsOK (RX5, TX5, 10) := ⟨sd_inL [148, 150, 152, 154, 156, 158, 160, 162, 164, 166] (by decide +kernel) (by decide +kernel), tyX5, tyX5_ok, nmX5⟩
set_option maxRecDepth 100000 in
theorem sd_cls6 : sd_clsOK (RX6, TX6, 3) := ⟨sd_inL [228, 230, 232] (by decide +kernel) (by decide +kernel), tyX6, tyX6_ok, nmX6⟩
set_option maxRecDepth 100000 in
theorem sd_cls7 : sd_clsOK (RX7, TX7, 3) := ⟨sd_inL [181, 183, 185] (by decide +kernel) (by decide +kernel), tyX7, tyX7_ok, nmX7⟩
set_option maxRecDepth 100000 in
theorem sd_cls8 : sd_clsOK (RX8, TX8, 8) := ⟨sd_inL [202, 204, 206, 208, 210, 212, 214, 216] (by decide +kernel) (by decide +kernel), tyX8, tyX8_ok, nmX8⟩
set_option maxRecDepth 100000 in
theorem sd_cls9 : sd_clsOK (RX9, TX9, 9) := ⟨sd_inL [416, 418, 420, 422, 424, 426, 428, 430, 432] (by decide +kernel) (by decide +kernel), tyX9, tyX9_ok, nmX9⟩
set_option maxRecDepth 100000 in
theorem sd_cls10 : sd_clsOK (RX10, TX10, 45) := ⟨sd_inL [1085, 1087, 1089, 1091, 1093, 1095, 1097, 1099, 1101, 1103, 1105, 1107, 1109, 1111, 1113, 1115, 1117, 1119, 1121, 1123, 1125, 1127, 1129, 1131, 1133, 1135, 1137, 1139, 1141, 1143, 1145, 1147, 1149, 1151, 1153, 1155, 1157, 1159, 1161, 1163, 1165, 1167, 1169, 1171, 1173] (by decide +kernel) (by decide +kernel), tyX10, tyX10_ok, nmX10⟩
theorem sd_cls : ∀ r ∈ vwCl, sd_clsOK r := by
  intro r hr
  simp only [vwCl, List.mem_cons, List.not_mem_nil, or_false] at hr
  rcases hr with rfl | rfl | rfl | rfl | rfl | rfl | rfl | rfl | rfl | rfl | rfl
  · exact sd_cls0
  · exact sd_cls1
  · exact sd_cls2
  · exact sd_cls3
  · exact sd_cls4
  · exact sd_cls5
  · exact sd_cls6
  · exact sd_cls7
  · exact sd_cls8
  · exact sd_cls9
  · exact sd_cls10
def sd_flW (q : Nat × Nat × (Nat × Nat)) : Option Cond := (vwCl[q.2.2.1]?).map fun r => Cond.fieldLink (sd_own q.1) q.2.1 r.1 (r.2.1 q.2.2.2).2.1 (r.2.1 q.2.2.2).2.2.1
def sd_flP : List Nat := [407, 408, 409, 410, 411, 412, 413, 414, 415, 140, 290, 247, 125, 250, 285, 287, 334, 336, 347, 350, 345, 338, 340, 343, 384, 382, 180, 147, 128, 135, 139, 254, 332, 333, 335, 337, 339, 341, 330, 331, 348, 289, 145, 284, 346, 344, 141, 138, 381, 380, 385, 386, 349, 387, 383, 388, 389, 342, 310, 311, 308, 309, 312, 283, 132, 281, 282, 286, 280, 129, 249, 143, 288, 246, 248, 251, 252, 242, 243, 244, 245, 253, 130, 122, 124, 117, 118, 119, 120, 123, 144, 127, 133, 137, 142, 225, 226, 227, 178, 177, 179, 126, 136, 146, 134, 194, 195, 196, 197, 121, 198, 199, 200, 201, 131, 1042, 1043, 1044, 1045, 1047, 1050, 1051, 1052, 1053, 1054, 1055, 1056, 1058, 1059, 1060, 1062, 1063, 1064, 1066, 1067, 1068, 1069, 1070, 1071, 1072, 1073, 1074, 1075, 1079, 1080, 1081, 1082, 1083, 1040, 1041, 1048, 1049, 1046, 1057, 1061, 1065, 1078, 1076, 1077, 1084]
set_option maxRecDepth 100000 in
theorem sd_fl1 : jm_fl.map sd_flW = sd_flP.map (fun i => lw_tbl[i]?) := by decide +kernel
set_option maxRecDepth 100000 in
theorem sd_fl2 : jm_fl.all (fun q => match vwCl[q.2.2.1]? with | some r => decide (q.2.2.2 < r.2.2) && decide ((r.2.1 q.2.2.2).1 = r.1) | none => false) = true := by decide +kernel
def sd_gsW (q : Nat × Nat × Nat) : Cond := if q.2.2 = 100 then .fieldLink (sd_own q.1) q.2.1 "TableMapper$Network" "SOURCES" "[I" else .fieldLink (sd_own q.1) q.2.1 "TableMapper$Contents" "PLACES" "[J"
theorem sd_gs1 : jm_gs.map (fun q => some (sd_gsW q)) = [841, 457].map (fun i => lw_tbl[i]?) := by decide +kernel
theorem sd_gs2 : jm_gs.all (fun q => decide (q.2.2 = 100 ∨ q.2.2 = 101)) = true := by decide +kernel
theorem sd_lc1 : jm_lc.map (fun q => some (Cond.constantLong (sd_own q.1) q.2.1 q.2.2)) = [656, 902, 848, 757, 607, 732, 543, 1516, 1285, 502, 503, 504].map (fun i => lw_tbl[i]?) := by decide +kernel
def sd_mt : List (MethodName × ByteArray × Nat × Option FieldType) := [(yX0_isCell, cX0_isCell, 2, some .boolean), (yX0_netsOut, cX0_netsOut, 2, some .long), (yX0_fillAnew, cX0_fillAnew, 2, none), (yX0_mostPairs, cX0_mostPairs, 1, some .int), (yX0_findMates, cX0_findMates, 8, none), (yX0_pairTables, cX0_pairTables, 9, none), (yX0_layTables, cX0_layTables, 4, none), (yX0_addCell, cX0_addCell, 7, none), (yX0_join, cX0_join, 3, none), (yX0_layRegisters, cX0_layRegisters, 7, none), (yX0_usedByTables, cX0_usedByTables, 5, some .long), (yX0_fedToSeveral, cX0_fedToSeveral, 9, some .long), (yX0_mostPairsOf, cX0_mostPairsOf, 13, some .int), (yX0_withMates, cX0_withMates, 8, some .long), (yX0_withFewestMates, cX0_withFewestMates, 7, some .int), (yX1_isLimit, cX1_isLimit, 2, some .boolean), (yX1_forget, cX1_forget, 1, none), (yX1_fill, cX1_fill, 6, none), (yX1_countCrossing, cX1_countCrossing, 5, some .int), (yX1_take, cX1_take, 2, none), (yX1_withMostNetsIn, cX1_withMostNetsIn, 5, some .int), (yX1_bestToCome, cX1_bestToCome, 13, some .int), (yX2_forget, cX2_forget, 1, none), (yX2_bitsOf, cX2_bitsOf, 2, some .long), (yX2_caresOf, cX2_caresOf, 11, some .int), (yX2_nodesByTables, cX2_nodesByTables, 8, some .long), (yX2_told, cX2_told, 8, some .int), (yX2_findBits, cX2_findBits, 8, some .long), (yX3_takeNearCuts, cX3_takeNearCuts, 5, none), (yX3_chooseAgain, cX3_chooseAgain, 11, some .int), (yX3_greatestArrival, cX3_greatestArrival, 6, some .int), (yX3_usesOf, cX3_usesOf, 5, some .int), (yX3_onSlowWay, cX3_onSlowWay, 6, some .int), (yX3_latestOf, cX3_latestOf, 7, some .int), (yX3_arrivalBy, cX3_arrivalBy, 3, some .int), (yX3_withChosen, cX3_withChosen, 8, some .long), (yX3_tablesWith, cX3_tablesWith, 6, some .long), (yX3_findDue, cX3_findDue, 8, none), (yX3_bestCut, cX3_bestCut, 14, some .long), (yX4_learn, cX4_learn, 5, none), (yX4_greatestLevel, cX4_greatestLevel, 6, some .int), (yX4_keptCut, cX4_keptCut, 3, some .long), (yX4_belowAtLevel, cX4_belowAtLevel, 8, some .long), (yX4_learnKept, cX4_learnKept, 6, none), (yX4_takeKept, cX4_takeKept, 5, none), (yX4_addWithThird, cX4_addWithThird, 8, none), (yX4_choices, cX4_choices, 4, some .int), (yX4_choice, cX4_choice, 5, some .long), (yX4_placeInRow, cX4_placeInRow, 10, some .long), (yX5_isKind, cX5_isKind, 1, some .boolean), (yX5_sourcesOf, cX5_sourcesOf, 1, some .int), (yX5_isFull, cX5_isFull, 1, some .boolean), (yX5_isNode, cX5_isNode, 2, some .boolean), (yX5_isInput, cX5_isInput, 2, some .boolean), (yX5_isGate, cX5_isGate, 2, some .boolean), (yX5_isRegister, cX5_isRegister, 2, some .boolean), (yX5_addInput, cX5_addInput, 1, some .int), (yX5_addRegister, cX5_addRegister, 1, some .int), (yX5_addGate, cX5_addGate, 5, some .int), (yX5_setFeed, cX5_setFeed, 3, none), (yX5_kindOf, cX5_kindOf, 2, some .int), (yX5_feedOf, cX5_feedOf, 2, some .int), (yX5_sourceOf, cX5_sourceOf, 3, some .int), (yX5_sourceOrFeed, cX5_sourceOrFeed, 3, some .int), (yX5_roots, cX5_roots, 5, some .long), (yX5_reached, cX5_reached, 7, some .long), (yX5_separates, cX5_separates, 4, some .boolean), (yX5_valueOf, cX5_valueOf, 9, some .long), (yX6_clear, cX6_clear, 1, none), (yX6_add, cX6_add, 5, none), (yX6_takeFirst, cX6_takeFirst, 4, some .long), (yX6_dropAllWith, cX6_dropAllWith, 5, none), (yX7_setInput, cX7_setInput, 4, some .int), (yX7_now, cX7_now, 1, some .long), (yX7_changedBy, cX7_changedBy, 2, some .long), (yX7_run, cX7_run, 6, some .int), (yX7_registersNext, cX7_registersNext, 8, some .long), (yX7_nodesOn, cX7_nodesOn, 6, some .long), (yX8_nearestCut, cX8_nearestCut, 8, some .long), (yX8_findWay, cX8_findWay, 8, some .int), (yX8_seeUppers, cX8_seeUppers, 7, none), (yX8_seeLower, cX8_seeLower, 3, none), (yX8_layWay, cX8_layWay, 5, none), (yX9_input, cX9_input, 1, some .int), (yX9_gate, cX9_gate, 6, some .int), (yX9_register, cX9_register, 1, some .int), (yX9_feed, cX9_feed, 3, some .boolean), (yX9_output, cX9_output, 2, some .int), (yX9_inputs, cX9_inputs, 3, some .int), (yX9_map, cX9_map, 1, some .int), (yX9_again, cX9_again, 3, some .int), (yX9_set, cX9_set, 3, some .int), (yX9_clock, cX9_clock, 2, some .int), (yX9_node, cX9_node, 3, some .int), (yX9_near, cX9_near, 5, some .int), (yX9_cone, cX9_cone, 2, some .int), (yX9_kept, cX9_kept, 3, some .long), (yX9_isCut, cX9_isCut, 4, some .boolean), (yX9_depth, cX9_depth, 1, some .int), (yX9_chosen, cX9_chosen, 2, some .long), (yX9_table, cX9_table, 3, some .int), (yX9_holds, cX9_holds, 2, some .long), (yX9_mapped, cX9_mapped, 2, some .int), (yX9_cell, cX9_cell, 3, some .int), (yX9_clusters, cX9_clusters, 3, some .int), (yX9_cluster, cX9_cluster, 4, some .int), (yX9_cross, cX9_cross, 3, some .int), (yX9_is, cX9_is, 2, some .int), (yX9_comes, cX9_comes, 2, some .int), (yX9_differs, cX9_differs, 3, some .int), (yX9_slow, cX9_slow, 2, some .int), (yX9_count, cX9_count, 2, some .int), (yX9_cutsOfK, cX9_cutsOfK, 3, some (.object "TableMapper$Cuts")), (yX9_followCover, cX9_followCover, 1, none), (yX9_bit, cX9_bit, 1, some .long), (yX9_has, cX9_has, 3, some .boolean), (yX9_lowest, cX9_lowest, 2, some .int), (yX9_nthOf, cX9_nthOf, 6, some .int), (yX10_thrown, cX10_thrown, 1, some .int), (yX10_within, cX10_within, 3, some .boolean), (yX10_has, cX10_has, 3, some .boolean), (yX10_manyOf, cX10_manyOf, 4, some .int), (yX10_lowest, cX10_lowest, 3, some .int), (yX10_sourcesOf, cX10_sourcesOf, 1, some .int), (yX10_isNode, cX10_isNode, 2, some .boolean), (yX10_isGate, cX10_isGate, 2, some .boolean), (yX10_isRegister, cX10_isRegister, 2, some .boolean), (yX10_changes, cX10_changes, 1, none), (yX10_adds, cX10_adds, 3, some .int), (yX10_input, cX10_input, 1, some .int), (yX10_gate, cX10_gate, 10, some .int), (yX10_register, cX10_register, 2, some .int), (yX10_feed, cX10_feed, 3, some .boolean), (yX10_output, cX10_output, 2, some .int), (yX10_inputs, cX10_inputs, 3, some .int), (yX10_fed, cX10_fed, 4, some .long), (yX10_roots, cX10_roots, 1, some .long), (yX10_gates, cX10_gates, 4, some .long), (yX10_comes, cX10_comes, 3, none), (yX10_room, cX10_room, 3, some .int), (yX10_spreadsOut, cX10_spreadsOut, 4, none), (yX10_spreadsIn, cX10_spreadsIn, 7, none), (yX10_spreads, cX10_spreads, 7, some .int), (yX10_slotOf, cX10_slotOf, 5, some .int), (yX10_flows, cX10_flows, 6, none), (yX10_isCutOff, cX10_isCutOff, 6, some .boolean), (yX10_greatestIn, cX10_greatestIn, 5, some .int), (yX10_isAhead, cX10_isAhead, 7, some .boolean), (yX10_makes, cX10_makes, 5, none), (yX10_setOf, cX10_setOf, 3, some .long), (yX10_laysKept, cX10_laysKept, 11, none), (yX10_puts, cX10_puts, 8, some .int), (yX10_lays, cX10_lays, 3, none), (yX10_coneOf, cX10_coneOf, 9, some .long), (yX10_rootDepth, cX10_rootDepth, 1, some .int), (yX10_node, cX10_node, 3, some .int), (yX10_near, cX10_near, 5, some .int), (yX10_cone, cX10_cone, 2, some .int), (yX10_kept, cX10_kept, 3, some .long), (yX10_isCut, cX10_isCut, 10, some .boolean), (yX10_depth, cX10_depth, 1, some .int), (yX10_laysTables, cX10_laysTables, 2, none), (yX10_arrivalBy, cX10_arrivalBy, 5, some .int), (yX10_laysArrival, cX10_laysArrival, 2, none), (yX10_looks, cX10_looks, 1, none), (yX10_map, cX10_map, 2, some .int), (yX10_laysDue, cX10_laysDue, 6, none), (yX10_tablesBy, cX10_tablesBy, 6, some .int), (yX10_choosesAgain, cX10_choosesAgain, 11, none), (yX10_again, cX10_again, 4, some .int), (yX10_chosen, cX10_chosen, 2, some .long), (yX10_gateIs, cX10_gateIs, 5, some .boolean), (yX10_works, cX10_works, 4, none), (yX10_fixes, cX10_fixes, 6, none), (yX10_holdsOf, cX10_holdsOf, 5, some .long), (yX10_holds, cX10_holds, 2, some .long), (yX10_caresOf, cX10_caresOf, 8, some .int), (yX10_has64, cX10_has64, 3, some .boolean), (yX10_set, cX10_set, 4, some .int), (yX10_clock, cX10_clock, 5, some .int), (yX10_is, cX10_is, 2, some .int), (yX10_comes_, cX10_comes_, 6, some .int), (yX10_differs, cX10_differs, 4, some .int), (yX10_isPair, cX10_isPair, 3, some .boolean), (yX10_laysPairs, cX10_laysPairs, 3, none), (yX10_usesOf, cX10_usesOf, 4, some .int), (yX10_isPacked, cX10_isPacked, 5, some .boolean), (yX10_newCell, cX10_newCell, 4, none), (yX10_packs, cX10_packs, 3, none), (yX10_laysCells, cX10_laysCells, 3, none), (yX10_mostPairs, cX10_mostPairs, 9, some .int), (yX10_table, cX10_table, 3, some .int), (yX10_slowest, cX10_slowest, 3, some .int), (yX10_mapped, cX10_mapped, 2, some .int), (yX10_cell, cX10_cell, 3, some .int), (yX10_beginning, cX10_beginning, 3, some .int), (yX10_nextTo, cX10_nextTo, 8, some .int), (yX10_joins, cX10_joins, 3, none), (yX10_laysClusters, cX10_laysClusters, 5, some .boolean), (yX10_clusters, cX10_clusters, 3, some .int), (yX10_cluster, cX10_cluster, 4, some .int), (yX10_cross, cX10_cross, 7, some .int), (yX10_slow, cX10_slow, 7, some .int), (yX10_count, cX10_count, 4, some .int), (yJ13_bitCount_95d88, cJ13_bitCount_95d88, 2, some .int), (yJ9_max_7cf53, cJ9_max_7cf53, 2, some .int), (yJ9_min_7cf53, cJ9_min_7cf53, 2, some .int)]
set_option maxRecDepth 100000 in
theorem sd_mt1 : sd_mt.map (fun q => some (Cond.code q.1 q.2.1 q.2.2.1 q.2.2.2)) = [875, 901, 643, 857, 647, 655, 660, 664, 668, 672, 676, 680, 860, 863, 866, 882, 688, 886, 918, 897, 891, 906, 639, 835, 831, 931, 934, 840, 611, 696, 620, 827, 950, 954, 616, 630, 713, 702, 709, 521, 526, 717, 537, 565, 598, 593, 581, 589, 573, 456, 461, 442, 465, 725, 768, 485, 446, 477, 469, 493, 772, 684, 585, 776, 625, 796, 809, 756, 569, 577, 602, 606, 729, 748, 942, 740, 744, 752, 541, 547, 551, 556, 561, 438, 453, 473, 481, 497, 509, 513, 692, 721, 736, 764, 784, 792, 800, 805, 814, 819, 823, 966, 852, 871, 879, 910, 914, 922, 927, 938, 946, 958, 517, 635, 449, 489, 529, 787, 1180, 1199, 1225, 1228, 1300, 1206, 1203, 1316, 1218, 1192, 1188, 1184, 1196, 1210, 1214, 1222, 1232, 1308, 1304, 1356, 1252, 1264, 1256, 1260, 1248, 1272, 1268, 1244, 1297, 1293, 1280, 1284, 1276, 1289, 1240, 1324, 1340, 1236, 1312, 1320, 1328, 1332, 1336, 1352, 1364, 1360, 1348, 1344, 1372, 1380, 1376, 1368, 1384, 1404, 1400, 1396, 1392, 1388, 1463, 1423, 1408, 1412, 1416, 1420, 1427, 1443, 1439, 1455, 1451, 1447, 1459, 1435, 1475, 1431, 1471, 1467, 1479, 1491, 1499, 1495, 1487, 1483, 1503, 1507, 1511, 1515, 501, 532, 705].map (fun i => lw_tbl[i]?) := by decide +kernel
def sd_decOK (q : MethodName × ByteArray × Nat × Option FieldType) (m : Nat × Nat × Nat × List (Nat × Instr × Nat)) : Prop := m.2.2.2.all (fun z => decide (decode q.2.1 z.1 = .ok (z.2.1, z.2.2))) = true
theorem sd_dec : ∀ (k : Nat) (q : MethodName × ByteArray × Nat × Option FieldType) (m : Nat × Nat × Nat × List (Nat × Instr × Nat)), sd_mt[k]? = some q → jm_mt[k]? = some m → sd_decOK q m := by
  intro k q m hq hm
  match k, hq, hm with
  | 0, hq, hm => cases hq; cases hm; exact iX0_isCell_ok
  | 1, hq, hm => cases hq; cases hm; exact iX0_netsOut_ok
  | 2, hq, hm => cases hq; cases hm; exact iX0_fillAnew_ok
  | 3, hq, hm => cases hq; cases hm; exact iX0_mostPairs_ok
  | 4, hq, hm => cases hq; cases hm; exact iX0_findMates_ok
  | 5, hq, hm => cases hq; cases hm; exact iX0_pairTables_ok
  | 6, hq, hm => cases hq; cases hm; exact iX0_layTables_ok
  | 7, hq, hm => cases hq; cases hm; exact iX0_addCell_ok
  | 8, hq, hm => cases hq; cases hm; exact iX0_join_ok
  | 9, hq, hm => cases hq; cases hm; exact iX0_layRegisters_ok
  | 10, hq, hm => cases hq; cases hm; exact iX0_usedByTables_ok
  | 11, hq, hm => cases hq; cases hm; exact iX0_fedToSeveral_ok
  | 12, hq, hm => cases hq; cases hm; exact iX0_mostPairsOf_ok
  | 13, hq, hm => cases hq; cases hm; exact iX0_withMates_ok
  | 14, hq, hm => cases hq; cases hm; exact iX0_withFewestMates_ok
  | 15, hq, hm => cases hq; cases hm; exact iX1_isLimit_ok
  | 16, hq, hm => cases hq; cases hm; exact iX1_forget_ok
  | 17, hq, hm => cases hq; cases hm; exact iX1_fill_ok
  | 18, hq, hm => cases hq; cases hm; exact iX1_countCrossing_ok
  | 19, hq, hm => cases hq; cases hm; exact iX1_take_ok
  | 20, hq, hm => cases hq; cases hm; exact iX1_withMostNetsIn_ok
  | 21, hq, hm => cases hq; cases hm; exact iX1_bestToCome_ok
  | 22, hq, hm => cases hq; cases hm; exact iX2_forget_ok
  | 23, hq, hm => cases hq; cases hm; exact iX2_bitsOf_ok
  | 24, hq, hm => cases hq; cases hm; exact iX2_caresOf_ok
  | 25, hq, hm => cases hq; cases hm; exact iX2_nodesByTables_ok
  | 26, hq, hm => cases hq; cases hm; exact iX2_told_ok
  | 27, hq, hm => cases hq; cases hm; exact iX2_findBits_ok
  | 28, hq, hm => cases hq; cases hm; exact iX3_takeNearCuts_ok
  | 29, hq, hm => cases hq; cases hm; exact iX3_chooseAgain_ok
  | 30, hq, hm => cases hq; cases hm; exact iX3_greatestArrival_ok
  | 31, hq, hm => cases hq; cases hm; exact iX3_usesOf_ok
  | 32, hq, hm => cases hq; cases hm; exact iX3_onSlowWay_ok
  | 33, hq, hm => cases hq; cases hm; exact iX3_latestOf_ok
  | 34, hq, hm => cases hq; cases hm; exact iX3_arrivalBy_ok
  | 35, hq, hm => cases hq; cases hm; exact iX3_withChosen_ok
  | 36, hq, hm => cases hq; cases hm; exact iX3_tablesWith_ok
  | 37, hq, hm => cases hq; cases hm; exact iX3_findDue_ok
  | 38, hq, hm => cases hq; cases hm; exact iX3_bestCut_ok
  | 39, hq, hm => cases hq; cases hm; exact iX4_learn_ok
  | 40, hq, hm => cases hq; cases hm; exact iX4_greatestLevel_ok
  | 41, hq, hm => cases hq; cases hm; exact iX4_keptCut_ok
  | 42, hq, hm => cases hq; cases hm; exact iX4_belowAtLevel_ok
  | 43, hq, hm => cases hq; cases hm; exact iX4_learnKept_ok
  | 44, hq, hm => cases hq; cases hm; exact iX4_takeKept_ok
  | 45, hq, hm => cases hq; cases hm; exact iX4_addWithThird_ok
  | 46, hq, hm => cases hq; cases hm; exact iX4_choices_ok
  | 47, hq, hm => cases hq; cases hm; exact iX4_choice_ok
  | 48, hq, hm => cases hq; cases hm; exact iX4_placeInRow_ok
  | 49, hq, hm => cases hq; cases hm; exact iX5_isKind_ok
  | 50, hq, hm => cases hq; cases hm; exact iX5_sourcesOf_ok
  | 51, hq, hm => cases hq; cases hm; exact iX5_isFull_ok
  | 52, hq, hm => cases hq; cases hm; exact iX5_isNode_ok
  | 53, hq, hm => cases hq; cases hm; exact iX5_isInput_ok
  | 54, hq, hm => cases hq; cases hm; exact iX5_isGate_ok
  | 55, hq, hm => cases hq; cases hm; exact iX5_isRegister_ok
  | 56, hq, hm => cases hq; cases hm; exact iX5_addInput_ok
  | 57, hq, hm => cases hq; cases hm; exact iX5_addRegister_ok
  | 58, hq, hm => cases hq; cases hm; exact iX5_addGate_ok
  | 59, hq, hm => cases hq; cases hm; exact iX5_setFeed_ok
  | 60, hq, hm => cases hq; cases hm; exact iX5_kindOf_ok
  | 61, hq, hm => cases hq; cases hm; exact iX5_feedOf_ok
  | 62, hq, hm => cases hq; cases hm; exact iX5_sourceOf_ok
  | 63, hq, hm => cases hq; cases hm; exact iX5_sourceOrFeed_ok
  | 64, hq, hm => cases hq; cases hm; exact iX5_roots_ok
  | 65, hq, hm => cases hq; cases hm; exact iX5_reached_ok
  | 66, hq, hm => cases hq; cases hm; exact iX5_separates_ok
  | 67, hq, hm => cases hq; cases hm; exact iX5_valueOf_ok
  | 68, hq, hm => cases hq; cases hm; exact iX6_clear_ok
  | 69, hq, hm => cases hq; cases hm; exact iX6_add_ok
  | 70, hq, hm => cases hq; cases hm; exact iX6_takeFirst_ok
  | 71, hq, hm => cases hq; cases hm; exact iX6_dropAllWith_ok
  | 72, hq, hm => cases hq; cases hm; exact iX7_setInput_ok
  | 73, hq, hm => cases hq; cases hm; exact iX7_now_ok
  | 74, hq, hm => cases hq; cases hm; exact iX7_changedBy_ok
  | 75, hq, hm => cases hq; cases hm; exact iX7_run_ok
  | 76, hq, hm => cases hq; cases hm; exact iX7_registersNext_ok
  | 77, hq, hm => cases hq; cases hm; exact iX7_nodesOn_ok
  | 78, hq, hm => cases hq; cases hm; exact iX8_nearestCut_ok
  | 79, hq, hm => cases hq; cases hm; exact iX8_findWay_ok
  | 80, hq, hm => cases hq; cases hm; exact iX8_seeUppers_ok
  | 81, hq, hm => cases hq; cases hm; exact iX8_seeLower_ok
  | 82, hq, hm => cases hq; cases hm; exact iX8_layWay_ok
  | 83, hq, hm => cases hq; cases hm; exact iX9_input_ok
  | 84, hq, hm => cases hq; cases hm; exact iX9_gate_ok
  | 85, hq, hm => cases hq; cases hm; exact iX9_register_ok
  | 86, hq, hm => cases hq; cases hm; exact iX9_feed_ok
  | 87, hq, hm => cases hq; cases hm; exact iX9_output_ok
  | 88, hq, hm => cases hq; cases hm; exact iX9_inputs_ok
  | 89, hq, hm => cases hq; cases hm; exact iX9_map_ok
  | 90, hq, hm => cases hq; cases hm; exact iX9_again_ok
  | 91, hq, hm => cases hq; cases hm; exact iX9_set_ok
  | 92, hq, hm => cases hq; cases hm; exact iX9_clock_ok
  | 93, hq, hm => cases hq; cases hm; exact iX9_node_ok
  | 94, hq, hm => cases hq; cases hm; exact iX9_near_ok
  | 95, hq, hm => cases hq; cases hm; exact iX9_cone_ok
  | 96, hq, hm => cases hq; cases hm; exact iX9_kept_ok
  | 97, hq, hm => cases hq; cases hm; exact iX9_isCut_ok
  | 98, hq, hm => cases hq; cases hm; exact iX9_depth_ok
  | 99, hq, hm => cases hq; cases hm; exact iX9_chosen_ok
  | 100, hq, hm => cases hq; cases hm; exact iX9_table_ok
  | 101, hq, hm => cases hq; cases hm; exact iX9_holds_ok
  | 102, hq, hm => cases hq; cases hm; exact iX9_mapped_ok
  | 103, hq, hm => cases hq; cases hm; exact iX9_cell_ok
  | 104, hq, hm => cases hq; cases hm; exact iX9_clusters_ok
  | 105, hq, hm => cases hq; cases hm; exact iX9_cluster_ok
  | 106, hq, hm => cases hq; cases hm; exact iX9_cross_ok
  | 107, hq, hm => cases hq; cases hm; exact iX9_is_ok
  | 108, hq, hm => cases hq; cases hm; exact iX9_comes_ok
  | 109, hq, hm => cases hq; cases hm; exact iX9_differs_ok
  | 110, hq, hm => cases hq; cases hm; exact iX9_slow_ok
  | 111, hq, hm => cases hq; cases hm; exact iX9_count_ok
  | 112, hq, hm => cases hq; cases hm; exact iX9_cutsOfK_ok
  | 113, hq, hm => cases hq; cases hm; exact iX9_followCover_ok
  | 114, hq, hm => cases hq; cases hm; exact iX9_bit_ok
  | 115, hq, hm => cases hq; cases hm; exact iX9_has_ok
  | 116, hq, hm => cases hq; cases hm; exact iX9_lowest_ok
  | 117, hq, hm => cases hq; cases hm; exact iX9_nthOf_ok
  | 118, hq, hm => cases hq; cases hm; exact iX10_thrown_ok
  | 119, hq, hm => cases hq; cases hm; exact iX10_within_ok
  | 120, hq, hm => cases hq; cases hm; exact iX10_has_ok
  | 121, hq, hm => cases hq; cases hm; exact iX10_manyOf_ok
  | 122, hq, hm => cases hq; cases hm; exact iX10_lowest_ok
  | 123, hq, hm => cases hq; cases hm; exact iX10_sourcesOf_ok
  | 124, hq, hm => cases hq; cases hm; exact iX10_isNode_ok
  | 125, hq, hm => cases hq; cases hm; exact iX10_isGate_ok
  | 126, hq, hm => cases hq; cases hm; exact iX10_isRegister_ok
  | 127, hq, hm => cases hq; cases hm; exact iX10_changes_ok
  | 128, hq, hm => cases hq; cases hm; exact iX10_adds_ok
  | 129, hq, hm => cases hq; cases hm; exact iX10_input_ok
  | 130, hq, hm => cases hq; cases hm; exact iX10_gate_ok
  | 131, hq, hm => cases hq; cases hm; exact iX10_register_ok
  | 132, hq, hm => cases hq; cases hm; exact iX10_feed_ok
  | 133, hq, hm => cases hq; cases hm; exact iX10_output_ok
  | 134, hq, hm => cases hq; cases hm; exact iX10_inputs_ok
  | 135, hq, hm => cases hq; cases hm; exact iX10_fed_ok
  | 136, hq, hm => cases hq; cases hm; exact iX10_roots_ok
  | 137, hq, hm => cases hq; cases hm; exact iX10_gates_ok
  | 138, hq, hm => cases hq; cases hm; exact iX10_comes_ok
  | 139, hq, hm => cases hq; cases hm; exact iX10_room_ok
  | 140, hq, hm => cases hq; cases hm; exact iX10_spreadsOut_ok
  | 141, hq, hm => cases hq; cases hm; exact iX10_spreadsIn_ok
  | 142, hq, hm => cases hq; cases hm; exact iX10_spreads_ok
  | 143, hq, hm => cases hq; cases hm; exact iX10_slotOf_ok
  | 144, hq, hm => cases hq; cases hm; exact iX10_flows_ok
  | 145, hq, hm => cases hq; cases hm; exact iX10_isCutOff_ok
  | 146, hq, hm => cases hq; cases hm; exact iX10_greatestIn_ok
  | 147, hq, hm => cases hq; cases hm; exact iX10_isAhead_ok
  | 148, hq, hm => cases hq; cases hm; exact iX10_makes_ok
  | 149, hq, hm => cases hq; cases hm; exact iX10_setOf_ok
  | 150, hq, hm => cases hq; cases hm; exact iX10_laysKept_ok
  | 151, hq, hm => cases hq; cases hm; exact iX10_puts_ok
  | 152, hq, hm => cases hq; cases hm; exact iX10_lays_ok
  | 153, hq, hm => cases hq; cases hm; exact iX10_coneOf_ok
  | 154, hq, hm => cases hq; cases hm; exact iX10_rootDepth_ok
  | 155, hq, hm => cases hq; cases hm; exact iX10_node_ok
  | 156, hq, hm => cases hq; cases hm; exact iX10_near_ok
  | 157, hq, hm => cases hq; cases hm; exact iX10_cone_ok
  | 158, hq, hm => cases hq; cases hm; exact iX10_kept_ok
  | 159, hq, hm => cases hq; cases hm; exact iX10_isCut_ok
  | 160, hq, hm => cases hq; cases hm; exact iX10_depth_ok
  | 161, hq, hm => cases hq; cases hm; exact iX10_laysTables_ok
  | 162, hq, hm => cases hq; cases hm; exact iX10_arrivalBy_ok
  | 163, hq, hm => cases hq; cases hm; exact iX10_laysArrival_ok
  | 164, hq, hm => cases hq; cases hm; exact iX10_looks_ok
  | 165, hq, hm => cases hq; cases hm; exact iX10_map_ok
  | 166, hq, hm => cases hq; cases hm; exact iX10_laysDue_ok
  | 167, hq, hm => cases hq; cases hm; exact iX10_tablesBy_ok
  | 168, hq, hm => cases hq; cases hm; exact iX10_choosesAgain_ok
  | 169, hq, hm => cases hq; cases hm; exact iX10_again_ok
  | 170, hq, hm => cases hq; cases hm; exact iX10_chosen_ok
  | 171, hq, hm => cases hq; cases hm; exact iX10_gateIs_ok
  | 172, hq, hm => cases hq; cases hm; exact iX10_works_ok
  | 173, hq, hm => cases hq; cases hm; exact iX10_fixes_ok
  | 174, hq, hm => cases hq; cases hm; exact iX10_holdsOf_ok
  | 175, hq, hm => cases hq; cases hm; exact iX10_holds_ok
  | 176, hq, hm => cases hq; cases hm; exact iX10_caresOf_ok
  | 177, hq, hm => cases hq; cases hm; exact iX10_has64_ok
  | 178, hq, hm => cases hq; cases hm; exact iX10_set_ok
  | 179, hq, hm => cases hq; cases hm; exact iX10_clock_ok
  | 180, hq, hm => cases hq; cases hm; exact iX10_is_ok
  | 181, hq, hm => cases hq; cases hm; exact iX10_comes__ok
  | 182, hq, hm => cases hq; cases hm; exact iX10_differs_ok
  | 183, hq, hm => cases hq; cases hm; exact iX10_isPair_ok
  | 184, hq, hm => cases hq; cases hm; exact iX10_laysPairs_ok
  | 185, hq, hm => cases hq; cases hm; exact iX10_usesOf_ok
  | 186, hq, hm => cases hq; cases hm; exact iX10_isPacked_ok
  | 187, hq, hm => cases hq; cases hm; exact iX10_newCell_ok
  | 188, hq, hm => cases hq; cases hm; exact iX10_packs_ok
  | 189, hq, hm => cases hq; cases hm; exact iX10_laysCells_ok
  | 190, hq, hm => cases hq; cases hm; exact iX10_mostPairs_ok
  | 191, hq, hm => cases hq; cases hm; exact iX10_table_ok
  | 192, hq, hm => cases hq; cases hm; exact iX10_slowest_ok
  | 193, hq, hm => cases hq; cases hm; exact iX10_mapped_ok
  | 194, hq, hm => cases hq; cases hm; exact iX10_cell_ok
  | 195, hq, hm => cases hq; cases hm; exact iX10_beginning_ok
  | 196, hq, hm => cases hq; cases hm; exact iX10_nextTo_ok
  | 197, hq, hm => cases hq; cases hm; exact iX10_joins_ok
  | 198, hq, hm => cases hq; cases hm; exact iX10_laysClusters_ok
  | 199, hq, hm => cases hq; cases hm; exact iX10_clusters_ok
  | 200, hq, hm => cases hq; cases hm; exact iX10_cluster_ok
  | 201, hq, hm => cases hq; cases hm; exact iX10_cross_ok
  | 202, hq, hm => cases hq; cases hm; exact iX10_slow_ok
  | 203, hq, hm => cases hq; cases hm; exact iX10_count_ok
  | 204, hq, hm => cases hq; cases hm; exact iJ13_bitCount_95d88_ok
  | 205, hq, hm => cases hq; cases hm; exact iJ9_max_7cf53_ok
  | 206, hq, hm => cases hq; cases hm; exact iJ9_min_7cf53_ok
  | k + 207, hq, hm => simp [sd_mt] at hq
def sd_mlP : List (Bool × Nat) := [(true, 439), (true, 443), (true, 454), (true, 459), (true, 462), (true, 466), (true, 474), (true, 482), (true, 490), (true, 498), (true, 499), (true, 505), (true, 514), (true, 608), (true, 632), (true, 693), (true, 722), (true, 726), (true, 737), (true, 765), (true, 769), (true, 773), (true, 780), (true, 785), (true, 793), (true, 801), (true, 806), (true, 815), (true, 824), (true, 828), (true, 1033), (true, 853), (true, 854), (true, 872), (true, 880), (true, 883), (true, 915), (true, 923), (true, 928), (true, 939), (true, 947), (true, 518), (true, 636), (true, 640), (true, 685), (true, 788), (true, 644), (true, 652), (true, 657), (true, 669), (true, 650), (true, 858), (false, 0), (false, 1), (false, 2), (true, 661), (true, 665), (true, 673), (true, 677), (true, 681), (true, 861), (true, 864), (true, 867), (false, 3), (true, 888), (true, 894), (true, 903), (true, 898), (true, 893), (false, 4), (false, 5), (true, 837), (false, 6), (true, 832), (true, 847), (true, 932), (false, 7), (true, 844), (true, 845), (false, 8), (true, 613), (true, 622), (true, 627), (true, 697), (true, 698), (true, 699), (false, 9), (true, 706), (true, 710), (true, 621), (true, 951), (true, 617), (true, 703), (true, 714), (false, 10), (true, 523), (false, 11), (true, 534), (true, 538), (true, 562), (false, 12), (true, 530), (true, 566), (true, 570), (true, 574), (true, 578), (true, 586), (true, 590), (true, 595), (true, 599), (true, 594), (true, 582), (true, 486), (false, 13), (false, 14), (true, 777), (true, 778), (true, 779), (false, 15), (true, 810), (true, 603), (false, 16), (false, 17), (true, 749), (true, 741), (true, 760), (true, 745), (false, 18), (true, 759), (true, 753), (false, 19), (true, 544), (true, 558), (true, 548), (false, 20), (true, 553), (false, 21), (true, 963), (true, 435), (true, 1181), (true, 450), (true, 1193), (true, 470), (true, 1207), (true, 478), (true, 1211), (true, 494), (true, 1219), (true, 506), (true, 1229), (true, 510), (true, 1341), (true, 689), (true, 1365), (true, 718), (true, 1405), (true, 733), (true, 1409), (true, 761), (true, 1233), (true, 781), (true, 1309), (true, 789), (true, 1317), (true, 797), (true, 1325), (true, 802), (true, 1329), (true, 811), (true, 1333), (true, 816), (true, 1381), (true, 820), (true, 1428), (true, 1385), (true, 1177), (true, 849), (true, 1464), (true, 868), (true, 1476), (true, 876), (true, 1480), (true, 907), (true, 1500), (true, 911), (true, 1504), (true, 919), (true, 1413), (true, 924), (true, 1417), (true, 935), (true, 1424), (true, 943), (true, 1508), (true, 955), (true, 1512), (true, 1223), (true, 1200), (true, 1189), (true, 1185), (true, 1197), (true, 1204), (true, 1215), (true, 1226), (true, 1305), (true, 1249), (true, 1261), (true, 1253), (true, 1257), (true, 1269), (true, 1245), (true, 1265), (true, 1294), (true, 1298), (true, 1277), (true, 1281), (true, 1286), (true, 1290), (true, 1241), (true, 1273), (true, 1301), (true, 1237), (true, 1313), (true, 1321), (true, 1337), (true, 1353), (true, 1361), (true, 1349), (true, 1357), (true, 1345), (true, 1377), (true, 1369), (true, 1373), (true, 1401), (true, 1393), (true, 1397), (true, 1389), (true, 1421), (true, 1440), (true, 1452), (true, 1436), (true, 1444), (true, 1448), (true, 1456), (true, 1432), (true, 1460), (true, 1468), (true, 1472), (true, 1488), (true, 1492), (true, 1496), (true, 1484)]
def sd_hosts : List String := ["TableMapper", "TableMapper", "TableMapper", "TableMapper", "TableMapper", "TableMapper", "TableMapper", "TableMapper", "TableMapper", "TableMapper", "TableMapper", "TableMapper", "TableMapper", "TableMapper", "TableMapper", "TableMapper", "TableMapper", "TableMapper", "TableMapper", "TableMapper", "TableMapper", "TableMapper"]
def sd_mlQ (q : Nat × Nat × (Nat × Nat × Nat)) (z : Bool × Nat) : Bool := match sd_mt[q.2.2.1]? with
  | some m => if z.1 then decide (lw_tbl[z.2]? = some (.methodLink (sd_own q.1) q.2.1 m.1)) else decide (sd_nest[z.2]? = some (.methodLinkNest (sd_own q.1) q.2.1 m.1 (sd_hosts.getD z.2 "")))
  | none => false
set_option maxRecDepth 100000 in
theorem sd_ml1 : (jm_ml.zip sd_mlP).all (fun q => sd_mlQ q.1 q.2) = true := by decide +kernel
theorem sd_ml1L : jm_ml.length = sd_mlP.length := by decide +kernel
def sd_stat : List Bool := [false, false, false, false, false, false, false, false, false, false, false, false, true, true, true, true, false, false, false, false, false, false, false, false, false, false, true, false, false, false, false, false, false, false, false, false, false, false, false, false, false, false, false, false, false, false, false, false, false, true, true, false, false, false, false, false, false, false, false, false, false, false, false, false, false, false, false, false, false, false, false, false, false, false, false, false, false, false, false, false, false, false, false, false, false, false, false, false, false, false, false, false, false, false, false, false, false, false, false, false, false, false, false, false, false, false, false, false, false, false, false, false, false, false, true, true, true, true, false, true, true, true, true, true, false, false, false, false, false, false, false, false, false, false, false, false, false, false, false, false, false, false, false, false, false, false, false, false, false, false, false, false, false, false, false, false, false, false, false, false, false, false, false, false, false, false, false, false, false, false, false, false, false, false, false, false, false, true, false, false, false, false, false, false, false, false, false, false, false, false, false, false, false, false, false, false, false, false, false, false, false, false, false, false, true, true, true]
def sd_mw (k : Nat) (m : MethodName × ByteArray × Nat × Option FieldType) : List Cond := match sd_stat.getD k true with
  | true => [.initialized m.1.cls, .static m.1]
  | false => [.initialized m.1.cls, .instanceMethod m.1, .selects m.1.cls m.1 m.1]
def sd_mwP : List (List Nat) := [[94, 873, 874], [94, 899, 900], [94, 641, 642], [94, 855, 856], [94, 646, 16], [94, 654, 17], [94, 659, 18], [94, 663, 19], [94, 667, 20], [94, 671, 21], [94, 675, 22], [94, 679, 23], [94, 859], [94, 862], [94, 865], [95, 881], [95, 686, 687], [95, 884, 885], [95, 916, 917], [95, 896, 31], [95, 890, 30], [95, 905, 32], [93, 637, 638], [93, 833, 834], [93, 829, 830], [93, 929, 930], [93, 933], [93, 839, 29], [92, 609, 610], [92, 694, 695], [92, 618, 619], [92, 825, 826], [92, 948, 949], [92, 953, 33], [92, 615, 13], [92, 629, 14], [92, 712, 26], [92, 701, 24], [92, 708, 25], [91, 519, 520], [91, 524, 525], [91, 715, 716], [91, 536, 1], [91, 564, 6], [91, 597, 11], [91, 592, 10], [91, 580, 8], [91, 588, 9], [91, 572, 7], [87, 455], [87, 460], [87, 440, 441], [87, 463, 464], [87, 723, 724], [87, 766, 767], [87, 483, 484], [87, 444, 445], [87, 475, 476], [87, 467, 468], [87, 491, 492], [87, 770, 771], [87, 682, 683], [87, 583, 584], [87, 774, 775], [87, 623, 624], [87, 794, 795], [87, 807, 808], [87, 754, 755], [90, 567, 568], [90, 575, 576], [90, 600, 601], [90, 605, 12], [88, 727, 728], [88, 746, 747], [88, 940, 941], [88, 738, 739], [88, 743, 27], [88, 751, 28], [89, 539, 540], [89, 546, 2], [89, 550, 3], [89, 555, 4], [89, 560, 5], [86, 436, 437], [86, 451, 452], [86, 471, 472], [86, 479, 480], [86, 495, 496], [86, 507, 508], [86, 511, 512], [86, 690, 691], [86, 719, 720], [86, 734, 735], [86, 762, 763], [86, 782, 783], [86, 790, 791], [86, 798, 799], [86, 803, 804], [86, 812, 813], [86, 817, 818], [86, 821, 822], [86, 964, 965], [86, 850, 851], [86, 869, 870], [86, 877, 878], [86, 908, 909], [86, 912, 913], [86, 920, 921], [86, 925, 926], [86, 936, 937], [86, 944, 945], [86, 956, 957], [86, 516, 0], [86, 634, 15], [86, 448], [86, 488], [86, 528], [86, 786], [96, 1178, 1179], [96, 1198], [96, 1224], [96, 1227], [96, 1299], [96, 1205], [96, 1202, 37], [96, 1315, 56], [96, 1217, 38], [96, 1191, 36], [96, 1187, 35], [96, 1182, 1183], [96, 1194, 1195], [96, 1208, 1209], [96, 1212, 1213], [96, 1220, 1221], [96, 1230, 1231], [96, 1307, 55], [96, 1303, 54], [96, 1355, 61], [96, 1251, 42], [96, 1263, 45], [96, 1255, 43], [96, 1259, 44], [96, 1247, 41], [96, 1271, 47], [96, 1267, 46], [96, 1243, 40], [96, 1296, 53], [96, 1292, 52], [96, 1279, 49], [96, 1283, 50], [96, 1275, 48], [96, 1288, 51], [96, 1239, 39], [96, 1323, 57], [96, 1339, 58], [96, 1234, 1235], [96, 1310, 1311], [96, 1318, 1319], [96, 1326, 1327], [96, 1330, 1331], [96, 1334, 1335], [96, 1351, 60], [96, 1363, 63], [96, 1359, 62], [96, 1347, 59], [96, 1342, 1343], [96, 1371, 64], [96, 1379, 66], [96, 1375, 65], [96, 1366, 1367], [96, 1382, 1383], [96, 1403, 70], [96, 1399, 69], [96, 1395, 68], [96, 1391, 67], [96, 1386, 1387], [96, 1462, 78], [96, 1422], [96, 1406, 1407], [96, 1410, 1411], [96, 1414, 1415], [96, 1418, 1419], [96, 1425, 1426], [96, 1442, 73], [96, 1438, 72], [96, 1454, 76], [96, 1450, 75], [96, 1446, 74], [96, 1458, 77], [96, 1434, 71], [96, 1474, 80], [96, 1429, 1430], [96, 1470, 79], [96, 1465, 1466], [96, 1477, 1478], [96, 1490, 82], [96, 1498, 84], [96, 1494, 83], [96, 1486, 81], [96, 1481, 1482], [96, 1501, 1502], [96, 1505, 1506], [96, 1509, 1510], [96, 1513, 1514], [97, 500], [98, 531], [98, 704]]
set_option maxRecDepth 100000 in
theorem sd_mw1 : (sd_mt.zipIdx.zip sd_mwP).all (fun q => decide ((sd_mw q.1.2 q.1.1).map some = q.2.map (fun i => lw_tbl[i]?)) && (sd_mw q.1.2 q.1.1).all goodWord) = true := by decide +kernel
theorem sd_mwL : sd_mt.length = sd_mwP.length ∧ sd_mt.length = jm_mt.length ∧ sd_mt.length = sd_stat.length := by decide +kernel
def sd_mkQ (q : (MethodName × ByteArray × Nat × Option FieldType) × (Nat × Nat × Nat × List (Nat × Instr × Nat))) : Bool := decide (q.1.2.2.1 = q.2.2.2.1) && decide (q.1.1.cls = sd_own q.2.1) && plainName q.1.1.cls && decide (q.1.1.cls ≠ "java/lang/invoke/MethodHandle") && decide (q.1.1.cls ≠ "java/lang/invoke/VarHandle") && (match q.2.2.1 with | 0 => decide (q.1.2.2.2 = none) | 1 => decide (q.1.2.2.2 = some .int) | 2 => decide (q.1.2.2.2 = some .long) | 3 => decide (q.1.2.2.2 = some .boolean) | 4 => (match q.1.2.2.2 with | some (.object _) => true | _ => false) | _ => false)
set_option maxRecDepth 100000 in
theorem sd_mk1 : (sd_mt.zip jm_mt).all sd_mkQ = true := by decide +kernel
def sd_caQ (q : Nat × Nat × (Nat × Nat × Nat)) : Bool := match sd_mt[q.2.2.1]? with
  | some m => match sd_stat.getD q.2.2.1 true with
    | true => decide (q.2.2.2.2 = 0) && decide ((parseMethodDescriptor m.1.desc).map (fun d => d.parameters.length) = some q.2.2.2.1)
    | false => decide (0 < q.2.2.2.1) && decide ((parseMethodDescriptor m.1.desc).map (fun d => d.parameters.length) = some (q.2.2.2.1 - 1)) && (match q.2.2.2.2 with | 0 => false | c + 1 => match vwCl[c]? with | some r => decide (r.1 = m.1.cls) | none => false)
  | none => false
set_option maxRecDepth 100000 in
theorem sd_ca1 : jm_ml.all sd_caQ = true := by decide +kernel
def sd_kty (w : Nat) : FieldType := match w with | 0 => .int | 1 => .long | _ => .boolean
def sd_shQ (h : jm_H) : Bool := match h.2 with
  | .inl (ci, fs) => match vwCl[ci]? with
    | some r => decide (fs.length = r.2.2) && (List.range r.2.2).all (fun k => match jm_nth fs k with | some (.inl w) => decide (w < 3) && !(r.2.1 k).2.2.2 && decide (parseFieldDescriptor (r.2.1 k).2.2.1 = some (sd_kty w)) | _ => true)
    | none => false
  | .inr (_, w) => decide (w < 4)
set_option maxRecDepth 100000 in
theorem sd_sh1 : jm_sh.all sd_shQ = true := by decide +kernel
def sd_rfQ (q : Nat × Nat) : Bool := match jm_nth jm_sh q.1 with
  | some (c, .inl (_, fs)) => decide (q.2 < c) && fs.all (fun f => match f with | .inr (t, b) => sd_cells.contains (t, match b with | true => q.2 | false => 0) | _ => true)
  | some (c, _) => decide (q.2 < c)
  | none => false
set_option maxRecDepth 100000 in
theorem sd_rf1 : sd_cells.all sd_rfQ = true := by decide +kernel
theorem sd_17 : ∀ j, j < 4 → (17, j) ∈ sd_cells := by decide +kernel
