-- written by wip/gen/gen.py: the cells, and the words of the tables by their places
def sd_cells : List (Nat × Nat) := [(0, 0), (1, 0), (2, 0), (3, 0), (4, 0), (5, 0), (6, 0), (7, 0), (8, 0), (9, 0), (10, 0), (11, 0), (12, 0), (13, 0), (14, 0), (15, 0), (16, 0), (17, 0), (17, 1), (17, 2), (17, 3), (18, 0), (18, 1), (18, 2), (18, 3), (19, 0), (19, 1), (19, 2), (19, 3), (20, 0), (20, 1), (20, 2), (20, 3), (21, 0), (21, 1), (21, 2), (21, 3), (22, 0), (23, 0), (24, 0), (25, 0), (26, 0), (27, 0), (28, 0), (29, 0), (30, 0), (31, 0), (32, 0), (33, 0), (34, 0), (35, 0), (36, 0), (37, 0), (38, 0), (39, 0), (40, 0), (41, 0), (42, 0), (43, 0), (44, 0), (45, 0), (46, 0), (47, 0), (48, 0), (49, 0), (50, 0), (51, 0), (52, 0), (53, 0), (54, 0), (55, 0), (56, 0), (57, 0), (58, 0), (59, 0), (60, 0), (61, 0), (62, 0), (63, 0), (64, 0), (65, 0), (66, 0), (67, 0), (68, 0), (69, 0), (70, 0), (71, 0)]
theorem sd_nodup : sd_cells.Nodup := by decide +kernel
def sd_own (i : Nat) : String := (["TableMapper$Cells", "TableMapper$Clustering", "TableMapper$Contents", "TableMapper$Cover", "TableMapper$Cuts", "TableMapper$Network", "TableMapper$Row", "TableMapper$Signals", "TableMapper$Ways", "TableMapper", "TableMapperModel", "TableMapperLaw", "java/lang/Long", "java/lang/Math"] : List String).getD i ""
def sd_nestT : List (String × Nat × MethodName × String) := [("TableMapper$Cells", 75, ⟨"TableMapper", "lowest", "(J)I"⟩, "TableMapper"), ("TableMapper$Cells", 81, ⟨"TableMapper", "has", "(JI)Z"⟩, "TableMapper"), ("TableMapper$Cells", 85, ⟨"TableMapper", "bit", "(I)J"⟩, "TableMapper"), ("TableMapper$Clustering", 31, ⟨"TableMapper", "bit", "(I)J"⟩, "TableMapper"), ("TableMapper$Clustering", 71, ⟨"TableMapper", "lowest", "(J)I"⟩, "TableMapper"), ("TableMapper$Contents", 30, ⟨"TableMapper", "has", "(JI)Z"⟩, "TableMapper"), ("TableMapper$Contents", 38, ⟨"TableMapper", "bit", "(I)J"⟩, "TableMapper"), ("TableMapper$Contents", 69, ⟨"TableMapper", "lowest", "(J)I"⟩, "TableMapper"), ("TableMapper$Cover", 32, ⟨"TableMapper", "lowest", "(J)I"⟩, "TableMapper"), ("TableMapper$Cover", 71, ⟨"TableMapper", "has", "(JI)Z"⟩, "TableMapper"), ("TableMapper$Cuts", 50, ⟨"TableMapper", "has", "(JI)Z"⟩, "TableMapper"), ("TableMapper$Cuts", 61, ⟨"TableMapper", "bit", "(I)J"⟩, "TableMapper"), ("TableMapper$Cuts", 79, ⟨"TableMapper", "lowest", "(J)I"⟩, "TableMapper"), ("TableMapper$Network", 43, ⟨"TableMapper", "has", "(JI)Z"⟩, "TableMapper"), ("TableMapper$Network", 53, ⟨"TableMapper", "bit", "(I)J"⟩, "TableMapper"), ("TableMapper$Network", 70, ⟨"TableMapper", "lowest", "(J)I"⟩, "TableMapper"), ("TableMapper$Signals", 23, ⟨"TableMapper", "has", "(JI)Z"⟩, "TableMapper"), ("TableMapper$Signals", 27, ⟨"TableMapper", "bit", "(I)J"⟩, "TableMapper"), ("TableMapper$Signals", 58, ⟨"TableMapper", "lowest", "(J)I"⟩, "TableMapper"), ("TableMapper$Ways", 31, ⟨"TableMapper", "lowest", "(J)I"⟩, "TableMapper"), ("TableMapper$Ways", 62, ⟨"TableMapper", "has", "(JI)Z"⟩, "TableMapper"), ("TableMapper$Ways", 73, ⟨"TableMapper", "bit", "(I)J"⟩, "TableMapper")]
def sd_nest : List Cond := sd_nestT.map fun q => .methodLinkNest q.1 q.2.1 q.2.2.1 q.2.2.2
theorem sd_nest_in : ∀ w ∈ sd_nest, w ∈ lw_tbl := by
  intro w hw
  have h : sd_nest = [648, 649, 651, 887, 892, 836, 846, 843, 612, 631, 522, 533, 527, 487, 447, 626, 730, 731, 758, 542, 552, 557].filterMap (fun i => lw_tbl[i]?) := by decide +kernel
  rw [h] at hw
  obtain ⟨i, -, hi⟩ := List.mem_filterMap.mp hw
  exact List.mem_of_getElem? hi
def sd_W : List Cond := lw_tbl.filter goodWord
theorem sd_in {i : Nat} {w : Cond} (h : lw_tbl[i]? = some w) (hg : goodWord w = true) : w ∈ sd_W := List.mem_filter.mpr ⟨List.mem_of_getElem? h, hg⟩
theorem sd_inL {ws : List Cond} (ps : List Nat) (h : ws = ps.filterMap (fun i => lw_tbl[i]?)) (hg : ws.all goodWord = true) : ∀ w ∈ ws, w ∈ sd_W := by
  intro w hw
  have h1 := List.all_eq_true.mp hg w hw
  rw [h] at hw
  obtain ⟨i, -, hi⟩ := List.mem_filterMap.mp hw
  exact sd_in hi h1
def sd_clsOK (r : vw_C) : Prop := (∀ w ∈ u_ws r.1 r.2.1 r.2.2, w ∈ sd_W) ∧ ∃ ty0 : Nat → FieldType, (∀ k, k < r.2.2 → parseFieldDescriptor (r.2.1 k).2.2.1 = some (ty0 k)) ∧ (∀ a, a < r.2.2 → ∀ b, b < r.2.2 → a ≠ b → (r.2.1 a).2.1 ≠ (r.2.1 b).2.1)
set_option maxRecDepth 100000 in
theorem sd_cls0 : sd_clsOK (RX0, TX0, 11) := ⟨sd_inL [351, 353, 355, 357, 359, 361, 363, 365, 367, 369, 371] (by decide +kernel) (by decide +kernel), tyX0, tyX0_ok, nmX0⟩
set_option maxRecDepth 100000 in
theorem sd_cls1 : sd_clsOK (RX1, TX1, 8) := ⟨sd_inL [390, 392, 394, 396, 398, 400, 402, 404] (by decide +kernel) (by decide +kernel), tyX1, tyX1_ok, nmX1⟩
set_option maxRecDepth 100000 in
theorem sd_cls2 : sd_clsOK (RX2, TX2, 5) := ⟨sd_inL [313, 315, 317, 319, 321] (by decide +kernel) (by decide +kernel), tyX2, tyX2_ok, nmX2⟩
set_option maxRecDepth 100000 in
theorem sd_cls3 : sd_clsOK (RX3, TX3, 5) := ⟨sd_inL [291, 293, 295, 297, 299] (by decide +kernel) (by decide +kernel), tyX3, tyX3_ok, nmX3⟩
set_option maxRecDepth 100000 in
theorem sd_cls4 : sd_clsOK (RX4, TX4, 9) := ⟨sd_inL [255, 257, 259, 261, 263, 265, 267, 269, 271] (by decide +kernel) (by decide +kernel), tyX4, tyX4_ok, nmX4⟩
set_option maxRecDepth 100000 in
theorem sd_cls5 : sd_clsOK (RX5, TX5, 10) := ⟨sd_inL [148, 150, 152, 154, 156, 158, 160, 162, 164, 166] (by decide +kernel) (by decide +kernel), tyX5, tyX5_ok, nmX5⟩
set_option maxRecDepth 100000 in
theorem sd_cls6 : sd_clsOK (RX6, TX6, 3) := ⟨sd_inL [228, 230, 232] (by decide +kernel) (by decide +kernel), tyX6, tyX6_ok, nmX6⟩
set_option maxRecDepth 100000 in
theorem sd_cls7 : sd_clsOK (RX7, TX7, 3) := ⟨sd_inL [181, 183, 185] (by decide +kernel) (by decide +kernel), tyX7, tyX7_ok, nmX7⟩
set_option maxRecDepth 100000 in
theorem sd_cls8 : sd_clsOK (RX8, TX8, 8) := ⟨sd_inL [202, 204, 206, 208, 210, 212, 214, 216] (by decide +kernel) (by decide +kernel), tyX8, tyX8_ok, nmX8⟩
set_option maxRecDepth 100000 in
theorem sd_cls9 : sd_clsOK (RX9, TX9, 9) := ⟨sd_inL [416, 418, 420, 422, 424, 426, 428, 430, 432] (by decide +kernel) (by decide +kernel), tyX9, tyX9_ok, nmX9⟩
set_option maxRecDepth 100000 in
theorem sd_cls10 : sd_clsOK (RX10, TX10, 45) := ⟨sd_inL [1085, 1087, 1089, 1091, 1093, 1095, 1097, 1099, 1101, 1103, 1105, 1107, 1109, 1111, 1113, 1115, 1117, 1119, 1121, 1123, 1125, 1127, 1129, 1131, 1133, 1135, 1137, 1139, 1141, 1143, 1145, 1147, 1149, 1151, 1153, 1155, 1157, 1159, 1161, 1163, 1165, 1167, 1169, 1171, 1173] (by decide +kernel) (by decide +kernel), tyX10, tyX10_ok, nmX10⟩
theorem sd_cls : ∀ r ∈ vwCl, sd_clsOK r := by
  intro r hr
  simp only [vwCl, List.mem_cons, List.not_mem_nil, or_false] at hr
  rcases hr with rfl | rfl | rfl | rfl | rfl | rfl | rfl | rfl | rfl | rfl | rfl
  · exact sd_cls0
  · exact sd_cls1
  · exact sd_cls2
  · exact sd_cls3
  · exact sd_cls4
  · exact sd_cls5
  · exact sd_cls6
  · exact sd_cls7
  · exact sd_cls8
  · exact sd_cls9
  · exact sd_cls10
def sd_flW (q : Nat × Nat × (Nat × Nat)) : Option Cond := (vwCl[q.2.2.1]?).map fun r => Cond.fieldLink (sd_own q.1) q.2.1 r.1 (r.2.1 q.2.2.2).2.1 (r.2.1 q.2.2.2).2.2.1
def sd_flP : List Nat := [407, 408, 409, 410, 411, 412, 413, 414, 415, 140, 290, 247, 125, 250, 285, 287, 334, 336, 347, 350, 345, 338, 340, 343, 384, 382, 180, 147, 128, 135, 139, 254, 332, 333, 335, 337, 339, 341, 330, 331, 348, 289, 145, 284, 346, 344, 141, 138, 381, 380, 385, 386, 349, 387, 383, 388, 389, 342, 310, 311, 308, 309, 312, 283, 132, 281, 282, 286, 280, 129, 249, 143, 288, 246, 248, 251, 252, 242, 243, 244, 245, 253, 130, 122, 124, 117, 118, 119, 120, 123, 144, 127, 133, 137, 142, 225, 226, 227, 178, 177, 179, 126, 136, 146, 134, 194, 195, 196, 197, 121, 198, 199, 200, 201, 131, 1042, 1043, 1044, 1045, 1047, 1050, 1051, 1052, 1053, 1054, 1055, 1056, 1058, 1059, 1060, 1062, 1063, 1064, 1066, 1067, 1068, 1069, 1070, 1071, 1072, 1073, 1074, 1075, 1079, 1080, 1081, 1082, 1083, 1040, 1041, 1048, 1049, 1046, 1057, 1061, 1065, 1078, 1076, 1077, 1084]
set_option maxRecDepth 100000 in
theorem sd_fl1 : jm_fl.map sd_flW = sd_flP.map (fun i => lw_tbl[i]?) := by decide +kernel
set_option maxRecDepth 100000 in
theorem sd_fl2 : jm_fl.all (fun q => match vwCl[q.2.2.1]? with | some r => decide (q.2.2.2 < r.2.2) && decide ((r.2.1 q.2.2.2).1 = r.1) | none => false) = true := by decide +kernel
def sd_gsW (q : Nat × Nat × Nat) : Cond := if q.2.2 = 100 then .fieldLink (sd_own q.1) q.2.1 "TableMapper$Network" "SOURCES" "[I" else .fieldLink (sd_own q.1) q.2.1 "TableMapper$Contents" "PLACES" "[J"
theorem sd_gs1 : jm_gs.map (fun q => some (sd_gsW q)) = [841, 457].map (fun i => lw_tbl[i]?) := by decide +kernel
theorem sd_gs2 : jm_gs.all (fun q => decide (q.2.2 = 100 ∨ q.2.2 = 101)) = true := by decide +kernel
theorem sd_lc1 : jm_lc.map (fun q => some (Cond.constantLong (sd_own q.1) q.2.1 q.2.2)) = [656, 902, 848, 757, 607, 732, 543, 1516, 1285, 502, 503, 504].map (fun i => lw_tbl[i]?) := by decide +kernel
def sd_mmN (b : Bool) : MethodName := if b then Lib.Math.max.name else Lib.Math.min.name
theorem sd_mm1 : jm_mm.map (fun q => some (Cond.methodLink (sd_own q.1) q.2.1 (sd_mmN q.2.2))) = [867, 621, 703, 530].map (fun i => lw_tbl[i]?) := by decide +kernel
theorem sd_max : Cond.static Lib.Math.max.name ∈ lw_tbl ∧ Cond.initialized "java/lang/Math" ∈ lw_tbl ∧ Cond.code Lib.Math.max.name Lib.Math.max.code 2 (some .int) ∈ lw_tbl := ⟨List.mem_of_getElem? (i := 531) (by decide +kernel), List.mem_of_getElem? (i := 98) (by decide +kernel), List.mem_of_getElem? (i := 532) (by decide +kernel)⟩
theorem sd_min : Cond.static Lib.Math.min.name ∈ lw_tbl ∧ Cond.initialized "java/lang/Math" ∈ lw_tbl ∧ Cond.code Lib.Math.min.name Lib.Math.min.code 2 (some .int) ∈ lw_tbl := ⟨List.mem_of_getElem? (i := 704) (by decide +kernel), List.mem_of_getElem? (i := 98) (by decide +kernel), List.mem_of_getElem? (i := 705) (by decide +kernel)⟩
def sd_mt : List (MethodName × ByteArray × Nat × Option FieldType) := [(yX0_isCell, cX0_isCell, 2, some .boolean), (yX0_netsOut, cX0_netsOut, 2, some .long), (yX0_fillAnew, cX0_fillAnew, 2, none), (yX0_mostPairs, cX0_mostPairs, 1, some .int), (yX0_findMates, cX0_findMates, 8, none), (yX0_pairTables, cX0_pairTables, 9, none), (yX0_layTables, cX0_layTables, 4, none), (yX0_addCell, cX0_addCell, 7, none), (yX0_join, cX0_join, 3, none), (yX0_layRegisters, cX0_layRegisters, 7, none), (yX0_usedByTables, cX0_usedByTables, 5, some .long), (yX0_fedToSeveral, cX0_fedToSeveral, 9, some .long), (yX0_mostPairsOf, cX0_mostPairsOf, 13, some .int), (yX0_withMates, cX0_withMates, 8, some .long), (yX0_withFewestMates, cX0_withFewestMates, 7, some .int), (yX1_isLimit, cX1_isLimit, 2, some .boolean), (yX1_forget, cX1_forget, 1, none), (yX1_fill, cX1_fill, 6, none), (yX1_countCrossing, cX1_countCrossing, 5, some .int), (yX1_take, cX1_take, 2, none), (yX1_withMostNetsIn, cX1_withMostNetsIn, 5, some .int), (yX1_bestToCome, cX1_bestToCome, 13, some .int), (yX2_forget, cX2_forget, 1, none), (yX2_bitsOf, cX2_bitsOf, 2, some .long), (yX2_caresOf, cX2_caresOf, 11, some .int), (yX2_nodesByTables, cX2_nodesByTables, 8, some .long), (yX2_told, cX2_told, 8, some .int), (yX2_findBits, cX2_findBits, 8, some .long), (yX3_takeNearCuts, cX3_takeNearCuts, 5, none), (yX3_chooseAgain, cX3_chooseAgain, 11, some .int), (yX3_greatestArrival, cX3_greatestArrival, 6, some .int), (yX3_usesOf, cX3_usesOf, 5, some .int), (yX3_onSlowWay, cX3_onSlowWay, 6, some .int), (yX3_latestOf, cX3_latestOf, 7, some .int), (yX3_arrivalBy, cX3_arrivalBy, 3, some .int), (yX3_withChosen, cX3_withChosen, 8, some .long), (yX3_tablesWith, cX3_tablesWith, 6, some .long), (yX3_findDue, cX3_findDue, 8, none), (yX3_bestCut, cX3_bestCut, 14, some .long), (yX4_learn, cX4_learn, 5, none), (yX4_greatestLevel, cX4_greatestLevel, 6, some .int), (yX4_keptCut, cX4_keptCut, 3, some .long), (yX4_belowAtLevel, cX4_belowAtLevel, 8, some .long), (yX4_learnKept, cX4_learnKept, 6, none), (yX4_takeKept, cX4_takeKept, 5, none), (yX4_addWithThird, cX4_addWithThird, 8, none), (yX4_choices, cX4_choices, 4, some .int), (yX4_choice, cX4_choice, 5, some .long), (yX4_placeInRow, cX4_placeInRow, 10, some .long), (yX5_isKind, cX5_isKind, 1, some .boolean), (yX5_sourcesOf, cX5_sourcesOf, 1, some .int), (yX5_isFull, cX5_isFull, 1, some .boolean), (yX5_isNode, cX5_isNode, 2, some .boolean), (yX5_isInput, cX5_isInput, 2, some .boolean), (yX5_isGate, cX5_isGate, 2, some .boolean), (yX5_isRegister, cX5_isRegister, 2, some .boolean), (yX5_addInput, cX5_addInput, 1, some .int), (yX5_addRegister, cX5_addRegister, 1, some .int), (yX5_addGate, cX5_addGate, 5, some .int), (yX5_setFeed, cX5_setFeed, 3, none), (yX5_kindOf, cX5_kindOf, 2, some .int), (yX5_feedOf, cX5_feedOf, 2, some .int), (yX5_sourceOf, cX5_sourceOf, 3, some .int), (yX5_sourceOrFeed, cX5_sourceOrFeed, 3, some .int), (yX5_roots, cX5_roots, 5, some .long), (yX5_reached, cX5_reached, 7, some .long), (yX5_separates, cX5_separates, 4, some .boolean), (yX5_valueOf, cX5_valueOf, 9, some .long), (yX6_clear, cX6_clear, 1, none), (yX6_add, cX6_add, 5, none), (yX6_takeFirst, cX6_takeFirst, 4, some .long), (yX6_dropAllWith, cX6_dropAllWith, 5, none), (yX7_setInput, cX7_setInput, 4, some .int), (yX7_now, cX7_now, 1, some .long), (yX7_changedBy, cX7_changedBy, 2, some .long), (yX7_run, cX7_run, 6, some .int), (yX7_registersNext, cX7_registersNext, 8, some .long), (yX7_nodesOn, cX7_nodesOn, 6, some .long), (yX8_nearestCut, cX8_nearestCut, 8, some .long), (yX8_findWay, cX8_findWay, 8, some .int), (yX8_seeUppers, cX8_seeUppers, 7, none), (yX8_seeLower, cX8_seeLower, 3, none), (yX8_layWay, cX8_layWay, 5, none), (yX9_input, cX9_input, 1, some .int), (yX9_gate, cX9_gate, 6, some .int), (yX9_register, cX9_register, 1, some .int), (yX9_feed, cX9_feed, 3, some .boolean), (yX9_output, cX9_output, 2, some .int), (yX9_inputs, cX9_inputs, 3, some .int), (yX9_map, cX9_map, 1, some .int), (yX9_again, cX9_again, 3, some .int), (yX9_set, cX9_set, 3, some .int), (yX9_clock, cX9_clock, 2, some .int), (yX9_node, cX9_node, 3, some .int), (yX9_near, cX9_near, 5, some .int), (yX9_cone, cX9_cone, 2, some .int), (yX9_kept, cX9_kept, 3, some .long), (yX9_isCut, cX9_isCut, 4, some .boolean), (yX9_depth, cX9_depth, 1, some .int), (yX9_chosen, cX9_chosen, 2, some .long), (yX9_table, cX9_table, 3, some .int), (yX9_holds, cX9_holds, 2, some .long), (yX9_mapped, cX9_mapped, 2, some .int), (yX9_cell, cX9_cell, 3, some .int), (yX9_clusters, cX9_clusters, 3, some .int), (yX9_cluster, cX9_cluster, 4, some .int), (yX9_cross, cX9_cross, 3, some .int), (yX9_is, cX9_is, 2, some .int), (yX9_comes, cX9_comes, 2, some .int), (yX9_differs, cX9_differs, 3, some .int), (yX9_slow, cX9_slow, 2, some .int), (yX9_count, cX9_count, 2, some .int), (yX9_cutsOfK, cX9_cutsOfK, 3, some (.object "TableMapper$Cuts")), (yX9_followCover, cX9_followCover, 1, none), (yX9_bit, cX9_bit, 1, some .long), (yX9_has, cX9_has, 3, some .boolean), (yX9_lowest, cX9_lowest, 2, some .int), (yX9_nthOf, cX9_nthOf, 6, some .int), (yX10_thrown, cX10_thrown, 1, some .int), (yX10_within, cX10_within, 3, some .boolean), (yX10_has, cX10_has, 3, some .boolean), (yX10_manyOf, cX10_manyOf, 4, some .int), (yX10_lowest, cX10_lowest, 3, some .int), (yX10_sourcesOf, cX10_sourcesOf, 1, some .int), (yX10_isNode, cX10_isNode, 2, some .boolean), (yX10_isGate, cX10_isGate, 2, some .boolean), (yX10_isRegister, cX10_isRegister, 2, some .boolean), (yX10_changes, cX10_changes, 1, none), (yX10_adds, cX10_adds, 3, some .int), (yX10_input, cX10_input, 1, some .int), (yX10_gate, cX10_gate, 10, some .int), (yX10_register, cX10_register, 2, some .int), (yX10_feed, cX10_feed, 3, some .boolean), (yX10_output, cX10_output, 2, some .int), (yX10_inputs, cX10_inputs, 3, some .int), (yX10_fed, cX10_fed, 4, some .long), (yX10_roots, cX10_roots, 1, some .long), (yX10_gates, cX10_gates, 4, some .long), (yX10_comes, cX10_comes, 3, none), (yX10_room, cX10_room, 3, some .int), (yX10_spreadsOut, cX10_spreadsOut, 4, none), (yX10_spreadsIn, cX10_spreadsIn, 7, none), (yX10_spreads, cX10_spreads, 7, some .int), (yX10_slotOf, cX10_slotOf, 5, some .int), (yX10_flows, cX10_flows, 6, none), (yX10_isCutOff, cX10_isCutOff, 6, some .boolean), (yX10_greatestIn, cX10_greatestIn, 5, some .int), (yX10_isAhead, cX10_isAhead, 7, some .boolean), (yX10_makes, cX10_makes, 5, none), (yX10_setOf, cX10_setOf, 3, some .long), (yX10_laysKept, cX10_laysKept, 11, none), (yX10_puts, cX10_puts, 8, some .int), (yX10_lays, cX10_lays, 3, none), (yX10_coneOf, cX10_coneOf, 9, some .long), (yX10_rootDepth, cX10_rootDepth, 1, some .int), (yX10_node, cX10_node, 3, some .int), (yX10_near, cX10_near, 5, some .int), (yX10_cone, cX10_cone, 2, some .int), (yX10_kept, cX10_kept, 3, some .long), (yX10_isCut, cX10_isCut, 10, some .boolean), (yX10_depth, cX10_depth, 1, some .int), (yX10_laysTables, cX10_laysTables, 2, none), (yX10_arrivalBy, cX10_arrivalBy, 5, some .int), (yX10_laysArrival, cX10_laysArrival, 2, none), (yX10_looks, cX10_looks, 1, none), (yX10_map, cX10_map, 2, some .int), (yX10_laysDue, cX10_laysDue, 6, none), (yX10_tablesBy, cX10_tablesBy, 6, some .int), (yX10_choosesAgain, cX10_choosesAgain, 11, none), (yX10_again, cX10_again, 4, some .int), (yX10_chosen, cX10_chosen, 2, some .long), (yX10_gateIs, cX10_gateIs, 5, some .boolean), (yX10_works, cX10_works, 4, none), (yX10_fixes, cX10_fixes, 6, none), (yX10_holdsOf, cX10_holdsOf, 5, some .long), (yX10_holds, cX10_holds, 2, some .long), (yX10_caresOf, cX10_caresOf, 8, some .int), (yX10_has64, cX10_has64, 3, some .boolean), (yX10_set, cX10_set, 4, some .int), (yX10_clock, cX10_clock, 5, some .int), (yX10_is, cX10_is, 2, some .int), (yX10_comes_, cX10_comes_, 6, some .int), (yX10_differs, cX10_differs, 4, some .int), (yX10_isPair, cX10_isPair, 3, some .boolean), (yX10_laysPairs, cX10_laysPairs, 3, none), (yX10_usesOf, cX10_usesOf, 4, some .int), (yX10_isPacked, cX10_isPacked, 5, some .boolean), (yX10_newCell, cX10_newCell, 4, none), (yX10_packs, cX10_packs, 3, none), (yX10_laysCells, cX10_laysCells, 3, none), (yX10_mostPairs, cX10_mostPairs, 9, some .int), (yX10_table, cX10_table, 3, some .int), (yX10_slowest, cX10_slowest, 3, some .int), (yX10_mapped, cX10_mapped, 2, some .int), (yX10_cell, cX10_cell, 3, some .int), (yX10_beginning, cX10_beginning, 3, some .int), (yX10_nextTo, cX10_nextTo, 8, some .int), (yX10_joins, cX10_joins, 3, none), (yX10_laysClusters, cX10_laysClusters, 5, some .boolean), (yX10_clusters, cX10_clusters, 3, some .int), (yX10_cluster, cX10_cluster, 4, some .int), (yX10_cross, cX10_cross, 7, some .int), (yX10_slow, cX10_slow, 7, some .int), (yX10_count, cX10_count, 4, some .int), (yJ13_bitCount_95d88, cJ13_bitCount_95d88, 2, some .int)]
set_option maxRecDepth 100000 in
theorem sd_mc0 : Cond.code yX0_isCell cX0_isCell 2 (some .boolean) ∈ lw_tbl := List.mem_of_getElem? (i := 875) rfl
set_option maxRecDepth 100000 in
theorem sd_mc1 : Cond.code yX0_netsOut cX0_netsOut 2 (some .long) ∈ lw_tbl := List.mem_of_getElem? (i := 901) rfl
set_option maxRecDepth 100000 in
theorem sd_mc2 : Cond.code yX0_fillAnew cX0_fillAnew 2 (none) ∈ lw_tbl := List.mem_of_getElem? (i := 643) rfl
set_option maxRecDepth 100000 in
theorem sd_mc3 : Cond.code yX0_mostPairs cX0_mostPairs 1 (some .int) ∈ lw_tbl := List.mem_of_getElem? (i := 857) rfl
set_option maxRecDepth 100000 in
theorem sd_mc4 : Cond.code yX0_findMates cX0_findMates 8 (none) ∈ lw_tbl := List.mem_of_getElem? (i := 647) rfl
set_option maxRecDepth 100000 in
theorem sd_mc5 : Cond.code yX0_pairTables cX0_pairTables 9 (none) ∈ lw_tbl := List.mem_of_getElem? (i := 655) rfl
set_option maxRecDepth 100000 in
theorem sd_mc6 : Cond.code yX0_layTables cX0_layTables 4 (none) ∈ lw_tbl := List.mem_of_getElem? (i := 660) rfl
set_option maxRecDepth 100000 in
theorem sd_mc7 : Cond.code yX0_addCell cX0_addCell 7 (none) ∈ lw_tbl := List.mem_of_getElem? (i := 664) rfl
set_option maxRecDepth 100000 in
theorem sd_mc8 : Cond.code yX0_join cX0_join 3 (none) ∈ lw_tbl := List.mem_of_getElem? (i := 668) rfl
set_option maxRecDepth 100000 in
theorem sd_mc9 : Cond.code yX0_layRegisters cX0_layRegisters 7 (none) ∈ lw_tbl := List.mem_of_getElem? (i := 672) rfl
set_option maxRecDepth 100000 in
theorem sd_mc10 : Cond.code yX0_usedByTables cX0_usedByTables 5 (some .long) ∈ lw_tbl := List.mem_of_getElem? (i := 676) rfl
set_option maxRecDepth 100000 in
theorem sd_mc11 : Cond.code yX0_fedToSeveral cX0_fedToSeveral 9 (some .long) ∈ lw_tbl := List.mem_of_getElem? (i := 680) rfl
set_option maxRecDepth 100000 in
theorem sd_mc12 : Cond.code yX0_mostPairsOf cX0_mostPairsOf 13 (some .int) ∈ lw_tbl := List.mem_of_getElem? (i := 860) rfl
set_option maxRecDepth 100000 in
theorem sd_mc13 : Cond.code yX0_withMates cX0_withMates 8 (some .long) ∈ lw_tbl := List.mem_of_getElem? (i := 863) rfl
set_option maxRecDepth 100000 in
theorem sd_mc14 : Cond.code yX0_withFewestMates cX0_withFewestMates 7 (some .int) ∈ lw_tbl := List.mem_of_getElem? (i := 866) rfl
set_option maxRecDepth 100000 in
theorem sd_mc15 : Cond.code yX1_isLimit cX1_isLimit 2 (some .boolean) ∈ lw_tbl := List.mem_of_getElem? (i := 882) rfl
set_option maxRecDepth 100000 in
theorem sd_mc16 : Cond.code yX1_forget cX1_forget 1 (none) ∈ lw_tbl := List.mem_of_getElem? (i := 688) rfl
set_option maxRecDepth 100000 in
theorem sd_mc17 : Cond.code yX1_fill cX1_fill 6 (none) ∈ lw_tbl := List.mem_of_getElem? (i := 886) rfl
set_option maxRecDepth 100000 in
theorem sd_mc18 : Cond.code yX1_countCrossing cX1_countCrossing 5 (some .int) ∈ lw_tbl := List.mem_of_getElem? (i := 918) rfl
set_option maxRecDepth 100000 in
theorem sd_mc19 : Cond.code yX1_take cX1_take 2 (none) ∈ lw_tbl := List.mem_of_getElem? (i := 897) rfl
set_option maxRecDepth 100000 in
theorem sd_mc20 : Cond.code yX1_withMostNetsIn cX1_withMostNetsIn 5 (some .int) ∈ lw_tbl := List.mem_of_getElem? (i := 891) rfl
set_option maxRecDepth 100000 in
theorem sd_mc21 : Cond.code yX1_bestToCome cX1_bestToCome 13 (some .int) ∈ lw_tbl := List.mem_of_getElem? (i := 906) rfl
set_option maxRecDepth 100000 in
theorem sd_mc22 : Cond.code yX2_forget cX2_forget 1 (none) ∈ lw_tbl := List.mem_of_getElem? (i := 639) rfl
set_option maxRecDepth 100000 in
theorem sd_mc23 : Cond.code yX2_bitsOf cX2_bitsOf 2 (some .long) ∈ lw_tbl := List.mem_of_getElem? (i := 835) rfl
set_option maxRecDepth 100000 in
theorem sd_mc24 : Cond.code yX2_caresOf cX2_caresOf 11 (some .int) ∈ lw_tbl := List.mem_of_getElem? (i := 831) rfl
set_option maxRecDepth 100000 in
theorem sd_mc25 : Cond.code yX2_nodesByTables cX2_nodesByTables 8 (some .long) ∈ lw_tbl := List.mem_of_getElem? (i := 931) rfl
set_option maxRecDepth 100000 in
theorem sd_mc26 : Cond.code yX2_told cX2_told 8 (some .int) ∈ lw_tbl := List.mem_of_getElem? (i := 934) rfl
set_option maxRecDepth 100000 in
theorem sd_mc27 : Cond.code yX2_findBits cX2_findBits 8 (some .long) ∈ lw_tbl := List.mem_of_getElem? (i := 840) rfl
set_option maxRecDepth 100000 in
theorem sd_mc28 : Cond.code yX3_takeNearCuts cX3_takeNearCuts 5 (none) ∈ lw_tbl := List.mem_of_getElem? (i := 611) rfl
set_option maxRecDepth 100000 in
theorem sd_mc29 : Cond.code yX3_chooseAgain cX3_chooseAgain 11 (some .int) ∈ lw_tbl := List.mem_of_getElem? (i := 696) rfl
set_option maxRecDepth 100000 in
theorem sd_mc30 : Cond.code yX3_greatestArrival cX3_greatestArrival 6 (some .int) ∈ lw_tbl := List.mem_of_getElem? (i := 620) rfl
set_option maxRecDepth 100000 in
theorem sd_mc31 : Cond.code yX3_usesOf cX3_usesOf 5 (some .int) ∈ lw_tbl := List.mem_of_getElem? (i := 827) rfl
set_option maxRecDepth 100000 in
theorem sd_mc32 : Cond.code yX3_onSlowWay cX3_onSlowWay 6 (some .int) ∈ lw_tbl := List.mem_of_getElem? (i := 950) rfl
set_option maxRecDepth 100000 in
theorem sd_mc33 : Cond.code yX3_latestOf cX3_latestOf 7 (some .int) ∈ lw_tbl := List.mem_of_getElem? (i := 954) rfl
set_option maxRecDepth 100000 in
theorem sd_mc34 : Cond.code yX3_arrivalBy cX3_arrivalBy 3 (some .int) ∈ lw_tbl := List.mem_of_getElem? (i := 616) rfl
set_option maxRecDepth 100000 in
theorem sd_mc35 : Cond.code yX3_withChosen cX3_withChosen 8 (some .long) ∈ lw_tbl := List.mem_of_getElem? (i := 630) rfl
set_option maxRecDepth 100000 in
theorem sd_mc36 : Cond.code yX3_tablesWith cX3_tablesWith 6 (some .long) ∈ lw_tbl := List.mem_of_getElem? (i := 713) rfl
set_option maxRecDepth 100000 in
theorem sd_mc37 : Cond.code yX3_findDue cX3_findDue 8 (none) ∈ lw_tbl := List.mem_of_getElem? (i := 702) rfl
set_option maxRecDepth 100000 in
theorem sd_mc38 : Cond.code yX3_bestCut cX3_bestCut 14 (some .long) ∈ lw_tbl := List.mem_of_getElem? (i := 709) rfl
set_option maxRecDepth 100000 in
theorem sd_mc39 : Cond.code yX4_learn cX4_learn 5 (none) ∈ lw_tbl := List.mem_of_getElem? (i := 521) rfl
set_option maxRecDepth 100000 in
theorem sd_mc40 : Cond.code yX4_greatestLevel cX4_greatestLevel 6 (some .int) ∈ lw_tbl := List.mem_of_getElem? (i := 526) rfl
set_option maxRecDepth 100000 in
theorem sd_mc41 : Cond.code yX4_keptCut cX4_keptCut 3 (some .long) ∈ lw_tbl := List.mem_of_getElem? (i := 717) rfl
set_option maxRecDepth 100000 in
theorem sd_mc42 : Cond.code yX4_belowAtLevel cX4_belowAtLevel 8 (some .long) ∈ lw_tbl := List.mem_of_getElem? (i := 537) rfl
set_option maxRecDepth 100000 in
theorem sd_mc43 : Cond.code yX4_learnKept cX4_learnKept 6 (none) ∈ lw_tbl := List.mem_of_getElem? (i := 565) rfl
set_option maxRecDepth 100000 in
theorem sd_mc44 : Cond.code yX4_takeKept cX4_takeKept 5 (none) ∈ lw_tbl := List.mem_of_getElem? (i := 598) rfl
set_option maxRecDepth 100000 in
theorem sd_mc45 : Cond.code yX4_addWithThird cX4_addWithThird 8 (none) ∈ lw_tbl := List.mem_of_getElem? (i := 593) rfl
set_option maxRecDepth 100000 in
theorem sd_mc46 : Cond.code yX4_choices cX4_choices 4 (some .int) ∈ lw_tbl := List.mem_of_getElem? (i := 581) rfl
set_option maxRecDepth 100000 in
theorem sd_mc47 : Cond.code yX4_choice cX4_choice 5 (some .long) ∈ lw_tbl := List.mem_of_getElem? (i := 589) rfl
set_option maxRecDepth 100000 in
theorem sd_mc48 : Cond.code yX4_placeInRow cX4_placeInRow 10 (some .long) ∈ lw_tbl := List.mem_of_getElem? (i := 573) rfl
set_option maxRecDepth 100000 in
theorem sd_mc49 : Cond.code yX5_isKind cX5_isKind 1 (some .boolean) ∈ lw_tbl := List.mem_of_getElem? (i := 456) rfl
set_option maxRecDepth 100000 in
theorem sd_mc50 : Cond.code yX5_sourcesOf cX5_sourcesOf 1 (some .int) ∈ lw_tbl := List.mem_of_getElem? (i := 461) rfl
set_option maxRecDepth 100000 in
theorem sd_mc51 : Cond.code yX5_isFull cX5_isFull 1 (some .boolean) ∈ lw_tbl := List.mem_of_getElem? (i := 442) rfl
set_option maxRecDepth 100000 in
theorem sd_mc52 : Cond.code yX5_isNode cX5_isNode 2 (some .boolean) ∈ lw_tbl := List.mem_of_getElem? (i := 465) rfl
set_option maxRecDepth 100000 in
theorem sd_mc53 : Cond.code yX5_isInput cX5_isInput 2 (some .boolean) ∈ lw_tbl := List.mem_of_getElem? (i := 725) rfl
set_option maxRecDepth 100000 in
theorem sd_mc54 : Cond.code yX5_isGate cX5_isGate 2 (some .boolean) ∈ lw_tbl := List.mem_of_getElem? (i := 768) rfl
set_option maxRecDepth 100000 in
theorem sd_mc55 : Cond.code yX5_isRegister cX5_isRegister 2 (some .boolean) ∈ lw_tbl := List.mem_of_getElem? (i := 485) rfl
set_option maxRecDepth 100000 in
theorem sd_mc56 : Cond.code yX5_addInput cX5_addInput 1 (some .int) ∈ lw_tbl := List.mem_of_getElem? (i := 446) rfl
set_option maxRecDepth 100000 in
theorem sd_mc57 : Cond.code yX5_addRegister cX5_addRegister 1 (some .int) ∈ lw_tbl := List.mem_of_getElem? (i := 477) rfl
set_option maxRecDepth 100000 in
theorem sd_mc58 : Cond.code yX5_addGate cX5_addGate 5 (some .int) ∈ lw_tbl := List.mem_of_getElem? (i := 469) rfl
set_option maxRecDepth 100000 in
theorem sd_mc59 : Cond.code yX5_setFeed cX5_setFeed 3 (none) ∈ lw_tbl := List.mem_of_getElem? (i := 493) rfl
set_option maxRecDepth 100000 in
theorem sd_mc60 : Cond.code yX5_kindOf cX5_kindOf 2 (some .int) ∈ lw_tbl := List.mem_of_getElem? (i := 772) rfl
set_option maxRecDepth 100000 in
theorem sd_mc61 : Cond.code yX5_feedOf cX5_feedOf 2 (some .int) ∈ lw_tbl := List.mem_of_getElem? (i := 684) rfl
set_option maxRecDepth 100000 in
theorem sd_mc62 : Cond.code yX5_sourceOf cX5_sourceOf 3 (some .int) ∈ lw_tbl := List.mem_of_getElem? (i := 585) rfl
set_option maxRecDepth 100000 in
theorem sd_mc63 : Cond.code yX5_sourceOrFeed cX5_sourceOrFeed 3 (some .int) ∈ lw_tbl := List.mem_of_getElem? (i := 776) rfl
set_option maxRecDepth 100000 in
theorem sd_mc64 : Cond.code yX5_roots cX5_roots 5 (some .long) ∈ lw_tbl := List.mem_of_getElem? (i := 625) rfl
set_option maxRecDepth 100000 in
theorem sd_mc65 : Cond.code yX5_reached cX5_reached 7 (some .long) ∈ lw_tbl := List.mem_of_getElem? (i := 796) rfl
set_option maxRecDepth 100000 in
theorem sd_mc66 : Cond.code yX5_separates cX5_separates 4 (some .boolean) ∈ lw_tbl := List.mem_of_getElem? (i := 809) rfl
set_option maxRecDepth 100000 in
theorem sd_mc67 : Cond.code yX5_valueOf cX5_valueOf 9 (some .long) ∈ lw_tbl := List.mem_of_getElem? (i := 756) rfl
set_option maxRecDepth 100000 in
theorem sd_mc68 : Cond.code yX6_clear cX6_clear 1 (none) ∈ lw_tbl := List.mem_of_getElem? (i := 569) rfl
set_option maxRecDepth 100000 in
theorem sd_mc69 : Cond.code yX6_add cX6_add 5 (none) ∈ lw_tbl := List.mem_of_getElem? (i := 577) rfl
set_option maxRecDepth 100000 in
theorem sd_mc70 : Cond.code yX6_takeFirst cX6_takeFirst 4 (some .long) ∈ lw_tbl := List.mem_of_getElem? (i := 602) rfl
set_option maxRecDepth 100000 in
theorem sd_mc71 : Cond.code yX6_dropAllWith cX6_dropAllWith 5 (none) ∈ lw_tbl := List.mem_of_getElem? (i := 606) rfl
set_option maxRecDepth 100000 in
theorem sd_mc72 : Cond.code yX7_setInput cX7_setInput 4 (some .int) ∈ lw_tbl := List.mem_of_getElem? (i := 729) rfl
set_option maxRecDepth 100000 in
theorem sd_mc73 : Cond.code yX7_now cX7_now 1 (some .long) ∈ lw_tbl := List.mem_of_getElem? (i := 748) rfl
set_option maxRecDepth 100000 in
theorem sd_mc74 : Cond.code yX7_changedBy cX7_changedBy 2 (some .long) ∈ lw_tbl := List.mem_of_getElem? (i := 942) rfl
set_option maxRecDepth 100000 in
theorem sd_mc75 : Cond.code yX7_run cX7_run 6 (some .int) ∈ lw_tbl := List.mem_of_getElem? (i := 740) rfl
set_option maxRecDepth 100000 in
theorem sd_mc76 : Cond.code yX7_registersNext cX7_registersNext 8 (some .long) ∈ lw_tbl := List.mem_of_getElem? (i := 744) rfl
set_option maxRecDepth 100000 in
theorem sd_mc77 : Cond.code yX7_nodesOn cX7_nodesOn 6 (some .long) ∈ lw_tbl := List.mem_of_getElem? (i := 752) rfl
set_option maxRecDepth 100000 in
theorem sd_mc78 : Cond.code yX8_nearestCut cX8_nearestCut 8 (some .long) ∈ lw_tbl := List.mem_of_getElem? (i := 541) rfl
set_option maxRecDepth 100000 in
theorem sd_mc79 : Cond.code yX8_findWay cX8_findWay 8 (some .int) ∈ lw_tbl := List.mem_of_getElem? (i := 547) rfl
set_option maxRecDepth 100000 in
theorem sd_mc80 : Cond.code yX8_seeUppers cX8_seeUppers 7 (none) ∈ lw_tbl := List.mem_of_getElem? (i := 551) rfl
set_option maxRecDepth 100000 in
theorem sd_mc81 : Cond.code yX8_seeLower cX8_seeLower 3 (none) ∈ lw_tbl := List.mem_of_getElem? (i := 556) rfl
set_option maxRecDepth 100000 in
theorem sd_mc82 : Cond.code yX8_layWay cX8_layWay 5 (none) ∈ lw_tbl := List.mem_of_getElem? (i := 561) rfl
set_option maxRecDepth 100000 in
theorem sd_mc83 : Cond.code yX9_input cX9_input 1 (some .int) ∈ lw_tbl := List.mem_of_getElem? (i := 438) rfl
set_option maxRecDepth 100000 in
theorem sd_mc84 : Cond.code yX9_gate cX9_gate 6 (some .int) ∈ lw_tbl := List.mem_of_getElem? (i := 453) rfl
set_option maxRecDepth 100000 in
theorem sd_mc85 : Cond.code yX9_register cX9_register 1 (some .int) ∈ lw_tbl := List.mem_of_getElem? (i := 473) rfl
set_option maxRecDepth 100000 in
theorem sd_mc86 : Cond.code yX9_feed cX9_feed 3 (some .boolean) ∈ lw_tbl := List.mem_of_getElem? (i := 481) rfl
set_option maxRecDepth 100000 in
theorem sd_mc87 : Cond.code yX9_output cX9_output 2 (some .int) ∈ lw_tbl := List.mem_of_getElem? (i := 497) rfl
set_option maxRecDepth 100000 in
theorem sd_mc88 : Cond.code yX9_inputs cX9_inputs 3 (some .int) ∈ lw_tbl := List.mem_of_getElem? (i := 509) rfl
set_option maxRecDepth 100000 in
theorem sd_mc89 : Cond.code yX9_map cX9_map 1 (some .int) ∈ lw_tbl := List.mem_of_getElem? (i := 513) rfl
set_option maxRecDepth 100000 in
theorem sd_mc90 : Cond.code yX9_again cX9_again 3 (some .int) ∈ lw_tbl := List.mem_of_getElem? (i := 692) rfl
set_option maxRecDepth 100000 in
theorem sd_mc91 : Cond.code yX9_set cX9_set 3 (some .int) ∈ lw_tbl := List.mem_of_getElem? (i := 721) rfl
set_option maxRecDepth 100000 in
theorem sd_mc92 : Cond.code yX9_clock cX9_clock 2 (some .int) ∈ lw_tbl := List.mem_of_getElem? (i := 736) rfl
set_option maxRecDepth 100000 in
theorem sd_mc93 : Cond.code yX9_node cX9_node 3 (some .int) ∈ lw_tbl := List.mem_of_getElem? (i := 764) rfl
set_option maxRecDepth 100000 in
theorem sd_mc94 : Cond.code yX9_near cX9_near 5 (some .int) ∈ lw_tbl := List.mem_of_getElem? (i := 784) rfl
set_option maxRecDepth 100000 in
theorem sd_mc95 : Cond.code yX9_cone cX9_cone 2 (some .int) ∈ lw_tbl := List.mem_of_getElem? (i := 792) rfl
set_option maxRecDepth 100000 in
theorem sd_mc96 : Cond.code yX9_kept cX9_kept 3 (some .long) ∈ lw_tbl := List.mem_of_getElem? (i := 800) rfl
set_option maxRecDepth 100000 in
theorem sd_mc97 : Cond.code yX9_isCut cX9_isCut 4 (some .boolean) ∈ lw_tbl := List.mem_of_getElem? (i := 805) rfl
set_option maxRecDepth 100000 in
theorem sd_mc98 : Cond.code yX9_depth cX9_depth 1 (some .int) ∈ lw_tbl := List.mem_of_getElem? (i := 814) rfl
set_option maxRecDepth 100000 in
theorem sd_mc99 : Cond.code yX9_chosen cX9_chosen 2 (some .long) ∈ lw_tbl := List.mem_of_getElem? (i := 819) rfl
set_option maxRecDepth 100000 in
theorem sd_mc100 : Cond.code yX9_table cX9_table 3 (some .int) ∈ lw_tbl := List.mem_of_getElem? (i := 823) rfl
set_option maxRecDepth 100000 in
theorem sd_mc101 : Cond.code yX9_holds cX9_holds 2 (some .long) ∈ lw_tbl := List.mem_of_getElem? (i := 966) rfl
set_option maxRecDepth 100000 in
theorem sd_mc102 : Cond.code yX9_mapped cX9_mapped 2 (some .int) ∈ lw_tbl := List.mem_of_getElem? (i := 852) rfl
set_option maxRecDepth 100000 in
theorem sd_mc103 : Cond.code yX9_cell cX9_cell 3 (some .int) ∈ lw_tbl := List.mem_of_getElem? (i := 871) rfl
set_option maxRecDepth 100000 in
theorem sd_mc104 : Cond.code yX9_clusters cX9_clusters 3 (some .int) ∈ lw_tbl := List.mem_of_getElem? (i := 879) rfl
set_option maxRecDepth 100000 in
theorem sd_mc105 : Cond.code yX9_cluster cX9_cluster 4 (some .int) ∈ lw_tbl := List.mem_of_getElem? (i := 910) rfl
set_option maxRecDepth 100000 in
theorem sd_mc106 : Cond.code yX9_cross cX9_cross 3 (some .int) ∈ lw_tbl := List.mem_of_getElem? (i := 914) rfl
set_option maxRecDepth 100000 in
theorem sd_mc107 : Cond.code yX9_is cX9_is 2 (some .int) ∈ lw_tbl := List.mem_of_getElem? (i := 922) rfl
set_option maxRecDepth 100000 in
theorem sd_mc108 : Cond.code yX9_comes cX9_comes 2 (some .int) ∈ lw_tbl := List.mem_of_getElem? (i := 927) rfl
set_option maxRecDepth 100000 in
theorem sd_mc109 : Cond.code yX9_differs cX9_differs 3 (some .int) ∈ lw_tbl := List.mem_of_getElem? (i := 938) rfl
set_option maxRecDepth 100000 in
theorem sd_mc110 : Cond.code yX9_slow cX9_slow 2 (some .int) ∈ lw_tbl := List.mem_of_getElem? (i := 946) rfl
set_option maxRecDepth 100000 in
theorem sd_mc111 : Cond.code yX9_count cX9_count 2 (some .int) ∈ lw_tbl := List.mem_of_getElem? (i := 958) rfl
set_option maxRecDepth 100000 in
theorem sd_mc112 : Cond.code yX9_cutsOfK cX9_cutsOfK 3 (some (.object "TableMapper$Cuts")) ∈ lw_tbl := List.mem_of_getElem? (i := 517) rfl
set_option maxRecDepth 100000 in
theorem sd_mc113 : Cond.code yX9_followCover cX9_followCover 1 (none) ∈ lw_tbl := List.mem_of_getElem? (i := 635) rfl
set_option maxRecDepth 100000 in
theorem sd_mc114 : Cond.code yX9_bit cX9_bit 1 (some .long) ∈ lw_tbl := List.mem_of_getElem? (i := 449) rfl
set_option maxRecDepth 100000 in
theorem sd_mc115 : Cond.code yX9_has cX9_has 3 (some .boolean) ∈ lw_tbl := List.mem_of_getElem? (i := 489) rfl
set_option maxRecDepth 100000 in
theorem sd_mc116 : Cond.code yX9_lowest cX9_lowest 2 (some .int) ∈ lw_tbl := List.mem_of_getElem? (i := 529) rfl
set_option maxRecDepth 100000 in
theorem sd_mc117 : Cond.code yX9_nthOf cX9_nthOf 6 (some .int) ∈ lw_tbl := List.mem_of_getElem? (i := 787) rfl
set_option maxRecDepth 100000 in
theorem sd_mc118 : Cond.code yX10_thrown cX10_thrown 1 (some .int) ∈ lw_tbl := List.mem_of_getElem? (i := 1180) rfl
set_option maxRecDepth 100000 in
theorem sd_mc119 : Cond.code yX10_within cX10_within 3 (some .boolean) ∈ lw_tbl := List.mem_of_getElem? (i := 1199) rfl
set_option maxRecDepth 100000 in
theorem sd_mc120 : Cond.code yX10_has cX10_has 3 (some .boolean) ∈ lw_tbl := List.mem_of_getElem? (i := 1225) rfl
set_option maxRecDepth 100000 in
theorem sd_mc121 : Cond.code yX10_manyOf cX10_manyOf 4 (some .int) ∈ lw_tbl := List.mem_of_getElem? (i := 1228) rfl
set_option maxRecDepth 100000 in
theorem sd_mc122 : Cond.code yX10_lowest cX10_lowest 3 (some .int) ∈ lw_tbl := List.mem_of_getElem? (i := 1300) rfl
set_option maxRecDepth 100000 in
theorem sd_mc123 : Cond.code yX10_sourcesOf cX10_sourcesOf 1 (some .int) ∈ lw_tbl := List.mem_of_getElem? (i := 1206) rfl
set_option maxRecDepth 100000 in
theorem sd_mc124 : Cond.code yX10_isNode cX10_isNode 2 (some .boolean) ∈ lw_tbl := List.mem_of_getElem? (i := 1203) rfl
set_option maxRecDepth 100000 in
theorem sd_mc125 : Cond.code yX10_isGate cX10_isGate 2 (some .boolean) ∈ lw_tbl := List.mem_of_getElem? (i := 1316) rfl
set_option maxRecDepth 100000 in
theorem sd_mc126 : Cond.code yX10_isRegister cX10_isRegister 2 (some .boolean) ∈ lw_tbl := List.mem_of_getElem? (i := 1218) rfl
set_option maxRecDepth 100000 in
theorem sd_mc127 : Cond.code yX10_changes cX10_changes 1 (none) ∈ lw_tbl := List.mem_of_getElem? (i := 1192) rfl
set_option maxRecDepth 100000 in
theorem sd_mc128 : Cond.code yX10_adds cX10_adds 3 (some .int) ∈ lw_tbl := List.mem_of_getElem? (i := 1188) rfl
set_option maxRecDepth 100000 in
theorem sd_mc129 : Cond.code yX10_input cX10_input 1 (some .int) ∈ lw_tbl := List.mem_of_getElem? (i := 1184) rfl
set_option maxRecDepth 100000 in
theorem sd_mc130 : Cond.code yX10_gate cX10_gate 10 (some .int) ∈ lw_tbl := List.mem_of_getElem? (i := 1196) rfl
set_option maxRecDepth 100000 in
theorem sd_mc131 : Cond.code yX10_register cX10_register 2 (some .int) ∈ lw_tbl := List.mem_of_getElem? (i := 1210) rfl
set_option maxRecDepth 100000 in
theorem sd_mc132 : Cond.code yX10_feed cX10_feed 3 (some .boolean) ∈ lw_tbl := List.mem_of_getElem? (i := 1214) rfl
set_option maxRecDepth 100000 in
theorem sd_mc133 : Cond.code yX10_output cX10_output 2 (some .int) ∈ lw_tbl := List.mem_of_getElem? (i := 1222) rfl
set_option maxRecDepth 100000 in
theorem sd_mc134 : Cond.code yX10_inputs cX10_inputs 3 (some .int) ∈ lw_tbl := List.mem_of_getElem? (i := 1232) rfl
set_option maxRecDepth 100000 in
theorem sd_mc135 : Cond.code yX10_fed cX10_fed 4 (some .long) ∈ lw_tbl := List.mem_of_getElem? (i := 1308) rfl
set_option maxRecDepth 100000 in
theorem sd_mc136 : Cond.code yX10_roots cX10_roots 1 (some .long) ∈ lw_tbl := List.mem_of_getElem? (i := 1304) rfl
set_option maxRecDepth 100000 in
theorem sd_mc137 : Cond.code yX10_gates cX10_gates 4 (some .long) ∈ lw_tbl := List.mem_of_getElem? (i := 1356) rfl
set_option maxRecDepth 100000 in
theorem sd_mc138 : Cond.code yX10_comes cX10_comes 3 (none) ∈ lw_tbl := List.mem_of_getElem? (i := 1252) rfl
set_option maxRecDepth 100000 in
theorem sd_mc139 : Cond.code yX10_room cX10_room 3 (some .int) ∈ lw_tbl := List.mem_of_getElem? (i := 1264) rfl
set_option maxRecDepth 100000 in
theorem sd_mc140 : Cond.code yX10_spreadsOut cX10_spreadsOut 4 (none) ∈ lw_tbl := List.mem_of_getElem? (i := 1256) rfl
set_option maxRecDepth 100000 in
theorem sd_mc141 : Cond.code yX10_spreadsIn cX10_spreadsIn 7 (none) ∈ lw_tbl := List.mem_of_getElem? (i := 1260) rfl
set_option maxRecDepth 100000 in
theorem sd_mc142 : Cond.code yX10_spreads cX10_spreads 7 (some .int) ∈ lw_tbl := List.mem_of_getElem? (i := 1248) rfl
set_option maxRecDepth 100000 in
theorem sd_mc143 : Cond.code yX10_slotOf cX10_slotOf 5 (some .int) ∈ lw_tbl := List.mem_of_getElem? (i := 1272) rfl
set_option maxRecDepth 100000 in
theorem sd_mc144 : Cond.code yX10_flows cX10_flows 6 (none) ∈ lw_tbl := List.mem_of_getElem? (i := 1268) rfl
set_option maxRecDepth 100000 in
theorem sd_mc145 : Cond.code yX10_isCutOff cX10_isCutOff 6 (some .boolean) ∈ lw_tbl := List.mem_of_getElem? (i := 1244) rfl
set_option maxRecDepth 100000 in
theorem sd_mc146 : Cond.code yX10_greatestIn cX10_greatestIn 5 (some .int) ∈ lw_tbl := List.mem_of_getElem? (i := 1297) rfl
set_option maxRecDepth 100000 in
theorem sd_mc147 : Cond.code yX10_isAhead cX10_isAhead 7 (some .boolean) ∈ lw_tbl := List.mem_of_getElem? (i := 1293) rfl
set_option maxRecDepth 100000 in
theorem sd_mc148 : Cond.code yX10_makes cX10_makes 5 (none) ∈ lw_tbl := List.mem_of_getElem? (i := 1280) rfl
set_option maxRecDepth 100000 in
theorem sd_mc149 : Cond.code yX10_setOf cX10_setOf 3 (some .long) ∈ lw_tbl := List.mem_of_getElem? (i := 1284) rfl
set_option maxRecDepth 100000 in
theorem sd_mc150 : Cond.code yX10_laysKept cX10_laysKept 11 (none) ∈ lw_tbl := List.mem_of_getElem? (i := 1276) rfl
set_option maxRecDepth 100000 in
theorem sd_mc151 : Cond.code yX10_puts cX10_puts 8 (some .int) ∈ lw_tbl := List.mem_of_getElem? (i := 1289) rfl
set_option maxRecDepth 100000 in
theorem sd_mc152 : Cond.code yX10_lays cX10_lays 3 (none) ∈ lw_tbl := List.mem_of_getElem? (i := 1240) rfl
set_option maxRecDepth 100000 in
theorem sd_mc153 : Cond.code yX10_coneOf cX10_coneOf 9 (some .long) ∈ lw_tbl := List.mem_of_getElem? (i := 1324) rfl
set_option maxRecDepth 100000 in
theorem sd_mc154 : Cond.code yX10_rootDepth cX10_rootDepth 1 (some .int) ∈ lw_tbl := List.mem_of_getElem? (i := 1340) rfl
set_option maxRecDepth 100000 in
theorem sd_mc155 : Cond.code yX10_node cX10_node 3 (some .int) ∈ lw_tbl := List.mem_of_getElem? (i := 1236) rfl
set_option maxRecDepth 100000 in
theorem sd_mc156 : Cond.code yX10_near cX10_near 5 (some .int) ∈ lw_tbl := List.mem_of_getElem? (i := 1312) rfl
set_option maxRecDepth 100000 in
theorem sd_mc157 : Cond.code yX10_cone cX10_cone 2 (some .int) ∈ lw_tbl := List.mem_of_getElem? (i := 1320) rfl
set_option maxRecDepth 100000 in
theorem sd_mc158 : Cond.code yX10_kept cX10_kept 3 (some .long) ∈ lw_tbl := List.mem_of_getElem? (i := 1328) rfl
set_option maxRecDepth 100000 in
theorem sd_mc159 : Cond.code yX10_isCut cX10_isCut 10 (some .boolean) ∈ lw_tbl := List.mem_of_getElem? (i := 1332) rfl
set_option maxRecDepth 100000 in
theorem sd_mc160 : Cond.code yX10_depth cX10_depth 1 (some .int) ∈ lw_tbl := List.mem_of_getElem? (i := 1336) rfl
set_option maxRecDepth 100000 in
theorem sd_mc161 : Cond.code yX10_laysTables cX10_laysTables 2 (none) ∈ lw_tbl := List.mem_of_getElem? (i := 1352) rfl
set_option maxRecDepth 100000 in
theorem sd_mc162 : Cond.code yX10_arrivalBy cX10_arrivalBy 5 (some .int) ∈ lw_tbl := List.mem_of_getElem? (i := 1364) rfl
set_option maxRecDepth 100000 in
theorem sd_mc163 : Cond.code yX10_laysArrival cX10_laysArrival 2 (none) ∈ lw_tbl := List.mem_of_getElem? (i := 1360) rfl
set_option maxRecDepth 100000 in
theorem sd_mc164 : Cond.code yX10_looks cX10_looks 1 (none) ∈ lw_tbl := List.mem_of_getElem? (i := 1348) rfl
set_option maxRecDepth 100000 in
theorem sd_mc165 : Cond.code yX10_map cX10_map 2 (some .int) ∈ lw_tbl := List.mem_of_getElem? (i := 1344) rfl
set_option maxRecDepth 100000 in
theorem sd_mc166 : Cond.code yX10_laysDue cX10_laysDue 6 (none) ∈ lw_tbl := List.mem_of_getElem? (i := 1372) rfl
set_option maxRecDepth 100000 in
theorem sd_mc167 : Cond.code yX10_tablesBy cX10_tablesBy 6 (some .int) ∈ lw_tbl := List.mem_of_getElem? (i := 1380) rfl
set_option maxRecDepth 100000 in
theorem sd_mc168 : Cond.code yX10_choosesAgain cX10_choosesAgain 11 (none) ∈ lw_tbl := List.mem_of_getElem? (i := 1376) rfl
set_option maxRecDepth 100000 in
theorem sd_mc169 : Cond.code yX10_again cX10_again 4 (some .int) ∈ lw_tbl := List.mem_of_getElem? (i := 1368) rfl
set_option maxRecDepth 100000 in
theorem sd_mc170 : Cond.code yX10_chosen cX10_chosen 2 (some .long) ∈ lw_tbl := List.mem_of_getElem? (i := 1384) rfl
set_option maxRecDepth 100000 in
theorem sd_mc171 : Cond.code yX10_gateIs cX10_gateIs 5 (some .boolean) ∈ lw_tbl := List.mem_of_getElem? (i := 1404) rfl
set_option maxRecDepth 100000 in
theorem sd_mc172 : Cond.code yX10_works cX10_works 4 (none) ∈ lw_tbl := List.mem_of_getElem? (i := 1400) rfl
set_option maxRecDepth 100000 in
theorem sd_mc173 : Cond.code yX10_fixes cX10_fixes 6 (none) ∈ lw_tbl := List.mem_of_getElem? (i := 1396) rfl
set_option maxRecDepth 100000 in
theorem sd_mc174 : Cond.code yX10_holdsOf cX10_holdsOf 5 (some .long) ∈ lw_tbl := List.mem_of_getElem? (i := 1392) rfl
set_option maxRecDepth 100000 in
theorem sd_mc175 : Cond.code yX10_holds cX10_holds 2 (some .long) ∈ lw_tbl := List.mem_of_getElem? (i := 1388) rfl
set_option maxRecDepth 100000 in
theorem sd_mc176 : Cond.code yX10_caresOf cX10_caresOf 8 (some .int) ∈ lw_tbl := List.mem_of_getElem? (i := 1463) rfl
set_option maxRecDepth 100000 in
theorem sd_mc177 : Cond.code yX10_has64 cX10_has64 3 (some .boolean) ∈ lw_tbl := List.mem_of_getElem? (i := 1423) rfl
set_option maxRecDepth 100000 in
theorem sd_mc178 : Cond.code yX10_set cX10_set 4 (some .int) ∈ lw_tbl := List.mem_of_getElem? (i := 1408) rfl
set_option maxRecDepth 100000 in
theorem sd_mc179 : Cond.code yX10_clock cX10_clock 5 (some .int) ∈ lw_tbl := List.mem_of_getElem? (i := 1412) rfl
set_option maxRecDepth 100000 in
theorem sd_mc180 : Cond.code yX10_is cX10_is 2 (some .int) ∈ lw_tbl := List.mem_of_getElem? (i := 1416) rfl
set_option maxRecDepth 100000 in
theorem sd_mc181 : Cond.code yX10_comes_ cX10_comes_ 6 (some .int) ∈ lw_tbl := List.mem_of_getElem? (i := 1420) rfl
set_option maxRecDepth 100000 in
theorem sd_mc182 : Cond.code yX10_differs cX10_differs 4 (some .int) ∈ lw_tbl := List.mem_of_getElem? (i := 1427) rfl
set_option maxRecDepth 100000 in
theorem sd_mc183 : Cond.code yX10_isPair cX10_isPair 3 (some .boolean) ∈ lw_tbl := List.mem_of_getElem? (i := 1443) rfl
set_option maxRecDepth 100000 in
theorem sd_mc184 : Cond.code yX10_laysPairs cX10_laysPairs 3 (none) ∈ lw_tbl := List.mem_of_getElem? (i := 1439) rfl
set_option maxRecDepth 100000 in
theorem sd_mc185 : Cond.code yX10_usesOf cX10_usesOf 4 (some .int) ∈ lw_tbl := List.mem_of_getElem? (i := 1455) rfl
set_option maxRecDepth 100000 in
theorem sd_mc186 : Cond.code yX10_isPacked cX10_isPacked 5 (some .boolean) ∈ lw_tbl := List.mem_of_getElem? (i := 1451) rfl
set_option maxRecDepth 100000 in
theorem sd_mc187 : Cond.code yX10_newCell cX10_newCell 4 (none) ∈ lw_tbl := List.mem_of_getElem? (i := 1447) rfl
set_option maxRecDepth 100000 in
theorem sd_mc188 : Cond.code yX10_packs cX10_packs 3 (none) ∈ lw_tbl := List.mem_of_getElem? (i := 1459) rfl
set_option maxRecDepth 100000 in
theorem sd_mc189 : Cond.code yX10_laysCells cX10_laysCells 3 (none) ∈ lw_tbl := List.mem_of_getElem? (i := 1435) rfl
set_option maxRecDepth 100000 in
theorem sd_mc190 : Cond.code yX10_mostPairs cX10_mostPairs 9 (some .int) ∈ lw_tbl := List.mem_of_getElem? (i := 1475) rfl
set_option maxRecDepth 100000 in
theorem sd_mc191 : Cond.code yX10_table cX10_table 3 (some .int) ∈ lw_tbl := List.mem_of_getElem? (i := 1431) rfl
set_option maxRecDepth 100000 in
theorem sd_mc192 : Cond.code yX10_slowest cX10_slowest 3 (some .int) ∈ lw_tbl := List.mem_of_getElem? (i := 1471) rfl
set_option maxRecDepth 100000 in
theorem sd_mc193 : Cond.code yX10_mapped cX10_mapped 2 (some .int) ∈ lw_tbl := List.mem_of_getElem? (i := 1467) rfl
set_option maxRecDepth 100000 in
theorem sd_mc194 : Cond.code yX10_cell cX10_cell 3 (some .int) ∈ lw_tbl := List.mem_of_getElem? (i := 1479) rfl
set_option maxRecDepth 100000 in
theorem sd_mc195 : Cond.code yX10_beginning cX10_beginning 3 (some .int) ∈ lw_tbl := List.mem_of_getElem? (i := 1491) rfl
set_option maxRecDepth 100000 in
theorem sd_mc196 : Cond.code yX10_nextTo cX10_nextTo 8 (some .int) ∈ lw_tbl := List.mem_of_getElem? (i := 1499) rfl
set_option maxRecDepth 100000 in
theorem sd_mc197 : Cond.code yX10_joins cX10_joins 3 (none) ∈ lw_tbl := List.mem_of_getElem? (i := 1495) rfl
set_option maxRecDepth 100000 in
theorem sd_mc198 : Cond.code yX10_laysClusters cX10_laysClusters 5 (some .boolean) ∈ lw_tbl := List.mem_of_getElem? (i := 1487) rfl
set_option maxRecDepth 100000 in
theorem sd_mc199 : Cond.code yX10_clusters cX10_clusters 3 (some .int) ∈ lw_tbl := List.mem_of_getElem? (i := 1483) rfl
set_option maxRecDepth 100000 in
theorem sd_mc200 : Cond.code yX10_cluster cX10_cluster 4 (some .int) ∈ lw_tbl := List.mem_of_getElem? (i := 1503) rfl
set_option maxRecDepth 100000 in
theorem sd_mc201 : Cond.code yX10_cross cX10_cross 7 (some .int) ∈ lw_tbl := List.mem_of_getElem? (i := 1507) rfl
set_option maxRecDepth 100000 in
theorem sd_mc202 : Cond.code yX10_slow cX10_slow 7 (some .int) ∈ lw_tbl := List.mem_of_getElem? (i := 1511) rfl
set_option maxRecDepth 100000 in
theorem sd_mc203 : Cond.code yX10_count cX10_count 4 (some .int) ∈ lw_tbl := List.mem_of_getElem? (i := 1515) rfl
set_option maxRecDepth 100000 in
theorem sd_mc204 : Cond.code yJ13_bitCount_95d88 cJ13_bitCount_95d88 2 (some .int) ∈ lw_tbl := List.mem_of_getElem? (i := 501) rfl
set_option maxRecDepth 100000 in
theorem sd_mtL : sd_mt.length = 205 := rfl
set_option maxRecDepth 100000 in
theorem sd_mc : ∀ (k : Nat) (q : MethodName × ByteArray × Nat × Option FieldType), sd_mt[k]? = some q → Cond.code q.1 q.2.1 q.2.2.1 q.2.2.2 ∈ lw_tbl := by
  intro k q hq
  match k, hq with
  | 0, hq => cases hq; exact sd_mc0
  | 1, hq => cases hq; exact sd_mc1
  | 2, hq => cases hq; exact sd_mc2
  | 3, hq => cases hq; exact sd_mc3
  | 4, hq => cases hq; exact sd_mc4
  | 5, hq => cases hq; exact sd_mc5
  | 6, hq => cases hq; exact sd_mc6
  | 7, hq => cases hq; exact sd_mc7
  | 8, hq => cases hq; exact sd_mc8
  | 9, hq => cases hq; exact sd_mc9
  | 10, hq => cases hq; exact sd_mc10
  | 11, hq => cases hq; exact sd_mc11
  | 12, hq => cases hq; exact sd_mc12
  | 13, hq => cases hq; exact sd_mc13
  | 14, hq => cases hq; exact sd_mc14
  | 15, hq => cases hq; exact sd_mc15
  | 16, hq => cases hq; exact sd_mc16
  | 17, hq => cases hq; exact sd_mc17
  | 18, hq => cases hq; exact sd_mc18
  | 19, hq => cases hq; exact sd_mc19
  | 20, hq => cases hq; exact sd_mc20
  | 21, hq => cases hq; exact sd_mc21
  | 22, hq => cases hq; exact sd_mc22
  | 23, hq => cases hq; exact sd_mc23
  | 24, hq => cases hq; exact sd_mc24
  | 25, hq => cases hq; exact sd_mc25
  | 26, hq => cases hq; exact sd_mc26
  | 27, hq => cases hq; exact sd_mc27
  | 28, hq => cases hq; exact sd_mc28
  | 29, hq => cases hq; exact sd_mc29
  | 30, hq => cases hq; exact sd_mc30
  | 31, hq => cases hq; exact sd_mc31
  | 32, hq => cases hq; exact sd_mc32
  | 33, hq => cases hq; exact sd_mc33
  | 34, hq => cases hq; exact sd_mc34
  | 35, hq => cases hq; exact sd_mc35
  | 36, hq => cases hq; exact sd_mc36
  | 37, hq => cases hq; exact sd_mc37
  | 38, hq => cases hq; exact sd_mc38
  | 39, hq => cases hq; exact sd_mc39
  | 40, hq => cases hq; exact sd_mc40
  | 41, hq => cases hq; exact sd_mc41
  | 42, hq => cases hq; exact sd_mc42
  | 43, hq => cases hq; exact sd_mc43
  | 44, hq => cases hq; exact sd_mc44
  | 45, hq => cases hq; exact sd_mc45
  | 46, hq => cases hq; exact sd_mc46
  | 47, hq => cases hq; exact sd_mc47
  | 48, hq => cases hq; exact sd_mc48
  | 49, hq => cases hq; exact sd_mc49
  | 50, hq => cases hq; exact sd_mc50
  | 51, hq => cases hq; exact sd_mc51
  | 52, hq => cases hq; exact sd_mc52
  | 53, hq => cases hq; exact sd_mc53
  | 54, hq => cases hq; exact sd_mc54
  | 55, hq => cases hq; exact sd_mc55
  | 56, hq => cases hq; exact sd_mc56
  | 57, hq => cases hq; exact sd_mc57
  | 58, hq => cases hq; exact sd_mc58
  | 59, hq => cases hq; exact sd_mc59
  | 60, hq => cases hq; exact sd_mc60
  | 61, hq => cases hq; exact sd_mc61
  | 62, hq => cases hq; exact sd_mc62
  | 63, hq => cases hq; exact sd_mc63
  | 64, hq => cases hq; exact sd_mc64
  | 65, hq => cases hq; exact sd_mc65
  | 66, hq => cases hq; exact sd_mc66
  | 67, hq => cases hq; exact sd_mc67
  | 68, hq => cases hq; exact sd_mc68
  | 69, hq => cases hq; exact sd_mc69
  | 70, hq => cases hq; exact sd_mc70
  | 71, hq => cases hq; exact sd_mc71
  | 72, hq => cases hq; exact sd_mc72
  | 73, hq => cases hq; exact sd_mc73
  | 74, hq => cases hq; exact sd_mc74
  | 75, hq => cases hq; exact sd_mc75
  | 76, hq => cases hq; exact sd_mc76
  | 77, hq => cases hq; exact sd_mc77
  | 78, hq => cases hq; exact sd_mc78
  | 79, hq => cases hq; exact sd_mc79
  | 80, hq => cases hq; exact sd_mc80
  | 81, hq => cases hq; exact sd_mc81
  | 82, hq => cases hq; exact sd_mc82
  | 83, hq => cases hq; exact sd_mc83
  | 84, hq => cases hq; exact sd_mc84
  | 85, hq => cases hq; exact sd_mc85
  | 86, hq => cases hq; exact sd_mc86
  | 87, hq => cases hq; exact sd_mc87
  | 88, hq => cases hq; exact sd_mc88
  | 89, hq => cases hq; exact sd_mc89
  | 90, hq => cases hq; exact sd_mc90
  | 91, hq => cases hq; exact sd_mc91
  | 92, hq => cases hq; exact sd_mc92
  | 93, hq => cases hq; exact sd_mc93
  | 94, hq => cases hq; exact sd_mc94
  | 95, hq => cases hq; exact sd_mc95
  | 96, hq => cases hq; exact sd_mc96
  | 97, hq => cases hq; exact sd_mc97
  | 98, hq => cases hq; exact sd_mc98
  | 99, hq => cases hq; exact sd_mc99
  | 100, hq => cases hq; exact sd_mc100
  | 101, hq => cases hq; exact sd_mc101
  | 102, hq => cases hq; exact sd_mc102
  | 103, hq => cases hq; exact sd_mc103
  | 104, hq => cases hq; exact sd_mc104
  | 105, hq => cases hq; exact sd_mc105
  | 106, hq => cases hq; exact sd_mc106
  | 107, hq => cases hq; exact sd_mc107
  | 108, hq => cases hq; exact sd_mc108
  | 109, hq => cases hq; exact sd_mc109
  | 110, hq => cases hq; exact sd_mc110
  | 111, hq => cases hq; exact sd_mc111
  | 112, hq => cases hq; exact sd_mc112
  | 113, hq => cases hq; exact sd_mc113
  | 114, hq => cases hq; exact sd_mc114
  | 115, hq => cases hq; exact sd_mc115
  | 116, hq => cases hq; exact sd_mc116
  | 117, hq => cases hq; exact sd_mc117
  | 118, hq => cases hq; exact sd_mc118
  | 119, hq => cases hq; exact sd_mc119
  | 120, hq => cases hq; exact sd_mc120
  | 121, hq => cases hq; exact sd_mc121
  | 122, hq => cases hq; exact sd_mc122
  | 123, hq => cases hq; exact sd_mc123
  | 124, hq => cases hq; exact sd_mc124
  | 125, hq => cases hq; exact sd_mc125
  | 126, hq => cases hq; exact sd_mc126
  | 127, hq => cases hq; exact sd_mc127
  | 128, hq => cases hq; exact sd_mc128
  | 129, hq => cases hq; exact sd_mc129
  | 130, hq => cases hq; exact sd_mc130
  | 131, hq => cases hq; exact sd_mc131
  | 132, hq => cases hq; exact sd_mc132
  | 133, hq => cases hq; exact sd_mc133
  | 134, hq => cases hq; exact sd_mc134
  | 135, hq => cases hq; exact sd_mc135
  | 136, hq => cases hq; exact sd_mc136
  | 137, hq => cases hq; exact sd_mc137
  | 138, hq => cases hq; exact sd_mc138
  | 139, hq => cases hq; exact sd_mc139
  | 140, hq => cases hq; exact sd_mc140
  | 141, hq => cases hq; exact sd_mc141
  | 142, hq => cases hq; exact sd_mc142
  | 143, hq => cases hq; exact sd_mc143
  | 144, hq => cases hq; exact sd_mc144
  | 145, hq => cases hq; exact sd_mc145
  | 146, hq => cases hq; exact sd_mc146
  | 147, hq => cases hq; exact sd_mc147
  | 148, hq => cases hq; exact sd_mc148
  | 149, hq => cases hq; exact sd_mc149
  | 150, hq => cases hq; exact sd_mc150
  | 151, hq => cases hq; exact sd_mc151
  | 152, hq => cases hq; exact sd_mc152
  | 153, hq => cases hq; exact sd_mc153
  | 154, hq => cases hq; exact sd_mc154
  | 155, hq => cases hq; exact sd_mc155
  | 156, hq => cases hq; exact sd_mc156
  | 157, hq => cases hq; exact sd_mc157
  | 158, hq => cases hq; exact sd_mc158
  | 159, hq => cases hq; exact sd_mc159
  | 160, hq => cases hq; exact sd_mc160
  | 161, hq => cases hq; exact sd_mc161
  | 162, hq => cases hq; exact sd_mc162
  | 163, hq => cases hq; exact sd_mc163
  | 164, hq => cases hq; exact sd_mc164
  | 165, hq => cases hq; exact sd_mc165
  | 166, hq => cases hq; exact sd_mc166
  | 167, hq => cases hq; exact sd_mc167
  | 168, hq => cases hq; exact sd_mc168
  | 169, hq => cases hq; exact sd_mc169
  | 170, hq => cases hq; exact sd_mc170
  | 171, hq => cases hq; exact sd_mc171
  | 172, hq => cases hq; exact sd_mc172
  | 173, hq => cases hq; exact sd_mc173
  | 174, hq => cases hq; exact sd_mc174
  | 175, hq => cases hq; exact sd_mc175
  | 176, hq => cases hq; exact sd_mc176
  | 177, hq => cases hq; exact sd_mc177
  | 178, hq => cases hq; exact sd_mc178
  | 179, hq => cases hq; exact sd_mc179
  | 180, hq => cases hq; exact sd_mc180
  | 181, hq => cases hq; exact sd_mc181
  | 182, hq => cases hq; exact sd_mc182
  | 183, hq => cases hq; exact sd_mc183
  | 184, hq => cases hq; exact sd_mc184
  | 185, hq => cases hq; exact sd_mc185
  | 186, hq => cases hq; exact sd_mc186
  | 187, hq => cases hq; exact sd_mc187
  | 188, hq => cases hq; exact sd_mc188
  | 189, hq => cases hq; exact sd_mc189
  | 190, hq => cases hq; exact sd_mc190
  | 191, hq => cases hq; exact sd_mc191
  | 192, hq => cases hq; exact sd_mc192
  | 193, hq => cases hq; exact sd_mc193
  | 194, hq => cases hq; exact sd_mc194
  | 195, hq => cases hq; exact sd_mc195
  | 196, hq => cases hq; exact sd_mc196
  | 197, hq => cases hq; exact sd_mc197
  | 198, hq => cases hq; exact sd_mc198
  | 199, hq => cases hq; exact sd_mc199
  | 200, hq => cases hq; exact sd_mc200
  | 201, hq => cases hq; exact sd_mc201
  | 202, hq => cases hq; exact sd_mc202
  | 203, hq => cases hq; exact sd_mc203
  | 204, hq => cases hq; exact sd_mc204
  | k + 205, hq => rw [List.getElem?_eq_none (by rw [sd_mtL]; omega)] at hq; cases hq
def sd_decOK (q : MethodName × ByteArray × Nat × Option FieldType) (m : Nat × Nat × Nat × List (Nat × Instr × Nat)) : Prop := m.2.2.2.all (fun z => decide (decode q.2.1 z.1 = .ok (z.2.1, z.2.2))) = true
set_option maxRecDepth 100000 in
theorem sd_dec : ∀ (k : Nat) (q : MethodName × ByteArray × Nat × Option FieldType) (m : Nat × Nat × Nat × List (Nat × Instr × Nat)), sd_mt[k]? = some q → jm_mt[k]? = some m → sd_decOK q m := by
  intro k q m hq hm
  match k, hq, hm with
  | 0, hq, hm => cases hq; cases hm; exact iX0_isCell_ok
  | 1, hq, hm => cases hq; cases hm; exact iX0_netsOut_ok
  | 2, hq, hm => cases hq; cases hm; exact iX0_fillAnew_ok
  | 3, hq, hm => cases hq; cases hm; exact iX0_mostPairs_ok
  | 4, hq, hm => cases hq; cases hm; exact iX0_findMates_ok
  | 5, hq, hm => cases hq; cases hm; exact iX0_pairTables_ok
  | 6, hq, hm => cases hq; cases hm; exact iX0_layTables_ok
  | 7, hq, hm => cases hq; cases hm; exact iX0_addCell_ok
  | 8, hq, hm => cases hq; cases hm; exact iX0_join_ok
  | 9, hq, hm => cases hq; cases hm; exact iX0_layRegisters_ok
  | 10, hq, hm => cases hq; cases hm; exact iX0_usedByTables_ok
  | 11, hq, hm => cases hq; cases hm; exact iX0_fedToSeveral_ok
  | 12, hq, hm => cases hq; cases hm; exact iX0_mostPairsOf_ok
  | 13, hq, hm => cases hq; cases hm; exact iX0_withMates_ok
  | 14, hq, hm => cases hq; cases hm; exact iX0_withFewestMates_ok
  | 15, hq, hm => cases hq; cases hm; exact iX1_isLimit_ok
  | 16, hq, hm => cases hq; cases hm; exact iX1_forget_ok
  | 17, hq, hm => cases hq; cases hm; exact iX1_fill_ok
  | 18, hq, hm => cases hq; cases hm; exact iX1_countCrossing_ok
  | 19, hq, hm => cases hq; cases hm; exact iX1_take_ok
  | 20, hq, hm => cases hq; cases hm; exact iX1_withMostNetsIn_ok
  | 21, hq, hm => cases hq; cases hm; exact iX1_bestToCome_ok
  | 22, hq, hm => cases hq; cases hm; exact iX2_forget_ok
  | 23, hq, hm => cases hq; cases hm; exact iX2_bitsOf_ok
  | 24, hq, hm => cases hq; cases hm; exact iX2_caresOf_ok
  | 25, hq, hm => cases hq; cases hm; exact iX2_nodesByTables_ok
  | 26, hq, hm => cases hq; cases hm; exact iX2_told_ok
  | 27, hq, hm => cases hq; cases hm; exact iX2_findBits_ok
  | 28, hq, hm => cases hq; cases hm; exact iX3_takeNearCuts_ok
  | 29, hq, hm => cases hq; cases hm; exact iX3_chooseAgain_ok
  | 30, hq, hm => cases hq; cases hm; exact iX3_greatestArrival_ok
  | 31, hq, hm => cases hq; cases hm; exact iX3_usesOf_ok
  | 32, hq, hm => cases hq; cases hm; exact iX3_onSlowWay_ok
  | 33, hq, hm => cases hq; cases hm; exact iX3_latestOf_ok
  | 34, hq, hm => cases hq; cases hm; exact iX3_arrivalBy_ok
  | 35, hq, hm => cases hq; cases hm; exact iX3_withChosen_ok
  | 36, hq, hm => cases hq; cases hm; exact iX3_tablesWith_ok
  | 37, hq, hm => cases hq; cases hm; exact iX3_findDue_ok
  | 38, hq, hm => cases hq; cases hm; exact iX3_bestCut_ok
  | 39, hq, hm => cases hq; cases hm; exact iX4_learn_ok
  | 40, hq, hm => cases hq; cases hm; exact iX4_greatestLevel_ok
  | 41, hq, hm => cases hq; cases hm; exact iX4_keptCut_ok
  | 42, hq, hm => cases hq; cases hm; exact iX4_belowAtLevel_ok
  | 43, hq, hm => cases hq; cases hm; exact iX4_learnKept_ok
  | 44, hq, hm => cases hq; cases hm; exact iX4_takeKept_ok
  | 45, hq, hm => cases hq; cases hm; exact iX4_addWithThird_ok
  | 46, hq, hm => cases hq; cases hm; exact iX4_choices_ok
  | 47, hq, hm => cases hq; cases hm; exact iX4_choice_ok
  | 48, hq, hm => cases hq; cases hm; exact iX4_placeInRow_ok
  | 49, hq, hm => cases hq; cases hm; exact iX5_isKind_ok
  | 50, hq, hm => cases hq; cases hm; exact iX5_sourcesOf_ok
  | 51, hq, hm => cases hq; cases hm; exact iX5_isFull_ok
  | 52, hq, hm => cases hq; cases hm; exact iX5_isNode_ok
  | 53, hq, hm => cases hq; cases hm; exact iX5_isInput_ok
  | 54, hq, hm => cases hq; cases hm; exact iX5_isGate_ok
  | 55, hq, hm => cases hq; cases hm; exact iX5_isRegister_ok
  | 56, hq, hm => cases hq; cases hm; exact iX5_addInput_ok
  | 57, hq, hm => cases hq; cases hm; exact iX5_addRegister_ok
  | 58, hq, hm => cases hq; cases hm; exact iX5_addGate_ok
  | 59, hq, hm => cases hq; cases hm; exact iX5_setFeed_ok
  | 60, hq, hm => cases hq; cases hm; exact iX5_kindOf_ok
  | 61, hq, hm => cases hq; cases hm; exact iX5_feedOf_ok
  | 62, hq, hm => cases hq; cases hm; exact iX5_sourceOf_ok
  | 63, hq, hm => cases hq; cases hm; exact iX5_sourceOrFeed_ok
  | 64, hq, hm => cases hq; cases hm; exact iX5_roots_ok
  | 65, hq, hm => cases hq; cases hm; exact iX5_reached_ok
  | 66, hq, hm => cases hq; cases hm; exact iX5_separates_ok
  | 67, hq, hm => cases hq; cases hm; exact iX5_valueOf_ok
  | 68, hq, hm => cases hq; cases hm; exact iX6_clear_ok
  | 69, hq, hm => cases hq; cases hm; exact iX6_add_ok
  | 70, hq, hm => cases hq; cases hm; exact iX6_takeFirst_ok
  | 71, hq, hm => cases hq; cases hm; exact iX6_dropAllWith_ok
  | 72, hq, hm => cases hq; cases hm; exact iX7_setInput_ok
  | 73, hq, hm => cases hq; cases hm; exact iX7_now_ok
  | 74, hq, hm => cases hq; cases hm; exact iX7_changedBy_ok
  | 75, hq, hm => cases hq; cases hm; exact iX7_run_ok
  | 76, hq, hm => cases hq; cases hm; exact iX7_registersNext_ok
  | 77, hq, hm => cases hq; cases hm; exact iX7_nodesOn_ok
  | 78, hq, hm => cases hq; cases hm; exact iX8_nearestCut_ok
  | 79, hq, hm => cases hq; cases hm; exact iX8_findWay_ok
  | 80, hq, hm => cases hq; cases hm; exact iX8_seeUppers_ok
  | 81, hq, hm => cases hq; cases hm; exact iX8_seeLower_ok
  | 82, hq, hm => cases hq; cases hm; exact iX8_layWay_ok
  | 83, hq, hm => cases hq; cases hm; exact iX9_input_ok
  | 84, hq, hm => cases hq; cases hm; exact iX9_gate_ok
  | 85, hq, hm => cases hq; cases hm; exact iX9_register_ok
  | 86, hq, hm => cases hq; cases hm; exact iX9_feed_ok
  | 87, hq, hm => cases hq; cases hm; exact iX9_output_ok
  | 88, hq, hm => cases hq; cases hm; exact iX9_inputs_ok
  | 89, hq, hm => cases hq; cases hm; exact iX9_map_ok
  | 90, hq, hm => cases hq; cases hm; exact iX9_again_ok
  | 91, hq, hm => cases hq; cases hm; exact iX9_set_ok
  | 92, hq, hm => cases hq; cases hm; exact iX9_clock_ok
  | 93, hq, hm => cases hq; cases hm; exact iX9_node_ok
  | 94, hq, hm => cases hq; cases hm; exact iX9_near_ok
  | 95, hq, hm => cases hq; cases hm; exact iX9_cone_ok
  | 96, hq, hm => cases hq; cases hm; exact iX9_kept_ok
  | 97, hq, hm => cases hq; cases hm; exact iX9_isCut_ok
  | 98, hq, hm => cases hq; cases hm; exact iX9_depth_ok
  | 99, hq, hm => cases hq; cases hm; exact iX9_chosen_ok
  | 100, hq, hm => cases hq; cases hm; exact iX9_table_ok
  | 101, hq, hm => cases hq; cases hm; exact iX9_holds_ok
  | 102, hq, hm => cases hq; cases hm; exact iX9_mapped_ok
  | 103, hq, hm => cases hq; cases hm; exact iX9_cell_ok
  | 104, hq, hm => cases hq; cases hm; exact iX9_clusters_ok
  | 105, hq, hm => cases hq; cases hm; exact iX9_cluster_ok
  | 106, hq, hm => cases hq; cases hm; exact iX9_cross_ok
  | 107, hq, hm => cases hq; cases hm; exact iX9_is_ok
  | 108, hq, hm => cases hq; cases hm; exact iX9_comes_ok
  | 109, hq, hm => cases hq; cases hm; exact iX9_differs_ok
  | 110, hq, hm => cases hq; cases hm; exact iX9_slow_ok
  | 111, hq, hm => cases hq; cases hm; exact iX9_count_ok
  | 112, hq, hm => cases hq; cases hm; exact iX9_cutsOfK_ok
  | 113, hq, hm => cases hq; cases hm; exact iX9_followCover_ok
  | 114, hq, hm => cases hq; cases hm; exact iX9_bit_ok
  | 115, hq, hm => cases hq; cases hm; exact iX9_has_ok
  | 116, hq, hm => cases hq; cases hm; exact iX9_lowest_ok
  | 117, hq, hm => cases hq; cases hm; exact iX9_nthOf_ok
  | 118, hq, hm => cases hq; cases hm; exact iX10_thrown_ok
  | 119, hq, hm => cases hq; cases hm; exact iX10_within_ok
  | 120, hq, hm => cases hq; cases hm; exact iX10_has_ok
  | 121, hq, hm => cases hq; cases hm; exact iX10_manyOf_ok
  | 122, hq, hm => cases hq; cases hm; exact iX10_lowest_ok
  | 123, hq, hm => cases hq; cases hm; exact iX10_sourcesOf_ok
  | 124, hq, hm => cases hq; cases hm; exact iX10_isNode_ok
  | 125, hq, hm => cases hq; cases hm; exact iX10_isGate_ok
  | 126, hq, hm => cases hq; cases hm; exact iX10_isRegister_ok
  | 127, hq, hm => cases hq; cases hm; exact iX10_changes_ok
  | 128, hq, hm => cases hq; cases hm; exact iX10_adds_ok
  | 129, hq, hm => cases hq; cases hm; exact iX10_input_ok
  | 130, hq, hm => cases hq; cases hm; exact iX10_gate_ok
  | 131, hq, hm => cases hq; cases hm; exact iX10_register_ok
  | 132, hq, hm => cases hq; cases hm; exact iX10_feed_ok
  | 133, hq, hm => cases hq; cases hm; exact iX10_output_ok
  | 134, hq, hm => cases hq; cases hm; exact iX10_inputs_ok
  | 135, hq, hm => cases hq; cases hm; exact iX10_fed_ok
  | 136, hq, hm => cases hq; cases hm; exact iX10_roots_ok
  | 137, hq, hm => cases hq; cases hm; exact iX10_gates_ok
  | 138, hq, hm => cases hq; cases hm; exact iX10_comes_ok
  | 139, hq, hm => cases hq; cases hm; exact iX10_room_ok
  | 140, hq, hm => cases hq; cases hm; exact iX10_spreadsOut_ok
  | 141, hq, hm => cases hq; cases hm; exact iX10_spreadsIn_ok
  | 142, hq, hm => cases hq; cases hm; exact iX10_spreads_ok
  | 143, hq, hm => cases hq; cases hm; exact iX10_slotOf_ok
  | 144, hq, hm => cases hq; cases hm; exact iX10_flows_ok
  | 145, hq, hm => cases hq; cases hm; exact iX10_isCutOff_ok
  | 146, hq, hm => cases hq; cases hm; exact iX10_greatestIn_ok
  | 147, hq, hm => cases hq; cases hm; exact iX10_isAhead_ok
  | 148, hq, hm => cases hq; cases hm; exact iX10_makes_ok
  | 149, hq, hm => cases hq; cases hm; exact iX10_setOf_ok
  | 150, hq, hm => cases hq; cases hm; exact iX10_laysKept_ok
  | 151, hq, hm => cases hq; cases hm; exact iX10_puts_ok
  | 152, hq, hm => cases hq; cases hm; exact iX10_lays_ok
  | 153, hq, hm => cases hq; cases hm; exact iX10_coneOf_ok
  | 154, hq, hm => cases hq; cases hm; exact iX10_rootDepth_ok
  | 155, hq, hm => cases hq; cases hm; exact iX10_node_ok
  | 156, hq, hm => cases hq; cases hm; exact iX10_near_ok
  | 157, hq, hm => cases hq; cases hm; exact iX10_cone_ok
  | 158, hq, hm => cases hq; cases hm; exact iX10_kept_ok
  | 159, hq, hm => cases hq; cases hm; exact iX10_isCut_ok
  | 160, hq, hm => cases hq; cases hm; exact iX10_depth_ok
  | 161, hq, hm => cases hq; cases hm; exact iX10_laysTables_ok
  | 162, hq, hm => cases hq; cases hm; exact iX10_arrivalBy_ok
  | 163, hq, hm => cases hq; cases hm; exact iX10_laysArrival_ok
  | 164, hq, hm => cases hq; cases hm; exact iX10_looks_ok
  | 165, hq, hm => cases hq; cases hm; exact iX10_map_ok
  | 166, hq, hm => cases hq; cases hm; exact iX10_laysDue_ok
  | 167, hq, hm => cases hq; cases hm; exact iX10_tablesBy_ok
  | 168, hq, hm => cases hq; cases hm; exact iX10_choosesAgain_ok
  | 169, hq, hm => cases hq; cases hm; exact iX10_again_ok
  | 170, hq, hm => cases hq; cases hm; exact iX10_chosen_ok
  | 171, hq, hm => cases hq; cases hm; exact iX10_gateIs_ok
  | 172, hq, hm => cases hq; cases hm; exact iX10_works_ok
  | 173, hq, hm => cases hq; cases hm; exact iX10_fixes_ok
  | 174, hq, hm => cases hq; cases hm; exact iX10_holdsOf_ok
  | 175, hq, hm => cases hq; cases hm; exact iX10_holds_ok
  | 176, hq, hm => cases hq; cases hm; exact iX10_caresOf_ok
  | 177, hq, hm => cases hq; cases hm; exact iX10_has64_ok
  | 178, hq, hm => cases hq; cases hm; exact iX10_set_ok
  | 179, hq, hm => cases hq; cases hm; exact iX10_clock_ok
  | 180, hq, hm => cases hq; cases hm; exact iX10_is_ok
  | 181, hq, hm => cases hq; cases hm; exact iX10_comes__ok
  | 182, hq, hm => cases hq; cases hm; exact iX10_differs_ok
  | 183, hq, hm => cases hq; cases hm; exact iX10_isPair_ok
  | 184, hq, hm => cases hq; cases hm; exact iX10_laysPairs_ok
  | 185, hq, hm => cases hq; cases hm; exact iX10_usesOf_ok
  | 186, hq, hm => cases hq; cases hm; exact iX10_isPacked_ok
  | 187, hq, hm => cases hq; cases hm; exact iX10_newCell_ok
  | 188, hq, hm => cases hq; cases hm; exact iX10_packs_ok
  | 189, hq, hm => cases hq; cases hm; exact iX10_laysCells_ok
  | 190, hq, hm => cases hq; cases hm; exact iX10_mostPairs_ok
  | 191, hq, hm => cases hq; cases hm; exact iX10_table_ok
  | 192, hq, hm => cases hq; cases hm; exact iX10_slowest_ok
  | 193, hq, hm => cases hq; cases hm; exact iX10_mapped_ok
  | 194, hq, hm => cases hq; cases hm; exact iX10_cell_ok
  | 195, hq, hm => cases hq; cases hm; exact iX10_beginning_ok
  | 196, hq, hm => cases hq; cases hm; exact iX10_nextTo_ok
  | 197, hq, hm => cases hq; cases hm; exact iX10_joins_ok
  | 198, hq, hm => cases hq; cases hm; exact iX10_laysClusters_ok
  | 199, hq, hm => cases hq; cases hm; exact iX10_clusters_ok
  | 200, hq, hm => cases hq; cases hm; exact iX10_cluster_ok
  | 201, hq, hm => cases hq; cases hm; exact iX10_cross_ok
  | 202, hq, hm => cases hq; cases hm; exact iX10_slow_ok
  | 203, hq, hm => cases hq; cases hm; exact iX10_count_ok
  | 204, hq, hm => cases hq; cases hm; exact iJ13_bitCount_95d88_ok
  | k + 205, hq, hm => rw [List.getElem?_eq_none (by rw [sd_mtL]; omega)] at hq; cases hq
def sd_mlP : List (Bool × Nat) := [(true, 439), (true, 443), (true, 454), (true, 459), (true, 462), (true, 466), (true, 474), (true, 482), (true, 490), (true, 498), (true, 499), (true, 505), (true, 514), (true, 608), (true, 632), (true, 693), (true, 722), (true, 726), (true, 737), (true, 765), (true, 769), (true, 773), (true, 780), (true, 785), (true, 793), (true, 801), (true, 806), (true, 815), (true, 824), (true, 828), (true, 1033), (true, 853), (true, 854), (true, 872), (true, 880), (true, 883), (true, 915), (true, 923), (true, 928), (true, 939), (true, 947), (true, 518), (true, 636), (true, 640), (true, 685), (true, 788), (true, 644), (true, 652), (true, 657), (true, 669), (true, 650), (true, 858), (false, 0), (false, 1), (false, 2), (true, 661), (true, 665), (true, 673), (true, 677), (true, 681), (true, 861), (true, 864), (false, 3), (true, 888), (true, 894), (true, 903), (true, 898), (true, 893), (false, 4), (false, 5), (true, 837), (false, 6), (true, 832), (true, 847), (true, 932), (false, 7), (true, 844), (true, 845), (false, 8), (true, 613), (true, 622), (true, 627), (true, 697), (true, 698), (true, 699), (false, 9), (true, 706), (true, 710), (true, 951), (true, 617), (true, 714), (false, 10), (true, 523), (false, 11), (true, 534), (true, 538), (true, 562), (false, 12), (true, 566), (true, 570), (true, 574), (true, 578), (true, 586), (true, 590), (true, 595), (true, 599), (true, 594), (true, 582), (true, 486), (false, 13), (false, 14), (true, 777), (true, 778), (true, 779), (false, 15), (true, 810), (true, 603), (false, 16), (false, 17), (true, 749), (true, 741), (true, 760), (true, 745), (false, 18), (true, 759), (true, 753), (false, 19), (true, 544), (true, 558), (true, 548), (false, 20), (true, 553), (false, 21), (true, 963), (true, 435), (true, 1181), (true, 450), (true, 1193), (true, 470), (true, 1207), (true, 478), (true, 1211), (true, 494), (true, 1219), (true, 506), (true, 1229), (true, 510), (true, 1341), (true, 689), (true, 1365), (true, 718), (true, 1405), (true, 733), (true, 1409), (true, 761), (true, 1233), (true, 781), (true, 1309), (true, 789), (true, 1317), (true, 797), (true, 1325), (true, 802), (true, 1329), (true, 811), (true, 1333), (true, 816), (true, 1381), (true, 820), (true, 1428), (true, 1385), (true, 1177), (true, 849), (true, 1464), (true, 868), (true, 1476), (true, 876), (true, 1480), (true, 907), (true, 1500), (true, 911), (true, 1504), (true, 919), (true, 1413), (true, 924), (true, 1417), (true, 935), (true, 1424), (true, 943), (true, 1508), (true, 955), (true, 1512), (true, 1223), (true, 1200), (true, 1189), (true, 1185), (true, 1197), (true, 1204), (true, 1215), (true, 1226), (true, 1305), (true, 1249), (true, 1261), (true, 1253), (true, 1257), (true, 1269), (true, 1245), (true, 1265), (true, 1294), (true, 1298), (true, 1277), (true, 1281), (true, 1286), (true, 1290), (true, 1241), (true, 1273), (true, 1301), (true, 1237), (true, 1313), (true, 1321), (true, 1337), (true, 1353), (true, 1361), (true, 1349), (true, 1357), (true, 1345), (true, 1377), (true, 1369), (true, 1373), (true, 1401), (true, 1393), (true, 1397), (true, 1389), (true, 1421), (true, 1440), (true, 1452), (true, 1436), (true, 1444), (true, 1448), (true, 1456), (true, 1432), (true, 1460), (true, 1468), (true, 1472), (true, 1488), (true, 1492), (true, 1496), (true, 1484)]
def sd_hosts : List String := ["TableMapper", "TableMapper", "TableMapper", "TableMapper", "TableMapper", "TableMapper", "TableMapper", "TableMapper", "TableMapper", "TableMapper", "TableMapper", "TableMapper", "TableMapper", "TableMapper", "TableMapper", "TableMapper", "TableMapper", "TableMapper", "TableMapper", "TableMapper", "TableMapper", "TableMapper"]
def sd_mlQ (q : Nat × Nat × (Nat × Nat × Nat)) (z : Bool × Nat) : Bool := match sd_mt[q.2.2.1]? with
  | some m => if z.1 then decide (lw_tbl[z.2]? = some (.methodLink (sd_own q.1) q.2.1 m.1)) else decide (sd_nest[z.2]? = some (.methodLinkNest (sd_own q.1) q.2.1 m.1 (sd_hosts.getD z.2 "")))
  | none => false
def sd_mlX : List ((Nat × Nat × (Nat × Nat × Nat)) × (Bool × Nat)) := [((9, 80, (51, 1, 6)), (true, 439)), ((9, 84, (56, 1, 6)), (true, 443)), ((9, 88, (49, 1, 0)), (true, 454)), ((9, 92, (50, 1, 0)), (true, 459)), ((9, 96, (52, 2, 6)), (true, 462)), ((9, 99, (58, 5, 6)), (true, 466)), ((9, 103, (57, 1, 6)), (true, 474)), ((9, 106, (55, 2, 6)), (true, 482)), ((9, 109, (59, 3, 6)), (true, 490)), ((9, 117, (115, 2, 0)), (true, 498)), ((9, 121, (204, 1, 0)), (true, 499)), ((9, 127, (114, 1, 0)), (true, 505)), ((9, 131, (112, 1, 10)), (true, 514)), ((9, 135, (28, 2, 4)), (true, 608)), ((9, 139, (113, 1, 10)), (true, 632)), ((9, 145, (29, 3, 4)), (true, 693)), ((9, 149, (53, 2, 6)), (true, 722)), ((9, 152, (72, 3, 8)), (true, 726)), ((9, 156, (75, 2, 8)), (true, 737)), ((9, 159, (54, 2, 6)), (true, 765)), ((9, 162, (60, 2, 6)), (true, 769)), ((9, 165, (63, 3, 6)), (true, 773)), ((9, 173, (64, 1, 6)), (true, 780)), ((9, 184, (117, 2, 0)), (true, 785)), ((9, 188, (65, 3, 6)), (true, 793)), ((9, 192, (41, 3, 5)), (true, 801)), ((9, 196, (66, 3, 6)), (true, 806)), ((9, 200, (40, 2, 5)), (true, 815)), ((9, 209, (31, 2, 4)), (true, 824)), ((9, 218, (24, 2, 3)), (true, 828)), ((9, 228, (23, 2, 3)), (true, 1033)), ((9, 231, (30, 2, 4)), (true, 853)), ((9, 237, (3, 1, 1)), (true, 854)), ((9, 246, (0, 2, 1)), (true, 872)), ((9, 258, (15, 2, 0)), (true, 880)), ((9, 262, (17, 3, 2)), (true, 883)), ((9, 269, (18, 1, 2)), (true, 915)), ((9, 272, (73, 1, 8)), (true, 923)), ((9, 278, (25, 3, 3)), (true, 928)), ((9, 282, (74, 2, 8)), (true, 939)), ((9, 285, (32, 2, 4)), (true, 947)), ((9, 301, (39, 2, 5)), (true, 518)), ((9, 305, (22, 1, 3)), (true, 636)), ((9, 308, (2, 2, 1)), (true, 640)), ((9, 311, (16, 1, 2)), (true, 685)), ((9, 312, (116, 1, 0)), (true, 788)), ((0, 43, (4, 2, 1)), (true, 644)), ((0, 47, (5, 1, 1)), (true, 652)), ((0, 50, (6, 1, 1)), (true, 657)), ((0, 53, (9, 1, 1)), (true, 669)), ((0, 62, (204, 1, 0)), (true, 650)), ((0, 68, (12, 3, 0)), (true, 858)), ((0, 75, (116, 1, 0)), (false, 0)), ((0, 81, (115, 2, 0)), (false, 1)), ((0, 85, (114, 1, 0)), (false, 2)), ((0, 94, (7, 4, 1)), (true, 661)), ((0, 98, (8, 3, 1)), (true, 665)), ((0, 108, (10, 1, 1)), (true, 673)), ((0, 112, (11, 1, 1)), (true, 677)), ((0, 118, (61, 2, 6)), (true, 681)), ((0, 122, (13, 2, 0)), (true, 861)), ((0, 126, (14, 2, 0)), (true, 864)), ((1, 31, (114, 1, 0)), (false, 3)), ((1, 46, (20, 1, 2)), (true, 888)), ((1, 50, (19, 2, 2)), (true, 894)), ((1, 54, (21, 2, 2)), (true, 903)), ((1, 58, (1, 2, 1)), (true, 898)), ((1, 63, (204, 1, 0)), (true, 893)), ((1, 71, (116, 1, 0)), (false, 4)), ((2, 30, (115, 2, 0)), (false, 5)), ((2, 34, (27, 2, 3)), (true, 837)), ((2, 38, (114, 1, 0)), (false, 6)), ((2, 41, (23, 2, 3)), (true, 832)), ((2, 49, (204, 1, 0)), (true, 847)), ((2, 65, (26, 2, 0)), (true, 932)), ((2, 69, (116, 1, 0)), (false, 7)), ((2, 72, (65, 3, 6)), (true, 844)), ((2, 76, (67, 3, 6)), (true, 845)), ((3, 32, (116, 1, 0)), (false, 8)), ((3, 41, (34, 2, 4)), (true, 613)), ((3, 44, (64, 1, 6)), (true, 622)), ((3, 52, (35, 4, 4)), (true, 627)), ((3, 59, (204, 1, 0)), (true, 697)), ((3, 64, (40, 2, 5)), (true, 698)), ((3, 67, (37, 3, 4)), (true, 699)), ((3, 71, (115, 2, 0)), (false, 9)), ((3, 75, (38, 4, 4)), (true, 706)), ((3, 79, (36, 4, 4)), (true, 710)), ((3, 89, (33, 2, 4)), (true, 951)), ((3, 92, (30, 2, 4)), (true, 617)), ((3, 98, (41, 3, 5)), (true, 714)), ((4, 50, (115, 2, 0)), (false, 10)), ((4, 57, (40, 2, 5)), (true, 523)), ((4, 61, (114, 1, 0)), (false, 11)), ((4, 65, (42, 3, 5)), (true, 534)), ((4, 69, (78, 3, 9)), (true, 538)), ((4, 75, (43, 2, 5)), (true, 562)), ((4, 79, (116, 1, 0)), (false, 12)), ((4, 91, (68, 1, 7)), (true, 566)), ((4, 96, (48, 2, 5)), (true, 570)), ((4, 100, (69, 3, 7)), (true, 574)), ((4, 104, (46, 3, 5)), (true, 578)), ((4, 107, (47, 4, 5)), (true, 586)), ((4, 111, (45, 3, 5)), (true, 590)), ((4, 115, (44, 2, 5)), (true, 595)), ((4, 118, (70, 1, 7)), (true, 599)), ((4, 122, (204, 1, 0)), (true, 594)), ((4, 127, (62, 3, 6)), (true, 582)), ((5, 35, (52, 2, 6)), (true, 486)), ((5, 43, (115, 2, 0)), (false, 13)), ((5, 53, (114, 1, 0)), (false, 14)), ((5, 57, (54, 2, 6)), (true, 777)), ((5, 60, (62, 3, 6)), (true, 778)), ((5, 64, (55, 2, 6)), (true, 779)), ((5, 70, (116, 1, 0)), (false, 15)), ((5, 76, (65, 3, 6)), (true, 810)), ((6, 22, (71, 2, 7)), (true, 603)), ((7, 23, (115, 2, 0)), (false, 16)), ((7, 27, (114, 1, 0)), (false, 17)), ((7, 33, (77, 2, 8)), (true, 749)), ((7, 42, (76, 1, 8)), (true, 741)), ((7, 46, (204, 1, 0)), (true, 760)), ((7, 52, (73, 1, 8)), (true, 745)), ((7, 58, (116, 1, 0)), (false, 18)), ((7, 61, (61, 2, 6)), (true, 759)), ((7, 72, (67, 3, 6)), (true, 753)), ((8, 31, (116, 1, 0)), (false, 19)), ((8, 41, (79, 2, 9)), (true, 544)), ((8, 50, (82, 2, 9)), (true, 558)), ((8, 58, (80, 3, 9)), (true, 548)), ((8, 62, (115, 2, 0)), (false, 20)), ((8, 66, (81, 3, 9)), (true, 553)), ((8, 73, (114, 1, 0)), (false, 21)), ((11, 7, (101, 2, 10)), (true, 963)), ((11, 19, (83, 1, 10)), (true, 435)), ((11, 23, (129, 1, 11)), (true, 1181)), ((11, 24, (84, 5, 10)), (true, 450)), ((11, 28, (130, 5, 11)), (true, 1193)), ((11, 29, (85, 1, 10)), (true, 470)), ((11, 32, (131, 1, 11)), (true, 1207)), ((11, 33, (86, 3, 10)), (true, 478)), ((11, 37, (132, 3, 11)), (true, 1211)), ((11, 38, (87, 2, 10)), (true, 494)), ((11, 42, (133, 2, 11)), (true, 1219)), ((11, 43, (88, 2, 10)), (true, 506)), ((11, 46, (134, 2, 11)), (true, 1229)), ((11, 47, (89, 1, 10)), (true, 510)), ((11, 50, (165, 1, 11)), (true, 1341)), ((11, 51, (90, 2, 10)), (true, 689)), ((11, 54, (169, 2, 11)), (true, 1365)), ((11, 55, (91, 3, 10)), (true, 718)), ((11, 59, (178, 3, 11)), (true, 1405)), ((11, 60, (92, 2, 10)), (true, 733)), ((11, 63, (179, 2, 11)), (true, 1409)), ((11, 64, (93, 3, 10)), (true, 761)), ((11, 68, (155, 3, 11)), (true, 1233)), ((11, 69, (94, 3, 10)), (true, 781)), ((11, 72, (156, 3, 11)), (true, 1309)), ((11, 73, (95, 2, 10)), (true, 789)), ((11, 76, (157, 2, 11)), (true, 1317)), ((11, 77, (96, 3, 10)), (true, 797)), ((11, 81, (158, 3, 11)), (true, 1325)), ((11, 84, (97, 3, 10)), (true, 802)), ((11, 88, (159, 3, 11)), (true, 1329)), ((11, 89, (98, 1, 10)), (true, 811)), ((11, 92, (160, 1, 11)), (true, 1333)), ((11, 93, (99, 2, 10)), (true, 816)), ((11, 96, (170, 2, 11)), (true, 1381)), ((11, 97, (100, 3, 10)), (true, 820)), ((11, 100, (191, 3, 11)), (true, 1428)), ((11, 106, (175, 2, 11)), (true, 1385)), ((11, 107, (118, 1, 11)), (true, 1177)), ((11, 110, (102, 2, 10)), (true, 849)), ((11, 113, (193, 2, 11)), (true, 1464)), ((11, 114, (103, 3, 10)), (true, 868)), ((11, 117, (194, 3, 11)), (true, 1476)), ((11, 118, (104, 3, 10)), (true, 876)), ((11, 121, (199, 3, 11)), (true, 1480)), ((11, 122, (105, 4, 10)), (true, 907)), ((11, 126, (200, 4, 11)), (true, 1500)), ((11, 127, (106, 3, 10)), (true, 911)), ((11, 130, (201, 3, 11)), (true, 1504)), ((11, 131, (107, 2, 10)), (true, 919)), ((11, 134, (180, 2, 11)), (true, 1413)), ((11, 135, (108, 2, 10)), (true, 924)), ((11, 138, (181, 2, 11)), (true, 1417)), ((11, 139, (109, 3, 10)), (true, 935)), ((11, 142, (182, 3, 11)), (true, 1424)), ((11, 143, (110, 2, 10)), (true, 943)), ((11, 146, (202, 2, 11)), (true, 1508)), ((11, 147, (111, 2, 10)), (true, 955)), ((11, 150, (203, 2, 11)), (true, 1512)), ((10, 115, (120, 2, 0)), (true, 1223)), ((10, 122, (124, 2, 11)), (true, 1200)), ((10, 133, (127, 1, 11)), (true, 1189)), ((10, 136, (128, 2, 11)), (true, 1185)), ((10, 140, (119, 3, 0)), (true, 1197)), ((10, 144, (123, 1, 0)), (true, 1204)), ((10, 147, (126, 2, 11)), (true, 1215)), ((10, 154, (121, 1, 0)), (true, 1226)), ((10, 158, (135, 1, 11)), (true, 1305)), ((10, 165, (138, 3, 11)), (true, 1249)), ((10, 169, (139, 3, 11)), (true, 1261)), ((10, 173, (140, 2, 11)), (true, 1253)), ((10, 177, (141, 4, 11)), (true, 1257)), ((10, 181, (143, 4, 11)), (true, 1269)), ((10, 185, (142, 3, 11)), (true, 1245)), ((10, 188, (144, 2, 11)), (true, 1265)), ((10, 191, (146, 2, 11)), (true, 1294)), ((10, 194, (122, 1, 0)), (true, 1298)), ((10, 200, (148, 2, 11)), (true, 1277)), ((10, 204, (149, 3, 11)), (true, 1281)), ((10, 210, (151, 4, 11)), (true, 1286)), ((10, 214, (147, 3, 11)), (true, 1290)), ((10, 218, (145, 3, 11)), (true, 1241)), ((10, 222, (150, 2, 11)), (true, 1273)), ((10, 225, (136, 1, 11)), (true, 1301)), ((10, 228, (152, 1, 11)), (true, 1237)), ((10, 231, (125, 2, 11)), (true, 1313)), ((10, 234, (153, 3, 11)), (true, 1321)), ((10, 238, (154, 1, 11)), (true, 1337)), ((10, 242, (137, 1, 11)), (true, 1353)), ((10, 248, (162, 2, 11)), (true, 1361)), ((10, 251, (161, 1, 11)), (true, 1349)), ((10, 254, (163, 1, 11)), (true, 1357)), ((10, 257, (164, 1, 11)), (true, 1345)), ((10, 260, (167, 3, 11)), (true, 1377)), ((10, 264, (166, 2, 11)), (true, 1369)), ((10, 267, (168, 2, 11)), (true, 1373)), ((10, 270, (171, 2, 11)), (true, 1401)), ((10, 273, (173, 3, 11)), (true, 1393)), ((10, 277, (172, 2, 11)), (true, 1397)), ((10, 280, (174, 2, 11)), (true, 1389)), ((10, 284, (177, 2, 0)), (true, 1421)), ((10, 290, (183, 3, 11)), (true, 1440)), ((10, 293, (185, 2, 11)), (true, 1452)), ((10, 302, (184, 1, 11)), (true, 1436)), ((10, 305, (187, 4, 11)), (true, 1444)), ((10, 309, (186, 2, 11)), (true, 1448)), ((10, 312, (188, 2, 11)), (true, 1456)), ((10, 315, (189, 1, 11)), (true, 1432)), ((10, 318, (176, 2, 11)), (true, 1460)), ((10, 321, (192, 1, 11)), (true, 1468)), ((10, 324, (190, 1, 11)), (true, 1472)), ((10, 330, (195, 1, 11)), (true, 1488)), ((10, 333, (197, 2, 11)), (true, 1492)), ((10, 336, (196, 2, 11)), (true, 1496)), ((10, 339, (198, 3, 11)), (true, 1484))]
theorem sd_mlX1 : sd_mlX.map Prod.fst = jm_ml := by decide +kernel
set_option maxRecDepth 100000 in
theorem sd_ml1 : sd_mlX.all (fun q => sd_mlQ q.1 q.2) = true := by decide +kernel
theorem sd_ml1L : jm_ml.length = sd_mlP.length := by decide +kernel
def sd_stat : List Bool := [false, false, false, false, false, false, false, false, false, false, false, false, true, true, true, true, false, false, false, false, false, false, false, false, false, false, true, false, false, false, false, false, false, false, false, false, false, false, false, false, false, false, false, false, false, false, false, false, false, true, true, false, false, false, false, false, false, false, false, false, false, false, false, false, false, false, false, false, false, false, false, false, false, false, false, false, false, false, false, false, false, false, false, false, false, false, false, false, false, false, false, false, false, false, false, false, false, false, false, false, false, false, false, false, false, false, false, false, false, false, false, false, false, false, true, true, true, true, false, true, true, true, true, true, false, false, false, false, false, false, false, false, false, false, false, false, false, false, false, false, false, false, false, false, false, false, false, false, false, false, false, false, false, false, false, false, false, false, false, false, false, false, false, false, false, false, false, false, false, false, false, false, false, false, false, false, false, true, false, false, false, false, false, false, false, false, false, false, false, false, false, false, false, false, false, false, false, false, false, false, false, false, false, false, true]
def sd_mw (k : Nat) (m : MethodName × ByteArray × Nat × Option FieldType) : List Cond := match sd_stat.getD k true with
  | true => [.initialized m.1.cls, .static m.1]
  | false => [.initialized m.1.cls, .instanceMethod m.1, .selects m.1.cls m.1 m.1]
def sd_mwP : List (List Nat) := [[94, 873, 874], [94, 899, 900], [94, 641, 642], [94, 855, 856], [94, 646, 16], [94, 654, 17], [94, 659, 18], [94, 663, 19], [94, 667, 20], [94, 671, 21], [94, 675, 22], [94, 679, 23], [94, 859], [94, 862], [94, 865], [95, 881], [95, 686, 687], [95, 884, 885], [95, 916, 917], [95, 896, 31], [95, 890, 30], [95, 905, 32], [93, 637, 638], [93, 833, 834], [93, 829, 830], [93, 929, 930], [93, 933], [93, 839, 29], [92, 609, 610], [92, 694, 695], [92, 618, 619], [92, 825, 826], [92, 948, 949], [92, 953, 33], [92, 615, 13], [92, 629, 14], [92, 712, 26], [92, 701, 24], [92, 708, 25], [91, 519, 520], [91, 524, 525], [91, 715, 716], [91, 536, 1], [91, 564, 6], [91, 597, 11], [91, 592, 10], [91, 580, 8], [91, 588, 9], [91, 572, 7], [87, 455], [87, 460], [87, 440, 441], [87, 463, 464], [87, 723, 724], [87, 766, 767], [87, 483, 484], [87, 444, 445], [87, 475, 476], [87, 467, 468], [87, 491, 492], [87, 770, 771], [87, 682, 683], [87, 583, 584], [87, 774, 775], [87, 623, 624], [87, 794, 795], [87, 807, 808], [87, 754, 755], [90, 567, 568], [90, 575, 576], [90, 600, 601], [90, 605, 12], [88, 727, 728], [88, 746, 747], [88, 940, 941], [88, 738, 739], [88, 743, 27], [88, 751, 28], [89, 539, 540], [89, 546, 2], [89, 550, 3], [89, 555, 4], [89, 560, 5], [86, 436, 437], [86, 451, 452], [86, 471, 472], [86, 479, 480], [86, 495, 496], [86, 507, 508], [86, 511, 512], [86, 690, 691], [86, 719, 720], [86, 734, 735], [86, 762, 763], [86, 782, 783], [86, 790, 791], [86, 798, 799], [86, 803, 804], [86, 812, 813], [86, 817, 818], [86, 821, 822], [86, 964, 965], [86, 850, 851], [86, 869, 870], [86, 877, 878], [86, 908, 909], [86, 912, 913], [86, 920, 921], [86, 925, 926], [86, 936, 937], [86, 944, 945], [86, 956, 957], [86, 516, 0], [86, 634, 15], [86, 448], [86, 488], [86, 528], [86, 786], [96, 1178, 1179], [96, 1198], [96, 1224], [96, 1227], [96, 1299], [96, 1205], [96, 1202, 37], [96, 1315, 56], [96, 1217, 38], [96, 1191, 36], [96, 1187, 35], [96, 1182, 1183], [96, 1194, 1195], [96, 1208, 1209], [96, 1212, 1213], [96, 1220, 1221], [96, 1230, 1231], [96, 1307, 55], [96, 1303, 54], [96, 1355, 61], [96, 1251, 42], [96, 1263, 45], [96, 1255, 43], [96, 1259, 44], [96, 1247, 41], [96, 1271, 47], [96, 1267, 46], [96, 1243, 40], [96, 1296, 53], [96, 1292, 52], [96, 1279, 49], [96, 1283, 50], [96, 1275, 48], [96, 1288, 51], [96, 1239, 39], [96, 1323, 57], [96, 1339, 58], [96, 1234, 1235], [96, 1310, 1311], [96, 1318, 1319], [96, 1326, 1327], [96, 1330, 1331], [96, 1334, 1335], [96, 1351, 60], [96, 1363, 63], [96, 1359, 62], [96, 1347, 59], [96, 1342, 1343], [96, 1371, 64], [96, 1379, 66], [96, 1375, 65], [96, 1366, 1367], [96, 1382, 1383], [96, 1403, 70], [96, 1399, 69], [96, 1395, 68], [96, 1391, 67], [96, 1386, 1387], [96, 1462, 78], [96, 1422], [96, 1406, 1407], [96, 1410, 1411], [96, 1414, 1415], [96, 1418, 1419], [96, 1425, 1426], [96, 1442, 73], [96, 1438, 72], [96, 1454, 76], [96, 1450, 75], [96, 1446, 74], [96, 1458, 77], [96, 1434, 71], [96, 1474, 80], [96, 1429, 1430], [96, 1470, 79], [96, 1465, 1466], [96, 1477, 1478], [96, 1490, 82], [96, 1498, 84], [96, 1494, 83], [96, 1486, 81], [96, 1481, 1482], [96, 1501, 1502], [96, 1505, 1506], [96, 1509, 1510], [96, 1513, 1514], [97, 500]]
set_option maxRecDepth 100000 in
theorem sd_mw1 : (sd_mt.zipIdx.zip sd_mwP).all (fun q => decide ((sd_mw q.1.2 q.1.1).map some = q.2.map (fun i => lw_tbl[i]?)) && (sd_mw q.1.2 q.1.1).all goodWord) = true := by decide +kernel
theorem sd_mwL : sd_mt.length = sd_mwP.length ∧ sd_mt.length = jm_mt.length ∧ sd_mt.length = sd_stat.length := by decide +kernel
def sd_mkQ (q : (MethodName × ByteArray × Nat × Option FieldType) × (Nat × Nat × Nat × List (Nat × Instr × Nat))) : Bool := decide (q.1.2.2.1 = q.2.2.2.1) && decide (q.1.1.cls = sd_own q.2.1) && plainName q.1.1.cls && decide (q.1.1.cls ≠ "java/lang/invoke/MethodHandle") && decide (q.1.1.cls ≠ "java/lang/invoke/VarHandle") && (match q.2.2.1 with | 0 => decide (q.1.2.2.2 = none) | 1 => decide (q.1.2.2.2 = some .int) | 2 => decide (q.1.2.2.2 = some .long) | 3 => decide (q.1.2.2.2 = some .boolean) | 4 => (match q.1.2.2.2 with | some (.object _) => true | _ => false) | _ => false) && decide (q.1.2.2.1 ≤ 60)
set_option maxRecDepth 100000 in
theorem sd_mk1 : (sd_mt.zip jm_mt).all sd_mkQ = true := by decide +kernel
def sd_caC (cx : Nat) (cl : String) : Bool := match cx with
  | 0 => false
  | c + 1 => match vwCl[c]? with
    | some r => decide (r.1 = cl)
    | none => false
def sd_caQ (q : Nat × Nat × (Nat × Nat × Nat)) : Bool := match sd_mt[q.2.2.1]? with
  | some m => match sd_stat.getD q.2.2.1 true with
    | true => decide (q.2.2.2.2 = 0) && decide ((parseMethodDescriptor m.1.desc).map (fun d => d.parameters.length) = some q.2.2.2.1)
    | false => decide (0 < q.2.2.2.1) && decide ((parseMethodDescriptor m.1.desc).map (fun d => d.parameters.length) = some (q.2.2.2.1 - 1)) && sd_caC q.2.2.2.2 m.1.cls
  | none => false
set_option maxRecDepth 100000 in
theorem sd_ca1 : jm_ml.all sd_caQ = true := by decide +kernel
def sd_kty (w : Nat) : FieldType := match w with | 0 => .int | 1 => .long | 2 => .boolean | _ => .int
def sd_shQ (h : jm_H) : Bool := match h.2 with
  | .inl (ci, fs) => match vwCl[ci]? with
    | some r => decide (fs.length = r.2.2) && (List.range r.2.2).all (fun k => match jm_nth fs k with | some (.inl w) => decide (w < 5) && (decide (w = 4) || !(r.2.1 k).2.2.2) && decide (parseFieldDescriptor (r.2.1 k).2.2.1 = some (sd_kty w)) | _ => true)
    | none => false
  | .inr (_, w) => decide (w < 4)
set_option maxRecDepth 100000 in
theorem sd_sh1 : jm_sh.all sd_shQ = true := by decide +kernel
def sd_rfQ (q : Nat × Nat) : Bool := match jm_nth jm_sh q.1 with
  | some (c, .inl (_, fs)) => decide (q.2 < c) && fs.all (fun f => match f with | .inr (t, b) => sd_cells.contains (t, jm_pick b q.2) | _ => true)
  | some (c, _) => decide (q.2 < c)
  | none => false
set_option maxRecDepth 100000 in
theorem sd_rf1 : sd_cells.all sd_rfQ = true := by decide +kernel
theorem sd_17 : ∀ j, j < 4 → (17, j) ∈ sd_cells := by decide +kernel
