-- written by wip/gen/gen.py: kinds of cells, what pool numbers mean, the methods by number
def jm_sh : List jm_H := [(1, .inl (9, [.inr (2, false), .inr (8, false), .inr (1, false), .inr (22, false), .inr (26, false), .inr (29, false), .inr (36, false), .inl 0, .inl 2])),
  (1, .inr (4, 3)),
  (1, .inl (5, [.inr (3, false), .inr (4, false), .inr (5, false), .inr (6, false), .inr (7, false), .inl 1, .inl 1, .inl 1, .inl 1, .inl 0])),
  (1, .inr (40, 0)),
  (1, .inr (120, 0)),
  (1, .inr (40, 0)),
  (1, .inr (40, 1)),
  (1, .inr (40, 1)),
  (1, .inl (7, [.inr (2, false), .inr (9, false), .inl 1])),
  (1, .inr (40, 1)),
  (1, .inl (8, [.inr (11, false), .inr (12, false), .inr (13, false), .inr (2, false), .inl 1, .inl 1, .inl 1, .inl 0])),
  (1, .inr (80, 0)),
  (1, .inr (80, 0)),
  (1, .inr (40, 0)),
  (1, .inl (6, [.inr (15, false), .inr (16, false), .inl 0])),
  (1, .inr (730, 1)),
  (1, .inr (730, 1)),
  (4, .inl (4, [.inr (2, false), .inr (10, false), .inr (14, false), .inl 4, .inr (18, true), .inr (19, true), .inr (20, true), .inr (21, true), .inl 0])),
  (4, .inr (40, 0)),
  (4, .inr (40, 1)),
  (4, .inr (320, 1)),
  (4, .inr (40, 0)),
  (1, .inl (3, [.inr (2, false), .inr (23, false), .inr (24, false), .inr (25, false), .inl 1])),
  (1, .inr (40, 0)),
  (1, .inr (40, 1)),
  (1, .inr (40, 0)),
  (1, .inl (2, [.inr (2, false), .inr (22, false), .inr (27, false), .inr (28, false), .inl 1])),
  (1, .inr (40, 1)),
  (1, .inr (40, 1)),
  (1, .inl (0, [.inr (2, false), .inr (22, false), .inr (30, false), .inr (31, false), .inr (32, false), .inr (33, false), .inr (34, false), .inr (35, false), .inl 1, .inl 0, .inl 0])),
  (1, .inr (40, 1)),
  (1, .inr (40, 0)),
  (1, .inr (40, 0)),
  (1, .inr (40, 1)),
  (1, .inr (40, 1)),
  (1, .inr (40, 1)),
  (1, .inl (1, [.inr (29, false), .inr (37, false), .inl 0, .inl 0, .inl 0, .inl 1, .inl 1, .inl 1])),
  (1, .inr (40, 0)),
  (1, .inl (10, [.inl 0, .inl 0, .inr (39, false), .inr (40, false), .inr (41, false), .inr (42, false), .inl 1, .inl 0, .inl 2, .inl 2, .inr (43, false), .inr (44, false), .inr (45, false), .inr (46, false), .inr (47, false), .inr (48, false), .inr (49, false), .inl 0, .inr (50, false), .inr (51, false), .inr (52, false), .inl 0, .inr (53, false), .inr (54, false), .inr (55, false), .inl 1, .inr (56, false), .inr (57, false), .inr (58, false), .inr (59, false), .inr (60, false), .inr (61, false), .inr (62, false), .inr (63, false), .inr (64, false), .inr (65, false), .inl 0, .inl 0, .inl 0, .inr (66, false), .inr (67, false), .inr (68, false), .inr (69, false), .inr (70, false), .inl 0])),
  (1, .inr (40, 0)),
  (1, .inr (40, 0)),
  (1, .inr (120, 0)),
  (1, .inr (40, 1)),
  (1, .inr (40, 2)),
  (1, .inr (40, 0)),
  (1, .inr (40, 1)),
  (1, .inr (40, 0)),
  (1, .inr (120, 0)),
  (1, .inr (80, 0)),
  (1, .inr (80, 0)),
  (1, .inr (320, 1)),
  (1, .inr (40, 0)),
  (1, .inr (800, 1)),
  (1, .inr (40, 1)),
  (1, .inr (40, 0)),
  (1, .inr (40, 0)),
  (1, .inr (40, 2)),
  (1, .inr (40, 2)),
  (1, .inr (40, 0)),
  (1, .inr (40, 0)),
  (1, .inr (40, 0)),
  (1, .inr (40, 0)),
  (1, .inr (40, 0)),
  (1, .inr (40, 0)),
  (1, .inr (40, 1)),
  (1, .inr (40, 1)),
  (1, .inr (16384, 0)),
  (1, .inr (14, 0)),
  (1, .inr (40, 0)),
  (1, .inr (40, 1)),
  (1, .inr (40, 1)),
  (1, .inr (1, 1))]
def jm_fl : List (Nat × Nat × (Nat × Nat)) := [(9, 10, (9, 0)), (9, 21, (9, 1)), (9, 33, (9, 2)), (9, 43, (9, 3)), (9, 52, (9, 4)), (9, 59, (9, 5)), (9, 68, (9, 6)), (9, 72, (9, 7)), (9, 76, (9, 8)), (9, 113, (5, 8)), (9, 142, (3, 4)), (9, 169, (4, 4)), (9, 177, (5, 4)), (9, 181, (4, 5)), (9, 203, (3, 2)), (9, 206, (3, 3)), (9, 212, (0, 3)), (9, 215, (0, 4)), (9, 234, (0, 9)), (9, 240, (0, 10)), (9, 243, (0, 8)), (9, 249, (0, 5)), (9, 252, (0, 6)), (9, 255, (0, 7)), (9, 265, (1, 2)), (9, 266, (1, 1)), (9, 275, (7, 2)), (9, 288, (5, 9)), (9, 289, (5, 5)), (9, 292, (5, 6)), (9, 295, (5, 7)), (9, 298, (4, 8)), (0, 9, (0, 2)), (0, 15, (0, 3)), (0, 19, (0, 4)), (0, 22, (0, 5)), (0, 25, (0, 6)), (0, 28, (0, 7)), (0, 31, (0, 0)), (0, 35, (0, 1)), (0, 39, (0, 10)), (0, 56, (3, 4)), (0, 72, (5, 9)), (0, 78, (3, 2)), (0, 89, (0, 9)), (0, 102, (0, 8)), (0, 105, (5, 8)), (0, 115, (5, 7)), (1, 9, (1, 1)), (1, 15, (1, 0)), (1, 19, (1, 3)), (1, 23, (1, 4)), (1, 26, (0, 10)), (1, 35, (1, 5)), (1, 39, (1, 2)), (1, 40, (1, 6)), (1, 43, (1, 7)), (1, 60, (0, 7)), (2, 9, (2, 2)), (2, 15, (2, 3)), (2, 18, (2, 0)), (2, 22, (2, 1)), (2, 26, (2, 4)), (2, 44, (3, 2)), (2, 60, (5, 6)), (3, 9, (3, 1)), (3, 15, (3, 2)), (3, 19, (3, 3)), (3, 22, (3, 0)), (3, 26, (5, 6)), (3, 36, (4, 5)), (3, 48, (5, 9)), (3, 56, (3, 4)), (4, 9, (4, 4)), (4, 15, (4, 5)), (4, 19, (4, 6)), (4, 22, (4, 7)), (4, 25, (4, 0)), (4, 29, (4, 1)), (4, 33, (4, 2)), (4, 37, (4, 3)), (4, 41, (4, 8)), (4, 44, (5, 6)), (4, 54, (5, 3)), (4, 88, (5, 4)), (5, 9, (5, 0)), (5, 15, (5, 1)), (5, 18, (5, 2)), (5, 21, (5, 3)), (5, 25, (5, 4)), (5, 31, (5, 9)), (5, 39, (5, 5)), (5, 47, (5, 6)), (5, 50, (5, 7)), (5, 67, (5, 8)), (6, 11, (6, 0)), (6, 15, (6, 1)), (6, 18, (6, 2)), (7, 9, (7, 1)), (7, 15, (7, 0)), (7, 19, (7, 2)), (7, 37, (5, 5)), (7, 55, (5, 7)), (7, 65, (5, 9)), (7, 69, (5, 6)), (8, 9, (8, 0)), (8, 15, (8, 1)), (8, 18, (8, 2)), (8, 21, (8, 3)), (8, 25, (5, 3)), (8, 37, (8, 4)), (8, 44, (8, 5)), (8, 47, (8, 6)), (8, 54, (8, 7)), (8, 70, (5, 6)), (10, 7, (10, 2)), (10, 13, (10, 3)), (10, 16, (10, 4)), (10, 19, (10, 5)), (10, 23, (10, 7)), (10, 27, (10, 10)), (10, 31, (10, 11)), (10, 34, (10, 12)), (10, 37, (10, 13)), (10, 40, (10, 14)), (10, 43, (10, 15)), (10, 46, (10, 16)), (10, 49, (10, 18)), (10, 52, (10, 19)), (10, 55, (10, 20)), (10, 58, (10, 22)), (10, 61, (10, 23)), (10, 64, (10, 24)), (10, 67, (10, 26)), (10, 70, (10, 27)), (10, 73, (10, 28)), (10, 76, (10, 29)), (10, 79, (10, 30)), (10, 82, (10, 31)), (10, 85, (10, 32)), (10, 88, (10, 33)), (10, 91, (10, 34)), (10, 94, (10, 35)), (10, 97, (10, 39)), (10, 100, (10, 40)), (10, 103, (10, 41)), (10, 106, (10, 42)), (10, 109, (10, 43)), (10, 112, (10, 0)), (10, 119, (10, 1)), (10, 126, (10, 8)), (10, 130, (10, 9)), (10, 150, (10, 6)), (10, 162, (10, 17)), (10, 197, (10, 21)), (10, 245, (10, 25)), (10, 287, (10, 38)), (10, 296, (10, 36)), (10, 299, (10, 37)), (10, 327, (10, 44))]
def jm_gs : List (Nat × Nat × Nat) := [(2, 55, 101), (5, 28, 100)]
def jm_lc : List (Nat × Nat × Int64) := [(0, 92, -1), (1, 69, -1), (2, 58, -1), (5, 74, -1), (6, 26, -1), (7, 31, -1), (8, 35, -1), (11, 82, 4294967295), (10, 208, -1), (12, 314, 6148914691236517205), (12, 316, 3689348814741910323), (12, 318, 1085102592571150095)]
def jm_ml : List (Nat × Nat × (Nat × Nat × Nat)) := [(9, 80, (51, 1, 6)), (9, 84, (56, 1, 6)), (9, 88, (49, 1, 0)), (9, 92, (50, 1, 0)), (9, 96, (52, 2, 6)), (9, 99, (58, 5, 6)), (9, 103, (57, 1, 6)), (9, 106, (55, 2, 6)), (9, 109, (59, 3, 6)), (9, 117, (115, 2, 0)), (9, 121, (204, 1, 0)), (9, 127, (114, 1, 0)), (9, 131, (112, 1, 10)), (9, 135, (28, 2, 4)), (9, 139, (113, 1, 10)), (9, 145, (29, 3, 4)), (9, 149, (53, 2, 6)), (9, 152, (72, 3, 8)), (9, 156, (75, 2, 8)), (9, 159, (54, 2, 6)), (9, 162, (60, 2, 6)), (9, 165, (63, 3, 6)), (9, 173, (64, 1, 6)), (9, 184, (117, 2, 0)), (9, 188, (65, 3, 6)), (9, 192, (41, 3, 5)), (9, 196, (66, 3, 6)), (9, 200, (40, 2, 5)), (9, 209, (31, 2, 4)), (9, 218, (24, 2, 3)), (9, 228, (23, 2, 3)), (9, 231, (30, 2, 4)), (9, 237, (3, 1, 1)), (9, 246, (0, 2, 1)), (9, 258, (15, 2, 0)), (9, 262, (17, 3, 2)), (9, 269, (18, 1, 2)), (9, 272, (73, 1, 8)), (9, 278, (25, 3, 3)), (9, 282, (74, 2, 8)), (9, 285, (32, 2, 4)), (9, 301, (39, 2, 5)), (9, 305, (22, 1, 3)), (9, 308, (2, 2, 1)), (9, 311, (16, 1, 2)), (9, 312, (116, 1, 0)), (0, 43, (4, 2, 1)), (0, 47, (5, 1, 1)), (0, 50, (6, 1, 1)), (0, 53, (9, 1, 1)), (0, 62, (204, 1, 0)), (0, 68, (12, 3, 0)), (0, 75, (116, 1, 0)), (0, 81, (115, 2, 0)), (0, 85, (114, 1, 0)), (0, 94, (7, 4, 1)), (0, 98, (8, 3, 1)), (0, 108, (10, 1, 1)), (0, 112, (11, 1, 1)), (0, 118, (61, 2, 6)), (0, 122, (13, 2, 0)), (0, 126, (14, 2, 0)), (1, 31, (114, 1, 0)), (1, 46, (20, 1, 2)), (1, 50, (19, 2, 2)), (1, 54, (21, 2, 2)), (1, 58, (1, 2, 1)), (1, 63, (204, 1, 0)), (1, 71, (116, 1, 0)), (2, 30, (115, 2, 0)), (2, 34, (27, 2, 3)), (2, 38, (114, 1, 0)), (2, 41, (23, 2, 3)), (2, 49, (204, 1, 0)), (2, 65, (26, 2, 0)), (2, 69, (116, 1, 0)), (2, 72, (65, 3, 6)), (2, 76, (67, 3, 6)), (3, 32, (116, 1, 0)), (3, 41, (34, 2, 4)), (3, 44, (64, 1, 6)), (3, 52, (35, 4, 4)), (3, 59, (204, 1, 0)), (3, 64, (40, 2, 5)), (3, 67, (37, 3, 4)), (3, 71, (115, 2, 0)), (3, 75, (38, 4, 4)), (3, 79, (36, 4, 4)), (3, 89, (33, 2, 4)), (3, 92, (30, 2, 4)), (3, 98, (41, 3, 5)), (4, 50, (115, 2, 0)), (4, 57, (40, 2, 5)), (4, 61, (114, 1, 0)), (4, 65, (42, 3, 5)), (4, 69, (78, 3, 9)), (4, 75, (43, 2, 5)), (4, 79, (116, 1, 0)), (4, 91, (68, 1, 7)), (4, 96, (48, 2, 5)), (4, 100, (69, 3, 7)), (4, 104, (46, 3, 5)), (4, 107, (47, 4, 5)), (4, 111, (45, 3, 5)), (4, 115, (44, 2, 5)), (4, 118, (70, 1, 7)), (4, 122, (204, 1, 0)), (4, 127, (62, 3, 6)), (5, 35, (52, 2, 6)), (5, 43, (115, 2, 0)), (5, 53, (114, 1, 0)), (5, 57, (54, 2, 6)), (5, 60, (62, 3, 6)), (5, 64, (55, 2, 6)), (5, 70, (116, 1, 0)), (5, 76, (65, 3, 6)), (6, 22, (71, 2, 7)), (7, 23, (115, 2, 0)), (7, 27, (114, 1, 0)), (7, 33, (77, 2, 8)), (7, 42, (76, 1, 8)), (7, 46, (204, 1, 0)), (7, 52, (73, 1, 8)), (7, 58, (116, 1, 0)), (7, 61, (61, 2, 6)), (7, 72, (67, 3, 6)), (8, 31, (116, 1, 0)), (8, 41, (79, 2, 9)), (8, 50, (82, 2, 9)), (8, 58, (80, 3, 9)), (8, 62, (115, 2, 0)), (8, 66, (81, 3, 9)), (8, 73, (114, 1, 0)), (11, 7, (101, 2, 10)), (11, 19, (83, 1, 10)), (11, 23, (129, 1, 11)), (11, 24, (84, 5, 10)), (11, 28, (130, 5, 11)), (11, 29, (85, 1, 10)), (11, 32, (131, 1, 11)), (11, 33, (86, 3, 10)), (11, 37, (132, 3, 11)), (11, 38, (87, 2, 10)), (11, 42, (133, 2, 11)), (11, 43, (88, 2, 10)), (11, 46, (134, 2, 11)), (11, 47, (89, 1, 10)), (11, 50, (165, 1, 11)), (11, 51, (90, 2, 10)), (11, 54, (169, 2, 11)), (11, 55, (91, 3, 10)), (11, 59, (178, 3, 11)), (11, 60, (92, 2, 10)), (11, 63, (179, 2, 11)), (11, 64, (93, 3, 10)), (11, 68, (155, 3, 11)), (11, 69, (94, 3, 10)), (11, 72, (156, 3, 11)), (11, 73, (95, 2, 10)), (11, 76, (157, 2, 11)), (11, 77, (96, 3, 10)), (11, 81, (158, 3, 11)), (11, 84, (97, 3, 10)), (11, 88, (159, 3, 11)), (11, 89, (98, 1, 10)), (11, 92, (160, 1, 11)), (11, 93, (99, 2, 10)), (11, 96, (170, 2, 11)), (11, 97, (100, 3, 10)), (11, 100, (191, 3, 11)), (11, 106, (175, 2, 11)), (11, 107, (118, 1, 11)), (11, 110, (102, 2, 10)), (11, 113, (193, 2, 11)), (11, 114, (103, 3, 10)), (11, 117, (194, 3, 11)), (11, 118, (104, 3, 10)), (11, 121, (199, 3, 11)), (11, 122, (105, 4, 10)), (11, 126, (200, 4, 11)), (11, 127, (106, 3, 10)), (11, 130, (201, 3, 11)), (11, 131, (107, 2, 10)), (11, 134, (180, 2, 11)), (11, 135, (108, 2, 10)), (11, 138, (181, 2, 11)), (11, 139, (109, 3, 10)), (11, 142, (182, 3, 11)), (11, 143, (110, 2, 10)), (11, 146, (202, 2, 11)), (11, 147, (111, 2, 10)), (11, 150, (203, 2, 11)), (10, 115, (120, 2, 0)), (10, 122, (124, 2, 11)), (10, 133, (127, 1, 11)), (10, 136, (128, 2, 11)), (10, 140, (119, 3, 0)), (10, 144, (123, 1, 0)), (10, 147, (126, 2, 11)), (10, 154, (121, 1, 0)), (10, 158, (135, 1, 11)), (10, 165, (138, 3, 11)), (10, 169, (139, 3, 11)), (10, 173, (140, 2, 11)), (10, 177, (141, 4, 11)), (10, 181, (143, 4, 11)), (10, 185, (142, 3, 11)), (10, 188, (144, 2, 11)), (10, 191, (146, 2, 11)), (10, 194, (122, 1, 0)), (10, 200, (148, 2, 11)), (10, 204, (149, 3, 11)), (10, 210, (151, 4, 11)), (10, 214, (147, 3, 11)), (10, 218, (145, 3, 11)), (10, 222, (150, 2, 11)), (10, 225, (136, 1, 11)), (10, 228, (152, 1, 11)), (10, 231, (125, 2, 11)), (10, 234, (153, 3, 11)), (10, 238, (154, 1, 11)), (10, 242, (137, 1, 11)), (10, 248, (162, 2, 11)), (10, 251, (161, 1, 11)), (10, 254, (163, 1, 11)), (10, 257, (164, 1, 11)), (10, 260, (167, 3, 11)), (10, 264, (166, 2, 11)), (10, 267, (168, 2, 11)), (10, 270, (171, 2, 11)), (10, 273, (173, 3, 11)), (10, 277, (172, 2, 11)), (10, 280, (174, 2, 11)), (10, 284, (177, 2, 0)), (10, 290, (183, 3, 11)), (10, 293, (185, 2, 11)), (10, 302, (184, 1, 11)), (10, 305, (187, 4, 11)), (10, 309, (186, 2, 11)), (10, 312, (188, 2, 11)), (10, 315, (189, 1, 11)), (10, 318, (176, 2, 11)), (10, 321, (192, 1, 11)), (10, 324, (190, 1, 11)), (10, 330, (195, 1, 11)), (10, 333, (197, 2, 11)), (10, 336, (196, 2, 11)), (10, 339, (198, 3, 11))]
def jm_mm : List (Nat × Nat × Bool) := [(0, 130, true), (3, 83, true), (3, 95, false), (4, 82, true)]
def jm_mt : List (Nat × Nat × Nat × List (Nat × Instr × Nat)) := [(0, 3, 2, iX0_isCell), (0, 2, 2, iX0_netsOut), (0, 0, 2, iX0_fillAnew), (0, 1, 1, iX0_mostPairs), (0, 0, 8, iX0_findMates), (0, 0, 9, iX0_pairTables), (0, 0, 4, iX0_layTables), (0, 0, 7, iX0_addCell), (0, 0, 3, iX0_join), (0, 0, 7, iX0_layRegisters), (0, 2, 5, iX0_usedByTables), (0, 2, 9, iX0_fedToSeveral), (0, 1, 13, iX0_mostPairsOf), (0, 2, 8, iX0_withMates), (0, 1, 7, iX0_withFewestMates), (1, 3, 2, iX1_isLimit), (1, 0, 1, iX1_forget), (1, 0, 6, iX1_fill), (1, 1, 5, iX1_countCrossing), (1, 0, 2, iX1_take), (1, 1, 5, iX1_withMostNetsIn), (1, 1, 13, iX1_bestToCome), (2, 0, 1, iX2_forget), (2, 2, 2, iX2_bitsOf), (2, 1, 11, iX2_caresOf), (2, 2, 8, iX2_nodesByTables), (2, 1, 8, iX2_told), (2, 2, 8, iX2_findBits), (3, 0, 5, iX3_takeNearCuts), (3, 1, 11, iX3_chooseAgain), (3, 1, 6, iX3_greatestArrival), (3, 1, 5, iX3_usesOf), (3, 1, 6, iX3_onSlowWay), (3, 1, 7, iX3_latestOf), (3, 1, 3, iX3_arrivalBy), (3, 2, 8, iX3_withChosen), (3, 2, 6, iX3_tablesWith), (3, 0, 8, iX3_findDue), (3, 2, 14, iX3_bestCut), (4, 0, 5, iX4_learn), (4, 1, 6, iX4_greatestLevel), (4, 2, 3, iX4_keptCut), (4, 2, 8, iX4_belowAtLevel), (4, 0, 6, iX4_learnKept), (4, 0, 5, iX4_takeKept), (4, 0, 8, iX4_addWithThird), (4, 1, 4, iX4_choices), (4, 2, 5, iX4_choice), (4, 2, 10, iX4_placeInRow), (5, 3, 1, iX5_isKind), (5, 1, 1, iX5_sourcesOf), (5, 3, 1, iX5_isFull), (5, 3, 2, iX5_isNode), (5, 3, 2, iX5_isInput), (5, 3, 2, iX5_isGate), (5, 3, 2, iX5_isRegister), (5, 1, 1, iX5_addInput), (5, 1, 1, iX5_addRegister), (5, 1, 5, iX5_addGate), (5, 0, 3, iX5_setFeed), (5, 1, 2, iX5_kindOf), (5, 1, 2, iX5_feedOf), (5, 1, 3, iX5_sourceOf), (5, 1, 3, iX5_sourceOrFeed), (5, 2, 5, iX5_roots), (5, 2, 7, iX5_reached), (5, 3, 4, iX5_separates), (5, 2, 9, iX5_valueOf), (6, 0, 1, iX6_clear), (6, 0, 5, iX6_add), (6, 2, 4, iX6_takeFirst), (6, 0, 5, iX6_dropAllWith), (7, 1, 4, iX7_setInput), (7, 2, 1, iX7_now), (7, 2, 2, iX7_changedBy), (7, 1, 6, iX7_run), (7, 2, 8, iX7_registersNext), (7, 2, 6, iX7_nodesOn), (8, 2, 8, iX8_nearestCut), (8, 1, 8, iX8_findWay), (8, 0, 7, iX8_seeUppers), (8, 0, 3, iX8_seeLower), (8, 0, 5, iX8_layWay), (9, 1, 1, iX9_input), (9, 1, 6, iX9_gate), (9, 1, 1, iX9_register), (9, 3, 3, iX9_feed), (9, 1, 2, iX9_output), (9, 1, 3, iX9_inputs), (9, 1, 1, iX9_map), (9, 1, 3, iX9_again), (9, 1, 3, iX9_set), (9, 1, 2, iX9_clock), (9, 1, 3, iX9_node), (9, 1, 5, iX9_near), (9, 1, 2, iX9_cone), (9, 2, 3, iX9_kept), (9, 3, 4, iX9_isCut), (9, 1, 1, iX9_depth), (9, 2, 2, iX9_chosen), (9, 1, 3, iX9_table), (9, 2, 2, iX9_holds), (9, 1, 2, iX9_mapped), (9, 1, 3, iX9_cell), (9, 1, 3, iX9_clusters), (9, 1, 4, iX9_cluster), (9, 1, 3, iX9_cross), (9, 1, 2, iX9_is), (9, 1, 2, iX9_comes), (9, 1, 3, iX9_differs), (9, 1, 2, iX9_slow), (9, 1, 2, iX9_count), (9, 4, 3, iX9_cutsOfK), (9, 0, 1, iX9_followCover), (9, 2, 1, iX9_bit), (9, 3, 3, iX9_has), (9, 1, 2, iX9_lowest), (9, 1, 6, iX9_nthOf), (10, 1, 1, iX10_thrown), (10, 3, 3, iX10_within), (10, 3, 3, iX10_has), (10, 1, 4, iX10_manyOf), (10, 1, 3, iX10_lowest), (10, 1, 1, iX10_sourcesOf), (10, 3, 2, iX10_isNode), (10, 3, 2, iX10_isGate), (10, 3, 2, iX10_isRegister), (10, 0, 1, iX10_changes), (10, 1, 3, iX10_adds), (10, 1, 1, iX10_input), (10, 1, 10, iX10_gate), (10, 1, 2, iX10_register), (10, 3, 3, iX10_feed), (10, 1, 2, iX10_output), (10, 1, 3, iX10_inputs), (10, 2, 4, iX10_fed), (10, 2, 1, iX10_roots), (10, 2, 4, iX10_gates), (10, 0, 3, iX10_comes), (10, 1, 3, iX10_room), (10, 0, 4, iX10_spreadsOut), (10, 0, 7, iX10_spreadsIn), (10, 1, 7, iX10_spreads), (10, 1, 5, iX10_slotOf), (10, 0, 6, iX10_flows), (10, 3, 6, iX10_isCutOff), (10, 1, 5, iX10_greatestIn), (10, 3, 7, iX10_isAhead), (10, 0, 5, iX10_makes), (10, 2, 3, iX10_setOf), (10, 0, 11, iX10_laysKept), (10, 1, 8, iX10_puts), (10, 0, 3, iX10_lays), (10, 2, 9, iX10_coneOf), (10, 1, 1, iX10_rootDepth), (10, 1, 3, iX10_node), (10, 1, 5, iX10_near), (10, 1, 2, iX10_cone), (10, 2, 3, iX10_kept), (10, 3, 10, iX10_isCut), (10, 1, 1, iX10_depth), (10, 0, 2, iX10_laysTables), (10, 1, 5, iX10_arrivalBy), (10, 0, 2, iX10_laysArrival), (10, 0, 1, iX10_looks), (10, 1, 2, iX10_map), (10, 0, 6, iX10_laysDue), (10, 1, 6, iX10_tablesBy), (10, 0, 11, iX10_choosesAgain), (10, 1, 4, iX10_again), (10, 2, 2, iX10_chosen), (10, 3, 5, iX10_gateIs), (10, 0, 4, iX10_works), (10, 0, 6, iX10_fixes), (10, 2, 5, iX10_holdsOf), (10, 2, 2, iX10_holds), (10, 1, 8, iX10_caresOf), (10, 3, 3, iX10_has64), (10, 1, 4, iX10_set), (10, 1, 5, iX10_clock), (10, 1, 2, iX10_is), (10, 1, 6, iX10_comes_), (10, 1, 4, iX10_differs), (10, 3, 3, iX10_isPair), (10, 0, 3, iX10_laysPairs), (10, 1, 4, iX10_usesOf), (10, 3, 5, iX10_isPacked), (10, 0, 4, iX10_newCell), (10, 0, 3, iX10_packs), (10, 0, 3, iX10_laysCells), (10, 1, 9, iX10_mostPairs), (10, 1, 3, iX10_table), (10, 1, 3, iX10_slowest), (10, 1, 2, iX10_mapped), (10, 1, 3, iX10_cell), (10, 1, 3, iX10_beginning), (10, 1, 8, iX10_nextTo), (10, 0, 3, iX10_joins), (10, 3, 5, iX10_laysClusters), (10, 1, 3, iX10_clusters), (10, 1, 4, iX10_cluster), (10, 1, 7, iX10_cross), (10, 1, 7, iX10_slow), (10, 1, 4, iX10_count), (12, 1, 2, iJ13_bitCount_95d88)]
abbrev kX0_isCell : Nat := 0
abbrev kX0_netsOut : Nat := 1
abbrev kX0_fillAnew : Nat := 2
abbrev kX0_mostPairs : Nat := 3
abbrev kX0_findMates : Nat := 4
abbrev kX0_pairTables : Nat := 5
abbrev kX0_layTables : Nat := 6
abbrev kX0_addCell : Nat := 7
abbrev kX0_join : Nat := 8
abbrev kX0_layRegisters : Nat := 9
abbrev kX0_usedByTables : Nat := 10
abbrev kX0_fedToSeveral : Nat := 11
abbrev kX0_mostPairsOf : Nat := 12
abbrev kX0_withMates : Nat := 13
abbrev kX0_withFewestMates : Nat := 14
abbrev kX1_isLimit : Nat := 15
abbrev kX1_forget : Nat := 16
abbrev kX1_fill : Nat := 17
abbrev kX1_countCrossing : Nat := 18
abbrev kX1_take : Nat := 19
abbrev kX1_withMostNetsIn : Nat := 20
abbrev kX1_bestToCome : Nat := 21
abbrev kX2_forget : Nat := 22
abbrev kX2_bitsOf : Nat := 23
abbrev kX2_caresOf : Nat := 24
abbrev kX2_nodesByTables : Nat := 25
abbrev kX2_told : Nat := 26
abbrev kX2_findBits : Nat := 27
abbrev kX3_takeNearCuts : Nat := 28
abbrev kX3_chooseAgain : Nat := 29
abbrev kX3_greatestArrival : Nat := 30
abbrev kX3_usesOf : Nat := 31
abbrev kX3_onSlowWay : Nat := 32
abbrev kX3_latestOf : Nat := 33
abbrev kX3_arrivalBy : Nat := 34
abbrev kX3_withChosen : Nat := 35
abbrev kX3_tablesWith : Nat := 36
abbrev kX3_findDue : Nat := 37
abbrev kX3_bestCut : Nat := 38
abbrev kX4_learn : Nat := 39
abbrev kX4_greatestLevel : Nat := 40
abbrev kX4_keptCut : Nat := 41
abbrev kX4_belowAtLevel : Nat := 42
abbrev kX4_learnKept : Nat := 43
abbrev kX4_takeKept : Nat := 44
abbrev kX4_addWithThird : Nat := 45
abbrev kX4_choices : Nat := 46
abbrev kX4_choice : Nat := 47
abbrev kX4_placeInRow : Nat := 48
abbrev kX5_isKind : Nat := 49
abbrev kX5_sourcesOf : Nat := 50
abbrev kX5_isFull : Nat := 51
abbrev kX5_isNode : Nat := 52
abbrev kX5_isInput : Nat := 53
abbrev kX5_isGate : Nat := 54
abbrev kX5_isRegister : Nat := 55
abbrev kX5_addInput : Nat := 56
abbrev kX5_addRegister : Nat := 57
abbrev kX5_addGate : Nat := 58
abbrev kX5_setFeed : Nat := 59
abbrev kX5_kindOf : Nat := 60
abbrev kX5_feedOf : Nat := 61
abbrev kX5_sourceOf : Nat := 62
abbrev kX5_sourceOrFeed : Nat := 63
abbrev kX5_roots : Nat := 64
abbrev kX5_reached : Nat := 65
abbrev kX5_separates : Nat := 66
abbrev kX5_valueOf : Nat := 67
abbrev kX6_clear : Nat := 68
abbrev kX6_add : Nat := 69
abbrev kX6_takeFirst : Nat := 70
abbrev kX6_dropAllWith : Nat := 71
abbrev kX7_setInput : Nat := 72
abbrev kX7_now : Nat := 73
abbrev kX7_changedBy : Nat := 74
abbrev kX7_run : Nat := 75
abbrev kX7_registersNext : Nat := 76
abbrev kX7_nodesOn : Nat := 77
abbrev kX8_nearestCut : Nat := 78
abbrev kX8_findWay : Nat := 79
abbrev kX8_seeUppers : Nat := 80
abbrev kX8_seeLower : Nat := 81
abbrev kX8_layWay : Nat := 82
abbrev kX9_input : Nat := 83
abbrev kX9_gate : Nat := 84
abbrev kX9_register : Nat := 85
abbrev kX9_feed : Nat := 86
abbrev kX9_output : Nat := 87
abbrev kX9_inputs : Nat := 88
abbrev kX9_map : Nat := 89
abbrev kX9_again : Nat := 90
abbrev kX9_set : Nat := 91
abbrev kX9_clock : Nat := 92
abbrev kX9_node : Nat := 93
abbrev kX9_near : Nat := 94
abbrev kX9_cone : Nat := 95
abbrev kX9_kept : Nat := 96
abbrev kX9_isCut : Nat := 97
abbrev kX9_depth : Nat := 98
abbrev kX9_chosen : Nat := 99
abbrev kX9_table : Nat := 100
abbrev kX9_holds : Nat := 101
abbrev kX9_mapped : Nat := 102
abbrev kX9_cell : Nat := 103
abbrev kX9_clusters : Nat := 104
abbrev kX9_cluster : Nat := 105
abbrev kX9_cross : Nat := 106
abbrev kX9_is : Nat := 107
abbrev kX9_comes : Nat := 108
abbrev kX9_differs : Nat := 109
abbrev kX9_slow : Nat := 110
abbrev kX9_count : Nat := 111
abbrev kX9_cutsOfK : Nat := 112
abbrev kX9_followCover : Nat := 113
abbrev kX9_bit : Nat := 114
abbrev kX9_has : Nat := 115
abbrev kX9_lowest : Nat := 116
abbrev kX9_nthOf : Nat := 117
abbrev kX10_thrown : Nat := 118
abbrev kX10_within : Nat := 119
abbrev kX10_has : Nat := 120
abbrev kX10_manyOf : Nat := 121
abbrev kX10_lowest : Nat := 122
abbrev kX10_sourcesOf : Nat := 123
abbrev kX10_isNode : Nat := 124
abbrev kX10_isGate : Nat := 125
abbrev kX10_isRegister : Nat := 126
abbrev kX10_changes : Nat := 127
abbrev kX10_adds : Nat := 128
abbrev kX10_input : Nat := 129
abbrev kX10_gate : Nat := 130
abbrev kX10_register : Nat := 131
abbrev kX10_feed : Nat := 132
abbrev kX10_output : Nat := 133
abbrev kX10_inputs : Nat := 134
abbrev kX10_fed : Nat := 135
abbrev kX10_roots : Nat := 136
abbrev kX10_gates : Nat := 137
abbrev kX10_comes : Nat := 138
abbrev kX10_room : Nat := 139
abbrev kX10_spreadsOut : Nat := 140
abbrev kX10_spreadsIn : Nat := 141
abbrev kX10_spreads : Nat := 142
abbrev kX10_slotOf : Nat := 143
abbrev kX10_flows : Nat := 144
abbrev kX10_isCutOff : Nat := 145
abbrev kX10_greatestIn : Nat := 146
abbrev kX10_isAhead : Nat := 147
abbrev kX10_makes : Nat := 148
abbrev kX10_setOf : Nat := 149
abbrev kX10_laysKept : Nat := 150
abbrev kX10_puts : Nat := 151
abbrev kX10_lays : Nat := 152
abbrev kX10_coneOf : Nat := 153
abbrev kX10_rootDepth : Nat := 154
abbrev kX10_node : Nat := 155
abbrev kX10_near : Nat := 156
abbrev kX10_cone : Nat := 157
abbrev kX10_kept : Nat := 158
abbrev kX10_isCut : Nat := 159
abbrev kX10_depth : Nat := 160
abbrev kX10_laysTables : Nat := 161
abbrev kX10_arrivalBy : Nat := 162
abbrev kX10_laysArrival : Nat := 163
abbrev kX10_looks : Nat := 164
abbrev kX10_map : Nat := 165
abbrev kX10_laysDue : Nat := 166
abbrev kX10_tablesBy : Nat := 167
abbrev kX10_choosesAgain : Nat := 168
abbrev kX10_again : Nat := 169
abbrev kX10_chosen : Nat := 170
abbrev kX10_gateIs : Nat := 171
abbrev kX10_works : Nat := 172
abbrev kX10_fixes : Nat := 173
abbrev kX10_holdsOf : Nat := 174
abbrev kX10_holds : Nat := 175
abbrev kX10_caresOf : Nat := 176
abbrev kX10_has64 : Nat := 177
abbrev kX10_set : Nat := 178
abbrev kX10_clock : Nat := 179
abbrev kX10_is : Nat := 180
abbrev kX10_comes_ : Nat := 181
abbrev kX10_differs : Nat := 182
abbrev kX10_isPair : Nat := 183
abbrev kX10_laysPairs : Nat := 184
abbrev kX10_usesOf : Nat := 185
abbrev kX10_isPacked : Nat := 186
abbrev kX10_newCell : Nat := 187
abbrev kX10_packs : Nat := 188
abbrev kX10_laysCells : Nat := 189
abbrev kX10_mostPairs : Nat := 190
abbrev kX10_table : Nat := 191
abbrev kX10_slowest : Nat := 192
abbrev kX10_mapped : Nat := 193
abbrev kX10_cell : Nat := 194
abbrev kX10_beginning : Nat := 195
abbrev kX10_nextTo : Nat := 196
abbrev kX10_joins : Nat := 197
abbrev kX10_laysClusters : Nat := 198
abbrev kX10_clusters : Nat := 199
abbrev kX10_cluster : Nat := 200
abbrev kX10_cross : Nat := 201
abbrev kX10_slow : Nat := 202
abbrev kX10_count : Nat := 203
abbrev kJ13_bitCount_95d88 : Nat := 204
