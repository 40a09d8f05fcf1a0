/-! the law's loop, case by case -/
def iLw : List (Nat × Instr × Nat) := [(23, .iload 4, 2), (25, .aload_n 0, 1), (26, .arraylength, 1), (27, .iconst 5, 1), (28, .isub, 1), (29, .if_icmp .gt 1094, 3), (32, .aload_n 0, 1), (33, .iload 4, 2), (35, .iaload, 1), (36, .bipush 31, 2), (38, .iand, 1), (39, .tableswitch 1078 0 28 #[129, 142, 203, 216, 253, 278, 303, 316, 341, 394, 419, 456, 493, 518, 556, 625, 638, 664, 701, 756, 781, 818, 855, 904, 941, 966, 991, 1028, 1053], 129), (168, .aload_n 1, 1), (169, .invokevirtual 19, 3), (172, .aload_n 2, 1), (173, .invokevirtual 23, 3), (176, .if_icmp .eq 941, 3), (179, .iconst 0, 1), (180, .ireturn, 1), (181, .aload_n 1, 1), (182, .aload_n 0, 1), (183, .iload 4, 2), (185, .iconst 1, 1), (186, .iadd, 1), (187, .iaload, 1), (188, .aload_n 0, 1), (189, .iload 4, 2), (191, .iconst 2, 1), (192, .iadd, 1), (193, .iaload, 1), (194, .aload_n 0, 1), (195, .iload 4, 2), (197, .iconst 3, 1), (198, .iadd, 1), (199, .iaload, 1), (200, .aload_n 0, 1), (201, .iload 4, 2), (203, .iconst 4, 1), (204, .iadd, 1), (205, .iaload, 1), (206, .invokevirtual 24, 3), (209, .aload_n 2, 1), (210, .aload_n 0, 1), (211, .iload 4, 2), (213, .iconst 1, 1), (214, .iadd, 1), (215, .iaload, 1), (216, .aload_n 0, 1), (217, .iload 4, 2), (219, .iconst 2, 1), (220, .iadd, 1), (221, .iaload, 1), (222, .aload_n 0, 1), (223, .iload 4, 2), (225, .iconst 3, 1), (226, .iadd, 1), (227, .iaload, 1), (228, .aload_n 0, 1), (229, .iload 4, 2), (231, .iconst 4, 1), (232, .iadd, 1), (233, .iaload, 1), (234, .invokevirtual 28, 3), (237, .if_icmp .eq 880, 3), (240, .iconst 0, 1), (241, .ireturn, 1), (242, .aload_n 1, 1), (243, .invokevirtual 29, 3), (246, .aload_n 2, 1), (247, .invokevirtual 32, 3), (250, .if_icmp .eq 867, 3), (253, .iconst 0, 1), (254, .ireturn, 1), (255, .aload_n 1, 1), (256, .aload_n 0, 1), (257, .iload 4, 2), (259, .iconst 1, 1), (260, .iadd, 1), (261, .iaload, 1), (262, .aload_n 0, 1), (263, .iload 4, 2), (265, .iconst 2, 1), (266, .iadd, 1), (267, .iaload, 1), (268, .invokevirtual 33, 3), (271, .aload_n 2, 1), (272, .aload_n 0, 1), (273, .iload 4, 2), (275, .iconst 1, 1), (276, .iadd, 1), (277, .iaload, 1), (278, .aload_n 0, 1), (279, .iload 4, 2), (281, .iconst 2, 1), (282, .iadd, 1), (283, .iaload, 1), (284, .invokevirtual 37, 3), (287, .if_icmp .eq 830, 3), (290, .iconst 0, 1), (291, .ireturn, 1), (292, .aload_n 1, 1), (293, .aload_n 0, 1), (294, .iload 4, 2), (296, .iconst 1, 1), (297, .iadd, 1), (298, .iaload, 1), (299, .invokevirtual 38, 3), (302, .aload_n 2, 1), (303, .aload_n 0, 1), (304, .iload 4, 2), (306, .iconst 1, 1), (307, .iadd, 1), (308, .iaload, 1), (309, .invokevirtual 42, 3), (312, .if_icmp .eq 805, 3), (315, .iconst 0, 1), (316, .ireturn, 1), (317, .aload_n 1, 1), (318, .aload_n 0, 1), (319, .iload 4, 2), (321, .iconst 1, 1), (322, .iadd, 1), (323, .iaload, 1), (324, .invokevirtual 43, 3), (327, .aload_n 2, 1), (328, .aload_n 0, 1), (329, .iload 4, 2), (331, .iconst 1, 1), (332, .iadd, 1), (333, .iaload, 1), (334, .invokevirtual 46, 3), (337, .if_icmp .eq 780, 3), (340, .iconst 0, 1), (341, .ireturn, 1), (342, .aload_n 1, 1), (343, .invokevirtual 47, 3), (346, .aload_n 2, 1), (347, .invokevirtual 50, 3), (350, .if_icmp .eq 767, 3), (353, .iconst 0, 1), (354, .ireturn, 1), (355, .aload_n 1, 1), (356, .aload_n 0, 1), (357, .iload 4, 2), (359, .iconst 1, 1), (360, .iadd, 1), (361, .iaload, 1), (362, .invokevirtual 51, 3), (365, .aload_n 2, 1), (366, .aload_n 0, 1), (367, .iload 4, 2), (369, .iconst 1, 1), (370, .iadd, 1), (371, .iaload, 1), (372, .invokevirtual 54, 3), (375, .if_icmp .eq 742, 3), (378, .iconst 0, 1), (379, .ireturn, 1), (380, .aload_n 1, 1), (381, .aload_n 0, 1), (382, .iload 4, 2), (384, .iconst 1, 1), (385, .iadd, 1), (386, .iaload, 1), (387, .aload_n 0, 1), (388, .iload 4, 2), (390, .iconst 2, 1), (391, .iadd, 1), (392, .iaload, 1), (393, .ifCond .eq 7, 3), (396, .iconst 1, 1), (397, .goto 4, 3), (400, .iconst 0, 1), (401, .invokevirtual 55, 3), (404, .aload_n 2, 1), (405, .aload_n 0, 1), (406, .iload 4, 2), (408, .iconst 1, 1), (409, .iadd, 1), (410, .iaload, 1), (411, .aload_n 0, 1), (412, .iload 4, 2), (414, .iconst 2, 1), (415, .iadd, 1), (416, .iaload, 1), (417, .ifCond .eq 7, 3), (420, .iconst 1, 1), (421, .goto 4, 3), (424, .iconst 0, 1), (425, .invokevirtual 59, 3), (428, .if_icmp .eq 689, 3), (431, .iconst 0, 1), (432, .ireturn, 1), (433, .aload_n 1, 1), (434, .aload_n 0, 1), (435, .iload 4, 2), (437, .iconst 1, 1), (438, .iadd, 1), (439, .iaload, 1), (440, .invokevirtual 60, 3), (443, .aload_n 2, 1), (444, .aload_n 0, 1), (445, .iload 4, 2), (447, .iconst 1, 1), (448, .iadd, 1), (449, .iaload, 1), (450, .invokevirtual 63, 3), (453, .if_icmp .eq 664, 3), (456, .iconst 0, 1), (457, .ireturn, 1), (458, .aload_n 1, 1), (459, .aload_n 0, 1), (460, .iload 4, 2), (462, .iconst 1, 1), (463, .iadd, 1), (464, .iaload, 1), (465, .aload_n 0, 1), (466, .iload 4, 2), (468, .iconst 2, 1), (469, .iadd, 1), (470, .iaload, 1), (471, .invokevirtual 64, 3), (474, .aload_n 2, 1), (475, .aload_n 0, 1), (476, .iload 4, 2), (478, .iconst 1, 1), (479, .iadd, 1), (480, .iaload, 1), (481, .aload_n 0, 1), (482, .iload 4, 2), (484, .iconst 2, 1), (485, .iadd, 1), (486, .iaload, 1), (487, .invokevirtual 68, 3), (490, .if_icmp .eq 627, 3), (493, .iconst 0, 1), (494, .ireturn, 1), (495, .aload_n 1, 1), (496, .aload_n 0, 1), (497, .iload 4, 2), (499, .iconst 1, 1), (500, .iadd, 1), (501, .iaload, 1), (502, .aload_n 0, 1), (503, .iload 4, 2), (505, .iconst 2, 1), (506, .iadd, 1), (507, .iaload, 1), (508, .invokevirtual 69, 3), (511, .aload_n 2, 1), (512, .aload_n 0, 1), (513, .iload 4, 2), (515, .iconst 1, 1), (516, .iadd, 1), (517, .iaload, 1), (518, .aload_n 0, 1), (519, .iload 4, 2), (521, .iconst 2, 1), (522, .iadd, 1), (523, .iaload, 1), (524, .invokevirtual 72, 3), (527, .if_icmp .eq 590, 3), (530, .iconst 0, 1), (531, .ireturn, 1), (532, .aload_n 1, 1), (533, .aload_n 0, 1), (534, .iload 4, 2), (536, .iconst 1, 1), (537, .iadd, 1), (538, .iaload, 1), (539, .invokevirtual 73, 3), (542, .aload_n 2, 1), (543, .aload_n 0, 1), (544, .iload 4, 2), (546, .iconst 1, 1), (547, .iadd, 1), (548, .iaload, 1), (549, .invokevirtual 76, 3), (552, .if_icmp .eq 565, 3), (555, .iconst 0, 1), (556, .ireturn, 1), (557, .aload_n 1, 1), (558, .aload_n 0, 1), (559, .iload 4, 2), (561, .iconst 1, 1), (562, .iadd, 1), (563, .iaload, 1), (564, .aload_n 0, 1), (565, .iload 4, 2), (567, .iconst 2, 1), (568, .iadd, 1), (569, .iaload, 1), (570, .invokevirtual 77, 3), (573, .aload_n 2, 1), (574, .aload_n 0, 1), (575, .iload 4, 2), (577, .iconst 1, 1), (578, .iadd, 1), (579, .iaload, 1), (580, .aload_n 0, 1), (581, .iload 4, 2), (583, .iconst 2, 1), (584, .iadd, 1), (585, .iaload, 1), (586, .invokevirtual 81, 3), (589, .lcmp, 1), (590, .ifCond .eq 527, 3), (593, .iconst 0, 1), (594, .ireturn, 1), (595, .aload_n 1, 1), (596, .aload_n 0, 1), (597, .iload 4, 2), (599, .iconst 1, 1), (600, .iadd, 1), (601, .iaload, 1), (602, .aload_n 0, 1), (603, .iload 4, 2), (605, .iconst 2, 1), (606, .iadd, 1), (607, .iaload, 1), (608, .i2l, 1), (609, .bipush 32, 2), (611, .lshl, 1), (612, .aload_n 0, 1), (613, .iload 4, 2), (615, .iconst 3, 1), (616, .iadd, 1), (617, .iaload, 1), (618, .i2l, 1), (619, .ldc2_w 82, 3), (622, .land, 1), (623, .lor, 1), (624, .invokevirtual 84, 3), (627, .aload_n 2, 1), (628, .aload_n 0, 1), (629, .iload 4, 2), (631, .iconst 1, 1), (632, .iadd, 1), (633, .iaload, 1), (634, .aload_n 0, 1), (635, .iload 4, 2), (637, .iconst 2, 1), (638, .iadd, 1), (639, .iaload, 1), (640, .i2l, 1), (641, .bipush 32, 2), (643, .lshl, 1), (644, .aload_n 0, 1), (645, .iload 4, 2), (647, .iconst 3, 1), (648, .iadd, 1), (649, .iaload, 1), (650, .i2l, 1), (651, .ldc2_w 82, 3), (654, .land, 1), (655, .lor, 1), (656, .invokevirtual 88, 3), (659, .if_icmp .eq 458, 3), (662, .iconst 0, 1), (663, .ireturn, 1), (664, .aload_n 1, 1), (665, .invokevirtual 89, 3), (668, .aload_n 2, 1), (669, .invokevirtual 92, 3), (672, .if_icmp .eq 445, 3), (675, .iconst 0, 1), (676, .ireturn, 1), (677, .aload_n 1, 1), (678, .aload_n 0, 1), (679, .iload 4, 2), (681, .iconst 1, 1), (682, .iadd, 1), (683, .iaload, 1), (684, .invokevirtual 93, 3), (687, .aload_n 2, 1), (688, .aload_n 0, 1), (689, .iload 4, 2), (691, .iconst 1, 1), (692, .iadd, 1), (693, .iaload, 1), (694, .invokevirtual 96, 3), (697, .lcmp, 1), (698, .ifCond .eq 419, 3), (701, .iconst 0, 1), (702, .ireturn, 1), (703, .aload_n 1, 1), (704, .aload_n 0, 1), (705, .iload 4, 2), (707, .iconst 1, 1), (708, .iadd, 1), (709, .iaload, 1), (710, .aload_n 0, 1), (711, .iload 4, 2), (713, .iconst 2, 1), (714, .iadd, 1), (715, .iaload, 1), (716, .invokevirtual 97, 3), (719, .aload_n 2, 1), (720, .aload_n 0, 1), (721, .iload 4, 2), (723, .iconst 1, 1), (724, .iadd, 1), (725, .iaload, 1), (726, .aload_n 0, 1), (727, .iload 4, 2), (729, .iconst 2, 1), (730, .iadd, 1), (731, .iaload, 1), (732, .invokevirtual 100, 3), (735, .if_icmp .eq 382, 3), (738, .iconst 0, 1), (739, .ireturn, 1), (740, .aload_n 1, 1), (741, .aload_n 0, 1), (742, .iload 4, 2), (744, .iconst 1, 1), (745, .iadd, 1), (746, .iaload, 1), (747, .aload_n 3, 1), (748, .invokestatic 101, 3), (751, .istore 5, 2), (753, .aload_n 2, 1), (754, .aload_n 0, 1), (755, .iload 4, 2), (757, .iconst 1, 1), (758, .iadd, 1), (759, .iaload, 1), (760, .invokevirtual 106, 3), (763, .lstore 6, 2), (765, .aload_n 2, 1), (766, .invokevirtual 107, 3), (769, .iload 5, 2), (771, .if_icmp .eq 5, 3), (774, .iconst 0, 1), (775, .ireturn, 1), (776, .iload 5, 2), (778, .ifCond .ne 14, 3), (781, .aload_n 3, 1), (782, .iconst 0, 1), (783, .laload, 1), (784, .lload 6, 2), (786, .lcmp, 1), (787, .ifCond .eq 5, 3), (790, .iconst 0, 1), (791, .ireturn, 1), (792, .goto 325, 3), (795, .aload_n 1, 1), (796, .aload_n 0, 1), (797, .iload 4, 2), (799, .iconst 1, 1), (800, .iadd, 1), (801, .iaload, 1), (802, .invokevirtual 110, 3), (805, .aload_n 2, 1), (806, .aload_n 0, 1), (807, .iload 4, 2), (809, .iconst 1, 1), (810, .iadd, 1), (811, .iaload, 1), (812, .invokevirtual 113, 3), (815, .if_icmp .eq 302, 3), (818, .iconst 0, 1), (819, .ireturn, 1), (820, .aload_n 1, 1), (821, .aload_n 0, 1), (822, .iload 4, 2), (824, .iconst 1, 1), (825, .iadd, 1), (826, .iaload, 1), (827, .aload_n 0, 1), (828, .iload 4, 2), (830, .iconst 2, 1), (831, .iadd, 1), (832, .iaload, 1), (833, .invokevirtual 114, 3), (836, .aload_n 2, 1), (837, .aload_n 0, 1), (838, .iload 4, 2), (840, .iconst 1, 1), (841, .iadd, 1), (842, .iaload, 1), (843, .aload_n 0, 1), (844, .iload 4, 2), (846, .iconst 2, 1), (847, .iadd, 1), (848, .iaload, 1), (849, .invokevirtual 117, 3), (852, .if_icmp .eq 265, 3), (855, .iconst 0, 1), (856, .ireturn, 1), (857, .aload_n 1, 1), (858, .aload_n 0, 1), (859, .iload 4, 2), (861, .iconst 1, 1), (862, .iadd, 1), (863, .iaload, 1), (864, .aload_n 0, 1), (865, .iload 4, 2), (867, .iconst 2, 1), (868, .iadd, 1), (869, .iaload, 1), (870, .invokevirtual 118, 3), (873, .aload_n 2, 1), (874, .aload_n 0, 1), (875, .iload 4, 2), (877, .iconst 1, 1), (878, .iadd, 1), (879, .iaload, 1), (880, .aload_n 0, 1), (881, .iload 4, 2), (883, .iconst 2, 1), (884, .iadd, 1), (885, .iaload, 1), (886, .invokevirtual 121, 3), (889, .if_icmp .eq 228, 3), (892, .iconst 0, 1), (893, .ireturn, 1), (894, .aload_n 1, 1), (895, .aload_n 0, 1), (896, .iload 4, 2), (898, .iconst 1, 1), (899, .iadd, 1), (900, .iaload, 1), (901, .aload_n 0, 1), (902, .iload 4, 2), (904, .iconst 2, 1), (905, .iadd, 1), (906, .iaload, 1), (907, .aload_n 0, 1), (908, .iload 4, 2), (910, .iconst 3, 1), (911, .iadd, 1), (912, .iaload, 1), (913, .invokevirtual 122, 3), (916, .aload_n 2, 1), (917, .aload_n 0, 1), (918, .iload 4, 2), (920, .iconst 1, 1), (921, .iadd, 1), (922, .iaload, 1), (923, .aload_n 0, 1), (924, .iload 4, 2), (926, .iconst 2, 1), (927, .iadd, 1), (928, .iaload, 1), (929, .aload_n 0, 1), (930, .iload 4, 2), (932, .iconst 3, 1), (933, .iadd, 1), (934, .iaload, 1), (935, .invokevirtual 126, 3), (938, .if_icmp .eq 179, 3), (941, .iconst 0, 1), (942, .ireturn, 1), (943, .aload_n 1, 1), (944, .aload_n 0, 1), (945, .iload 4, 2), (947, .iconst 1, 1), (948, .iadd, 1), (949, .iaload, 1), (950, .aload_n 0, 1), (951, .iload 4, 2), (953, .iconst 2, 1), (954, .iadd, 1), (955, .iaload, 1), (956, .invokevirtual 127, 3), (959, .aload_n 2, 1), (960, .aload_n 0, 1), (961, .iload 4, 2), (963, .iconst 1, 1), (964, .iadd, 1), (965, .iaload, 1), (966, .aload_n 0, 1), (967, .iload 4, 2), (969, .iconst 2, 1), (970, .iadd, 1), (971, .iaload, 1), (972, .invokevirtual 130, 3), (975, .if_icmp .eq 142, 3), (978, .iconst 0, 1), (979, .ireturn, 1), (980, .aload_n 1, 1), (981, .aload_n 0, 1), (982, .iload 4, 2), (984, .iconst 1, 1), (985, .iadd, 1), (986, .iaload, 1), (987, .invokevirtual 131, 3), (990, .aload_n 2, 1), (991, .aload_n 0, 1), (992, .iload 4, 2), (994, .iconst 1, 1), (995, .iadd, 1), (996, .iaload, 1), (997, .invokevirtual 134, 3), (1000, .if_icmp .eq 117, 3), (1003, .iconst 0, 1), (1004, .ireturn, 1), (1005, .aload_n 1, 1), (1006, .aload_n 0, 1), (1007, .iload 4, 2), (1009, .iconst 1, 1), (1010, .iadd, 1), (1011, .iaload, 1), (1012, .invokevirtual 135, 3), (1015, .aload_n 2, 1), (1016, .aload_n 0, 1), (1017, .iload 4, 2), (1019, .iconst 1, 1), (1020, .iadd, 1), (1021, .iaload, 1), (1022, .invokevirtual 138, 3), (1025, .if_icmp .eq 92, 3), (1028, .iconst 0, 1), (1029, .ireturn, 1), (1030, .aload_n 1, 1), (1031, .aload_n 0, 1), (1032, .iload 4, 2), (1034, .iconst 1, 1), (1035, .iadd, 1), (1036, .iaload, 1), (1037, .aload_n 0, 1), (1038, .iload 4, 2), (1040, .iconst 2, 1), (1041, .iadd, 1), (1042, .iaload, 1), (1043, .invokevirtual 139, 3), (1046, .aload_n 2, 1), (1047, .aload_n 0, 1), (1048, .iload 4, 2), (1050, .iconst 1, 1), (1051, .iadd, 1), (1052, .iaload, 1), (1053, .aload_n 0, 1), (1054, .iload 4, 2), (1056, .iconst 2, 1), (1057, .iadd, 1), (1058, .iaload, 1), (1059, .invokevirtual 142, 3), (1062, .if_icmp .eq 55, 3), (1065, .iconst 0, 1), (1066, .ireturn, 1), (1067, .aload_n 1, 1), (1068, .aload_n 0, 1), (1069, .iload 4, 2), (1071, .iconst 1, 1), (1072, .iadd, 1), (1073, .iaload, 1), (1074, .invokevirtual 143, 3), (1077, .aload_n 2, 1), (1078, .aload_n 0, 1), (1079, .iload 4, 2), (1081, .iconst 1, 1), (1082, .iadd, 1), (1083, .iaload, 1), (1084, .invokevirtual 146, 3), (1087, .if_icmp .eq 30, 3), (1090, .iconst 0, 1), (1091, .ireturn, 1), (1092, .aload_n 1, 1), (1093, .aload_n 0, 1), (1094, .iload 4, 2), (1096, .iconst 1, 1), (1097, .iadd, 1), (1098, .iaload, 1), (1099, .invokevirtual 147, 3), (1102, .aload_n 2, 1), (1103, .aload_n 0, 1), (1104, .iload 4, 2), (1106, .iconst 1, 1), (1107, .iadd, 1), (1108, .iaload, 1), (1109, .invokevirtual 150, 3), (1112, .if_icmp .eq 5, 3), (1115, .iconst 0, 1), (1116, .ireturn, 1), (1117, .iinc 4 5, 3), (1120, .goto (-1097), 3), (1123, .iconst 1, 1), (1124, .ireturn, 1)]
def lvL (i : Nat) : jm_L := [some (jR 102 0), some (jR 0 0), some (jR 38 0), some (jR 71 0), some (jI (nI i)), none, none, none]
theorem both' {C : jm_C} {kc km : Nat} {args : List jm_V} {ans : ast → jm_V} {nx : ast → ast} (hc : fC C kc args ans nx) (hm : fM C km args ans nx) {A : ast} {σ : jm_G} (h : bRA A σ) {P : Option jm_V → jm_G → Prop} (hp : ∀ σ1, σ1.1 102 0 = σ.1 102 0 → (∀ as', as' = args → ∀ Q : Option jm_V → jm_G → Prop, (∀ σ2, off 0 70 σ σ2 → bRA (nx A) σ2 → Q (some (ans A)) σ2) → C km (jR 38 0 :: as') σ1 Q) → P (some (ans A)) σ1) : C kc (jR 0 0 :: args) σ P :=
  both hc hm h fun σ1 o1 call => hp σ1 (o1 102 0 (by omega)).1 fun as' e Q hQ => by rw [e]; exact call Q hQ
set_option maxRecDepth 20000 in
set_option maxHeartbeats 4000000 in
theorem lw_c0 {L : Nat} {C : jm_C} {post : Option jm_V → jm_G → Prop} {X : jm_S → Prop} (hg : ∀ (cut : List Nat) (n : Nat) (s : jm_S), jm_go L 11 3 iLw C post X cut n s → X s) {f : ast → Int32} {nx : ast → ast} {A : ast} {σ : jm_G} {i : Nat} (hb : bRA A σ) (hi : i + 5 ≤ L) (hL : L ≤ 2560) (hcf : fC C kX9_input [] (fun A => jI (f A)) nx) (hmf : fM C kX10_input [] (fun A => jI (f A)) nx) (next : ∀ σ2, off 0 70 σ σ2 → bRA (nx A) σ2 → X (σ2, 1117, lvL i, [])) : X (σ, 168, lvL i, []) := by
  refine hg [1117] 90 _ ?_
  refine both' hcf hmf hb fun σ1 e1 call => ?_
  refine call _ (by first | rfl | (rw [e1] <;> rfl)) _ fun σ2 o2 b2 => ?_
  exact br_c (fun _ => next σ2 o2 b2) (fun h => absurd rfl h)
set_option maxRecDepth 20000 in
set_option maxHeartbeats 4000000 in
theorem lw_c1 {L : Nat} {C : jm_C} {post : Option jm_V → jm_G → Prop} {X : jm_S → Prop} (hg : ∀ (cut : List Nat) (n : Nat) (s : jm_S), jm_go L 11 3 iLw C post X cut n s → X s) {f : ast → Int32} {nx : ast → ast} {A : ast} {σ : jm_G} {i : Nat} (hb : bRA A σ) (hi : i + 5 ≤ L) (hL : L ≤ 2560) (hcf : fC C kX9_gate [jI (σ.1 102 0 (nI i + nI 1).toNatClampNeg), jI (σ.1 102 0 (nI i + nI 2).toNatClampNeg), jI (σ.1 102 0 (nI i + nI 3).toNatClampNeg), jI (σ.1 102 0 (nI i + nI 4).toNatClampNeg)] (fun A => jI (f A)) nx) (hmf : fM C kX10_gate [jI (σ.1 102 0 (nI i + nI 1).toNatClampNeg), jI (σ.1 102 0 (nI i + nI 2).toNatClampNeg), jI (σ.1 102 0 (nI i + nI 3).toNatClampNeg), jI (σ.1 102 0 (nI i + nI 4).toNatClampNeg)] (fun A => jI (f A)) nx) (next : ∀ σ2, off 0 70 σ σ2 → bRA (nx A) σ2 → X (σ2, 1117, lvL i, [])) : X (σ, 181, lvL i, []) := by
  have hin : ∀ j, j < 5 → vp_in (nI i + nI j) L := fun j hj => by rw [nI_add]; exact vp_in_nI (by omega) (by omega)
  refine hg [1117] 90 _ ?_
  refine And.intro (hin 1 (by omega)) ?_
  refine And.intro (hin 2 (by omega)) ?_
  refine And.intro (hin 3 (by omega)) ?_
  refine And.intro (hin 4 (by omega)) ?_
  refine both' hcf hmf hb fun σ1 e1 call => ?_
  refine And.intro (hin 1 (by omega)) ?_
  refine And.intro (hin 2 (by omega)) ?_
  refine And.intro (hin 3 (by omega)) ?_
  refine And.intro (hin 4 (by omega)) ?_
  refine call _ (by first | rfl | (rw [e1] <;> rfl)) _ fun σ2 o2 b2 => ?_
  exact br_c (fun _ => next σ2 o2 b2) (fun h => absurd rfl h)
set_option maxRecDepth 20000 in
set_option maxHeartbeats 4000000 in
theorem lw_c2 {L : Nat} {C : jm_C} {post : Option jm_V → jm_G → Prop} {X : jm_S → Prop} (hg : ∀ (cut : List Nat) (n : Nat) (s : jm_S), jm_go L 11 3 iLw C post X cut n s → X s) {f : ast → Int32} {nx : ast → ast} {A : ast} {σ : jm_G} {i : Nat} (hb : bRA A σ) (hi : i + 5 ≤ L) (hL : L ≤ 2560) (hcf : fC C kX9_register [] (fun A => jI (f A)) nx) (hmf : fM C kX10_register [] (fun A => jI (f A)) nx) (next : ∀ σ2, off 0 70 σ σ2 → bRA (nx A) σ2 → X (σ2, 1117, lvL i, [])) : X (σ, 242, lvL i, []) := by
  refine hg [1117] 90 _ ?_
  refine both' hcf hmf hb fun σ1 e1 call => ?_
  refine call _ (by first | rfl | (rw [e1] <;> rfl)) _ fun σ2 o2 b2 => ?_
  exact br_c (fun _ => next σ2 o2 b2) (fun h => absurd rfl h)
set_option maxRecDepth 20000 in
set_option maxHeartbeats 4000000 in
theorem lw_c3 {L : Nat} {C : jm_C} {post : Option jm_V → jm_G → Prop} {X : jm_S → Prop} (hg : ∀ (cut : List Nat) (n : Nat) (s : jm_S), jm_go L 11 3 iLw C post X cut n s → X s) {f : ast → Int32} {nx : ast → ast} {A : ast} {σ : jm_G} {i : Nat} (hb : bRA A σ) (hi : i + 5 ≤ L) (hL : L ≤ 2560) (hcf : fC C kX9_feed [jI (σ.1 102 0 (nI i + nI 1).toNatClampNeg), jI (σ.1 102 0 (nI i + nI 2).toNatClampNeg)] (fun A => jI (f A)) nx) (hmf : fM C kX10_feed [jI (σ.1 102 0 (nI i + nI 1).toNatClampNeg), jI (σ.1 102 0 (nI i + nI 2).toNatClampNeg)] (fun A => jI (f A)) nx) (next : ∀ σ2, off 0 70 σ σ2 → bRA (nx A) σ2 → X (σ2, 1117, lvL i, [])) : X (σ, 255, lvL i, []) := by
  have hin : ∀ j, j < 5 → vp_in (nI i + nI j) L := fun j hj => by rw [nI_add]; exact vp_in_nI (by omega) (by omega)
  refine hg [1117] 90 _ ?_
  refine And.intro (hin 1 (by omega)) ?_
  refine And.intro (hin 2 (by omega)) ?_
  refine both' hcf hmf hb fun σ1 e1 call => ?_
  refine And.intro (hin 1 (by omega)) ?_
  refine And.intro (hin 2 (by omega)) ?_
  refine call _ (by first | rfl | (rw [e1] <;> rfl)) _ fun σ2 o2 b2 => ?_
  exact br_c (fun _ => next σ2 o2 b2) (fun h => absurd rfl h)
set_option maxRecDepth 20000 in
set_option maxHeartbeats 4000000 in
theorem lw_c4 {L : Nat} {C : jm_C} {post : Option jm_V → jm_G → Prop} {X : jm_S → Prop} (hg : ∀ (cut : List Nat) (n : Nat) (s : jm_S), jm_go L 11 3 iLw C post X cut n s → X s) {f : ast → Int32} {nx : ast → ast} {A : ast} {σ : jm_G} {i : Nat} (hb : bRA A σ) (hi : i + 5 ≤ L) (hL : L ≤ 2560) (hcf : fC C kX9_output [jI (σ.1 102 0 (nI i + nI 1).toNatClampNeg)] (fun A => jI (f A)) nx) (hmf : fM C kX10_output [jI (σ.1 102 0 (nI i + nI 1).toNatClampNeg)] (fun A => jI (f A)) nx) (next : ∀ σ2, off 0 70 σ σ2 → bRA (nx A) σ2 → X (σ2, 1117, lvL i, [])) : X (σ, 292, lvL i, []) := by
  have hin : ∀ j, j < 5 → vp_in (nI i + nI j) L := fun j hj => by rw [nI_add]; exact vp_in_nI (by omega) (by omega)
  refine hg [1117] 90 _ ?_
  refine And.intro (hin 1 (by omega)) ?_
  refine both' hcf hmf hb fun σ1 e1 call => ?_
  refine And.intro (hin 1 (by omega)) ?_
  refine call _ (by first | rfl | (rw [e1] <;> rfl)) _ fun σ2 o2 b2 => ?_
  exact br_c (fun _ => next σ2 o2 b2) (fun h => absurd rfl h)
set_option maxRecDepth 20000 in
set_option maxHeartbeats 4000000 in
theorem lw_c5 {L : Nat} {C : jm_C} {post : Option jm_V → jm_G → Prop} {X : jm_S → Prop} (hg : ∀ (cut : List Nat) (n : Nat) (s : jm_S), jm_go L 11 3 iLw C post X cut n s → X s) {f : ast → Int32} {nx : ast → ast} {A : ast} {σ : jm_G} {i : Nat} (hb : bRA A σ) (hi : i + 5 ≤ L) (hL : L ≤ 2560) (hcf : fC C kX9_inputs [jI (σ.1 102 0 (nI i + nI 1).toNatClampNeg)] (fun A => jI (f A)) nx) (hmf : fM C kX10_inputs [jI (σ.1 102 0 (nI i + nI 1).toNatClampNeg)] (fun A => jI (f A)) nx) (next : ∀ σ2, off 0 70 σ σ2 → bRA (nx A) σ2 → X (σ2, 1117, lvL i, [])) : X (σ, 317, lvL i, []) := by
  have hin : ∀ j, j < 5 → vp_in (nI i + nI j) L := fun j hj => by rw [nI_add]; exact vp_in_nI (by omega) (by omega)
  refine hg [1117] 90 _ ?_
  refine And.intro (hin 1 (by omega)) ?_
  refine both' hcf hmf hb fun σ1 e1 call => ?_
  refine And.intro (hin 1 (by omega)) ?_
  refine call _ (by first | rfl | (rw [e1] <;> rfl)) _ fun σ2 o2 b2 => ?_
  exact br_c (fun _ => next σ2 o2 b2) (fun h => absurd rfl h)
set_option maxRecDepth 20000 in
set_option maxHeartbeats 4000000 in
theorem lw_c6 {L : Nat} {C : jm_C} {post : Option jm_V → jm_G → Prop} {X : jm_S → Prop} (hg : ∀ (cut : List Nat) (n : Nat) (s : jm_S), jm_go L 11 3 iLw C post X cut n s → X s) {f : ast → Int32} {nx : ast → ast} {A : ast} {σ : jm_G} {i : Nat} (hb : bRA A σ) (hi : i + 5 ≤ L) (hL : L ≤ 2560) (hcf : fC C kX9_map [] (fun A => jI (f A)) nx) (hmf : fM C kX10_map [] (fun A => jI (f A)) nx) (next : ∀ σ2, off 0 70 σ σ2 → bRA (nx A) σ2 → X (σ2, 1117, lvL i, [])) : X (σ, 342, lvL i, []) := by
  refine hg [1117] 90 _ ?_
  refine both' hcf hmf hb fun σ1 e1 call => ?_
  refine call _ (by first | rfl | (rw [e1] <;> rfl)) _ fun σ2 o2 b2 => ?_
  exact br_c (fun _ => next σ2 o2 b2) (fun h => absurd rfl h)
set_option maxRecDepth 20000 in
set_option maxHeartbeats 4000000 in
theorem lw_c7 {L : Nat} {C : jm_C} {post : Option jm_V → jm_G → Prop} {X : jm_S → Prop} (hg : ∀ (cut : List Nat) (n : Nat) (s : jm_S), jm_go L 11 3 iLw C post X cut n s → X s) {f : ast → Int32} {nx : ast → ast} {A : ast} {σ : jm_G} {i : Nat} (hb : bRA A σ) (hi : i + 5 ≤ L) (hL : L ≤ 2560) (hcf : fC C kX9_again [jI (σ.1 102 0 (nI i + nI 1).toNatClampNeg)] (fun A => jI (f A)) nx) (hmf : fM C kX10_again [jI (σ.1 102 0 (nI i + nI 1).toNatClampNeg)] (fun A => jI (f A)) nx) (next : ∀ σ2, off 0 70 σ σ2 → bRA (nx A) σ2 → X (σ2, 1117, lvL i, [])) : X (σ, 355, lvL i, []) := by
  have hin : ∀ j, j < 5 → vp_in (nI i + nI j) L := fun j hj => by rw [nI_add]; exact vp_in_nI (by omega) (by omega)
  refine hg [1117] 90 _ ?_
  refine And.intro (hin 1 (by omega)) ?_
  refine both' hcf hmf hb fun σ1 e1 call => ?_
  refine And.intro (hin 1 (by omega)) ?_
  refine call _ (by first | rfl | (rw [e1] <;> rfl)) _ fun σ2 o2 b2 => ?_
  exact br_c (fun _ => next σ2 o2 b2) (fun h => absurd rfl h)
set_option maxRecDepth 20000 in
set_option maxHeartbeats 4000000 in
theorem lw_c9 {L : Nat} {C : jm_C} {post : Option jm_V → jm_G → Prop} {X : jm_S → Prop} (hg : ∀ (cut : List Nat) (n : Nat) (s : jm_S), jm_go L 11 3 iLw C post X cut n s → X s) {f : ast → Int32} {nx : ast → ast} {A : ast} {σ : jm_G} {i : Nat} (hb : bRA A σ) (hi : i + 5 ≤ L) (hL : L ≤ 2560) (hcf : fC C kX9_clock [jI (σ.1 102 0 (nI i + nI 1).toNatClampNeg)] (fun A => jI (f A)) nx) (hmf : fM C kX10_clock [jI (σ.1 102 0 (nI i + nI 1).toNatClampNeg)] (fun A => jI (f A)) nx) (next : ∀ σ2, off 0 70 σ σ2 → bRA (nx A) σ2 → X (σ2, 1117, lvL i, [])) : X (σ, 433, lvL i, []) := by
  have hin : ∀ j, j < 5 → vp_in (nI i + nI j) L := fun j hj => by rw [nI_add]; exact vp_in_nI (by omega) (by omega)
  refine hg [1117] 90 _ ?_
  refine And.intro (hin 1 (by omega)) ?_
  refine both' hcf hmf hb fun σ1 e1 call => ?_
  refine And.intro (hin 1 (by omega)) ?_
  refine call _ (by first | rfl | (rw [e1] <;> rfl)) _ fun σ2 o2 b2 => ?_
  exact br_c (fun _ => next σ2 o2 b2) (fun h => absurd rfl h)
set_option maxRecDepth 20000 in
set_option maxHeartbeats 4000000 in
theorem lw_c10 {L : Nat} {C : jm_C} {post : Option jm_V → jm_G → Prop} {X : jm_S → Prop} (hg : ∀ (cut : List Nat) (n : Nat) (s : jm_S), jm_go L 11 3 iLw C post X cut n s → X s) {f : ast → Int32} {nx : ast → ast} {A : ast} {σ : jm_G} {i : Nat} (hb : bRA A σ) (hi : i + 5 ≤ L) (hL : L ≤ 2560) (hcf : fC C kX9_node [jI (σ.1 102 0 (nI i + nI 1).toNatClampNeg), jI (σ.1 102 0 (nI i + nI 2).toNatClampNeg)] (fun A => jI (f A)) nx) (hmf : fM C kX10_node [jI (σ.1 102 0 (nI i + nI 1).toNatClampNeg), jI (σ.1 102 0 (nI i + nI 2).toNatClampNeg)] (fun A => jI (f A)) nx) (next : ∀ σ2, off 0 70 σ σ2 → bRA (nx A) σ2 → X (σ2, 1117, lvL i, [])) : X (σ, 458, lvL i, []) := by
  have hin : ∀ j, j < 5 → vp_in (nI i + nI j) L := fun j hj => by rw [nI_add]; exact vp_in_nI (by omega) (by omega)
  refine hg [1117] 90 _ ?_
  refine And.intro (hin 1 (by omega)) ?_
  refine And.intro (hin 2 (by omega)) ?_
  refine both' hcf hmf hb fun σ1 e1 call => ?_
  refine And.intro (hin 1 (by omega)) ?_
  refine And.intro (hin 2 (by omega)) ?_
  refine call _ (by first | rfl | (rw [e1] <;> rfl)) _ fun σ2 o2 b2 => ?_
  exact br_c (fun _ => next σ2 o2 b2) (fun h => absurd rfl h)
set_option maxRecDepth 20000 in
set_option maxHeartbeats 4000000 in
theorem lw_c11 {L : Nat} {C : jm_C} {post : Option jm_V → jm_G → Prop} {X : jm_S → Prop} (hg : ∀ (cut : List Nat) (n : Nat) (s : jm_S), jm_go L 11 3 iLw C post X cut n s → X s) {f : ast → Int32} {nx : ast → ast} {A : ast} {σ : jm_G} {i : Nat} (hb : bRA A σ) (hi : i + 5 ≤ L) (hL : L ≤ 2560) (hcf : fC C kX9_near [jI (σ.1 102 0 (nI i + nI 1).toNatClampNeg), jI (σ.1 102 0 (nI i + nI 2).toNatClampNeg)] (fun A => jI (f A)) nx) (hmf : fM C kX10_near [jI (σ.1 102 0 (nI i + nI 1).toNatClampNeg), jI (σ.1 102 0 (nI i + nI 2).toNatClampNeg)] (fun A => jI (f A)) nx) (next : ∀ σ2, off 0 70 σ σ2 → bRA (nx A) σ2 → X (σ2, 1117, lvL i, [])) : X (σ, 495, lvL i, []) := by
  have hin : ∀ j, j < 5 → vp_in (nI i + nI j) L := fun j hj => by rw [nI_add]; exact vp_in_nI (by omega) (by omega)
  refine hg [1117] 90 _ ?_
  refine And.intro (hin 1 (by omega)) ?_
  refine And.intro (hin 2 (by omega)) ?_
  refine both' hcf hmf hb fun σ1 e1 call => ?_
  refine And.intro (hin 1 (by omega)) ?_
  refine And.intro (hin 2 (by omega)) ?_
  refine call _ (by first | rfl | (rw [e1] <;> rfl)) _ fun σ2 o2 b2 => ?_
  exact br_c (fun _ => next σ2 o2 b2) (fun h => absurd rfl h)
set_option maxRecDepth 20000 in
set_option maxHeartbeats 4000000 in
theorem lw_c12 {L : Nat} {C : jm_C} {post : Option jm_V → jm_G → Prop} {X : jm_S → Prop} (hg : ∀ (cut : List Nat) (n : Nat) (s : jm_S), jm_go L 11 3 iLw C post X cut n s → X s) {f : ast → Int32} {nx : ast → ast} {A : ast} {σ : jm_G} {i : Nat} (hb : bRA A σ) (hi : i + 5 ≤ L) (hL : L ≤ 2560) (hcf : fC C kX9_cone [jI (σ.1 102 0 (nI i + nI 1).toNatClampNeg)] (fun A => jI (f A)) nx) (hmf : fM C kX10_cone [jI (σ.1 102 0 (nI i + nI 1).toNatClampNeg)] (fun A => jI (f A)) nx) (next : ∀ σ2, off 0 70 σ σ2 → bRA (nx A) σ2 → X (σ2, 1117, lvL i, [])) : X (σ, 532, lvL i, []) := by
  have hin : ∀ j, j < 5 → vp_in (nI i + nI j) L := fun j hj => by rw [nI_add]; exact vp_in_nI (by omega) (by omega)
  refine hg [1117] 90 _ ?_
  refine And.intro (hin 1 (by omega)) ?_
  refine both' hcf hmf hb fun σ1 e1 call => ?_
  refine And.intro (hin 1 (by omega)) ?_
  refine call _ (by first | rfl | (rw [e1] <;> rfl)) _ fun σ2 o2 b2 => ?_
  exact br_c (fun _ => next σ2 o2 b2) (fun h => absurd rfl h)
set_option maxRecDepth 20000 in
set_option maxHeartbeats 4000000 in
theorem lw_c13 {L : Nat} {C : jm_C} {post : Option jm_V → jm_G → Prop} {X : jm_S → Prop} (hg : ∀ (cut : List Nat) (n : Nat) (s : jm_S), jm_go L 11 3 iLw C post X cut n s → X s) {f : ast → Int64} {nx : ast → ast} {A : ast} {σ : jm_G} {i : Nat} (hb : bRA A σ) (hi : i + 5 ≤ L) (hL : L ≤ 2560) (hcf : fC C kX9_kept [jI (σ.1 102 0 (nI i + nI 1).toNatClampNeg), jI (σ.1 102 0 (nI i + nI 2).toNatClampNeg)] (fun A => jJ (f A)) nx) (hmf : fM C kX10_kept [jI (σ.1 102 0 (nI i + nI 1).toNatClampNeg), jI (σ.1 102 0 (nI i + nI 2).toNatClampNeg)] (fun A => jJ (f A)) nx) (next : ∀ σ2, off 0 70 σ σ2 → bRA (nx A) σ2 → X (σ2, 1117, lvL i, [])) : X (σ, 557, lvL i, []) := by
  have hin : ∀ j, j < 5 → vp_in (nI i + nI j) L := fun j hj => by rw [nI_add]; exact vp_in_nI (by omega) (by omega)
  refine hg [1117] 90 _ ?_
  refine And.intro (hin 1 (by omega)) ?_
  refine And.intro (hin 2 (by omega)) ?_
  refine both' hcf hmf hb fun σ1 e1 call => ?_
  refine And.intro (hin 1 (by omega)) ?_
  refine And.intro (hin 2 (by omega)) ?_
  refine call _ (by first | rfl | (rw [e1] <;> rfl)) _ fun σ2 o2 b2 => ?_
  exact br_c (fun _ => next σ2 o2 b2) (fun h => absurd ((cmp_0 _ _).mpr rfl) h)
set_option maxRecDepth 20000 in
set_option maxHeartbeats 4000000 in
theorem lw_c15 {L : Nat} {C : jm_C} {post : Option jm_V → jm_G → Prop} {X : jm_S → Prop} (hg : ∀ (cut : List Nat) (n : Nat) (s : jm_S), jm_go L 11 3 iLw C post X cut n s → X s) {f : ast → Int32} {nx : ast → ast} {A : ast} {σ : jm_G} {i : Nat} (hb : bRA A σ) (hi : i + 5 ≤ L) (hL : L ≤ 2560) (hcf : fC C kX9_depth [] (fun A => jI (f A)) nx) (hmf : fM C kX10_depth [] (fun A => jI (f A)) nx) (next : ∀ σ2, off 0 70 σ σ2 → bRA (nx A) σ2 → X (σ2, 1117, lvL i, [])) : X (σ, 664, lvL i, []) := by
  refine hg [1117] 90 _ ?_
  refine both' hcf hmf hb fun σ1 e1 call => ?_
  refine call _ (by first | rfl | (rw [e1] <;> rfl)) _ fun σ2 o2 b2 => ?_
  exact br_c (fun _ => next σ2 o2 b2) (fun h => absurd rfl h)
set_option maxRecDepth 20000 in
set_option maxHeartbeats 4000000 in
theorem lw_c16 {L : Nat} {C : jm_C} {post : Option jm_V → jm_G → Prop} {X : jm_S → Prop} (hg : ∀ (cut : List Nat) (n : Nat) (s : jm_S), jm_go L 11 3 iLw C post X cut n s → X s) {f : ast → Int64} {nx : ast → ast} {A : ast} {σ : jm_G} {i : Nat} (hb : bRA A σ) (hi : i + 5 ≤ L) (hL : L ≤ 2560) (hcf : fC C kX9_chosen [jI (σ.1 102 0 (nI i + nI 1).toNatClampNeg)] (fun A => jJ (f A)) nx) (hmf : fM C kX10_chosen [jI (σ.1 102 0 (nI i + nI 1).toNatClampNeg)] (fun A => jJ (f A)) nx) (next : ∀ σ2, off 0 70 σ σ2 → bRA (nx A) σ2 → X (σ2, 1117, lvL i, [])) : X (σ, 677, lvL i, []) := by
  have hin : ∀ j, j < 5 → vp_in (nI i + nI j) L := fun j hj => by rw [nI_add]; exact vp_in_nI (by omega) (by omega)
  refine hg [1117] 90 _ ?_
  refine And.intro (hin 1 (by omega)) ?_
  refine both' hcf hmf hb fun σ1 e1 call => ?_
  refine And.intro (hin 1 (by omega)) ?_
  refine call _ (by first | rfl | (rw [e1] <;> rfl)) _ fun σ2 o2 b2 => ?_
  exact br_c (fun _ => next σ2 o2 b2) (fun h => absurd ((cmp_0 _ _).mpr rfl) h)
set_option maxRecDepth 20000 in
set_option maxHeartbeats 4000000 in
theorem lw_c17 {L : Nat} {C : jm_C} {post : Option jm_V → jm_G → Prop} {X : jm_S → Prop} (hg : ∀ (cut : List Nat) (n : Nat) (s : jm_S), jm_go L 11 3 iLw C post X cut n s → X s) {f : ast → Int32} {nx : ast → ast} {A : ast} {σ : jm_G} {i : Nat} (hb : bRA A σ) (hi : i + 5 ≤ L) (hL : L ≤ 2560) (hcf : fC C kX9_table [jI (σ.1 102 0 (nI i + nI 1).toNatClampNeg), jI (σ.1 102 0 (nI i + nI 2).toNatClampNeg)] (fun A => jI (f A)) nx) (hmf : fM C kX10_table [jI (σ.1 102 0 (nI i + nI 1).toNatClampNeg), jI (σ.1 102 0 (nI i + nI 2).toNatClampNeg)] (fun A => jI (f A)) nx) (next : ∀ σ2, off 0 70 σ σ2 → bRA (nx A) σ2 → X (σ2, 1117, lvL i, [])) : X (σ, 703, lvL i, []) := by
  have hin : ∀ j, j < 5 → vp_in (nI i + nI j) L := fun j hj => by rw [nI_add]; exact vp_in_nI (by omega) (by omega)
  refine hg [1117] 90 _ ?_
  refine And.intro (hin 1 (by omega)) ?_
  refine And.intro (hin 2 (by omega)) ?_
  refine both' hcf hmf hb fun σ1 e1 call => ?_
  refine And.intro (hin 1 (by omega)) ?_
  refine And.intro (hin 2 (by omega)) ?_
  refine call _ (by first | rfl | (rw [e1] <;> rfl)) _ fun σ2 o2 b2 => ?_
  exact br_c (fun _ => next σ2 o2 b2) (fun h => absurd rfl h)
set_option maxRecDepth 20000 in
set_option maxHeartbeats 4000000 in
theorem lw_c19 {L : Nat} {C : jm_C} {post : Option jm_V → jm_G → Prop} {X : jm_S → Prop} (hg : ∀ (cut : List Nat) (n : Nat) (s : jm_S), jm_go L 11 3 iLw C post X cut n s → X s) {f : ast → Int32} {nx : ast → ast} {A : ast} {σ : jm_G} {i : Nat} (hb : bRA A σ) (hi : i + 5 ≤ L) (hL : L ≤ 2560) (hcf : fC C kX9_mapped [jI (σ.1 102 0 (nI i + nI 1).toNatClampNeg)] (fun A => jI (f A)) nx) (hmf : fM C kX10_mapped [jI (σ.1 102 0 (nI i + nI 1).toNatClampNeg)] (fun A => jI (f A)) nx) (next : ∀ σ2, off 0 70 σ σ2 → bRA (nx A) σ2 → X (σ2, 1117, lvL i, [])) : X (σ, 795, lvL i, []) := by
  have hin : ∀ j, j < 5 → vp_in (nI i + nI j) L := fun j hj => by rw [nI_add]; exact vp_in_nI (by omega) (by omega)
  refine hg [1117] 90 _ ?_
  refine And.intro (hin 1 (by omega)) ?_
  refine both' hcf hmf hb fun σ1 e1 call => ?_
  refine And.intro (hin 1 (by omega)) ?_
  refine call _ (by first | rfl | (rw [e1] <;> rfl)) _ fun σ2 o2 b2 => ?_
  exact br_c (fun _ => next σ2 o2 b2) (fun h => absurd rfl h)
set_option maxRecDepth 20000 in
set_option maxHeartbeats 4000000 in
theorem lw_c20 {L : Nat} {C : jm_C} {post : Option jm_V → jm_G → Prop} {X : jm_S → Prop} (hg : ∀ (cut : List Nat) (n : Nat) (s : jm_S), jm_go L 11 3 iLw C post X cut n s → X s) {f : ast → Int32} {nx : ast → ast} {A : ast} {σ : jm_G} {i : Nat} (hb : bRA A σ) (hi : i + 5 ≤ L) (hL : L ≤ 2560) (hcf : fC C kX9_cell [jI (σ.1 102 0 (nI i + nI 1).toNatClampNeg), jI (σ.1 102 0 (nI i + nI 2).toNatClampNeg)] (fun A => jI (f A)) nx) (hmf : fM C kX10_cell [jI (σ.1 102 0 (nI i + nI 1).toNatClampNeg), jI (σ.1 102 0 (nI i + nI 2).toNatClampNeg)] (fun A => jI (f A)) nx) (next : ∀ σ2, off 0 70 σ σ2 → bRA (nx A) σ2 → X (σ2, 1117, lvL i, [])) : X (σ, 820, lvL i, []) := by
  have hin : ∀ j, j < 5 → vp_in (nI i + nI j) L := fun j hj => by rw [nI_add]; exact vp_in_nI (by omega) (by omega)
  refine hg [1117] 90 _ ?_
  refine And.intro (hin 1 (by omega)) ?_
  refine And.intro (hin 2 (by omega)) ?_
  refine both' hcf hmf hb fun σ1 e1 call => ?_
  refine And.intro (hin 1 (by omega)) ?_
  refine And.intro (hin 2 (by omega)) ?_
  refine call _ (by first | rfl | (rw [e1] <;> rfl)) _ fun σ2 o2 b2 => ?_
  exact br_c (fun _ => next σ2 o2 b2) (fun h => absurd rfl h)
set_option maxRecDepth 20000 in
set_option maxHeartbeats 4000000 in
theorem lw_c21 {L : Nat} {C : jm_C} {post : Option jm_V → jm_G → Prop} {X : jm_S → Prop} (hg : ∀ (cut : List Nat) (n : Nat) (s : jm_S), jm_go L 11 3 iLw C post X cut n s → X s) {f : ast → Int32} {nx : ast → ast} {A : ast} {σ : jm_G} {i : Nat} (hb : bRA A σ) (hi : i + 5 ≤ L) (hL : L ≤ 2560) (hcf : fC C kX9_clusters [jI (σ.1 102 0 (nI i + nI 1).toNatClampNeg), jI (σ.1 102 0 (nI i + nI 2).toNatClampNeg)] (fun A => jI (f A)) nx) (hmf : fM C kX10_clusters [jI (σ.1 102 0 (nI i + nI 1).toNatClampNeg), jI (σ.1 102 0 (nI i + nI 2).toNatClampNeg)] (fun A => jI (f A)) nx) (next : ∀ σ2, off 0 70 σ σ2 → bRA (nx A) σ2 → X (σ2, 1117, lvL i, [])) : X (σ, 857, lvL i, []) := by
  have hin : ∀ j, j < 5 → vp_in (nI i + nI j) L := fun j hj => by rw [nI_add]; exact vp_in_nI (by omega) (by omega)
  refine hg [1117] 90 _ ?_
  refine And.intro (hin 1 (by omega)) ?_
  refine And.intro (hin 2 (by omega)) ?_
  refine both' hcf hmf hb fun σ1 e1 call => ?_
  refine And.intro (hin 1 (by omega)) ?_
  refine And.intro (hin 2 (by omega)) ?_
  refine call _ (by first | rfl | (rw [e1] <;> rfl)) _ fun σ2 o2 b2 => ?_
  exact br_c (fun _ => next σ2 o2 b2) (fun h => absurd rfl h)
set_option maxRecDepth 20000 in
set_option maxHeartbeats 4000000 in
theorem lw_c22 {L : Nat} {C : jm_C} {post : Option jm_V → jm_G → Prop} {X : jm_S → Prop} (hg : ∀ (cut : List Nat) (n : Nat) (s : jm_S), jm_go L 11 3 iLw C post X cut n s → X s) {f : ast → Int32} {nx : ast → ast} {A : ast} {σ : jm_G} {i : Nat} (hb : bRA A σ) (hi : i + 5 ≤ L) (hL : L ≤ 2560) (hcf : fC C kX9_cluster [jI (σ.1 102 0 (nI i + nI 1).toNatClampNeg), jI (σ.1 102 0 (nI i + nI 2).toNatClampNeg), jI (σ.1 102 0 (nI i + nI 3).toNatClampNeg)] (fun A => jI (f A)) nx) (hmf : fM C kX10_cluster [jI (σ.1 102 0 (nI i + nI 1).toNatClampNeg), jI (σ.1 102 0 (nI i + nI 2).toNatClampNeg), jI (σ.1 102 0 (nI i + nI 3).toNatClampNeg)] (fun A => jI (f A)) nx) (next : ∀ σ2, off 0 70 σ σ2 → bRA (nx A) σ2 → X (σ2, 1117, lvL i, [])) : X (σ, 894, lvL i, []) := by
  have hin : ∀ j, j < 5 → vp_in (nI i + nI j) L := fun j hj => by rw [nI_add]; exact vp_in_nI (by omega) (by omega)
  refine hg [1117] 90 _ ?_
  refine And.intro (hin 1 (by omega)) ?_
  refine And.intro (hin 2 (by omega)) ?_
  refine And.intro (hin 3 (by omega)) ?_
  refine both' hcf hmf hb fun σ1 e1 call => ?_
  refine And.intro (hin 1 (by omega)) ?_
  refine And.intro (hin 2 (by omega)) ?_
  refine And.intro (hin 3 (by omega)) ?_
  refine call _ (by first | rfl | (rw [e1] <;> rfl)) _ fun σ2 o2 b2 => ?_
  exact br_c (fun _ => next σ2 o2 b2) (fun h => absurd rfl h)
set_option maxRecDepth 20000 in
set_option maxHeartbeats 4000000 in
theorem lw_c23 {L : Nat} {C : jm_C} {post : Option jm_V → jm_G → Prop} {X : jm_S → Prop} (hg : ∀ (cut : List Nat) (n : Nat) (s : jm_S), jm_go L 11 3 iLw C post X cut n s → X s) {f : ast → Int32} {nx : ast → ast} {A : ast} {σ : jm_G} {i : Nat} (hb : bRA A σ) (hi : i + 5 ≤ L) (hL : L ≤ 2560) (hcf : fC C kX9_cross [jI (σ.1 102 0 (nI i + nI 1).toNatClampNeg), jI (σ.1 102 0 (nI i + nI 2).toNatClampNeg)] (fun A => jI (f A)) nx) (hmf : fM C kX10_cross [jI (σ.1 102 0 (nI i + nI 1).toNatClampNeg), jI (σ.1 102 0 (nI i + nI 2).toNatClampNeg)] (fun A => jI (f A)) nx) (next : ∀ σ2, off 0 70 σ σ2 → bRA (nx A) σ2 → X (σ2, 1117, lvL i, [])) : X (σ, 943, lvL i, []) := by
  have hin : ∀ j, j < 5 → vp_in (nI i + nI j) L := fun j hj => by rw [nI_add]; exact vp_in_nI (by omega) (by omega)
  refine hg [1117] 90 _ ?_
  refine And.intro (hin 1 (by omega)) ?_
  refine And.intro (hin 2 (by omega)) ?_
  refine both' hcf hmf hb fun σ1 e1 call => ?_
  refine And.intro (hin 1 (by omega)) ?_
  refine And.intro (hin 2 (by omega)) ?_
  refine call _ (by first | rfl | (rw [e1] <;> rfl)) _ fun σ2 o2 b2 => ?_
  exact br_c (fun _ => next σ2 o2 b2) (fun h => absurd rfl h)
set_option maxRecDepth 20000 in
set_option maxHeartbeats 4000000 in
theorem lw_c24 {L : Nat} {C : jm_C} {post : Option jm_V → jm_G → Prop} {X : jm_S → Prop} (hg : ∀ (cut : List Nat) (n : Nat) (s : jm_S), jm_go L 11 3 iLw C post X cut n s → X s) {f : ast → Int32} {nx : ast → ast} {A : ast} {σ : jm_G} {i : Nat} (hb : bRA A σ) (hi : i + 5 ≤ L) (hL : L ≤ 2560) (hcf : fC C kX9_is [jI (σ.1 102 0 (nI i + nI 1).toNatClampNeg)] (fun A => jI (f A)) nx) (hmf : fM C kX10_is [jI (σ.1 102 0 (nI i + nI 1).toNatClampNeg)] (fun A => jI (f A)) nx) (next : ∀ σ2, off 0 70 σ σ2 → bRA (nx A) σ2 → X (σ2, 1117, lvL i, [])) : X (σ, 980, lvL i, []) := by
  have hin : ∀ j, j < 5 → vp_in (nI i + nI j) L := fun j hj => by rw [nI_add]; exact vp_in_nI (by omega) (by omega)
  refine hg [1117] 90 _ ?_
  refine And.intro (hin 1 (by omega)) ?_
  refine both' hcf hmf hb fun σ1 e1 call => ?_
  refine And.intro (hin 1 (by omega)) ?_
  refine call _ (by first | rfl | (rw [e1] <;> rfl)) _ fun σ2 o2 b2 => ?_
  exact br_c (fun _ => next σ2 o2 b2) (fun h => absurd rfl h)
set_option maxRecDepth 20000 in
set_option maxHeartbeats 4000000 in
theorem lw_c25 {L : Nat} {C : jm_C} {post : Option jm_V → jm_G → Prop} {X : jm_S → Prop} (hg : ∀ (cut : List Nat) (n : Nat) (s : jm_S), jm_go L 11 3 iLw C post X cut n s → X s) {f : ast → Int32} {nx : ast → ast} {A : ast} {σ : jm_G} {i : Nat} (hb : bRA A σ) (hi : i + 5 ≤ L) (hL : L ≤ 2560) (hcf : fC C kX9_comes [jI (σ.1 102 0 (nI i + nI 1).toNatClampNeg)] (fun A => jI (f A)) nx) (hmf : fM C kX10_comes_ [jI (σ.1 102 0 (nI i + nI 1).toNatClampNeg)] (fun A => jI (f A)) nx) (next : ∀ σ2, off 0 70 σ σ2 → bRA (nx A) σ2 → X (σ2, 1117, lvL i, [])) : X (σ, 1005, lvL i, []) := by
  have hin : ∀ j, j < 5 → vp_in (nI i + nI j) L := fun j hj => by rw [nI_add]; exact vp_in_nI (by omega) (by omega)
  refine hg [1117] 90 _ ?_
  refine And.intro (hin 1 (by omega)) ?_
  refine both' hcf hmf hb fun σ1 e1 call => ?_
  refine And.intro (hin 1 (by omega)) ?_
  refine call _ (by first | rfl | (rw [e1] <;> rfl)) _ fun σ2 o2 b2 => ?_
  exact br_c (fun _ => next σ2 o2 b2) (fun h => absurd rfl h)
set_option maxRecDepth 20000 in
set_option maxHeartbeats 4000000 in
theorem lw_c26 {L : Nat} {C : jm_C} {post : Option jm_V → jm_G → Prop} {X : jm_S → Prop} (hg : ∀ (cut : List Nat) (n : Nat) (s : jm_S), jm_go L 11 3 iLw C post X cut n s → X s) {f : ast → Int32} {nx : ast → ast} {A : ast} {σ : jm_G} {i : Nat} (hb : bRA A σ) (hi : i + 5 ≤ L) (hL : L ≤ 2560) (hcf : fC C kX9_differs [jI (σ.1 102 0 (nI i + nI 1).toNatClampNeg), jI (σ.1 102 0 (nI i + nI 2).toNatClampNeg)] (fun A => jI (f A)) nx) (hmf : fM C kX10_differs [jI (σ.1 102 0 (nI i + nI 1).toNatClampNeg), jI (σ.1 102 0 (nI i + nI 2).toNatClampNeg)] (fun A => jI (f A)) nx) (next : ∀ σ2, off 0 70 σ σ2 → bRA (nx A) σ2 → X (σ2, 1117, lvL i, [])) : X (σ, 1030, lvL i, []) := by
  have hin : ∀ j, j < 5 → vp_in (nI i + nI j) L := fun j hj => by rw [nI_add]; exact vp_in_nI (by omega) (by omega)
  refine hg [1117] 90 _ ?_
  refine And.intro (hin 1 (by omega)) ?_
  refine And.intro (hin 2 (by omega)) ?_
  refine both' hcf hmf hb fun σ1 e1 call => ?_
  refine And.intro (hin 1 (by omega)) ?_
  refine And.intro (hin 2 (by omega)) ?_
  refine call _ (by first | rfl | (rw [e1] <;> rfl)) _ fun σ2 o2 b2 => ?_
  exact br_c (fun _ => next σ2 o2 b2) (fun h => absurd rfl h)
set_option maxRecDepth 20000 in
set_option maxHeartbeats 4000000 in
theorem lw_c27 {L : Nat} {C : jm_C} {post : Option jm_V → jm_G → Prop} {X : jm_S → Prop} (hg : ∀ (cut : List Nat) (n : Nat) (s : jm_S), jm_go L 11 3 iLw C post X cut n s → X s) {f : ast → Int32} {nx : ast → ast} {A : ast} {σ : jm_G} {i : Nat} (hb : bRA A σ) (hi : i + 5 ≤ L) (hL : L ≤ 2560) (hcf : fC C kX9_slow [jI (σ.1 102 0 (nI i + nI 1).toNatClampNeg)] (fun A => jI (f A)) nx) (hmf : fM C kX10_slow [jI (σ.1 102 0 (nI i + nI 1).toNatClampNeg)] (fun A => jI (f A)) nx) (next : ∀ σ2, off 0 70 σ σ2 → bRA (nx A) σ2 → X (σ2, 1117, lvL i, [])) : X (σ, 1067, lvL i, []) := by
  have hin : ∀ j, j < 5 → vp_in (nI i + nI j) L := fun j hj => by rw [nI_add]; exact vp_in_nI (by omega) (by omega)
  refine hg [1117] 90 _ ?_
  refine And.intro (hin 1 (by omega)) ?_
  refine both' hcf hmf hb fun σ1 e1 call => ?_
  refine And.intro (hin 1 (by omega)) ?_
  refine call _ (by first | rfl | (rw [e1] <;> rfl)) _ fun σ2 o2 b2 => ?_
  exact br_c (fun _ => next σ2 o2 b2) (fun h => absurd rfl h)
set_option maxRecDepth 20000 in
set_option maxHeartbeats 4000000 in
theorem lw_c28 {L : Nat} {C : jm_C} {post : Option jm_V → jm_G → Prop} {X : jm_S → Prop} (hg : ∀ (cut : List Nat) (n : Nat) (s : jm_S), jm_go L 11 3 iLw C post X cut n s → X s) {f : ast → Int32} {nx : ast → ast} {A : ast} {σ : jm_G} {i : Nat} (hb : bRA A σ) (hi : i + 5 ≤ L) (hL : L ≤ 2560) (hcf : fC C kX9_count [jI (σ.1 102 0 (nI i + nI 1).toNatClampNeg)] (fun A => jI (f A)) nx) (hmf : fM C kX10_count [jI (σ.1 102 0 (nI i + nI 1).toNatClampNeg)] (fun A => jI (f A)) nx) (next : ∀ σ2, off 0 70 σ σ2 → bRA (nx A) σ2 → X (σ2, 1117, lvL i, [])) : X (σ, 1092, lvL i, []) := by
  have hin : ∀ j, j < 5 → vp_in (nI i + nI j) L := fun j hj => by rw [nI_add]; exact vp_in_nI (by omega) (by omega)
  refine hg [1117] 90 _ ?_
  refine And.intro (hin 1 (by omega)) ?_
  refine both' hcf hmf hb fun σ1 e1 call => ?_
  refine And.intro (hin 1 (by omega)) ?_
  refine call _ (by first | rfl | (rw [e1] <;> rfl)) _ fun σ2 o2 b2 => ?_
  exact br_c (fun _ => next σ2 o2 b2) (fun h => absurd rfl h)
