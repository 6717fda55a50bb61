/-! ===== the law's own rows (printed by wip/tools/mkdf.py) ===== -/
def k_L_law_0 : List (Nat × Instr × Nat) :=
  [(0, .new 8, 3), (3, .dup, 1), (4, .invokespecial 17, 3), (7, .astore_n 1, 1), (8, .new 18, 3), (11, .dup, 1), (12, .invokespecial 20, 3), (15, .astore_n 2, 1),
   (16, .iconst 1, 1), (17, .newarray .long, 2), (19, .astore_n 3, 1), (20, .iconst 0, 1), (21, .istore 4, 2), (23, .iload 4, 2), (25, .aload_n 0, 1), (26, .arraylength, 1),
   (27, .bipush 6, 2), (29, .isub, 1), (30, .if_icmp .gt 1553, 3), (33, .aload_n 0, 1), (34, .iload 4, 2), (36, .iaload, 1), (37, .bipush 63, 2), (39, .iand, 1),
   (40, .tableswitch 1537 0 38 #[172, 245, 270, 295, 332, 400, 437, 474, 524, 561, 598, 623, 648, 697, 722, 748, 785, 822, 848, 873, 910, 935, 960, 985, 998, 1047, 1096, 1173, 1250, 1275, 1300, 1325, 1350, 1363, 1424, 1473, 1486, 1499, 1512], 172), (212, .aload_n 1, 1), (213, .aload_n 0, 1), (214, .iload 4, 2), (216, .iconst 1, 1), (217, .iadd, 1), (218, .iaload, 1), (219, .aload_n 0, 1),
   (220, .iload 4, 2), (222, .iconst 2, 1), (223, .iadd, 1), (224, .iaload, 1), (225, .aload_n 0, 1), (226, .iload 4, 2), (228, .iconst 3, 1), (229, .iadd, 1),
   (230, .iaload, 1), (231, .aload_n 0, 1), (232, .iload 4, 2), (234, .iconst 4, 1), (235, .iadd, 1), (236, .iaload, 1), (237, .aload_n 0, 1), (238, .iload 4, 2)]
def k_L_law_1 : List (Nat × Instr × Nat) :=
  [(240, .iconst 5, 1), (241, .iadd, 1), (242, .iaload, 1), (243, .invokevirtual 21, 3), (246, .aload_n 2, 1), (247, .aload_n 0, 1), (248, .iload 4, 2), (250, .iconst 1, 1),
   (251, .iadd, 1), (252, .iaload, 1), (253, .aload_n 0, 1), (254, .iload 4, 2), (256, .iconst 2, 1), (257, .iadd, 1), (258, .iaload, 1), (259, .aload_n 0, 1),
   (260, .iload 4, 2), (262, .iconst 3, 1), (263, .iadd, 1), (264, .iaload, 1), (265, .aload_n 0, 1), (266, .iload 4, 2), (268, .iconst 4, 1), (269, .iadd, 1),
   (270, .iaload, 1), (271, .aload_n 0, 1), (272, .iload 4, 2), (274, .iconst 5, 1), (275, .iadd, 1), (276, .iaload, 1), (277, .invokevirtual 25, 3), (280, .if_icmp .eq 1297, 3),
   (283, .iconst 0, 1), (284, .ireturn, 1), (285, .aload_n 1, 1), (286, .aload_n 0, 1), (287, .iload 4, 2), (289, .iconst 1, 1), (290, .iadd, 1), (291, .iaload, 1),
   (292, .invokevirtual 26, 3), (295, .aload_n 2, 1), (296, .aload_n 0, 1), (297, .iload 4, 2), (299, .iconst 1, 1), (300, .iadd, 1), (301, .iaload, 1), (302, .invokevirtual 30, 3)]
def k_L_law_2 : List (Nat × Instr × Nat) :=
  [(305, .if_icmp .eq 1272, 3), (308, .iconst 0, 1), (309, .ireturn, 1), (310, .aload_n 1, 1), (311, .aload_n 0, 1), (312, .iload 4, 2), (314, .iconst 1, 1), (315, .iadd, 1),
   (316, .iaload, 1), (317, .invokevirtual 31, 3), (320, .aload_n 2, 1), (321, .aload_n 0, 1), (322, .iload 4, 2), (324, .iconst 1, 1), (325, .iadd, 1), (326, .iaload, 1),
   (327, .invokevirtual 34, 3), (330, .if_icmp .eq 1247, 3), (333, .iconst 0, 1), (334, .ireturn, 1), (335, .aload_n 1, 1), (336, .aload_n 0, 1), (337, .iload 4, 2), (339, .iconst 1, 1),
   (340, .iadd, 1), (341, .iaload, 1), (342, .aload_n 0, 1), (343, .iload 4, 2), (345, .iconst 2, 1), (346, .iadd, 1), (347, .iaload, 1), (348, .invokevirtual 35, 3),
   (351, .aload_n 2, 1), (352, .aload_n 0, 1), (353, .iload 4, 2), (355, .iconst 1, 1), (356, .iadd, 1), (357, .iaload, 1), (358, .aload_n 0, 1), (359, .iload 4, 2),
   (361, .iconst 2, 1), (362, .iadd, 1), (363, .iaload, 1), (364, .invokevirtual 38, 3), (367, .if_icmp .eq 1210, 3), (370, .iconst 0, 1), (371, .ireturn, 1), (372, .aload_n 1, 1)]
def k_L_law_3 : List (Nat × Instr × Nat) :=
  [(373, .aload_n 0, 1), (374, .iload 4, 2), (376, .iconst 1, 1), (377, .iadd, 1), (378, .iaload, 1), (379, .aload_n 0, 1), (380, .iload 4, 2), (382, .iconst 2, 1),
   (383, .iadd, 1), (384, .iaload, 1), (385, .aload_n 3, 1), (386, .invokestatic 39, 3), (389, .istore 5, 2), (391, .aload_n 2, 1), (392, .aload_n 0, 1), (393, .iload 4, 2),
   (395, .iconst 1, 1), (396, .iadd, 1), (397, .iaload, 1), (398, .aload_n 0, 1), (399, .iload 4, 2), (401, .iconst 2, 1), (402, .iadd, 1), (403, .iaload, 1),
   (404, .invokevirtual 44, 3), (407, .istore 6, 2), (409, .aload_n 2, 1), (410, .invokevirtual 45, 3), (413, .iload 5, 2), (415, .if_icmp .eq 5, 3), (418, .iconst 0, 1), (419, .ireturn, 1),
   (420, .iload 5, 2), (422, .ifCond .ne 15, 3), (425, .aload_n 3, 1), (426, .iconst 0, 1), (427, .laload, 1), (428, .iload 6, 2), (430, .i2l, 1), (431, .lcmp, 1),
   (432, .ifCond .eq 5, 3), (435, .iconst 0, 1), (436, .ireturn, 1), (437, .goto 1140, 3), (440, .aload_n 1, 1), (441, .aload_n 0, 1), (442, .iload 4, 2), (444, .iconst 1, 1)]
def k_L_law_4 : List (Nat × Instr × Nat) :=
  [(445, .iadd, 1), (446, .iaload, 1), (447, .aload_n 0, 1), (448, .iload 4, 2), (450, .iconst 2, 1), (451, .iadd, 1), (452, .iaload, 1), (453, .invokevirtual 49, 3),
   (456, .aload_n 2, 1), (457, .aload_n 0, 1), (458, .iload 4, 2), (460, .iconst 1, 1), (461, .iadd, 1), (462, .iaload, 1), (463, .aload_n 0, 1), (464, .iload 4, 2),
   (466, .iconst 2, 1), (467, .iadd, 1), (468, .iaload, 1), (469, .invokevirtual 52, 3), (472, .if_icmp .eq 1105, 3), (475, .iconst 0, 1), (476, .ireturn, 1), (477, .aload_n 1, 1),
   (478, .aload_n 0, 1), (479, .iload 4, 2), (481, .iconst 1, 1), (482, .iadd, 1), (483, .iaload, 1), (484, .aload_n 0, 1), (485, .iload 4, 2), (487, .iconst 2, 1),
   (488, .iadd, 1), (489, .iaload, 1), (490, .invokevirtual 53, 3), (493, .aload_n 2, 1), (494, .aload_n 0, 1), (495, .iload 4, 2), (497, .iconst 1, 1), (498, .iadd, 1),
   (499, .iaload, 1), (500, .aload_n 0, 1), (501, .iload 4, 2), (503, .iconst 2, 1), (504, .iadd, 1), (505, .iaload, 1), (506, .invokevirtual 56, 3), (509, .if_icmp .eq 1068, 3)]
def k_L_law_5 : List (Nat × Instr × Nat) :=
  [(512, .iconst 0, 1), (513, .ireturn, 1), (514, .aload_n 1, 1), (515, .aload_n 0, 1), (516, .iload 4, 2), (518, .iconst 1, 1), (519, .iadd, 1), (520, .iaload, 1),
   (521, .aload_n 0, 1), (522, .iload 4, 2), (524, .iconst 2, 1), (525, .iadd, 1), (526, .iaload, 1), (527, .aload_n 0, 1), (528, .iload 4, 2), (530, .iconst 3, 1),
   (531, .iadd, 1), (532, .iaload, 1), (533, .invokevirtual 57, 3), (536, .aload_n 2, 1), (537, .aload_n 0, 1), (538, .iload 4, 2), (540, .iconst 1, 1), (541, .iadd, 1),
   (542, .iaload, 1), (543, .aload_n 0, 1), (544, .iload 4, 2), (546, .iconst 2, 1), (547, .iadd, 1), (548, .iaload, 1), (549, .aload_n 0, 1), (550, .iload 4, 2),
   (552, .iconst 3, 1), (553, .iadd, 1), (554, .iaload, 1), (555, .invokevirtual 61, 3), (558, .lcmp, 1), (559, .ifCond .eq 1018, 3), (562, .iconst 0, 1), (563, .ireturn, 1),
   (564, .aload_n 1, 1), (565, .aload_n 0, 1), (566, .iload 4, 2), (568, .iconst 1, 1), (569, .iadd, 1), (570, .iaload, 1), (571, .aload_n 0, 1), (572, .iload 4, 2)]
def k_L_law_6 : List (Nat × Instr × Nat) :=
  [(574, .iconst 2, 1), (575, .iadd, 1), (576, .iaload, 1), (577, .invokevirtual 62, 3), (580, .aload_n 2, 1), (581, .aload_n 0, 1), (582, .iload 4, 2), (584, .iconst 1, 1),
   (585, .iadd, 1), (586, .iaload, 1), (587, .aload_n 0, 1), (588, .iload 4, 2), (590, .iconst 2, 1), (591, .iadd, 1), (592, .iaload, 1), (593, .invokevirtual 66, 3),
   (596, .if_icmp .eq 981, 3), (599, .iconst 0, 1), (600, .ireturn, 1), (601, .aload_n 1, 1), (602, .aload_n 0, 1), (603, .iload 4, 2), (605, .iconst 1, 1), (606, .iadd, 1),
   (607, .iaload, 1), (608, .aload_n 0, 1), (609, .iload 4, 2), (611, .iconst 2, 1), (612, .iadd, 1), (613, .iaload, 1), (614, .invokevirtual 67, 3), (617, .aload_n 2, 1),
   (618, .aload_n 0, 1), (619, .iload 4, 2), (621, .iconst 1, 1), (622, .iadd, 1), (623, .iaload, 1), (624, .aload_n 0, 1), (625, .iload 4, 2), (627, .iconst 2, 1),
   (628, .iadd, 1), (629, .iaload, 1), (630, .invokevirtual 70, 3), (633, .if_icmp .eq 944, 3), (636, .iconst 0, 1), (637, .ireturn, 1), (638, .aload_n 1, 1), (639, .aload_n 0, 1)]
def k_L_law_7 : List (Nat × Instr × Nat) :=
  [(640, .iload 4, 2), (642, .iconst 1, 1), (643, .iadd, 1), (644, .iaload, 1), (645, .invokevirtual 71, 3), (648, .aload_n 2, 1), (649, .aload_n 0, 1), (650, .iload 4, 2),
   (652, .iconst 1, 1), (653, .iadd, 1), (654, .iaload, 1), (655, .invokevirtual 74, 3), (658, .if_icmp .eq 919, 3), (661, .iconst 0, 1), (662, .ireturn, 1), (663, .aload_n 1, 1),
   (664, .aload_n 0, 1), (665, .iload 4, 2), (667, .iconst 1, 1), (668, .iadd, 1), (669, .iaload, 1), (670, .invokevirtual 75, 3), (673, .aload_n 2, 1), (674, .aload_n 0, 1),
   (675, .iload 4, 2), (677, .iconst 1, 1), (678, .iadd, 1), (679, .iaload, 1), (680, .invokevirtual 78, 3), (683, .if_icmp .eq 894, 3), (686, .iconst 0, 1), (687, .ireturn, 1),
   (688, .aload_n 1, 1), (689, .aload_n 0, 1), (690, .iload 4, 2), (692, .iconst 1, 1), (693, .iadd, 1), (694, .iaload, 1), (695, .aload_n 0, 1), (696, .iload 4, 2),
   (698, .iconst 2, 1), (699, .iadd, 1), (700, .iaload, 1), (701, .aload_n 0, 1), (702, .iload 4, 2), (704, .iconst 3, 1), (705, .iadd, 1), (706, .iaload, 1)]
def k_L_law_8 : List (Nat × Instr × Nat) :=
  [(707, .invokevirtual 79, 3), (710, .aload_n 2, 1), (711, .aload_n 0, 1), (712, .iload 4, 2), (714, .iconst 1, 1), (715, .iadd, 1), (716, .iaload, 1), (717, .aload_n 0, 1),
   (718, .iload 4, 2), (720, .iconst 2, 1), (721, .iadd, 1), (722, .iaload, 1), (723, .aload_n 0, 1), (724, .iload 4, 2), (726, .iconst 3, 1), (727, .iadd, 1),
   (728, .iaload, 1), (729, .invokevirtual 83, 3), (732, .if_icmp .eq 845, 3), (735, .iconst 0, 1), (736, .ireturn, 1), (737, .aload_n 1, 1), (738, .aload_n 0, 1), (739, .iload 4, 2),
   (741, .iconst 1, 1), (742, .iadd, 1), (743, .iaload, 1), (744, .invokevirtual 84, 3), (747, .aload_n 2, 1), (748, .aload_n 0, 1), (749, .iload 4, 2), (751, .iconst 1, 1),
   (752, .iadd, 1), (753, .iaload, 1), (754, .invokevirtual 87, 3), (757, .if_icmp .eq 820, 3), (760, .iconst 0, 1), (761, .ireturn, 1), (762, .aload_n 1, 1), (763, .aload_n 0, 1),
   (764, .iload 4, 2), (766, .iconst 1, 1), (767, .iadd, 1), (768, .iaload, 1), (769, .invokevirtual 88, 3), (772, .aload_n 2, 1), (773, .aload_n 0, 1), (774, .iload 4, 2)]
def k_L_law_9 : List (Nat × Instr × Nat) :=
  [(776, .iconst 1, 1), (777, .iadd, 1), (778, .iaload, 1), (779, .invokevirtual 92, 3), (782, .lcmp, 1), (783, .ifCond .eq 794, 3), (786, .iconst 0, 1), (787, .ireturn, 1),
   (788, .aload_n 1, 1), (789, .aload_n 0, 1), (790, .iload 4, 2), (792, .iconst 1, 1), (793, .iadd, 1), (794, .iaload, 1), (795, .aload_n 0, 1), (796, .iload 4, 2),
   (798, .iconst 2, 1), (799, .iadd, 1), (800, .iaload, 1), (801, .invokevirtual 93, 3), (804, .aload_n 2, 1), (805, .aload_n 0, 1), (806, .iload 4, 2), (808, .iconst 1, 1),
   (809, .iadd, 1), (810, .iaload, 1), (811, .aload_n 0, 1), (812, .iload 4, 2), (814, .iconst 2, 1), (815, .iadd, 1), (816, .iaload, 1), (817, .invokevirtual 96, 3),
   (820, .if_icmp .eq 757, 3), (823, .iconst 0, 1), (824, .ireturn, 1), (825, .aload_n 1, 1), (826, .aload_n 0, 1), (827, .iload 4, 2), (829, .iconst 1, 1), (830, .iadd, 1),
   (831, .iaload, 1), (832, .aload_n 0, 1), (833, .iload 4, 2), (835, .iconst 2, 1), (836, .iadd, 1), (837, .iaload, 1), (838, .invokevirtual 97, 3), (841, .aload_n 2, 1)]
def k_L_law_10 : List (Nat × Instr × Nat) :=
  [(842, .aload_n 0, 1), (843, .iload 4, 2), (845, .iconst 1, 1), (846, .iadd, 1), (847, .iaload, 1), (848, .aload_n 0, 1), (849, .iload 4, 2), (851, .iconst 2, 1),
   (852, .iadd, 1), (853, .iaload, 1), (854, .invokevirtual 100, 3), (857, .if_icmp .eq 720, 3), (860, .iconst 0, 1), (861, .ireturn, 1), (862, .aload_n 1, 1), (863, .aload_n 0, 1),
   (864, .iload 4, 2), (866, .iconst 1, 1), (867, .iadd, 1), (868, .iaload, 1), (869, .invokevirtual 101, 3), (872, .aload_n 2, 1), (873, .aload_n 0, 1), (874, .iload 4, 2),
   (876, .iconst 1, 1), (877, .iadd, 1), (878, .iaload, 1), (879, .invokevirtual 104, 3), (882, .lcmp, 1), (883, .ifCond .eq 694, 3), (886, .iconst 0, 1), (887, .ireturn, 1),
   (888, .aload_n 1, 1), (889, .aload_n 0, 1), (890, .iload 4, 2), (892, .iconst 1, 1), (893, .iadd, 1), (894, .iaload, 1), (895, .invokevirtual 105, 3), (898, .aload_n 2, 1),
   (899, .aload_n 0, 1), (900, .iload 4, 2), (902, .iconst 1, 1), (903, .iadd, 1), (904, .iaload, 1), (905, .invokevirtual 108, 3), (908, .if_icmp .eq 669, 3), (911, .iconst 0, 1)]
def k_L_law_11 : List (Nat × Instr × Nat) :=
  [(912, .ireturn, 1), (913, .aload_n 1, 1), (914, .aload_n 0, 1), (915, .iload 4, 2), (917, .iconst 1, 1), (918, .iadd, 1), (919, .iaload, 1), (920, .aload_n 0, 1),
   (921, .iload 4, 2), (923, .iconst 2, 1), (924, .iadd, 1), (925, .iaload, 1), (926, .invokevirtual 109, 3), (929, .aload_n 2, 1), (930, .aload_n 0, 1), (931, .iload 4, 2),
   (933, .iconst 1, 1), (934, .iadd, 1), (935, .iaload, 1), (936, .aload_n 0, 1), (937, .iload 4, 2), (939, .iconst 2, 1), (940, .iadd, 1), (941, .iaload, 1),
   (942, .invokevirtual 112, 3), (945, .if_icmp .eq 632, 3), (948, .iconst 0, 1), (949, .ireturn, 1), (950, .aload_n 1, 1), (951, .aload_n 0, 1), (952, .iload 4, 2), (954, .iconst 1, 1),
   (955, .iadd, 1), (956, .iaload, 1), (957, .invokevirtual 113, 3), (960, .aload_n 2, 1), (961, .aload_n 0, 1), (962, .iload 4, 2), (964, .iconst 1, 1), (965, .iadd, 1),
   (966, .iaload, 1), (967, .invokevirtual 116, 3), (970, .if_icmp .eq 607, 3), (973, .iconst 0, 1), (974, .ireturn, 1), (975, .aload_n 1, 1), (976, .aload_n 0, 1), (977, .iload 4, 2)]
def k_L_law_12 : List (Nat × Instr × Nat) :=
  [(979, .iconst 1, 1), (980, .iadd, 1), (981, .iaload, 1), (982, .invokevirtual 117, 3), (985, .aload_n 2, 1), (986, .aload_n 0, 1), (987, .iload 4, 2), (989, .iconst 1, 1),
   (990, .iadd, 1), (991, .iaload, 1), (992, .invokevirtual 120, 3), (995, .if_icmp .eq 582, 3), (998, .iconst 0, 1), (999, .ireturn, 1), (1000, .aload_n 1, 1), (1001, .aload_n 0, 1),
   (1002, .iload 4, 2), (1004, .iconst 1, 1), (1005, .iadd, 1), (1006, .iaload, 1), (1007, .invokevirtual 121, 3), (1010, .aload_n 2, 1), (1011, .aload_n 0, 1), (1012, .iload 4, 2),
   (1014, .iconst 1, 1), (1015, .iadd, 1), (1016, .iaload, 1), (1017, .invokevirtual 124, 3), (1020, .if_icmp .eq 557, 3), (1023, .iconst 0, 1), (1024, .ireturn, 1), (1025, .aload_n 1, 1),
   (1026, .invokevirtual 125, 3), (1029, .aload_n 2, 1), (1030, .invokevirtual 128, 3), (1033, .if_icmp .eq 544, 3), (1036, .iconst 0, 1), (1037, .ireturn, 1), (1038, .aload_n 1, 1), (1039, .aload_n 0, 1),
   (1040, .iload 4, 2), (1042, .iconst 1, 1), (1043, .iadd, 1), (1044, .iaload, 1), (1045, .aload_n 0, 1), (1046, .iload 4, 2), (1048, .iconst 2, 1), (1049, .iadd, 1)]
def k_L_law_13 : List (Nat × Instr × Nat) :=
  [(1050, .iaload, 1), (1051, .aload_n 0, 1), (1052, .iload 4, 2), (1054, .iconst 3, 1), (1055, .iadd, 1), (1056, .iaload, 1), (1057, .invokevirtual 129, 3), (1060, .aload_n 2, 1),
   (1061, .aload_n 0, 1), (1062, .iload 4, 2), (1064, .iconst 1, 1), (1065, .iadd, 1), (1066, .iaload, 1), (1067, .aload_n 0, 1), (1068, .iload 4, 2), (1070, .iconst 2, 1),
   (1071, .iadd, 1), (1072, .iaload, 1), (1073, .aload_n 0, 1), (1074, .iload 4, 2), (1076, .iconst 3, 1), (1077, .iadd, 1), (1078, .iaload, 1), (1079, .invokevirtual 132, 3),
   (1082, .if_icmp .eq 495, 3), (1085, .iconst 0, 1), (1086, .ireturn, 1), (1087, .aload_n 1, 1), (1088, .aload_n 0, 1), (1089, .iload 4, 2), (1091, .iconst 1, 1), (1092, .iadd, 1),
   (1093, .iaload, 1), (1094, .aload_n 0, 1), (1095, .iload 4, 2), (1097, .iconst 2, 1), (1098, .iadd, 1), (1099, .iaload, 1), (1100, .aload_n 0, 1), (1101, .iload 4, 2),
   (1103, .iconst 3, 1), (1104, .iadd, 1), (1105, .iaload, 1), (1106, .invokevirtual 133, 3), (1109, .aload_n 2, 1), (1110, .aload_n 0, 1), (1111, .iload 4, 2), (1113, .iconst 1, 1)]
def k_L_law_14 : List (Nat × Instr × Nat) :=
  [(1114, .iadd, 1), (1115, .iaload, 1), (1116, .aload_n 0, 1), (1117, .iload 4, 2), (1119, .iconst 2, 1), (1120, .iadd, 1), (1121, .iaload, 1), (1122, .aload_n 0, 1),
   (1123, .iload 4, 2), (1125, .iconst 3, 1), (1126, .iadd, 1), (1127, .iaload, 1), (1128, .invokevirtual 136, 3), (1131, .if_icmp .eq 446, 3), (1134, .iconst 0, 1), (1135, .ireturn, 1),
   (1136, .aload_n 1, 1), (1137, .aload_n 0, 1), (1138, .iload 4, 2), (1140, .iconst 1, 1), (1141, .iadd, 1), (1142, .iaload, 1), (1143, .aload_n 0, 1), (1144, .iload 4, 2),
   (1146, .iconst 2, 1), (1147, .iadd, 1), (1148, .iaload, 1), (1149, .aload_n 0, 1), (1150, .iload 4, 2), (1152, .iconst 3, 1), (1153, .iadd, 1), (1154, .iaload, 1),
   (1155, .aload_n 0, 1), (1156, .iload 4, 2), (1158, .iconst 4, 1), (1159, .iadd, 1), (1160, .iaload, 1), (1161, .ifCond .eq 7, 3), (1164, .iconst 1, 1), (1165, .goto 4, 3),
   (1168, .iconst 0, 1), (1169, .invokevirtual 137, 3), (1172, .aload_n 2, 1), (1173, .aload_n 0, 1), (1174, .iload 4, 2), (1176, .iconst 1, 1), (1177, .iadd, 1), (1178, .iaload, 1)]
def k_L_law_15 : List (Nat × Instr × Nat) :=
  [(1179, .aload_n 0, 1), (1180, .iload 4, 2), (1182, .iconst 2, 1), (1183, .iadd, 1), (1184, .iaload, 1), (1185, .aload_n 0, 1), (1186, .iload 4, 2), (1188, .iconst 3, 1),
   (1189, .iadd, 1), (1190, .iaload, 1), (1191, .aload_n 0, 1), (1192, .iload 4, 2), (1194, .iconst 4, 1), (1195, .iadd, 1), (1196, .iaload, 1), (1197, .ifCond .eq 7, 3),
   (1200, .iconst 1, 1), (1201, .goto 4, 3), (1204, .iconst 0, 1), (1205, .invokevirtual 141, 3), (1208, .if_icmp .eq 369, 3), (1211, .iconst 0, 1), (1212, .ireturn, 1), (1213, .aload_n 1, 1),
   (1214, .aload_n 0, 1), (1215, .iload 4, 2), (1217, .iconst 1, 1), (1218, .iadd, 1), (1219, .iaload, 1), (1220, .aload_n 0, 1), (1221, .iload 4, 2), (1223, .iconst 2, 1),
   (1224, .iadd, 1), (1225, .iaload, 1), (1226, .aload_n 0, 1), (1227, .iload 4, 2), (1229, .iconst 3, 1), (1230, .iadd, 1), (1231, .iaload, 1), (1232, .aload_n 0, 1),
   (1233, .iload 4, 2), (1235, .iconst 4, 1), (1236, .iadd, 1), (1237, .iaload, 1), (1238, .ifCond .eq 7, 3), (1241, .iconst 1, 1), (1242, .goto 4, 3), (1245, .iconst 0, 1)]
def k_L_law_16 : List (Nat × Instr × Nat) :=
  [(1246, .invokevirtual 142, 3), (1249, .aload_n 2, 1), (1250, .aload_n 0, 1), (1251, .iload 4, 2), (1253, .iconst 1, 1), (1254, .iadd, 1), (1255, .iaload, 1), (1256, .aload_n 0, 1),
   (1257, .iload 4, 2), (1259, .iconst 2, 1), (1260, .iadd, 1), (1261, .iaload, 1), (1262, .aload_n 0, 1), (1263, .iload 4, 2), (1265, .iconst 3, 1), (1266, .iadd, 1),
   (1267, .iaload, 1), (1268, .aload_n 0, 1), (1269, .iload 4, 2), (1271, .iconst 4, 1), (1272, .iadd, 1), (1273, .iaload, 1), (1274, .ifCond .eq 7, 3), (1277, .iconst 1, 1),
   (1278, .goto 4, 3), (1281, .iconst 0, 1), (1282, .invokevirtual 145, 3), (1285, .if_icmp .eq 292, 3), (1288, .iconst 0, 1), (1289, .ireturn, 1), (1290, .aload_n 1, 1), (1291, .aload_n 0, 1),
   (1292, .iload 4, 2), (1294, .iconst 1, 1), (1295, .iadd, 1), (1296, .iaload, 1), (1297, .invokevirtual 146, 3), (1300, .aload_n 2, 1), (1301, .aload_n 0, 1), (1302, .iload 4, 2),
   (1304, .iconst 1, 1), (1305, .iadd, 1), (1306, .iaload, 1), (1307, .invokevirtual 149, 3), (1310, .if_icmp .eq 267, 3), (1313, .iconst 0, 1), (1314, .ireturn, 1), (1315, .aload_n 1, 1)]
def k_L_law_17 : List (Nat × Instr × Nat) :=
  [(1316, .aload_n 0, 1), (1317, .iload 4, 2), (1319, .iconst 1, 1), (1320, .iadd, 1), (1321, .iaload, 1), (1322, .invokevirtual 150, 3), (1325, .aload_n 2, 1), (1326, .aload_n 0, 1),
   (1327, .iload 4, 2), (1329, .iconst 1, 1), (1330, .iadd, 1), (1331, .iaload, 1), (1332, .invokevirtual 154, 3), (1335, .if_icmp .eq 242, 3), (1338, .iconst 0, 1), (1339, .ireturn, 1),
   (1340, .aload_n 1, 1), (1341, .aload_n 0, 1), (1342, .iload 4, 2), (1344, .iconst 1, 1), (1345, .iadd, 1), (1346, .iaload, 1), (1347, .invokevirtual 155, 3), (1350, .aload_n 2, 1),
   (1351, .aload_n 0, 1), (1352, .iload 4, 2), (1354, .iconst 1, 1), (1355, .iadd, 1), (1356, .iaload, 1), (1357, .invokevirtual 158, 3), (1360, .if_icmp .eq 217, 3), (1363, .iconst 0, 1),
   (1364, .ireturn, 1), (1365, .aload_n 1, 1), (1366, .aload_n 0, 1), (1367, .iload 4, 2), (1369, .iconst 1, 1), (1370, .iadd, 1), (1371, .iaload, 1), (1372, .invokevirtual 159, 3),
   (1375, .aload_n 2, 1), (1376, .aload_n 0, 1), (1377, .iload 4, 2), (1379, .iconst 1, 1), (1380, .iadd, 1), (1381, .iaload, 1), (1382, .invokevirtual 162, 3), (1385, .if_icmp .eq 192, 3)]
def k_L_law_18 : List (Nat × Instr × Nat) :=
  [(1388, .iconst 0, 1), (1389, .ireturn, 1), (1390, .aload_n 1, 1), (1391, .invokevirtual 163, 3), (1394, .aload_n 2, 1), (1395, .invokevirtual 166, 3), (1398, .if_icmp .eq 179, 3), (1401, .iconst 0, 1),
   (1402, .ireturn, 1), (1403, .aload_n 1, 1), (1404, .aload_n 0, 1), (1405, .iload 4, 2), (1407, .iconst 1, 1), (1408, .iadd, 1), (1409, .iaload, 1), (1410, .aload_n 0, 1),
   (1411, .iload 4, 2), (1413, .iconst 2, 1), (1414, .iadd, 1), (1415, .iaload, 1), (1416, .aload_n 0, 1), (1417, .iload 4, 2), (1419, .iconst 3, 1), (1420, .iadd, 1),
   (1421, .iaload, 1), (1422, .aload_n 0, 1), (1423, .iload 4, 2), (1425, .iconst 4, 1), (1426, .iadd, 1), (1427, .iaload, 1), (1428, .invokevirtual 167, 3), (1431, .aload_n 2, 1),
   (1432, .aload_n 0, 1), (1433, .iload 4, 2), (1435, .iconst 1, 1), (1436, .iadd, 1), (1437, .iaload, 1), (1438, .aload_n 0, 1), (1439, .iload 4, 2), (1441, .iconst 2, 1),
   (1442, .iadd, 1), (1443, .iaload, 1), (1444, .aload_n 0, 1), (1445, .iload 4, 2), (1447, .iconst 3, 1), (1448, .iadd, 1), (1449, .iaload, 1), (1450, .aload_n 0, 1)]
def k_L_law_19 : List (Nat × Instr × Nat) :=
  [(1451, .iload 4, 2), (1453, .iconst 4, 1), (1454, .iadd, 1), (1455, .iaload, 1), (1456, .invokevirtual 171, 3), (1459, .if_icmp .eq 118, 3), (1462, .iconst 0, 1), (1463, .ireturn, 1),
   (1464, .aload_n 1, 1), (1465, .aload_n 0, 1), (1466, .iload 4, 2), (1468, .iconst 1, 1), (1469, .iadd, 1), (1470, .iaload, 1), (1471, .aload_n 0, 1), (1472, .iload 4, 2),
   (1474, .iconst 2, 1), (1475, .iadd, 1), (1476, .iaload, 1), (1477, .aload_n 0, 1), (1478, .iload 4, 2), (1480, .iconst 3, 1), (1481, .iadd, 1), (1482, .iaload, 1),
   (1483, .invokevirtual 172, 3), (1486, .aload_n 2, 1), (1487, .aload_n 0, 1), (1488, .iload 4, 2), (1490, .iconst 1, 1), (1491, .iadd, 1), (1492, .iaload, 1), (1493, .aload_n 0, 1),
   (1494, .iload 4, 2), (1496, .iconst 2, 1), (1497, .iadd, 1), (1498, .iaload, 1), (1499, .aload_n 0, 1), (1500, .iload 4, 2), (1502, .iconst 3, 1), (1503, .iadd, 1),
   (1504, .iaload, 1), (1505, .invokevirtual 175, 3), (1508, .if_icmp .eq 69, 3), (1511, .iconst 0, 1), (1512, .ireturn, 1), (1513, .aload_n 1, 1), (1514, .invokevirtual 176, 3), (1517, .aload_n 2, 1)]
def k_L_law_20 : List (Nat × Instr × Nat) :=
  [(1518, .invokevirtual 179, 3), (1521, .if_icmp .eq 56, 3), (1524, .iconst 0, 1), (1525, .ireturn, 1), (1526, .aload_n 1, 1), (1527, .invokevirtual 180, 3), (1530, .aload_n 2, 1), (1531, .invokevirtual 183, 3),
   (1534, .if_icmp .eq 43, 3), (1537, .iconst 0, 1), (1538, .ireturn, 1), (1539, .aload_n 1, 1), (1540, .invokevirtual 184, 3), (1543, .aload_n 2, 1), (1544, .invokevirtual 187, 3), (1547, .if_icmp .eq 30, 3),
   (1550, .iconst 0, 1), (1551, .ireturn, 1), (1552, .aload_n 1, 1), (1553, .aload_n 0, 1), (1554, .iload 4, 2), (1556, .iconst 1, 1), (1557, .iadd, 1), (1558, .iaload, 1),
   (1559, .invokevirtual 188, 3), (1562, .aload_n 2, 1), (1563, .aload_n 0, 1), (1564, .iload 4, 2), (1566, .iconst 1, 1), (1567, .iadd, 1), (1568, .iaload, 1), (1569, .invokevirtual 191, 3),
   (1572, .if_icmp .eq 5, 3), (1575, .iconst 0, 1), (1576, .ireturn, 1), (1577, .iinc 4 6, 3), (1580, .goto (-1557), 3), (1583, .iconst 1, 1), (1584, .ireturn, 1)]
def k_L_law : List (Nat × Instr × Nat) := k_L_law_0 ++ (k_L_law_1 ++ (k_L_law_2 ++ (k_L_law_3 ++ (k_L_law_4 ++ (k_L_law_5 ++ (k_L_law_6 ++ (k_L_law_7 ++ (k_L_law_8 ++ (k_L_law_9 ++ (k_L_law_10 ++ (k_L_law_11 ++ (k_L_law_12 ++ (k_L_law_13 ++ (k_L_law_14 ++ (k_L_law_15 ++ (k_L_law_16 ++ (k_L_law_17 ++ (k_L_law_18 ++ (k_L_law_19 ++ (k_L_law_20))))))))))))))))))))
theorem r_L_law_0 : k_L_law_0.all (tb_rr cL_law) = true := by decide +kernel
theorem r_L_law_1 : k_L_law_1.all (tb_rr cL_law) = true := by decide +kernel
theorem r_L_law_2 : k_L_law_2.all (tb_rr cL_law) = true := by decide +kernel
theorem r_L_law_3 : k_L_law_3.all (tb_rr cL_law) = true := by decide +kernel
theorem r_L_law_4 : k_L_law_4.all (tb_rr cL_law) = true := by decide +kernel
theorem r_L_law_5 : k_L_law_5.all (tb_rr cL_law) = true := by decide +kernel
theorem r_L_law_6 : k_L_law_6.all (tb_rr cL_law) = true := by decide +kernel
theorem r_L_law_7 : k_L_law_7.all (tb_rr cL_law) = true := by decide +kernel
theorem r_L_law_8 : k_L_law_8.all (tb_rr cL_law) = true := by decide +kernel
theorem r_L_law_9 : k_L_law_9.all (tb_rr cL_law) = true := by decide +kernel
theorem r_L_law_10 : k_L_law_10.all (tb_rr cL_law) = true := by decide +kernel
theorem r_L_law_11 : k_L_law_11.all (tb_rr cL_law) = true := by decide +kernel
theorem r_L_law_12 : k_L_law_12.all (tb_rr cL_law) = true := by decide +kernel
theorem r_L_law_13 : k_L_law_13.all (tb_rr cL_law) = true := by decide +kernel
theorem r_L_law_14 : k_L_law_14.all (tb_rr cL_law) = true := by decide +kernel
theorem r_L_law_15 : k_L_law_15.all (tb_rr cL_law) = true := by decide +kernel
theorem r_L_law_16 : k_L_law_16.all (tb_rr cL_law) = true := by decide +kernel
theorem r_L_law_17 : k_L_law_17.all (tb_rr cL_law) = true := by decide +kernel
theorem r_L_law_18 : k_L_law_18.all (tb_rr cL_law) = true := by decide +kernel
theorem r_L_law_19 : k_L_law_19.all (tb_rr cL_law) = true := by decide +kernel
theorem r_L_law_20 : k_L_law_20.all (tb_rr cL_law) = true := by decide +kernel
def M_L_law : ab_MD := (K_L, yL_law, cL_law, 7, (some .boolean), false, k_L_law)
theorem om_L_law : ab_OM M_L_law := ⟨OC_L, rfl, (fun q => by cases q), tb_rr_ok (tb_app r_L_law_0 (tb_app r_L_law_1 (tb_app r_L_law_2 (tb_app r_L_law_3 (tb_app r_L_law_4 (tb_app r_L_law_5 (tb_app r_L_law_6 (tb_app r_L_law_7 (tb_app r_L_law_8 (tb_app r_L_law_9 (tb_app r_L_law_10 (tb_app r_L_law_11 (tb_app r_L_law_12 (tb_app r_L_law_13 (tb_app r_L_law_14 (tb_app r_L_law_15 (tb_app r_L_law_16 (tb_app r_L_law_17 (tb_app r_L_law_18 (tb_app r_L_law_19 r_L_law_20))))))))))))))))))))⟩

