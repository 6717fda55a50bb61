/-! printed by wip/tools/mktab.py: methods of BoneEstate$Course -/
def k_X0_asTold : List (Nat × Instr × Nat) :=
  [(0, .aload_n 0, 1), (1, .iconst 0, 1), (2, .putfield 26, 3), (5, .aload_n 0, 1), (6, .iconst 0, 1), (7, .putfield 30, 3), (10, .aload_n 0, 1), (11, .iconst (-1), 1),
   (12, .putfield 9, 3), (15, .aload_n 0, 1), (16, .aload_n 0, 1), (17, .getfield 18, 3), (20, .invokevirtual 33, 3), (23, .putfield 15, 3), (26, .aload_n 0, 1), (27, .getfield 22, 3),
   (30, .iconst 0, 1), (31, .putfield 39, 3), (34, .aload_n 0, 1), (35, .getfield 22, 3), (38, .iconst 0, 1), (39, .putfield 44, 3), (42, .return_, 1)]
def M_X0_asTold : ab_MD := (K_X0, yX0_asTold, cX0_asTold, 1, none, false, k_X0_asTold)
theorem o_X0_asTold : ab_OK M_X0_asTold 0 := tb_ok OC_X0 (by decide +kernel) (by decide +kernel) (ab_T_in (tb_c_in 4 _ (List.mem_of_getElem? (i := 233) (rfl : (tb_c 4)[233]? = some (Cond.code yX0_asTold cX0_asTold 1 none)))) rfl) IN_X0
theorem v_X0_asTold : ab_kV M_X0_asTold 0 := ⟨(ab_T_in (tb_c_in 4 _ (List.mem_of_getElem? (i := 231) (rfl : (tb_c 4)[231]? = some (Cond.instanceMethod yX0_asTold)))) rfl), (ab_T_in (tb_c_in 4 _ (List.mem_of_getElem? (i := 232) (rfl : (tb_c 4)[232]? = some (Cond.selects RX0 yX0_asTold yX0_asTold)))) rfl), _, rfl, rfl⟩
def k_X0_canTrade : List (Nat × Instr × Nat) :=
  [(0, .aload_n 1, 1), (1, .iload_n 2, 1), (2, .invokevirtual 96, 3), (5, .istore 4, 2), (7, .aload_n 1, 1), (8, .iload_n 3, 1), (9, .invokevirtual 96, 3), (12, .istore 5, 2),
   (14, .iload 4, 2), (16, .ifCond .lt 47, 3), (19, .iload 5, 2), (21, .ifCond .lt 42, 3), (24, .iload 4, 2), (26, .iload 5, 2), (28, .if_icmp .eq 35, 3), (31, .aload_n 0, 1),
   (32, .getfield 22, 3), (35, .aload_n 1, 1), (36, .iload_n 3, 1), (37, .iload 4, 2), (39, .invokevirtual 100, 3), (42, .ifCond .eq 21, 3), (45, .aload_n 0, 1), (46, .getfield 22, 3),
   (49, .aload_n 1, 1), (50, .iload_n 2, 1), (51, .iload 5, 2), (53, .invokevirtual 100, 3), (56, .ifCond .eq 7, 3), (59, .iconst 1, 1), (60, .goto 4, 3), (63, .iconst 0, 1),
   (64, .ireturn, 1)]
def M_X0_canTrade : ab_MD := (K_X0, yX0_canTrade, cX0_canTrade, 6, (some .boolean), false, k_X0_canTrade)
theorem o_X0_canTrade : ab_OK M_X0_canTrade 3 := tb_ok OC_X0 (by decide +kernel) (by decide +kernel) (ab_T_in (tb_c_in 4 _ (List.mem_of_getElem? (i := 217) (rfl : (tb_c 4)[217]? = some (Cond.code yX0_canTrade cX0_canTrade 6 (some .boolean))))) rfl) IN_X0
theorem v_X0_canTrade : ab_kV M_X0_canTrade 0 := ⟨(ab_T_in (tb_c_in 4 _ (List.mem_of_getElem? (i := 215) (rfl : (tb_c 4)[215]? = some (Cond.instanceMethod yX0_canTrade)))) rfl), (ab_T_in (tb_c_in 4 _ (List.mem_of_getElem? (i := 216) (rfl : (tb_c 4)[216]? = some (Cond.selects RX0 yX0_canTrade yX0_canTrade)))) rfl), _, rfl, rfl⟩
def k_X0_drawOrRefuse : List (Nat × Instr × Nat) :=
  [(0, .aload_n 1, 1), (1, .getfield 103, 3), (4, .invokestatic 106, 3), (7, .istore_n 3, 1), (8, .aload_n 0, 1), (9, .getfield 26, 3), (12, .ifCond .eq 17, 3), (15, .iload_n 3, 1),
   (16, .iconst 1, 1), (17, .if_icmp .le 12, 3), (20, .aload_n 1, 1), (21, .invokevirtual 111, 3), (24, .iload_n 3, 1), (25, .irem, 1), (26, .goto 4, 3), (29, .iconst 0, 1),
   (30, .istore 4, 2), (32, .aload_n 1, 1), (33, .getfield 103, 3), (36, .istore 5, 2), (38, .iconst 0, 1), (39, .istore 6, 2), (41, .iload 6, 2), (43, .iload 4, 2),
   (45, .if_icmp .ge 18, 3), (48, .iload 5, 2), (50, .iload 5, 2), (52, .iconst 1, 1), (53, .isub, 1), (54, .iand, 1), (55, .istore 5, 2), (57, .iinc 6 1, 3),
   (60, .goto (-19), 3), (63, .iload 5, 2), (65, .invokestatic 114, 3), (68, .istore 6, 2), (70, .iload_n 3, 1), (71, .ifCond .le 41, 3), (74, .iload 6, 2), (76, .aload_n 0, 1),
   (77, .getfield 18, 3), (80, .getfield 117, 3), (83, .if_icmp .ge 29, 3), (86, .aload_n 0, 1), (87, .getfield 22, 3), (90, .aload_n 1, 1), (91, .iload 6, 2), (93, .iload_n 2, 1),
   (94, .invokevirtual 100, 3), (97, .ifCond .eq 15, 3), (100, .aload_n 1, 1), (101, .iload 6, 2), (103, .bipush (-2), 2), (105, .iload_n 2, 1), (106, .invokevirtual 120, 3), (109, .goto 13, 3),
   (112, .aload_n 1, 1), (113, .dup, 1), (114, .getfield 73, 3), (117, .iconst 1, 1), (118, .iadd, 1), (119, .putfield 73, 3), (122, .return_, 1)]
def M_X0_drawOrRefuse : ab_MD := (K_X0, yX0_drawOrRefuse, cX0_drawOrRefuse, 7, none, false, k_X0_drawOrRefuse)
theorem o_X0_drawOrRefuse : ab_OK M_X0_drawOrRefuse 2 := tb_ok OC_X0 (by decide +kernel) (by decide +kernel) (ab_T_in (tb_c_in 5 _ (List.mem_of_getElem? (i := 54) (rfl : (tb_c 5)[54]? = some (Cond.code yX0_drawOrRefuse cX0_drawOrRefuse 7 none)))) rfl) IN_X0
theorem v_X0_drawOrRefuse : ab_kV M_X0_drawOrRefuse 0 := ⟨(ab_T_in (tb_c_in 5 _ (List.mem_of_getElem? (i := 53) (rfl : (tb_c 5)[53]? = some (Cond.instanceMethod yX0_drawOrRefuse)))) rfl), (ab_T_in (tb_c_in 0 _ (List.mem_of_getElem? (i := 29) (rfl : (tb_c 0)[29]? = some (Cond.selects RX0 yX0_drawOrRefuse yX0_drawOrRefuse)))) rfl), _, rfl, rfl⟩
def k_X0_goOn_0 : List (Nat × Instr × Nat) :=
  [(0, .iconst 0, 1), (1, .istore_n 3, 1), (2, .iload_n 3, 1), (3, .iload_n 2, 1), (4, .if_icmp .ge 231, 3), (7, .iconst 0, 1), (8, .istore 4, 2), (10, .iload 4, 2),
   (12, .aload_n 0, 1), (13, .getfield 18, 3), (16, .getfield 47, 3), (19, .if_icmp .ge 101, 3), (22, .aload_n 0, 1), (23, .getfield 18, 3), (26, .getfield 50, 3), (29, .iload 4, 2),
   (31, .iaload, 1), (32, .aload_n 1, 1), (33, .getfield 54, 3), (36, .if_icmp .ne 78, 3), (39, .aload_n 0, 1), (40, .getfield 30, 3), (43, .ifCond .eq 6, 3), (46, .goto 68, 3),
   (49, .aload_n 0, 1), (50, .aload_n 1, 1), (51, .aload_n 0, 1), (52, .getfield 18, 3), (55, .getfield 59, 3), (58, .iload 4, 2), (60, .iaload, 1), (61, .aload_n 0, 1),
   (62, .getfield 18, 3), (65, .getfield 62, 3), (68, .iload 4, 2), (70, .iaload, 1), (71, .invokevirtual 65, 3), (74, .ifCond .eq 30, 3), (77, .aload_n 1, 1), (78, .aload_n 0, 1),
   (79, .getfield 18, 3), (82, .getfield 59, 3), (85, .iload 4, 2), (87, .iaload, 1), (88, .aload_n 0, 1), (89, .getfield 18, 3), (92, .getfield 62, 3), (95, .iload 4, 2)]
def k_X0_goOn_1 : List (Nat × Instr × Nat) :=
  [(97, .iaload, 1), (98, .invokevirtual 69, 3), (101, .goto 13, 3), (104, .aload_n 1, 1), (105, .dup, 1), (106, .getfield 73, 3), (109, .iconst 1, 1), (110, .iadd, 1),
   (111, .putfield 73, 3), (114, .iinc 4 1, 3), (117, .goto (-107), 3), (120, .iconst 0, 1), (121, .istore 4, 2), (123, .iload 4, 2), (125, .aload_n 0, 1), (126, .getfield 18, 3),
   (129, .getfield 76, 3), (132, .if_icmp .ge 58, 3), (135, .aload_n 0, 1), (136, .getfield 18, 3), (139, .getfield 79, 3), (142, .iload 4, 2), (144, .iaload, 1), (145, .aload_n 1, 1),
   (146, .getfield 54, 3), (149, .if_icmp .ne 35, 3), (152, .aload_n 0, 1), (153, .getfield 18, 3), (156, .getfield 82, 3), (159, .iload 4, 2), (161, .iaload, 1), (162, .aload_n 0, 1),
   (163, .getfield 9, 3), (166, .if_icmp .eq 18, 3), (169, .aload_n 0, 1), (170, .aload_n 1, 1), (171, .aload_n 0, 1), (172, .getfield 18, 3), (175, .getfield 82, 3), (178, .iload 4, 2),
   (180, .iaload, 1), (181, .invokevirtual 85, 3), (184, .iinc 4 1, 3), (187, .goto (-64), 3), (190, .iconst 0, 1), (191, .istore 4, 2), (193, .iload 4, 2), (195, .aload_n 0, 1)]
def k_X0_goOn_2 : List (Nat × Instr × Nat) :=
  [(196, .getfield 18, 3), (199, .getfield 89, 3), (202, .if_icmp .ge 17, 3), (205, .aload_n 0, 1), (206, .aload_n 1, 1), (207, .iload 4, 2), (209, .invokevirtual 92, 3), (212, .pop, 1),
   (213, .iinc 4 1, 3), (216, .goto (-23), 3), (219, .aload_n 1, 1), (220, .dup, 1), (221, .getfield 54, 3), (224, .iconst 1, 1), (225, .iadd, 1), (226, .putfield 54, 3),
   (229, .iinc 3 1, 3), (232, .goto (-230), 3), (235, .return_, 1)]
def k_X0_goOn : List (Nat × Instr × Nat) := k_X0_goOn_0 ++ (k_X0_goOn_1 ++ (k_X0_goOn_2))
theorem r_X0_goOn_0 : k_X0_goOn_0.all (tb_rr cX0_goOn) = true := by decide +kernel
theorem r_X0_goOn_1 : k_X0_goOn_1.all (tb_rr cX0_goOn) = true := by decide +kernel
theorem r_X0_goOn_2 : k_X0_goOn_2.all (tb_rr cX0_goOn) = true := by decide +kernel
def M_X0_goOn : ab_MD := (K_X0, yX0_goOn, cX0_goOn, 5, none, false, k_X0_goOn)
theorem o_X0_goOn : ab_OK M_X0_goOn 2 := tb_ok OC_X0 (by decide +kernel) (tb_app r_X0_goOn_0 (tb_app r_X0_goOn_1 r_X0_goOn_2)) (ab_T_in (tb_c_in 5 _ (List.mem_of_getElem? (i := 48) (rfl : (tb_c 5)[48]? = some (Cond.code yX0_goOn cX0_goOn 5 none)))) rfl) IN_X0
theorem v_X0_goOn : ab_kV M_X0_goOn 0 := ⟨(ab_T_in (tb_c_in 5 _ (List.mem_of_getElem? (i := 46) (rfl : (tb_c 5)[46]? = some (Cond.instanceMethod yX0_goOn)))) rfl), (ab_T_in (tb_c_in 5 _ (List.mem_of_getElem? (i := 47) (rfl : (tb_c 5)[47]? = some (Cond.selects RX0 yX0_goOn yX0_goOn)))) rfl), _, rfl, rfl⟩
def k_X0_init : List (Nat × Instr × Nat) :=
  [(0, .aload_n 0, 1), (1, .invokespecial 3, 3), (4, .aload_n 0, 1), (5, .iconst (-1), 1), (6, .putfield 9, 3), (9, .aload_n 0, 1), (10, .iconst 2, 1), (11, .putfield 15, 3),
   (14, .aload_n 0, 1), (15, .aload_n 1, 1), (16, .putfield 18, 3), (19, .aload_n 0, 1), (20, .aload_n 2, 1), (21, .putfield 22, 3), (24, .return_, 1)]
def M_X0_init : ab_MD := (K_X0, yX0_init, cX0_init, 3, none, true, k_X0_init)
theorem o_X0_init : ab_OK M_X0_init 2 := tb_ok OC_X0 (by decide +kernel) (by decide +kernel) (ab_T_in (tb_c_in 2 _ (List.mem_of_getElem? (i := 164) (rfl : (tb_c 2)[164]? = some (Cond.code yX0_init cX0_init 3 none)))) rfl) IN_X0
theorem i_X0_init : Cond.instanceMethod M_X0_init.2.1 ∈ ab_T := (ab_T_in (tb_c_in 2 _ (List.mem_of_getElem? (i := 163) (rfl : (tb_c 2)[163]? = some (Cond.instanceMethod yX0_init)))) rfl)
def k_X0_layRow : List (Nat × Instr × Nat) :=
  [(0, .aload_n 1, 1), (1, .getfield 124, 3), (4, .iload_n 2, 1), (5, .iaload, 1), (6, .invokestatic 106, 3), (9, .aload_n 0, 1), (10, .getfield 15, 3), (13, .if_icmp .lt 15, 3),
   (16, .aload_n 0, 1), (17, .getfield 22, 3), (20, .aload_n 1, 1), (21, .iload_n 2, 1), (22, .invokevirtual 127, 3), (25, .ifCond .ne 6, 3), (28, .bipush (-2), 2), (30, .ireturn, 1),
   (31, .aload_n 1, 1), (32, .getfield 131, 3), (35, .iload_n 2, 1), (36, .ldc 134, 2), (38, .aload_n 1, 1), (39, .getfield 131, 3), (42, .iload_n 2, 1), (43, .iaload, 1),
   (44, .aload_n 0, 1), (45, .getfield 22, 3), (48, .getfield 135, 3), (51, .iadd, 1), (52, .invokestatic 138, 3), (55, .iastore, 1), (56, .aload_n 1, 1), (57, .getfield 144, 3),
   (60, .iload_n 2, 1), (61, .dup2, 1), (62, .iaload, 1), (63, .iconst 1, 1), (64, .iadd, 1), (65, .iastore, 1), (66, .aload_n 1, 1), (67, .dup, 1),
   (68, .getfield 147, 3), (71, .aload_n 1, 1), (72, .getfield 124, 3), (75, .iload_n 2, 1), (76, .iaload, 1), (77, .ior, 1), (78, .putfield 147, 3), (81, .aload_n 1, 1),
   (82, .getfield 124, 3), (85, .iload_n 2, 1), (86, .iconst 0, 1), (87, .iastore, 1), (88, .aload_n 0, 1), (89, .getfield 22, 3), (92, .getfield 135, 3), (95, .ireturn, 1)]
def M_X0_layRow : ab_MD := (K_X0, yX0_layRow, cX0_layRow, 3, (some .int), false, k_X0_layRow)
theorem o_X0_layRow : ab_OK M_X0_layRow 2 := tb_ok OC_X0 (by decide +kernel) (by decide +kernel) (ab_T_in (tb_c_in 5 _ (List.mem_of_getElem? (i := 1) (rfl : (tb_c 5)[1]? = some (Cond.code yX0_layRow cX0_layRow 3 (some .int))))) rfl) IN_X0
theorem v_X0_layRow : ab_kV M_X0_layRow 0 := ⟨(ab_T_in (tb_c_in 4 _ (List.mem_of_getElem? (i := 239) (rfl : (tb_c 4)[239]? = some (Cond.instanceMethod yX0_layRow)))) rfl), (ab_T_in (tb_c_in 5 _ (List.mem_of_getElem? (i := 0) (rfl : (tb_c 5)[0]? = some (Cond.selects RX0 yX0_layRow yX0_layRow)))) rfl), _, rfl, rfl⟩
/-! printed by wip/tools/mktab.py: methods of BoneEstate$Estate -/
def k_X1_begin : List (Nat × Instr × Nat) :=
  [(0, .iconst 0, 1), (1, .istore_n 2, 1), (2, .iload_n 2, 1), (3, .iconst 5, 1), (4, .if_icmp .ge 35, 3), (7, .aload_n 0, 1), (8, .getfield 9, 3), (11, .iload_n 2, 1),
   (12, .aload_n 1, 1), (13, .getfield 21, 3), (16, .iload_n 2, 1), (17, .iaload, 1), (18, .iastore, 1), (19, .aload_n 0, 1), (20, .getfield 15, 3), (23, .iload_n 2, 1),
   (24, .iconst 0, 1), (25, .iastore, 1), (26, .aload_n 0, 1), (27, .getfield 18, 3), (30, .iload_n 2, 1), (31, .iconst 0, 1), (32, .iastore, 1), (33, .iinc 2 1, 3),
   (36, .goto (-34), 3), (39, .aload_n 0, 1), (40, .iconst 0, 1), (41, .putfield 24, 3), (44, .aload_n 0, 1), (45, .iconst 1, 1), (46, .aload_n 1, 1), (47, .getfield 28, 3),
   (50, .ishl, 1), (51, .iconst 1, 1), (52, .isub, 1), (53, .aload_n 1, 1), (54, .invokevirtual 31, 3), (57, .iconst (-1), 1), (58, .ixor, 1), (59, .iand, 1),
   (60, .putfield 35, 3), (63, .aload_n 0, 1), (64, .iconst 0, 1), (65, .putfield 38, 3), (68, .aload_n 0, 1), (69, .iconst 0, 1), (70, .putfield 41, 3), (73, .aload_n 0, 1),
   (74, .aload_n 1, 1), (75, .invokevirtual 44, 3), (78, .putfield 47, 3), (81, .return_, 1)]
def M_X1_begin : ab_MD := (K_X1, yX1_begin, cX1_begin, 3, none, false, k_X1_begin)
theorem o_X1_begin : ab_OK M_X1_begin 1 := tb_ok OC_X1 (by decide +kernel) (by decide +kernel) (ab_T_in (tb_c_in 4 _ (List.mem_of_getElem? (i := 89) (rfl : (tb_c 4)[89]? = some (Cond.code yX1_begin cX1_begin 3 none)))) rfl) IN_X1
theorem v_X1_begin : ab_kV M_X1_begin 1 := ⟨(ab_T_in (tb_c_in 4 _ (List.mem_of_getElem? (i := 87) (rfl : (tb_c 4)[87]? = some (Cond.instanceMethod yX1_begin)))) rfl), (ab_T_in (tb_c_in 4 _ (List.mem_of_getElem? (i := 88) (rfl : (tb_c 4)[88]? = some (Cond.selects RX1 yX1_begin yX1_begin)))) rfl), _, rfl, rfl⟩
def k_X1_change : List (Nat × Instr × Nat) :=
  [(0, .aload_n 0, 1), (1, .iload_n 1, 1), (2, .invokevirtual 50, 3), (5, .istore_n 3, 1), (6, .aload_n 0, 1), (7, .iload_n 2, 1), (8, .invokevirtual 50, 3), (11, .istore 4, 2),
   (13, .aload_n 0, 1), (14, .iload_n 1, 1), (15, .iload_n 3, 1), (16, .iload 4, 2), (18, .invokevirtual 54, 3), (21, .aload_n 0, 1), (22, .iload_n 2, 1), (23, .iload 4, 2),
   (25, .iload_n 3, 1), (26, .invokevirtual 54, 3), (29, .return_, 1)]
def M_X1_change : ab_MD := (K_X1, yX1_change, cX1_change, 5, none, false, k_X1_change)
theorem o_X1_change : ab_OK M_X1_change 2 := tb_ok OC_X1 (by decide +kernel) (by decide +kernel) (ab_T_in (tb_c_in 4 _ (List.mem_of_getElem? (i := 223) (rfl : (tb_c 4)[223]? = some (Cond.code yX1_change cX1_change 5 none)))) rfl) IN_X1
theorem v_X1_change : ab_kV M_X1_change 1 := ⟨(ab_T_in (tb_c_in 4 _ (List.mem_of_getElem? (i := 221) (rfl : (tb_c 4)[221]? = some (Cond.instanceMethod yX1_change)))) rfl), (ab_T_in (tb_c_in 4 _ (List.mem_of_getElem? (i := 222) (rfl : (tb_c 4)[222]? = some (Cond.selects RX1 yX1_change yX1_change)))) rfl), _, rfl, rfl⟩
def k_X1_copyFrom : List (Nat × Instr × Nat) :=
  [(0, .iconst 0, 1), (1, .istore_n 2, 1), (2, .iload_n 2, 1), (3, .iconst 5, 1), (4, .if_icmp .ge 45, 3), (7, .aload_n 0, 1), (8, .getfield 9, 3), (11, .iload_n 2, 1),
   (12, .aload_n 1, 1), (13, .getfield 9, 3), (16, .iload_n 2, 1), (17, .iaload, 1), (18, .iastore, 1), (19, .aload_n 0, 1), (20, .getfield 15, 3), (23, .iload_n 2, 1),
   (24, .aload_n 1, 1), (25, .getfield 15, 3), (28, .iload_n 2, 1), (29, .iaload, 1), (30, .iastore, 1), (31, .aload_n 0, 1), (32, .getfield 18, 3), (35, .iload_n 2, 1),
   (36, .aload_n 1, 1), (37, .getfield 18, 3), (40, .iload_n 2, 1), (41, .iaload, 1), (42, .iastore, 1), (43, .iinc 2 1, 3), (46, .goto (-44), 3), (49, .aload_n 0, 1),
   (50, .aload_n 1, 1), (51, .getfield 24, 3), (54, .putfield 24, 3), (57, .aload_n 0, 1), (58, .aload_n 1, 1), (59, .getfield 35, 3), (62, .putfield 35, 3), (65, .aload_n 0, 1),
   (66, .aload_n 1, 1), (67, .getfield 38, 3), (70, .putfield 38, 3), (73, .aload_n 0, 1), (74, .aload_n 1, 1), (75, .getfield 41, 3), (78, .putfield 41, 3), (81, .aload_n 0, 1),
   (82, .aload_n 1, 1), (83, .getfield 47, 3), (86, .putfield 47, 3), (89, .return_, 1)]
def M_X1_copyFrom : ab_MD := (K_X1, yX1_copyFrom, cX1_copyFrom, 3, none, false, k_X1_copyFrom)
theorem o_X1_copyFrom : ab_OK M_X1_copyFrom 1 := tb_ok OC_X1 (by decide +kernel) (by decide +kernel) (ab_T_in (tb_c_in 4 _ (List.mem_of_getElem? (i := 204) (rfl : (tb_c 4)[204]? = some (Cond.code yX1_copyFrom cX1_copyFrom 3 none)))) rfl) IN_X1
theorem v_X1_copyFrom : ab_kV M_X1_copyFrom 1 := ⟨(ab_T_in (tb_c_in 4 _ (List.mem_of_getElem? (i := 202) (rfl : (tb_c 4)[202]? = some (Cond.instanceMethod yX1_copyFrom)))) rfl), (ab_T_in (tb_c_in 4 _ (List.mem_of_getElem? (i := 203) (rfl : (tb_c 4)[203]? = some (Cond.selects RX1 yX1_copyFrom yX1_copyFrom)))) rfl), _, rfl, rfl⟩
def k_X1_goldOfAll : List (Nat × Instr × Nat) :=
  [(0, .iconst 0, 1), (1, .istore_n 1, 1), (2, .iconst 0, 1), (3, .istore_n 2, 1), (4, .iload_n 2, 1), (5, .iconst 5, 1), (6, .if_icmp .ge 18, 3), (9, .iload_n 1, 1),
   (10, .aload_n 0, 1), (11, .getfield 15, 3), (14, .iload_n 2, 1), (15, .iaload, 1), (16, .iadd, 1), (17, .istore_n 1, 1), (18, .iinc 2 1, 3), (21, .goto (-17), 3),
   (24, .iload_n 1, 1), (25, .ireturn, 1)]
def M_X1_goldOfAll : ab_MD := (K_X1, yX1_goldOfAll, cX1_goldOfAll, 3, (some .int), false, k_X1_goldOfAll)
theorem o_X1_goldOfAll : ab_OK M_X1_goldOfAll 0 := tb_ok OC_X1 (by decide +kernel) (by decide +kernel) (ab_T_in (tb_c_in 6 _ (List.mem_of_getElem? (i := 111) (rfl : (tb_c 6)[111]? = some (Cond.code yX1_goldOfAll cX1_goldOfAll 3 (some .int))))) rfl) IN_X1
theorem v_X1_goldOfAll : ab_kV M_X1_goldOfAll 1 := ⟨(ab_T_in (tb_c_in 6 _ (List.mem_of_getElem? (i := 109) (rfl : (tb_c 6)[109]? = some (Cond.instanceMethod yX1_goldOfAll)))) rfl), (ab_T_in (tb_c_in 6 _ (List.mem_of_getElem? (i := 110) (rfl : (tb_c 6)[110]? = some (Cond.selects RX1 yX1_goldOfAll yX1_goldOfAll)))) rfl), _, rfl, rfl⟩
def k_X1_holderOf : List (Nat × Instr × Nat) :=
  [(0, .iconst 0, 1), (1, .istore_n 2, 1), (2, .iload_n 2, 1), (3, .iconst 5, 1), (4, .if_icmp .ge 25, 3), (7, .aload_n 0, 1), (8, .getfield 9, 3), (11, .iload_n 2, 1),
   (12, .iaload, 1), (13, .iload_n 1, 1), (14, .iushr, 1), (15, .iconst 1, 1), (16, .iand, 1), (17, .iconst 1, 1), (18, .if_icmp .ne 5, 3), (21, .iload_n 2, 1),
   (22, .ireturn, 1), (23, .iinc 2 1, 3), (26, .goto (-24), 3), (29, .aload_n 0, 1), (30, .getfield 35, 3), (33, .iload_n 1, 1), (34, .iushr, 1), (35, .iconst 1, 1),
   (36, .iand, 1), (37, .iconst 1, 1), (38, .if_icmp .ne 8, 3), (41, .bipush (-2), 2), (43, .goto 5, 3), (46, .bipush (-3), 2), (48, .ireturn, 1)]
def M_X1_holderOf : ab_MD := (K_X1, yX1_holderOf, cX1_holderOf, 3, (some .int), false, k_X1_holderOf)
theorem o_X1_holderOf : ab_OK M_X1_holderOf 1 := tb_ok OC_X1 (by decide +kernel) (by decide +kernel) (ab_T_in (tb_c_in 4 _ (List.mem_of_getElem? (i := 191) (rfl : (tb_c 4)[191]? = some (Cond.code yX1_holderOf cX1_holderOf 3 (some .int))))) rfl) IN_X1
theorem v_X1_holderOf : ab_kV M_X1_holderOf 1 := ⟨(ab_T_in (tb_c_in 4 _ (List.mem_of_getElem? (i := 189) (rfl : (tb_c 4)[189]? = some (Cond.instanceMethod yX1_holderOf)))) rfl), (ab_T_in (tb_c_in 4 _ (List.mem_of_getElem? (i := 190) (rfl : (tb_c 4)[190]? = some (Cond.selects RX1 yX1_holderOf yX1_holderOf)))) rfl), _, rfl, rfl⟩
def k_X1_init : List (Nat × Instr × Nat) :=
  [(0, .aload_n 0, 1), (1, .invokespecial 3, 3), (4, .aload_n 0, 1), (5, .iconst 5, 1), (6, .newarray .int, 2), (8, .putfield 9, 3), (11, .aload_n 0, 1), (12, .iconst 5, 1),
   (13, .newarray .int, 2), (15, .putfield 15, 3), (18, .aload_n 0, 1), (19, .iconst 5, 1), (20, .newarray .int, 2), (22, .putfield 18, 3), (25, .return_, 1)]
def M_X1_init : ab_MD := (K_X1, yX1_init, cX1_init, 1, none, true, k_X1_init)
theorem o_X1_init : ab_OK M_X1_init 0 := tb_ok OC_X1 (by decide +kernel) (by decide +kernel) (ab_T_in (tb_c_in 3 _ (List.mem_of_getElem? (i := 11) (rfl : (tb_c 3)[11]? = some (Cond.code yX1_init cX1_init 1 none)))) rfl) IN_X1
theorem i_X1_init : Cond.instanceMethod M_X1_init.2.1 ∈ ab_T := (ab_T_in (tb_c_in 3 _ (List.mem_of_getElem? (i := 10) (rfl : (tb_c 3)[10]? = some (Cond.instanceMethod yX1_init)))) rfl)
def k_X1_laidByAll : List (Nat × Instr × Nat) :=
  [(0, .iconst 0, 1), (1, .istore_n 1, 1), (2, .iconst 0, 1), (3, .istore_n 2, 1), (4, .iload_n 2, 1), (5, .iconst 5, 1), (6, .if_icmp .ge 18, 3), (9, .iload_n 1, 1),
   (10, .aload_n 0, 1), (11, .getfield 18, 3), (14, .iload_n 2, 1), (15, .iaload, 1), (16, .iadd, 1), (17, .istore_n 1, 1), (18, .iinc 2 1, 3), (21, .goto (-17), 3),
   (24, .iload_n 1, 1), (25, .ireturn, 1)]
def M_X1_laidByAll : ab_MD := (K_X1, yX1_laidByAll, cX1_laidByAll, 3, (some .int), false, k_X1_laidByAll)
theorem o_X1_laidByAll : ab_OK M_X1_laidByAll 0 := tb_ok OC_X1 (by decide +kernel) (by decide +kernel) (ab_T_in (tb_c_in 5 _ (List.mem_of_getElem? (i := 75) (rfl : (tb_c 5)[75]? = some (Cond.code yX1_laidByAll cX1_laidByAll 3 (some .int))))) rfl) IN_X1
theorem v_X1_laidByAll : ab_kV M_X1_laidByAll 1 := ⟨(ab_T_in (tb_c_in 5 _ (List.mem_of_getElem? (i := 73) (rfl : (tb_c 5)[73]? = some (Cond.instanceMethod yX1_laidByAll)))) rfl), (ab_T_in (tb_c_in 5 _ (List.mem_of_getElem? (i := 74) (rfl : (tb_c 5)[74]? = some (Cond.selects RX1 yX1_laidByAll yX1_laidByAll)))) rfl), _, rfl, rfl⟩
def k_X1_move : List (Nat × Instr × Nat) :=
  [(0, .iconst 1, 1), (1, .iload_n 1, 1), (2, .ishl, 1), (3, .istore 4, 2), (5, .iload_n 2, 1), (6, .ifCond .lt 24, 3), (9, .iload_n 2, 1), (10, .iconst 5, 1),
   (11, .if_icmp .ge 19, 3), (14, .aload_n 0, 1), (15, .getfield 9, 3), (18, .iload_n 2, 1), (19, .dup2, 1), (20, .iaload, 1), (21, .iload 4, 2), (23, .iconst (-1), 1),
   (24, .ixor, 1), (25, .iand, 1), (26, .iastore, 1), (27, .goto 16, 3), (30, .aload_n 0, 1), (31, .dup, 1), (32, .getfield 35, 3), (35, .iload 4, 2),
   (37, .iconst (-1), 1), (38, .ixor, 1), (39, .iand, 1), (40, .putfield 35, 3), (43, .iload_n 3, 1), (44, .ifCond .lt 22, 3), (47, .iload_n 3, 1), (48, .iconst 5, 1),
   (49, .if_icmp .ge 17, 3), (52, .aload_n 0, 1), (53, .getfield 9, 3), (56, .iload_n 3, 1), (57, .dup2, 1), (58, .iaload, 1), (59, .iload 4, 2), (61, .ior, 1),
   (62, .iastore, 1), (63, .goto 14, 3), (66, .aload_n 0, 1), (67, .dup, 1), (68, .getfield 35, 3), (71, .iload 4, 2), (73, .ior, 1), (74, .putfield 35, 3),
   (77, .return_, 1)]
def M_X1_move : ab_MD := (K_X1, yX1_move, cX1_move, 5, none, false, k_X1_move)
theorem o_X1_move : ab_OK M_X1_move 3 := tb_ok OC_X1 (by decide +kernel) (by decide +kernel) (ab_T_in (tb_c_in 4 _ (List.mem_of_getElem? (i := 209) (rfl : (tb_c 4)[209]? = some (Cond.code yX1_move cX1_move 5 none)))) rfl) IN_X1
theorem v_X1_move : ab_kV M_X1_move 1 := ⟨(ab_T_in (tb_c_in 4 _ (List.mem_of_getElem? (i := 207) (rfl : (tb_c 4)[207]? = some (Cond.instanceMethod yX1_move)))) rfl), (ab_T_in (tb_c_in 4 _ (List.mem_of_getElem? (i := 208) (rfl : (tb_c 4)[208]? = some (Cond.selects RX1 yX1_move yX1_move)))) rfl), _, rfl, rfl⟩
def k_X1_nextNumber : List (Nat × Instr × Nat) :=
  [(0, .aload_n 0, 1), (1, .aload_n 0, 1), (2, .getfield 47, 3), (5, .ldc 58, 2), (7, .imul, 1), (8, .sipush 12345, 3), (11, .iadd, 1), (12, .ldc 61, 2),
   (14, .iand, 1), (15, .putfield 47, 3), (18, .aload_n 0, 1), (19, .getfield 47, 3), (22, .bipush 16, 2), (24, .iushr, 1), (25, .ireturn, 1)]
def M_X1_nextNumber : ab_MD := (K_X1, yX1_nextNumber, cX1_nextNumber, 1, (some .int), false, k_X1_nextNumber)
theorem o_X1_nextNumber : ab_OK M_X1_nextNumber 0 := tb_ok OC_X1 (by decide +kernel) (by decide +kernel) (ab_T_in (tb_c_in 5 _ (List.mem_of_getElem? (i := 58) (rfl : (tb_c 5)[58]? = some (Cond.code yX1_nextNumber cX1_nextNumber 1 (some .int))))) rfl) IN_X1
theorem v_X1_nextNumber : ab_kV M_X1_nextNumber 1 := ⟨(ab_T_in (tb_c_in 5 _ (List.mem_of_getElem? (i := 56) (rfl : (tb_c 5)[56]? = some (Cond.instanceMethod yX1_nextNumber)))) rfl), (ab_T_in (tb_c_in 5 _ (List.mem_of_getElem? (i := 57) (rfl : (tb_c 5)[57]? = some (Cond.selects RX1 yX1_nextNumber yX1_nextNumber)))) rfl), _, rfl, rfl⟩
/-! printed by wip/tools/mktab.py: methods of BoneEstate$Game -/
def k_X2_init : List (Nat × Instr × Nat) :=
  [(0, .aload_n 0, 1), (1, .invokespecial 3, 3), (4, .aload_n 0, 1), (5, .iconst 2, 1), (6, .newarray .int, 2), (8, .putfield 9, 3), (11, .aload_n 0, 1), (12, .sipush 3584, 3),
   (15, .newarray .int, 2), (17, .putfield 15, 3), (20, .aload_n 0, 1), (21, .aload_n 1, 1), (22, .putfield 18, 3), (25, .aload_n 0, 1), (26, .aload_n 2, 1), (27, .putfield 22, 3),
   (30, .return_, 1)]
def M_X2_init : ab_MD := (K_X2, yX2_init, cX2_init, 3, none, true, k_X2_init)
theorem o_X2_init : ab_OK M_X2_init 2 := tb_ok OC_X2 (by decide +kernel) (by decide +kernel) (ab_T_in (tb_c_in 2 _ (List.mem_of_getElem? (i := 193) (rfl : (tb_c 2)[193]? = some (Cond.code yX2_init cX2_init 3 none)))) rfl) IN_X2
theorem i_X2_init : Cond.instanceMethod M_X2_init.2.1 ∈ ab_T := (ab_T_in (tb_c_in 2 _ (List.mem_of_getElem? (i := 192) (rfl : (tb_c 2)[192]? = some (Cond.instanceMethod yX2_init)))) rfl)
def k_X2_isBetter : List (Nat × Instr × Nat) :=
  [(0, .iload_n 0, 1), (1, .iload_n 2, 1), (2, .isub, 1), (3, .iconst 2, 1), (4, .irem, 1), (5, .iconst 1, 1), (6, .if_icmp .ne 7, 3), (9, .iconst 1, 1),
   (10, .goto 4, 3), (13, .iconst 0, 1), (14, .istore_n 3, 1), (15, .iload_n 1, 1), (16, .iload_n 2, 1), (17, .isub, 1), (18, .iconst 2, 1), (19, .irem, 1),
   (20, .iconst 1, 1), (21, .if_icmp .ne 7, 3), (24, .iconst 1, 1), (25, .goto 4, 3), (28, .iconst 0, 1), (29, .istore 4, 2), (31, .iload_n 3, 1), (32, .iload 4, 2),
   (34, .if_icmp .eq 5, 3), (37, .iload_n 3, 1), (38, .ireturn, 1), (39, .iload_n 3, 1), (40, .ifCond .eq 16, 3), (43, .iload_n 0, 1), (44, .iload_n 1, 1), (45, .if_icmp .ge 7, 3),
   (48, .iconst 1, 1), (49, .goto 17, 3), (52, .iconst 0, 1), (53, .goto 13, 3), (56, .iload_n 0, 1), (57, .iload_n 1, 1), (58, .if_icmp .le 7, 3), (61, .iconst 1, 1),
   (62, .goto 4, 3), (65, .iconst 0, 1), (66, .ireturn, 1)]
def M_X2_isBetter : ab_MD := (K_X2, yX2_isBetter, cX2_isBetter, 5, (some .boolean), false, k_X2_isBetter)
theorem o_X2_isBetter : ab_OK M_X2_isBetter 3 := tb_ok OC_X2 (by decide +kernel) (by decide +kernel) (ab_T_in (tb_c_in 6 _ (List.mem_of_getElem? (i := 0) (rfl : (tb_c 6)[0]? = some (Cond.code yX2_isBetter cX2_isBetter 5 (some .boolean))))) rfl) IN_X2
theorem s_X2_isBetter : Cond.static M_X2_isBetter.2.1 ∈ ab_T := (ab_T_in (tb_c_in 5 _ (List.mem_of_getElem? (i := 239) (rfl : (tb_c 5)[239]? = some (Cond.static yX2_isBetter)))) rfl)
def k_X2_open : List (Nat × Instr × Nat) :=
  [(0, .iload_n 2, 1), (1, .aload_n 0, 1), (2, .getfield 32, 3), (5, .iconst 0, 1), (6, .invokestatic 58, 3), (9, .ifCond .eq 13, 3), (12, .aload_n 0, 1), (13, .iload_n 2, 1),
   (14, .putfield 32, 3), (17, .aload_n 0, 1), (18, .iload_n 1, 1), (19, .putfield 36, 3), (22, .return_, 1)]
def M_X2_open : ab_MD := (K_X2, yX2_open, cX2_open, 3, none, false, k_X2_open)
theorem o_X2_open : ab_OK M_X2_open 2 := tb_ok OC_X2 (by decide +kernel) (by decide +kernel) (ab_T_in (tb_c_in 6 _ (List.mem_of_getElem? (i := 4) (rfl : (tb_c 6)[4]? = some (Cond.code yX2_open cX2_open 3 none)))) rfl) IN_X2
theorem v_X2_open : ab_kV M_X2_open 2 := ⟨(ab_T_in (tb_c_in 6 _ (List.mem_of_getElem? (i := 3) (rfl : (tb_c 6)[3]? = some (Cond.instanceMethod yX2_open)))) rfl), (ab_T_in (tb_c_in 0 _ (List.mem_of_getElem? (i := 42) (rfl : (tb_c 0)[42]? = some (Cond.selects RX2 yX2_open yX2_open)))) rfl), _, rfl, rfl⟩
def k_X2_playOut : List (Nat × Instr × Nat) :=
  [(0, .aload_n 0, 1), (1, .getfield 15, 3), (4, .iconst 0, 1), (5, .invokestatic 26, 3), (8, .aload_n 0, 1), (9, .getfield 9, 3), (12, .iconst 0, 1), (13, .iload_n 1, 1),
   (14, .iastore, 1), (15, .aload_n 0, 1), (16, .getfield 9, 3), (19, .iconst 1, 1), (20, .iload_n 2, 1), (21, .iastore, 1), (22, .aload_n 0, 1), (23, .iconst 0, 1),
   (24, .putfield 32, 3), (27, .aload_n 0, 1), (28, .bipush (-2), 2), (30, .putfield 36, 3), (33, .iconst 0, 1), (34, .istore_n 3, 1), (35, .iload_n 3, 1), (36, .aload_n 0, 1),
   (37, .getfield 18, 3), (40, .getfield 39, 3), (43, .if_icmp .ge 80, 3), (46, .iload_n 1, 1), (47, .iload_n 3, 1), (48, .iushr, 1), (49, .iconst 1, 1), (50, .iand, 1),
   (51, .iconst 1, 1), (52, .if_icmp .ne 65, 3), (55, .aload_n 0, 1), (56, .iload_n 3, 1), (57, .aload_n 0, 1), (58, .iconst 1, 1), (59, .iload_n 3, 1), (60, .ishl, 1),
   (61, .aload_n 0, 1), (62, .getfield 18, 3), (65, .getfield 44, 3), (68, .iload_n 3, 1), (69, .iaload, 1), (70, .aload_n 0, 1), (71, .getfield 18, 3), (74, .getfield 47, 3),
   (77, .iload_n 3, 1), (78, .iaload, 1), (79, .iconst 1, 1), (80, .invokevirtual 50, 3), (83, .invokevirtual 54, 3), (86, .aload_n 0, 1), (87, .iload_n 3, 1), (88, .aload_n 0, 1),
   (89, .iconst 1, 1), (90, .iload_n 3, 1), (91, .ishl, 1), (92, .aload_n 0, 1), (93, .getfield 18, 3), (96, .getfield 47, 3), (99, .iload_n 3, 1), (100, .iaload, 1),
   (101, .aload_n 0, 1), (102, .getfield 18, 3), (105, .getfield 44, 3), (108, .iload_n 3, 1), (109, .iaload, 1), (110, .iconst 1, 1), (111, .invokevirtual 50, 3), (114, .invokevirtual 54, 3),
   (117, .iinc 3 1, 3), (120, .goto (-85), 3), (123, .return_, 1)]
def M_X2_playOut : ab_MD := (K_X2, yX2_playOut, cX2_playOut, 4, none, false, k_X2_playOut)
theorem o_X2_playOut : ab_OK M_X2_playOut 2 := tb_ok OC_X2 (by decide +kernel) (by decide +kernel) (ab_T_in (tb_c_in 5 _ (List.mem_of_getElem? (i := 231) (rfl : (tb_c 5)[231]? = some (Cond.code yX2_playOut cX2_playOut 4 none)))) rfl) IN_X2
theorem v_X2_playOut : ab_kV M_X2_playOut 2 := ⟨(ab_T_in (tb_c_in 5 _ (List.mem_of_getElem? (i := 229) (rfl : (tb_c 5)[229]? = some (Cond.instanceMethod yX2_playOut)))) rfl), (ab_T_in (tb_c_in 5 _ (List.mem_of_getElem? (i := 230) (rfl : (tb_c 5)[230]? = some (Cond.selects RX2 yX2_playOut yX2_playOut)))) rfl), _, rfl, rfl⟩
def k_X2_totalFrom_0 : List (Nat × Instr × Nat) :=
  [(0, .iload 4, 2), (2, .bipush 9, 2), (4, .if_icmp .lt 6, 3), (7, .iload 4, 2), (9, .ireturn, 1), (10, .iload_n 1, 1), (11, .bipush 7, 2), (13, .imul, 1),
   (14, .iload_n 2, 1), (15, .iadd, 1), (16, .istore 5, 2), (18, .aload_n 0, 1), (19, .getfield 15, 3), (22, .iload 5, 2), (24, .iaload, 1), (25, .iload_n 3, 1),
   (26, .iconst 4, 1), (27, .imul, 1), (28, .iushr, 1), (29, .bipush 15, 2), (31, .iand, 1), (32, .istore 6, 2), (34, .iload 6, 2), (36, .ifCond .eq 6, 3),
   (39, .iload 6, 2), (41, .ireturn, 1), (42, .iload 4, 2), (44, .istore 7, 2), (46, .aload_n 0, 1), (47, .getfield 9, 3), (50, .iload 4, 2), (52, .iconst 2, 1),
   (53, .irem, 1), (54, .iaload, 1), (55, .iload_n 1, 1), (56, .iconst (-1), 1), (57, .ixor, 1), (58, .iand, 1), (59, .istore 8, 2), (61, .iconst 0, 1),
   (62, .istore 9, 2), (64, .iload 9, 2), (66, .aload_n 0, 1), (67, .getfield 18, 3), (70, .getfield 39, 3), (73, .iconst 4, 1), (74, .imul, 1), (75, .if_icmp .ge 209, 3)]
def k_X2_totalFrom_1 : List (Nat × Instr × Nat) :=
  [(78, .iload 9, 2), (80, .iconst 4, 1), (81, .idiv, 1), (82, .istore 10, 2), (84, .iload 9, 2), (86, .iconst 2, 1), (87, .irem, 1), (88, .iconst 1, 1),
   (89, .if_icmp .ne 7, 3), (92, .iconst 1, 1), (93, .goto 4, 3), (96, .iconst 0, 1), (97, .istore 11, 2), (99, .iload 11, 2), (101, .ifCond .eq 16, 3), (104, .aload_n 0, 1),
   (105, .getfield 18, 3), (108, .getfield 47, 3), (111, .iload 10, 2), (113, .iaload, 1), (114, .goto 13, 3), (117, .aload_n 0, 1), (118, .getfield 18, 3), (121, .getfield 44, 3),
   (124, .iload 10, 2), (126, .iaload, 1), (127, .istore 12, 2), (129, .iload 11, 2), (131, .ifCond .eq 16, 3), (134, .aload_n 0, 1), (135, .getfield 18, 3), (138, .getfield 44, 3),
   (141, .iload 10, 2), (143, .iaload, 1), (144, .goto 13, 3), (147, .aload_n 0, 1), (148, .getfield 18, 3), (151, .getfield 47, 3), (154, .iload 10, 2), (156, .iaload, 1),
   (157, .istore 13, 2), (159, .iload 8, 2), (161, .iload 10, 2), (163, .iushr, 1), (164, .iconst 1, 1), (165, .iand, 1), (166, .iconst 1, 1), (167, .if_icmp .ne 111, 3)]
def k_X2_totalFrom_2 : List (Nat × Instr × Nat) :=
  [(170, .iload 7, 2), (172, .istore 14, 2), (174, .iload 9, 2), (176, .iconst 4, 1), (177, .irem, 1), (178, .iconst 2, 1), (179, .if_icmp .ge 38, 3), (182, .aload_n 0, 1),
   (183, .getfield 22, 3), (186, .iload_n 3, 1), (187, .iload 12, 2), (189, .invokevirtual 62, 3), (192, .ifCond .eq 25, 3), (195, .aload_n 0, 1), (196, .iload_n 1, 1), (197, .iconst 1, 1),
   (198, .iload 10, 2), (200, .ishl, 1), (201, .ior, 1), (202, .iload_n 2, 1), (203, .iload 13, 2), (205, .iload 4, 2), (207, .iconst 1, 1), (208, .iadd, 1),
   (209, .invokevirtual 50, 3), (212, .istore 14, 2), (214, .goto 43, 3), (217, .iload 9, 2), (219, .iconst 4, 1), (220, .irem, 1), (221, .iconst 2, 1), (222, .if_icmp .lt 35, 3),
   (225, .aload_n 0, 1), (226, .getfield 22, 3), (229, .iload 13, 2), (231, .iload_n 2, 1), (232, .invokevirtual 62, 3), (235, .ifCond .eq 22, 3), (238, .aload_n 0, 1), (239, .iload_n 1, 1),
   (240, .iconst 1, 1), (241, .iload 10, 2), (243, .ishl, 1), (244, .ior, 1), (245, .iload 12, 2), (247, .iload_n 3, 1), (248, .iload 4, 2), (250, .iconst 1, 1)]
def k_X2_totalFrom_3 : List (Nat × Instr × Nat) :=
  [(251, .iadd, 1), (252, .invokevirtual 50, 3), (255, .istore 14, 2), (257, .iload 14, 2), (259, .iload 7, 2), (261, .iload 4, 2), (263, .invokestatic 58, 3), (266, .ifCond .eq 8, 3),
   (269, .iload 14, 2), (271, .goto 5, 3), (274, .iload 7, 2), (276, .istore 7, 2), (278, .iinc 9 1, 3), (281, .goto (-217), 3), (284, .aload_n 0, 1), (285, .getfield 15, 3),
   (288, .iload 5, 2), (290, .dup2, 1), (291, .iaload, 1), (292, .iload 7, 2), (294, .iload_n 3, 1), (295, .iconst 4, 1), (296, .imul, 1), (297, .ishl, 1),
   (298, .ior, 1), (299, .iastore, 1), (300, .iload 7, 2), (302, .ireturn, 1)]
def k_X2_totalFrom : List (Nat × Instr × Nat) := k_X2_totalFrom_0 ++ (k_X2_totalFrom_1 ++ (k_X2_totalFrom_2 ++ (k_X2_totalFrom_3)))
theorem r_X2_totalFrom_0 : k_X2_totalFrom_0.all (tb_rr cX2_totalFrom) = true := by decide +kernel
theorem r_X2_totalFrom_1 : k_X2_totalFrom_1.all (tb_rr cX2_totalFrom) = true := by decide +kernel
theorem r_X2_totalFrom_2 : k_X2_totalFrom_2.all (tb_rr cX2_totalFrom) = true := by decide +kernel
theorem r_X2_totalFrom_3 : k_X2_totalFrom_3.all (tb_rr cX2_totalFrom) = true := by decide +kernel
def M_X2_totalFrom : ab_MD := (K_X2, yX2_totalFrom, cX2_totalFrom, 15, (some .int), false, k_X2_totalFrom)
theorem o_X2_totalFrom : ab_OK M_X2_totalFrom 4 := tb_ok OC_X2 (by decide +kernel) (tb_app r_X2_totalFrom_0 (tb_app r_X2_totalFrom_1 (tb_app r_X2_totalFrom_2 r_X2_totalFrom_3))) (ab_T_in (tb_c_in 5 _ (List.mem_of_getElem? (i := 236) (rfl : (tb_c 5)[236]? = some (Cond.code yX2_totalFrom cX2_totalFrom 15 (some .int))))) rfl) IN_X2
theorem v_X2_totalFrom : ab_kV M_X2_totalFrom 2 := ⟨(ab_T_in (tb_c_in 5 _ (List.mem_of_getElem? (i := 235) (rfl : (tb_c 5)[235]? = some (Cond.instanceMethod yX2_totalFrom)))) rfl), (ab_T_in (tb_c_in 0 _ (List.mem_of_getElem? (i := 41) (rfl : (tb_c 0)[41]? = some (Cond.selects RX2 yX2_totalFrom yX2_totalFrom)))) rfl), _, rfl, rfl⟩
/-! printed by wip/tools/mktab.py: methods of BoneEstate$Law -/
def k_X4_add : List (Nat × Instr × Nat) :=
  [(0, .aload_n 0, 1), (1, .getfield 22, 3), (4, .bipush 64, 2), (6, .if_icmp .ge 45, 3), (9, .aload_n 0, 1), (10, .getfield 9, 3), (13, .aload_n 0, 1), (14, .getfield 22, 3),
   (17, .iload_n 1, 1), (18, .iastore, 1), (19, .aload_n 0, 1), (20, .dup, 1), (21, .getfield 22, 3), (24, .iconst 1, 1), (25, .iadd, 1), (26, .putfield 22, 3),
   (29, .aload_n 0, 1), (30, .aload_n 0, 1), (31, .getfield 26, 3), (34, .ifCond .ne 9, 3), (37, .iload_n 1, 1), (38, .bipush (-7), 2), (40, .if_icmp .ne 7, 3), (43, .iconst 1, 1),
   (44, .goto 4, 3), (47, .iconst 0, 1), (48, .putfield 26, 3), (51, .return_, 1)]
def M_X4_add : ab_MD := (K_X4, yX4_add, cX4_add, 2, none, false, k_X4_add)
theorem o_X4_add : ab_OK M_X4_add 1 := tb_ok OC_X4 (by decide +kernel) (by decide +kernel) (ab_T_in (tb_c_in 4 _ (List.mem_of_getElem? (i := 35) (rfl : (tb_c 4)[35]? = some (Cond.code yX4_add cX4_add 2 none)))) rfl) IN_X4
theorem v_X4_add : ab_kV M_X4_add 4 := ⟨(ab_T_in (tb_c_in 4 _ (List.mem_of_getElem? (i := 33) (rfl : (tb_c 4)[33]? = some (Cond.instanceMethod yX4_add)))) rfl), (ab_T_in (tb_c_in 4 _ (List.mem_of_getElem? (i := 34) (rfl : (tb_c 4)[34]? = some (Cond.selects RX4 yX4_add yX4_add)))) rfl), _, rfl, rfl⟩
def k_X4_clear : List (Nat × Instr × Nat) :=
  [(0, .aload_n 0, 1), (1, .iconst 0, 1), (2, .putfield 22, 3), (5, .aload_n 0, 1), (6, .iconst 0, 1), (7, .putfield 26, 3), (10, .return_, 1)]
def M_X4_clear : ab_MD := (K_X4, yX4_clear, cX4_clear, 1, none, false, k_X4_clear)
theorem o_X4_clear : ab_OK M_X4_clear 0 := tb_ok OC_X4 (by decide +kernel) (by decide +kernel) (ab_T_in (tb_c_in 3 _ (List.mem_of_getElem? (i := 135) (rfl : (tb_c 3)[135]? = some (Cond.code yX4_clear cX4_clear 1 none)))) rfl) IN_X4
theorem v_X4_clear : ab_kV M_X4_clear 4 := ⟨(ab_T_in (tb_c_in 3 _ (List.mem_of_getElem? (i := 133) (rfl : (tb_c 3)[133]? = some (Cond.instanceMethod yX4_clear)))) rfl), (ab_T_in (tb_c_in 3 _ (List.mem_of_getElem? (i := 134) (rfl : (tb_c 3)[134]? = some (Cond.selects RX4 yX4_clear yX4_clear)))) rfl), _, rfl, rfl⟩
def k_X4_copyFrom : List (Nat × Instr × Nat) :=
  [(0, .aload_n 1, 1), (1, .getfield 9, 3), (4, .iconst 0, 1), (5, .aload_n 0, 1), (6, .getfield 9, 3), (9, .iconst 0, 1), (10, .bipush 64, 2), (12, .invokestatic 30, 3),
   (15, .aload_n 0, 1), (16, .aload_n 1, 1), (17, .getfield 22, 3), (20, .putfield 22, 3), (23, .aload_n 0, 1), (24, .aload_n 1, 1), (25, .getfield 26, 3), (28, .putfield 26, 3),
   (31, .return_, 1)]
def M_X4_copyFrom : ab_MD := (K_X4, yX4_copyFrom, cX4_copyFrom, 2, none, false, k_X4_copyFrom)
theorem o_X4_copyFrom : ab_OK M_X4_copyFrom 1 := tb_ok OC_X4 (by decide +kernel) (by decide +kernel) (ab_T_in (tb_c_in 4 _ (List.mem_of_getElem? (i := 72) (rfl : (tb_c 4)[72]? = some (Cond.code yX4_copyFrom cX4_copyFrom 2 none)))) rfl) IN_X4
theorem v_X4_copyFrom : ab_kV M_X4_copyFrom 4 := ⟨(ab_T_in (tb_c_in 4 _ (List.mem_of_getElem? (i := 70) (rfl : (tb_c 4)[70]? = some (Cond.instanceMethod yX4_copyFrom)))) rfl), (ab_T_in (tb_c_in 4 _ (List.mem_of_getElem? (i := 71) (rfl : (tb_c 4)[71]? = some (Cond.selects RX4 yX4_copyFrom yX4_copyFrom)))) rfl), _, rfl, rfl⟩
def k_X4_init : List (Nat × Instr × Nat) :=
  [(0, .aload_n 0, 1), (1, .invokespecial 3, 3), (4, .aload_n 0, 1), (5, .bipush 64, 2), (7, .newarray .int, 2), (9, .putfield 9, 3), (12, .aload_n 0, 1), (13, .bipush 64, 2),
   (15, .newarray .long, 2), (17, .putfield 15, 3), (20, .aload_n 0, 1), (21, .bipush 8, 2), (23, .newarray .long, 2), (25, .putfield 19, 3), (28, .return_, 1)]
def M_X4_init : ab_MD := (K_X4, yX4_init, cX4_init, 1, none, true, k_X4_init)
theorem o_X4_init : ab_OK M_X4_init 0 := tb_ok OC_X4 (by decide +kernel) (by decide +kernel) (ab_T_in (tb_c_in 1 _ (List.mem_of_getElem? (i := 140) (rfl : (tb_c 1)[140]? = some (Cond.code yX4_init cX4_init 1 none)))) rfl) IN_X4
theorem i_X4_init : Cond.instanceMethod M_X4_init.2.1 ∈ ab_T := (ab_T_in (tb_c_in 1 _ (List.mem_of_getElem? (i := 139) (rfl : (tb_c 1)[139]? = some (Cond.instanceMethod yX4_init)))) rfl)
def k_X4_isTold : List (Nat × Instr × Nat) :=
  [(0, .aload_n 0, 1), (1, .getfield 22, 3), (4, .ifCond .le 7, 3), (7, .iconst 1, 1), (8, .goto 4, 3), (11, .iconst 0, 1), (12, .ireturn, 1)]
def M_X4_isTold : ab_MD := (K_X4, yX4_isTold, cX4_isTold, 1, (some .boolean), false, k_X4_isTold)
theorem o_X4_isTold : ab_OK M_X4_isTold 0 := tb_ok OC_X4 (by decide +kernel) (by decide +kernel) (ab_T_in (tb_c_in 4 _ (List.mem_of_getElem? (i := 8) (rfl : (tb_c 4)[8]? = some (Cond.code yX4_isTold cX4_isTold 1 (some .boolean))))) rfl) IN_X4
theorem v_X4_isTold : ab_kV M_X4_isTold 4 := ⟨(ab_T_in (tb_c_in 4 _ (List.mem_of_getElem? (i := 6) (rfl : (tb_c 4)[6]? = some (Cond.instanceMethod yX4_isTold)))) rfl), (ab_T_in (tb_c_in 4 _ (List.mem_of_getElem? (i := 7) (rfl : (tb_c 4)[7]? = some (Cond.selects RX4 yX4_isTold yX4_isTold)))) rfl), _, rfl, rfl⟩
def k_X4_product : List (Nat × Instr × Nat) :=
  [(0, .lload_n 0, 1), (1, .lconst 0, 1), (2, .lcmp, 1), (3, .ifCond .ge 8, 3), (6, .lload_n 0, 1), (7, .lneg, 1), (8, .goto 4, 3), (11, .lload_n 0, 1),
   (12, .lstore 4, 2), (14, .lload_n 2, 1), (15, .lconst 0, 1), (16, .lcmp, 1), (17, .ifCond .ge 8, 3), (20, .lload_n 2, 1), (21, .lneg, 1), (22, .goto 4, 3),
   (25, .lload_n 2, 1), (26, .lstore 6, 2), (28, .lload 4, 2), (30, .lconst 0, 1), (31, .lcmp, 1), (32, .ifCond .eq 21, 3), (35, .lload 6, 2), (37, .ldc2_w 42, 3),
   (40, .lload 4, 2), (42, .ldiv, 1), (43, .lcmp, 1), (44, .ifCond .le 9, 3), (47, .ldc2_w 36, 3), (50, .goto 6, 3), (53, .lload_n 0, 1), (54, .lload_n 2, 1),
   (55, .lmul, 1), (56, .lreturn, 1)]
def M_X4_product : ab_MD := (K_X4, yX4_product, cX4_product, 8, (some .long), false, k_X4_product)
theorem o_X4_product : ab_OK M_X4_product 2 := tb_ok OC_X4 (by decide +kernel) (by decide +kernel) (ab_T_in (tb_c_in 4 _ (List.mem_of_getElem? (i := 144) (rfl : (tb_c 4)[144]? = some (Cond.code yX4_product cX4_product 8 (some .long))))) rfl) IN_X4
theorem s_X4_product : Cond.static M_X4_product.2.1 ∈ ab_T := (ab_T_in (tb_c_in 4 _ (List.mem_of_getElem? (i := 143) (rfl : (tb_c 4)[143]? = some (Cond.static yX4_product)))) rfl)
def k_X4_resultOf_0 : List (Nat × Instr × Nat) :=
  [(0, .iload_n 0, 1), (1, .tableswitch 205 8 20 #[67, 85, 205, 103, 115, 127, 139, 151, 163, 175, 179, 183, 189], 67), (68, .lload_n 1, 1), (69, .lconst 0, 1), (70, .lcmp, 1), (71, .ifCond .ne 9, 3), (74, .lload_n 3, 1), (75, .lconst 0, 1),
   (76, .lcmp, 1), (77, .ifCond .eq 7, 3), (80, .lconst 1, 1), (81, .goto 4, 3), (84, .lconst 0, 1), (85, .lreturn, 1), (86, .lload_n 1, 1), (87, .lconst 0, 1),
   (88, .lcmp, 1), (89, .ifCond .eq 13, 3), (92, .lload_n 3, 1), (93, .lconst 0, 1), (94, .lcmp, 1), (95, .ifCond .eq 7, 3), (98, .lconst 1, 1), (99, .goto 4, 3),
   (102, .lconst 0, 1), (103, .lreturn, 1), (104, .lload_n 1, 1), (105, .lload_n 3, 1), (106, .lcmp, 1), (107, .ifCond .ge 7, 3), (110, .lconst 1, 1), (111, .goto 4, 3),
   (114, .lconst 0, 1), (115, .lreturn, 1), (116, .lload_n 1, 1), (117, .lload_n 3, 1), (118, .lcmp, 1), (119, .ifCond .gt 7, 3), (122, .lconst 1, 1), (123, .goto 4, 3),
   (126, .lconst 0, 1), (127, .lreturn, 1), (128, .lload_n 1, 1), (129, .lload_n 3, 1), (130, .lcmp, 1), (131, .ifCond .ne 7, 3), (134, .lconst 1, 1), (135, .goto 4, 3)]
def k_X4_resultOf_1 : List (Nat × Instr × Nat) :=
  [(138, .lconst 0, 1), (139, .lreturn, 1), (140, .lload_n 1, 1), (141, .lload_n 3, 1), (142, .lcmp, 1), (143, .ifCond .eq 7, 3), (146, .lconst 1, 1), (147, .goto 4, 3),
   (150, .lconst 0, 1), (151, .lreturn, 1), (152, .lload_n 1, 1), (153, .lload_n 3, 1), (154, .lcmp, 1), (155, .ifCond .lt 7, 3), (158, .lconst 1, 1), (159, .goto 4, 3),
   (162, .lconst 0, 1), (163, .lreturn, 1), (164, .lload_n 1, 1), (165, .lload_n 3, 1), (166, .lcmp, 1), (167, .ifCond .le 7, 3), (170, .lconst 1, 1), (171, .goto 4, 3),
   (174, .lconst 0, 1), (175, .lreturn, 1), (176, .lload_n 1, 1), (177, .lload_n 3, 1), (178, .ladd, 1), (179, .lreturn, 1), (180, .lload_n 1, 1), (181, .lload_n 3, 1),
   (182, .lsub, 1), (183, .lreturn, 1), (184, .lload_n 1, 1), (185, .lload_n 3, 1), (186, .invokestatic 46, 3), (189, .lreturn, 1), (190, .lload_n 3, 1), (191, .lconst 0, 1),
   (192, .lcmp, 1), (193, .ifCond .ne 9, 3), (196, .ldc2_w 36, 3), (199, .goto 6, 3), (202, .lload_n 1, 1), (203, .lload_n 3, 1), (204, .ldiv, 1), (205, .lreturn, 1)]
def k_X4_resultOf_2 : List (Nat × Instr × Nat) :=
  [(206, .ldc2_w 36, 3), (209, .lreturn, 1)]
def k_X4_resultOf : List (Nat × Instr × Nat) := k_X4_resultOf_0 ++ (k_X4_resultOf_1 ++ (k_X4_resultOf_2))
theorem r_X4_resultOf_0 : k_X4_resultOf_0.all (tb_rr cX4_resultOf) = true := by decide +kernel
theorem r_X4_resultOf_1 : k_X4_resultOf_1.all (tb_rr cX4_resultOf) = true := by decide +kernel
theorem r_X4_resultOf_2 : k_X4_resultOf_2.all (tb_rr cX4_resultOf) = true := by decide +kernel
def M_X4_resultOf : ab_MD := (K_X4, yX4_resultOf, cX4_resultOf, 5, (some .long), false, k_X4_resultOf)
theorem o_X4_resultOf : ab_OK M_X4_resultOf 3 := tb_ok OC_X4 (by decide +kernel) (tb_app r_X4_resultOf_0 (tb_app r_X4_resultOf_1 r_X4_resultOf_2)) (ab_T_in (tb_c_in 4 _ (List.mem_of_getElem? (i := 141) (rfl : (tb_c 4)[141]? = some (Cond.code yX4_resultOf cX4_resultOf 5 (some .long))))) rfl) IN_X4
theorem s_X4_resultOf : Cond.static M_X4_resultOf.2.1 ∈ ab_T := (ab_T_in (tb_c_in 4 _ (List.mem_of_getElem? (i := 140) (rfl : (tb_c 4)[140]? = some (Cond.static yX4_resultOf)))) rfl)
def k_X4_scene : List (Nat × Instr × Nat) :=
  [(0, .aload_n 0, 1), (1, .getfield 19, 3), (4, .iconst 5, 1), (5, .iload_n 1, 1), (6, .i2l, 1), (7, .lastore, 1), (8, .aload_n 0, 1), (9, .getfield 19, 3),
   (12, .bipush 6, 2), (14, .iload_n 2, 1), (15, .i2l, 1), (16, .lastore, 1), (17, .aload_n 0, 1), (18, .getfield 19, 3), (21, .bipush 7, 2), (23, .iload_n 3, 1),
   (24, .i2l, 1), (25, .lastore, 1), (26, .return_, 1)]
def M_X4_scene : ab_MD := (K_X4, yX4_scene, cX4_scene, 4, none, false, k_X4_scene)
theorem o_X4_scene : ab_OK M_X4_scene 3 := tb_ok OC_X4 (by decide +kernel) (by decide +kernel) (ab_T_in (tb_c_in 4 _ (List.mem_of_getElem? (i := 130) (rfl : (tb_c 4)[130]? = some (Cond.code yX4_scene cX4_scene 4 none)))) rfl) IN_X4
theorem v_X4_scene : ab_kV M_X4_scene 4 := ⟨(ab_T_in (tb_c_in 4 _ (List.mem_of_getElem? (i := 128) (rfl : (tb_c 4)[128]? = some (Cond.instanceMethod yX4_scene)))) rfl), (ab_T_in (tb_c_in 4 _ (List.mem_of_getElem? (i := 129) (rfl : (tb_c 4)[129]? = some (Cond.selects RX4 yX4_scene yX4_scene)))) rfl), _, rfl, rfl⟩
def k_X4_work_0 : List (Nat × Instr × Nat) :=
  [(0, .aload_n 0, 1), (1, .getfield 19, 3), (4, .iconst 1, 1), (5, .iload_n 1, 1), (6, .i2l, 1), (7, .lastore, 1), (8, .aload_n 0, 1), (9, .getfield 19, 3),
   (12, .iconst 2, 1), (13, .iload_n 2, 1), (14, .i2l, 1), (15, .lastore, 1), (16, .aload_n 0, 1), (17, .getfield 19, 3), (20, .iconst 3, 1), (21, .iload_n 3, 1),
   (22, .i2l, 1), (23, .lastore, 1), (24, .aload_n 0, 1), (25, .getfield 19, 3), (28, .iconst 4, 1), (29, .iload 4, 2), (31, .i2l, 1), (32, .lastore, 1),
   (33, .iconst 0, 1), (34, .istore 5, 2), (36, .iconst 0, 1), (37, .istore 6, 2), (39, .iload 6, 2), (41, .aload_n 0, 1), (42, .getfield 22, 3), (45, .if_icmp .ge 201, 3),
   (48, .iload 6, 2), (50, .bipush 64, 2), (52, .if_icmp .ge 194, 3), (55, .aload_n 0, 1), (56, .getfield 9, 3), (59, .iload 6, 2), (61, .iaload, 1), (62, .istore 7, 2),
   (64, .iload 7, 2), (66, .ineg, 1), (67, .istore 8, 2), (69, .iload 7, 2), (71, .ifCond .ge 10, 3), (74, .iload 8, 2), (76, .bipush 7, 2), (78, .if_icmp .gt 45, 3)]
def k_X4_work_1 : List (Nat × Instr × Nat) :=
  [(81, .iload 5, 2), (83, .bipush 64, 2), (85, .if_icmp .lt 7, 3), (88, .ldc2_w 36, 3), (91, .lreturn, 1), (92, .aload_n 0, 1), (93, .getfield 15, 3), (96, .iload 5, 2),
   (98, .iload 7, 2), (100, .ifCond .lt 9, 3), (103, .iload 7, 2), (105, .i2l, 1), (106, .goto 10, 3), (109, .aload_n 0, 1), (110, .getfield 19, 3), (113, .iload 8, 2),
   (115, .laload, 1), (116, .lastore, 1), (117, .iinc 5 1, 3), (120, .goto 120, 3), (123, .iload 8, 2), (125, .bipush 10, 2), (127, .if_icmp .ne 44, 3), (130, .iload 5, 2),
   (132, .iconst 1, 1), (133, .if_icmp .ge 7, 3), (136, .ldc2_w 36, 3), (139, .lreturn, 1), (140, .aload_n 0, 1), (141, .getfield 15, 3), (144, .iload 5, 2), (146, .iconst 1, 1),
   (147, .isub, 1), (148, .aload_n 0, 1), (149, .getfield 15, 3), (152, .iload 5, 2), (154, .iconst 1, 1), (155, .isub, 1), (156, .laload, 1), (157, .lconst 0, 1),
   (158, .lcmp, 1), (159, .ifCond .ne 7, 3), (162, .lconst 1, 1), (163, .goto 4, 3), (166, .lconst 0, 1), (167, .lastore, 1), (168, .goto 72, 3), (171, .iload 5, 2)]
def k_X4_work_2 : List (Nat × Instr × Nat) :=
  [(173, .iconst 2, 1), (174, .if_icmp .ge 7, 3), (177, .ldc2_w 36, 3), (180, .lreturn, 1), (181, .iinc 5 (-1), 3), (184, .iload 8, 2), (186, .aload_n 0, 1), (187, .getfield 15, 3),
   (190, .iload 5, 2), (192, .iconst 1, 1), (193, .isub, 1), (194, .laload, 1), (195, .aload_n 0, 1), (196, .getfield 15, 3), (199, .iload 5, 2), (201, .laload, 1),
   (202, .invokestatic 38, 3), (205, .lstore 9, 2), (207, .lload 9, 2), (209, .ldc2_w 42, 3), (212, .lcmp, 1), (213, .ifCond .gt 12, 3), (216, .lload 9, 2), (218, .ldc2_w 44, 3),
   (221, .lcmp, 1), (222, .ifCond .ge 7, 3), (225, .ldc2_w 36, 3), (228, .lreturn, 1), (229, .aload_n 0, 1), (230, .getfield 15, 3), (233, .iload 5, 2), (235, .iconst 1, 1),
   (236, .isub, 1), (237, .lload 9, 2), (239, .lastore, 1), (240, .iinc 6 1, 3), (243, .goto (-204), 3), (246, .iload 5, 2), (248, .iconst 1, 1), (249, .if_icmp .ne 12, 3),
   (252, .aload_n 0, 1), (253, .getfield 15, 3), (256, .iconst 0, 1), (257, .laload, 1), (258, .goto 6, 3), (261, .ldc2_w 36, 3), (264, .lreturn, 1)]
def k_X4_work : List (Nat × Instr × Nat) := k_X4_work_0 ++ (k_X4_work_1 ++ (k_X4_work_2))
theorem r_X4_work_0 : k_X4_work_0.all (tb_rr cX4_work) = true := by decide +kernel
theorem r_X4_work_1 : k_X4_work_1.all (tb_rr cX4_work) = true := by decide +kernel
theorem r_X4_work_2 : k_X4_work_2.all (tb_rr cX4_work) = true := by decide +kernel
def M_X4_work : ab_MD := (K_X4, yX4_work, cX4_work, 11, (some .long), false, k_X4_work)
theorem o_X4_work : ab_OK M_X4_work 4 := tb_ok OC_X4 (by decide +kernel) (tb_app r_X4_work_0 (tb_app r_X4_work_1 r_X4_work_2)) (ab_T_in (tb_c_in 4 _ (List.mem_of_getElem? (i := 137) (rfl : (tb_c 4)[137]? = some (Cond.code yX4_work cX4_work 11 (some .long))))) rfl) IN_X4
theorem v_X4_work : ab_kV M_X4_work 4 := ⟨(ab_T_in (tb_c_in 4 _ (List.mem_of_getElem? (i := 135) (rfl : (tb_c 4)[135]? = some (Cond.instanceMethod yX4_work)))) rfl), (ab_T_in (tb_c_in 4 _ (List.mem_of_getElem? (i := 136) (rfl : (tb_c 4)[136]? = some (Cond.selects RX4 yX4_work yX4_work)))) rfl), _, rfl, rfl⟩
/-! printed by wip/tools/mktab.py: methods of BoneEstate$Notebook -/
def k_X6_clear : List (Nat × Instr × Nat) :=
  [(0, .aload_n 0, 1), (1, .iconst 0, 1), (2, .putfield 32, 3), (5, .aload_n 0, 1), (6, .iconst (-1), 1), (7, .putfield 28, 3), (10, .return_, 1)]
def M_X6_clear : ab_MD := (K_X6, yX6_clear, cX6_clear, 1, none, false, k_X6_clear)
theorem o_X6_clear : ab_OK M_X6_clear 0 := tb_ok OC_X6 (by decide +kernel) (by decide +kernel) (ab_T_in (tb_c_in 4 _ (List.mem_of_getElem? (i := 85) (rfl : (tb_c 4)[85]? = some (Cond.code yX6_clear cX6_clear 1 none)))) rfl) IN_X6
theorem v_X6_clear : ab_kV M_X6_clear 6 := ⟨(ab_T_in (tb_c_in 4 _ (List.mem_of_getElem? (i := 83) (rfl : (tb_c 4)[83]? = some (Cond.instanceMethod yX6_clear)))) rfl), (ab_T_in (tb_c_in 4 _ (List.mem_of_getElem? (i := 84) (rfl : (tb_c 4)[84]? = some (Cond.selects RX6 yX6_clear yX6_clear)))) rfl), _, rfl, rfl⟩
def k_X6_init : List (Nat × Instr × Nat) :=
  [(0, .aload_n 0, 1), (1, .invokespecial 3, 3), (4, .aload_n 0, 1), (5, .bipush 24, 2), (7, .newarray .int, 2), (9, .putfield 9, 3), (12, .aload_n 0, 1), (13, .bipush 24, 2),
   (15, .newarray .int, 2), (17, .putfield 15, 3), (20, .aload_n 0, 1), (21, .bipush 24, 2), (23, .newarray .int, 2), (25, .putfield 18, 3), (28, .aload_n 0, 1), (29, .bipush 24, 2),
   (31, .newarray .int, 2), (33, .putfield 21, 3), (36, .aload_n 0, 1), (37, .bipush 24, 2), (39, .newarray .boolean, 2), (41, .putfield 24, 3), (44, .aload_n 0, 1), (45, .iconst (-1), 1),
   (46, .putfield 28, 3), (49, .return_, 1)]
def M_X6_init : ab_MD := (K_X6, yX6_init, cX6_init, 1, none, true, k_X6_init)
theorem o_X6_init : ab_OK M_X6_init 0 := tb_ok OC_X6 (by decide +kernel) (by decide +kernel) (ab_T_in (tb_c_in 2 _ (List.mem_of_getElem? (i := 220) (rfl : (tb_c 2)[220]? = some (Cond.code yX6_init cX6_init 1 none)))) rfl) IN_X6
theorem i_X6_init : Cond.instanceMethod M_X6_init.2.1 ∈ ab_T := (ab_T_in (tb_c_in 2 _ (List.mem_of_getElem? (i := 219) (rfl : (tb_c 2)[219]? = some (Cond.instanceMethod yX6_init)))) rfl)
def k_X6_knownSize : List (Nat × Instr × Nat) :=
  [(0, .aload_n 0, 1), (1, .getfield 28, 3), (4, .iconst (-1), 1), (5, .if_icmp .ne 10, 3), (8, .aload_n 0, 1), (9, .getfield 32, 3), (12, .goto 7, 3), (15, .aload_n 0, 1),
   (16, .getfield 28, 3), (19, .ireturn, 1)]
def M_X6_knownSize : ab_MD := (K_X6, yX6_knownSize, cX6_knownSize, 1, (some .int), false, k_X6_knownSize)
theorem o_X6_knownSize : ab_OK M_X6_knownSize 0 := tb_ok OC_X6 (by decide +kernel) (by decide +kernel) (ab_T_in (tb_c_in 6 _ (List.mem_of_getElem? (i := 58) (rfl : (tb_c 6)[58]? = some (Cond.code yX6_knownSize cX6_knownSize 1 (some .int))))) rfl) IN_X6
theorem v_X6_knownSize : ab_kV M_X6_knownSize 6 := ⟨(ab_T_in (tb_c_in 6 _ (List.mem_of_getElem? (i := 56) (rfl : (tb_c 6)[56]? = some (Cond.instanceMethod yX6_knownSize)))) rfl), (ab_T_in (tb_c_in 6 _ (List.mem_of_getElem? (i := 57) (rfl : (tb_c 6)[57]? = some (Cond.selects RX6 yX6_knownSize yX6_knownSize)))) rfl), _, rfl, rfl⟩
def k_X6_lastSight : List (Nat × Instr × Nat) :=
  [(0, .iconst 0, 1), (1, .istore_n 2, 1), (2, .iconst 0, 1), (3, .istore_n 3, 1), (4, .iload_n 3, 1), (5, .bipush 24, 2), (7, .if_icmp .ge 39, 3), (10, .iload_n 1, 1),
   (11, .iload_n 3, 1), (12, .iushr, 1), (13, .iconst 1, 1), (14, .iand, 1), (15, .iconst 1, 1), (16, .if_icmp .ne 24, 3), (19, .aload_n 0, 1), (20, .getfield 9, 3),
   (23, .iload_n 3, 1), (24, .iaload, 1), (25, .iconst 2, 1), (26, .if_icmp .ne 14, 3), (29, .iload_n 2, 1), (30, .aload_n 0, 1), (31, .getfield 15, 3), (34, .iload_n 3, 1),
   (35, .iaload, 1), (36, .invokestatic 63, 3), (39, .istore_n 2, 1), (40, .iinc 3 1, 3), (43, .goto (-39), 3), (46, .iload_n 2, 1), (47, .ireturn, 1)]
def M_X6_lastSight : ab_MD := (K_X6, yX6_lastSight, cX6_lastSight, 4, (some .int), false, k_X6_lastSight)
theorem o_X6_lastSight : ab_OK M_X6_lastSight 1 := tb_ok OC_X6 (by decide +kernel) (by decide +kernel) (ab_T_in (tb_c_in 6 _ (List.mem_of_getElem? (i := 95) (rfl : (tb_c 6)[95]? = some (Cond.code yX6_lastSight cX6_lastSight 4 (some .int))))) rfl) IN_X6
theorem v_X6_lastSight : ab_kV M_X6_lastSight 6 := ⟨(ab_T_in (tb_c_in 6 _ (List.mem_of_getElem? (i := 93) (rfl : (tb_c 6)[93]? = some (Cond.instanceMethod yX6_lastSight)))) rfl), (ab_T_in (tb_c_in 6 _ (List.mem_of_getElem? (i := 94) (rfl : (tb_c 6)[94]? = some (Cond.selects RX6 yX6_lastSight yX6_lastSight)))) rfl), _, rfl, rfl⟩
def k_X6_notesAgree_0 : List (Nat × Instr × Nat) :=
  [(0, .iconst 0, 1), (1, .istore 6, 2), (3, .iload 6, 2), (5, .bipush 24, 2), (7, .if_icmp .ge 139, 3), (10, .iload_n 1, 1), (11, .iload 6, 2), (13, .iushr, 1),
   (14, .iconst 1, 1), (15, .iand, 1), (16, .iconst 1, 1), (17, .if_icmp .ne 123, 3), (20, .aload_n 0, 1), (21, .getfield 9, 3), (24, .iload 6, 2), (26, .iaload, 1),
   (27, .iconst 1, 1), (28, .if_icmp .gt 112, 3), (31, .aload_n 0, 1), (32, .getfield 9, 3), (35, .iload 6, 2), (37, .iaload, 1), (38, .ifCond .ne 33, 3), (41, .iload_n 2, 1),
   (42, .aload_n 0, 1), (43, .getfield 15, 3), (46, .iload 6, 2), (48, .iaload, 1), (49, .if_icmp .eq 14, 3), (52, .iload_n 3, 1), (53, .aload_n 0, 1), (54, .getfield 15, 3),
   (57, .iload 6, 2), (59, .iaload, 1), (60, .if_icmp .ne 7, 3), (63, .iconst 1, 1), (64, .goto 60, 3), (67, .iconst 0, 1), (68, .goto 56, 3), (71, .aload_n 0, 1),
   (72, .getfield 15, 3), (75, .iload 6, 2), (77, .iaload, 1), (78, .iload_n 2, 1), (79, .iload_n 3, 1), (80, .aload_n 0, 1), (81, .getfield 18, 3), (84, .iload 6, 2)]
def k_X6_notesAgree_1 : List (Nat × Instr × Nat) :=
  [(86, .iaload, 1), (87, .lload 4, 2), (89, .invokestatic 68, 3), (92, .ifCond .ne 27, 3), (95, .aload_n 0, 1), (96, .getfield 15, 3), (99, .iload 6, 2), (101, .iaload, 1),
   (102, .iload_n 3, 1), (103, .iload_n 2, 1), (104, .aload_n 0, 1), (105, .getfield 18, 3), (108, .iload 6, 2), (110, .iaload, 1), (111, .lload 4, 2), (113, .invokestatic 68, 3),
   (116, .ifCond .eq 7, 3), (119, .iconst 1, 1), (120, .goto 4, 3), (123, .iconst 0, 1), (124, .istore 7, 2), (126, .iload 7, 2), (128, .aload_n 0, 1), (129, .getfield 24, 3),
   (132, .iload 6, 2), (134, .baload, 1), (135, .if_icmp .eq 5, 3), (138, .iconst 0, 1), (139, .ireturn, 1), (140, .iinc 6 1, 3), (143, .goto (-140), 3), (146, .iconst 1, 1),
   (147, .ireturn, 1)]
def k_X6_notesAgree : List (Nat × Instr × Nat) := k_X6_notesAgree_0 ++ (k_X6_notesAgree_1)
theorem r_X6_notesAgree_0 : k_X6_notesAgree_0.all (tb_rr cX6_notesAgree) = true := by decide +kernel
theorem r_X6_notesAgree_1 : k_X6_notesAgree_1.all (tb_rr cX6_notesAgree) = true := by decide +kernel
def M_X6_notesAgree : ab_MD := (K_X6, yX6_notesAgree, cX6_notesAgree, 8, (some .boolean), false, k_X6_notesAgree)
theorem o_X6_notesAgree : ab_OK M_X6_notesAgree 4 := tb_ok OC_X6 (by decide +kernel) (tb_app r_X6_notesAgree_0 r_X6_notesAgree_1) (ab_T_in (tb_c_in 6 _ (List.mem_of_getElem? (i := 63) (rfl : (tb_c 6)[63]? = some (Cond.code yX6_notesAgree cX6_notesAgree 8 (some .boolean))))) rfl) IN_X6
theorem v_X6_notesAgree : ab_kV M_X6_notesAgree 6 := ⟨(ab_T_in (tb_c_in 6 _ (List.mem_of_getElem? (i := 62) (rfl : (tb_c 6)[62]? = some (Cond.instanceMethod yX6_notesAgree)))) rfl), (ab_T_in (tb_c_in 0 _ (List.mem_of_getElem? (i := 43) (rfl : (tb_c 0)[43]? = some (Cond.selects RX6 yX6_notesAgree yX6_notesAgree)))) rfl), _, rfl, rfl⟩
def k_X6_pairsLeft : List (Nat × Instr × Nat) :=
  [(0, .aload_n 0, 1), (1, .invokevirtual 45, 3), (4, .istore 4, 2), (6, .lconst 0, 1), (7, .lstore 5, 2), (9, .iconst 0, 1), (10, .istore 7, 2), (12, .iload 7, 2),
   (14, .bipush 7, 2), (16, .if_icmp .ge 55, 3), (19, .iload 7, 2), (21, .istore 8, 2), (23, .iload 8, 2), (25, .bipush 7, 2), (27, .if_icmp .ge 38, 3), (30, .aload_n 0, 1),
   (31, .iload 4, 2), (33, .iload 7, 2), (35, .iload 8, 2), (37, .lload_n 2, 1), (38, .invokevirtual 48, 3), (41, .ifCond .eq 18, 3), (44, .lload 5, 2), (46, .lconst 1, 1),
   (47, .iload 7, 2), (49, .bipush 8, 2), (51, .imul, 1), (52, .iload 8, 2), (54, .iadd, 1), (55, .lshl, 1), (56, .lor, 1), (57, .lstore 5, 2),
   (59, .iinc 8 1, 3), (62, .goto (-39), 3), (65, .iinc 7 1, 3), (68, .goto (-56), 3), (71, .iconst 0, 1), (72, .istore 7, 2), (74, .iload 7, 2), (76, .aload_n 1, 1),
   (77, .getfield 52, 3), (80, .if_icmp .ge 66, 3), (83, .aload_n 1, 1), (84, .getfield 57, 3), (87, .iload 7, 2), (89, .iaload, 1), (90, .aload_n 1, 1), (91, .getfield 60, 3),
   (94, .iload 7, 2), (96, .iaload, 1), (97, .invokestatic 39, 3), (100, .istore 8, 2), (102, .aload_n 1, 1), (103, .getfield 57, 3), (106, .iload 7, 2), (108, .iaload, 1),
   (109, .aload_n 1, 1), (110, .getfield 60, 3), (113, .iload 7, 2), (115, .iaload, 1), (116, .invokestatic 63, 3), (119, .istore 9, 2), (121, .lload 5, 2), (123, .lconst 1, 1),
   (124, .iload 8, 2), (126, .bipush 8, 2), (128, .imul, 1), (129, .iload 9, 2), (131, .iadd, 1), (132, .lshl, 1), (133, .ldc2_w 66, 3), (136, .lxor, 1),
   (137, .land, 1), (138, .lstore 5, 2), (140, .iinc 7 1, 3), (143, .goto (-69), 3), (146, .lload 5, 2), (148, .lreturn, 1)]
def M_X6_pairsLeft : ab_MD := (K_X6, yX6_pairsLeft, cX6_pairsLeft, 10, (some .long), false, k_X6_pairsLeft)
theorem o_X6_pairsLeft : ab_OK M_X6_pairsLeft 2 := tb_ok OC_X6 (by decide +kernel) (by decide +kernel) (ab_T_in (tb_c_in 6 _ (List.mem_of_getElem? (i := 50) (rfl : (tb_c 6)[50]? = some (Cond.code yX6_pairsLeft cX6_pairsLeft 10 (some .long))))) rfl) IN_X6
theorem v_X6_pairsLeft : ab_kV M_X6_pairsLeft 6 := ⟨(ab_T_in (tb_c_in 6 _ (List.mem_of_getElem? (i := 48) (rfl : (tb_c 6)[48]? = some (Cond.instanceMethod yX6_pairsLeft)))) rfl), (ab_T_in (tb_c_in 6 _ (List.mem_of_getElem? (i := 49) (rfl : (tb_c 6)[49]? = some (Cond.selects RX6 yX6_pairsLeft yX6_pairsLeft)))) rfl), _, rfl, rfl⟩
def k_X6_sightsAgree : List (Nat × Instr × Nat) :=
  [(0, .iconst 0, 1), (1, .istore 4, 2), (3, .iload 4, 2), (5, .bipush 24, 2), (7, .if_icmp .ge 95, 3), (10, .iload_n 1, 1), (11, .iload 4, 2), (13, .iushr, 1),
   (14, .iconst 1, 1), (15, .iand, 1), (16, .iconst 1, 1), (17, .if_icmp .ne 79, 3), (20, .aload_n 0, 1), (21, .getfield 9, 3), (24, .iload 4, 2), (26, .iaload, 1),
   (27, .iconst 2, 1), (28, .if_icmp .ne 68, 3), (31, .aload_n 0, 1), (32, .getfield 15, 3), (35, .iload 4, 2), (37, .iaload, 1), (38, .iload_n 2, 1), (39, .if_icmp .ne 57, 3),
   (42, .aload_n 0, 1), (43, .getfield 18, 3), (46, .iload 4, 2), (48, .iaload, 1), (49, .istore 5, 2), (51, .iload 5, 2), (53, .ifCond .lt 43, 3), (56, .iload 5, 2),
   (58, .iconst 5, 1), (59, .if_icmp .ge 37, 3), (62, .aload_n 3, 1), (63, .getfield 72, 3), (66, .iload 5, 2), (68, .iaload, 1), (69, .aload_n 0, 1), (70, .getfield 21, 3),
   (73, .iload 4, 2), (75, .iaload, 1), (76, .if_icmp .lt 7, 3), (79, .iconst 1, 1), (80, .goto 4, 3), (83, .iconst 0, 1), (84, .aload_n 0, 1), (85, .getfield 24, 3),
   (88, .iload 4, 2), (90, .baload, 1), (91, .if_icmp .eq 5, 3), (94, .iconst 0, 1), (95, .ireturn, 1), (96, .iinc 4 1, 3), (99, .goto (-96), 3), (102, .iconst 1, 1),
   (103, .ireturn, 1)]
def M_X6_sightsAgree : ab_MD := (K_X6, yX6_sightsAgree, cX6_sightsAgree, 6, (some .boolean), false, k_X6_sightsAgree)
theorem o_X6_sightsAgree : ab_OK M_X6_sightsAgree 3 := tb_ok OC_X6 (by decide +kernel) (by decide +kernel) (ab_T_in (tb_c_in 6 _ (List.mem_of_getElem? (i := 99) (rfl : (tb_c 6)[99]? = some (Cond.code yX6_sightsAgree cX6_sightsAgree 6 (some .boolean))))) rfl) IN_X6
theorem v_X6_sightsAgree : ab_kV M_X6_sightsAgree 6 := ⟨(ab_T_in (tb_c_in 6 _ (List.mem_of_getElem? (i := 97) (rfl : (tb_c 6)[97]? = some (Cond.instanceMethod yX6_sightsAgree)))) rfl), (ab_T_in (tb_c_in 6 _ (List.mem_of_getElem? (i := 98) (rfl : (tb_c 6)[98]? = some (Cond.selects RX6 yX6_sightsAgree yX6_sightsAgree)))) rfl), _, rfl, rfl⟩
def k_X6_standing : List (Nat × Instr × Nat) :=
  [(0, .iconst 0, 1), (1, .istore_n 1, 1), (2, .iconst 0, 1), (3, .istore_n 2, 1), (4, .aload_n 0, 1), (5, .invokevirtual 35, 3), (8, .bipush 24, 2), (10, .invokestatic 39, 3),
   (13, .iconst 1, 1), (14, .isub, 1), (15, .istore_n 3, 1), (16, .iload_n 3, 1), (17, .ifCond .lt 44, 3), (20, .iload_n 1, 1), (21, .iload_n 3, 1), (22, .iushr, 1),
   (23, .iconst 1, 1), (24, .iand, 1), (25, .ifCond .ne 30, 3), (28, .iload_n 2, 1), (29, .iconst 1, 1), (30, .iload_n 3, 1), (31, .ishl, 1), (32, .ior, 1),
   (33, .istore_n 2, 1), (34, .aload_n 0, 1), (35, .getfield 9, 3), (38, .iload_n 3, 1), (39, .iaload, 1), (40, .iconst 3, 1), (41, .if_icmp .ne 14, 3), (44, .iload_n 1, 1),
   (45, .iconst 1, 1), (46, .aload_n 0, 1), (47, .getfield 15, 3), (50, .iload_n 3, 1), (51, .iaload, 1), (52, .ishl, 1), (53, .ior, 1), (54, .istore_n 1, 1),
   (55, .iinc 3 (-1), 3), (58, .goto (-42), 3), (61, .iload_n 2, 1), (62, .ireturn, 1)]
def M_X6_standing : ab_MD := (K_X6, yX6_standing, cX6_standing, 4, (some .int), false, k_X6_standing)
theorem o_X6_standing : ab_OK M_X6_standing 0 := tb_ok OC_X6 (by decide +kernel) (by decide +kernel) (ab_T_in (tb_c_in 6 _ (List.mem_of_getElem? (i := 54) (rfl : (tb_c 6)[54]? = some (Cond.code yX6_standing cX6_standing 4 (some .int))))) rfl) IN_X6
theorem v_X6_standing : ab_kV M_X6_standing 6 := ⟨(ab_T_in (tb_c_in 6 _ (List.mem_of_getElem? (i := 52) (rfl : (tb_c 6)[52]? = some (Cond.instanceMethod yX6_standing)))) rfl), (ab_T_in (tb_c_in 6 _ (List.mem_of_getElem? (i := 53) (rfl : (tb_c 6)[53]? = some (Cond.selects RX6 yX6_standing yX6_standing)))) rfl), _, rfl, rfl⟩
def k_X6_stands : List (Nat × Instr × Nat) :=
  [(0, .lload 4, 2), (2, .iload_n 0, 1), (3, .bipush 8, 2), (5, .imul, 1), (6, .iload_n 1, 1), (7, .iadd, 1), (8, .lushr, 1), (9, .lload 4, 2),
   (11, .iload_n 2, 1), (12, .bipush 8, 2), (14, .imul, 1), (15, .iload_n 3, 1), (16, .iadd, 1), (17, .lushr, 1), (18, .land, 1), (19, .lconst 1, 1),
   (20, .land, 1), (21, .lconst 1, 1), (22, .lcmp, 1), (23, .ifCond .ne 7, 3), (26, .iconst 1, 1), (27, .goto 4, 3), (30, .iconst 0, 1), (31, .ireturn, 1)]
def M_X6_stands : ab_MD := (K_X6, yX6_stands, cX6_stands, 6, (some .boolean), false, k_X6_stands)
theorem o_X6_stands : ab_OK M_X6_stands 5 := tb_ok OC_X6 (by decide +kernel) (by decide +kernel) (ab_T_in (tb_c_in 6 _ (List.mem_of_getElem? (i := 66) (rfl : (tb_c 6)[66]? = some (Cond.code yX6_stands cX6_stands 6 (some .boolean))))) rfl) IN_X6
theorem s_X6_stands : Cond.static M_X6_stands.2.1 ∈ ab_T := (ab_T_in (tb_c_in 6 _ (List.mem_of_getElem? (i := 65) (rfl : (tb_c 6)[65]? = some (Cond.static yX6_stands)))) rfl)
def k_X6_write : List (Nat × Instr × Nat) :=
  [(0, .aload_n 0, 1), (1, .getfield 32, 3), (4, .bipush 24, 2), (6, .if_icmp .lt 5, 3), (9, .iconst (-1), 1), (10, .ireturn, 1), (11, .aload_n 0, 1), (12, .getfield 9, 3),
   (15, .aload_n 0, 1), (16, .getfield 32, 3), (19, .iload_n 1, 1), (20, .iastore, 1), (21, .aload_n 0, 1), (22, .getfield 15, 3), (25, .aload_n 0, 1), (26, .getfield 32, 3),
   (29, .iload_n 2, 1), (30, .iastore, 1), (31, .aload_n 0, 1), (32, .getfield 18, 3), (35, .aload_n 0, 1), (36, .getfield 32, 3), (39, .iload_n 3, 1), (40, .iastore, 1),
   (41, .aload_n 0, 1), (42, .getfield 21, 3), (45, .aload_n 0, 1), (46, .getfield 32, 3), (49, .iload 4, 2), (51, .iastore, 1), (52, .aload_n 0, 1), (53, .getfield 24, 3),
   (56, .aload_n 0, 1), (57, .getfield 32, 3), (60, .iload 5, 2), (62, .bastore, 1), (63, .aload_n 0, 1), (64, .dup, 1), (65, .getfield 32, 3), (68, .iconst 1, 1),
   (69, .iadd, 1), (70, .putfield 32, 3), (73, .aload_n 0, 1), (74, .getfield 32, 3), (77, .iconst 1, 1), (78, .isub, 1), (79, .ireturn, 1)]
def M_X6_write : ab_MD := (K_X6, yX6_write, cX6_write, 6, (some .int), false, k_X6_write)
theorem o_X6_write : ab_OK M_X6_write 5 := tb_ok OC_X6 (by decide +kernel) (by decide +kernel) (ab_T_in (tb_c_in 6 _ (List.mem_of_getElem? (i := 26) (rfl : (tb_c 6)[26]? = some (Cond.code yX6_write cX6_write 6 (some .int))))) rfl) IN_X6
theorem v_X6_write : ab_kV M_X6_write 6 := ⟨(ab_T_in (tb_c_in 6 _ (List.mem_of_getElem? (i := 24) (rfl : (tb_c 6)[24]? = some (Cond.instanceMethod yX6_write)))) rfl), (ab_T_in (tb_c_in 6 _ (List.mem_of_getElem? (i := 25) (rfl : (tb_c 6)[25]? = some (Cond.selects RX6 yX6_write yX6_write)))) rfl), _, rfl, rfl⟩
/-! printed by wip/tools/mktab.py: methods of BoneEstate$Plan -/
def k_X7_apart : List (Nat × Instr × Nat) :=
  [(0, .aload_n 0, 1), (1, .getfield 15, 3), (4, .iload_n 1, 1), (5, .iaload, 1), (6, .aload_n 0, 1), (7, .getfield 18, 3), (10, .iload_n 1, 1), (11, .iaload, 1),
   (12, .isub, 1), (13, .invokestatic 97, 3), (16, .ireturn, 1)]
def M_X7_apart : ab_MD := (K_X7, yX7_apart, cX7_apart, 2, (some .int), false, k_X7_apart)
theorem o_X7_apart : ab_OK M_X7_apart 1 := tb_ok OC_X7 (by decide +kernel) (by decide +kernel) (ab_T_in (tb_c_in 4 _ (List.mem_of_getElem? (i := 174) (rfl : (tb_c 4)[174]? = some (Cond.code yX7_apart cX7_apart 2 (some .int))))) rfl) IN_X7
theorem v_X7_apart : ab_kV M_X7_apart 7 := ⟨(ab_T_in (tb_c_in 4 _ (List.mem_of_getElem? (i := 172) (rfl : (tb_c 4)[172]? = some (Cond.instanceMethod yX7_apart)))) rfl), (ab_T_in (tb_c_in 4 _ (List.mem_of_getElem? (i := 173) (rfl : (tb_c 4)[173]? = some (Cond.selects RX7 yX7_apart yX7_apart)))) rfl), _, rfl, rfl⟩
def k_X7_clear : List (Nat × Instr × Nat) :=
  [(0, .aload_n 0, 1), (1, .iconst 0, 1), (2, .putfield 56, 3), (5, .aload_n 0, 1), (6, .iconst 0, 1), (7, .putfield 59, 3), (10, .aload_n 0, 1), (11, .iconst 0, 1),
   (12, .putfield 62, 3), (15, .aload_n 0, 1), (16, .iconst 0, 1), (17, .putfield 65, 3), (20, .aload_n 0, 1), (21, .iconst 0, 1), (22, .putfield 68, 3), (25, .aload_n 0, 1),
   (26, .iconst (-1), 1), (27, .putfield 52, 3), (30, .aload_n 0, 1), (31, .getfield 27, 3), (34, .iconst 0, 1), (35, .invokestatic 71, 3), (38, .iconst 0, 1), (39, .istore_n 1, 1),
   (40, .iload_n 1, 1), (41, .iconst 2, 1), (42, .if_icmp .gt 18, 3), (45, .aload_n 0, 1), (46, .getfield 48, 3), (49, .iload_n 1, 1), (50, .aaload, 1), (51, .invokevirtual 77, 3),
   (54, .iinc 1 1, 3), (57, .goto (-17), 3), (60, .return_, 1)]
def M_X7_clear : ab_MD := (K_X7, yX7_clear, cX7_clear, 2, none, false, k_X7_clear)
theorem o_X7_clear : ab_OK M_X7_clear 0 := tb_ok OC_X7 (by decide +kernel) (by decide +kernel) (ab_T_in (tb_c_in 3 _ (List.mem_of_getElem? (i := 130) (rfl : (tb_c 3)[130]? = some (Cond.code yX7_clear cX7_clear 2 none)))) rfl) IN_X7
theorem v_X7_clear : ab_kV M_X7_clear 7 := ⟨(ab_T_in (tb_c_in 3 _ (List.mem_of_getElem? (i := 128) (rfl : (tb_c 3)[128]? = some (Cond.instanceMethod yX7_clear)))) rfl), (ab_T_in (tb_c_in 3 _ (List.mem_of_getElem? (i := 129) (rfl : (tb_c 3)[129]? = some (Cond.selects RX7 yX7_clear yX7_clear)))) rfl), _, rfl, rfl⟩
def k_X7_copyFrom_0 : List (Nat × Instr × Nat) :=
  [(0, .aload_n 0, 1), (1, .aload_n 1, 1), (2, .getfield 56, 3), (5, .putfield 56, 3), (8, .aload_n 0, 1), (9, .aload_n 1, 1), (10, .getfield 59, 3), (13, .putfield 59, 3),
   (16, .aload_n 0, 1), (17, .aload_n 1, 1), (18, .getfield 62, 3), (21, .putfield 62, 3), (24, .aload_n 0, 1), (25, .aload_n 1, 1), (26, .getfield 65, 3), (29, .putfield 65, 3),
   (32, .aload_n 0, 1), (33, .aload_n 1, 1), (34, .getfield 68, 3), (37, .putfield 68, 3), (40, .aload_n 0, 1), (41, .aload_n 1, 1), (42, .getfield 52, 3), (45, .putfield 52, 3),
   (48, .aload_n 1, 1), (49, .getfield 9, 3), (52, .iconst 0, 1), (53, .aload_n 0, 1), (54, .getfield 9, 3), (57, .iconst 0, 1), (58, .bipush 9, 2), (60, .invokestatic 80, 3),
   (63, .aload_n 1, 1), (64, .getfield 15, 3), (67, .iconst 0, 1), (68, .aload_n 0, 1), (69, .getfield 15, 3), (72, .iconst 0, 1), (73, .bipush 9, 2), (75, .invokestatic 80, 3),
   (78, .aload_n 1, 1), (79, .getfield 18, 3), (82, .iconst 0, 1), (83, .aload_n 0, 1), (84, .getfield 18, 3), (87, .iconst 0, 1), (88, .bipush 9, 2), (90, .invokestatic 80, 3)]
def k_X7_copyFrom_1 : List (Nat × Instr × Nat) :=
  [(93, .aload_n 1, 1), (94, .getfield 21, 3), (97, .iconst 0, 1), (98, .aload_n 0, 1), (99, .getfield 21, 3), (102, .iconst 0, 1), (103, .bipush 9, 2), (105, .invokestatic 80, 3),
   (108, .aload_n 1, 1), (109, .getfield 24, 3), (112, .iconst 0, 1), (113, .aload_n 0, 1), (114, .getfield 24, 3), (117, .iconst 0, 1), (118, .iconst 5, 1), (119, .invokestatic 80, 3),
   (122, .aload_n 1, 1), (123, .getfield 27, 3), (126, .iconst 0, 1), (127, .aload_n 0, 1), (128, .getfield 27, 3), (131, .iconst 0, 1), (132, .iconst 5, 1), (133, .invokestatic 80, 3),
   (136, .aload_n 1, 1), (137, .getfield 30, 3), (140, .iconst 0, 1), (141, .aload_n 0, 1), (142, .getfield 30, 3), (145, .iconst 0, 1), (146, .bipush 8, 2), (148, .invokestatic 80, 3),
   (151, .aload_n 1, 1), (152, .getfield 33, 3), (155, .iconst 0, 1), (156, .aload_n 0, 1), (157, .getfield 33, 3), (160, .iconst 0, 1), (161, .bipush 8, 2), (163, .invokestatic 80, 3),
   (166, .aload_n 1, 1), (167, .getfield 36, 3), (170, .iconst 0, 1), (171, .aload_n 0, 1), (172, .getfield 36, 3), (175, .iconst 0, 1), (176, .bipush 8, 2), (178, .invokestatic 80, 3)]
def k_X7_copyFrom_2 : List (Nat × Instr × Nat) :=
  [(181, .aload_n 1, 1), (182, .getfield 39, 3), (185, .iconst 0, 1), (186, .aload_n 0, 1), (187, .getfield 39, 3), (190, .iconst 0, 1), (191, .bipush 10, 2), (193, .invokestatic 80, 3),
   (196, .aload_n 1, 1), (197, .getfield 42, 3), (200, .iconst 0, 1), (201, .aload_n 0, 1), (202, .getfield 42, 3), (205, .iconst 0, 1), (206, .bipush 10, 2), (208, .invokestatic 80, 3),
   (211, .iconst 0, 1), (212, .istore_n 2, 1), (213, .iload_n 2, 1), (214, .iconst 2, 1), (215, .if_icmp .gt 24, 3), (218, .aload_n 0, 1), (219, .getfield 48, 3), (222, .iload_n 2, 1),
   (223, .aaload, 1), (224, .aload_n 1, 1), (225, .getfield 48, 3), (228, .iload_n 2, 1), (229, .aaload, 1), (230, .invokevirtual 86, 3), (233, .iinc 2 1, 3), (236, .goto (-23), 3),
   (239, .return_, 1)]
def k_X7_copyFrom : List (Nat × Instr × Nat) := k_X7_copyFrom_0 ++ (k_X7_copyFrom_1 ++ (k_X7_copyFrom_2))
theorem r_X7_copyFrom_0 : k_X7_copyFrom_0.all (tb_rr cX7_copyFrom) = true := by decide +kernel
theorem r_X7_copyFrom_1 : k_X7_copyFrom_1.all (tb_rr cX7_copyFrom) = true := by decide +kernel
theorem r_X7_copyFrom_2 : k_X7_copyFrom_2.all (tb_rr cX7_copyFrom) = true := by decide +kernel
def M_X7_copyFrom : ab_MD := (K_X7, yX7_copyFrom, cX7_copyFrom, 3, none, false, k_X7_copyFrom)
theorem o_X7_copyFrom : ab_OK M_X7_copyFrom 1 := tb_ok OC_X7 (by decide +kernel) (tb_app r_X7_copyFrom_0 (tb_app r_X7_copyFrom_1 r_X7_copyFrom_2)) (ab_T_in (tb_c_in 4 _ (List.mem_of_getElem? (i := 65) (rfl : (tb_c 4)[65]? = some (Cond.code yX7_copyFrom cX7_copyFrom 3 none)))) rfl) IN_X7
theorem v_X7_copyFrom : ab_kV M_X7_copyFrom 7 := ⟨(ab_T_in (tb_c_in 4 _ (List.mem_of_getElem? (i := 63) (rfl : (tb_c 4)[63]? = some (Cond.instanceMethod yX7_copyFrom)))) rfl), (ab_T_in (tb_c_in 4 _ (List.mem_of_getElem? (i := 64) (rfl : (tb_c 4)[64]? = some (Cond.selects RX7 yX7_copyFrom yX7_copyFrom)))) rfl), _, rfl, rfl⟩
def k_X7_doublesOf : List (Nat × Instr × Nat) :=
  [(0, .iconst 0, 1), (1, .istore_n 2, 1), (2, .iconst 0, 1), (3, .istore_n 3, 1), (4, .iload_n 3, 1), (5, .aload_n 0, 1), (6, .getfield 56, 3), (9, .if_icmp .ge 36, 3),
   (12, .iload_n 1, 1), (13, .iload_n 3, 1), (14, .iushr, 1), (15, .iconst 1, 1), (16, .iand, 1), (17, .iconst 1, 1), (18, .if_icmp .ne 21, 3), (21, .aload_n 0, 1),
   (22, .getfield 15, 3), (25, .iload_n 3, 1), (26, .iaload, 1), (27, .aload_n 0, 1), (28, .getfield 18, 3), (31, .iload_n 3, 1), (32, .iaload, 1), (33, .if_icmp .ne 6, 3),
   (36, .iinc 2 1, 3), (39, .iinc 3 1, 3), (42, .goto (-38), 3), (45, .iload_n 2, 1), (46, .ireturn, 1)]
def M_X7_doublesOf : ab_MD := (K_X7, yX7_doublesOf, cX7_doublesOf, 4, (some .int), false, k_X7_doublesOf)
theorem o_X7_doublesOf : ab_OK M_X7_doublesOf 1 := tb_ok OC_X7 (by decide +kernel) (by decide +kernel) (ab_T_in (tb_c_in 4 _ (List.mem_of_getElem? (i := 183) (rfl : (tb_c 4)[183]? = some (Cond.code yX7_doublesOf cX7_doublesOf 4 (some .int))))) rfl) IN_X7
theorem v_X7_doublesOf : ab_kV M_X7_doublesOf 7 := ⟨(ab_T_in (tb_c_in 4 _ (List.mem_of_getElem? (i := 181) (rfl : (tb_c 4)[181]? = some (Cond.instanceMethod yX7_doublesOf)))) rfl), (ab_T_in (tb_c_in 4 _ (List.mem_of_getElem? (i := 182) (rfl : (tb_c 4)[182]? = some (Cond.selects RX7 yX7_doublesOf yX7_doublesOf)))) rfl), _, rfl, rfl⟩
def k_X7_hangingParts : List (Nat × Instr × Nat) :=
  [(0, .iload_n 1, 1), (1, .istore_n 2, 1), (2, .iconst 0, 1), (3, .istore_n 3, 1), (4, .iconst 0, 1), (5, .istore 4, 2), (7, .iload 4, 2), (9, .bipush 9, 2),
   (11, .if_icmp .ge 30, 3), (14, .iload_n 2, 1), (15, .ifCond .eq 26, 3), (18, .iload_n 2, 1), (19, .aload_n 0, 1), (20, .iload_n 2, 1), (21, .iload_n 2, 1), (22, .iload_n 2, 1),
   (23, .ineg, 1), (24, .iand, 1), (25, .invokevirtual 108, 3), (28, .iconst (-1), 1), (29, .ixor, 1), (30, .iand, 1), (31, .istore_n 2, 1), (32, .iinc 3 1, 3),
   (35, .iinc 4 1, 3), (38, .goto (-31), 3), (41, .iload_n 3, 1), (42, .ireturn, 1)]
def M_X7_hangingParts : ab_MD := (K_X7, yX7_hangingParts, cX7_hangingParts, 5, (some .int), false, k_X7_hangingParts)
theorem o_X7_hangingParts : ab_OK M_X7_hangingParts 1 := tb_ok OC_X7 (by decide +kernel) (by decide +kernel) (ab_T_in (tb_c_in 5 _ (List.mem_of_getElem? (i := 171) (rfl : (tb_c 5)[171]? = some (Cond.code yX7_hangingParts cX7_hangingParts 5 (some .int))))) rfl) IN_X7
theorem v_X7_hangingParts : ab_kV M_X7_hangingParts 7 := ⟨(ab_T_in (tb_c_in 5 _ (List.mem_of_getElem? (i := 169) (rfl : (tb_c 5)[169]? = some (Cond.instanceMethod yX7_hangingParts)))) rfl), (ab_T_in (tb_c_in 5 _ (List.mem_of_getElem? (i := 170) (rfl : (tb_c 5)[170]? = some (Cond.selects RX7 yX7_hangingParts yX7_hangingParts)))) rfl), _, rfl, rfl⟩
def k_X7_hangingWith : List (Nat × Instr × Nat) :=
  [(0, .iload_n 2, 1), (1, .istore_n 3, 1), (2, .iconst 0, 1), (3, .istore 4, 2), (5, .iconst 0, 1), (6, .istore 5, 2), (8, .iload 5, 2), (10, .bipush 9, 2),
   (12, .if_icmp .ge 90, 3), (15, .iconst 0, 1), (16, .istore 6, 2), (18, .iload 6, 2), (20, .aload_n 0, 1), (21, .getfield 56, 3), (24, .if_icmp .ge 72, 3), (27, .iconst 1, 1),
   (28, .aload_n 0, 1), (29, .getfield 15, 3), (32, .iload 6, 2), (34, .iaload, 1), (35, .ishl, 1), (36, .iconst 1, 1), (37, .aload_n 0, 1), (38, .getfield 18, 3),
   (41, .iload 6, 2), (43, .iaload, 1), (44, .ishl, 1), (45, .ior, 1), (46, .istore 7, 2), (48, .iload_n 1, 1), (49, .iload 6, 2), (51, .iushr, 1),
   (52, .iconst 1, 1), (53, .iand, 1), (54, .iconst 1, 1), (55, .if_icmp .ne 35, 3), (58, .iload_n 3, 1), (59, .iload 6, 2), (61, .iushr, 1), (62, .iconst 1, 1),
   (63, .iand, 1), (64, .iconst 1, 1), (65, .if_icmp .eq 11, 3), (68, .iload 4, 2), (70, .iload 7, 2), (72, .iand, 1), (73, .ifCond .eq 17, 3), (76, .iload_n 3, 1),
   (77, .iconst 1, 1), (78, .iload 6, 2), (80, .ishl, 1), (81, .ior, 1), (82, .istore_n 3, 1), (83, .iload 4, 2), (85, .iload 7, 2), (87, .ior, 1),
   (88, .istore 4, 2), (90, .iinc 6 1, 3), (93, .goto (-75), 3), (96, .iinc 5 1, 3), (99, .goto (-91), 3), (102, .iload_n 3, 1), (103, .ireturn, 1)]
def M_X7_hangingWith : ab_MD := (K_X7, yX7_hangingWith, cX7_hangingWith, 8, (some .int), false, k_X7_hangingWith)
theorem o_X7_hangingWith : ab_OK M_X7_hangingWith 2 := tb_ok OC_X7 (by decide +kernel) (by decide +kernel) (ab_T_in (tb_c_in 5 _ (List.mem_of_getElem? (i := 175) (rfl : (tb_c 5)[175]? = some (Cond.code yX7_hangingWith cX7_hangingWith 8 (some .int))))) rfl) IN_X7
theorem v_X7_hangingWith : ab_kV M_X7_hangingWith 7 := ⟨(ab_T_in (tb_c_in 5 _ (List.mem_of_getElem? (i := 174) (rfl : (tb_c 5)[174]? = some (Cond.instanceMethod yX7_hangingWith)))) rfl), (ab_T_in (tb_c_in 0 _ (List.mem_of_getElem? (i := 37) (rfl : (tb_c 0)[37]? = some (Cond.selects RX7 yX7_hangingWith yX7_hangingWith)))) rfl), _, rfl, rfl⟩
def k_X7_heirCalled : List (Nat × Instr × Nat) :=
  [(0, .aload_n 0, 1), (1, .getfield 24, 3), (4, .aload_n 0, 1), (5, .getfield 59, 3), (8, .iload_n 1, 1), (9, .invokestatic 93, 3), (12, .ireturn, 1)]
def M_X7_heirCalled : ab_MD := (K_X7, yX7_heirCalled, cX7_heirCalled, 2, (some .int), false, k_X7_heirCalled)
theorem o_X7_heirCalled : ab_OK M_X7_heirCalled 1 := tb_ok OC_X7 (by decide +kernel) (by decide +kernel) (ab_T_in (tb_c_in 3 _ (List.mem_of_getElem? (i := 199) (rfl : (tb_c 3)[199]? = some (Cond.code yX7_heirCalled cX7_heirCalled 2 (some .int))))) rfl) IN_X7
theorem v_X7_heirCalled : ab_kV M_X7_heirCalled 7 := ⟨(ab_T_in (tb_c_in 3 _ (List.mem_of_getElem? (i := 197) (rfl : (tb_c 3)[197]? = some (Cond.instanceMethod yX7_heirCalled)))) rfl), (ab_T_in (tb_c_in 3 _ (List.mem_of_getElem? (i := 198) (rfl : (tb_c 3)[198]? = some (Cond.selects RX7 yX7_heirCalled yX7_heirCalled)))) rfl), _, rfl, rfl⟩
def k_X7_init : List (Nat × Instr × Nat) :=
  [(0, .aload_n 0, 1), (1, .invokespecial 3, 3), (4, .aload_n 0, 1), (5, .bipush 9, 2), (7, .newarray .int, 2), (9, .putfield 9, 3), (12, .aload_n 0, 1), (13, .bipush 9, 2),
   (15, .newarray .int, 2), (17, .putfield 15, 3), (20, .aload_n 0, 1), (21, .bipush 9, 2), (23, .newarray .int, 2), (25, .putfield 18, 3), (28, .aload_n 0, 1), (29, .bipush 9, 2),
   (31, .newarray .int, 2), (33, .putfield 21, 3), (36, .aload_n 0, 1), (37, .iconst 5, 1), (38, .newarray .int, 2), (40, .putfield 24, 3), (43, .aload_n 0, 1), (44, .iconst 5, 1),
   (45, .newarray .int, 2), (47, .putfield 27, 3), (50, .aload_n 0, 1), (51, .bipush 8, 2), (53, .newarray .int, 2), (55, .putfield 30, 3), (58, .aload_n 0, 1), (59, .bipush 8, 2),
   (61, .newarray .int, 2), (63, .putfield 33, 3), (66, .aload_n 0, 1), (67, .bipush 8, 2), (69, .newarray .int, 2), (71, .putfield 36, 3), (74, .aload_n 0, 1), (75, .bipush 10, 2),
   (77, .newarray .int, 2), (79, .putfield 39, 3), (82, .aload_n 0, 1), (83, .bipush 10, 2), (85, .newarray .int, 2), (87, .putfield 42, 3), (90, .aload_n 0, 1), (91, .iconst 3, 1),
   (92, .anewarray 45, 3), (95, .dup, 1), (96, .iconst 0, 1), (97, .new 45, 3), (100, .dup, 1), (101, .invokespecial 47, 3), (104, .aastore, 1), (105, .dup, 1),
   (106, .iconst 1, 1), (107, .new 45, 3), (110, .dup, 1), (111, .invokespecial 47, 3), (114, .aastore, 1), (115, .dup, 1), (116, .iconst 2, 1), (117, .new 45, 3),
   (120, .dup, 1), (121, .invokespecial 47, 3), (124, .aastore, 1), (125, .putfield 48, 3), (128, .aload_n 0, 1), (129, .iconst (-1), 1), (130, .putfield 52, 3), (133, .return_, 1)]
def M_X7_init : ab_MD := (K_X7, yX7_init, cX7_init, 1, none, true, k_X7_init)
theorem o_X7_init : ab_OK M_X7_init 0 := tb_ok OC_X7 (by decide +kernel) (by decide +kernel) (ab_T_in (tb_c_in 1 _ (List.mem_of_getElem? (i := 133) (rfl : (tb_c 1)[133]? = some (Cond.code yX7_init cX7_init 1 none)))) rfl) IN_X7
theorem i_X7_init : Cond.instanceMethod M_X7_init.2.1 ∈ ab_T := (ab_T_in (tb_c_in 1 _ (List.mem_of_getElem? (i := 132) (rfl : (tb_c 1)[132]? = some (Cond.instanceMethod yX7_init)))) rfl)
def k_X7_knots : List (Nat × Instr × Nat) :=
  [(0, .aload_n 0, 1), (1, .getfield 48, 3), (4, .iconst 0, 1), (5, .aaload, 1), (6, .getfield 90, 3), (9, .aload_n 0, 1), (10, .getfield 48, 3), (13, .iconst 1, 1),
   (14, .aaload, 1), (15, .getfield 90, 3), (18, .iadd, 1), (19, .aload_n 0, 1), (20, .getfield 48, 3), (23, .iconst 2, 1), (24, .aaload, 1), (25, .getfield 90, 3),
   (28, .iadd, 1), (29, .ireturn, 1)]
def M_X7_knots : ab_MD := (K_X7, yX7_knots, cX7_knots, 1, (some .int), false, k_X7_knots)
theorem o_X7_knots : ab_OK M_X7_knots 0 := tb_ok OC_X7 (by decide +kernel) (by decide +kernel) (ab_T_in (tb_c_in 4 _ (List.mem_of_getElem? (i := 12) (rfl : (tb_c 4)[12]? = some (Cond.code yX7_knots cX7_knots 1 (some .int))))) rfl) IN_X7
theorem v_X7_knots : ab_kV M_X7_knots 7 := ⟨(ab_T_in (tb_c_in 4 _ (List.mem_of_getElem? (i := 10) (rfl : (tb_c 4)[10]? = some (Cond.instanceMethod yX7_knots)))) rfl), (ab_T_in (tb_c_in 4 _ (List.mem_of_getElem? (i := 11) (rfl : (tb_c 4)[11]? = some (Cond.selects RX7 yX7_knots yX7_knots)))) rfl), _, rfl, rfl⟩
def k_X7_needOfRow : List (Nat × Instr × Nat) :=
  [(0, .aload_n 0, 1), (1, .getfield 68, 3), (4, .ifCond .ne 7, 3), (7, .iconst 2, 1), (8, .goto 7, 3), (11, .aload_n 0, 1), (12, .getfield 68, 3), (15, .ireturn, 1)]
def M_X7_needOfRow : ab_MD := (K_X7, yX7_needOfRow, cX7_needOfRow, 1, (some .int), false, k_X7_needOfRow)
theorem o_X7_needOfRow : ab_OK M_X7_needOfRow 0 := tb_ok OC_X7 (by decide +kernel) (by decide +kernel) (ab_T_in (tb_c_in 4 _ (List.mem_of_getElem? (i := 237) (rfl : (tb_c 4)[237]? = some (Cond.code yX7_needOfRow cX7_needOfRow 1 (some .int))))) rfl) IN_X7
theorem v_X7_needOfRow : ab_kV M_X7_needOfRow 7 := ⟨(ab_T_in (tb_c_in 4 _ (List.mem_of_getElem? (i := 235) (rfl : (tb_c 4)[235]? = some (Cond.instanceMethod yX7_needOfRow)))) rfl), (ab_T_in (tb_c_in 4 _ (List.mem_of_getElem? (i := 236) (rfl : (tb_c 4)[236]? = some (Cond.selects RX7 yX7_needOfRow yX7_needOfRow)))) rfl), _, rfl, rfl⟩
def k_X7_oddEnds : List (Nat × Instr × Nat) :=
  [(0, .iconst 0, 1), (1, .istore_n 2, 1), (2, .iconst 0, 1), (3, .istore_n 3, 1), (4, .iload_n 3, 1), (5, .aload_n 0, 1), (6, .getfield 56, 3), (9, .if_icmp .ge 38, 3),
   (12, .iload_n 1, 1), (13, .iload_n 3, 1), (14, .iushr, 1), (15, .iconst 1, 1), (16, .iand, 1), (17, .iconst 1, 1), (18, .if_icmp .ne 23, 3), (21, .iload_n 2, 1),
   (22, .iconst 1, 1), (23, .aload_n 0, 1), (24, .getfield 15, 3), (27, .iload_n 3, 1), (28, .iaload, 1), (29, .ishl, 1), (30, .iconst 1, 1), (31, .aload_n 0, 1),
   (32, .getfield 18, 3), (35, .iload_n 3, 1), (36, .iaload, 1), (37, .ishl, 1), (38, .ixor, 1), (39, .ixor, 1), (40, .istore_n 2, 1), (41, .iinc 3 1, 3),
   (44, .goto (-40), 3), (47, .iload_n 2, 1), (48, .invokestatic 103, 3), (51, .ireturn, 1)]
def M_X7_oddEnds : ab_MD := (K_X7, yX7_oddEnds, cX7_oddEnds, 4, (some .int), false, k_X7_oddEnds)
theorem o_X7_oddEnds : ab_OK M_X7_oddEnds 1 := tb_ok OC_X7 (by decide +kernel) (by decide +kernel) (ab_T_in (tb_c_in 5 _ (List.mem_of_getElem? (i := 166) (rfl : (tb_c 5)[166]? = some (Cond.code yX7_oddEnds cX7_oddEnds 4 (some .int))))) rfl) IN_X7
theorem v_X7_oddEnds : ab_kV M_X7_oddEnds 7 := ⟨(ab_T_in (tb_c_in 5 _ (List.mem_of_getElem? (i := 164) (rfl : (tb_c 5)[164]? = some (Cond.instanceMethod yX7_oddEnds)))) rfl), (ab_T_in (tb_c_in 5 _ (List.mem_of_getElem? (i := 165) (rfl : (tb_c 5)[165]? = some (Cond.selects RX7 yX7_oddEnds yX7_oddEnds)))) rfl), _, rfl, rfl⟩
def k_X7_pieceCalled : List (Nat × Instr × Nat) :=
  [(0, .aload_n 0, 1), (1, .getfield 9, 3), (4, .aload_n 0, 1), (5, .getfield 56, 3), (8, .iload_n 1, 1), (9, .invokestatic 93, 3), (12, .ireturn, 1)]
def M_X7_pieceCalled : ab_MD := (K_X7, yX7_pieceCalled, cX7_pieceCalled, 2, (some .int), false, k_X7_pieceCalled)
theorem o_X7_pieceCalled : ab_OK M_X7_pieceCalled 1 := tb_ok OC_X7 (by decide +kernel) (by decide +kernel) (ab_T_in (tb_c_in 3 _ (List.mem_of_getElem? (i := 192) (rfl : (tb_c 3)[192]? = some (Cond.code yX7_pieceCalled cX7_pieceCalled 2 (some .int))))) rfl) IN_X7
theorem v_X7_pieceCalled : ab_kV M_X7_pieceCalled 7 := ⟨(ab_T_in (tb_c_in 3 _ (List.mem_of_getElem? (i := 190) (rfl : (tb_c 3)[190]? = some (Cond.instanceMethod yX7_pieceCalled)))) rfl), (ab_T_in (tb_c_in 3 _ (List.mem_of_getElem? (i := 191) (rfl : (tb_c 3)[191]? = some (Cond.selects RX7 yX7_pieceCalled yX7_pieceCalled)))) rfl), _, rfl, rfl⟩
def k_X7_placeIn : List (Nat × Instr × Nat) :=
  [(0, .iconst 0, 1), (1, .istore_n 3, 1), (2, .iload_n 3, 1), (3, .iload_n 1, 1), (4, .if_icmp .ge 24, 3), (7, .iload_n 3, 1), (8, .aload_n 0, 1), (9, .arraylength, 1),
   (10, .if_icmp .ge 18, 3), (13, .aload_n 0, 1), (14, .iload_n 3, 1), (15, .iaload, 1), (16, .iload_n 2, 1), (17, .if_icmp .ne 5, 3), (20, .iload_n 3, 1), (21, .ireturn, 1),
   (22, .iinc 3 1, 3), (25, .goto (-23), 3), (28, .iconst (-1), 1), (29, .ireturn, 1)]
def M_X7_placeIn : ab_MD := (K_X7, yX7_placeIn, cX7_placeIn, 4, (some .int), false, k_X7_placeIn)
theorem o_X7_placeIn : ab_OK M_X7_placeIn 3 := tb_ok OC_X7 (by decide +kernel) (by decide +kernel) (ab_T_in (tb_c_in 3 _ (List.mem_of_getElem? (i := 195) (rfl : (tb_c 3)[195]? = some (Cond.code yX7_placeIn cX7_placeIn 4 (some .int))))) rfl) IN_X7
theorem s_X7_placeIn : Cond.static M_X7_placeIn.2.1 ∈ ab_T := (ab_T_in (tb_c_in 3 _ (List.mem_of_getElem? (i := 194) (rfl : (tb_c 3)[194]? = some (Cond.static yX7_placeIn)))) rfl)
def k_X7_seedOfNumbers : List (Nat × Instr × Nat) :=
  [(0, .aload_n 0, 1), (1, .getfield 52, 3), (4, .iconst (-1), 1), (5, .if_icmp .ne 7, 3), (8, .iconst 0, 1), (9, .goto 7, 3), (12, .aload_n 0, 1), (13, .getfield 52, 3),
   (16, .ireturn, 1)]
def M_X7_seedOfNumbers : ab_MD := (K_X7, yX7_seedOfNumbers, cX7_seedOfNumbers, 1, (some .int), false, k_X7_seedOfNumbers)
theorem o_X7_seedOfNumbers : ab_OK M_X7_seedOfNumbers 0 := tb_ok OC_X7 (by decide +kernel) (by decide +kernel) (ab_T_in (tb_c_in 4 _ (List.mem_of_getElem? (i := 94) (rfl : (tb_c 4)[94]? = some (Cond.code yX7_seedOfNumbers cX7_seedOfNumbers 1 (some .int))))) rfl) IN_X7
theorem v_X7_seedOfNumbers : ab_kV M_X7_seedOfNumbers 7 := ⟨(ab_T_in (tb_c_in 4 _ (List.mem_of_getElem? (i := 92) (rfl : (tb_c 4)[92]? = some (Cond.instanceMethod yX7_seedOfNumbers)))) rfl), (ab_T_in (tb_c_in 4 _ (List.mem_of_getElem? (i := 93) (rfl : (tb_c 4)[93]? = some (Cond.selects RX7 yX7_seedOfNumbers yX7_seedOfNumbers)))) rfl), _, rfl, rfl⟩
def k_X7_sharedPieces : List (Nat × Instr × Nat) :=
  [(0, .iconst 0, 1), (1, .istore_n 1, 1), (2, .iconst 0, 1), (3, .istore_n 2, 1), (4, .iload_n 2, 1), (5, .aload_n 0, 1), (6, .getfield 59, 3), (9, .if_icmp .ge 18, 3),
   (12, .iload_n 1, 1), (13, .aload_n 0, 1), (14, .getfield 27, 3), (17, .iload_n 2, 1), (18, .iaload, 1), (19, .ior, 1), (20, .istore_n 1, 1), (21, .iinc 2 1, 3),
   (24, .goto (-20), 3), (27, .iload_n 1, 1), (28, .ireturn, 1)]
def M_X7_sharedPieces : ab_MD := (K_X7, yX7_sharedPieces, cX7_sharedPieces, 3, (some .int), false, k_X7_sharedPieces)
theorem o_X7_sharedPieces : ab_OK M_X7_sharedPieces 0 := tb_ok OC_X7 (by decide +kernel) (by decide +kernel) (ab_T_in (tb_c_in 3 _ (List.mem_of_getElem? (i := 223) (rfl : (tb_c 3)[223]? = some (Cond.code yX7_sharedPieces cX7_sharedPieces 3 (some .int))))) rfl) IN_X7
theorem v_X7_sharedPieces : ab_kV M_X7_sharedPieces 7 := ⟨(ab_T_in (tb_c_in 3 _ (List.mem_of_getElem? (i := 221) (rfl : (tb_c 3)[221]? = some (Cond.instanceMethod yX7_sharedPieces)))) rfl), (ab_T_in (tb_c_in 3 _ (List.mem_of_getElem? (i := 222) (rfl : (tb_c 3)[222]? = some (Cond.selects RX7 yX7_sharedPieces yX7_sharedPieces)))) rfl), _, rfl, rfl⟩
def k_X7_worthOf : List (Nat × Instr × Nat) :=
  [(0, .iconst 0, 1), (1, .istore_n 2, 1), (2, .iconst 0, 1), (3, .istore_n 3, 1), (4, .iload_n 3, 1), (5, .aload_n 0, 1), (6, .getfield 56, 3), (9, .if_icmp .ge 24, 3),
   (12, .iload_n 2, 1), (13, .iload_n 1, 1), (14, .iload_n 3, 1), (15, .iushr, 1), (16, .iconst 1, 1), (17, .iand, 1), (18, .aload_n 0, 1), (19, .getfield 21, 3),
   (22, .iload_n 3, 1), (23, .iaload, 1), (24, .imul, 1), (25, .iadd, 1), (26, .istore_n 2, 1), (27, .iinc 3 1, 3), (30, .goto (-26), 3), (33, .iload_n 2, 1),
   (34, .ireturn, 1)]
def M_X7_worthOf : ab_MD := (K_X7, yX7_worthOf, cX7_worthOf, 4, (some .int), false, k_X7_worthOf)
theorem o_X7_worthOf : ab_OK M_X7_worthOf 1 := tb_ok OC_X7 (by decide +kernel) (by decide +kernel) (ab_T_in (tb_c_in 5 _ (List.mem_of_getElem? (i := 28) (rfl : (tb_c 5)[28]? = some (Cond.code yX7_worthOf cX7_worthOf 4 (some .int))))) rfl) IN_X7
theorem v_X7_worthOf : ab_kV M_X7_worthOf 7 := ⟨(ab_T_in (tb_c_in 5 _ (List.mem_of_getElem? (i := 26) (rfl : (tb_c 5)[26]? = some (Cond.instanceMethod yX7_worthOf)))) rfl), (ab_T_in (tb_c_in 5 _ (List.mem_of_getElem? (i := 27) (rfl : (tb_c 5)[27]? = some (Cond.selects RX7 yX7_worthOf yX7_worthOf)))) rfl), _, rfl, rfl⟩
/-! printed by wip/tools/mktab.py: methods of BoneEstate$RowTable -/
def k_X9_allRows : List (Nat × Instr × Nat) :=
  [(0, .iload_n 1, 1), (1, .ifCond .eq 11, 3), (4, .aload_n 0, 1), (5, .iload_n 1, 1), (6, .invokevirtual 66, 3), (9, .ifCond .ne 5, 3), (12, .lconst 0, 1), (13, .lreturn, 1),
   (14, .aload_n 0, 1), (15, .iload_n 1, 1), (16, .iconst (-1), 1), (17, .invokevirtual 70, 3), (20, .lconst 0, 1), (21, .lstore_n 2, 1), (22, .iconst 0, 1), (23, .istore 4, 2),
   (25, .iload 4, 2), (27, .bipush 7, 2), (29, .if_icmp .ge 28, 3), (32, .lload_n 2, 1), (33, .aload_n 0, 1), (34, .getfield 22, 3), (37, .iload_n 1, 1), (38, .sipush 511, 3),
   (41, .iand, 1), (42, .bipush 7, 2), (44, .imul, 1), (45, .iload 4, 2), (47, .iadd, 1), (48, .laload, 1), (49, .ladd, 1), (50, .lstore_n 2, 1),
   (51, .iinc 4 1, 3), (54, .goto (-29), 3), (57, .lload_n 2, 1), (58, .lreturn, 1)]
def M_X9_allRows : ab_MD := (K_X9, yX9_allRows, cX9_allRows, 5, (some .long), false, k_X9_allRows)
theorem o_X9_allRows : ab_OK M_X9_allRows 1 := tb_ok OC_X9 (by decide +kernel) (by decide +kernel) (ab_T_in (tb_c_in 5 _ (List.mem_of_getElem? (i := 93) (rfl : (tb_c 5)[93]? = some (Cond.code yX9_allRows cX9_allRows 5 (some .long))))) rfl) IN_X9
theorem v_X9_allRows : ab_kV M_X9_allRows 9 := ⟨(ab_T_in (tb_c_in 5 _ (List.mem_of_getElem? (i := 91) (rfl : (tb_c 5)[91]? = some (Cond.instanceMethod yX9_allRows)))) rfl), (ab_T_in (tb_c_in 5 _ (List.mem_of_getElem? (i := 92) (rfl : (tb_c 5)[92]? = some (Cond.selects RX9 yX9_allRows yX9_allRows)))) rfl), _, rfl, rfl⟩
def k_X9_closedRows : List (Nat × Instr × Nat) :=
  [(0, .iload_n 1, 1), (1, .ifCond .ne 5, 3), (4, .lconst 0, 1), (5, .lreturn, 1), (6, .aload_n 0, 1), (7, .iload_n 1, 1), (8, .invokevirtual 42, 3), (11, .lstore_n 2, 1),
   (12, .lconst 0, 1), (13, .lstore 4, 2), (15, .iconst 0, 1), (16, .istore 6, 2), (18, .iload 6, 2), (20, .bipush 7, 2), (22, .if_icmp .ge 92, 3), (25, .lload_n 2, 1),
   (26, .iload 6, 2), (28, .bipush 8, 2), (30, .imul, 1), (31, .lushr, 1), (32, .aload_n 0, 1), (33, .getfield 19, 3), (36, .iload 6, 2), (38, .laload, 1),
   (39, .land, 1), (40, .ldc2_w 74, 3), (43, .land, 1), (44, .lconst 0, 1), (45, .lcmp, 1), (46, .ifCond .eq 62, 3), (49, .aload_n 0, 1), (50, .iload_n 1, 1),
   (51, .iload 6, 2), (53, .invokevirtual 70, 3), (56, .iconst 0, 1), (57, .istore 7, 2), (59, .iload 7, 2), (61, .bipush 7, 2), (63, .if_icmp .ge 45, 3), (66, .lload 4, 2),
   (68, .aload_n 0, 1), (69, .iload 7, 2), (71, .iload 6, 2), (73, .invokevirtual 76, 3), (76, .ifCond .eq 22, 3), (79, .aload_n 0, 1), (80, .getfield 22, 3), (83, .iload_n 1, 1),
   (84, .sipush 511, 3), (87, .iand, 1), (88, .bipush 7, 2), (90, .imul, 1), (91, .iload 7, 2), (93, .iadd, 1), (94, .laload, 1), (95, .goto 4, 3),
   (98, .lconst 0, 1), (99, .ladd, 1), (100, .lstore 4, 2), (102, .iinc 7 1, 3), (105, .goto (-46), 3), (108, .iinc 6 1, 3), (111, .goto (-93), 3), (114, .lload 4, 2),
   (116, .lreturn, 1)]
def M_X9_closedRows : ab_MD := (K_X9, yX9_closedRows, cX9_closedRows, 8, (some .long), false, k_X9_closedRows)
theorem o_X9_closedRows : ab_OK M_X9_closedRows 1 := tb_ok OC_X9 (by decide +kernel) (by decide +kernel) (ab_T_in (tb_c_in 5 _ (List.mem_of_getElem? (i := 145) (rfl : (tb_c 5)[145]? = some (Cond.code yX9_closedRows cX9_closedRows 8 (some .long))))) rfl) IN_X9
theorem v_X9_closedRows : ab_kV M_X9_closedRows 9 := ⟨(ab_T_in (tb_c_in 5 _ (List.mem_of_getElem? (i := 143) (rfl : (tb_c 5)[143]? = some (Cond.instanceMethod yX9_closedRows)))) rfl), (ab_T_in (tb_c_in 5 _ (List.mem_of_getElem? (i := 144) (rfl : (tb_c 5)[144]? = some (Cond.selects RX9 yX9_closedRows yX9_closedRows)))) rfl), _, rfl, rfl⟩
def k_X9_countWays : List (Nat × Instr × Nat) :=
  [(0, .iload_n 1, 1), (1, .sipush 511, 3), (4, .iand, 1), (5, .istore_n 3, 1), (6, .iconst 0, 1), (7, .istore 4, 2), (9, .iconst 0, 1), (10, .istore 5, 2),
   (12, .iload 5, 2), (14, .sipush 512, 3), (17, .if_icmp .ge 72, 3), (20, .iload 4, 2), (22, .iload_n 3, 1), (23, .if_icmp .eq 66, 3), (26, .iload 4, 2), (28, .iload_n 3, 1),
   (29, .isub, 1), (30, .iload_n 3, 1), (31, .iand, 1), (32, .istore 4, 2), (34, .iconst 0, 1), (35, .istore 6, 2), (37, .iload 6, 2), (39, .bipush 7, 2),
   (41, .if_icmp .ge 23, 3), (44, .aload_n 0, 1), (45, .getfield 22, 3), (48, .iload 4, 2), (50, .bipush 7, 2), (52, .imul, 1), (53, .iload 6, 2), (55, .iadd, 1),
   (56, .lconst 0, 1), (57, .lastore, 1), (58, .iinc 6 1, 3), (61, .goto (-24), 3), (64, .aload_n 0, 1), (65, .getfield 9, 3), (68, .iload 4, 2), (70, .laload, 1),
   (71, .lconst 0, 1), (72, .lcmp, 1), (73, .ifCond .eq 10, 3), (76, .aload_n 0, 1), (77, .iload 4, 2), (79, .iload_n 2, 1), (80, .invokevirtual 80, 3), (83, .iinc 5 1, 3),
   (86, .goto (-74), 3), (89, .return_, 1)]
def M_X9_countWays : ab_MD := (K_X9, yX9_countWays, cX9_countWays, 7, none, false, k_X9_countWays)
theorem o_X9_countWays : ab_OK M_X9_countWays 2 := tb_ok OC_X9 (by decide +kernel) (by decide +kernel) (ab_T_in (tb_c_in 5 _ (List.mem_of_getElem? (i := 102) (rfl : (tb_c 5)[102]? = some (Cond.code yX9_countWays cX9_countWays 7 none)))) rfl) IN_X9
theorem v_X9_countWays : ab_kV M_X9_countWays 9 := ⟨(ab_T_in (tb_c_in 5 _ (List.mem_of_getElem? (i := 101) (rfl : (tb_c 5)[101]? = some (Cond.instanceMethod yX9_countWays)))) rfl), (ab_T_in (tb_c_in 0 _ (List.mem_of_getElem? (i := 31) (rfl : (tb_c 0)[31]? = some (Cond.selects RX9 yX9_countWays yX9_countWays)))) rfl), _, rfl, rfl⟩
def k_X9_countWaysOf : List (Nat × Instr × Nat) :=
  [(0, .iconst 0, 1), (1, .istore_n 3, 1), (2, .iload_n 3, 1), (3, .aload_n 0, 1), (4, .getfield 32, 3), (7, .getfield 49, 3), (10, .if_icmp .ge 101, 3), (13, .iload_n 1, 1),
   (14, .iconst 1, 1), (15, .iload_n 3, 1), (16, .ishl, 1), (17, .iconst (-1), 1), (18, .ixor, 1), (19, .iand, 1), (20, .istore 4, 2), (22, .iload 4, 2),
   (24, .iload_n 1, 1), (25, .if_icmp .eq 80, 3), (28, .aload_n 0, 1), (29, .getfield 32, 3), (32, .getfield 54, 3), (35, .iload_n 3, 1), (36, .iaload, 1), (37, .istore 5, 2),
   (39, .aload_n 0, 1), (40, .getfield 32, 3), (43, .getfield 57, 3), (46, .iload_n 3, 1), (47, .iaload, 1), (48, .istore 6, 2), (50, .aload_n 0, 1), (51, .getfield 22, 3),
   (54, .iload_n 1, 1), (55, .bipush 7, 2), (57, .imul, 1), (58, .iload 6, 2), (60, .iadd, 1), (61, .dup2, 1), (62, .laload, 1), (63, .aload_n 0, 1),
   (64, .iload 4, 2), (66, .iload 5, 2), (68, .iload_n 2, 1), (69, .invokevirtual 83, 3), (72, .ladd, 1), (73, .lastore, 1), (74, .iload 5, 2), (76, .iload 6, 2),
   (78, .if_icmp .eq 27, 3), (81, .aload_n 0, 1), (82, .getfield 22, 3), (85, .iload_n 1, 1), (86, .bipush 7, 2), (88, .imul, 1), (89, .iload 5, 2), (91, .iadd, 1),
   (92, .dup2, 1), (93, .laload, 1), (94, .aload_n 0, 1), (95, .iload 4, 2), (97, .iload 6, 2), (99, .iload_n 2, 1), (100, .invokevirtual 83, 3), (103, .ladd, 1),
   (104, .lastore, 1), (105, .iinc 3 1, 3), (108, .goto (-106), 3), (111, .return_, 1)]
def M_X9_countWaysOf : ab_MD := (K_X9, yX9_countWaysOf, cX9_countWaysOf, 7, none, false, k_X9_countWaysOf)
theorem o_X9_countWaysOf : ab_OK M_X9_countWaysOf 2 := tb_ok OC_X9 (by decide +kernel) (by decide +kernel) (ab_T_in (tb_c_in 5 _ (List.mem_of_getElem? (i := 106) (rfl : (tb_c 5)[106]? = some (Cond.code yX9_countWaysOf cX9_countWaysOf 7 none)))) rfl) IN_X9
theorem v_X9_countWaysOf : ab_kV M_X9_countWaysOf 9 := ⟨(ab_T_in (tb_c_in 5 _ (List.mem_of_getElem? (i := 105) (rfl : (tb_c 5)[105]? = some (Cond.instanceMethod yX9_countWaysOf)))) rfl), (ab_T_in (tb_c_in 0 _ (List.mem_of_getElem? (i := 32) (rfl : (tb_c 0)[32]? = some (Cond.selects RX9 yX9_countWaysOf yX9_countWaysOf)))) rfl), _, rfl, rfl⟩
def k_X9_endsOf_0 : List (Nat × Instr × Nat) :=
  [(0, .lconst 0, 1), (1, .lstore_n 2, 1), (2, .iconst 0, 1), (3, .istore 4, 2), (5, .iload 4, 2), (7, .aload_n 0, 1), (8, .getfield 32, 3), (11, .getfield 49, 3),
   (14, .if_icmp .ge 133, 3), (17, .iload_n 1, 1), (18, .iconst 1, 1), (19, .iload 4, 2), (21, .ishl, 1), (22, .iconst (-1), 1), (23, .ixor, 1), (24, .iand, 1),
   (25, .istore 5, 2), (27, .iload 5, 2), (29, .iload_n 1, 1), (30, .if_icmp .eq 111, 3), (33, .aload_n 0, 1), (34, .getfield 32, 3), (37, .getfield 54, 3), (40, .iload 4, 2),
   (42, .iaload, 1), (43, .istore 6, 2), (45, .aload_n 0, 1), (46, .getfield 32, 3), (49, .getfield 57, 3), (52, .iload 4, 2), (54, .iaload, 1), (55, .istore 7, 2),
   (57, .aload_n 0, 1), (58, .getfield 9, 3), (61, .iload 5, 2), (63, .laload, 1), (64, .lstore 8, 2), (66, .iload 5, 2), (68, .ifCond .ne 30, 3), (71, .lload_n 2, 1),
   (72, .lconst 1, 1), (73, .iload 6, 2), (75, .bipush 8, 2), (77, .imul, 1), (78, .iload 7, 2), (80, .iadd, 1), (81, .lshl, 1), (82, .lconst 1, 1)]
def k_X9_endsOf_1 : List (Nat × Instr × Nat) :=
  [(83, .iload 7, 2), (85, .bipush 8, 2), (87, .imul, 1), (88, .iload 6, 2), (90, .iadd, 1), (91, .lshl, 1), (92, .lor, 1), (93, .lor, 1),
   (94, .lstore_n 2, 1), (95, .goto 46, 3), (98, .lload 8, 2), (100, .lconst 0, 1), (101, .lcmp, 1), (102, .ifCond .eq 39, 3), (105, .lload_n 2, 1), (106, .lload 8, 2),
   (108, .aload_n 0, 1), (109, .getfield 19, 3), (112, .iload 6, 2), (114, .laload, 1), (115, .land, 1), (116, .invokestatic 60, 3), (119, .iload 7, 2), (121, .lshl, 1),
   (122, .lload 8, 2), (124, .aload_n 0, 1), (125, .getfield 19, 3), (128, .iload 7, 2), (130, .laload, 1), (131, .land, 1), (132, .invokestatic 60, 3), (135, .iload 6, 2),
   (137, .lshl, 1), (138, .lor, 1), (139, .lor, 1), (140, .lstore_n 2, 1), (141, .iinc 4 1, 3), (144, .goto (-139), 3), (147, .lload_n 2, 1), (148, .lreturn, 1)]
def k_X9_endsOf : List (Nat × Instr × Nat) := k_X9_endsOf_0 ++ (k_X9_endsOf_1)
theorem r_X9_endsOf_0 : k_X9_endsOf_0.all (tb_rr cX9_endsOf) = true := by decide +kernel
theorem r_X9_endsOf_1 : k_X9_endsOf_1.all (tb_rr cX9_endsOf) = true := by decide +kernel
def M_X9_endsOf : ab_MD := (K_X9, yX9_endsOf, cX9_endsOf, 10, (some .long), false, k_X9_endsOf)
theorem o_X9_endsOf : ab_OK M_X9_endsOf 1 := tb_ok OC_X9 (by decide +kernel) (tb_app r_X9_endsOf_0 r_X9_endsOf_1) (ab_T_in (tb_c_in 5 _ (List.mem_of_getElem? (i := 20) (rfl : (tb_c 5)[20]? = some (Cond.code yX9_endsOf cX9_endsOf 10 (some .long))))) rfl) IN_X9
theorem v_X9_endsOf : ab_kV M_X9_endsOf 9 := ⟨(ab_T_in (tb_c_in 5 _ (List.mem_of_getElem? (i := 19) (rfl : (tb_c 5)[19]? = some (Cond.instanceMethod yX9_endsOf)))) rfl), (ab_T_in (tb_c_in 0 _ (List.mem_of_getElem? (i := 28) (rfl : (tb_c 0)[28]? = some (Cond.selects RX9 yX9_endsOf yX9_endsOf)))) rfl), _, rfl, rfl⟩
def k_X9_fewestOf : List (Nat × Instr × Nat) :=
  [(0, .iload_n 1, 1), (1, .iload_n 1, 1), (2, .ineg, 1), (3, .iand, 1), (4, .istore_n 2, 1), (5, .iload_n 1, 1), (6, .iload_n 2, 1), (7, .iconst (-1), 1),
   (8, .ixor, 1), (9, .iand, 1), (10, .istore_n 3, 1), (11, .iconst 0, 1), (12, .istore 4, 2), (14, .bipush 9, 2), (16, .istore 5, 2), (18, .iconst 0, 1),
   (19, .istore 6, 2), (21, .iload 6, 2), (23, .sipush 512, 3), (26, .if_icmp .ge 64, 3), (29, .iload_n 2, 1), (30, .iload 4, 2), (32, .ior, 1), (33, .istore 7, 2),
   (35, .aload_n 0, 1), (36, .getfield 9, 3), (39, .iload 7, 2), (41, .laload, 1), (42, .lconst 0, 1), (43, .lcmp, 1), (44, .ifCond .eq 23, 3), (47, .iload 5, 2),
   (49, .iconst 1, 1), (50, .aload_n 0, 1), (51, .getfield 25, 3), (54, .iload_n 1, 1), (55, .iload 7, 2), (57, .iconst (-1), 1), (58, .ixor, 1), (59, .iand, 1),
   (60, .iaload, 1), (61, .iadd, 1), (62, .invokestatic 104, 3), (65, .istore 5, 2), (67, .iload 4, 2), (69, .iload_n 3, 1), (70, .if_icmp .ne 6, 3), (73, .goto 17, 3),
   (76, .iload 4, 2), (78, .iload_n 3, 1), (79, .isub, 1), (80, .iload_n 3, 1), (81, .iand, 1), (82, .istore 4, 2), (84, .iinc 6 1, 3), (87, .goto (-66), 3),
   (90, .iload 5, 2), (92, .ireturn, 1)]
def M_X9_fewestOf : ab_MD := (K_X9, yX9_fewestOf, cX9_fewestOf, 8, (some .int), false, k_X9_fewestOf)
theorem o_X9_fewestOf : ab_OK M_X9_fewestOf 1 := tb_ok OC_X9 (by decide +kernel) (by decide +kernel) (ab_T_in (tb_c_in 5 _ (List.mem_of_getElem? (i := 157) (rfl : (tb_c 5)[157]? = some (Cond.code yX9_fewestOf cX9_fewestOf 8 (some .int))))) rfl) IN_X9
theorem v_X9_fewestOf : ab_kV M_X9_fewestOf 9 := ⟨(ab_T_in (tb_c_in 5 _ (List.mem_of_getElem? (i := 156) (rfl : (tb_c 5)[156]? = some (Cond.instanceMethod yX9_fewestOf)))) rfl), (ab_T_in (tb_c_in 0 _ (List.mem_of_getElem? (i := 36) (rfl : (tb_c 0)[36]? = some (Cond.selects RX9 yX9_fewestOf yX9_fewestOf)))) rfl), _, rfl, rfl⟩
def k_X9_fewestRows : List (Nat × Instr × Nat) :=
  [(0, .iload_n 1, 1), (1, .sipush 511, 3), (4, .iand, 1), (5, .istore_n 2, 1), (6, .aload_n 0, 1), (7, .iload_n 2, 1), (8, .invokevirtual 42, 3), (11, .pop2, 1),
   (12, .aload_n 0, 1), (13, .getfield 25, 3), (16, .iconst 0, 1), (17, .iconst 0, 1), (18, .iastore, 1), (19, .iconst 0, 1), (20, .istore_n 3, 1), (21, .iconst 0, 1),
   (22, .istore 4, 2), (24, .iload 4, 2), (26, .sipush 512, 3), (29, .if_icmp .ge 31, 3), (32, .iload_n 3, 1), (33, .iload_n 2, 1), (34, .if_icmp .eq 26, 3), (37, .iload_n 3, 1),
   (38, .iload_n 2, 1), (39, .isub, 1), (40, .iload_n 2, 1), (41, .iand, 1), (42, .istore_n 3, 1), (43, .aload_n 0, 1), (44, .getfield 25, 3), (47, .iload_n 3, 1),
   (48, .aload_n 0, 1), (49, .iload_n 3, 1), (50, .invokevirtual 101, 3), (53, .iastore, 1), (54, .iinc 4 1, 3), (57, .goto (-33), 3), (60, .aload_n 0, 1), (61, .getfield 25, 3),
   (64, .iload_n 2, 1), (65, .iaload, 1), (66, .ireturn, 1)]
def M_X9_fewestRows : ab_MD := (K_X9, yX9_fewestRows, cX9_fewestRows, 5, (some .int), false, k_X9_fewestRows)
theorem o_X9_fewestRows : ab_OK M_X9_fewestRows 1 := tb_ok OC_X9 (by decide +kernel) (by decide +kernel) (ab_T_in (tb_c_in 5 _ (List.mem_of_getElem? (i := 153) (rfl : (tb_c 5)[153]? = some (Cond.code yX9_fewestRows cX9_fewestRows 5 (some .int))))) rfl) IN_X9
theorem v_X9_fewestRows : ab_kV M_X9_fewestRows 9 := ⟨(ab_T_in (tb_c_in 5 _ (List.mem_of_getElem? (i := 151) (rfl : (tb_c 5)[151]? = some (Cond.instanceMethod yX9_fewestRows)))) rfl), (ab_T_in (tb_c_in 5 _ (List.mem_of_getElem? (i := 152) (rfl : (tb_c 5)[152]? = some (Cond.selects RX9 yX9_fewestRows yX9_fewestRows)))) rfl), _, rfl, rfl⟩
def k_X9_firstBehind : List (Nat × Instr × Nat) :=
  [(0, .iconst 0, 1), (1, .istore_n 3, 1), (2, .iload_n 3, 1), (3, .aload_n 0, 1), (4, .getfield 32, 3), (7, .getfield 49, 3), (10, .if_icmp .ge 92, 3), (13, .iload_n 1, 1),
   (14, .iconst 1, 1), (15, .iload_n 3, 1), (16, .ishl, 1), (17, .iconst (-1), 1), (18, .ixor, 1), (19, .iand, 1), (20, .istore 4, 2), (22, .iload 4, 2),
   (24, .iload_n 1, 1), (25, .if_icmp .eq 71, 3), (28, .aload_n 0, 1), (29, .iload_n 2, 1), (30, .aload_n 0, 1), (31, .getfield 32, 3), (34, .getfield 54, 3), (37, .iload_n 3, 1),
   (38, .iaload, 1), (39, .aload_n 0, 1), (40, .getfield 32, 3), (43, .getfield 57, 3), (46, .iload_n 3, 1), (47, .iaload, 1), (48, .iload 4, 2), (50, .invokevirtual 97, 3),
   (53, .ifCond .eq 8, 3), (56, .iload_n 3, 1), (57, .bipush 10, 2), (59, .imul, 1), (60, .ireturn, 1), (61, .aload_n 0, 1), (62, .iload_n 2, 1), (63, .aload_n 0, 1),
   (64, .getfield 32, 3), (67, .getfield 57, 3), (70, .iload_n 3, 1), (71, .iaload, 1), (72, .aload_n 0, 1), (73, .getfield 32, 3), (76, .getfield 54, 3), (79, .iload_n 3, 1),
   (80, .iaload, 1), (81, .iload 4, 2), (83, .invokevirtual 97, 3), (86, .ifCond .eq 10, 3), (89, .iload_n 3, 1), (90, .bipush 10, 2), (92, .imul, 1), (93, .iconst 1, 1),
   (94, .iadd, 1), (95, .ireturn, 1), (96, .iinc 3 1, 3), (99, .goto (-97), 3), (102, .bipush (-2), 2), (104, .ireturn, 1)]
def M_X9_firstBehind : ab_MD := (K_X9, yX9_firstBehind, cX9_firstBehind, 5, (some .int), false, k_X9_firstBehind)
theorem o_X9_firstBehind : ab_OK M_X9_firstBehind 2 := tb_ok OC_X9 (by decide +kernel) (by decide +kernel) (ab_T_in (tb_c_in 5 _ (List.mem_of_getElem? (i := 123) (rfl : (tb_c 5)[123]? = some (Cond.code yX9_firstBehind cX9_firstBehind 5 (some .int))))) rfl) IN_X9
theorem v_X9_firstBehind : ab_kV M_X9_firstBehind 9 := ⟨(ab_T_in (tb_c_in 5 _ (List.mem_of_getElem? (i := 122) (rfl : (tb_c 5)[122]? = some (Cond.instanceMethod yX9_firstBehind)))) rfl), (ab_T_in (tb_c_in 0 _ (List.mem_of_getElem? (i := 34) (rfl : (tb_c 0)[34]? = some (Cond.selects RX9 yX9_firstBehind yX9_firstBehind)))) rfl), _, rfl, rfl⟩
def k_X9_firstsOf : List (Nat × Instr × Nat) :=
  [(0, .lload_n 0, 1), (1, .ldc2_w 64, 3), (4, .ladd, 1), (5, .bipush 7, 2), (7, .lushr, 1), (8, .ldc2_w 40, 3), (11, .land, 1), (12, .lreturn, 1)]
def M_X9_firstsOf : ab_MD := (K_X9, yX9_firstsOf, cX9_firstsOf, 2, (some .long), false, k_X9_firstsOf)
theorem o_X9_firstsOf : ab_OK M_X9_firstsOf 1 := tb_ok OC_X9 (by decide +kernel) (by decide +kernel) (ab_T_in (tb_c_in 5 _ (List.mem_of_getElem? (i := 23) (rfl : (tb_c 5)[23]? = some (Cond.code yX9_firstsOf cX9_firstsOf 2 (some .long))))) rfl) IN_X9
theorem s_X9_firstsOf : Cond.static M_X9_firstsOf.2.1 ∈ ab_T := (ab_T_in (tb_c_in 5 _ (List.mem_of_getElem? (i := 22) (rfl : (tb_c 5)[22]? = some (Cond.static yX9_firstsOf)))) rfl)
def k_X9_fits : List (Nat × Instr × Nat) :=
  [(0, .iload_n 1, 1), (1, .iconst (-1), 1), (2, .if_icmp .eq 14, 3), (5, .aload_n 0, 1), (6, .iload_n 1, 1), (7, .iload_n 2, 1), (8, .invokevirtual 76, 3), (11, .ifCond .ne 5, 3),
   (14, .iconst 0, 1), (15, .ireturn, 1), (16, .aload_n 0, 1), (17, .iload 4, 2), (19, .invokevirtual 42, 3), (22, .lstore 5, 2), (24, .iconst 0, 1), (25, .istore 7, 2),
   (27, .iload 7, 2), (29, .bipush 7, 2), (31, .if_icmp .ge 38, 3), (34, .aload_n 0, 1), (35, .iload_n 3, 1), (36, .iload 7, 2), (38, .invokevirtual 76, 3), (41, .ifCond .eq 22, 3),
   (44, .lload 5, 2), (46, .iload 7, 2), (48, .bipush 8, 2), (50, .imul, 1), (51, .lushr, 1), (52, .ldc2_w 74, 3), (55, .land, 1), (56, .lconst 0, 1),
   (57, .lcmp, 1), (58, .ifCond .eq 5, 3), (61, .iconst 1, 1), (62, .ireturn, 1), (63, .iinc 7 1, 3), (66, .goto (-39), 3), (69, .iload 4, 2), (71, .ifCond .ne 7, 3),
   (74, .iconst 1, 1), (75, .goto 4, 3), (78, .iconst 0, 1), (79, .ireturn, 1)]
def M_X9_fits : ab_MD := (K_X9, yX9_fits, cX9_fits, 8, (some .boolean), false, k_X9_fits)
theorem o_X9_fits : ab_OK M_X9_fits 4 := tb_ok OC_X9 (by decide +kernel) (by decide +kernel) (ab_T_in (tb_c_in 5 _ (List.mem_of_getElem? (i := 127) (rfl : (tb_c 5)[127]? = some (Cond.code yX9_fits cX9_fits 8 (some .boolean))))) rfl) IN_X9
theorem v_X9_fits : ab_kV M_X9_fits 9 := ⟨(ab_T_in (tb_c_in 5 _ (List.mem_of_getElem? (i := 126) (rfl : (tb_c 5)[126]? = some (Cond.instanceMethod yX9_fits)))) rfl), (ab_T_in (tb_c_in 0 _ (List.mem_of_getElem? (i := 35) (rfl : (tb_c 0)[35]? = some (Cond.selects RX9 yX9_fits yX9_fits)))) rfl), _, rfl, rfl⟩
def k_X9_forget : List (Nat × Instr × Nat) :=
  [(0, .aload_n 0, 1), (1, .dup, 1), (2, .getfield 28, 3), (5, .iconst 1, 1), (6, .iadd, 1), (7, .putfield 28, 3), (10, .return_, 1)]
def M_X9_forget : ab_MD := (K_X9, yX9_forget, cX9_forget, 1, none, false, k_X9_forget)
theorem o_X9_forget : ab_OK M_X9_forget 0 := tb_ok OC_X9 (by decide +kernel) (by decide +kernel) (ab_T_in (tb_c_in 4 _ (List.mem_of_getElem? (i := 77) (rfl : (tb_c 4)[77]? = some (Cond.code yX9_forget cX9_forget 1 none)))) rfl) IN_X9
theorem v_X9_forget : ab_kV M_X9_forget 9 := ⟨(ab_T_in (tb_c_in 4 _ (List.mem_of_getElem? (i := 75) (rfl : (tb_c 4)[75]? = some (Cond.instanceMethod yX9_forget)))) rfl), (ab_T_in (tb_c_in 4 _ (List.mem_of_getElem? (i := 76) (rfl : (tb_c 4)[76]? = some (Cond.selects RX9 yX9_forget yX9_forget)))) rfl), _, rfl, rfl⟩
def k_X9_init : List (Nat × Instr × Nat) :=
  [(0, .aload_n 0, 1), (1, .invokespecial 3, 3), (4, .aload_n 0, 1), (5, .sipush 512, 3), (8, .newarray .long, 2), (10, .putfield 9, 3), (13, .aload_n 0, 1), (14, .sipush 512, 3),
   (17, .newarray .int, 2), (19, .putfield 15, 3), (22, .aload_n 0, 1), (23, .bipush 7, 2), (25, .newarray .long, 2), (27, .putfield 19, 3), (30, .aload_n 0, 1), (31, .sipush 3584, 3),
   (34, .newarray .long, 2), (36, .putfield 22, 3), (39, .aload_n 0, 1), (40, .sipush 512, 3), (43, .newarray .int, 2), (45, .putfield 25, 3), (48, .aload_n 0, 1), (49, .iconst 1, 1),
   (50, .putfield 28, 3), (53, .aload_n 0, 1), (54, .aload_n 1, 1), (55, .putfield 32, 3), (58, .return_, 1)]
def M_X9_init : ab_MD := (K_X9, yX9_init, cX9_init, 2, none, true, k_X9_init)
theorem o_X9_init : ab_OK M_X9_init 1 := tb_ok OC_X9 (by decide +kernel) (by decide +kernel) (ab_T_in (tb_c_in 2 _ (List.mem_of_getElem? (i := 82) (rfl : (tb_c 2)[82]? = some (Cond.code yX9_init cX9_init 2 none)))) rfl) IN_X9
theorem i_X9_init : Cond.instanceMethod M_X9_init.2.1 ∈ ab_T := (ab_T_in (tb_c_in 2 _ (List.mem_of_getElem? (i := 81) (rfl : (tb_c 2)[81]? = some (Cond.instanceMethod yX9_init)))) rfl)
def k_X9_isRow : List (Nat × Instr × Nat) :=
  [(0, .aload_n 0, 1), (1, .iload_n 1, 1), (2, .invokevirtual 42, 3), (5, .lconst 0, 1), (6, .lcmp, 1), (7, .ifCond .eq 7, 3), (10, .iconst 1, 1), (11, .goto 4, 3),
   (14, .iconst 0, 1), (15, .ireturn, 1)]
def M_X9_isRow : ab_MD := (K_X9, yX9_isRow, cX9_isRow, 2, (some .boolean), false, k_X9_isRow)
theorem o_X9_isRow : ab_OK M_X9_isRow 1 := tb_ok OC_X9 (by decide +kernel) (by decide +kernel) (ab_T_in (tb_c_in 5 _ (List.mem_of_getElem? (i := 97) (rfl : (tb_c 5)[97]? = some (Cond.code yX9_isRow cX9_isRow 2 (some .boolean))))) rfl) IN_X9
theorem v_X9_isRow : ab_kV M_X9_isRow 9 := ⟨(ab_T_in (tb_c_in 5 _ (List.mem_of_getElem? (i := 95) (rfl : (tb_c 5)[95]? = some (Cond.instanceMethod yX9_isRow)))) rfl), (ab_T_in (tb_c_in 5 _ (List.mem_of_getElem? (i := 96) (rfl : (tb_c 5)[96]? = some (Cond.selects RX9 yX9_isRow yX9_isRow)))) rfl), _, rfl, rfl⟩
def k_X9_meets : List (Nat × Instr × Nat) :=
  [(0, .aload_n 0, 1), (1, .getfield 36, 3), (4, .iload_n 1, 1), (5, .bipush 8, 2), (7, .imul, 1), (8, .iload_n 2, 1), (9, .iadd, 1), (10, .lushr, 1),
   (11, .lconst 1, 1), (12, .land, 1), (13, .lconst 1, 1), (14, .lcmp, 1), (15, .ifCond .ne 7, 3), (18, .iconst 1, 1), (19, .goto 4, 3), (22, .iconst 0, 1),
   (23, .ireturn, 1)]
def M_X9_meets : ab_MD := (K_X9, yX9_meets, cX9_meets, 3, (some .boolean), false, k_X9_meets)
theorem o_X9_meets : ab_OK M_X9_meets 2 := tb_ok OC_X9 (by decide +kernel) (by decide +kernel) (ab_T_in (tb_c_in 5 _ (List.mem_of_getElem? (i := 131) (rfl : (tb_c 5)[131]? = some (Cond.code yX9_meets cX9_meets 3 (some .boolean))))) rfl) IN_X9
theorem v_X9_meets : ab_kV M_X9_meets 9 := ⟨(ab_T_in (tb_c_in 5 _ (List.mem_of_getElem? (i := 129) (rfl : (tb_c 5)[129]? = some (Cond.instanceMethod yX9_meets)))) rfl), (ab_T_in (tb_c_in 5 _ (List.mem_of_getElem? (i := 130) (rfl : (tb_c 5)[130]? = some (Cond.selects RX9 yX9_meets yX9_meets)))) rfl), _, rfl, rfl⟩
def k_X9_placeInFirst : List (Nat × Instr × Nat) :=
  [(0, .iload_n 2, 1), (1, .iload_n 1, 1), (2, .invokestatic 87, 3), (5, .if_icmp .ge 11, 3), (8, .aload_n 0, 1), (9, .iload_n 1, 1), (10, .invokevirtual 66, 3), (13, .ifCond .ne 6, 3),
   (16, .bipush (-2), 2), (18, .ireturn, 1), (19, .iload_n 1, 1), (20, .istore_n 3, 1), (21, .iconst (-1), 1), (22, .istore 4, 2), (24, .bipush (-2), 2), (26, .istore 5, 2),
   (28, .iconst 0, 1), (29, .istore 6, 2), (31, .iload 6, 2), (33, .iload_n 2, 1), (34, .if_icmp .gt 76, 3), (37, .aload_n 0, 1), (38, .iload_n 3, 1), (39, .iload 4, 2),
   (41, .invokevirtual 93, 3), (44, .istore 5, 2), (46, .iload 5, 2), (48, .ifCond .ge 6, 3), (51, .bipush (-2), 2), (53, .ireturn, 1), (54, .iload 5, 2), (56, .bipush 10, 2),
   (58, .idiv, 1), (59, .istore 7, 2), (61, .iload_n 3, 1), (62, .iconst 1, 1), (63, .iload 7, 2), (65, .ishl, 1), (66, .iconst (-1), 1), (67, .ixor, 1),
   (68, .iand, 1), (69, .istore_n 3, 1), (70, .iload 5, 2), (72, .bipush 10, 2), (74, .irem, 1), (75, .iconst 1, 1), (76, .if_icmp .ne 16, 3), (79, .aload_n 0, 1),
   (80, .getfield 32, 3), (83, .getfield 54, 3), (86, .iload 7, 2), (88, .iaload, 1), (89, .goto 13, 3), (92, .aload_n 0, 1), (93, .getfield 32, 3), (96, .getfield 57, 3),
   (99, .iload 7, 2), (101, .iaload, 1), (102, .istore 4, 2), (104, .iinc 6 1, 3), (107, .goto (-76), 3), (110, .iload 5, 2), (112, .ireturn, 1)]
def M_X9_placeInFirst : ab_MD := (K_X9, yX9_placeInFirst, cX9_placeInFirst, 8, (some .int), false, k_X9_placeInFirst)
theorem o_X9_placeInFirst : ab_OK M_X9_placeInFirst 2 := tb_ok OC_X9 (by decide +kernel) (by decide +kernel) (ab_T_in (tb_c_in 5 _ (List.mem_of_getElem? (i := 118) (rfl : (tb_c 5)[118]? = some (Cond.code yX9_placeInFirst cX9_placeInFirst 8 (some .int))))) rfl) IN_X9
theorem v_X9_placeInFirst : ab_kV M_X9_placeInFirst 9 := ⟨(ab_T_in (tb_c_in 5 _ (List.mem_of_getElem? (i := 116) (rfl : (tb_c 5)[116]? = some (Cond.instanceMethod yX9_placeInFirst)))) rfl), (ab_T_in (tb_c_in 5 _ (List.mem_of_getElem? (i := 117) (rfl : (tb_c 5)[117]? = some (Cond.selects RX9 yX9_placeInFirst yX9_placeInFirst)))) rfl), _, rfl, rfl⟩
def k_X9_reachOf : List (Nat × Instr × Nat) :=
  [(0, .iload_n 1, 1), (1, .sipush 511, 3), (4, .iand, 1), (5, .istore_n 2, 1), (6, .aload_n 0, 1), (7, .getfield 15, 3), (10, .iload_n 2, 1), (11, .iaload, 1),
   (12, .aload_n 0, 1), (13, .getfield 28, 3), (16, .if_icmp .ne 10, 3), (19, .aload_n 0, 1), (20, .getfield 9, 3), (23, .iload_n 2, 1), (24, .laload, 1), (25, .lreturn, 1),
   (26, .iconst 0, 1), (27, .istore_n 3, 1), (28, .iconst 0, 1), (29, .istore 4, 2), (31, .iload 4, 2), (33, .sipush 512, 3), (36, .if_icmp .ge 54, 3), (39, .iload_n 3, 1),
   (40, .iload_n 2, 1), (41, .if_icmp .eq 49, 3), (44, .iload_n 3, 1), (45, .iload_n 2, 1), (46, .isub, 1), (47, .iload_n 2, 1), (48, .iand, 1), (49, .istore_n 3, 1),
   (50, .aload_n 0, 1), (51, .getfield 15, 3), (54, .iload_n 3, 1), (55, .iaload, 1), (56, .aload_n 0, 1), (57, .getfield 28, 3), (60, .if_icmp .eq 24, 3), (63, .aload_n 0, 1),
   (64, .getfield 9, 3), (67, .iload_n 3, 1), (68, .aload_n 0, 1), (69, .iload_n 3, 1), (70, .invokevirtual 46, 3), (73, .lastore, 1), (74, .aload_n 0, 1), (75, .getfield 15, 3),
   (78, .iload_n 3, 1), (79, .aload_n 0, 1), (80, .getfield 28, 3), (83, .iastore, 1), (84, .iinc 4 1, 3), (87, .goto (-56), 3), (90, .aload_n 0, 1), (91, .getfield 9, 3),
   (94, .iload_n 2, 1), (95, .laload, 1), (96, .lreturn, 1)]
def M_X9_reachOf : ab_MD := (K_X9, yX9_reachOf, cX9_reachOf, 5, (some .long), false, k_X9_reachOf)
theorem o_X9_reachOf : ab_OK M_X9_reachOf 1 := tb_ok OC_X9 (by decide +kernel) (by decide +kernel) (ab_T_in (tb_c_in 5 _ (List.mem_of_getElem? (i := 16) (rfl : (tb_c 5)[16]? = some (Cond.code yX9_reachOf cX9_reachOf 5 (some .long))))) rfl) IN_X9
theorem v_X9_reachOf : ab_kV M_X9_reachOf 9 := ⟨(ab_T_in (tb_c_in 5 _ (List.mem_of_getElem? (i := 14) (rfl : (tb_c 5)[14]? = some (Cond.instanceMethod yX9_reachOf)))) rfl), (ab_T_in (tb_c_in 5 _ (List.mem_of_getElem? (i := 15) (rfl : (tb_c 5)[15]? = some (Cond.selects RX9 yX9_reachOf yX9_reachOf)))) rfl), _, rfl, rfl⟩
def k_X9_setsThatMakeRow : List (Nat × Instr × Nat) :=
  [(0, .iconst 0, 1), (1, .istore 4, 2), (3, .iconst 0, 1), (4, .istore 5, 2), (6, .iconst 0, 1), (7, .istore 6, 2), (9, .iload 6, 2), (11, .sipush 512, 3),
   (14, .if_icmp .ge 49, 3), (17, .iload 5, 2), (19, .invokestatic 87, 3), (22, .iload_n 3, 1), (23, .if_icmp .ne 17, 3), (26, .aload_n 0, 1), (27, .iload_n 1, 1), (28, .iload 5, 2),
   (30, .ior, 1), (31, .invokevirtual 66, 3), (34, .ifCond .eq 6, 3), (37, .iinc 4 1, 3), (40, .iload 5, 2), (42, .iload_n 2, 1), (43, .if_icmp .ne 6, 3), (46, .goto 17, 3),
   (49, .iload 5, 2), (51, .iload_n 2, 1), (52, .isub, 1), (53, .iload_n 2, 1), (54, .iand, 1), (55, .istore 5, 2), (57, .iinc 6 1, 3), (60, .goto (-51), 3),
   (63, .iload 4, 2), (65, .ireturn, 1)]
def M_X9_setsThatMakeRow : ab_MD := (K_X9, yX9_setsThatMakeRow, cX9_setsThatMakeRow, 7, (some .int), false, k_X9_setsThatMakeRow)
theorem o_X9_setsThatMakeRow : ab_OK M_X9_setsThatMakeRow 3 := tb_ok OC_X9 (by decide +kernel) (by decide +kernel) (ab_T_in (tb_c_in 6 _ (List.mem_of_getElem? (i := 12) (rfl : (tb_c 6)[12]? = some (Cond.code yX9_setsThatMakeRow cX9_setsThatMakeRow 7 (some .int))))) rfl) IN_X9
theorem v_X9_setsThatMakeRow : ab_kV M_X9_setsThatMakeRow 9 := ⟨(ab_T_in (tb_c_in 6 _ (List.mem_of_getElem? (i := 10) (rfl : (tb_c 6)[10]? = some (Cond.instanceMethod yX9_setsThatMakeRow)))) rfl), (ab_T_in (tb_c_in 6 _ (List.mem_of_getElem? (i := 11) (rfl : (tb_c 6)[11]? = some (Cond.selects RX9 yX9_setsThatMakeRow yX9_setsThatMakeRow)))) rfl), _, rfl, rfl⟩
def k_X9_use : List (Nat × Instr × Nat) :=
  [(0, .lload_n 1, 1), (1, .aload_n 0, 1), (2, .getfield 36, 3), (5, .lcmp, 1), (6, .ifCond .ne 4, 3), (9, .return_, 1), (10, .aload_n 0, 1), (11, .lload_n 1, 1),
   (12, .putfield 36, 3), (15, .aload_n 0, 1), (16, .dup, 1), (17, .getfield 28, 3), (20, .iconst 1, 1), (21, .iadd, 1), (22, .putfield 28, 3), (25, .iconst 0, 1),
   (26, .istore_n 3, 1), (27, .iload_n 3, 1), (28, .bipush 7, 2), (30, .if_icmp .ge 59, 3), (33, .lconst 0, 1), (34, .lstore 4, 2), (36, .iconst 0, 1), (37, .istore 6, 2),
   (39, .iload 6, 2), (41, .bipush 7, 2), (43, .if_icmp .ge 28, 3), (46, .lload 4, 2), (48, .lload_n 1, 1), (49, .iload 6, 2), (51, .bipush 8, 2), (53, .imul, 1),
   (54, .iload_n 3, 1), (55, .iadd, 1), (56, .lushr, 1), (57, .lconst 1, 1), (58, .land, 1), (59, .iload 6, 2), (61, .lshl, 1), (62, .lor, 1),
   (63, .lstore 4, 2), (65, .iinc 6 1, 3), (68, .goto (-29), 3), (71, .aload_n 0, 1), (72, .getfield 19, 3), (75, .iload_n 3, 1), (76, .lload 4, 2), (78, .ldc2_w 40, 3),
   (81, .lmul, 1), (82, .lastore, 1), (83, .iinc 3 1, 3), (86, .goto (-59), 3), (89, .return_, 1)]
def M_X9_use : ab_MD := (K_X9, yX9_use, cX9_use, 7, none, false, k_X9_use)
theorem o_X9_use : ab_OK M_X9_use 1 := tb_ok OC_X9 (by decide +kernel) (by decide +kernel) (ab_T_in (tb_c_in 5 _ (List.mem_of_getElem? (i := 11) (rfl : (tb_c 5)[11]? = some (Cond.code yX9_use cX9_use 7 none)))) rfl) IN_X9
theorem v_X9_use : ab_kV M_X9_use 9 := ⟨(ab_T_in (tb_c_in 5 _ (List.mem_of_getElem? (i := 9) (rfl : (tb_c 5)[9]? = some (Cond.instanceMethod yX9_use)))) rfl), (ab_T_in (tb_c_in 5 _ (List.mem_of_getElem? (i := 10) (rfl : (tb_c 5)[10]? = some (Cond.selects RX9 yX9_use yX9_use)))) rfl), _, rfl, rfl⟩
def k_X9_waysBefore : List (Nat × Instr × Nat) :=
  [(0, .iload_n 1, 1), (1, .ifCond .ne 19, 3), (4, .iload_n 3, 1), (5, .iconst (-1), 1), (6, .if_icmp .eq 8, 3), (9, .iload_n 3, 1), (10, .iload_n 2, 1), (11, .if_icmp .ne 7, 3),
   (14, .lconst 1, 1), (15, .goto 4, 3), (18, .lconst 0, 1), (19, .lreturn, 1), (20, .lconst 0, 1), (21, .lstore 4, 2), (23, .iconst 0, 1), (24, .istore 6, 2),
   (26, .iload 6, 2), (28, .bipush 7, 2), (30, .if_icmp .ge 42, 3), (33, .aload_n 0, 1), (34, .getfield 19, 3), (37, .iload_n 2, 1), (38, .laload, 1), (39, .iload 6, 2),
   (41, .lushr, 1), (42, .lconst 1, 1), (43, .land, 1), (44, .lconst 1, 1), (45, .lcmp, 1), (46, .ifCond .ne 20, 3), (49, .lload 4, 2), (51, .aload_n 0, 1),
   (52, .getfield 22, 3), (55, .iload_n 1, 1), (56, .bipush 7, 2), (58, .imul, 1), (59, .iload 6, 2), (61, .iadd, 1), (62, .laload, 1), (63, .ladd, 1),
   (64, .lstore 4, 2), (66, .iinc 6 1, 3), (69, .goto (-43), 3), (72, .lload 4, 2), (74, .lreturn, 1)]
def M_X9_waysBefore : ab_MD := (K_X9, yX9_waysBefore, cX9_waysBefore, 7, (some .long), false, k_X9_waysBefore)
theorem o_X9_waysBefore : ab_OK M_X9_waysBefore 3 := tb_ok OC_X9 (by decide +kernel) (by decide +kernel) (ab_T_in (tb_c_in 5 _ (List.mem_of_getElem? (i := 110) (rfl : (tb_c 5)[110]? = some (Cond.code yX9_waysBefore cX9_waysBefore 7 (some .long))))) rfl) IN_X9
theorem v_X9_waysBefore : ab_kV M_X9_waysBefore 9 := ⟨(ab_T_in (tb_c_in 5 _ (List.mem_of_getElem? (i := 109) (rfl : (tb_c 5)[109]? = some (Cond.instanceMethod yX9_waysBefore)))) rfl), (ab_T_in (tb_c_in 0 _ (List.mem_of_getElem? (i := 33) (rfl : (tb_c 0)[33]? = some (Cond.selects RX9 yX9_waysBefore yX9_waysBefore)))) rfl), _, rfl, rfl⟩
/-! printed by wip/tools/mktab.py: methods of BoneEstate$Tape -/
def k_X10_advance : List (Nat × Instr × Nat) :=
  [(0, .aload_n 0, 1), (1, .getfield 47, 3), (4, .aload_n 0, 1), (5, .getfield 44, 3), (8, .if_icmp .ge 44, 3), (11, .aload_n 0, 1), (12, .getfield 9, 3), (15, .aload_n 0, 1),
   (16, .getfield 47, 3), (19, .iaload, 1), (20, .bipush 10, 2), (22, .if_icmp .eq 17, 3), (25, .aload_n 0, 1), (26, .getfield 9, 3), (29, .aload_n 0, 1), (30, .getfield 47, 3),
   (33, .iaload, 1), (34, .bipush 32, 2), (36, .if_icmp .ne 16, 3), (39, .aload_n 0, 1), (40, .dup, 1), (41, .getfield 47, 3), (44, .iconst 1, 1), (45, .iadd, 1),
   (46, .putfield 47, 3), (49, .goto (-49), 3), (52, .aload_n 0, 1), (53, .aload_n 0, 1), (54, .getfield 47, 3), (57, .putfield 53, 3), (60, .aload_n 0, 1), (61, .iconst 0, 1),
   (62, .putfield 56, 3), (65, .aload_n 0, 1), (66, .getfield 47, 3), (69, .aload_n 0, 1), (70, .getfield 44, 3), (73, .if_icmp .lt 12, 3), (76, .aload_n 0, 1), (77, .bipush 37, 2),
   (79, .putfield 50, 3), (82, .goto 51, 3), (85, .aload_n 0, 1), (86, .getfield 9, 3), (89, .aload_n 0, 1), (90, .getfield 47, 3), (93, .iaload, 1), (94, .invokestatic 59, 3),
   (97, .ifCond .eq 10, 3), (100, .aload_n 0, 1), (101, .invokevirtual 63, 3), (104, .goto 29, 3), (107, .aload_n 0, 1), (108, .getfield 9, 3), (111, .aload_n 0, 1), (112, .getfield 47, 3),
   (115, .iaload, 1), (116, .invokestatic 66, 3), (119, .ifCond .eq 10, 3), (122, .aload_n 0, 1), (123, .invokevirtual 69, 3), (126, .goto 7, 3), (129, .aload_n 0, 1), (130, .invokevirtual 72, 3),
   (133, .return_, 1)]
def M_X10_advance : ab_MD := (K_X10, yX10_advance, cX10_advance, 1, none, false, k_X10_advance)
theorem o_X10_advance : ab_OK M_X10_advance 0 := tb_ok OC_X10 (by decide +kernel) (by decide +kernel) (ab_T_in (tb_c_in 3 _ (List.mem_of_getElem? (i := 146) (rfl : (tb_c 3)[146]? = some (Cond.code yX10_advance cX10_advance 1 none)))) rfl) IN_X10
theorem v_X10_advance : ab_kV M_X10_advance 10 := ⟨(ab_T_in (tb_c_in 3 _ (List.mem_of_getElem? (i := 144) (rfl : (tb_c 3)[144]? = some (Cond.instanceMethod yX10_advance)))) rfl), (ab_T_in (tb_c_in 3 _ (List.mem_of_getElem? (i := 145) (rfl : (tb_c 3)[145]? = some (Cond.selects RX10 yX10_advance yX10_advance)))) rfl), _, rfl, rfl⟩
def k_X10_append : List (Nat × Instr × Nat) :=
  [(0, .bipush 24, 2), (2, .istore_n 2, 1), (3, .iload_n 2, 1), (4, .ifCond .lt 45, 3), (7, .aload_n 0, 1), (8, .getfield 35, 3), (11, .sipush 700, 3), (14, .if_icmp .ge 35, 3),
   (17, .aload_n 0, 1), (18, .getfield 9, 3), (21, .aload_n 0, 1), (22, .getfield 35, 3), (25, .iload_n 1, 1), (26, .iload_n 2, 1), (27, .iushr, 1), (28, .sipush 255, 3),
   (31, .iand, 1), (32, .iastore, 1), (33, .aload_n 0, 1), (34, .dup, 1), (35, .getfield 35, 3), (38, .iconst 1, 1), (39, .iadd, 1), (40, .putfield 35, 3),
   (43, .iinc 2 (-8), 3), (46, .goto (-43), 3), (49, .return_, 1)]
def M_X10_append : ab_MD := (K_X10, yX10_append, cX10_append, 3, none, false, k_X10_append)
theorem o_X10_append : ab_OK M_X10_append 1 := tb_ok OC_X10 (by decide +kernel) (by decide +kernel) (ab_T_in (tb_c_in 3 _ (List.mem_of_getElem? (i := 118) (rfl : (tb_c 3)[118]? = some (Cond.code yX10_append cX10_append 3 none)))) rfl) IN_X10
theorem v_X10_append : ab_kV M_X10_append 10 := ⟨(ab_T_in (tb_c_in 3 _ (List.mem_of_getElem? (i := 116) (rfl : (tb_c 3)[116]? = some (Cond.instanceMethod yX10_append)))) rfl), (ab_T_in (tb_c_in 3 _ (List.mem_of_getElem? (i := 117) (rfl : (tb_c 3)[117]? = some (Cond.selects RX10 yX10_append yX10_append)))) rfl), _, rfl, rfl⟩
def k_X10_byteAt : List (Nat × Instr × Nat) :=
  [(0, .iload_n 1, 1), (1, .ifCond .lt 20, 3), (4, .iload_n 1, 1), (5, .aload_n 0, 1), (6, .getfield 44, 3), (9, .if_icmp .ge 12, 3), (12, .aload_n 0, 1), (13, .getfield 9, 3),
   (16, .iload_n 1, 1), (17, .iaload, 1), (18, .goto 4, 3), (21, .iconst 0, 1), (22, .ireturn, 1)]
def M_X10_byteAt : ab_MD := (K_X10, yX10_byteAt, cX10_byteAt, 2, (some .int), false, k_X10_byteAt)
theorem o_X10_byteAt : ab_OK M_X10_byteAt 1 := tb_ok OC_X10 (by decide +kernel) (by decide +kernel) (ab_T_in (tb_c_in 3 _ (List.mem_of_getElem? (i := 173) (rfl : (tb_c 3)[173]? = some (Cond.code yX10_byteAt cX10_byteAt 2 (some .int))))) rfl) IN_X10
theorem v_X10_byteAt : ab_kV M_X10_byteAt 10 := ⟨(ab_T_in (tb_c_in 3 _ (List.mem_of_getElem? (i := 172) (rfl : (tb_c 3)[172]? = some (Cond.instanceMethod yX10_byteAt)))) rfl), (ab_T_in (tb_c_in 0 _ (List.mem_of_getElem? (i := 4) (rfl : (tb_c 0)[4]? = some (Cond.selects RX10 yX10_byteAt yX10_byteAt)))) rfl), _, rfl, rfl⟩
def k_X10_init : List (Nat × Instr × Nat) :=
  [(0, .aload_n 0, 1), (1, .invokespecial 3, 3), (4, .aload_n 0, 1), (5, .sipush 700, 3), (8, .newarray .int, 2), (10, .putfield 9, 3), (13, .aload_n 0, 1), (14, .bipush 32, 2),
   (16, .newarray .int, 2), (18, .putfield 15, 3), (21, .iconst 1, 1), (22, .istore_n 1, 1), (23, .iconst 0, 1), (24, .istore_n 2, 1), (25, .iload_n 2, 1), (26, .ldc 18, 2),
   (28, .invokevirtual 20, 3), (31, .if_icmp .ge 62, 3), (34, .ldc 18, 2), (36, .iload_n 2, 1), (37, .invokevirtual 26, 3), (40, .istore_n 3, 1), (41, .iload_n 3, 1), (42, .bipush 32, 2),
   (44, .if_icmp .ne 9, 3), (47, .iinc 1 1, 3), (50, .goto 37, 3), (53, .iload_n 3, 1), (54, .bipush 45, 2), (56, .if_icmp .eq 31, 3), (59, .iload_n 1, 1), (60, .bipush 32, 2),
   (62, .if_icmp .ge 25, 3), (65, .aload_n 0, 1), (66, .getfield 15, 3), (69, .iload_n 1, 1), (70, .aload_n 0, 1), (71, .getfield 15, 3), (74, .iload_n 1, 1), (75, .iaload, 1),
   (76, .bipush 32, 2), (78, .imul, 1), (79, .iload_n 3, 1), (80, .iadd, 1), (81, .bipush 97, 2), (83, .isub, 1), (84, .iconst 1, 1), (85, .iadd, 1),
   (86, .iastore, 1), (87, .iinc 2 1, 3), (90, .goto (-65), 3), (93, .iconst 0, 1), (94, .istore_n 2, 1), (95, .iload_n 2, 1), (96, .bipush 32, 2), (98, .if_icmp .ge 24, 3),
   (101, .aload_n 0, 1), (102, .getfield 15, 3), (105, .iload_n 2, 1), (106, .aload_n 0, 1), (107, .getfield 15, 3), (110, .iload_n 2, 1), (111, .iaload, 1), (112, .invokestatic 30, 3),
   (115, .iastore, 1), (116, .iinc 2 1, 3), (119, .goto (-24), 3), (122, .return_, 1)]
def M_X10_init : ab_MD := (K_X10, yX10_init, cX10_init, 4, none, true, k_X10_init)
theorem o_X10_init : ab_OK M_X10_init 0 := tb_ok OC_X10 (by decide +kernel) (by decide +kernel) (ab_T_in (tb_c_in 1 _ (List.mem_of_getElem? (i := 41) (rfl : (tb_c 1)[41]? = some (Cond.code yX10_init cX10_init 4 none)))) rfl) IN_X10
theorem i_X10_init : Cond.instanceMethod M_X10_init.2.1 ∈ ab_T := (ab_T_in (tb_c_in 1 _ (List.mem_of_getElem? (i := 40) (rfl : (tb_c 1)[40]? = some (Cond.instanceMethod yX10_init)))) rfl)
def k_X10_isDigit : List (Nat × Instr × Nat) :=
  [(0, .iload_n 0, 1), (1, .bipush 48, 2), (3, .if_icmp .lt 13, 3), (6, .iload_n 0, 1), (7, .bipush 57, 2), (9, .if_icmp .gt 7, 3), (12, .iconst 1, 1), (13, .goto 4, 3),
   (16, .iconst 0, 1), (17, .ireturn, 1)]
def M_X10_isDigit : ab_MD := (K_X10, yX10_isDigit, cX10_isDigit, 1, (some .boolean), false, k_X10_isDigit)
theorem o_X10_isDigit : ab_OK M_X10_isDigit 1 := tb_ok OC_X10 (by decide +kernel) (by decide +kernel) (ab_T_in (tb_c_in 3 _ (List.mem_of_getElem? (i := 160) (rfl : (tb_c 3)[160]? = some (Cond.code yX10_isDigit cX10_isDigit 1 (some .boolean))))) rfl) IN_X10
theorem s_X10_isDigit : Cond.static M_X10_isDigit.2.1 ∈ ab_T := (ab_T_in (tb_c_in 3 _ (List.mem_of_getElem? (i := 159) (rfl : (tb_c 3)[159]? = some (Cond.static yX10_isDigit)))) rfl)
def k_X10_isLetter : List (Nat × Instr × Nat) :=
  [(0, .iload_n 0, 1), (1, .bipush 97, 2), (3, .if_icmp .lt 13, 3), (6, .iload_n 0, 1), (7, .bipush 122, 2), (9, .if_icmp .gt 7, 3), (12, .iconst 1, 1), (13, .goto 4, 3),
   (16, .iconst 0, 1), (17, .ireturn, 1)]
def M_X10_isLetter : ab_MD := (K_X10, yX10_isLetter, cX10_isLetter, 1, (some .boolean), false, k_X10_isLetter)
theorem o_X10_isLetter : ab_OK M_X10_isLetter 1 := tb_ok OC_X10 (by decide +kernel) (by decide +kernel) (ab_T_in (tb_c_in 3 _ (List.mem_of_getElem? (i := 149) (rfl : (tb_c 3)[149]? = some (Cond.code yX10_isLetter cX10_isLetter 1 (some .boolean))))) rfl) IN_X10
theorem s_X10_isLetter : Cond.static M_X10_isLetter.2.1 ∈ ab_T := (ab_T_in (tb_c_in 3 _ (List.mem_of_getElem? (i := 148) (rfl : (tb_c 3)[148]? = some (Cond.static yX10_isLetter)))) rfl)
def k_X10_padded : List (Nat × Instr × Nat) :=
  [(0, .iload_n 0, 1), (1, .istore_n 1, 1), (2, .iconst 0, 1), (3, .istore_n 2, 1), (4, .iload_n 2, 1), (5, .bipush 6, 2), (7, .if_icmp .ge 24, 3), (10, .iload_n 1, 1),
   (11, .ifCond .eq 20, 3), (14, .iload_n 1, 1), (15, .ldc 34, 2), (17, .if_icmp .ge 14, 3), (20, .iload_n 1, 1), (21, .bipush 32, 2), (23, .imul, 1), (24, .istore_n 1, 1),
   (25, .iinc 2 1, 3), (28, .goto (-24), 3), (31, .iload_n 1, 1), (32, .ireturn, 1)]
def M_X10_padded : ab_MD := (K_X10, yX10_padded, cX10_padded, 3, (some .int), false, k_X10_padded)
theorem o_X10_padded : ab_OK M_X10_padded 1 := tb_ok OC_X10 (by decide +kernel) (by decide +kernel) (ab_T_in (tb_c_in 1 _ (List.mem_of_getElem? (i := 94) (rfl : (tb_c 1)[94]? = some (Cond.code yX10_padded cX10_padded 3 (some .int))))) rfl) IN_X10
theorem s_X10_padded : Cond.static M_X10_padded.2.1 ∈ ab_T := (ab_T_in (tb_c_in 1 _ (List.mem_of_getElem? (i := 93) (rfl : (tb_c 1)[93]? = some (Cond.static yX10_padded)))) rfl)
def k_X10_readNumber : List (Nat × Instr × Nat) :=
  [(0, .aload_n 0, 1), (1, .getfield 47, 3), (4, .aload_n 0, 1), (5, .getfield 44, 3), (8, .if_icmp .ge 60, 3), (11, .aload_n 0, 1), (12, .getfield 9, 3), (15, .aload_n 0, 1),
   (16, .getfield 47, 3), (19, .iaload, 1), (20, .invokestatic 66, 3), (23, .ifCond .eq 45, 3), (26, .aload_n 0, 1), (27, .aload_n 0, 1), (28, .getfield 56, 3), (31, .bipush 10, 2),
   (33, .imul, 1), (34, .aload_n 0, 1), (35, .getfield 9, 3), (38, .aload_n 0, 1), (39, .getfield 47, 3), (42, .iaload, 1), (43, .iadd, 1), (44, .bipush 48, 2),
   (46, .isub, 1), (47, .ldc 78, 2), (49, .invokestatic 38, 3), (52, .putfield 56, 3), (55, .aload_n 0, 1), (56, .dup, 1), (57, .getfield 47, 3), (60, .iconst 1, 1),
   (61, .iadd, 1), (62, .putfield 47, 3), (65, .goto (-65), 3), (68, .aload_n 0, 1), (69, .bipush 36, 2), (71, .putfield 50, 3), (74, .return_, 1)]
def M_X10_readNumber : ab_MD := (K_X10, yX10_readNumber, cX10_readNumber, 1, none, false, k_X10_readNumber)
theorem o_X10_readNumber : ab_OK M_X10_readNumber 0 := tb_ok OC_X10 (by decide +kernel) (by decide +kernel) (ab_T_in (tb_c_in 3 _ (List.mem_of_getElem? (i := 164) (rfl : (tb_c 3)[164]? = some (Cond.code yX10_readNumber cX10_readNumber 1 none)))) rfl) IN_X10
theorem v_X10_readNumber : ab_kV M_X10_readNumber 10 := ⟨(ab_T_in (tb_c_in 3 _ (List.mem_of_getElem? (i := 163) (rfl : (tb_c 3)[163]? = some (Cond.instanceMethod yX10_readNumber)))) rfl), (ab_T_in (tb_c_in 0 _ (List.mem_of_getElem? (i := 2) (rfl : (tb_c 0)[2]? = some (Cond.selects RX10 yX10_readNumber yX10_readNumber)))) rfl), _, rfl, rfl⟩
def k_X10_readSign : List (Nat × Instr × Nat) :=
  [(0, .aload_n 0, 1), (1, .getfield 9, 3), (4, .aload_n 0, 1), (5, .getfield 47, 3), (8, .iaload, 1), (9, .istore_n 1, 1), (10, .aload_n 0, 1), (11, .aload_n 0, 1),
   (12, .getfield 47, 3), (15, .iconst 1, 1), (16, .iadd, 1), (17, .invokevirtual 79, 3), (20, .istore_n 2, 1), (21, .aload_n 0, 1), (22, .iload_n 1, 1), (23, .invokestatic 82, 3),
   (26, .putfield 50, 3), (29, .iload_n 1, 1), (30, .bipush 60, 2), (32, .if_icmp .ne 18, 3), (35, .iload_n 2, 1), (36, .bipush 61, 2), (38, .if_icmp .ne 12, 3), (41, .aload_n 0, 1),
   (42, .bipush 12, 2), (44, .putfield 50, 3), (47, .goto 42, 3), (50, .iload_n 1, 1), (51, .bipush 60, 2), (53, .if_icmp .ne 18, 3), (56, .iload_n 2, 1), (57, .bipush 62, 2),
   (59, .if_icmp .ne 12, 3), (62, .aload_n 0, 1), (63, .bipush 14, 2), (65, .putfield 50, 3), (68, .goto 21, 3), (71, .iload_n 1, 1), (72, .bipush 62, 2), (74, .if_icmp .ne 15, 3),
   (77, .iload_n 2, 1), (78, .bipush 61, 2), (80, .if_icmp .ne 9, 3), (83, .aload_n 0, 1), (84, .bipush 15, 2), (86, .putfield 50, 3), (89, .aload_n 0, 1), (90, .dup, 1),
   (91, .getfield 47, 3), (94, .aload_n 0, 1), (95, .getfield 50, 3), (98, .bipush 12, 2), (100, .if_icmp .eq 21, 3), (103, .aload_n 0, 1), (104, .getfield 50, 3), (107, .bipush 14, 2),
   (109, .if_icmp .eq 12, 3), (112, .aload_n 0, 1), (113, .getfield 50, 3), (116, .bipush 15, 2), (118, .if_icmp .ne 7, 3), (121, .iconst 2, 1), (122, .goto 4, 3), (125, .iconst 1, 1),
   (126, .iadd, 1), (127, .putfield 47, 3), (130, .return_, 1)]
def M_X10_readSign : ab_MD := (K_X10, yX10_readSign, cX10_readSign, 3, none, false, k_X10_readSign)
theorem o_X10_readSign : ab_OK M_X10_readSign 0 := tb_ok OC_X10 (by decide +kernel) (by decide +kernel) (ab_T_in (tb_c_in 3 _ (List.mem_of_getElem? (i := 169) (rfl : (tb_c 3)[169]? = some (Cond.code yX10_readSign cX10_readSign 3 none)))) rfl) IN_X10
theorem v_X10_readSign : ab_kV M_X10_readSign 10 := ⟨(ab_T_in (tb_c_in 3 _ (List.mem_of_getElem? (i := 168) (rfl : (tb_c 3)[168]? = some (Cond.instanceMethod yX10_readSign)))) rfl), (ab_T_in (tb_c_in 0 _ (List.mem_of_getElem? (i := 3) (rfl : (tb_c 0)[3]? = some (Cond.selects RX10 yX10_readSign yX10_readSign)))) rfl), _, rfl, rfl⟩
def k_X10_readWord : List (Nat × Instr × Nat) :=
  [(0, .aload_n 0, 1), (1, .getfield 47, 3), (4, .aload_n 0, 1), (5, .getfield 44, 3), (8, .if_icmp .ge 71, 3), (11, .aload_n 0, 1), (12, .getfield 9, 3), (15, .aload_n 0, 1),
   (16, .getfield 47, 3), (19, .iaload, 1), (20, .invokestatic 59, 3), (23, .ifCond .eq 56, 3), (26, .aload_n 0, 1), (27, .getfield 47, 3), (30, .aload_n 0, 1), (31, .getfield 53, 3),
   (34, .isub, 1), (35, .bipush 6, 2), (37, .if_icmp .ge 29, 3), (40, .aload_n 0, 1), (41, .aload_n 0, 1), (42, .getfield 56, 3), (45, .bipush 32, 2), (47, .imul, 1),
   (48, .aload_n 0, 1), (49, .getfield 9, 3), (52, .aload_n 0, 1), (53, .getfield 47, 3), (56, .iaload, 1), (57, .iadd, 1), (58, .bipush 97, 2), (60, .isub, 1),
   (61, .iconst 1, 1), (62, .iadd, 1), (63, .putfield 56, 3), (66, .aload_n 0, 1), (67, .dup, 1), (68, .getfield 47, 3), (71, .iconst 1, 1), (72, .iadd, 1),
   (73, .putfield 47, 3), (76, .goto (-76), 3), (79, .aload_n 0, 1), (80, .aload_n 0, 1), (81, .getfield 56, 3), (84, .invokestatic 30, 3), (87, .putfield 56, 3), (90, .aload_n 0, 1),
   (91, .aload_n 0, 1), (92, .getfield 47, 3), (95, .aload_n 0, 1), (96, .getfield 53, 3), (99, .isub, 1), (100, .bipush 6, 2), (102, .if_icmp .le 8, 3), (105, .bipush 38, 2),
   (107, .goto 7, 3), (110, .aload_n 0, 1), (111, .invokevirtual 75, 3), (114, .putfield 50, 3), (117, .return_, 1)]
def M_X10_readWord : ab_MD := (K_X10, yX10_readWord, cX10_readWord, 1, none, false, k_X10_readWord)
theorem o_X10_readWord : ab_OK M_X10_readWord 0 := tb_ok OC_X10 (by decide +kernel) (by decide +kernel) (ab_T_in (tb_c_in 3 _ (List.mem_of_getElem? (i := 153) (rfl : (tb_c 3)[153]? = some (Cond.code yX10_readWord cX10_readWord 1 none)))) rfl) IN_X10
theorem v_X10_readWord : ab_kV M_X10_readWord 10 := ⟨(ab_T_in (tb_c_in 3 _ (List.mem_of_getElem? (i := 152) (rfl : (tb_c 3)[152]? = some (Cond.instanceMethod yX10_readWord)))) rfl), (ab_T_in (tb_c_in 0 _ (List.mem_of_getElem? (i := 0) (rfl : (tb_c 0)[0]? = some (Cond.selects RX10 yX10_readWord yX10_readWord)))) rfl), _, rfl, rfl⟩
def k_X10_rewind : List (Nat × Instr × Nat) :=
  [(0, .aload_n 0, 1), (1, .iload_n 1, 1), (2, .sipush 700, 3), (5, .invokestatic 38, 3), (8, .putfield 44, 3), (11, .aload_n 0, 1), (12, .iconst 0, 1), (13, .putfield 47, 3),
   (16, .aload_n 0, 1), (17, .bipush 38, 2), (19, .putfield 50, 3), (22, .aload_n 0, 1), (23, .iconst 0, 1), (24, .putfield 53, 3), (27, .return_, 1)]
def M_X10_rewind : ab_MD := (K_X10, yX10_rewind, cX10_rewind, 2, none, false, k_X10_rewind)
theorem o_X10_rewind : ab_OK M_X10_rewind 1 := tb_ok OC_X10 (by decide +kernel) (by decide +kernel) (ab_T_in (tb_c_in 3 _ (List.mem_of_getElem? (i := 139) (rfl : (tb_c 3)[139]? = some (Cond.code yX10_rewind cX10_rewind 2 none)))) rfl) IN_X10
theorem v_X10_rewind : ab_kV M_X10_rewind 10 := ⟨(ab_T_in (tb_c_in 3 _ (List.mem_of_getElem? (i := 137) (rfl : (tb_c 3)[137]? = some (Cond.instanceMethod yX10_rewind)))) rfl), (ab_T_in (tb_c_in 3 _ (List.mem_of_getElem? (i := 138) (rfl : (tb_c 3)[138]? = some (Cond.selects RX10 yX10_rewind yX10_rewind)))) rfl), _, rfl, rfl⟩
def k_X10_signToken : List (Nat × Instr × Nat) :=
  [(0, .iload_n 0, 1), (1, .tableswitch 137 40 62 #[110, 113, 131, 125, 137, 128, 137, 134, 137, 137, 137, 137, 137, 137, 137, 137, 137, 137, 137, 107, 116, 119, 122], 107), (108, .bipush 34, 2), (110, .ireturn, 1), (111, .bipush 32, 2), (113, .ireturn, 1), (114, .bipush 33, 2), (116, .ireturn, 1),
   (117, .bipush 11, 2), (119, .ireturn, 1), (120, .bipush 13, 2), (122, .ireturn, 1), (123, .bipush 16, 2), (125, .ireturn, 1), (126, .bipush 17, 2), (128, .ireturn, 1),
   (129, .bipush 18, 2), (131, .ireturn, 1), (132, .bipush 19, 2), (134, .ireturn, 1), (135, .bipush 20, 2), (137, .ireturn, 1), (138, .bipush 38, 2), (140, .ireturn, 1)]
def M_X10_signToken : ab_MD := (K_X10, yX10_signToken, cX10_signToken, 1, (some .int), false, k_X10_signToken)
theorem o_X10_signToken : ab_OK M_X10_signToken 1 := tb_ok OC_X10 (by decide +kernel) (by decide +kernel) (ab_T_in (tb_c_in 3 _ (List.mem_of_getElem? (i := 176) (rfl : (tb_c 3)[176]? = some (Cond.code yX10_signToken cX10_signToken 1 (some .int))))) rfl) IN_X10
theorem s_X10_signToken : Cond.static M_X10_signToken.2.1 ∈ ab_T := (ab_T_in (tb_c_in 3 _ (List.mem_of_getElem? (i := 175) (rfl : (tb_c 3)[175]? = some (Cond.static yX10_signToken)))) rfl)
def k_X10_wordToken : List (Nat × Instr × Nat) :=
  [(0, .iconst 1, 1), (1, .istore_n 1, 1), (2, .iload_n 1, 1), (3, .bipush 32, 2), (5, .if_icmp .ge 24, 3), (8, .aload_n 0, 1), (9, .getfield 15, 3), (12, .iload_n 1, 1),
   (13, .iaload, 1), (14, .aload_n 0, 1), (15, .getfield 56, 3), (18, .if_icmp .ne 5, 3), (21, .iload_n 1, 1), (22, .ireturn, 1), (23, .iinc 1 1, 3), (26, .goto (-24), 3),
   (29, .bipush 35, 2), (31, .ireturn, 1)]
def M_X10_wordToken : ab_MD := (K_X10, yX10_wordToken, cX10_wordToken, 2, (some .int), false, k_X10_wordToken)
theorem o_X10_wordToken : ab_OK M_X10_wordToken 0 := tb_ok OC_X10 (by decide +kernel) (by decide +kernel) (ab_T_in (tb_c_in 3 _ (List.mem_of_getElem? (i := 157) (rfl : (tb_c 3)[157]? = some (Cond.code yX10_wordToken cX10_wordToken 2 (some .int))))) rfl) IN_X10
theorem v_X10_wordToken : ab_kV M_X10_wordToken 10 := ⟨(ab_T_in (tb_c_in 3 _ (List.mem_of_getElem? (i := 156) (rfl : (tb_c 3)[156]? = some (Cond.instanceMethod yX10_wordToken)))) rfl), (ab_T_in (tb_c_in 0 _ (List.mem_of_getElem? (i := 1) (rfl : (tb_c 0)[1]? = some (Cond.selects RX10 yX10_wordToken yX10_wordToken)))) rfl), _, rfl, rfl⟩
