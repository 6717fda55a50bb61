/-! printed by wip/tools/mktab.py: methods of BoneEstate -/
def k_X11_ahead : List (Nat × Instr × Nat) :=
  [(0, .iload_n 1, 1), (1, .invokestatic 237, 3), (4, .ifCond .eq 25, 3), (7, .iload_n 2, 1), (8, .ifCond .lt 21, 3), (11, .iload_n 2, 1), (12, .iconst 4, 1), (13, .if_icmp .gt 16, 3),
   (16, .iload_n 2, 1), (17, .iconst 2, 1), (18, .if_icmp .ge 13, 3), (21, .aload_n 0, 1), (22, .iload_n 3, 1), (23, .invokevirtual 174, 3), (26, .ifCond .ne 5, 3), (29, .iconst (-1), 1),
   (30, .ireturn, 1), (31, .aload_n 0, 1), (32, .getfield 57, 3), (35, .invokevirtual 227, 3), (38, .aload_n 0, 1), (39, .getfield 82, 3), (42, .aload_n 0, 1), (43, .getfield 78, 3),
   (46, .invokevirtual 230, 3), (49, .aload_n 0, 1), (50, .getfield 57, 3), (53, .aload_n 0, 1), (54, .getfield 82, 3), (57, .iload_n 1, 1), (58, .invokevirtual 243, 3), (61, .iload_n 2, 1),
   (62, .tableswitch 85 0 3 #[30, 40, 53, 69], 30), (92, .aload_n 0, 1), (93, .getfield 82, 3), (96, .getfield 177, 3), (99, .iload_n 3, 1), (100, .iaload, 1), (101, .ireturn, 1), (102, .aload_n 0, 1),
   (103, .getfield 82, 3), (106, .getfield 180, 3), (109, .iload_n 3, 1), (110, .iaload, 1), (111, .invokestatic 247, 3), (114, .ireturn, 1), (115, .aload_n 0, 1), (116, .getfield 82, 3),
   (119, .invokevirtual 252, 3), (122, .aload_n 0, 1), (123, .getfield 78, 3), (126, .invokevirtual 252, 3), (129, .isub, 1), (130, .ireturn, 1), (131, .aload_n 0, 1), (132, .getfield 82, 3),
   (135, .getfield 256, 3), (138, .aload_n 0, 1), (139, .getfield 78, 3), (142, .getfield 256, 3), (145, .isub, 1), (146, .ireturn, 1), (147, .aload_n 0, 1), (148, .getfield 82, 3),
   (151, .getfield 259, 3), (154, .invokestatic 247, 3), (157, .ireturn, 1)]
def M_X11_ahead : ab_MD := (K_X11, yX11_ahead, cX11_ahead, 4, (some .int), false, k_X11_ahead)
theorem o_X11_ahead : ab_OK M_X11_ahead 3 := tb_ok OC_X11 (by decide +kernel) (by decide +kernel) (ab_T_in (tb_c_in 5 _ (List.mem_of_getElem? (i := 70) (rfl : (tb_c 5)[70]? = some (Cond.code yX11_ahead cX11_ahead 4 (some .int))))) rfl) IN_X11
theorem v_X11_ahead : ab_kV M_X11_ahead 11 := ⟨(ab_T_in (tb_c_in 5 _ (List.mem_of_getElem? (i := 68) (rfl : (tb_c 5)[68]? = some (Cond.instanceMethod yX11_ahead)))) rfl), (ab_T_in (tb_c_in 5 _ (List.mem_of_getElem? (i := 69) (rfl : (tb_c 5)[69]? = some (Cond.selects RX11 yX11_ahead yX11_ahead)))) rfl), _, rfl, rfl⟩
def k_X11_ask : List (Nat × Instr × Nat) :=
  [(0, .iload_n 1, 1), (1, .ifCond .lt 8, 3), (4, .iload_n 1, 1), (5, .iconst 1, 1), (6, .if_icmp .le 5, 3), (9, .iconst (-1), 1), (10, .ireturn, 1), (11, .aload_n 0, 1),
   (12, .getfield 71, 3), (15, .aload_n 0, 1), (16, .getfield 21, 3), (19, .aload_n 0, 1), (20, .getfield 48, 3), (23, .aload_n 0, 1), (24, .getfield 78, 3), (27, .getfield 189, 3),
   (30, .invokevirtual 192, 3), (33, .invokevirtual 353, 3), (36, .lstore_n 2, 1), (37, .iconst 0, 1), (38, .istore 4, 2), (40, .bipush 64, 2), (42, .istore 5, 2), (44, .iconst 0, 1),
   (45, .istore 6, 2), (47, .iload 6, 2), (49, .bipush 7, 2), (51, .if_icmp .ge 50, 3), (54, .lload_n 2, 1), (55, .iload 6, 2), (57, .invokestatic 363, 3), (60, .land, 1),
   (61, .invokestatic 357, 3), (64, .istore 7, 2), (66, .iload 7, 2), (68, .lload_n 2, 1), (69, .invokestatic 357, 3), (72, .iload 7, 2), (74, .isub, 1), (75, .invokestatic 366, 3),
   (78, .istore 8, 2), (80, .iload 8, 2), (82, .iload 5, 2), (84, .if_icmp .ge 11, 3), (87, .iload 8, 2), (89, .istore 5, 2), (91, .iload 6, 2), (93, .istore 4, 2),
   (95, .iinc 6 1, 3), (98, .goto (-51), 3), (101, .iload_n 1, 1), (102, .ifCond .ne 8, 3), (105, .iload 4, 2), (107, .goto 5, 3), (110, .iload 5, 2), (112, .ireturn, 1)]
def M_X11_ask : ab_MD := (K_X11, yX11_ask, cX11_ask, 9, (some .int), false, k_X11_ask)
theorem o_X11_ask : ab_OK M_X11_ask 1 := tb_ok OC_X11 (by decide +kernel) (by decide +kernel) (ab_T_in (tb_c_in 6 _ (List.mem_of_getElem? (i := 82) (rfl : (tb_c 6)[82]? = some (Cond.code yX11_ask cX11_ask 9 (some .int))))) rfl) IN_X11
theorem v_X11_ask : ab_kV M_X11_ask 11 := ⟨(ab_T_in (tb_c_in 6 _ (List.mem_of_getElem? (i := 80) (rfl : (tb_c 6)[80]? = some (Cond.instanceMethod yX11_ask)))) rfl), (ab_T_in (tb_c_in 6 _ (List.mem_of_getElem? (i := 81) (rfl : (tb_c 6)[81]? = some (Cond.selects RX11 yX11_ask yX11_ask)))) rfl), _, rfl, rfl⟩
def k_X11_back : List (Nat × Instr × Nat) :=
  [(0, .aload_n 0, 1), (1, .getfield 129, 3), (4, .ifCond .ne 5, 3), (7, .iconst (-1), 1), (8, .ireturn, 1), (9, .aload_n 0, 1), (10, .getfield 78, 3), (13, .aload_n 0, 1),
   (14, .getfield 85, 3), (17, .invokevirtual 230, 3), (20, .aload_n 0, 1), (21, .iconst 0, 1), (22, .putfield 133, 3), (25, .aload_n 0, 1), (26, .getfield 78, 3), (29, .getfield 189, 3),
   (32, .ireturn, 1)]
def M_X11_back : ab_MD := (K_X11, yX11_back, cX11_back, 1, (some .int), false, k_X11_back)
theorem o_X11_back : ab_OK M_X11_back 0 := tb_ok OC_X11 (by decide +kernel) (by decide +kernel) (ab_T_in (tb_c_in 6 _ (List.mem_of_getElem? (i := 123) (rfl : (tb_c 6)[123]? = some (Cond.code yX11_back cX11_back 1 (some .int))))) rfl) IN_X11
theorem v_X11_back : ab_kV M_X11_back 11 := ⟨(ab_T_in (tb_c_in 6 _ (List.mem_of_getElem? (i := 121) (rfl : (tb_c 6)[121]? = some (Cond.instanceMethod yX11_back)))) rfl), (ab_T_in (tb_c_in 6 _ (List.mem_of_getElem? (i := 122) (rfl : (tb_c 6)[122]? = some (Cond.selects RX11 yX11_back yX11_back)))) rfl), _, rfl, rfl⟩
def k_X11_chance : List (Nat × Instr × Nat) :=
  [(0, .iload_n 1, 1), (1, .ifCond .lt 30, 3), (4, .iload_n 2, 1), (5, .iconst 1, 1), (6, .if_icmp .lt 25, 3), (9, .iload_n 2, 1), (10, .bipush 99, 2), (12, .if_icmp .gt 19, 3),
   (15, .aload_n 0, 1), (16, .iload_n 3, 1), (17, .invokevirtual 174, 3), (20, .ifCond .eq 11, 3), (23, .iload 4, 2), (25, .invokestatic 344, 3), (28, .ifCond .ne 5, 3), (31, .iconst (-1), 1),
   (32, .ireturn, 1), (33, .aload_n 0, 1), (34, .getfield 57, 3), (37, .invokevirtual 227, 3), (40, .aload_n 0, 1), (41, .getfield 57, 3), (44, .iconst 1, 1), (45, .putfield 240, 3),
   (48, .iload_n 1, 1), (49, .istore 5, 2), (51, .iconst 0, 1), (52, .istore 6, 2), (54, .iconst 0, 1), (55, .istore 7, 2), (57, .iload 7, 2), (59, .bipush 10, 2),
   (61, .if_icmp .ge 67, 3), (64, .aload_n 0, 1), (65, .getfield 82, 3), (68, .aload_n 0, 1), (69, .getfield 78, 3), (72, .invokevirtual 230, 3), (75, .aload_n 0, 1), (76, .getfield 82, 3),
   (79, .iload 5, 2), (81, .putfield 384, 3), (84, .aload_n 0, 1), (85, .getfield 57, 3), (88, .aload_n 0, 1), (89, .getfield 82, 3), (92, .iload_n 2, 1), (93, .invokevirtual 243, 3),
   (96, .aload_n 0, 1), (97, .getfield 82, 3), (100, .getfield 384, 3), (103, .istore 5, 2), (105, .aload_n 0, 1), (106, .getfield 82, 3), (109, .getfield 177, 3), (112, .iload_n 3, 1),
   (113, .iaload, 1), (114, .iload 4, 2), (116, .if_icmp .lt 6, 3), (119, .iinc 6 1, 3), (122, .iinc 7 1, 3), (125, .goto (-68), 3), (128, .aload_n 0, 1), (129, .getfield 57, 3),
   (132, .invokevirtual 227, 3), (135, .iload 6, 2), (137, .ireturn, 1)]
def M_X11_chance : ab_MD := (K_X11, yX11_chance, cX11_chance, 8, (some .int), false, k_X11_chance)
theorem o_X11_chance : ab_OK M_X11_chance 4 := tb_ok OC_X11 (by decide +kernel) (by decide +kernel) (ab_T_in (tb_c_in 6 _ (List.mem_of_getElem? (i := 103) (rfl : (tb_c 6)[103]? = some (Cond.code yX11_chance cX11_chance 8 (some .int))))) rfl) IN_X11
theorem v_X11_chance : ab_kV M_X11_chance 11 := ⟨(ab_T_in (tb_c_in 6 _ (List.mem_of_getElem? (i := 101) (rfl : (tb_c 6)[101]? = some (Cond.instanceMethod yX11_chance)))) rfl), (ab_T_in (tb_c_in 6 _ (List.mem_of_getElem? (i := 102) (rfl : (tb_c 6)[102]? = some (Cond.selects RX11 yX11_chance yX11_chance)))) rfl), _, rfl, rfl⟩
def k_X11_closed : List (Nat × Instr × Nat) :=
  [(0, .aload_n 0, 1), (1, .iload_n 1, 1), (2, .invokevirtual 174, 3), (5, .ifCond .ne 7, 3), (8, .ldc2_w 262, 3), (11, .lreturn, 1), (12, .aload_n 0, 1), (13, .invokevirtual 264, 3),
   (16, .aload_n 0, 1), (17, .getfield 39, 3), (20, .aload_n 0, 1), (21, .getfield 78, 3), (24, .getfield 180, 3), (27, .iload_n 1, 1), (28, .iaload, 1), (29, .invokevirtual 287, 3),
   (32, .lreturn, 1)]
def M_X11_closed : ab_MD := (K_X11, yX11_closed, cX11_closed, 2, (some .long), false, k_X11_closed)
theorem o_X11_closed : ab_OK M_X11_closed 1 := tb_ok OC_X11 (by decide +kernel) (by decide +kernel) (ab_T_in (tb_c_in 5 _ (List.mem_of_getElem? (i := 141) (rfl : (tb_c 5)[141]? = some (Cond.code yX11_closed cX11_closed 2 (some .long))))) rfl) IN_X11
theorem v_X11_closed : ab_kV M_X11_closed 11 := ⟨(ab_T_in (tb_c_in 5 _ (List.mem_of_getElem? (i := 139) (rfl : (tb_c 5)[139]? = some (Cond.instanceMethod yX11_closed)))) rfl), (ab_T_in (tb_c_in 5 _ (List.mem_of_getElem? (i := 140) (rfl : (tb_c 5)[140]? = some (Cond.selects RX11 yX11_closed yX11_closed)))) rfl), _, rfl, rfl⟩
def k_X11_commonDivisor : List (Nat × Instr × Nat) :=
  [(0, .iload_n 0, 1), (1, .istore_n 2, 1), (2, .iload_n 1, 1), (3, .istore_n 3, 1), (4, .iconst 0, 1), (5, .istore 4, 2), (7, .iload 4, 2), (9, .bipush 64, 2),
   (11, .if_icmp .ge 23, 3), (14, .iload_n 3, 1), (15, .ifCond .eq 19, 3), (18, .iload_n 2, 1), (19, .iload_n 3, 1), (20, .irem, 1), (21, .istore 5, 2), (23, .iload_n 3, 1),
   (24, .istore_n 2, 1), (25, .iload 5, 2), (27, .istore_n 3, 1), (28, .iinc 4 1, 3), (31, .goto (-24), 3), (34, .iload_n 2, 1), (35, .ireturn, 1)]
def M_X11_commonDivisor : ab_MD := (K_X11, yX11_commonDivisor, cX11_commonDivisor, 6, (some .int), false, k_X11_commonDivisor)
theorem o_X11_commonDivisor : ab_OK M_X11_commonDivisor 2 := tb_ok OC_X11 (by decide +kernel) (by decide +kernel) (ab_T_in (tb_c_in 6 _ (List.mem_of_getElem? (i := 18) (rfl : (tb_c 6)[18]? = some (Cond.code yX11_commonDivisor cX11_commonDivisor 6 (some .int))))) rfl) IN_X11
theorem s_X11_commonDivisor : Cond.static M_X11_commonDivisor.2.1 ∈ ab_T := (ab_T_in (tb_c_in 6 _ (List.mem_of_getElem? (i := 17) (rfl : (tb_c 6)[17]? = some (Cond.static yX11_commonDivisor)))) rfl)
def k_X11_count : List (Nat × Instr × Nat) :=
  [(0, .iload_n 1, 1), (1, .tableswitch 162 0 11 #[63, 71, 79, 87, 95, 106, 117, 125, 133, 141, 149, 157], 63), (64, .aload_n 0, 1), (65, .getfield 21, 3), (68, .getfield 311, 3), (71, .ireturn, 1), (72, .aload_n 0, 1), (73, .getfield 21, 3),
   (76, .getfield 405, 3), (79, .ireturn, 1), (80, .aload_n 0, 1), (81, .getfield 21, 3), (84, .invokevirtual 408, 3), (87, .ireturn, 1), (88, .aload_n 0, 1), (89, .getfield 78, 3),
   (92, .getfield 189, 3), (95, .ireturn, 1), (96, .aload_n 0, 1), (97, .getfield 78, 3), (100, .getfield 259, 3), (103, .invokestatic 247, 3), (106, .ireturn, 1), (107, .aload_n 0, 1),
   (108, .getfield 78, 3), (111, .getfield 314, 3), (114, .invokestatic 247, 3), (117, .ireturn, 1), (118, .aload_n 0, 1), (119, .getfield 78, 3), (122, .invokevirtual 399, 3), (125, .ireturn, 1),
   (126, .aload_n 0, 1), (127, .getfield 78, 3), (130, .invokevirtual 252, 3), (133, .ireturn, 1), (134, .aload_n 0, 1), (135, .getfield 78, 3), (138, .getfield 256, 3), (141, .ireturn, 1),
   (142, .aload_n 0, 1), (143, .getfield 71, 3), (146, .getfield 347, 3), (149, .ireturn, 1), (150, .aload_n 0, 1), (151, .getfield 71, 3), (154, .invokevirtual 411, 3), (157, .ireturn, 1),
   (158, .aload_n 0, 1), (159, .getfield 133, 3), (162, .ireturn, 1), (163, .iconst (-1), 1), (164, .ireturn, 1)]
def M_X11_count : ab_MD := (K_X11, yX11_count, cX11_count, 2, (some .int), false, k_X11_count)
theorem o_X11_count : ab_OK M_X11_count 1 := tb_ok OC_X11 (by decide +kernel) (by decide +kernel) (ab_T_in (tb_c_in 6 _ (List.mem_of_getElem? (i := 127) (rfl : (tb_c 6)[127]? = some (Cond.code yX11_count cX11_count 2 (some .int))))) rfl) IN_X11
theorem v_X11_count : ab_kV M_X11_count 11 := ⟨(ab_T_in (tb_c_in 6 _ (List.mem_of_getElem? (i := 125) (rfl : (tb_c 6)[125]? = some (Cond.instanceMethod yX11_count)))) rfl), (ab_T_in (tb_c_in 6 _ (List.mem_of_getElem? (i := 126) (rfl : (tb_c 6)[126]? = some (Cond.selects RX11 yX11_count yX11_count)))) rfl), _, rfl, rfl⟩
def k_X11_deal : List (Nat × Instr × Nat) :=
  [(0, .aload_n 0, 1), (1, .invokevirtual 264, 3), (4, .aload_n 0, 1), (5, .getfield 48, 3), (8, .aload_n 0, 1), (9, .getfield 78, 3), (12, .invokevirtual 317, 3), (15, .ireturn, 1)]
def M_X11_deal : ab_MD := (K_X11, yX11_deal, cX11_deal, 1, (some .int), false, k_X11_deal)
theorem o_X11_deal : ab_OK M_X11_deal 0 := tb_ok OC_X11 (by decide +kernel) (by decide +kernel) (ab_T_in (tb_c_in 5 _ (List.mem_of_getElem? (i := 211) (rfl : (tb_c 5)[211]? = some (Cond.code yX11_deal cX11_deal 1 (some .int))))) rfl) IN_X11
theorem v_X11_deal : ab_kV M_X11_deal 11 := ⟨(ab_T_in (tb_c_in 5 _ (List.mem_of_getElem? (i := 209) (rfl : (tb_c 5)[209]? = some (Cond.instanceMethod yX11_deal)))) rfl), (ab_T_in (tb_c_in 5 _ (List.mem_of_getElem? (i := 210) (rfl : (tb_c 5)[210]? = some (Cond.selects RX11 yX11_deal yX11_deal)))) rfl), _, rfl, rfl⟩
def k_X11_dearest : List (Nat × Instr × Nat) :=
  [(0, .aload_n 0, 1), (1, .iload_n 1, 1), (2, .invokevirtual 174, 3), (5, .ifCond .eq 12, 3), (8, .iload_n 2, 1), (9, .ifCond .lt 8, 3), (12, .iload_n 2, 1), (13, .iconst 2, 1),
   (14, .if_icmp .le 5, 3), (17, .iconst (-1), 1), (18, .ireturn, 1), (19, .aload_n 0, 1), (20, .getfield 48, 3), (23, .aload_n 0, 1), (24, .getfield 78, 3), (27, .iload_n 1, 1),
   (28, .invokevirtual 274, 3), (31, .ifCond .ne 6, 3), (34, .bipush (-2), 2), (36, .ireturn, 1), (37, .iload_n 2, 1), (38, .lookupswitch 42 #[(0, 26), (1, 34)], 26), (64, .aload_n 0, 1), (65, .getfield 48, 3),
   (68, .getfield 278, 3), (71, .ireturn, 1), (72, .aload_n 0, 1), (73, .getfield 48, 3), (76, .getfield 281, 3), (79, .ireturn, 1), (80, .aload_n 0, 1), (81, .getfield 48, 3),
   (84, .getfield 284, 3), (87, .ireturn, 1)]
def M_X11_dearest : ab_MD := (K_X11, yX11_dearest, cX11_dearest, 3, (some .int), false, k_X11_dearest)
theorem o_X11_dearest : ab_OK M_X11_dearest 2 := tb_ok OC_X11 (by decide +kernel) (by decide +kernel) (ab_T_in (tb_c_in 5 _ (List.mem_of_getElem? (i := 136) (rfl : (tb_c 5)[136]? = some (Cond.code yX11_dearest cX11_dearest 3 (some .int))))) rfl) IN_X11
theorem v_X11_dearest : ab_kV M_X11_dearest 11 := ⟨(ab_T_in (tb_c_in 5 _ (List.mem_of_getElem? (i := 134) (rfl : (tb_c 5)[134]? = some (Cond.instanceMethod yX11_dearest)))) rfl), (ab_T_in (tb_c_in 5 _ (List.mem_of_getElem? (i := 135) (rfl : (tb_c 5)[135]? = some (Cond.selects RX11 yX11_dearest yX11_dearest)))) rfl), _, rfl, rfl⟩
def k_X11_fault : List (Nat × Instr × Nat) :=
  [(0, .iload_n 1, 1), (1, .lookupswitch 37 #[(0, 27), (1, 32)], 27), (28, .aload_n 0, 1), (29, .getfield 107, 3), (32, .ireturn, 1), (33, .aload_n 0, 1), (34, .getfield 92, 3), (37, .ireturn, 1),
   (38, .iconst (-1), 1), (39, .ireturn, 1)]
def M_X11_fault : ab_MD := (K_X11, yX11_fault, cX11_fault, 2, (some .int), false, k_X11_fault)
theorem o_X11_fault : ab_OK M_X11_fault 1 := tb_ok OC_X11 (by decide +kernel) (by decide +kernel) (ab_T_in (tb_c_in 4 _ (List.mem_of_getElem? (i := 98) (rfl : (tb_c 4)[98]? = some (Cond.code yX11_fault cX11_fault 2 (some .int))))) rfl) IN_X11
theorem v_X11_fault : ab_kV M_X11_fault 11 := ⟨(ab_T_in (tb_c_in 4 _ (List.mem_of_getElem? (i := 96) (rfl : (tb_c 4)[96]? = some (Cond.instanceMethod yX11_fault)))) rfl), (ab_T_in (tb_c_in 4 _ (List.mem_of_getElem? (i := 97) (rfl : (tb_c 4)[97]? = some (Cond.selects RX11 yX11_fault yX11_fault)))) rfl), _, rfl, rfl⟩
def k_X11_feed : List (Nat × Instr × Nat) :=
  [(0, .aload_n 0, 1), (1, .getfield 14, 3), (4, .getfield 96, 3), (7, .bipush 20, 2), (9, .iadd, 1), (10, .sipush 700, 3), (13, .if_icmp .le 5, 3), (16, .iconst (-1), 1),
   (17, .ireturn, 1), (18, .aload_n 0, 1), (19, .getfield 14, 3), (22, .iload_n 1, 1), (23, .invokevirtual 99, 3), (26, .aload_n 0, 1), (27, .getfield 14, 3), (30, .iload_n 2, 1),
   (31, .invokevirtual 99, 3), (34, .aload_n 0, 1), (35, .getfield 14, 3), (38, .iload_n 3, 1), (39, .invokevirtual 99, 3), (42, .aload_n 0, 1), (43, .getfield 14, 3), (46, .iload 4, 2),
   (48, .invokevirtual 99, 3), (51, .aload_n 0, 1), (52, .getfield 14, 3), (55, .iload 5, 2), (57, .invokevirtual 99, 3), (60, .aload_n 0, 1), (61, .getfield 14, 3), (64, .getfield 96, 3),
   (67, .ireturn, 1)]
def M_X11_feed : ab_MD := (K_X11, yX11_feed, cX11_feed, 6, (some .int), false, k_X11_feed)
theorem o_X11_feed : ab_OK M_X11_feed 5 := tb_ok OC_X11 (by decide +kernel) (by decide +kernel) (ab_T_in (tb_c_in 3 _ (List.mem_of_getElem? (i := 114) (rfl : (tb_c 3)[114]? = some (Cond.code yX11_feed cX11_feed 6 (some .int))))) rfl) IN_X11
theorem v_X11_feed : ab_kV M_X11_feed 11 := ⟨(ab_T_in (tb_c_in 3 _ (List.mem_of_getElem? (i := 112) (rfl : (tb_c 3)[112]? = some (Cond.instanceMethod yX11_feed)))) rfl), (ab_T_in (tb_c_in 3 _ (List.mem_of_getElem? (i := 113) (rfl : (tb_c 3)[113]? = some (Cond.selects RX11 yX11_feed yX11_feed)))) rfl), _, rfl, rfl⟩
def k_X11_fewest : List (Nat × Instr × Nat) :=
  [(0, .aload_n 0, 1), (1, .iload_n 1, 1), (2, .invokevirtual 174, 3), (5, .ifCond .ne 5, 3), (8, .iconst (-1), 1), (9, .ireturn, 1), (10, .aload_n 0, 1), (11, .invokevirtual 264, 3),
   (14, .aload_n 0, 1), (15, .getfield 39, 3), (18, .aload_n 0, 1), (19, .getfield 78, 3), (22, .getfield 180, 3), (25, .iload_n 1, 1), (26, .iaload, 1), (27, .invokevirtual 290, 3),
   (30, .ireturn, 1)]
def M_X11_fewest : ab_MD := (K_X11, yX11_fewest, cX11_fewest, 2, (some .int), false, k_X11_fewest)
theorem o_X11_fewest : ab_OK M_X11_fewest 1 := tb_ok OC_X11 (by decide +kernel) (by decide +kernel) (ab_T_in (tb_c_in 5 _ (List.mem_of_getElem? (i := 149) (rfl : (tb_c 5)[149]? = some (Cond.code yX11_fewest cX11_fewest 2 (some .int))))) rfl) IN_X11
theorem v_X11_fewest : ab_kV M_X11_fewest 11 := ⟨(ab_T_in (tb_c_in 5 _ (List.mem_of_getElem? (i := 147) (rfl : (tb_c 5)[147]? = some (Cond.instanceMethod yX11_fewest)))) rfl), (ab_T_in (tb_c_in 5 _ (List.mem_of_getElem? (i := 148) (rfl : (tb_c 5)[148]? = some (Cond.selects RX11 yX11_fewest yX11_fewest)))) rfl), _, rfl, rfl⟩
def k_X11_firstRow : List (Nat × Instr × Nat) :=
  [(0, .aload_n 0, 1), (1, .iload_n 1, 1), (2, .invokevirtual 174, 3), (5, .ifCond .eq 13, 3), (8, .iload_n 2, 1), (9, .ifCond .lt 9, 3), (12, .iload_n 2, 1), (13, .bipush 9, 2),
   (15, .if_icmp .lt 5, 3), (18, .iconst (-1), 1), (19, .ireturn, 1), (20, .aload_n 0, 1), (21, .invokevirtual 264, 3), (24, .aload_n 0, 1), (25, .getfield 39, 3), (28, .aload_n 0, 1),
   (29, .getfield 78, 3), (32, .getfield 180, 3), (35, .iload_n 1, 1), (36, .iaload, 1), (37, .iload_n 2, 1), (38, .invokevirtual 270, 3), (41, .ireturn, 1)]
def M_X11_firstRow : ab_MD := (K_X11, yX11_firstRow, cX11_firstRow, 3, (some .int), false, k_X11_firstRow)
theorem o_X11_firstRow : ab_OK M_X11_firstRow 2 := tb_ok OC_X11 (by decide +kernel) (by decide +kernel) (ab_T_in (tb_c_in 5 _ (List.mem_of_getElem? (i := 114) (rfl : (tb_c 5)[114]? = some (Cond.code yX11_firstRow cX11_firstRow 3 (some .int))))) rfl) IN_X11
theorem v_X11_firstRow : ab_kV M_X11_firstRow 11 := ⟨(ab_T_in (tb_c_in 5 _ (List.mem_of_getElem? (i := 112) (rfl : (tb_c 5)[112]? = some (Cond.instanceMethod yX11_firstRow)))) rfl), (ab_T_in (tb_c_in 5 _ (List.mem_of_getElem? (i := 113) (rfl : (tb_c 5)[113]? = some (Cond.selects RX11 yX11_firstRow yX11_firstRow)))) rfl), _, rfl, rfl⟩
def k_X11_game : List (Nat × Instr × Nat) :=
  [(0, .aload_n 0, 1), (1, .iload_n 1, 1), (2, .invokevirtual 174, 3), (5, .ifCond .eq 25, 3), (8, .aload_n 0, 1), (9, .iload_n 2, 1), (10, .invokevirtual 174, 3), (13, .ifCond .eq 17, 3),
   (16, .iload_n 1, 1), (17, .iload_n 2, 1), (18, .if_icmp .eq 12, 3), (21, .iload_n 3, 1), (22, .ifCond .lt 8, 3), (25, .iload_n 3, 1), (26, .iconst 2, 1), (27, .if_icmp .le 5, 3),
   (30, .iconst (-1), 1), (31, .ireturn, 1), (32, .aload_n 0, 1), (33, .invokevirtual 264, 3), (36, .aload_n 0, 1), (37, .getfield 64, 3), (40, .aload_n 0, 1), (41, .getfield 78, 3),
   (44, .getfield 180, 3), (47, .iload_n 1, 1), (48, .iaload, 1), (49, .aload_n 0, 1), (50, .getfield 78, 3), (53, .getfield 180, 3), (56, .iload_n 2, 1), (57, .iaload, 1),
   (58, .invokevirtual 321, 3), (61, .iload_n 3, 1), (62, .lookupswitch 53 #[(0, 26), (1, 45)], 26), (88, .aload_n 0, 1), (89, .getfield 64, 3), (92, .getfield 324, 3), (95, .iconst 2, 1), (96, .irem, 1),
   (97, .iconst 1, 1), (98, .if_icmp .ne 7, 3), (101, .iconst 0, 1), (102, .goto 4, 3), (105, .iconst 1, 1), (106, .ireturn, 1), (107, .aload_n 0, 1), (108, .getfield 64, 3),
   (111, .getfield 324, 3), (114, .ireturn, 1), (115, .aload_n 0, 1), (116, .getfield 64, 3), (119, .getfield 327, 3), (122, .ireturn, 1)]
def M_X11_game : ab_MD := (K_X11, yX11_game, cX11_game, 4, (some .int), false, k_X11_game)
theorem o_X11_game : ab_OK M_X11_game 3 := tb_ok OC_X11 (by decide +kernel) (by decide +kernel) (ab_T_in (tb_c_in 5 _ (List.mem_of_getElem? (i := 227) (rfl : (tb_c 5)[227]? = some (Cond.code yX11_game cX11_game 4 (some .int))))) rfl) IN_X11
theorem v_X11_game : ab_kV M_X11_game 11 := ⟨(ab_T_in (tb_c_in 5 _ (List.mem_of_getElem? (i := 225) (rfl : (tb_c 5)[225]? = some (Cond.instanceMethod yX11_game)))) rfl), (ab_T_in (tb_c_in 5 _ (List.mem_of_getElem? (i := 226) (rfl : (tb_c 5)[226]? = some (Cond.selects RX11 yX11_game yX11_game)))) rfl), _, rfl, rfl⟩
def k_X11_give : List (Nat × Instr × Nat) :=
  [(0, .aload_n 0, 1), (1, .iload_n 1, 1), (2, .invokevirtual 145, 3), (5, .ifCond .eq 16, 3), (8, .iload_n 2, 1), (9, .iconst (-1), 1), (10, .if_icmp .eq 13, 3), (13, .aload_n 0, 1),
   (14, .iload_n 2, 1), (15, .invokevirtual 174, 3), (18, .ifCond .ne 5, 3), (21, .iconst 0, 1), (22, .ireturn, 1), (23, .aload_n 0, 1), (24, .getfield 78, 3), (27, .iload_n 1, 1),
   (28, .invokevirtual 166, 3), (31, .istore_n 3, 1), (32, .iload_n 2, 1), (33, .iconst (-1), 1), (34, .if_icmp .ne 8, 3), (37, .bipush (-2), 2), (39, .goto 4, 3), (42, .iload_n 2, 1),
   (43, .istore 4, 2), (45, .iload_n 3, 1), (46, .bipush (-3), 2), (48, .if_icmp .eq 9, 3), (51, .iload_n 3, 1), (52, .iload 4, 2), (54, .if_icmp .ne 5, 3), (57, .iconst 0, 1),
   (58, .ireturn, 1), (59, .iload 4, 2), (61, .bipush (-2), 2), (63, .if_icmp .eq 22, 3), (66, .aload_n 0, 1), (67, .getfield 48, 3), (70, .aload_n 0, 1), (71, .getfield 78, 3),
   (74, .iload_n 1, 1), (75, .iload 4, 2), (77, .invokevirtual 209, 3), (80, .ifCond .ne 5, 3), (83, .iconst 0, 1), (84, .ireturn, 1), (85, .aload_n 0, 1), (86, .invokevirtual 213, 3),
   (89, .aload_n 0, 1), (90, .getfield 78, 3), (93, .iload_n 1, 1), (94, .iload_n 3, 1), (95, .iload 4, 2), (97, .invokevirtual 216, 3), (100, .iconst 1, 1), (101, .ireturn, 1)]
def M_X11_give : ab_MD := (K_X11, yX11_give, cX11_give, 5, (some .boolean), false, k_X11_give)
theorem o_X11_give : ab_OK M_X11_give 2 := tb_ok OC_X11 (by decide +kernel) (by decide +kernel) (ab_T_in (tb_c_in 4 _ (List.mem_of_getElem? (i := 187) (rfl : (tb_c 4)[187]? = some (Cond.code yX11_give cX11_give 5 (some .boolean))))) rfl) IN_X11
theorem v_X11_give : ab_kV M_X11_give 11 := ⟨(ab_T_in (tb_c_in 4 _ (List.mem_of_getElem? (i := 185) (rfl : (tb_c 4)[185]? = some (Cond.instanceMethod yX11_give)))) rfl), (ab_T_in (tb_c_in 4 _ (List.mem_of_getElem? (i := 186) (rfl : (tb_c 4)[186]? = some (Cond.selects RX11 yX11_give yX11_give)))) rfl), _, rfl, rfl⟩
def k_X11_go : List (Nat × Instr × Nat) :=
  [(0, .iload_n 1, 1), (1, .invokestatic 237, 3), (4, .ifCond .eq 18, 3), (7, .aload_n 0, 1), (8, .getfield 78, 3), (11, .getfield 189, 3), (14, .iload_n 1, 1), (15, .iadd, 1),
   (16, .sipush 9000, 3), (19, .if_icmp .le 5, 3), (22, .iconst (-1), 1), (23, .ireturn, 1), (24, .iload_n 1, 1), (25, .ifCond .le 8, 3), (28, .aload_n 0, 1), (29, .iconst 0, 1),
   (30, .putfield 133, 3), (33, .aload_n 0, 1), (34, .getfield 57, 3), (37, .invokevirtual 227, 3), (40, .aload_n 0, 1), (41, .getfield 57, 3), (44, .iconst 1, 1), (45, .putfield 240, 3),
   (48, .aload_n 0, 1), (49, .getfield 57, 3), (52, .aload_n 0, 1), (53, .getfield 78, 3), (56, .iload_n 1, 1), (57, .invokevirtual 243, 3), (60, .aload_n 0, 1), (61, .getfield 57, 3),
   (64, .invokevirtual 227, 3), (67, .aload_n 0, 1), (68, .getfield 78, 3), (71, .getfield 189, 3), (74, .ireturn, 1)]
def M_X11_go : ab_MD := (K_X11, yX11_go, cX11_go, 2, (some .int), false, k_X11_go)
theorem o_X11_go : ab_OK M_X11_go 1 := tb_ok OC_X11 (by decide +kernel) (by decide +kernel) (ab_T_in (tb_c_in 5 _ (List.mem_of_getElem? (i := 41) (rfl : (tb_c 5)[41]? = some (Cond.code yX11_go cX11_go 2 (some .int))))) rfl) IN_X11
theorem v_X11_go : ab_kV M_X11_go 11 := ⟨(ab_T_in (tb_c_in 5 _ (List.mem_of_getElem? (i := 39) (rfl : (tb_c 5)[39]? = some (Cond.instanceMethod yX11_go)))) rfl), (ab_T_in (tb_c_in 5 _ (List.mem_of_getElem? (i := 40) (rfl : (tb_c 5)[40]? = some (Cond.selects RX11 yX11_go yX11_go)))) rfl), _, rfl, rfl⟩
def k_X11_heir : List (Nat × Instr × Nat) :=
  [(0, .aload_n 0, 1), (1, .iload_n 1, 1), (2, .invokevirtual 174, 3), (5, .ifCond .ne 5, 3), (8, .iconst (-1), 1), (9, .ireturn, 1), (10, .iload_n 2, 1), (11, .tableswitch 55 0 2 #[25, 35, 45], 25),
   (36, .aload_n 0, 1), (37, .getfield 78, 3), (40, .getfield 177, 3), (43, .iload_n 1, 1), (44, .iaload, 1), (45, .ireturn, 1), (46, .aload_n 0, 1), (47, .getfield 78, 3),
   (50, .getfield 180, 3), (53, .iload_n 1, 1), (54, .iaload, 1), (55, .ireturn, 1), (56, .aload_n 0, 1), (57, .getfield 78, 3), (60, .getfield 183, 3), (63, .iload_n 1, 1),
   (64, .iaload, 1), (65, .ireturn, 1), (66, .iconst (-1), 1), (67, .ireturn, 1)]
def M_X11_heir : ab_MD := (K_X11, yX11_heir, cX11_heir, 3, (some .int), false, k_X11_heir)
theorem o_X11_heir : ab_OK M_X11_heir 2 := tb_ok OC_X11 (by decide +kernel) (by decide +kernel) (ab_T_in (tb_c_in 4 _ (List.mem_of_getElem? (i := 108) (rfl : (tb_c 4)[108]? = some (Cond.code yX11_heir cX11_heir 3 (some .int))))) rfl) IN_X11
theorem v_X11_heir : ab_kV M_X11_heir 11 := ⟨(ab_T_in (tb_c_in 4 _ (List.mem_of_getElem? (i := 106) (rfl : (tb_c 4)[106]? = some (Cond.instanceMethod yX11_heir)))) rfl), (ab_T_in (tb_c_in 4 _ (List.mem_of_getElem? (i := 107) (rfl : (tb_c 4)[107]? = some (Cond.selects RX11 yX11_heir yX11_heir)))) rfl), _, rfl, rfl⟩
def k_X11_init_0 : List (Nat × Instr × Nat) :=
  [(0, .aload_n 0, 1), (1, .invokespecial 5, 3), (4, .aload_n 0, 1), (5, .new 11, 3), (8, .dup, 1), (9, .invokespecial 13, 3), (12, .putfield 14, 3), (15, .aload_n 0, 1),
   (16, .new 18, 3), (19, .dup, 1), (20, .invokespecial 20, 3), (23, .putfield 21, 3), (26, .aload_n 0, 1), (27, .new 25, 3), (30, .dup, 1), (31, .aload_n 0, 1),
   (32, .getfield 14, 3), (35, .invokespecial 27, 3), (38, .putfield 30, 3), (41, .aload_n 0, 1), (42, .new 34, 3), (45, .dup, 1), (46, .aload_n 0, 1), (47, .getfield 21, 3),
   (50, .invokespecial 36, 3), (53, .putfield 39, 3), (56, .aload_n 0, 1), (57, .new 43, 3), (60, .dup, 1), (61, .aload_n 0, 1), (62, .getfield 21, 3), (65, .aload_n 0, 1),
   (66, .getfield 39, 3), (69, .invokespecial 45, 3), (72, .putfield 48, 3), (75, .aload_n 0, 1), (76, .new 52, 3), (79, .dup, 1), (80, .aload_n 0, 1), (81, .getfield 21, 3),
   (84, .aload_n 0, 1), (85, .getfield 48, 3), (88, .invokespecial 54, 3), (91, .putfield 57, 3), (94, .aload_n 0, 1), (95, .new 61, 3), (98, .dup, 1), (99, .aload_n 0, 1)]
def k_X11_init_1 : List (Nat × Instr × Nat) :=
  [(100, .getfield 21, 3), (103, .aload_n 0, 1), (104, .getfield 39, 3), (107, .invokespecial 63, 3), (110, .putfield 64, 3), (113, .aload_n 0, 1), (114, .new 68, 3), (117, .dup, 1),
   (118, .invokespecial 70, 3), (121, .putfield 71, 3), (124, .aload_n 0, 1), (125, .new 75, 3), (128, .dup, 1), (129, .invokespecial 77, 3), (132, .putfield 78, 3), (135, .aload_n 0, 1),
   (136, .new 75, 3), (139, .dup, 1), (140, .invokespecial 77, 3), (143, .putfield 82, 3), (146, .aload_n 0, 1), (147, .new 75, 3), (150, .dup, 1), (151, .invokespecial 77, 3),
   (154, .putfield 85, 3), (157, .aload_n 0, 1), (158, .bipush 20, 2), (160, .anewarray 75, 3), (163, .putfield 88, 3), (166, .iconst 0, 1), (167, .istore_n 1, 1), (168, .iload_n 1, 1),
   (169, .bipush 20, 2), (171, .if_icmp .ge 22, 3), (174, .aload_n 0, 1), (175, .getfield 88, 3), (178, .iload_n 1, 1), (179, .new 75, 3), (182, .dup, 1), (183, .invokespecial 77, 3),
   (186, .aastore, 1), (187, .iinc 1 1, 3), (190, .goto (-22), 3), (193, .aload_n 0, 1), (194, .iconst (-1), 1), (195, .putfield 92, 3), (198, .return_, 1)]
def k_X11_init : List (Nat × Instr × Nat) := k_X11_init_0 ++ (k_X11_init_1)
theorem r_X11_init_0 : k_X11_init_0.all (tb_rr cX11_init) = true := by decide +kernel
theorem r_X11_init_1 : k_X11_init_1.all (tb_rr cX11_init) = true := by decide +kernel
def M_X11_init : ab_MD := (K_X11, yX11_init, cX11_init, 2, none, true, k_X11_init)
theorem o_X11_init : ab_OK M_X11_init 0 := tb_ok OC_X11 (by decide +kernel) (tb_app r_X11_init_0 r_X11_init_1) (ab_T_in (tb_c_in 1 _ (List.mem_of_getElem? (i := 33) (rfl : (tb_c 1)[33]? = some (Cond.code yX11_init cX11_init 2 none)))) rfl) IN_X11
theorem i_X11_init : Cond.instanceMethod M_X11_init.2.1 ∈ ab_T := (ab_T_in (tb_c_in 1 _ (List.mem_of_getElem? (i := 32) (rfl : (tb_c 1)[32]? = some (Cond.instanceMethod yX11_init)))) rfl)
def k_X11_isEnd : List (Nat × Instr × Nat) :=
  [(0, .iload_n 0, 1), (1, .ifCond .lt 13, 3), (4, .iload_n 0, 1), (5, .bipush 7, 2), (7, .if_icmp .ge 7, 3), (10, .iconst 1, 1), (11, .goto 4, 3), (14, .iconst 0, 1),
   (15, .ireturn, 1)]
def M_X11_isEnd : ab_MD := (K_X11, yX11_isEnd, cX11_isEnd, 1, (some .boolean), false, k_X11_isEnd)
theorem o_X11_isEnd : ab_OK M_X11_isEnd 1 := tb_ok OC_X11 (by decide +kernel) (by decide +kernel) (ab_T_in (tb_c_in 4 _ (List.mem_of_getElem? (i := 119) (rfl : (tb_c 4)[119]? = some (Cond.code yX11_isEnd cX11_isEnd 1 (some .boolean))))) rfl) IN_X11
theorem s_X11_isEnd : Cond.static M_X11_isEnd.2.1 ∈ ab_T := (ab_T_in (tb_c_in 4 _ (List.mem_of_getElem? (i := 118) (rfl : (tb_c 4)[118]? = some (Cond.static yX11_isEnd)))) rfl)
def k_X11_isGold : List (Nat × Instr × Nat) :=
  [(0, .iload_n 0, 1), (1, .ifCond .lt 14, 3), (4, .iload_n 0, 1), (5, .ldc_w 414, 3), (8, .if_icmp .gt 7, 3), (11, .iconst 1, 1), (12, .goto 4, 3), (15, .iconst 0, 1),
   (16, .ireturn, 1)]
def M_X11_isGold : ab_MD := (K_X11, yX11_isGold, cX11_isGold, 1, (some .boolean), false, k_X11_isGold)
theorem o_X11_isGold : ab_OK M_X11_isGold 1 := tb_ok OC_X11 (by decide +kernel) (by decide +kernel) (ab_T_in (tb_c_in 6 _ (List.mem_of_getElem? (i := 33) (rfl : (tb_c 6)[33]? = some (Cond.code yX11_isGold cX11_isGold 1 (some .boolean))))) rfl) IN_X11
theorem s_X11_isGold : Cond.static M_X11_isGold.2.1 ∈ ab_T := (ab_T_in (tb_c_in 6 _ (List.mem_of_getElem? (i := 32) (rfl : (tb_c 6)[32]? = some (Cond.static yX11_isGold)))) rfl)
def k_X11_isHeir : List (Nat × Instr × Nat) :=
  [(0, .iload_n 1, 1), (1, .ifCond .lt 18, 3), (4, .iload_n 1, 1), (5, .aload_n 0, 1), (6, .getfield 21, 3), (9, .getfield 405, 3), (12, .if_icmp .ge 7, 3), (15, .iconst 1, 1),
   (16, .goto 4, 3), (19, .iconst 0, 1), (20, .ireturn, 1)]
def M_X11_isHeir : ab_MD := (K_X11, yX11_isHeir, cX11_isHeir, 2, (some .boolean), false, k_X11_isHeir)
theorem o_X11_isHeir : ab_OK M_X11_isHeir 1 := tb_ok OC_X11 (by decide +kernel) (by decide +kernel) (ab_T_in (tb_c_in 4 _ (List.mem_of_getElem? (i := 112) (rfl : (tb_c 4)[112]? = some (Cond.code yX11_isHeir cX11_isHeir 2 (some .boolean))))) rfl) IN_X11
theorem v_X11_isHeir : ab_kV M_X11_isHeir 11 := ⟨(ab_T_in (tb_c_in 4 _ (List.mem_of_getElem? (i := 111) (rfl : (tb_c 4)[111]? = some (Cond.instanceMethod yX11_isHeir)))) rfl), (ab_T_in (tb_c_in 0 _ (List.mem_of_getElem? (i := 25) (rfl : (tb_c 0)[25]? = some (Cond.selects RX11 yX11_isHeir yX11_isHeir)))) rfl), _, rfl, rfl⟩
def k_X11_isPiece : List (Nat × Instr × Nat) :=
  [(0, .iload_n 1, 1), (1, .ifCond .lt 18, 3), (4, .iload_n 1, 1), (5, .aload_n 0, 1), (6, .getfield 21, 3), (9, .getfield 311, 3), (12, .if_icmp .ge 7, 3), (15, .iconst 1, 1),
   (16, .goto 4, 3), (19, .iconst 0, 1), (20, .ireturn, 1)]
def M_X11_isPiece : ab_MD := (K_X11, yX11_isPiece, cX11_isPiece, 2, (some .boolean), false, k_X11_isPiece)
theorem o_X11_isPiece : ab_OK M_X11_isPiece 1 := tb_ok OC_X11 (by decide +kernel) (by decide +kernel) (ab_T_in (tb_c_in 4 _ (List.mem_of_getElem? (i := 160) (rfl : (tb_c 4)[160]? = some (Cond.code yX11_isPiece cX11_isPiece 2 (some .boolean))))) rfl) IN_X11
theorem v_X11_isPiece : ab_kV M_X11_isPiece 11 := ⟨(ab_T_in (tb_c_in 4 _ (List.mem_of_getElem? (i := 159) (rfl : (tb_c 4)[159]? = some (Cond.instanceMethod yX11_isPiece)))) rfl), (ab_T_in (tb_c_in 0 _ (List.mem_of_getElem? (i := 26) (rfl : (tb_c 0)[26]? = some (Cond.selects RX11 yX11_isPiece yX11_isPiece)))) rfl), _, rfl, rfl⟩
def k_X11_isSpan : List (Nat × Instr × Nat) :=
  [(0, .iload_n 0, 1), (1, .ifCond .lt 13, 3), (4, .iload_n 0, 1), (5, .bipush 99, 2), (7, .if_icmp .gt 7, 3), (10, .iconst 1, 1), (11, .goto 4, 3), (14, .iconst 0, 1),
   (15, .ireturn, 1)]
def M_X11_isSpan : ab_MD := (K_X11, yX11_isSpan, cX11_isSpan, 1, (some .boolean), false, k_X11_isSpan)
theorem o_X11_isSpan : ab_OK M_X11_isSpan 1 := tb_ok OC_X11 (by decide +kernel) (by decide +kernel) (ab_T_in (tb_c_in 5 _ (List.mem_of_getElem? (i := 44) (rfl : (tb_c 5)[44]? = some (Cond.code yX11_isSpan cX11_isSpan 1 (some .boolean))))) rfl) IN_X11
theorem s_X11_isSpan : Cond.static M_X11_isSpan.2.1 ∈ ab_T := (ab_T_in (tb_c_in 5 _ (List.mem_of_getElem? (i := 43) (rfl : (tb_c 5)[43]? = some (Cond.static yX11_isSpan)))) rfl)
def k_X11_joinAsNow : List (Nat × Instr × Nat) :=
  [(0, .aload_n 0, 1), (1, .getfield 39, 3), (4, .aload_n 0, 1), (5, .getfield 48, 3), (8, .aload_n 0, 1), (9, .getfield 78, 3), (12, .getfield 189, 3), (15, .invokevirtual 192, 3),
   (18, .invokevirtual 415, 3), (21, .return_, 1)]
def M_X11_joinAsNow : ab_MD := (K_X11, yX11_joinAsNow, cX11_joinAsNow, 1, none, false, k_X11_joinAsNow)
theorem o_X11_joinAsNow : ab_OK M_X11_joinAsNow 0 := tb_ok OC_X11 (by decide +kernel) (by decide +kernel) (ab_T_in (tb_c_in 5 _ (List.mem_of_getElem? (i := 88) (rfl : (tb_c 5)[88]? = some (Cond.code yX11_joinAsNow cX11_joinAsNow 1 none)))) rfl) IN_X11
theorem v_X11_joinAsNow : ab_kV M_X11_joinAsNow 11 := ⟨(ab_T_in (tb_c_in 5 _ (List.mem_of_getElem? (i := 87) (rfl : (tb_c 5)[87]? = some (Cond.instanceMethod yX11_joinAsNow)))) rfl), (ab_T_in (tb_c_in 0 _ (List.mem_of_getElem? (i := 30) (rfl : (tb_c 0)[30]? = some (Cond.selects RX11 yX11_joinAsNow yX11_joinAsNow)))) rfl), _, rfl, rfl⟩
def k_X11_joins : List (Nat × Instr × Nat) :=
  [(0, .iload_n 1, 1), (1, .invokestatic 186, 3), (4, .ifCond .eq 10, 3), (7, .iload_n 2, 1), (8, .invokestatic 186, 3), (11, .ifCond .ne 5, 3), (14, .iconst (-1), 1), (15, .ireturn, 1),
   (16, .aload_n 0, 1), (17, .getfield 48, 3), (20, .aload_n 0, 1), (21, .getfield 78, 3), (24, .getfield 189, 3), (27, .invokevirtual 192, 3), (30, .iload_n 1, 1), (31, .bipush 8, 2),
   (33, .imul, 1), (34, .iload_n 2, 1), (35, .iadd, 1), (36, .lushr, 1), (37, .lconst 1, 1), (38, .land, 1), (39, .l2i, 1), (40, .ireturn, 1)]
def M_X11_joins : ab_MD := (K_X11, yX11_joins, cX11_joins, 3, (some .int), false, k_X11_joins)
theorem o_X11_joins : ab_OK M_X11_joins 2 := tb_ok OC_X11 (by decide +kernel) (by decide +kernel) (ab_T_in (tb_c_in 4 _ (List.mem_of_getElem? (i := 116) (rfl : (tb_c 4)[116]? = some (Cond.code yX11_joins cX11_joins 3 (some .int))))) rfl) IN_X11
theorem v_X11_joins : ab_kV M_X11_joins 11 := ⟨(ab_T_in (tb_c_in 4 _ (List.mem_of_getElem? (i := 114) (rfl : (tb_c 4)[114]? = some (Cond.instanceMethod yX11_joins)))) rfl), (ab_T_in (tb_c_in 4 _ (List.mem_of_getElem? (i := 115) (rfl : (tb_c 4)[115]? = some (Cond.selects RX11 yX11_joins yX11_joins)))) rfl), _, rfl, rfl⟩
def k_X11_keep : List (Nat × Instr × Nat) :=
  [(0, .aload_n 0, 1), (1, .getfield 85, 3), (4, .aload_n 0, 1), (5, .getfield 78, 3), (8, .invokevirtual 230, 3), (11, .aload_n 0, 1), (12, .iconst 1, 1), (13, .putfield 129, 3),
   (16, .aload_n 0, 1), (17, .getfield 78, 3), (20, .getfield 189, 3), (23, .ireturn, 1)]
def M_X11_keep : ab_MD := (K_X11, yX11_keep, cX11_keep, 1, (some .int), false, k_X11_keep)
theorem o_X11_keep : ab_OK M_X11_keep 0 := tb_ok OC_X11 (by decide +kernel) (by decide +kernel) (ab_T_in (tb_c_in 6 _ (List.mem_of_getElem? (i := 119) (rfl : (tb_c 6)[119]? = some (Cond.code yX11_keep cX11_keep 1 (some .int))))) rfl) IN_X11
theorem v_X11_keep : ab_kV M_X11_keep 11 := ⟨(ab_T_in (tb_c_in 6 _ (List.mem_of_getElem? (i := 117) (rfl : (tb_c 6)[117]? = some (Cond.instanceMethod yX11_keep)))) rfl), (ab_T_in (tb_c_in 6 _ (List.mem_of_getElem? (i := 118) (rfl : (tb_c 6)[118]? = some (Cond.selects RX11 yX11_keep yX11_keep)))) rfl), _, rfl, rfl⟩
def k_X11_known : List (Nat × Instr × Nat) :=
  [(0, .iload_n 1, 1), (1, .iconst (-1), 1), (2, .if_icmp .lt 14, 3), (5, .iload_n 1, 1), (6, .aload_n 0, 1), (7, .getfield 71, 3), (10, .getfield 347, 3), (13, .if_icmp .le 5, 3),
   (16, .iconst 0, 1), (17, .ireturn, 1), (18, .aload_n 0, 1), (19, .getfield 71, 3), (22, .iload_n 1, 1), (23, .putfield 350, 3), (26, .iconst 1, 1), (27, .ireturn, 1)]
def M_X11_known : ab_MD := (K_X11, yX11_known, cX11_known, 2, (some .boolean), false, k_X11_known)
theorem o_X11_known : ab_OK M_X11_known 1 := tb_ok OC_X11 (by decide +kernel) (by decide +kernel) (ab_T_in (tb_c_in 6 _ (List.mem_of_getElem? (i := 42) (rfl : (tb_c 6)[42]? = some (Cond.code yX11_known cX11_known 2 (some .boolean))))) rfl) IN_X11
theorem v_X11_known : ab_kV M_X11_known 11 := ⟨(ab_T_in (tb_c_in 6 _ (List.mem_of_getElem? (i := 40) (rfl : (tb_c 6)[40]? = some (Cond.instanceMethod yX11_known)))) rfl), (ab_T_in (tb_c_in 6 _ (List.mem_of_getElem? (i := 41) (rfl : (tb_c 6)[41]? = some (Cond.selects RX11 yX11_known yX11_known)))) rfl), _, rfl, rfl⟩
def k_X11_lacks : List (Nat × Instr × Nat) :=
  [(0, .aload_n 0, 1), (1, .iload_n 1, 1), (2, .invokevirtual 174, 3), (5, .ifCond .ne 5, 3), (8, .iconst (-1), 1), (9, .ireturn, 1), (10, .aload_n 0, 1), (11, .invokevirtual 264, 3),
   (14, .aload_n 0, 1), (15, .getfield 78, 3), (18, .getfield 180, 3), (21, .iload_n 1, 1), (22, .iaload, 1), (23, .istore_n 2, 1), (24, .iconst 0, 1), (25, .istore_n 3, 1),
   (26, .iconst 0, 1), (27, .istore 4, 2), (29, .iload 4, 2), (31, .aload_n 0, 1), (32, .getfield 21, 3), (35, .getfield 311, 3), (38, .if_icmp .ge 66, 3), (41, .iconst 1, 1),
   (42, .iload 4, 2), (44, .ishl, 1), (45, .istore 5, 2), (47, .iload_n 2, 1), (48, .aload_n 0, 1), (49, .getfield 78, 3), (52, .getfield 314, 3), (55, .ior, 1),
   (56, .iload 5, 2), (58, .iand, 1), (59, .ifCond .ne 39, 3), (62, .aload_n 0, 1), (63, .getfield 39, 3), (66, .iload_n 2, 1), (67, .iload 5, 2), (69, .ior, 1),
   (70, .invokevirtual 299, 3), (73, .ifCond .eq 25, 3), (76, .aload_n 0, 1), (77, .getfield 48, 3), (80, .aload_n 0, 1), (81, .getfield 78, 3), (84, .iload 4, 2), (86, .iload_n 1, 1),
   (87, .invokevirtual 209, 3), (90, .ifCond .eq 8, 3), (93, .iload_n 3, 1), (94, .iload 5, 2), (96, .ior, 1), (97, .istore_n 3, 1), (98, .iinc 4 1, 3), (101, .goto (-72), 3),
   (104, .iload_n 3, 1), (105, .ireturn, 1)]
def M_X11_lacks : ab_MD := (K_X11, yX11_lacks, cX11_lacks, 6, (some .int), false, k_X11_lacks)
theorem o_X11_lacks : ab_OK M_X11_lacks 1 := tb_ok OC_X11 (by decide +kernel) (by decide +kernel) (ab_T_in (tb_c_in 5 _ (List.mem_of_getElem? (i := 203) (rfl : (tb_c 5)[203]? = some (Cond.code yX11_lacks cX11_lacks 6 (some .int))))) rfl) IN_X11
theorem v_X11_lacks : ab_kV M_X11_lacks 11 := ⟨(ab_T_in (tb_c_in 5 _ (List.mem_of_getElem? (i := 201) (rfl : (tb_c 5)[201]? = some (Cond.instanceMethod yX11_lacks)))) rfl), (ab_T_in (tb_c_in 5 _ (List.mem_of_getElem? (i := 202) (rfl : (tb_c 5)[202]? = some (Cond.selects RX11 yX11_lacks yX11_lacks)))) rfl), _, rfl, rfl⟩
def k_X11_law : List (Nat × Instr × Nat) :=
  [(0, .iload_n 1, 1), (1, .tableswitch 136 0 2 #[27, 64, 100], 27), (28, .iload_n 2, 1), (29, .invokestatic 186, 3), (32, .ifCond .eq 29, 3), (35, .iload_n 3, 1), (36, .invokestatic 186, 3), (39, .ifCond .eq 22, 3),
   (42, .aload_n 0, 1), (43, .getfield 48, 3), (46, .aload_n 0, 1), (47, .getfield 78, 3), (50, .getfield 189, 3), (53, .iload_n 2, 1), (54, .iload_n 3, 1), (55, .invokevirtual 196, 3),
   (58, .goto 6, 3), (61, .ldc2_w 200, 3), (64, .lreturn, 1), (65, .aload_n 0, 1), (66, .iload_n 2, 1), (67, .invokevirtual 145, 3), (70, .ifCond .eq 27, 3), (73, .aload_n 0, 1),
   (74, .iload_n 3, 1), (75, .invokevirtual 174, 3), (78, .ifCond .eq 19, 3), (81, .aload_n 0, 1), (82, .getfield 48, 3), (85, .aload_n 0, 1), (86, .getfield 78, 3), (89, .iload_n 2, 1),
   (90, .iload_n 3, 1), (91, .invokevirtual 202, 3), (94, .goto 6, 3), (97, .ldc2_w 200, 3), (100, .lreturn, 1), (101, .aload_n 0, 1), (102, .iload_n 2, 1), (103, .invokevirtual 145, 3),
   (106, .ifCond .eq 27, 3), (109, .aload_n 0, 1), (110, .iload_n 3, 1), (111, .invokevirtual 174, 3), (114, .ifCond .eq 19, 3), (117, .aload_n 0, 1), (118, .getfield 48, 3), (121, .aload_n 0, 1),
   (122, .getfield 78, 3), (125, .iload_n 2, 1), (126, .iload_n 3, 1), (127, .invokevirtual 206, 3), (130, .goto 6, 3), (133, .ldc2_w 200, 3), (136, .lreturn, 1), (137, .ldc2_w 200, 3),
   (140, .lreturn, 1)]
def M_X11_law : ab_MD := (K_X11, yX11_law, cX11_law, 4, (some .long), false, k_X11_law)
theorem o_X11_law : ab_OK M_X11_law 3 := tb_ok OC_X11 (by decide +kernel) (by decide +kernel) (ab_T_in (tb_c_in 4 _ (List.mem_of_getElem? (i := 151) (rfl : (tb_c 4)[151]? = some (Cond.code yX11_law cX11_law 4 (some .long))))) rfl) IN_X11
theorem v_X11_law : ab_kV M_X11_law 11 := ⟨(ab_T_in (tb_c_in 4 _ (List.mem_of_getElem? (i := 149) (rfl : (tb_c 4)[149]? = some (Cond.instanceMethod yX11_law)))) rfl), (ab_T_in (tb_c_in 4 _ (List.mem_of_getElem? (i := 150) (rfl : (tb_c 4)[150]? = some (Cond.selects RX11 yX11_law yX11_law)))) rfl), _, rfl, rfl⟩
def k_X11_lay : List (Nat × Instr × Nat) :=
  [(0, .aload_n 0, 1), (1, .iload_n 1, 1), (2, .invokevirtual 174, 3), (5, .ifCond .ne 5, 3), (8, .iconst (-1), 1), (9, .ireturn, 1), (10, .aload_n 0, 1), (11, .getfield 57, 3),
   (14, .invokevirtual 227, 3), (17, .aload_n 0, 1), (18, .getfield 82, 3), (21, .aload_n 0, 1), (22, .getfield 78, 3), (25, .invokevirtual 230, 3), (28, .aload_n 0, 1), (29, .getfield 57, 3),
   (32, .aload_n 0, 1), (33, .getfield 82, 3), (36, .iload_n 1, 1), (37, .invokevirtual 233, 3), (40, .istore_n 2, 1), (41, .iload_n 2, 1), (42, .bipush (-2), 2), (44, .if_icmp .eq 18, 3),
   (47, .aload_n 0, 1), (48, .invokevirtual 213, 3), (51, .aload_n 0, 1), (52, .getfield 78, 3), (55, .aload_n 0, 1), (56, .getfield 82, 3), (59, .invokevirtual 230, 3), (62, .iload_n 2, 1),
   (63, .ireturn, 1)]
def M_X11_lay : ab_MD := (K_X11, yX11_lay, cX11_lay, 3, (some .int), false, k_X11_lay)
theorem o_X11_lay : ab_OK M_X11_lay 1 := tb_ok OC_X11 (by decide +kernel) (by decide +kernel) (ab_T_in (tb_c_in 4 _ (List.mem_of_getElem? (i := 229) (rfl : (tb_c 4)[229]? = some (Cond.code yX11_lay cX11_lay 3 (some .int))))) rfl) IN_X11
theorem v_X11_lay : ab_kV M_X11_lay 11 := ⟨(ab_T_in (tb_c_in 4 _ (List.mem_of_getElem? (i := 227) (rfl : (tb_c 4)[227]? = some (Cond.instanceMethod yX11_lay)))) rfl), (ab_T_in (tb_c_in 4 _ (List.mem_of_getElem? (i := 228) (rfl : (tb_c 4)[228]? = some (Cond.selects RX11 yX11_lay yX11_lay)))) rfl), _, rfl, rfl⟩
def k_X11_lays : List (Nat × Instr × Nat) :=
  [(0, .aload_n 0, 1), (1, .iload_n 1, 1), (2, .invokevirtual 174, 3), (5, .ifCond .ne 5, 3), (8, .iconst (-1), 1), (9, .ireturn, 1), (10, .aload_n 0, 1), (11, .getfield 57, 3),
   (14, .invokevirtual 227, 3), (17, .aload_n 0, 1), (18, .getfield 82, 3), (21, .aload_n 0, 1), (22, .getfield 78, 3), (25, .invokevirtual 230, 3), (28, .iconst 1, 1), (29, .istore_n 2, 1),
   (30, .iload_n 2, 1), (31, .bipush 99, 2), (33, .if_icmp .gt 44, 3), (36, .aload_n 0, 1), (37, .getfield 57, 3), (40, .aload_n 0, 1), (41, .getfield 82, 3), (44, .iconst 1, 1),
   (45, .invokevirtual 243, 3), (48, .aload_n 0, 1), (49, .getfield 82, 3), (52, .getfield 183, 3), (55, .iload_n 1, 1), (56, .iaload, 1), (57, .aload_n 0, 1), (58, .getfield 78, 3),
   (61, .getfield 183, 3), (64, .iload_n 1, 1), (65, .iaload, 1), (66, .if_icmp .le 5, 3), (69, .iload_n 2, 1), (70, .ireturn, 1), (71, .iinc 2 1, 3), (74, .goto (-44), 3),
   (77, .bipush (-2), 2), (79, .ireturn, 1)]
def M_X11_lays : ab_MD := (K_X11, yX11_lays, cX11_lays, 3, (some .int), false, k_X11_lays)
theorem o_X11_lays : ab_OK M_X11_lays 1 := tb_ok OC_X11 (by decide +kernel) (by decide +kernel) (ab_T_in (tb_c_in 5 _ (List.mem_of_getElem? (i := 79) (rfl : (tb_c 5)[79]? = some (Cond.code yX11_lays cX11_lays 3 (some .int))))) rfl) IN_X11
theorem v_X11_lays : ab_kV M_X11_lays 11 := ⟨(ab_T_in (tb_c_in 5 _ (List.mem_of_getElem? (i := 77) (rfl : (tb_c 5)[77]? = some (Cond.instanceMethod yX11_lays)))) rfl), (ab_T_in (tb_c_in 5 _ (List.mem_of_getElem? (i := 78) (rfl : (tb_c 5)[78]? = some (Cond.selects RX11 yX11_lays yX11_lays)))) rfl), _, rfl, rfl⟩
def k_X11_likely : List (Nat × Instr × Nat) :=
  [(0, .aload_n 0, 1), (1, .iload_n 1, 1), (2, .invokevirtual 174, 3), (5, .ifCond .eq 22, 3), (8, .iload_n 2, 1), (9, .ifCond .lt 18, 3), (12, .iload_n 2, 1), (13, .bipush 9, 2),
   (15, .if_icmp .gt 12, 3), (18, .iload_n 3, 1), (19, .ifCond .lt 8, 3), (22, .iload_n 3, 1), (23, .iconst 1, 1), (24, .if_icmp .le 5, 3), (27, .iconst (-1), 1), (28, .ireturn, 1),
   (29, .iload_n 2, 1), (30, .aload_n 0, 1), (31, .getfield 78, 3), (34, .getfield 259, 3), (37, .invokestatic 247, 3), (40, .if_icmp .le 6, 3), (43, .bipush (-2), 2), (45, .ireturn, 1),
   (46, .aload_n 0, 1), (47, .invokevirtual 264, 3), (50, .aload_n 0, 1), (51, .getfield 39, 3), (54, .aload_n 0, 1), (55, .getfield 78, 3), (58, .getfield 180, 3), (61, .iload_n 1, 1),
   (62, .iaload, 1), (63, .aload_n 0, 1), (64, .getfield 78, 3), (67, .getfield 259, 3), (70, .iload_n 2, 1), (71, .invokevirtual 330, 3), (74, .istore 4, 2), (76, .aload_n 0, 1),
   (77, .getfield 78, 3), (80, .getfield 259, 3), (83, .invokestatic 247, 3), (86, .iload_n 2, 1), (87, .invokestatic 334, 3), (90, .istore 5, 2), (92, .iload 4, 2), (94, .iload 5, 2),
   (96, .invokestatic 337, 3), (99, .istore 6, 2), (101, .iload 6, 2), (103, .iconst 1, 1), (104, .if_icmp .ge 6, 3), (107, .bipush (-2), 2), (109, .ireturn, 1), (110, .iload_n 3, 1),
   (111, .ifCond .ne 11, 3), (114, .iload 4, 2), (116, .iload 6, 2), (118, .idiv, 1), (119, .goto 8, 3), (122, .iload 5, 2), (124, .iload 6, 2), (126, .idiv, 1),
   (127, .ireturn, 1)]
def M_X11_likely : ab_MD := (K_X11, yX11_likely, cX11_likely, 7, (some .int), false, k_X11_likely)
theorem o_X11_likely : ab_OK M_X11_likely 3 := tb_ok OC_X11 (by decide +kernel) (by decide +kernel) (ab_T_in (tb_c_in 6 _ (List.mem_of_getElem? (i := 8) (rfl : (tb_c 6)[8]? = some (Cond.code yX11_likely cX11_likely 7 (some .int))))) rfl) IN_X11
theorem v_X11_likely : ab_kV M_X11_likely 11 := ⟨(ab_T_in (tb_c_in 6 _ (List.mem_of_getElem? (i := 6) (rfl : (tb_c 6)[6]? = some (Cond.instanceMethod yX11_likely)))) rfl), (ab_T_in (tb_c_in 6 _ (List.mem_of_getElem? (i := 7) (rfl : (tb_c 6)[7]? = some (Cond.selects RX11 yX11_likely yX11_likely)))) rfl), _, rfl, rfl⟩
def k_X11_missing : List (Nat × Instr × Nat) :=
  [(0, .iload_n 1, 1), (1, .ifCond .lt 8, 3), (4, .iload_n 1, 1), (5, .iconst 1, 1), (6, .if_icmp .le 5, 3), (9, .iconst (-1), 1), (10, .ireturn, 1), (11, .aload_n 0, 1),
   (12, .getfield 71, 3), (15, .aload_n 0, 1), (16, .getfield 21, 3), (19, .aload_n 0, 1), (20, .getfield 48, 3), (23, .aload_n 0, 1), (24, .getfield 78, 3), (27, .getfield 189, 3),
   (30, .invokevirtual 192, 3), (33, .invokevirtual 353, 3), (36, .lstore_n 2, 1), (37, .iload_n 1, 1), (38, .ifCond .ne 8, 3), (41, .lload_n 2, 1), (42, .invokestatic 357, 3), (45, .ireturn, 1),
   (46, .lload_n 2, 1), (47, .invokestatic 360, 3), (50, .istore 4, 2), (52, .lload_n 2, 1), (53, .lconst 0, 1), (54, .lcmp, 1), (55, .ifCond .ne 8, 3), (58, .bipush (-2), 2),
   (60, .goto 17, 3), (63, .iload 4, 2), (65, .bipush 8, 2), (67, .idiv, 1), (68, .bipush 10, 2), (70, .imul, 1), (71, .iload 4, 2), (73, .bipush 8, 2),
   (75, .irem, 1), (76, .iadd, 1), (77, .ireturn, 1)]
def M_X11_missing : ab_MD := (K_X11, yX11_missing, cX11_missing, 5, (some .int), false, k_X11_missing)
theorem o_X11_missing : ab_OK M_X11_missing 1 := tb_ok OC_X11 (by decide +kernel) (by decide +kernel) (ab_T_in (tb_c_in 6 _ (List.mem_of_getElem? (i := 46) (rfl : (tb_c 6)[46]? = some (Cond.code yX11_missing cX11_missing 5 (some .int))))) rfl) IN_X11
theorem v_X11_missing : ab_kV M_X11_missing 11 := ⟨(ab_T_in (tb_c_in 6 _ (List.mem_of_getElem? (i := 44) (rfl : (tb_c 6)[44]? = some (Cond.instanceMethod yX11_missing)))) rfl), (ab_T_in (tb_c_in 6 _ (List.mem_of_getElem? (i := 45) (rfl : (tb_c 6)[45]? = some (Cond.selects RX11 yX11_missing yX11_missing)))) rfl), _, rfl, rfl⟩
def k_X11_named : List (Nat × Instr × Nat) :=
  [(0, .iload_n 1, 1), (1, .lookupswitch 45 #[(0, 27), (1, 36)], 27), (28, .aload_n 0, 1), (29, .getfield 21, 3), (32, .iload_n 2, 1), (33, .invokevirtual 139, 3), (36, .ireturn, 1), (37, .aload_n 0, 1),
   (38, .getfield 21, 3), (41, .iload_n 2, 1), (42, .invokevirtual 142, 3), (45, .ireturn, 1), (46, .iconst (-1), 1), (47, .ireturn, 1)]
def M_X11_named : ab_MD := (K_X11, yX11_named, cX11_named, 3, (some .int), false, k_X11_named)
theorem o_X11_named : ab_OK M_X11_named 2 := tb_ok OC_X11 (by decide +kernel) (by decide +kernel) (ab_T_in (tb_c_in 4 _ (List.mem_of_getElem? (i := 102) (rfl : (tb_c 4)[102]? = some (Cond.code yX11_named cX11_named 3 (some .int))))) rfl) IN_X11
theorem v_X11_named : ab_kV M_X11_named 11 := ⟨(ab_T_in (tb_c_in 4 _ (List.mem_of_getElem? (i := 100) (rfl : (tb_c 4)[100]? = some (Cond.instanceMethod yX11_named)))) rfl), (ab_T_in (tb_c_in 4 _ (List.mem_of_getElem? (i := 101) (rfl : (tb_c 4)[101]? = some (Cond.selects RX11 yX11_named yX11_named)))) rfl), _, rfl, rfl⟩
def k_X11_needs : List (Nat × Instr × Nat) :=
  [(0, .aload_n 0, 1), (1, .getfield 71, 3), (4, .invokevirtual 371, 3), (7, .istore_n 1, 1), (8, .aload_n 0, 1), (9, .getfield 71, 3), (12, .iload_n 1, 1), (13, .invokevirtual 374, 3),
   (16, .istore_n 2, 1), (17, .iconst 0, 1), (18, .istore_n 3, 1), (19, .aload_n 0, 1), (20, .getfield 57, 3), (23, .invokevirtual 227, 3), (26, .iconst 1, 1), (27, .istore 4, 2),
   (29, .iload 4, 2), (31, .bipush 9, 2), (33, .if_icmp .gt 94, 3), (36, .aload_n 0, 1), (37, .getfield 57, 3), (40, .iload 4, 2), (42, .putfield 377, 3), (45, .aload_n 0, 1),
   (46, .getfield 82, 3), (49, .aload_n 0, 1), (50, .getfield 21, 3), (53, .invokevirtual 126, 3), (56, .iconst 1, 1), (57, .istore 5, 2), (59, .iconst 1, 1), (60, .istore 6, 2),
   (62, .iload 6, 2), (64, .iload_n 2, 1), (65, .if_icmp .gt 42, 3), (68, .iload 5, 2), (70, .ifCond .eq 37, 3), (73, .aload_n 0, 1), (74, .getfield 57, 3), (77, .aload_n 0, 1),
   (78, .getfield 82, 3), (81, .iconst 1, 1), (82, .invokevirtual 243, 3), (85, .aload_n 0, 1), (86, .getfield 71, 3), (89, .iload_n 1, 1), (90, .iload 6, 2), (92, .aload_n 0, 1),
   (93, .getfield 82, 3), (96, .invokevirtual 380, 3), (99, .istore 5, 2), (101, .iinc 6 1, 3), (104, .goto (-42), 3), (107, .iload 5, 2), (109, .ifCond .eq 12, 3), (112, .iload_n 3, 1),
   (113, .iconst 1, 1), (114, .iload 4, 2), (116, .iconst 1, 1), (117, .isub, 1), (118, .ishl, 1), (119, .ior, 1), (120, .istore_n 3, 1), (121, .iinc 4 1, 3),
   (124, .goto (-95), 3), (127, .aload_n 0, 1), (128, .getfield 57, 3), (131, .invokevirtual 227, 3), (134, .iload_n 3, 1), (135, .ireturn, 1)]
def M_X11_needs : ab_MD := (K_X11, yX11_needs, cX11_needs, 7, (some .int), false, k_X11_needs)
theorem o_X11_needs : ab_OK M_X11_needs 0 := tb_ok OC_X11 (by decide +kernel) (by decide +kernel) (ab_T_in (tb_c_in 6 _ (List.mem_of_getElem? (i := 90) (rfl : (tb_c 6)[90]? = some (Cond.code yX11_needs cX11_needs 7 (some .int))))) rfl) IN_X11
theorem v_X11_needs : ab_kV M_X11_needs 11 := ⟨(ab_T_in (tb_c_in 6 _ (List.mem_of_getElem? (i := 88) (rfl : (tb_c 6)[88]? = some (Cond.instanceMethod yX11_needs)))) rfl), (ab_T_in (tb_c_in 6 _ (List.mem_of_getElem? (i := 89) (rfl : (tb_c 6)[89]? = some (Cond.selects RX11 yX11_needs yX11_needs)))) rfl), _, rfl, rfl⟩
def k_X11_note : List (Nat × Instr × Nat) :=
  [(0, .iload_n 1, 1), (1, .ifCond .eq 8, 3), (4, .iload_n 1, 1), (5, .iconst 1, 1), (6, .if_icmp .ne 22, 3), (9, .iload_n 2, 1), (10, .invokestatic 186, 3), (13, .ifCond .eq 15, 3),
   (16, .iload_n 1, 1), (17, .iconst 1, 1), (18, .if_icmp .ne 12, 3), (21, .iload_n 3, 1), (22, .invokestatic 186, 3), (25, .ifCond .ne 5, 3), (28, .iconst (-1), 1), (29, .ireturn, 1),
   (30, .aload_n 0, 1), (31, .getfield 71, 3), (34, .iload_n 1, 1), (35, .iload_n 2, 1), (36, .iload_n 3, 1), (37, .iconst 0, 1), (38, .iload 4, 2), (40, .invokevirtual 340, 3),
   (43, .ireturn, 1)]
def M_X11_note : ab_MD := (K_X11, yX11_note, cX11_note, 5, (some .int), false, k_X11_note)
theorem o_X11_note : ab_OK M_X11_note 4 := tb_ok OC_X11 (by decide +kernel) (by decide +kernel) (ab_T_in (tb_c_in 6 _ (List.mem_of_getElem? (i := 22) (rfl : (tb_c 6)[22]? = some (Cond.code yX11_note cX11_note 5 (some .int))))) rfl) IN_X11
theorem v_X11_note : ab_kV M_X11_note 11 := ⟨(ab_T_in (tb_c_in 6 _ (List.mem_of_getElem? (i := 20) (rfl : (tb_c 6)[20]? = some (Cond.instanceMethod yX11_note)))) rfl), (ab_T_in (tb_c_in 6 _ (List.mem_of_getElem? (i := 21) (rfl : (tb_c 6)[21]? = some (Cond.selects RX11 yX11_note yX11_note)))) rfl), _, rfl, rfl⟩
def k_X11_pairsWith : List (Nat × Instr × Nat) :=
  [(0, .lconst 0, 1), (1, .lstore_n 1, 1), (2, .iconst 0, 1), (3, .istore_n 3, 1), (4, .iload_n 3, 1), (5, .bipush 7, 2), (7, .if_icmp .ge 28, 3), (10, .lload_n 1, 1),
   (11, .lconst 1, 1), (12, .iload_n 0, 1), (13, .iload_n 3, 1), (14, .invokestatic 419, 3), (17, .bipush 8, 2), (19, .imul, 1), (20, .iload_n 0, 1), (21, .iload_n 3, 1),
   (22, .invokestatic 366, 3), (25, .iadd, 1), (26, .lshl, 1), (27, .lor, 1), (28, .lstore_n 1, 1), (29, .iinc 3 1, 3), (32, .goto (-28), 3), (35, .lload_n 1, 1),
   (36, .lreturn, 1)]
def M_X11_pairsWith : ab_MD := (K_X11, yX11_pairsWith, cX11_pairsWith, 4, (some .long), false, k_X11_pairsWith)
theorem o_X11_pairsWith : ab_OK M_X11_pairsWith 1 := tb_ok OC_X11 (by decide +kernel) (by decide +kernel) (ab_T_in (tb_c_in 6 _ (List.mem_of_getElem? (i := 85) (rfl : (tb_c 6)[85]? = some (Cond.code yX11_pairsWith cX11_pairsWith 4 (some .long))))) rfl) IN_X11
theorem s_X11_pairsWith : Cond.static M_X11_pairsWith.2.1 ∈ ab_T := (ab_T_in (tb_c_in 6 _ (List.mem_of_getElem? (i := 84) (rfl : (tb_c 6)[84]? = some (Cond.static yX11_pairsWith)))) rfl)
def k_X11_piece : List (Nat × Instr × Nat) :=
  [(0, .aload_n 0, 1), (1, .iload_n 1, 1), (2, .invokevirtual 145, 3), (5, .ifCond .ne 13, 3), (8, .new 149, 3), (11, .dup, 1), (12, .ldc 151, 2), (14, .invokespecial 153, 3),
   (17, .athrow, 1), (18, .iload_n 2, 1), (19, .tableswitch 68 0 3 #[29, 39, 49, 59], 29), (48, .aload_n 0, 1), (49, .getfield 21, 3), (52, .getfield 156, 3), (55, .iload_n 1, 1), (56, .iaload, 1),
   (57, .ireturn, 1), (58, .aload_n 0, 1), (59, .getfield 21, 3), (62, .getfield 160, 3), (65, .iload_n 1, 1), (66, .iaload, 1), (67, .ireturn, 1), (68, .aload_n 0, 1),
   (69, .getfield 21, 3), (72, .getfield 163, 3), (75, .iload_n 1, 1), (76, .iaload, 1), (77, .ireturn, 1), (78, .aload_n 0, 1), (79, .getfield 78, 3), (82, .iload_n 1, 1),
   (83, .invokevirtual 166, 3), (86, .ireturn, 1), (87, .new 169, 3), (90, .dup, 1), (91, .ldc 171, 2), (93, .invokespecial 173, 3), (96, .athrow, 1)]
def M_X11_piece : ab_MD := (K_X11, yX11_piece, cX11_piece, 3, (some .int), false, k_X11_piece)
theorem o_X11_piece : ab_OK M_X11_piece 2 := tb_ok OC_X11 (by decide +kernel) (by decide +kernel) (ab_T_in (tb_c_in 6 _ (List.mem_of_getElem? (i := 138) (rfl : (tb_c 6)[138]? = some (Cond.code yX11_piece cX11_piece 3 (some .int))))) rfl) IN_X11
theorem v_X11_piece : ab_kV M_X11_piece 11 := ⟨(ab_T_in (tb_c_in 6 _ (List.mem_of_getElem? (i := 136) (rfl : (tb_c 6)[136]? = some (Cond.instanceMethod yX11_piece)))) rfl), (ab_T_in (tb_c_in 6 _ (List.mem_of_getElem? (i := 137) (rfl : (tb_c 6)[137]? = some (Cond.selects RX11 yX11_piece yX11_piece)))) rfl), _, rfl, rfl⟩
def k_X11_remember : List (Nat × Instr × Nat) :=
  [(0, .aload_n 0, 1), (1, .getfield 88, 3), (4, .aload_n 0, 1), (5, .getfield 402, 3), (8, .aaload, 1), (9, .aload_n 0, 1), (10, .getfield 78, 3), (13, .invokevirtual 230, 3),
   (16, .aload_n 0, 1), (17, .aload_n 0, 1), (18, .getfield 402, 3), (21, .iconst 1, 1), (22, .iadd, 1), (23, .bipush 20, 2), (25, .irem, 1), (26, .putfield 402, 3),
   (29, .aload_n 0, 1), (30, .aload_n 0, 1), (31, .getfield 133, 3), (34, .iconst 1, 1), (35, .iadd, 1), (36, .bipush 20, 2), (38, .invokestatic 419, 3), (41, .putfield 133, 3),
   (44, .return_, 1)]
def M_X11_remember : ab_MD := (K_X11, yX11_remember, cX11_remember, 1, none, false, k_X11_remember)
theorem o_X11_remember : ab_OK M_X11_remember 0 := tb_ok OC_X11 (by decide +kernel) (by decide +kernel) (ab_T_in (tb_c_in 4 _ (List.mem_of_getElem? (i := 200) (rfl : (tb_c 4)[200]? = some (Cond.code yX11_remember cX11_remember 1 none)))) rfl) IN_X11
theorem v_X11_remember : ab_kV M_X11_remember 11 := ⟨(ab_T_in (tb_c_in 4 _ (List.mem_of_getElem? (i := 199) (rfl : (tb_c 4)[199]? = some (Cond.instanceMethod yX11_remember)))) rfl), (ab_T_in (tb_c_in 0 _ (List.mem_of_getElem? (i := 27) (rfl : (tb_c 0)[27]? = some (Cond.selects RX11 yX11_remember yX11_remember)))) rfl), _, rfl, rfl⟩
def k_X11_rows : List (Nat × Instr × Nat) :=
  [(0, .aload_n 0, 1), (1, .iload_n 1, 1), (2, .invokevirtual 174, 3), (5, .ifCond .ne 7, 3), (8, .ldc2_w 262, 3), (11, .lreturn, 1), (12, .aload_n 0, 1), (13, .invokevirtual 264, 3),
   (16, .aload_n 0, 1), (17, .getfield 39, 3), (20, .aload_n 0, 1), (21, .getfield 78, 3), (24, .getfield 180, 3), (27, .iload_n 1, 1), (28, .iaload, 1), (29, .invokevirtual 267, 3),
   (32, .lreturn, 1)]
def M_X11_rows : ab_MD := (K_X11, yX11_rows, cX11_rows, 2, (some .long), false, k_X11_rows)
theorem o_X11_rows : ab_OK M_X11_rows 1 := tb_ok OC_X11 (by decide +kernel) (by decide +kernel) (ab_T_in (tb_c_in 5 _ (List.mem_of_getElem? (i := 83) (rfl : (tb_c 5)[83]? = some (Cond.code yX11_rows cX11_rows 2 (some .long))))) rfl) IN_X11
theorem v_X11_rows : ab_kV M_X11_rows 11 := ⟨(ab_T_in (tb_c_in 5 _ (List.mem_of_getElem? (i := 81) (rfl : (tb_c 5)[81]? = some (Cond.instanceMethod yX11_rows)))) rfl), (ab_T_in (tb_c_in 5 _ (List.mem_of_getElem? (i := 82) (rfl : (tb_c 5)[82]? = some (Cond.selects RX11 yX11_rows yX11_rows)))) rfl), _, rfl, rfl⟩
def k_X11_see : List (Nat × Instr × Nat) :=
  [(0, .iload_n 1, 1), (1, .iconst 1, 1), (2, .if_icmp .lt 24, 3), (5, .iload_n 1, 1), (6, .bipush 60, 2), (8, .if_icmp .gt 18, 3), (11, .aload_n 0, 1), (12, .iload_n 2, 1),
   (13, .invokevirtual 174, 3), (16, .ifCond .eq 10, 3), (19, .iload_n 3, 1), (20, .invokestatic 344, 3), (23, .ifCond .ne 5, 3), (26, .iconst (-1), 1), (27, .ireturn, 1), (28, .aload_n 0, 1),
   (29, .getfield 71, 3), (32, .iconst 2, 1), (33, .iload_n 1, 1), (34, .iload_n 2, 1), (35, .iload_n 3, 1), (36, .iload 4, 2), (38, .invokevirtual 340, 3), (41, .ireturn, 1)]
def M_X11_see : ab_MD := (K_X11, yX11_see, cX11_see, 5, (some .int), false, k_X11_see)
theorem o_X11_see : ab_OK M_X11_see 4 := tb_ok OC_X11 (by decide +kernel) (by decide +kernel) (ab_T_in (tb_c_in 6 _ (List.mem_of_getElem? (i := 30) (rfl : (tb_c 6)[30]? = some (Cond.code yX11_see cX11_see 5 (some .int))))) rfl) IN_X11
theorem v_X11_see : ab_kV M_X11_see 11 := ⟨(ab_T_in (tb_c_in 6 _ (List.mem_of_getElem? (i := 28) (rfl : (tb_c 6)[28]? = some (Cond.instanceMethod yX11_see)))) rfl), (ab_T_in (tb_c_in 6 _ (List.mem_of_getElem? (i := 29) (rfl : (tb_c 6)[29]? = some (Cond.selects RX11 yX11_see yX11_see)))) rfl), _, rfl, rfl⟩
def k_X11_setsOf : List (Nat × Instr × Nat) :=
  [(0, .iconst 1, 1), (1, .istore_n 2, 1), (2, .iconst 1, 1), (3, .istore_n 3, 1), (4, .iload_n 3, 1), (5, .iload_n 1, 1), (6, .if_icmp .gt 19, 3), (9, .iload_n 2, 1),
   (10, .iload_n 0, 1), (11, .iload_n 3, 1), (12, .isub, 1), (13, .iconst 1, 1), (14, .iadd, 1), (15, .imul, 1), (16, .iload_n 3, 1), (17, .idiv, 1),
   (18, .istore_n 2, 1), (19, .iinc 3 1, 3), (22, .goto (-18), 3), (25, .iload_n 2, 1), (26, .ireturn, 1)]
def M_X11_setsOf : ab_MD := (K_X11, yX11_setsOf, cX11_setsOf, 4, (some .int), false, k_X11_setsOf)
theorem o_X11_setsOf : ab_OK M_X11_setsOf 2 := tb_ok OC_X11 (by decide +kernel) (by decide +kernel) (ab_T_in (tb_c_in 6 _ (List.mem_of_getElem? (i := 15) (rfl : (tb_c 6)[15]? = some (Cond.code yX11_setsOf cX11_setsOf 4 (some .int))))) rfl) IN_X11
theorem s_X11_setsOf : Cond.static M_X11_setsOf.2.1 ∈ ab_T := (ab_T_in (tb_c_in 6 _ (List.mem_of_getElem? (i := 14) (rfl : (tb_c 6)[14]? = some (Cond.static yX11_setsOf)))) rfl)
def k_X11_shape : List (Nat × Instr × Nat) :=
  [(0, .aload_n 0, 1), (1, .iload_n 1, 1), (2, .invokevirtual 174, 3), (5, .ifCond .ne 5, 3), (8, .iconst (-1), 1), (9, .ireturn, 1), (10, .iload_n 2, 1), (11, .lookupswitch 59 #[(0, 25), (1, 42)], 25),
   (36, .aload_n 0, 1), (37, .getfield 21, 3), (40, .aload_n 0, 1), (41, .getfield 78, 3), (44, .getfield 180, 3), (47, .iload_n 1, 1), (48, .iaload, 1), (49, .invokevirtual 293, 3),
   (52, .ireturn, 1), (53, .aload_n 0, 1), (54, .getfield 21, 3), (57, .aload_n 0, 1), (58, .getfield 78, 3), (61, .getfield 180, 3), (64, .iload_n 1, 1), (65, .iaload, 1),
   (66, .invokevirtual 296, 3), (69, .ireturn, 1), (70, .iconst (-1), 1), (71, .ireturn, 1)]
def M_X11_shape : ab_MD := (K_X11, yX11_shape, cX11_shape, 3, (some .int), false, k_X11_shape)
theorem o_X11_shape : ab_OK M_X11_shape 2 := tb_ok OC_X11 (by decide +kernel) (by decide +kernel) (ab_T_in (tb_c_in 5 _ (List.mem_of_getElem? (i := 162) (rfl : (tb_c 5)[162]? = some (Cond.code yX11_shape cX11_shape 3 (some .int))))) rfl) IN_X11
theorem v_X11_shape : ab_kV M_X11_shape 11 := ⟨(ab_T_in (tb_c_in 5 _ (List.mem_of_getElem? (i := 160) (rfl : (tb_c 5)[160]? = some (Cond.instanceMethod yX11_shape)))) rfl), (ab_T_in (tb_c_in 5 _ (List.mem_of_getElem? (i := 161) (rfl : (tb_c 5)[161]? = some (Cond.selects RX11 yX11_shape yX11_shape)))) rfl), _, rfl, rfl⟩
def k_X11_strike : List (Nat × Instr × Nat) :=
  [(0, .iload_n 1, 1), (1, .ifCond .lt 14, 3), (4, .iload_n 1, 1), (5, .aload_n 0, 1), (6, .getfield 71, 3), (9, .getfield 347, 3), (12, .if_icmp .lt 5, 3), (15, .iconst (-1), 1),
   (16, .ireturn, 1), (17, .aload_n 0, 1), (18, .getfield 71, 3), (21, .iconst 3, 1), (22, .iload_n 1, 1), (23, .iconst 0, 1), (24, .iconst 0, 1), (25, .iconst 1, 1),
   (26, .invokevirtual 340, 3), (29, .ireturn, 1)]
def M_X11_strike : ab_MD := (K_X11, yX11_strike, cX11_strike, 2, (some .int), false, k_X11_strike)
theorem o_X11_strike : ab_OK M_X11_strike 1 := tb_ok OC_X11 (by decide +kernel) (by decide +kernel) (ab_T_in (tb_c_in 6 _ (List.mem_of_getElem? (i := 38) (rfl : (tb_c 6)[38]? = some (Cond.code yX11_strike cX11_strike 2 (some .int))))) rfl) IN_X11
theorem v_X11_strike : ab_kV M_X11_strike 11 := ⟨(ab_T_in (tb_c_in 6 _ (List.mem_of_getElem? (i := 36) (rfl : (tb_c 6)[36]? = some (Cond.instanceMethod yX11_strike)))) rfl), (ab_T_in (tb_c_in 6 _ (List.mem_of_getElem? (i := 37) (rfl : (tb_c 6)[37]? = some (Cond.selects RX11 yX11_strike yX11_strike)))) rfl), _, rfl, rfl⟩
def k_X11_swaps : List (Nat × Instr × Nat) :=
  [(0, .aload_n 0, 1), (1, .iload_n 1, 1), (2, .invokevirtual 174, 3), (5, .ifCond .ne 5, 3), (8, .iconst (-1), 1), (9, .ireturn, 1), (10, .aload_n 0, 1), (11, .getfield 78, 3),
   (14, .getfield 180, 3), (17, .iload_n 1, 1), (18, .iaload, 1), (19, .istore_n 2, 1), (20, .iload_n 2, 1), (21, .ifCond .ne 6, 3), (24, .bipush (-2), 2), (26, .ireturn, 1),
   (27, .aload_n 0, 1), (28, .invokevirtual 264, 3), (31, .aload_n 0, 1), (32, .getfield 39, 3), (35, .iload_n 2, 1), (36, .invokevirtual 299, 3), (39, .ifCond .eq 5, 3), (42, .iconst 0, 1),
   (43, .ireturn, 1), (44, .aload_n 0, 1), (45, .getfield 48, 3), (48, .aload_n 0, 1), (49, .getfield 78, 3), (52, .iload_n 1, 1), (53, .invokevirtual 302, 3), (56, .aload_n 0, 1),
   (57, .getfield 48, 3), (60, .iload_n 2, 1), (61, .invokevirtual 305, 3), (64, .ifCond .eq 5, 3), (67, .iconst 1, 1), (68, .ireturn, 1), (69, .aload_n 0, 1), (70, .getfield 48, 3),
   (73, .iload_n 2, 1), (74, .invokevirtual 308, 3), (77, .ifCond .eq 7, 3), (80, .iconst 2, 1), (81, .goto 5, 3), (84, .bipush (-2), 2), (86, .ireturn, 1)]
def M_X11_swaps : ab_MD := (K_X11, yX11_swaps, cX11_swaps, 3, (some .int), false, k_X11_swaps)
theorem o_X11_swaps : ab_OK M_X11_swaps 1 := tb_ok OC_X11 (by decide +kernel) (by decide +kernel) (ab_T_in (tb_c_in 5 _ (List.mem_of_getElem? (i := 179) (rfl : (tb_c 5)[179]? = some (Cond.code yX11_swaps cX11_swaps 3 (some .int))))) rfl) IN_X11
theorem v_X11_swaps : ab_kV M_X11_swaps 11 := ⟨(ab_T_in (tb_c_in 5 _ (List.mem_of_getElem? (i := 177) (rfl : (tb_c 5)[177]? = some (Cond.instanceMethod yX11_swaps)))) rfl), (ab_T_in (tb_c_in 5 _ (List.mem_of_getElem? (i := 178) (rfl : (tb_c 5)[178]? = some (Cond.selects RX11 yX11_swaps yX11_swaps)))) rfl), _, rfl, rfl⟩
def k_X11_text : List (Nat × Instr × Nat) :=
  [(0, .iload_n 1, 1), (1, .ifCond .lt 14, 3), (4, .iload_n 1, 1), (5, .aload_n 0, 1), (6, .getfield 14, 3), (9, .getfield 96, 3), (12, .if_icmp .le 6, 3), (15, .bipush (-2), 2),
   (17, .ireturn, 1), (18, .aload_n 0, 1), (19, .aload_n 0, 1), (20, .getfield 30, 3), (23, .iload_n 1, 1), (24, .invokevirtual 103, 3), (27, .putfield 107, 3), (30, .aload_n 0, 1),
   (31, .aload_n 0, 1), (32, .getfield 107, 3), (35, .ifCond .ne 7, 3), (38, .iconst (-1), 1), (39, .goto 10, 3), (42, .aload_n 0, 1), (43, .getfield 14, 3), (46, .getfield 110, 3),
   (49, .putfield 92, 3), (52, .aload_n 0, 1), (53, .getfield 14, 3), (56, .iconst 0, 1), (57, .putfield 96, 3), (60, .aload_n 0, 1), (61, .getfield 107, 3), (64, .ifCond .eq 5, 3),
   (67, .iconst (-1), 1), (68, .ireturn, 1), (69, .aload_n 0, 1), (70, .getfield 21, 3), (73, .aload_n 0, 1), (74, .getfield 30, 3), (77, .getfield 113, 3), (80, .invokevirtual 116, 3),
   (83, .aload_n 0, 1), (84, .getfield 39, 3), (87, .invokevirtual 119, 3), (90, .aload_n 0, 1), (91, .getfield 48, 3), (94, .invokevirtual 122, 3), (97, .aload_n 0, 1), (98, .getfield 71, 3),
   (101, .invokevirtual 123, 3), (104, .aload_n 0, 1), (105, .getfield 78, 3), (108, .aload_n 0, 1), (109, .getfield 21, 3), (112, .invokevirtual 126, 3), (115, .aload_n 0, 1), (116, .iconst 0, 1),
   (117, .putfield 129, 3), (120, .aload_n 0, 1), (121, .iconst 0, 1), (122, .putfield 133, 3), (125, .aload_n 0, 1), (126, .getfield 30, 3), (129, .getfield 136, 3), (132, .ireturn, 1)]
def M_X11_text : ab_MD := (K_X11, yX11_text, cX11_text, 2, (some .int), false, k_X11_text)
theorem o_X11_text : ab_OK M_X11_text 1 := tb_ok OC_X11 (by decide +kernel) (by decide +kernel) (ab_T_in (tb_c_in 3 _ (List.mem_of_getElem? (i := 122) (rfl : (tb_c 3)[122]? = some (Cond.code yX11_text cX11_text 2 (some .int))))) rfl) IN_X11
theorem v_X11_text : ab_kV M_X11_text 11 := ⟨(ab_T_in (tb_c_in 3 _ (List.mem_of_getElem? (i := 120) (rfl : (tb_c 3)[120]? = some (Cond.instanceMethod yX11_text)))) rfl), (ab_T_in (tb_c_in 3 _ (List.mem_of_getElem? (i := 121) (rfl : (tb_c 3)[121]? = some (Cond.selects RX11 yX11_text yX11_text)))) rfl), _, rfl, rfl⟩
def k_X11_tooMany : List (Nat × Instr × Nat) :=
  [(0, .aload_n 0, 1), (1, .iload_n 1, 1), (2, .invokevirtual 174, 3), (5, .ifCond .ne 5, 3), (8, .iconst (-1), 1), (9, .ireturn, 1), (10, .aload_n 0, 1), (11, .invokevirtual 264, 3),
   (14, .aload_n 0, 1), (15, .getfield 78, 3), (18, .getfield 180, 3), (21, .iload_n 1, 1), (22, .iaload, 1), (23, .istore_n 2, 1), (24, .iconst 0, 1), (25, .istore_n 3, 1),
   (26, .iconst 0, 1), (27, .istore 4, 2), (29, .iload 4, 2), (31, .aload_n 0, 1), (32, .getfield 21, 3), (35, .getfield 311, 3), (38, .if_icmp .ge 43, 3), (41, .iconst 1, 1),
   (42, .iload 4, 2), (44, .ishl, 1), (45, .istore 5, 2), (47, .iload_n 2, 1), (48, .iload 5, 2), (50, .iand, 1), (51, .ifCond .eq 24, 3), (54, .aload_n 0, 1),
   (55, .getfield 39, 3), (58, .iload_n 2, 1), (59, .iload 5, 2), (61, .iconst (-1), 1), (62, .ixor, 1), (63, .iand, 1), (64, .invokevirtual 299, 3), (67, .ifCond .eq 8, 3),
   (70, .iload_n 3, 1), (71, .iload 5, 2), (73, .ior, 1), (74, .istore_n 3, 1), (75, .iinc 4 1, 3), (78, .goto (-49), 3), (81, .iload_n 3, 1), (82, .ireturn, 1)]
def M_X11_tooMany : ab_MD := (K_X11, yX11_tooMany, cX11_tooMany, 6, (some .int), false, k_X11_tooMany)
theorem o_X11_tooMany : ab_OK M_X11_tooMany 1 := tb_ok OC_X11 (by decide +kernel) (by decide +kernel) (ab_T_in (tb_c_in 5 _ (List.mem_of_getElem? (i := 207) (rfl : (tb_c 5)[207]? = some (Cond.code yX11_tooMany cX11_tooMany 6 (some .int))))) rfl) IN_X11
theorem v_X11_tooMany : ab_kV M_X11_tooMany 11 := ⟨(ab_T_in (tb_c_in 5 _ (List.mem_of_getElem? (i := 205) (rfl : (tb_c 5)[205]? = some (Cond.instanceMethod yX11_tooMany)))) rfl), (ab_T_in (tb_c_in 5 _ (List.mem_of_getElem? (i := 206) (rfl : (tb_c 5)[206]? = some (Cond.selects RX11 yX11_tooMany yX11_tooMany)))) rfl), _, rfl, rfl⟩
def k_X11_trade : List (Nat × Instr × Nat) :=
  [(0, .aload_n 0, 1), (1, .iload_n 1, 1), (2, .invokevirtual 145, 3), (5, .ifCond .eq 27, 3), (8, .aload_n 0, 1), (9, .iload_n 2, 1), (10, .invokevirtual 145, 3), (13, .ifCond .eq 19, 3),
   (16, .aload_n 0, 1), (17, .getfield 57, 3), (20, .aload_n 0, 1), (21, .getfield 78, 3), (24, .iload_n 1, 1), (25, .iload_n 2, 1), (26, .invokevirtual 220, 3), (29, .ifCond .ne 5, 3),
   (32, .iconst 0, 1), (33, .ireturn, 1), (34, .aload_n 0, 1), (35, .invokevirtual 213, 3), (38, .aload_n 0, 1), (39, .getfield 78, 3), (42, .iload_n 1, 1), (43, .iload_n 2, 1),
   (44, .invokevirtual 223, 3), (47, .iconst 1, 1), (48, .ireturn, 1)]
def M_X11_trade : ab_MD := (K_X11, yX11_trade, cX11_trade, 3, (some .boolean), false, k_X11_trade)
theorem o_X11_trade : ab_OK M_X11_trade 2 := tb_ok OC_X11 (by decide +kernel) (by decide +kernel) (ab_T_in (tb_c_in 4 _ (List.mem_of_getElem? (i := 213) (rfl : (tb_c 4)[213]? = some (Cond.code yX11_trade cX11_trade 3 (some .boolean))))) rfl) IN_X11
theorem v_X11_trade : ab_kV M_X11_trade 11 := ⟨(ab_T_in (tb_c_in 4 _ (List.mem_of_getElem? (i := 211) (rfl : (tb_c 4)[211]? = some (Cond.instanceMethod yX11_trade)))) rfl), (ab_T_in (tb_c_in 4 _ (List.mem_of_getElem? (i := 212) (rfl : (tb_c 4)[212]? = some (Cond.selects RX11 yX11_trade yX11_trade)))) rfl), _, rfl, rfl⟩
def k_X11_tried_0 : List (Nat × Instr × Nat) :=
  [(0, .iload_n 1, 1), (1, .ifCond .lt 35, 3), (4, .iload_n 1, 1), (5, .iconst 4, 1), (6, .if_icmp .gt 30, 3), (9, .iload_n 3, 1), (10, .invokestatic 237, 3), (13, .ifCond .eq 23, 3),
   (16, .iload_n 1, 1), (17, .iconst 2, 1), (18, .if_icmp .ne 14, 3), (21, .aload_n 0, 1), (22, .iload_n 2, 1), (23, .invokevirtual 174, 3), (26, .ifCond .ne 12, 3), (29, .goto 7, 3),
   (32, .iload_n 2, 1), (33, .ifCond .eq 5, 3), (36, .iconst (-1), 1), (37, .ireturn, 1), (38, .aload_n 0, 1), (39, .getfield 57, 3), (42, .invokevirtual 227, 3), (45, .aload_n 0, 1),
   (46, .getfield 57, 3), (49, .iload_n 1, 1), (50, .ifCond .ne 7, 3), (53, .iconst 1, 1), (54, .goto 4, 3), (57, .iconst 0, 1), (58, .putfield 387, 3), (61, .aload_n 0, 1),
   (62, .getfield 48, 3), (65, .iload_n 1, 1), (66, .iconst 1, 1), (67, .if_icmp .ne 7, 3), (70, .iconst 1, 1), (71, .goto 4, 3), (74, .iconst 0, 1), (75, .putfield 390, 3),
   (78, .aload_n 0, 1), (79, .getfield 57, 3), (82, .iload_n 1, 1), (83, .iconst 2, 1), (84, .if_icmp .ne 7, 3), (87, .iload_n 2, 1), (88, .goto 4, 3), (91, .iconst (-1), 1)]
def k_X11_tried_1 : List (Nat × Instr × Nat) :=
  [(92, .putfield 393, 3), (95, .aload_n 0, 1), (96, .getfield 57, 3), (99, .iload_n 1, 1), (100, .iconst 3, 1), (101, .if_icmp .ne 7, 3), (104, .iconst 1, 1), (105, .goto 10, 3),
   (108, .aload_n 0, 1), (109, .getfield 57, 3), (112, .getfield 377, 3), (115, .putfield 377, 3), (118, .aload_n 0, 1), (119, .getfield 48, 3), (122, .iload_n 1, 1), (123, .iconst 4, 1),
   (124, .if_icmp .ne 7, 3), (127, .iconst 1, 1), (128, .goto 4, 3), (131, .iconst 0, 1), (132, .putfield 396, 3), (135, .aload_n 0, 1), (136, .getfield 82, 3), (139, .aload_n 0, 1),
   (140, .getfield 78, 3), (143, .invokevirtual 230, 3), (146, .aload_n 0, 1), (147, .getfield 57, 3), (150, .aload_n 0, 1), (151, .getfield 82, 3), (154, .iload_n 3, 1), (155, .invokevirtual 243, 3),
   (158, .aload_n 0, 1), (159, .getfield 57, 3), (162, .invokevirtual 227, 3), (165, .aload_n 0, 1), (166, .getfield 82, 3), (169, .invokevirtual 399, 3), (172, .aload_n 0, 1), (173, .getfield 78, 3),
   (176, .invokevirtual 399, 3), (179, .isub, 1), (180, .ireturn, 1)]
def k_X11_tried : List (Nat × Instr × Nat) := k_X11_tried_0 ++ (k_X11_tried_1)
theorem r_X11_tried_0 : k_X11_tried_0.all (tb_rr cX11_tried) = true := by decide +kernel
theorem r_X11_tried_1 : k_X11_tried_1.all (tb_rr cX11_tried) = true := by decide +kernel
def M_X11_tried : ab_MD := (K_X11, yX11_tried, cX11_tried, 4, (some .int), false, k_X11_tried)
theorem o_X11_tried : ab_OK M_X11_tried 3 := tb_ok OC_X11 (by decide +kernel) (tb_app r_X11_tried_0 r_X11_tried_1) (ab_T_in (tb_c_in 6 _ (List.mem_of_getElem? (i := 107) (rfl : (tb_c 6)[107]? = some (Cond.code yX11_tried cX11_tried 4 (some .int))))) rfl) IN_X11
theorem v_X11_tried : ab_kV M_X11_tried 11 := ⟨(ab_T_in (tb_c_in 6 _ (List.mem_of_getElem? (i := 105) (rfl : (tb_c 6)[105]? = some (Cond.instanceMethod yX11_tried)))) rfl), (ab_T_in (tb_c_in 6 _ (List.mem_of_getElem? (i := 106) (rfl : (tb_c 6)[106]? = some (Cond.selects RX11 yX11_tried yX11_tried)))) rfl), _, rfl, rfl⟩
def k_X11_undo : List (Nat × Instr × Nat) :=
  [(0, .aload_n 0, 1), (1, .getfield 133, 3), (4, .ifCond .ne 5, 3), (7, .iconst (-1), 1), (8, .ireturn, 1), (9, .aload_n 0, 1), (10, .aload_n 0, 1), (11, .getfield 402, 3),
   (14, .bipush 20, 2), (16, .iadd, 1), (17, .iconst 1, 1), (18, .isub, 1), (19, .bipush 20, 2), (21, .irem, 1), (22, .putfield 402, 3), (25, .aload_n 0, 1),
   (26, .dup, 1), (27, .getfield 133, 3), (30, .iconst 1, 1), (31, .isub, 1), (32, .putfield 133, 3), (35, .aload_n 0, 1), (36, .getfield 78, 3), (39, .aload_n 0, 1),
   (40, .getfield 88, 3), (43, .aload_n 0, 1), (44, .getfield 402, 3), (47, .aaload, 1), (48, .invokevirtual 230, 3), (51, .aload_n 0, 1), (52, .getfield 133, 3), (55, .ireturn, 1)]
def M_X11_undo : ab_MD := (K_X11, yX11_undo, cX11_undo, 1, (some .int), false, k_X11_undo)
theorem o_X11_undo : ab_OK M_X11_undo 0 := tb_ok OC_X11 (by decide +kernel) (by decide +kernel) (ab_T_in (tb_c_in 6 _ (List.mem_of_getElem? (i := 115) (rfl : (tb_c 6)[115]? = some (Cond.code yX11_undo cX11_undo 1 (some .int))))) rfl) IN_X11
theorem v_X11_undo : ab_kV M_X11_undo 11 := ⟨(ab_T_in (tb_c_in 6 _ (List.mem_of_getElem? (i := 113) (rfl : (tb_c 6)[113]? = some (Cond.instanceMethod yX11_undo)))) rfl), (ab_T_in (tb_c_in 6 _ (List.mem_of_getElem? (i := 114) (rfl : (tb_c 6)[114]? = some (Cond.selects RX11 yX11_undo yX11_undo)))) rfl), _, rfl, rfl⟩
