/-! printed by wip/tools/mktab.py: methods of BoneEstateModel -/
def k_X12_ahead : List (Nat × Instr × Nat) :=
  [(0, .aload_n 0, 1), (1, .iconst 0, 1), (2, .putfield 145, 3), (5, .iload_n 1, 1), (6, .iconst 0, 1), (7, .bipush 99, 2), (9, .invokestatic 190, 3), (12, .ifCond .eq 25, 3),
   (15, .iload_n 2, 1), (16, .iconst 0, 1), (17, .iconst 4, 1), (18, .invokestatic 190, 3), (21, .ifCond .eq 16, 3), (24, .iload_n 2, 1), (25, .iconst 2, 1), (26, .if_icmp .ge 13, 3),
   (29, .aload_n 0, 1), (30, .iload_n 3, 1), (31, .invokevirtual 480, 3), (34, .ifCond .ne 5, 3), (37, .iconst (-1), 1), (38, .ireturn, 1), (39, .aload_n 0, 1), (40, .invokevirtual 491, 3),
   (43, .aload_n 0, 1), (44, .iload_n 1, 1), (45, .invokevirtual 494, 3), (48, .iload_n 2, 1), (49, .tableswitch 76 0 3 #[31, 40, 50, 62], 31), (80, .aload_n 0, 1), (81, .getfield 94, 3), (84, .iconst 5, 1),
   (85, .iload_n 3, 1), (86, .iadd, 1), (87, .iaload, 1), (88, .ireturn, 1), (89, .aload_n 0, 1), (90, .iconst 1, 1), (91, .iload_n 3, 1), (92, .invokevirtual 392, 3),
   (95, .invokestatic 395, 3), (98, .ireturn, 1), (99, .aload_n 0, 1), (100, .iconst 1, 1), (101, .invokevirtual 497, 3), (104, .aload_n 0, 1), (105, .iconst 0, 1), (106, .invokevirtual 497, 3),
   (109, .isub, 1), (110, .ireturn, 1), (111, .aload_n 0, 1), (112, .getfield 100, 3), (115, .iconst 1, 1), (116, .iaload, 1), (117, .aload_n 0, 1), (118, .getfield 100, 3),
   (121, .iconst 0, 1), (122, .iaload, 1), (123, .isub, 1), (124, .ireturn, 1), (125, .aload_n 0, 1), (126, .iconst 1, 1), (127, .bipush (-2), 2), (129, .invokevirtual 392, 3),
   (132, .invokestatic 395, 3), (135, .ireturn, 1)]
def M_X12_ahead : ab_MD := (K_X12, yX12_ahead, cX12_ahead, 4, (some .int), false, k_X12_ahead)
theorem o_X12_ahead : ab_OK M_X12_ahead 3 := tb_ok OC_X12 (by decide +kernel) (by decide +kernel) (ab_T_in (tb_c_in 9 _ (List.mem_of_getElem? (i := 81) (rfl : (tb_c 9)[81]? = some (Cond.code yX12_ahead cX12_ahead 4 (some .int))))) rfl) IN_X12
theorem v_X12_ahead : ab_kV M_X12_ahead 12 := ⟨(ab_T_in (tb_c_in 9 _ (List.mem_of_getElem? (i := 79) (rfl : (tb_c 9)[79]? = some (Cond.instanceMethod yX12_ahead)))) rfl), (ab_T_in (tb_c_in 9 _ (List.mem_of_getElem? (i := 80) (rfl : (tb_c 9)[80]? = some (Cond.selects RX12 yX12_ahead yX12_ahead)))) rfl), _, rfl, rfl⟩
def k_X12_apartOf : List (Nat × Instr × Nat) :=
  [(0, .iload_n 0, 1), (1, .iload_n 1, 1), (2, .if_icmp .le 9, 3), (5, .iload_n 0, 1), (6, .iload_n 1, 1), (7, .isub, 1), (8, .goto 6, 3), (11, .iload_n 1, 1),
   (12, .iload_n 0, 1), (13, .isub, 1), (14, .ireturn, 1)]
def M_X12_apartOf : ab_MD := (K_X12, yX12_apartOf, cX12_apartOf, 2, (some .int), false, k_X12_apartOf)
theorem o_X12_apartOf : ab_OK M_X12_apartOf 2 := tb_ok OC_X12 (by decide +kernel) (by decide +kernel) (ab_T_in (tb_c_in 8 _ (List.mem_of_getElem? (i := 208) (rfl : (tb_c 8)[208]? = some (Cond.code yX12_apartOf cX12_apartOf 2 (some .int))))) rfl) IN_X12
theorem s_X12_apartOf : Cond.static M_X12_apartOf.2.1 ∈ ab_T := (ab_T_in (tb_c_in 8 _ (List.mem_of_getElem? (i := 207) (rfl : (tb_c 8)[207]? = some (Cond.static yX12_apartOf)))) rfl)
def k_X12_ask_0 : List (Nat × Instr × Nat) :=
  [(0, .aload_n 0, 1), (1, .iconst 0, 1), (2, .putfield 145, 3), (5, .iload_n 1, 1), (6, .iconst 0, 1), (7, .iconst 1, 1), (8, .invokestatic 190, 3), (11, .ifCond .ne 5, 3),
   (14, .iconst (-1), 1), (15, .ireturn, 1), (16, .aload_n 0, 1), (17, .invokevirtual 362, 3), (20, .aload_n 0, 1), (21, .iconst 0, 1), (22, .invokevirtual 418, 3), (25, .aload_n 0, 1),
   (26, .invokevirtual 549, 3), (29, .iconst (-1), 1), (30, .istore_n 2, 1), (31, .iconst 0, 1), (32, .istore_n 3, 1), (33, .iconst 0, 1), (34, .istore 4, 2), (36, .iload 4, 2),
   (38, .bipush 7, 2), (40, .if_icmp .ge 130, 3), (43, .iconst 0, 1), (44, .istore 5, 2), (46, .iconst 0, 1), (47, .istore 6, 2), (49, .iconst 0, 1), (50, .istore 7, 2),
   (52, .iload 7, 2), (54, .bipush 7, 2), (56, .if_icmp .ge 67, 3), (59, .iload 7, 2), (61, .istore 8, 2), (63, .iload 8, 2), (65, .bipush 7, 2), (67, .if_icmp .ge 50, 3),
   (70, .aload_n 0, 1), (71, .iload 7, 2), (73, .iload 8, 2), (75, .invokevirtual 552, 3), (78, .ifCond .ne 6, 3), (81, .goto 30, 3), (84, .iinc 6 1, 3), (87, .iload 5, 2)]
def k_X12_ask_1 : List (Nat × Instr × Nat) :=
  [(89, .iload 7, 2), (91, .iload 4, 2), (93, .if_icmp .eq 10, 3), (96, .iload 8, 2), (98, .iload 4, 2), (100, .if_icmp .ne 7, 3), (103, .iconst 1, 1), (104, .goto 4, 3),
   (107, .iconst 0, 1), (108, .iadd, 1), (109, .istore 5, 2), (111, .iinc 8 1, 3), (114, .goto (-51), 3), (117, .iinc 7 1, 3), (120, .goto (-68), 3), (123, .iload 5, 2),
   (125, .iload 6, 2), (127, .iload 5, 2), (129, .isub, 1), (130, .if_icmp .le 8, 3), (133, .iload 5, 2), (135, .goto 8, 3), (138, .iload 6, 2), (140, .iload 5, 2),
   (142, .isub, 1), (143, .istore 7, 2), (145, .iload_n 2, 1), (146, .ifCond .lt 12, 3), (149, .iload 7, 2), (151, .iload_n 3, 1), (152, .if_icmp .lt 6, 3), (155, .goto 9, 3),
   (158, .iload 4, 2), (160, .istore_n 2, 1), (161, .iload 7, 2), (163, .istore_n 3, 1), (164, .iinc 4 1, 3), (167, .goto (-131), 3), (170, .iload_n 1, 1), (171, .ifCond .ne 7, 3),
   (174, .iload_n 2, 1), (175, .goto 4, 3), (178, .iload_n 3, 1), (179, .ireturn, 1)]
def k_X12_ask : List (Nat × Instr × Nat) := k_X12_ask_0 ++ (k_X12_ask_1)
theorem r_X12_ask_0 : k_X12_ask_0.all (tb_rr cX12_ask) = true := by decide +kernel
theorem r_X12_ask_1 : k_X12_ask_1.all (tb_rr cX12_ask) = true := by decide +kernel
def M_X12_ask : ab_MD := (K_X12, yX12_ask, cX12_ask, 9, (some .int), false, k_X12_ask)
theorem o_X12_ask : ab_OK M_X12_ask 1 := tb_ok OC_X12 (by decide +kernel) (tb_app r_X12_ask_0 r_X12_ask_1) (ab_T_in (tb_c_in 9 _ (List.mem_of_getElem? (i := 231) (rfl : (tb_c 9)[231]? = some (Cond.code yX12_ask cX12_ask 9 (some .int))))) rfl) IN_X12
theorem v_X12_ask : ab_kV M_X12_ask 12 := ⟨(ab_T_in (tb_c_in 9 _ (List.mem_of_getElem? (i := 229) (rfl : (tb_c 9)[229]? = some (Cond.instanceMethod yX12_ask)))) rfl), (ab_T_in (tb_c_in 9 _ (List.mem_of_getElem? (i := 230) (rfl : (tb_c 9)[230]? = some (Cond.selects RX12 yX12_ask yX12_ask)))) rfl), _, rfl, rfl⟩
def k_X12_atFirst : List (Nat × Instr × Nat) :=
  [(0, .iconst 0, 1), (1, .istore_n 2, 1), (2, .iload_n 2, 1), (3, .bipush 9, 2), (5, .if_icmp .ge 26, 3), (8, .aload_n 0, 1), (9, .getfield 91, 3), (12, .bipush 9, 2),
   (14, .iload_n 1, 1), (15, .imul, 1), (16, .iload_n 2, 1), (17, .iadd, 1), (18, .aload_n 0, 1), (19, .getfield 39, 3), (22, .iload_n 2, 1), (23, .iaload, 1),
   (24, .iastore, 1), (25, .iinc 2 1, 3), (28, .goto (-26), 3), (31, .iconst 0, 1), (32, .istore_n 2, 1), (33, .iload_n 2, 1), (34, .iconst 5, 1), (35, .if_icmp .ge 31, 3),
   (38, .aload_n 0, 1), (39, .getfield 94, 3), (42, .iconst 5, 1), (43, .iload_n 1, 1), (44, .imul, 1), (45, .iload_n 2, 1), (46, .iadd, 1), (47, .iconst 0, 1),
   (48, .iastore, 1), (49, .aload_n 0, 1), (50, .getfield 97, 3), (53, .iconst 5, 1), (54, .iload_n 1, 1), (55, .imul, 1), (56, .iload_n 2, 1), (57, .iadd, 1),
   (58, .iconst 0, 1), (59, .iastore, 1), (60, .iinc 2 1, 3), (63, .goto (-30), 3), (66, .aload_n 0, 1), (67, .getfield 100, 3), (70, .iload_n 1, 1), (71, .iconst 0, 1),
   (72, .iastore, 1), (73, .aload_n 0, 1), (74, .getfield 103, 3), (77, .iload_n 1, 1), (78, .iconst 0, 1), (79, .iastore, 1), (80, .return_, 1)]
def M_X12_atFirst : ab_MD := (K_X12, yX12_atFirst, cX12_atFirst, 3, none, false, k_X12_atFirst)
theorem o_X12_atFirst : ab_OK M_X12_atFirst 1 := tb_ok OC_X12 (by decide +kernel) (by decide +kernel) (ab_T_in (tb_c_in 7 _ (List.mem_of_getElem? (i := 5) (rfl : (tb_c 7)[5]? = some (Cond.code yX12_atFirst cX12_atFirst 3 none)))) rfl) IN_X12
theorem v_X12_atFirst : ab_kV M_X12_atFirst 12 := ⟨(ab_T_in (tb_c_in 7 _ (List.mem_of_getElem? (i := 4) (rfl : (tb_c 7)[4]? = some (Cond.instanceMethod yX12_atFirst)))) rfl), (ab_T_in (tb_c_in 0 _ (List.mem_of_getElem? (i := 48) (rfl : (tb_c 0)[48]? = some (Cond.selects RX12 yX12_atFirst yX12_atFirst)))) rfl), _, rfl, rfl⟩
def k_X12_back : List (Nat × Instr × Nat) :=
  [(0, .aload_n 0, 1), (1, .iconst 0, 1), (2, .putfield 145, 3), (5, .aload_n 0, 1), (6, .getfield 371, 3), (9, .ifCond .ne 5, 3), (12, .iconst (-1), 1), (13, .ireturn, 1),
   (14, .aload_n 0, 1), (15, .aload_n 0, 1), (16, .getfield 136, 3), (19, .iconst 0, 1), (20, .invokevirtual 567, 3), (23, .aload_n 0, 1), (24, .getfield 100, 3), (27, .iconst 0, 1),
   (28, .aload_n 0, 1), (29, .getfield 570, 3), (32, .iastore, 1), (33, .aload_n 0, 1), (34, .getfield 103, 3), (37, .iconst 0, 1), (38, .aload_n 0, 1), (39, .getfield 573, 3),
   (42, .iastore, 1), (43, .aload_n 0, 1), (44, .aload_n 0, 1), (45, .getfield 576, 3), (48, .putfield 358, 3), (51, .aload_n 0, 1), (52, .iconst 0, 1), (53, .putfield 368, 3),
   (56, .aload_n 0, 1), (57, .getfield 103, 3), (60, .iconst 0, 1), (61, .iaload, 1), (62, .ireturn, 1)]
def M_X12_back : ab_MD := (K_X12, yX12_back, cX12_back, 1, (some .int), false, k_X12_back)
theorem o_X12_back : ab_OK M_X12_back 0 := tb_ok OC_X12 (by decide +kernel) (by decide +kernel) (ab_T_in (tb_c_in 10 _ (List.mem_of_getElem? (i := 31) (rfl : (tb_c 10)[31]? = some (Cond.code yX12_back cX12_back 1 (some .int))))) rfl) IN_X12
theorem v_X12_back : ab_kV M_X12_back 12 := ⟨(ab_T_in (tb_c_in 10 _ (List.mem_of_getElem? (i := 29) (rfl : (tb_c 10)[29]? = some (Cond.instanceMethod yX12_back)))) rfl), (ab_T_in (tb_c_in 10 _ (List.mem_of_getElem? (i := 30) (rfl : (tb_c 10)[30]? = some (Cond.selects RX12 yX12_back yX12_back)))) rfl), _, rfl, rfl⟩
def k_X12_begin : List (Nat × Instr × Nat) :=
  [(0, .aload_n 0, 1), (1, .iconst 0, 1), (2, .putfield 352, 3), (5, .aload_n 0, 1), (6, .iconst 0, 1), (7, .invokevirtual 355, 3), (10, .aload_n 0, 1), (11, .aload_n 0, 1),
   (12, .getfield 24, 3), (15, .iconst 1, 1), (16, .iaload, 1), (17, .i2l, 1), (18, .putfield 358, 3), (21, .aload_n 0, 1), (22, .invokevirtual 362, 3), (25, .aload_n 0, 1),
   (26, .iconst 0, 1), (27, .putfield 365, 3), (30, .aload_n 0, 1), (31, .iconst (-1), 1), (32, .putfield 124, 3), (35, .aload_n 0, 1), (36, .iconst 0, 1), (37, .putfield 368, 3),
   (40, .aload_n 0, 1), (41, .iconst 0, 1), (42, .putfield 371, 3), (45, .return_, 1)]
def M_X12_begin : ab_MD := (K_X12, yX12_begin, cX12_begin, 1, none, false, k_X12_begin)
theorem o_X12_begin : ab_OK M_X12_begin 0 := tb_ok OC_X12 (by decide +kernel) (by decide +kernel) (ab_T_in (tb_c_in 7 _ (List.mem_of_getElem? (i := 1) (rfl : (tb_c 7)[1]? = some (Cond.code yX12_begin cX12_begin 1 none)))) rfl) IN_X12
theorem v_X12_begin : ab_kV M_X12_begin 12 := ⟨(ab_T_in (tb_c_in 7 _ (List.mem_of_getElem? (i := 0) (rfl : (tb_c 7)[0]? = some (Cond.instanceMethod yX12_begin)))) rfl), (ab_T_in (tb_c_in 0 _ (List.mem_of_getElem? (i := 47) (rfl : (tb_c 0)[47]? = some (Cond.selects RX12 yX12_begin yX12_begin)))) rfl), _, rfl, rfl⟩
def k_X12_behind : List (Nat × Instr × Nat) :=
  [(0, .iconst 0, 1), (1, .istore_n 3, 1), (2, .iconst 0, 1), (3, .istore 4, 2), (5, .iload 4, 2), (7, .bipush 7, 2), (9, .if_icmp .ge 89, 3), (12, .iload_n 1, 1),
   (13, .iload 4, 2), (15, .invokestatic 412, 3), (18, .ifCond .ne 6, 3), (21, .goto 71, 3), (24, .iload_n 3, 1), (25, .aload_n 0, 1), (26, .getfield 106, 3), (29, .iload 4, 2),
   (31, .iaload, 1), (32, .aload_n 0, 1), (33, .getfield 30, 3), (36, .iload_n 2, 1), (37, .iaload, 1), (38, .invokestatic 412, 3), (41, .ifCond .eq 14, 3), (44, .iconst 1, 1),
   (45, .aload_n 0, 1), (46, .getfield 33, 3), (49, .iload_n 2, 1), (50, .iaload, 1), (51, .ishl, 1), (52, .goto 4, 3), (55, .iconst 0, 1), (56, .ior, 1),
   (57, .istore_n 3, 1), (58, .iload_n 3, 1), (59, .aload_n 0, 1), (60, .getfield 106, 3), (63, .iload 4, 2), (65, .iaload, 1), (66, .aload_n 0, 1), (67, .getfield 33, 3),
   (70, .iload_n 2, 1), (71, .iaload, 1), (72, .invokestatic 412, 3), (75, .ifCond .eq 14, 3), (78, .iconst 1, 1), (79, .aload_n 0, 1), (80, .getfield 30, 3), (83, .iload_n 2, 1),
   (84, .iaload, 1), (85, .ishl, 1), (86, .goto 4, 3), (89, .iconst 0, 1), (90, .ior, 1), (91, .istore_n 3, 1), (92, .iinc 4 1, 3), (95, .goto (-90), 3),
   (98, .iload_n 3, 1), (99, .ireturn, 1)]
def M_X12_behind : ab_MD := (K_X12, yX12_behind, cX12_behind, 5, (some .int), false, k_X12_behind)
theorem o_X12_behind : ab_OK M_X12_behind 2 := tb_ok OC_X12 (by decide +kernel) (by decide +kernel) (ab_T_in (tb_c_in 9 _ (List.mem_of_getElem? (i := 48) (rfl : (tb_c 9)[48]? = some (Cond.code yX12_behind cX12_behind 5 (some .int))))) rfl) IN_X12
theorem v_X12_behind : ab_kV M_X12_behind 12 := ⟨(ab_T_in (tb_c_in 9 _ (List.mem_of_getElem? (i := 47) (rfl : (tb_c 9)[47]? = some (Cond.instanceMethod yX12_behind)))) rfl), (ab_T_in (tb_c_in 0 _ (List.mem_of_getElem? (i := 95) (rfl : (tb_c 0)[95]? = some (Cond.selects RX12 yX12_behind yX12_behind)))) rfl), _, rfl, rfl⟩
def k_X12_better : List (Nat × Instr × Nat) :=
  [(0, .iload_n 1, 1), (1, .ifCond .ge 10, 3), (4, .iload_n 1, 1), (5, .ineg, 1), (6, .iconst 1, 1), (7, .iadd, 1), (8, .goto 7, 3), (11, .iload_n 1, 1),
   (12, .ineg, 1), (13, .iconst 1, 1), (14, .isub, 1), (15, .istore_n 2, 1), (16, .iload_n 0, 1), (17, .ifCond .ne 5, 3), (20, .iload_n 2, 1), (21, .ireturn, 1),
   (22, .iload_n 2, 1), (23, .ifCond .le 18, 3), (26, .iload_n 0, 1), (27, .ifCond .lt 8, 3), (30, .iload_n 2, 1), (31, .iload_n 0, 1), (32, .if_icmp .ge 7, 3), (35, .iload_n 2, 1),
   (36, .goto 4, 3), (39, .iload_n 0, 1), (40, .ireturn, 1), (41, .iload_n 0, 1), (42, .ifCond .ge 12, 3), (45, .iload_n 2, 1), (46, .iload_n 0, 1), (47, .if_icmp .ge 7, 3),
   (50, .iload_n 2, 1), (51, .goto 4, 3), (54, .iload_n 0, 1), (55, .ireturn, 1)]
def M_X12_better : ab_MD := (K_X12, yX12_better, cX12_better, 3, (some .int), false, k_X12_better)
theorem o_X12_better : ab_OK M_X12_better 2 := tb_ok OC_X12 (by decide +kernel) (by decide +kernel) (ab_T_in (tb_c_in 9 _ (List.mem_of_getElem? (i := 176) (rfl : (tb_c 9)[176]? = some (Cond.code yX12_better cX12_better 3 (some .int))))) rfl) IN_X12
theorem s_X12_better : Cond.static M_X12_better.2.1 ∈ ab_T := (ab_T_in (tb_c_in 9 _ (List.mem_of_getElem? (i := 175) (rfl : (tb_c 9)[175]? = some (Cond.static yX12_better)))) rfl)
def k_X12_bind : List (Nat × Instr × Nat) :=
  [(0, .aload_n 0, 1), (1, .getfield 286, 3), (4, .ifCond .le 72, 3), (7, .aload_n 0, 1), (8, .getfield 78, 3), (11, .aload_n 0, 1), (12, .getfield 286, 3), (15, .iconst 1, 1),
   (16, .isub, 1), (17, .iaload, 1), (18, .invokestatic 289, 3), (21, .iload_n 1, 1), (22, .if_icmp .lt 54, 3), (25, .aload_n 0, 1), (26, .dup, 1), (27, .getfield 286, 3),
   (30, .iconst 1, 1), (31, .isub, 1), (32, .putfield 286, 3), (35, .aload_n 0, 1), (36, .getfield 78, 3), (39, .aload_n 0, 1), (40, .getfield 286, 3), (43, .iaload, 1),
   (44, .istore_n 2, 1), (45, .iload_n 2, 1), (46, .iconst 2, 1), (47, .if_icmp .ne 7, 3), (50, .iconst (-1), 1), (51, .goto 7, 3), (54, .aload_n 0, 1), (55, .invokevirtual 293, 3),
   (58, .istore_n 3, 1), (59, .aload_n 0, 1), (60, .invokevirtual 293, 3), (63, .istore 4, 2), (65, .aload_n 0, 1), (66, .iload_n 2, 1), (67, .iload 4, 2), (69, .iload_n 3, 1),
   (70, .invokevirtual 297, 3), (73, .goto (-73), 3), (76, .return_, 1)]
def M_X12_bind : ab_MD := (K_X12, yX12_bind, cX12_bind, 5, none, false, k_X12_bind)
theorem o_X12_bind : ab_OK M_X12_bind 1 := tb_ok OC_X12 (by decide +kernel) (by decide +kernel) (ab_T_in (tb_c_in 8 _ (List.mem_of_getElem? (i := 155) (rfl : (tb_c 8)[155]? = some (Cond.code yX12_bind cX12_bind 5 none)))) rfl) IN_X12
theorem v_X12_bind : ab_kV M_X12_bind 12 := ⟨(ab_T_in (tb_c_in 8 _ (List.mem_of_getElem? (i := 154) (rfl : (tb_c 8)[154]? = some (Cond.instanceMethod yX12_bind)))) rfl), (ab_T_in (tb_c_in 0 _ (List.mem_of_getElem? (i := 76) (rfl : (tb_c 0)[76]? = some (Cond.selects RX12 yX12_bind yX12_bind)))) rfl), _, rfl, rfl⟩
def k_X12_bounded : List (Nat × Instr × Nat) :=
  [(0, .aload_n 0, 1), (1, .aload_n 0, 1), (2, .getfield 333, 3), (5, .ifCond .ne 19, 3), (8, .lload_n 1, 1), (9, .ldc2_w 336, 3), (12, .lcmp, 1), (13, .ifCond .gt 11, 3),
   (16, .lload_n 1, 1), (17, .ldc2_w 338, 3), (20, .lcmp, 1), (21, .ifCond .ge 7, 3), (24, .iconst 1, 1), (25, .goto 4, 3), (28, .iconst 0, 1), (29, .putfield 333, 3),
   (32, .aload_n 0, 1), (33, .getfield 333, 3), (36, .ifCond .eq 7, 3), (39, .lconst 0, 1), (40, .goto 4, 3), (43, .lload_n 1, 1), (44, .lreturn, 1)]
def M_X12_bounded : ab_MD := (K_X12, yX12_bounded, cX12_bounded, 3, (some .long), false, k_X12_bounded)
theorem o_X12_bounded : ab_OK M_X12_bounded 1 := tb_ok OC_X12 (by decide +kernel) (by decide +kernel) (ab_T_in (tb_c_in 8 _ (List.mem_of_getElem? (i := 224) (rfl : (tb_c 8)[224]? = some (Cond.code yX12_bounded cX12_bounded 3 (some .long))))) rfl) IN_X12
theorem v_X12_bounded : ab_kV M_X12_bounded 12 := ⟨(ab_T_in (tb_c_in 8 _ (List.mem_of_getElem? (i := 223) (rfl : (tb_c 8)[223]? = some (Cond.instanceMethod yX12_bounded)))) rfl), (ab_T_in (tb_c_in 0 _ (List.mem_of_getElem? (i := 86) (rfl : (tb_c 0)[86]? = some (Cond.selects RX12 yX12_bounded yX12_bounded)))) rfl), _, rfl, rfl⟩
def k_X12_chance : List (Nat × Instr × Nat) :=
  [(0, .aload_n 0, 1), (1, .iconst 0, 1), (2, .putfield 145, 3), (5, .iload_n 1, 1), (6, .ifCond .lt 32, 3), (9, .iload_n 2, 1), (10, .iconst 1, 1), (11, .bipush 99, 2),
   (13, .invokestatic 190, 3), (16, .ifCond .eq 22, 3), (19, .aload_n 0, 1), (20, .iload_n 3, 1), (21, .invokevirtual 480, 3), (24, .ifCond .eq 14, 3), (27, .iload 4, 2), (29, .iconst 0, 1),
   (30, .ldc 183, 2), (32, .invokestatic 190, 3), (35, .ifCond .ne 5, 3), (38, .iconst (-1), 1), (39, .ireturn, 1), (40, .aload_n 0, 1), (41, .getfield 358, 3), (44, .lstore 5, 2),
   (46, .aload_n 0, 1), (47, .iload_n 1, 1), (48, .i2l, 1), (49, .putfield 358, 3), (52, .iconst 0, 1), (53, .istore 7, 2), (55, .iconst 0, 1), (56, .istore 8, 2),
   (58, .iload 8, 2), (60, .bipush 10, 2), (62, .if_icmp .ge 46, 3), (65, .aload_n 0, 1), (66, .invokevirtual 491, 3), (69, .aload_n 0, 1), (70, .iconst 1, 1), (71, .putfield 374, 3),
   (74, .aload_n 0, 1), (75, .iload_n 2, 1), (76, .invokevirtual 494, 3), (79, .iload 7, 2), (81, .aload_n 0, 1), (82, .getfield 94, 3), (85, .iconst 5, 1), (86, .iload_n 3, 1),
   (87, .iadd, 1), (88, .iaload, 1), (89, .iload 4, 2), (91, .if_icmp .lt 7, 3), (94, .iconst 1, 1), (95, .goto 4, 3), (98, .iconst 0, 1), (99, .iadd, 1),
   (100, .istore 7, 2), (102, .iinc 8 1, 3), (105, .goto (-47), 3), (108, .aload_n 0, 1), (109, .iconst 0, 1), (110, .putfield 374, 3), (113, .aload_n 0, 1), (114, .lload 5, 2),
   (116, .putfield 358, 3), (119, .iload 7, 2), (121, .ireturn, 1)]
def M_X12_chance : ab_MD := (K_X12, yX12_chance, cX12_chance, 9, (some .int), false, k_X12_chance)
theorem o_X12_chance : ab_OK M_X12_chance 4 := tb_ok OC_X12 (by decide +kernel) (by decide +kernel) (ab_T_in (tb_c_in 10 _ (List.mem_of_getElem? (i := 7) (rfl : (tb_c 10)[7]? = some (Cond.code yX12_chance cX12_chance 9 (some .int))))) rfl) IN_X12
theorem v_X12_chance : ab_kV M_X12_chance 12 := ⟨(ab_T_in (tb_c_in 10 _ (List.mem_of_getElem? (i := 5) (rfl : (tb_c 10)[5]? = some (Cond.instanceMethod yX12_chance)))) rfl), (ab_T_in (tb_c_in 10 _ (List.mem_of_getElem? (i := 6) (rfl : (tb_c 10)[6]? = some (Cond.selects RX12 yX12_chance yX12_chance)))) rfl), _, rfl, rfl⟩
def k_X12_closed : List (Nat × Instr × Nat) :=
  [(0, .aload_n 0, 1), (1, .iconst 0, 1), (2, .putfield 145, 3), (5, .aload_n 0, 1), (6, .iload_n 1, 1), (7, .invokevirtual 480, 3), (10, .ifCond .ne 7, 3), (13, .ldc2_w 503, 3),
   (16, .lreturn, 1), (17, .aload_n 0, 1), (18, .invokevirtual 362, 3), (21, .aload_n 0, 1), (22, .iconst 0, 1), (23, .invokevirtual 418, 3), (26, .lconst 0, 1), (27, .lstore_n 2, 1),
   (28, .iconst 0, 1), (29, .istore 4, 2), (31, .iload 4, 2), (33, .bipush 7, 2), (35, .if_icmp .ge 77, 3), (38, .iconst 0, 1), (39, .istore 5, 2), (41, .iconst 0, 1),
   (42, .istore 6, 2), (44, .iload 6, 2), (46, .bipush 7, 2), (48, .if_icmp .ge 37, 3), (51, .iload 5, 2), (53, .aload_n 0, 1), (54, .getfield 106, 3), (57, .iload 6, 2),
   (59, .iaload, 1), (60, .iload 4, 2), (62, .invokestatic 412, 3), (65, .ifCond .eq 10, 3), (68, .iconst 1, 1), (69, .iload 6, 2), (71, .ishl, 1), (72, .goto 4, 3),
   (75, .iconst 0, 1), (76, .ior, 1), (77, .istore 5, 2), (79, .iinc 6 1, 3), (82, .goto (-38), 3), (85, .aload_n 0, 1), (86, .iload 5, 2), (88, .invokevirtual 505, 3),
   (91, .lload_n 2, 1), (92, .aload_n 0, 1), (93, .aload_n 0, 1), (94, .iconst 0, 1), (95, .iload_n 1, 1), (96, .invokevirtual 392, 3), (99, .iload 4, 2), (101, .invokevirtual 508, 3),
   (104, .ladd, 1), (105, .lstore_n 2, 1), (106, .iinc 4 1, 3), (109, .goto (-78), 3), (112, .lload_n 2, 1), (113, .lreturn, 1)]
def M_X12_closed : ab_MD := (K_X12, yX12_closed, cX12_closed, 7, (some .long), false, k_X12_closed)
theorem o_X12_closed : ab_OK M_X12_closed 1 := tb_ok OC_X12 (by decide +kernel) (by decide +kernel) (ab_T_in (tb_c_in 9 _ (List.mem_of_getElem? (i := 118) (rfl : (tb_c 9)[118]? = some (Cond.code yX12_closed cX12_closed 7 (some .long))))) rfl) IN_X12
theorem v_X12_closed : ab_kV M_X12_closed 12 := ⟨(ab_T_in (tb_c_in 9 _ (List.mem_of_getElem? (i := 116) (rfl : (tb_c 9)[116]? = some (Cond.instanceMethod yX12_closed)))) rfl), (ab_T_in (tb_c_in 9 _ (List.mem_of_getElem? (i := 117) (rfl : (tb_c 9)[117]? = some (Cond.selects RX12 yX12_closed yX12_closed)))) rfl), _, rfl, rfl⟩
def k_X12_common : List (Nat × Instr × Nat) :=
  [(0, .iload_n 0, 1), (1, .istore_n 2, 1), (2, .iload_n 1, 1), (3, .istore_n 3, 1), (4, .iload_n 3, 1), (5, .ifCond .eq 16, 3), (8, .iload_n 2, 1), (9, .iload_n 3, 1),
   (10, .irem, 1), (11, .istore 4, 2), (13, .iload_n 3, 1), (14, .istore_n 2, 1), (15, .iload 4, 2), (17, .istore_n 3, 1), (18, .goto (-14), 3), (21, .iload_n 2, 1),
   (22, .ireturn, 1)]
def M_X12_common : ab_MD := (K_X12, yX12_common, cX12_common, 5, (some .int), false, k_X12_common)
theorem o_X12_common : ab_OK M_X12_common 2 := tb_ok OC_X12 (by decide +kernel) (by decide +kernel) (ab_T_in (tb_c_in 9 _ (List.mem_of_getElem? (i := 183) (rfl : (tb_c 9)[183]? = some (Cond.code yX12_common cX12_common 5 (some .int))))) rfl) IN_X12
theorem s_X12_common : Cond.static M_X12_common.2.1 ∈ ab_T := (ab_T_in (tb_c_in 9 _ (List.mem_of_getElem? (i := 182) (rfl : (tb_c 9)[182]? = some (Cond.static yX12_common)))) rfl)
def k_X12_compares : List (Nat × Instr × Nat) :=
  [(0, .iload_n 0, 1), (1, .tableswitch 95 5 9 #[35, 47, 59, 71, 83], 35), (36, .lload_n 1, 1), (37, .lload_n 3, 1), (38, .lcmp, 1), (39, .ifCond .ge 7, 3), (42, .iconst 1, 1), (43, .goto 4, 3),
   (46, .iconst 0, 1), (47, .ireturn, 1), (48, .lload_n 1, 1), (49, .lload_n 3, 1), (50, .lcmp, 1), (51, .ifCond .gt 7, 3), (54, .iconst 1, 1), (55, .goto 4, 3),
   (58, .iconst 0, 1), (59, .ireturn, 1), (60, .lload_n 1, 1), (61, .lload_n 3, 1), (62, .lcmp, 1), (63, .ifCond .ne 7, 3), (66, .iconst 1, 1), (67, .goto 4, 3),
   (70, .iconst 0, 1), (71, .ireturn, 1), (72, .lload_n 1, 1), (73, .lload_n 3, 1), (74, .lcmp, 1), (75, .ifCond .eq 7, 3), (78, .iconst 1, 1), (79, .goto 4, 3),
   (82, .iconst 0, 1), (83, .ireturn, 1), (84, .lload_n 1, 1), (85, .lload_n 3, 1), (86, .lcmp, 1), (87, .ifCond .lt 7, 3), (90, .iconst 1, 1), (91, .goto 4, 3),
   (94, .iconst 0, 1), (95, .ireturn, 1), (96, .lload_n 1, 1), (97, .lload_n 3, 1), (98, .lcmp, 1), (99, .ifCond .le 7, 3), (102, .iconst 1, 1), (103, .goto 4, 3),
   (106, .iconst 0, 1), (107, .ireturn, 1)]
def M_X12_compares : ab_MD := (K_X12, yX12_compares, cX12_compares, 5, (some .boolean), false, k_X12_compares)
theorem o_X12_compares : ab_OK M_X12_compares 3 := tb_ok OC_X12 (by decide +kernel) (by decide +kernel) (ab_T_in (tb_c_in 8 _ (List.mem_of_getElem? (i := 233) (rfl : (tb_c 8)[233]? = some (Cond.code yX12_compares cX12_compares 5 (some .boolean))))) rfl) IN_X12
theorem s_X12_compares : Cond.static M_X12_compares.2.1 ∈ ab_T := (ab_T_in (tb_c_in 8 _ (List.mem_of_getElem? (i := 232) (rfl : (tb_c 8)[232]? = some (Cond.static yX12_compares)))) rfl)
def k_X12_copies : List (Nat × Instr × Nat) :=
  [(0, .iconst 0, 1), (1, .istore_n 2, 1), (2, .iload_n 2, 1), (3, .iload_n 1, 1), (4, .if_icmp .ge 17, 3), (7, .aload_n 0, 1), (8, .iload_n 2, 1), (9, .aload_n 0, 1),
   (10, .iload_n 1, 1), (11, .iload_n 2, 1), (12, .iadd, 1), (13, .iaload, 1), (14, .iastore, 1), (15, .iinc 2 1, 3), (18, .goto (-16), 3), (21, .return_, 1)]
def M_X12_copies : ab_MD := (K_X12, yX12_copies, cX12_copies, 3, none, false, k_X12_copies)
theorem o_X12_copies : ab_OK M_X12_copies 2 := tb_ok OC_X12 (by decide +kernel) (by decide +kernel) (ab_T_in (tb_c_in 6 _ (List.mem_of_getElem? (i := 237) (rfl : (tb_c 6)[237]? = some (Cond.code yX12_copies cX12_copies 3 none)))) rfl) IN_X12
theorem s_X12_copies : Cond.static M_X12_copies.2.1 ∈ ab_T := (ab_T_in (tb_c_in 6 _ (List.mem_of_getElem? (i := 236) (rfl : (tb_c 6)[236]? = some (Cond.static yX12_copies)))) rfl)
def k_X12_count : List (Nat × Instr × Nat) :=
  [(0, .aload_n 0, 1), (1, .iconst 0, 1), (2, .putfield 145, 3), (5, .iload_n 1, 1), (6, .tableswitch 140 0 11 #[62, 67, 72, 77, 84, 95, 106, 112, 118, 125, 130, 135], 62), (68, .aload_n 0, 1), (69, .getfield 225, 3), (72, .ireturn, 1),
   (73, .aload_n 0, 1), (74, .getfield 228, 3), (77, .ireturn, 1), (78, .aload_n 0, 1), (79, .getfield 237, 3), (82, .ireturn, 1), (83, .aload_n 0, 1), (84, .getfield 103, 3),
   (87, .iconst 0, 1), (88, .iaload, 1), (89, .ireturn, 1), (90, .aload_n 0, 1), (91, .iconst 0, 1), (92, .bipush (-2), 2), (94, .invokevirtual 392, 3), (97, .invokestatic 395, 3),
   (100, .ireturn, 1), (101, .aload_n 0, 1), (102, .iconst 0, 1), (103, .bipush (-3), 2), (105, .invokevirtual 392, 3), (108, .invokestatic 395, 3), (111, .ireturn, 1), (112, .aload_n 0, 1),
   (113, .iconst 0, 1), (114, .invokevirtual 561, 3), (117, .ireturn, 1), (118, .aload_n 0, 1), (119, .iconst 0, 1), (120, .invokevirtual 497, 3), (123, .ireturn, 1), (124, .aload_n 0, 1),
   (125, .getfield 100, 3), (128, .iconst 0, 1), (129, .iaload, 1), (130, .ireturn, 1), (131, .aload_n 0, 1), (132, .getfield 365, 3), (135, .ireturn, 1), (136, .aload_n 0, 1),
   (137, .invokevirtual 539, 3), (140, .ireturn, 1), (141, .aload_n 0, 1), (142, .getfield 368, 3), (145, .ireturn, 1), (146, .iconst (-1), 1), (147, .ireturn, 1)]
def M_X12_count : ab_MD := (K_X12, yX12_count, cX12_count, 2, (some .int), false, k_X12_count)
theorem o_X12_count : ab_OK M_X12_count 1 := tb_ok OC_X12 (by decide +kernel) (by decide +kernel) (ab_T_in (tb_c_in 10 _ (List.mem_of_getElem? (i := 35) (rfl : (tb_c 10)[35]? = some (Cond.code yX12_count cX12_count 2 (some .int))))) rfl) IN_X12
theorem v_X12_count : ab_kV M_X12_count 12 := ⟨(ab_T_in (tb_c_in 10 _ (List.mem_of_getElem? (i := 33) (rfl : (tb_c 10)[33]? = some (Cond.instanceMethod yX12_count)))) rfl), (ab_T_in (tb_c_in 10 _ (List.mem_of_getElem? (i := 34) (rfl : (tb_c 10)[34]? = some (Cond.selects RX12 yX12_count yX12_count)))) rfl), _, rfl, rfl⟩
def k_X12_dayGoes_0 : List (Nat × Instr × Nat) :=
  [(0, .aload_n 0, 1), (1, .iconst 0, 1), (2, .putfield 453, 3), (5, .iconst 0, 1), (6, .istore_n 2, 1), (7, .iload_n 2, 1), (8, .aload_n 0, 1), (9, .getfield 231, 3),
   (12, .if_icmp .ge 61, 3), (15, .aload_n 0, 1), (16, .getfield 377, 3), (19, .ifCond .ne 54, 3), (22, .aload_n 0, 1), (23, .getfield 51, 3), (26, .iload_n 2, 1), (27, .iaload, 1),
   (28, .aload_n 0, 1), (29, .getfield 103, 3), (32, .iload_n 1, 1), (33, .iaload, 1), (34, .if_icmp .ne 33, 3), (37, .aload_n 0, 1), (38, .iload_n 1, 1), (39, .aload_n 0, 1),
   (40, .getfield 45, 3), (43, .iload_n 2, 1), (44, .iaload, 1), (45, .aload_n 0, 1), (46, .getfield 48, 3), (49, .iload_n 2, 1), (50, .iaload, 1), (51, .invokevirtual 456, 3),
   (54, .ifCond .ne 13, 3), (57, .aload_n 0, 1), (58, .getfield 100, 3), (61, .iload_n 1, 1), (62, .dup2, 1), (63, .iaload, 1), (64, .iconst 1, 1), (65, .iadd, 1),
   (66, .iastore, 1), (67, .iinc 2 1, 3), (70, .goto (-63), 3), (73, .iconst 0, 1), (74, .istore_n 2, 1), (75, .iload_n 2, 1), (76, .aload_n 0, 1), (77, .getfield 234, 3)]
def k_X12_dayGoes_1 : List (Nat × Instr × Nat) :=
  [(80, .if_icmp .ge 61, 3), (83, .aload_n 0, 1), (84, .getfield 57, 3), (87, .iload_n 2, 1), (88, .iaload, 1), (89, .aload_n 0, 1), (90, .getfield 103, 3), (93, .iload_n 1, 1),
   (94, .iaload, 1), (95, .if_icmp .ne 40, 3), (98, .aload_n 0, 1), (99, .getfield 54, 3), (102, .iload_n 2, 1), (103, .iaload, 1), (104, .aload_n 0, 1), (105, .getfield 386, 3),
   (108, .if_icmp .eq 27, 3), (111, .aload_n 0, 1), (112, .iload_n 1, 1), (113, .aload_n 0, 1), (114, .getfield 54, 3), (117, .iload_n 2, 1), (118, .iaload, 1), (119, .invokevirtual 459, 3),
   (122, .ifCond .ne 13, 3), (125, .aload_n 0, 1), (126, .getfield 100, 3), (129, .iload_n 1, 1), (130, .dup2, 1), (131, .iaload, 1), (132, .iconst 1, 1), (133, .iadd, 1),
   (134, .iastore, 1), (135, .iinc 2 1, 3), (138, .goto (-63), 3), (141, .iconst 0, 1), (142, .istore_n 2, 1), (143, .iconst 0, 1), (144, .istore_n 3, 1), (145, .iload_n 3, 1),
   (146, .aload_n 0, 1), (147, .getfield 228, 3), (150, .if_icmp .ge 69, 3), (153, .aload_n 0, 1), (154, .iload_n 1, 1), (155, .iload_n 3, 1), (156, .invokevirtual 392, 3), (159, .invokestatic 395, 3)]
def k_X12_dayGoes_2 : List (Nat × Instr × Nat) :=
  [(162, .aload_n 0, 1), (163, .getfield 389, 3), (166, .if_icmp .ge 6, 3), (169, .goto 44, 3), (172, .iload_n 2, 1), (173, .ifCond .ne 8, 3), (176, .aload_n 0, 1), (177, .iload_n 1, 1),
   (178, .invokevirtual 462, 3), (181, .iconst 1, 1), (182, .istore_n 2, 1), (183, .aload_n 0, 1), (184, .iload_n 1, 1), (185, .iload_n 3, 1), (186, .invokevirtual 465, 3), (189, .ifCond .ne 6, 3),
   (192, .goto 21, 3), (195, .aload_n 0, 1), (196, .iload_n 1, 1), (197, .iload_n 3, 1), (198, .invokevirtual 468, 3), (201, .aload_n 0, 1), (202, .dup, 1), (203, .getfield 453, 3),
   (206, .iconst 1, 1), (207, .iload_n 3, 1), (208, .ishl, 1), (209, .ior, 1), (210, .putfield 453, 3), (213, .iinc 3 1, 3), (216, .goto (-71), 3), (219, .aload_n 0, 1),
   (220, .getfield 103, 3), (223, .iload_n 1, 1), (224, .dup2, 1), (225, .iaload, 1), (226, .iconst 1, 1), (227, .iadd, 1), (228, .iastore, 1), (229, .return_, 1)]
def k_X12_dayGoes : List (Nat × Instr × Nat) := k_X12_dayGoes_0 ++ (k_X12_dayGoes_1 ++ (k_X12_dayGoes_2))
theorem r_X12_dayGoes_0 : k_X12_dayGoes_0.all (tb_rr cX12_dayGoes) = true := by decide +kernel
theorem r_X12_dayGoes_1 : k_X12_dayGoes_1.all (tb_rr cX12_dayGoes) = true := by decide +kernel
theorem r_X12_dayGoes_2 : k_X12_dayGoes_2.all (tb_rr cX12_dayGoes) = true := by decide +kernel
def M_X12_dayGoes : ab_MD := (K_X12, yX12_dayGoes, cX12_dayGoes, 4, none, false, k_X12_dayGoes)
theorem o_X12_dayGoes : ab_OK M_X12_dayGoes 1 := tb_ok OC_X12 (by decide +kernel) (tb_app r_X12_dayGoes_0 (tb_app r_X12_dayGoes_1 r_X12_dayGoes_2)) (ab_T_in (tb_c_in 9 _ (List.mem_of_getElem? (i := 65) (rfl : (tb_c 9)[65]? = some (Cond.code yX12_dayGoes cX12_dayGoes 4 none)))) rfl) IN_X12
theorem v_X12_dayGoes : ab_kV M_X12_dayGoes 12 := ⟨(ab_T_in (tb_c_in 9 _ (List.mem_of_getElem? (i := 64) (rfl : (tb_c 9)[64]? = some (Cond.instanceMethod yX12_dayGoes)))) rfl), (ab_T_in (tb_c_in 0 _ (List.mem_of_getElem? (i := 98) (rfl : (tb_c 0)[98]? = some (Cond.selects RX12 yX12_dayGoes yX12_dayGoes)))) rfl), _, rfl, rfl⟩
def k_X12_deal_0 : List (Nat × Instr × Nat) :=
  [(0, .aload_n 0, 1), (1, .iconst 0, 1), (2, .putfield 145, 3), (5, .aload_n 0, 1), (6, .invokevirtual 362, 3), (9, .aload_n 0, 1), (10, .iconst 0, 1), (11, .invokevirtual 462, 3),
   (14, .aload_n 0, 1), (15, .iconst 0, 1), (16, .bipush (-2), 2), (18, .invokevirtual 392, 3), (21, .istore_n 1, 1), (22, .iconst 0, 1), (23, .istore_n 2, 1), (24, .iload_n 2, 1),
   (25, .sipush 512, 3), (28, .if_icmp .ge 16, 3), (31, .aload_n 0, 1), (32, .getfield 118, 3), (35, .iload_n 2, 1), (36, .iconst 0, 1), (37, .iastore, 1), (38, .iinc 2 1, 3),
   (41, .goto (-17), 3), (44, .iconst 0, 1), (45, .istore_n 2, 1), (46, .iload_n 2, 1), (47, .aload_n 0, 1), (48, .getfield 228, 3), (51, .if_icmp .ge 194, 3), (54, .aload_n 0, 1),
   (55, .iconst 0, 1), (56, .iload_n 2, 1), (57, .invokevirtual 392, 3), (60, .istore_n 3, 1), (61, .iconst 0, 1), (62, .istore 4, 2), (64, .iconst 0, 1), (65, .istore 5, 2),
   (67, .iload 5, 2), (69, .aload_n 0, 1), (70, .getfield 225, 3), (73, .if_icmp .ge 42, 3), (76, .iload 4, 2), (78, .iload_n 1, 1), (79, .iload 5, 2), (81, .invokestatic 412, 3)]
def k_X12_deal_1 : List (Nat × Instr × Nat) :=
  [(84, .ifCond .eq 21, 3), (87, .aload_n 0, 1), (88, .iconst 0, 1), (89, .iload_n 2, 1), (90, .iload 5, 2), (92, .invokevirtual 447, 3), (95, .ifCond .eq 10, 3), (98, .iconst 1, 1),
   (99, .iload 5, 2), (101, .ishl, 1), (102, .goto 4, 3), (105, .iconst 0, 1), (106, .ior, 1), (107, .istore 4, 2), (109, .iinc 5 1, 3), (112, .goto (-45), 3),
   (115, .sipush 511, 3), (118, .istore 5, 2), (120, .iload 5, 2), (122, .ifCond .lt 117, 3), (125, .iload 5, 2), (127, .iload_n 1, 1), (128, .iconst (-1), 1), (129, .ixor, 1),
   (130, .iand, 1), (131, .ifCond .eq 6, 3), (134, .goto 99, 3), (137, .iconst 0, 1), (138, .istore 6, 2), (140, .iload 5, 2), (142, .iload 4, 2), (144, .iand, 1),
   (145, .istore 7, 2), (147, .iload 7, 2), (149, .istore 8, 2), (151, .iload 8, 2), (153, .ifCond .lt 71, 3), (156, .aload_n 0, 1), (157, .getfield 118, 3), (160, .iload 5, 2),
   (162, .iload 8, 2), (164, .iconst (-1), 1), (165, .ixor, 1), (166, .iand, 1), (167, .iaload, 1), (168, .aload_n 0, 1), (169, .iload_n 3, 1), (170, .iload 8, 2)]
def k_X12_deal_2 : List (Nat × Instr × Nat) :=
  [(172, .ior, 1), (173, .invokevirtual 512, 3), (176, .ifCond .eq 7, 3), (179, .iconst 1, 1), (180, .goto 4, 3), (183, .iconst 0, 1), (184, .iadd, 1), (185, .istore 9, 2),
   (187, .iload 9, 2), (189, .iload 6, 2), (191, .if_icmp .le 8, 3), (194, .iload 9, 2), (196, .goto 5, 3), (199, .iload 6, 2), (201, .istore 6, 2), (203, .iload 8, 2),
   (205, .ifCond .ne 7, 3), (208, .iconst (-1), 1), (209, .goto 10, 3), (212, .iload 8, 2), (214, .iconst 1, 1), (215, .isub, 1), (216, .iload 7, 2), (218, .iand, 1),
   (219, .istore 8, 2), (221, .goto (-70), 3), (224, .aload_n 0, 1), (225, .getfield 118, 3), (228, .iload 5, 2), (230, .iload 6, 2), (232, .iastore, 1), (233, .iinc 5 (-1), 3),
   (236, .goto (-116), 3), (239, .iinc 2 1, 3), (242, .goto (-196), 3), (245, .aload_n 0, 1), (246, .getfield 118, 3), (249, .iload_n 1, 1), (250, .iaload, 1), (251, .ireturn, 1)]
def k_X12_deal : List (Nat × Instr × Nat) := k_X12_deal_0 ++ (k_X12_deal_1 ++ (k_X12_deal_2))
theorem r_X12_deal_0 : k_X12_deal_0.all (tb_rr cX12_deal) = true := by decide +kernel
theorem r_X12_deal_1 : k_X12_deal_1.all (tb_rr cX12_deal) = true := by decide +kernel
theorem r_X12_deal_2 : k_X12_deal_2.all (tb_rr cX12_deal) = true := by decide +kernel
def M_X12_deal : ab_MD := (K_X12, yX12_deal, cX12_deal, 10, (some .int), false, k_X12_deal)
theorem o_X12_deal : ab_OK M_X12_deal 0 := tb_ok OC_X12 (by decide +kernel) (tb_app r_X12_deal_0 (tb_app r_X12_deal_1 r_X12_deal_2)) (ab_T_in (tb_c_in 9 _ (List.mem_of_getElem? (i := 158) (rfl : (tb_c 9)[158]? = some (Cond.code yX12_deal cX12_deal 10 (some .int))))) rfl) IN_X12
theorem v_X12_deal : ab_kV M_X12_deal 12 := ⟨(ab_T_in (tb_c_in 9 _ (List.mem_of_getElem? (i := 156) (rfl : (tb_c 9)[156]? = some (Cond.instanceMethod yX12_deal)))) rfl), (ab_T_in (tb_c_in 9 _ (List.mem_of_getElem? (i := 157) (rfl : (tb_c 9)[157]? = some (Cond.selects RX12 yX12_deal yX12_deal)))) rfl), _, rfl, rfl⟩
def k_X12_dearest : List (Nat × Instr × Nat) :=
  [(0, .aload_n 0, 1), (1, .iconst 0, 1), (2, .putfield 145, 3), (5, .aload_n 0, 1), (6, .iload_n 1, 1), (7, .invokevirtual 480, 3), (10, .ifCond .eq 12, 3), (13, .iload_n 2, 1),
   (14, .iconst 0, 1), (15, .iconst 2, 1), (16, .invokestatic 190, 3), (19, .ifCond .ne 5, 3), (22, .iconst (-1), 1), (23, .ireturn, 1), (24, .aload_n 0, 1), (25, .invokevirtual 362, 3),
   (28, .aload_n 0, 1), (29, .iconst 0, 1), (30, .invokevirtual 462, 3), (33, .aload_n 0, 1), (34, .iconst 0, 1), (35, .iload_n 1, 1), (36, .invokevirtual 465, 3), (39, .ifCond .ne 6, 3),
   (42, .bipush (-2), 2), (44, .ireturn, 1), (45, .iload_n 2, 1), (46, .ifCond .ne 10, 3), (49, .aload_n 0, 1), (50, .getfield 424, 3), (53, .goto 19, 3), (56, .iload_n 2, 1),
   (57, .iconst 1, 1), (58, .if_icmp .ne 10, 3), (61, .aload_n 0, 1), (62, .getfield 433, 3), (65, .goto 7, 3), (68, .aload_n 0, 1), (69, .getfield 436, 3), (72, .ireturn, 1)]
def M_X12_dearest : ab_MD := (K_X12, yX12_dearest, cX12_dearest, 3, (some .int), false, k_X12_dearest)
theorem o_X12_dearest : ab_OK M_X12_dearest 2 := tb_ok OC_X12 (by decide +kernel) (by decide +kernel) (ab_T_in (tb_c_in 9 _ (List.mem_of_getElem? (i := 126) (rfl : (tb_c 9)[126]? = some (Cond.code yX12_dearest cX12_dearest 3 (some .int))))) rfl) IN_X12
theorem v_X12_dearest : ab_kV M_X12_dearest 12 := ⟨(ab_T_in (tb_c_in 9 _ (List.mem_of_getElem? (i := 124) (rfl : (tb_c 9)[124]? = some (Cond.instanceMethod yX12_dearest)))) rfl), (ab_T_in (tb_c_in 9 _ (List.mem_of_getElem? (i := 125) (rfl : (tb_c 9)[125]? = some (Cond.selects RX12 yX12_dearest yX12_dearest)))) rfl), _, rfl, rfl⟩
def k_X12_drawLine : List (Nat × Instr × Nat) :=
  [(0, .aload_n 0, 1), (1, .getfield 216, 3), (4, .bipush 10, 2), (6, .if_icmp .ne 9, 3), (9, .aload_n 0, 1), (10, .iconst 2, 1), (11, .invokevirtual 187, 3), (14, .ireturn, 1),
   (15, .aload_n 0, 1), (16, .invokevirtual 197, 3), (19, .aload_n 0, 1), (20, .aload_n 0, 1), (21, .getfield 42, 3), (24, .iconst 5, 1), (25, .aload_n 0, 1), (26, .getfield 210, 3),
   (29, .invokevirtual 255, 3), (32, .ifCond .ne 5, 3), (35, .iconst 0, 1), (36, .ireturn, 1), (37, .aload_n 0, 1), (38, .getfield 54, 3), (41, .bipush 10, 2), (43, .aload_n 0, 1),
   (44, .getfield 216, 3), (47, .iadd, 1), (48, .aload_n 0, 1), (49, .getfield 194, 3), (52, .iastore, 1), (53, .aload_n 0, 1), (54, .iconst 0, 1), (55, .bipush 99, 2),
   (57, .invokevirtual 203, 3), (60, .ifCond .ne 5, 3), (63, .iconst 0, 1), (64, .ireturn, 1), (65, .aload_n 0, 1), (66, .getfield 57, 3), (69, .bipush 10, 2), (71, .aload_n 0, 1),
   (72, .getfield 216, 3), (75, .iadd, 1), (76, .aload_n 0, 1), (77, .getfield 194, 3), (80, .iastore, 1), (81, .aload_n 0, 1), (82, .dup, 1), (83, .getfield 216, 3),
   (86, .iconst 1, 1), (87, .iadd, 1), (88, .putfield 216, 3), (91, .iconst 1, 1), (92, .ireturn, 1)]
def M_X12_drawLine : ab_MD := (K_X12, yX12_drawLine, cX12_drawLine, 1, (some .boolean), false, k_X12_drawLine)
theorem o_X12_drawLine : ab_OK M_X12_drawLine 0 := tb_ok OC_X12 (by decide +kernel) (by decide +kernel) (ab_T_in (tb_c_in 8 _ (List.mem_of_getElem? (i := 111) (rfl : (tb_c 8)[111]? = some (Cond.code yX12_drawLine cX12_drawLine 1 (some .boolean))))) rfl) IN_X12
theorem v_X12_drawLine : ab_kV M_X12_drawLine 12 := ⟨(ab_T_in (tb_c_in 8 _ (List.mem_of_getElem? (i := 110) (rfl : (tb_c 8)[110]? = some (Cond.instanceMethod yX12_drawLine)))) rfl), (ab_T_in (tb_c_in 0 _ (List.mem_of_getElem? (i := 65) (rfl : (tb_c 0)[65]? = some (Cond.selects RX12 yX12_drawLine yX12_drawLine)))) rfl), _, rfl, rfl⟩
def k_X12_drawsOne : List (Nat × Instr × Nat) :=
  [(0, .aload_n 0, 1), (1, .iload_n 1, 1), (2, .bipush (-2), 2), (4, .invokevirtual 392, 3), (7, .istore_n 3, 1), (8, .iload_n 3, 1), (9, .ifCond .ne 5, 3), (12, .iconst 0, 1),
   (13, .ireturn, 1), (14, .iload_n 3, 1), (15, .invokestatic 395, 3), (18, .iconst 1, 1), (19, .if_icmp .le 21, 3), (22, .aload_n 0, 1), (23, .getfield 374, 3), (26, .ifCond .eq 14, 3),
   (29, .aload_n 0, 1), (30, .iload_n 3, 1), (31, .invokestatic 395, 3), (34, .invokevirtual 450, 3), (37, .goto 4, 3), (40, .iconst 0, 1), (41, .istore 4, 2), (43, .iconst 0, 1),
   (44, .istore 5, 2), (46, .iload_n 3, 1), (47, .iload 5, 2), (49, .invokestatic 412, 3), (52, .ifCond .eq 8, 3), (55, .iload 4, 2), (57, .ifCond .le 28, 3), (60, .iload 4, 2),
   (62, .iload_n 3, 1), (63, .iload 5, 2), (65, .invokestatic 412, 3), (68, .ifCond .eq 7, 3), (71, .iconst 1, 1), (72, .goto 4, 3), (75, .iconst 0, 1), (76, .isub, 1),
   (77, .istore 4, 2), (79, .iinc 5 1, 3), (82, .goto (-36), 3), (85, .aload_n 0, 1), (86, .iload_n 1, 1), (87, .iload_n 2, 1), (88, .iload 5, 2), (90, .invokevirtual 447, 3),
   (93, .ifCond .ne 5, 3), (96, .iconst 0, 1), (97, .ireturn, 1), (98, .aload_n 0, 1), (99, .getfield 91, 3), (102, .bipush 9, 2), (104, .iload_n 1, 1), (105, .imul, 1),
   (106, .iload 5, 2), (108, .iadd, 1), (109, .iload_n 2, 1), (110, .iastore, 1), (111, .iconst 1, 1), (112, .ireturn, 1)]
def M_X12_drawsOne : ab_MD := (K_X12, yX12_drawsOne, cX12_drawsOne, 6, (some .boolean), false, k_X12_drawsOne)
theorem o_X12_drawsOne : ab_OK M_X12_drawsOne 2 := tb_ok OC_X12 (by decide +kernel) (by decide +kernel) (ab_T_in (tb_c_in 9 _ (List.mem_of_getElem? (i := 69) (rfl : (tb_c 9)[69]? = some (Cond.code yX12_drawsOne cX12_drawsOne 6 (some .boolean))))) rfl) IN_X12
theorem v_X12_drawsOne : ab_kV M_X12_drawsOne 12 := ⟨(ab_T_in (tb_c_in 9 _ (List.mem_of_getElem? (i := 68) (rfl : (tb_c 9)[68]? = some (Cond.instanceMethod yX12_drawsOne)))) rfl), (ab_T_in (tb_c_in 0 _ (List.mem_of_getElem? (i := 99) (rfl : (tb_c 0)[99]? = some (Cond.selects RX12 yX12_drawsOne yX12_drawsOne)))) rfl), _, rfl, rfl⟩
def k_X12_dropHeld : List (Nat × Instr × Nat) :=
  [(0, .aload_n 0, 1), (1, .dup, 1), (2, .getfield 283, 3), (5, .iconst 1, 1), (6, .isub, 1), (7, .putfield 283, 3), (10, .aload_n 0, 1), (11, .getfield 81, 3),
   (14, .aload_n 0, 1), (15, .getfield 283, 3), (18, .iaload, 1), (19, .ireturn, 1)]
def M_X12_dropHeld : ab_MD := (K_X12, yX12_dropHeld, cX12_dropHeld, 1, (some .int), false, k_X12_dropHeld)
theorem o_X12_dropHeld : ab_OK M_X12_dropHeld 0 := tb_ok OC_X12 (by decide +kernel) (by decide +kernel) (ab_T_in (tb_c_in 8 _ (List.mem_of_getElem? (i := 162) (rfl : (tb_c 8)[162]? = some (Cond.code yX12_dropHeld cX12_dropHeld 1 (some .int))))) rfl) IN_X12
theorem v_X12_dropHeld : ab_kV M_X12_dropHeld 12 := ⟨(ab_T_in (tb_c_in 8 _ (List.mem_of_getElem? (i := 161) (rfl : (tb_c 8)[161]? = some (Cond.instanceMethod yX12_dropHeld)))) rfl), (ab_T_in (tb_c_in 0 _ (List.mem_of_getElem? (i := 77) (rfl : (tb_c 0)[77]? = some (Cond.selects RX12 yX12_dropHeld yX12_dropHeld)))) rfl), _, rfl, rfl⟩
def k_X12_endsBy_0 : List (Nat × Instr × Nat) :=
  [(0, .iconst 0, 1), (1, .istore 5, 2), (3, .iconst 0, 1), (4, .istore 6, 2), (6, .iload 6, 2), (8, .aload_n 0, 1), (9, .getfield 225, 3), (12, .if_icmp .ge 171, 3),
   (15, .iload_n 1, 1), (16, .iload 6, 2), (18, .invokestatic 412, 3), (21, .ifCond .eq 156, 3), (24, .iload_n 2, 1), (25, .iload 6, 2), (27, .invokestatic 412, 3), (30, .ifCond .eq 6, 3),
   (33, .goto 144, 3), (36, .iconst 0, 1), (37, .istore 7, 2), (39, .iload 7, 2), (41, .iconst 2, 1), (42, .if_icmp .ge 135, 3), (45, .iload 7, 2), (47, .ifCond .ne 13, 3),
   (50, .aload_n 0, 1), (51, .getfield 30, 3), (54, .iload 6, 2), (56, .iaload, 1), (57, .goto 10, 3), (60, .aload_n 0, 1), (61, .getfield 33, 3), (64, .iload 6, 2),
   (66, .iaload, 1), (67, .istore 8, 2), (69, .iload 7, 2), (71, .ifCond .ne 13, 3), (74, .aload_n 0, 1), (75, .getfield 33, 3), (78, .iload 6, 2), (80, .iaload, 1),
   (81, .goto 10, 3), (84, .aload_n 0, 1), (85, .getfield 30, 3), (88, .iload 6, 2), (90, .iaload, 1), (91, .istore 9, 2), (93, .aload_n 0, 1), (94, .getfield 106, 3)]
def k_X12_endsBy_1 : List (Nat × Instr × Nat) :=
  [(97, .iload 4, 2), (99, .iaload, 1), (100, .iload 8, 2), (102, .invokestatic 412, 3), (105, .ifCond .eq 27, 3), (108, .iload 5, 2), (110, .aload_n 0, 1), (111, .getfield 121, 3),
   (114, .iload_n 2, 1), (115, .iconst 1, 1), (116, .iload 6, 2), (118, .ishl, 1), (119, .ior, 1), (120, .iload_n 3, 1), (121, .iload 9, 2), (123, .invokestatic 518, 3),
   (126, .iaload, 1), (127, .invokestatic 522, 3), (130, .istore 5, 2), (132, .aload_n 0, 1), (133, .getfield 106, 3), (136, .iload 9, 2), (138, .iaload, 1), (139, .iload_n 3, 1),
   (140, .invokestatic 412, 3), (143, .ifCond .eq 28, 3), (146, .iload 5, 2), (148, .aload_n 0, 1), (149, .getfield 121, 3), (152, .iload_n 2, 1), (153, .iconst 1, 1), (154, .iload 6, 2),
   (156, .ishl, 1), (157, .ior, 1), (158, .iload 8, 2), (160, .iload 4, 2), (162, .invokestatic 518, 3), (165, .iaload, 1), (166, .invokestatic 522, 3), (169, .istore 5, 2),
   (171, .iinc 7 1, 3), (174, .goto (-135), 3), (177, .iinc 6 1, 3), (180, .goto (-174), 3), (183, .iload 5, 2), (185, .ifCond .ne 7, 3), (188, .iconst (-1), 1), (189, .goto 5, 3)]
def k_X12_endsBy_2 : List (Nat × Instr × Nat) :=
  [(192, .iload 5, 2), (194, .ireturn, 1)]
def k_X12_endsBy : List (Nat × Instr × Nat) := k_X12_endsBy_0 ++ (k_X12_endsBy_1 ++ (k_X12_endsBy_2))
theorem r_X12_endsBy_0 : k_X12_endsBy_0.all (tb_rr cX12_endsBy) = true := by decide +kernel
theorem r_X12_endsBy_1 : k_X12_endsBy_1.all (tb_rr cX12_endsBy) = true := by decide +kernel
theorem r_X12_endsBy_2 : k_X12_endsBy_2.all (tb_rr cX12_endsBy) = true := by decide +kernel
def M_X12_endsBy : ab_MD := (K_X12, yX12_endsBy, cX12_endsBy, 10, (some .int), false, k_X12_endsBy)
theorem o_X12_endsBy : ab_OK M_X12_endsBy 4 := tb_ok OC_X12 (by decide +kernel) (tb_app r_X12_endsBy_0 (tb_app r_X12_endsBy_1 r_X12_endsBy_2)) (ab_T_in (tb_c_in 9 _ (List.mem_of_getElem? (i := 173) (rfl : (tb_c 9)[173]? = some (Cond.code yX12_endsBy cX12_endsBy 10 (some .int))))) rfl) IN_X12
theorem v_X12_endsBy : ab_kV M_X12_endsBy 12 := ⟨(ab_T_in (tb_c_in 9 _ (List.mem_of_getElem? (i := 172) (rfl : (tb_c 9)[172]? = some (Cond.instanceMethod yX12_endsBy)))) rfl), (ab_T_in (tb_c_in 0 _ (List.mem_of_getElem? (i := 110) (rfl : (tb_c 0)[110]? = some (Cond.selects RX12 yX12_endsBy yX12_endsBy)))) rfl), _, rfl, rfl⟩
def k_X12_fails : List (Nat × Instr × Nat) :=
  [(0, .aload_n 0, 1), (1, .iload_n 1, 1), (2, .putfield 145, 3), (5, .iconst 0, 1), (6, .ireturn, 1)]
def M_X12_fails : ab_MD := (K_X12, yX12_fails, cX12_fails, 2, (some .int), false, k_X12_fails)
theorem o_X12_fails : ab_OK M_X12_fails 1 := tb_ok OC_X12 (by decide +kernel) (by decide +kernel) (ab_T_in (tb_c_in 8 _ (List.mem_of_getElem? (i := 182) (rfl : (tb_c 8)[182]? = some (Cond.code yX12_fails cX12_fails 2 (some .int))))) rfl) IN_X12
theorem v_X12_fails : ab_kV M_X12_fails 12 := ⟨(ab_T_in (tb_c_in 8 _ (List.mem_of_getElem? (i := 181) (rfl : (tb_c 8)[181]? = some (Cond.instanceMethod yX12_fails)))) rfl), (ab_T_in (tb_c_in 0 _ (List.mem_of_getElem? (i := 79) (rfl : (tb_c 0)[79]? = some (Cond.selects RX12 yX12_fails yX12_fails)))) rfl), _, rfl, rfl⟩
def k_X12_fault : List (Nat × Instr × Nat) :=
  [(0, .aload_n 0, 1), (1, .iconst 0, 1), (2, .putfield 145, 3), (5, .iload_n 1, 1), (6, .ifCond .ne 10, 3), (9, .aload_n 0, 1), (10, .getfield 151, 3), (13, .goto 16, 3),
   (16, .iload_n 1, 1), (17, .iconst 1, 1), (18, .if_icmp .ne 10, 3), (21, .aload_n 0, 1), (22, .getfield 16, 3), (25, .goto 4, 3), (28, .iconst (-1), 1), (29, .ireturn, 1)]
def M_X12_fault : ab_MD := (K_X12, yX12_fault, cX12_fault, 2, (some .int), false, k_X12_fault)
theorem o_X12_fault : ab_OK M_X12_fault 1 := tb_ok OC_X12 (by decide +kernel) (by decide +kernel) (ab_T_in (tb_c_in 8 _ (List.mem_of_getElem? (i := 166) (rfl : (tb_c 8)[166]? = some (Cond.code yX12_fault cX12_fault 2 (some .int))))) rfl) IN_X12
theorem v_X12_fault : ab_kV M_X12_fault 12 := ⟨(ab_T_in (tb_c_in 8 _ (List.mem_of_getElem? (i := 164) (rfl : (tb_c 8)[164]? = some (Cond.instanceMethod yX12_fault)))) rfl), (ab_T_in (tb_c_in 8 _ (List.mem_of_getElem? (i := 165) (rfl : (tb_c 8)[165]? = some (Cond.selects RX12 yX12_fault yX12_fault)))) rfl), _, rfl, rfl⟩
def k_X12_feed : List (Nat × Instr × Nat) :=
  [(0, .aload_n 0, 1), (1, .iconst 0, 1), (2, .putfield 145, 3), (5, .aload_n 0, 1), (6, .getfield 148, 3), (9, .bipush 20, 2), (11, .iadd, 1), (12, .sipush 700, 3),
   (15, .if_icmp .le 5, 3), (18, .iconst (-1), 1), (19, .ireturn, 1), (20, .iconst 0, 1), (21, .istore 6, 2), (23, .iload 6, 2), (25, .bipush 20, 2), (27, .if_icmp .ge 86, 3),
   (30, .iload 6, 2), (32, .iconst 4, 1), (33, .if_icmp .ge 7, 3), (36, .iload_n 1, 1), (37, .goto 39, 3), (40, .iload 6, 2), (42, .bipush 8, 2), (44, .if_icmp .ge 7, 3),
   (47, .iload_n 2, 1), (48, .goto 28, 3), (51, .iload 6, 2), (53, .bipush 12, 2), (55, .if_icmp .ge 7, 3), (58, .iload_n 3, 1), (59, .goto 17, 3), (62, .iload 6, 2),
   (64, .bipush 16, 2), (66, .if_icmp .ge 8, 3), (69, .iload 4, 2), (71, .goto 5, 3), (74, .iload 5, 2), (76, .istore 7, 2), (78, .aload_n 0, 1), (79, .getfield 7, 3),
   (82, .aload_n 0, 1), (83, .getfield 148, 3), (86, .iload 6, 2), (88, .iadd, 1), (89, .iload 7, 2), (91, .bipush 24, 2), (93, .bipush 8, 2), (95, .iload 6, 2),
   (97, .iconst 4, 1), (98, .irem, 1), (99, .imul, 1), (100, .isub, 1), (101, .ishr, 1), (102, .sipush 255, 3), (105, .iand, 1), (106, .iastore, 1),
   (107, .iinc 6 1, 3), (110, .goto (-87), 3), (113, .aload_n 0, 1), (114, .dup, 1), (115, .getfield 148, 3), (118, .bipush 20, 2), (120, .iadd, 1), (121, .putfield 148, 3),
   (124, .aload_n 0, 1), (125, .getfield 148, 3), (128, .ireturn, 1)]
def M_X12_feed : ab_MD := (K_X12, yX12_feed, cX12_feed, 8, (some .int), false, k_X12_feed)
theorem o_X12_feed : ab_OK M_X12_feed 5 := tb_ok OC_X12 (by decide +kernel) (by decide +kernel) (ab_T_in (tb_c_in 8 _ (List.mem_of_getElem? (i := 36) (rfl : (tb_c 8)[36]? = some (Cond.code yX12_feed cX12_feed 8 (some .int))))) rfl) IN_X12
theorem v_X12_feed : ab_kV M_X12_feed 12 := ⟨(ab_T_in (tb_c_in 8 _ (List.mem_of_getElem? (i := 34) (rfl : (tb_c 8)[34]? = some (Cond.instanceMethod yX12_feed)))) rfl), (ab_T_in (tb_c_in 8 _ (List.mem_of_getElem? (i := 35) (rfl : (tb_c 8)[35]? = some (Cond.selects RX12 yX12_feed yX12_feed)))) rfl), _, rfl, rfl⟩
def k_X12_fewest_0 : List (Nat × Instr × Nat) :=
  [(0, .aload_n 0, 1), (1, .iconst 0, 1), (2, .putfield 145, 3), (5, .aload_n 0, 1), (6, .iload_n 1, 1), (7, .invokevirtual 480, 3), (10, .ifCond .ne 5, 3), (13, .iconst (-1), 1),
   (14, .ireturn, 1), (15, .aload_n 0, 1), (16, .invokevirtual 362, 3), (19, .aload_n 0, 1), (20, .iconst 0, 1), (21, .invokevirtual 462, 3), (24, .aload_n 0, 1), (25, .iconst 0, 1),
   (26, .iload_n 1, 1), (27, .invokevirtual 392, 3), (30, .istore_n 2, 1), (31, .aload_n 0, 1), (32, .getfield 118, 3), (35, .iconst 0, 1), (36, .iconst 0, 1), (37, .iastore, 1),
   (38, .iconst 1, 1), (39, .istore_n 3, 1), (40, .iload_n 3, 1), (41, .sipush 512, 3), (44, .if_icmp .ge 97, 3), (47, .iload_n 3, 1), (48, .iload_n 2, 1), (49, .iconst (-1), 1),
   (50, .ixor, 1), (51, .iand, 1), (52, .ifCond .eq 6, 3), (55, .goto 80, 3), (58, .aload_n 0, 1), (59, .getfield 118, 3), (62, .iload_n 3, 1), (63, .bipush 99, 2),
   (65, .iastore, 1), (66, .iload_n 3, 1), (67, .istore 4, 2), (69, .iload 4, 2), (71, .ifCond .le 64, 3), (74, .aload_n 0, 1), (75, .iload 4, 2), (77, .invokevirtual 512, 3)]
def k_X12_fewest_1 : List (Nat × Instr × Nat) :=
  [(80, .ifCond .eq 44, 3), (83, .aload_n 0, 1), (84, .getfield 118, 3), (87, .iload_n 3, 1), (88, .iload 4, 2), (90, .iconst (-1), 1), (91, .ixor, 1), (92, .iand, 1),
   (93, .iaload, 1), (94, .iconst 1, 1), (95, .iadd, 1), (96, .aload_n 0, 1), (97, .getfield 118, 3), (100, .iload_n 3, 1), (101, .iaload, 1), (102, .if_icmp .ge 22, 3),
   (105, .aload_n 0, 1), (106, .getfield 118, 3), (109, .iload_n 3, 1), (110, .aload_n 0, 1), (111, .getfield 118, 3), (114, .iload_n 3, 1), (115, .iload 4, 2), (117, .iconst (-1), 1),
   (118, .ixor, 1), (119, .iand, 1), (120, .iaload, 1), (121, .iconst 1, 1), (122, .iadd, 1), (123, .iastore, 1), (124, .iload 4, 2), (126, .iconst 1, 1),
   (127, .isub, 1), (128, .iload_n 3, 1), (129, .iand, 1), (130, .istore 4, 2), (132, .goto (-63), 3), (135, .iinc 3 1, 3), (138, .goto (-98), 3), (141, .aload_n 0, 1),
   (142, .getfield 118, 3), (145, .iload_n 2, 1), (146, .iaload, 1), (147, .ireturn, 1)]
def k_X12_fewest : List (Nat × Instr × Nat) := k_X12_fewest_0 ++ (k_X12_fewest_1)
theorem r_X12_fewest_0 : k_X12_fewest_0.all (tb_rr cX12_fewest) = true := by decide +kernel
theorem r_X12_fewest_1 : k_X12_fewest_1.all (tb_rr cX12_fewest) = true := by decide +kernel
def M_X12_fewest : ab_MD := (K_X12, yX12_fewest, cX12_fewest, 5, (some .int), false, k_X12_fewest)
theorem o_X12_fewest : ab_OK M_X12_fewest 1 := tb_ok OC_X12 (by decide +kernel) (tb_app r_X12_fewest_0 r_X12_fewest_1) (ab_T_in (tb_c_in 9 _ (List.mem_of_getElem? (i := 130) (rfl : (tb_c 9)[130]? = some (Cond.code yX12_fewest cX12_fewest 5 (some .int))))) rfl) IN_X12
theorem v_X12_fewest : ab_kV M_X12_fewest 12 := ⟨(ab_T_in (tb_c_in 9 _ (List.mem_of_getElem? (i := 128) (rfl : (tb_c 9)[128]? = some (Cond.instanceMethod yX12_fewest)))) rfl), (ab_T_in (tb_c_in 9 _ (List.mem_of_getElem? (i := 129) (rfl : (tb_c 9)[129]? = some (Cond.selects RX12 yX12_fewest yX12_fewest)))) rfl), _, rfl, rfl⟩
def k_X12_find : List (Nat × Instr × Nat) :=
  [(0, .iconst 0, 1), (1, .istore 4, 2), (3, .iload 4, 2), (5, .iload_n 2, 1), (6, .if_icmp .ge 22, 3), (9, .aload_n 0, 1), (10, .iload_n 1, 1), (11, .iload 4, 2),
   (13, .iadd, 1), (14, .iaload, 1), (15, .iload_n 3, 1), (16, .if_icmp .ne 6, 3), (19, .iload 4, 2), (21, .ireturn, 1), (22, .iinc 4 1, 3), (25, .goto (-22), 3),
   (28, .iconst (-1), 1), (29, .ireturn, 1)]
def M_X12_find : ab_MD := (K_X12, yX12_find, cX12_find, 5, (some .int), false, k_X12_find)
theorem o_X12_find : ab_OK M_X12_find 4 := tb_ok OC_X12 (by decide +kernel) (by decide +kernel) (ab_T_in (tb_c_in 8 _ (List.mem_of_getElem? (i := 84) (rfl : (tb_c 8)[84]? = some (Cond.code yX12_find cX12_find 5 (some .int))))) rfl) IN_X12
theorem s_X12_find : Cond.static M_X12_find.2.1 ∈ ab_T := (ab_T_in (tb_c_in 8 _ (List.mem_of_getElem? (i := 83) (rfl : (tb_c 8)[83]? = some (Cond.static yX12_find)))) rfl)
def k_X12_firstRow_0 : List (Nat × Instr × Nat) :=
  [(0, .aload_n 0, 1), (1, .iconst 0, 1), (2, .putfield 145, 3), (5, .aload_n 0, 1), (6, .iload_n 1, 1), (7, .invokevirtual 480, 3), (10, .ifCond .eq 13, 3), (13, .iload_n 2, 1),
   (14, .iconst 0, 1), (15, .bipush 8, 2), (17, .invokestatic 190, 3), (20, .ifCond .ne 5, 3), (23, .iconst (-1), 1), (24, .ireturn, 1), (25, .aload_n 0, 1), (26, .invokevirtual 362, 3),
   (29, .aload_n 0, 1), (30, .iconst 0, 1), (31, .invokevirtual 418, 3), (34, .aload_n 0, 1), (35, .bipush 127, 2), (37, .invokevirtual 505, 3), (40, .aload_n 0, 1), (41, .iconst 0, 1),
   (42, .iload_n 1, 1), (43, .invokevirtual 392, 3), (46, .istore_n 3, 1), (47, .iload_n 2, 1), (48, .iload_n 3, 1), (49, .invokestatic 395, 3), (52, .if_icmp .ge 14, 3), (55, .aload_n 0, 1),
   (56, .iload_n 3, 1), (57, .iconst (-1), 1), (58, .invokevirtual 508, 3), (61, .lconst 0, 1), (62, .lcmp, 1), (63, .ifCond .ne 6, 3), (66, .bipush (-2), 2), (68, .ireturn, 1),
   (69, .iconst (-1), 1), (70, .istore 4, 2), (72, .iconst (-1), 1), (73, .istore 5, 2), (75, .iconst 0, 1), (76, .istore 6, 2), (78, .iload 6, 2), (80, .iload_n 2, 1)]
def k_X12_firstRow_1 : List (Nat × Instr × Nat) :=
  [(81, .if_icmp .gt 217, 3), (84, .iconst (-1), 1), (85, .istore 5, 2), (87, .iconst 0, 1), (88, .istore 7, 2), (90, .iload 7, 2), (92, .iconst 2, 1), (93, .aload_n 0, 1),
   (94, .getfield 225, 3), (97, .imul, 1), (98, .if_icmp .ge 153, 3), (101, .iload 5, 2), (103, .ifCond .ge 148, 3), (106, .iload 7, 2), (108, .iconst 2, 1), (109, .idiv, 1),
   (110, .istore 8, 2), (112, .iload_n 3, 1), (113, .iload 8, 2), (115, .invokestatic 412, 3), (118, .ifCond .eq 127, 3), (121, .iload 7, 2), (123, .iconst 2, 1), (124, .irem, 1),
   (125, .iconst 1, 1), (126, .if_icmp .ne 16, 3), (129, .aload_n 0, 1), (130, .iload 8, 2), (132, .invokevirtual 500, 3), (135, .iconst 1, 1), (136, .if_icmp .ne 6, 3), (139, .goto 106, 3),
   (142, .iload 7, 2), (144, .iconst 2, 1), (145, .irem, 1), (146, .ifCond .ne 13, 3), (149, .aload_n 0, 1), (150, .getfield 30, 3), (153, .iload 8, 2), (155, .iaload, 1),
   (156, .goto 10, 3), (159, .aload_n 0, 1), (160, .getfield 33, 3), (163, .iload 8, 2), (165, .iaload, 1), (166, .istore 9, 2), (168, .iload 7, 2), (170, .iconst 2, 1)]
def k_X12_firstRow_2 : List (Nat × Instr × Nat) :=
  [(171, .irem, 1), (172, .ifCond .ne 13, 3), (175, .aload_n 0, 1), (176, .getfield 33, 3), (179, .iload 8, 2), (181, .iaload, 1), (182, .goto 10, 3), (185, .aload_n 0, 1),
   (186, .getfield 30, 3), (189, .iload 8, 2), (191, .iaload, 1), (192, .istore 10, 2), (194, .iload 4, 2), (196, .ifCond .lt 18, 3), (199, .aload_n 0, 1), (200, .getfield 106, 3),
   (203, .iload 4, 2), (205, .iaload, 1), (206, .iload 9, 2), (208, .invokestatic 412, 3), (211, .ifCond .eq 34, 3), (214, .aload_n 0, 1), (215, .getfield 115, 3), (218, .bipush 7, 2),
   (220, .iload_n 3, 1), (221, .iconst 1, 1), (222, .iload 8, 2), (224, .ishl, 1), (225, .iconst (-1), 1), (226, .ixor, 1), (227, .iand, 1), (228, .imul, 1),
   (229, .iload 10, 2), (231, .iadd, 1), (232, .laload, 1), (233, .lconst 0, 1), (234, .lcmp, 1), (235, .ifCond .ne 6, 3), (238, .goto 7, 3), (241, .iload 7, 2),
   (243, .istore 5, 2), (245, .iinc 7 1, 3), (248, .goto (-158), 3), (251, .iload 5, 2), (253, .iconst 2, 1), (254, .idiv, 1), (255, .istore 7, 2), (257, .iload_n 3, 1)]
def k_X12_firstRow_3 : List (Nat × Instr × Nat) :=
  [(258, .iconst 1, 1), (259, .iload 7, 2), (261, .ishl, 1), (262, .iconst (-1), 1), (263, .ixor, 1), (264, .iand, 1), (265, .istore_n 3, 1), (266, .iload 5, 2),
   (268, .iconst 2, 1), (269, .irem, 1), (270, .ifCond .ne 13, 3), (273, .aload_n 0, 1), (274, .getfield 33, 3), (277, .iload 7, 2), (279, .iaload, 1), (280, .goto 10, 3),
   (283, .aload_n 0, 1), (284, .getfield 30, 3), (287, .iload 7, 2), (289, .iaload, 1), (290, .istore 4, 2), (292, .iinc 6 1, 3), (295, .goto (-217), 3), (298, .bipush 10, 2),
   (300, .iload 5, 2), (302, .iconst 2, 1), (303, .idiv, 1), (304, .imul, 1), (305, .iload 5, 2), (307, .iconst 2, 1), (308, .irem, 1), (309, .iadd, 1),
   (310, .ireturn, 1)]
def k_X12_firstRow : List (Nat × Instr × Nat) := k_X12_firstRow_0 ++ (k_X12_firstRow_1 ++ (k_X12_firstRow_2 ++ (k_X12_firstRow_3)))
theorem r_X12_firstRow_0 : k_X12_firstRow_0.all (tb_rr cX12_firstRow) = true := by decide +kernel
theorem r_X12_firstRow_1 : k_X12_firstRow_1.all (tb_rr cX12_firstRow) = true := by decide +kernel
theorem r_X12_firstRow_2 : k_X12_firstRow_2.all (tb_rr cX12_firstRow) = true := by decide +kernel
theorem r_X12_firstRow_3 : k_X12_firstRow_3.all (tb_rr cX12_firstRow) = true := by decide +kernel
def M_X12_firstRow : ab_MD := (K_X12, yX12_firstRow, cX12_firstRow, 11, (some .int), false, k_X12_firstRow)
theorem o_X12_firstRow : ab_OK M_X12_firstRow 2 := tb_ok OC_X12 (by decide +kernel) (tb_app r_X12_firstRow_0 (tb_app r_X12_firstRow_1 (tb_app r_X12_firstRow_2 r_X12_firstRow_3))) (ab_T_in (tb_c_in 9 _ (List.mem_of_getElem? (i := 122) (rfl : (tb_c 9)[122]? = some (Cond.code yX12_firstRow cX12_firstRow 11 (some .int))))) rfl) IN_X12
theorem v_X12_firstRow : ab_kV M_X12_firstRow 12 := ⟨(ab_T_in (tb_c_in 9 _ (List.mem_of_getElem? (i := 120) (rfl : (tb_c 9)[120]? = some (Cond.instanceMethod yX12_firstRow)))) rfl), (ab_T_in (tb_c_in 9 _ (List.mem_of_getElem? (i := 121) (rfl : (tb_c 9)[121]? = some (Cond.selects RX12 yX12_firstRow yX12_firstRow)))) rfl), _, rfl, rfl⟩
def k_X12_fits : List (Nat × Instr × Nat) :=
  [(0, .aload_n 0, 1), (1, .iconst 1, 1), (2, .invokevirtual 355, 3), (5, .aload_n 0, 1), (6, .invokevirtual 362, 3), (9, .aload_n 0, 1), (10, .iload_n 1, 1), (11, .putfield 389, 3),
   (14, .iconst 1, 1), (15, .istore_n 2, 1), (16, .iload_n 2, 1), (17, .bipush 60, 2), (19, .if_icmp .gt 24, 3), (22, .aload_n 0, 1), (23, .iconst 1, 1), (24, .invokevirtual 471, 3),
   (27, .aload_n 0, 1), (28, .iload_n 2, 1), (29, .invokevirtual 555, 3), (32, .ifCond .ne 5, 3), (35, .iconst 0, 1), (36, .ireturn, 1), (37, .iinc 2 1, 3), (40, .goto (-24), 3),
   (43, .iconst 1, 1), (44, .ireturn, 1)]
def M_X12_fits : ab_MD := (K_X12, yX12_fits, cX12_fits, 3, (some .boolean), false, k_X12_fits)
theorem o_X12_fits : ab_OK M_X12_fits 1 := tb_ok OC_X12 (by decide +kernel) (by decide +kernel) (ab_T_in (tb_c_in 9 _ (List.mem_of_getElem? (i := 239) (rfl : (tb_c 9)[239]? = some (Cond.code yX12_fits cX12_fits 3 (some .boolean))))) rfl) IN_X12
theorem v_X12_fits : ab_kV M_X12_fits 12 := ⟨(ab_T_in (tb_c_in 9 _ (List.mem_of_getElem? (i := 238) (rfl : (tb_c 9)[238]? = some (Cond.instanceMethod yX12_fits)))) rfl), (ab_T_in (tb_c_in 0 _ (List.mem_of_getElem? (i := 117) (rfl : (tb_c 0)[117]? = some (Cond.selects RX12 yX12_fits yX12_fits)))) rfl), _, rfl, rfl⟩
def k_X12_game_0 : List (Nat × Instr × Nat) :=
  [(0, .aload_n 0, 1), (1, .iconst 0, 1), (2, .putfield 145, 3), (5, .aload_n 0, 1), (6, .iload_n 1, 1), (7, .invokevirtual 480, 3), (10, .ifCond .eq 25, 3), (13, .aload_n 0, 1),
   (14, .iload_n 2, 1), (15, .invokevirtual 480, 3), (18, .ifCond .eq 17, 3), (21, .iload_n 1, 1), (22, .iload_n 2, 1), (23, .if_icmp .eq 12, 3), (26, .iload_n 3, 1), (27, .iconst 0, 1),
   (28, .iconst 2, 1), (29, .invokestatic 190, 3), (32, .ifCond .ne 5, 3), (35, .iconst (-1), 1), (36, .ireturn, 1), (37, .aload_n 0, 1), (38, .invokevirtual 362, 3), (41, .aload_n 0, 1),
   (42, .iconst 0, 1), (43, .iload_n 1, 1), (44, .invokevirtual 392, 3), (47, .istore 4, 2), (49, .aload_n 0, 1), (50, .iload 4, 2), (52, .aload_n 0, 1), (53, .iconst 0, 1),
   (54, .iload_n 2, 1), (55, .invokevirtual 392, 3), (58, .invokevirtual 529, 3), (61, .iconst 0, 1), (62, .istore 5, 2), (64, .bipush (-2), 2), (66, .istore 6, 2), (68, .iconst 0, 1),
   (69, .istore 7, 2), (71, .iload 7, 2), (73, .aload_n 0, 1), (74, .getfield 225, 3), (77, .if_icmp .ge 103, 3), (80, .iload 4, 2), (82, .iload 7, 2), (84, .invokestatic 412, 3)]
def k_X12_game_1 : List (Nat × Instr × Nat) :=
  [(87, .ifCond .ne 6, 3), (90, .goto 84, 3), (93, .iload 5, 2), (95, .aload_n 0, 1), (96, .getfield 121, 3), (99, .iconst 1, 1), (100, .iload 7, 2), (102, .ishl, 1),
   (103, .aload_n 0, 1), (104, .getfield 30, 3), (107, .iload 7, 2), (109, .iaload, 1), (110, .aload_n 0, 1), (111, .getfield 33, 3), (114, .iload 7, 2), (116, .iaload, 1),
   (117, .invokestatic 518, 3), (120, .iaload, 1), (121, .invokestatic 522, 3), (124, .istore 8, 2), (126, .iload 8, 2), (128, .aload_n 0, 1), (129, .getfield 121, 3), (132, .iconst 1, 1),
   (133, .iload 7, 2), (135, .ishl, 1), (136, .aload_n 0, 1), (137, .getfield 33, 3), (140, .iload 7, 2), (142, .iaload, 1), (143, .aload_n 0, 1), (144, .getfield 30, 3),
   (147, .iload 7, 2), (149, .iaload, 1), (150, .invokestatic 518, 3), (153, .iaload, 1), (154, .invokestatic 522, 3), (157, .istore 8, 2), (159, .iload 8, 2), (161, .iload 5, 2),
   (163, .if_icmp .eq 7, 3), (166, .iload 7, 2), (168, .istore 6, 2), (170, .iload 8, 2), (172, .istore 5, 2), (174, .iinc 7 1, 3), (177, .goto (-106), 3), (180, .iload_n 3, 1)]
def k_X12_game_2 : List (Nat × Instr × Nat) :=
  [(181, .iconst 2, 1), (182, .if_icmp .ne 6, 3), (185, .iload 6, 2), (187, .ireturn, 1), (188, .iload_n 3, 1), (189, .ifCond .ne 14, 3), (192, .iload 5, 2), (194, .ifCond .le 7, 3),
   (197, .iconst 0, 1), (198, .goto 4, 3), (201, .iconst 1, 1), (202, .ireturn, 1), (203, .iload 5, 2), (205, .ifCond .ne 7, 3), (208, .iconst 0, 1), (209, .goto 20, 3),
   (212, .iload 5, 2), (214, .ifCond .le 10, 3), (217, .iload 5, 2), (219, .iconst 1, 1), (220, .isub, 1), (221, .goto 8, 3), (224, .iload 5, 2), (226, .ineg, 1),
   (227, .iconst 1, 1), (228, .isub, 1), (229, .ireturn, 1)]
def k_X12_game : List (Nat × Instr × Nat) := k_X12_game_0 ++ (k_X12_game_1 ++ (k_X12_game_2))
theorem r_X12_game_0 : k_X12_game_0.all (tb_rr cX12_game) = true := by decide +kernel
theorem r_X12_game_1 : k_X12_game_1.all (tb_rr cX12_game) = true := by decide +kernel
theorem r_X12_game_2 : k_X12_game_2.all (tb_rr cX12_game) = true := by decide +kernel
def M_X12_game : ab_MD := (K_X12, yX12_game, cX12_game, 9, (some .int), false, k_X12_game)
theorem o_X12_game : ab_OK M_X12_game 3 := tb_ok OC_X12 (by decide +kernel) (tb_app r_X12_game_0 (tb_app r_X12_game_1 r_X12_game_2)) (ab_T_in (tb_c_in 9 _ (List.mem_of_getElem? (i := 162) (rfl : (tb_c 9)[162]? = some (Cond.code yX12_game cX12_game 9 (some .int))))) rfl) IN_X12
theorem v_X12_game : ab_kV M_X12_game 12 := ⟨(ab_T_in (tb_c_in 9 _ (List.mem_of_getElem? (i := 160) (rfl : (tb_c 9)[160]? = some (Cond.instanceMethod yX12_game)))) rfl), (ab_T_in (tb_c_in 9 _ (List.mem_of_getElem? (i := 161) (rfl : (tb_c 9)[161]? = some (Cond.selects RX12 yX12_game yX12_game)))) rfl), _, rfl, rfl⟩
def k_X12_give : List (Nat × Instr × Nat) :=
  [(0, .aload_n 0, 1), (1, .iconst 0, 1), (2, .putfield 145, 3), (5, .aload_n 0, 1), (6, .invokevirtual 362, 3), (9, .aload_n 0, 1), (10, .iload_n 1, 1), (11, .invokevirtual 474, 3),
   (14, .ifCond .eq 61, 3), (17, .aload_n 0, 1), (18, .getfield 91, 3), (21, .iload_n 1, 1), (22, .iaload, 1), (23, .bipush (-3), 2), (25, .if_icmp .eq 50, 3), (28, .iload_n 2, 1),
   (29, .iconst (-1), 1), (30, .if_icmp .ne 17, 3), (33, .aload_n 0, 1), (34, .getfield 91, 3), (37, .iload_n 1, 1), (38, .iaload, 1), (39, .bipush (-2), 2), (41, .if_icmp .ne 36, 3),
   (44, .goto 31, 3), (47, .aload_n 0, 1), (48, .iload_n 2, 1), (49, .invokevirtual 480, 3), (52, .ifCond .eq 23, 3), (55, .aload_n 0, 1), (56, .getfield 91, 3), (59, .iload_n 1, 1),
   (60, .iaload, 1), (61, .iload_n 2, 1), (62, .if_icmp .eq 13, 3), (65, .aload_n 0, 1), (66, .iconst 0, 1), (67, .iload_n 2, 1), (68, .iload_n 1, 1), (69, .invokevirtual 447, 3),
   (72, .ifCond .ne 5, 3), (75, .iconst 0, 1), (76, .ireturn, 1), (77, .aload_n 0, 1), (78, .invokevirtual 488, 3), (81, .aload_n 0, 1), (82, .getfield 91, 3), (85, .iload_n 1, 1),
   (86, .iload_n 2, 1), (87, .iconst (-1), 1), (88, .if_icmp .ne 8, 3), (91, .bipush (-2), 2), (93, .goto 4, 3), (96, .iload_n 2, 1), (97, .iastore, 1), (98, .iconst 1, 1),
   (99, .ireturn, 1)]
def M_X12_give : ab_MD := (K_X12, yX12_give, cX12_give, 3, (some .boolean), false, k_X12_give)
theorem o_X12_give : ab_OK M_X12_give 2 := tb_ok OC_X12 (by decide +kernel) (by decide +kernel) (ab_T_in (tb_c_in 9 _ (List.mem_of_getElem? (i := 9) (rfl : (tb_c 9)[9]? = some (Cond.code yX12_give cX12_give 3 (some .boolean))))) rfl) IN_X12
theorem v_X12_give : ab_kV M_X12_give 12 := ⟨(ab_T_in (tb_c_in 9 _ (List.mem_of_getElem? (i := 7) (rfl : (tb_c 9)[7]? = some (Cond.instanceMethod yX12_give)))) rfl), (ab_T_in (tb_c_in 9 _ (List.mem_of_getElem? (i := 8) (rfl : (tb_c 9)[8]? = some (Cond.selects RX12 yX12_give yX12_give)))) rfl), _, rfl, rfl⟩
def k_X12_go : List (Nat × Instr × Nat) :=
  [(0, .aload_n 0, 1), (1, .iconst 0, 1), (2, .putfield 145, 3), (5, .iload_n 1, 1), (6, .iconst 0, 1), (7, .bipush 99, 2), (9, .invokestatic 190, 3), (12, .ifCond .eq 17, 3),
   (15, .aload_n 0, 1), (16, .getfield 103, 3), (19, .iconst 0, 1), (20, .iaload, 1), (21, .iload_n 1, 1), (22, .iadd, 1), (23, .sipush 9000, 3), (26, .if_icmp .le 5, 3),
   (29, .iconst (-1), 1), (30, .ireturn, 1), (31, .aload_n 0, 1), (32, .invokevirtual 362, 3), (35, .aload_n 0, 1), (36, .iconst 1, 1), (37, .putfield 374, 3), (40, .iconst 0, 1),
   (41, .istore_n 2, 1), (42, .iload_n 2, 1), (43, .iload_n 1, 1), (44, .if_icmp .ge 14, 3), (47, .aload_n 0, 1), (48, .iconst 0, 1), (49, .invokevirtual 471, 3), (52, .iinc 2 1, 3),
   (55, .goto (-13), 3), (58, .aload_n 0, 1), (59, .iconst 0, 1), (60, .putfield 374, 3), (63, .aload_n 0, 1), (64, .iload_n 1, 1), (65, .ifCond .le 7, 3), (68, .iconst 0, 1),
   (69, .goto 7, 3), (72, .aload_n 0, 1), (73, .getfield 368, 3), (76, .putfield 368, 3), (79, .aload_n 0, 1), (80, .getfield 103, 3), (83, .iconst 0, 1), (84, .iaload, 1),
   (85, .ireturn, 1)]
def M_X12_go : ab_MD := (K_X12, yX12_go, cX12_go, 3, (some .int), false, k_X12_go)
theorem o_X12_go : ab_OK M_X12_go 1 := tb_ok OC_X12 (by decide +kernel) (by decide +kernel) (ab_T_in (tb_c_in 9 _ (List.mem_of_getElem? (i := 61) (rfl : (tb_c 9)[61]? = some (Cond.code yX12_go cX12_go 3 (some .int))))) rfl) IN_X12
theorem v_X12_go : ab_kV M_X12_go 12 := ⟨(ab_T_in (tb_c_in 9 _ (List.mem_of_getElem? (i := 59) (rfl : (tb_c 9)[59]? = some (Cond.instanceMethod yX12_go)))) rfl), (ab_T_in (tb_c_in 9 _ (List.mem_of_getElem? (i := 60) (rfl : (tb_c 9)[60]? = some (Cond.selects RX12 yX12_go yX12_go)))) rfl), _, rfl, rfl⟩
def k_X12_goMany : List (Nat × Instr × Nat) :=
  [(0, .iconst 0, 1), (1, .istore_n 2, 1), (2, .iload_n 2, 1), (3, .iload_n 1, 1), (4, .if_icmp .ge 14, 3), (7, .aload_n 0, 1), (8, .iconst 1, 1), (9, .invokevirtual 471, 3),
   (12, .iinc 2 1, 3), (15, .goto (-13), 3), (18, .return_, 1)]
def M_X12_goMany : ab_MD := (K_X12, yX12_goMany, cX12_goMany, 3, none, false, k_X12_goMany)
theorem o_X12_goMany : ab_OK M_X12_goMany 1 := tb_ok OC_X12 (by decide +kernel) (by decide +kernel) (ab_T_in (tb_c_in 9 _ (List.mem_of_getElem? (i := 89) (rfl : (tb_c 9)[89]? = some (Cond.code yX12_goMany cX12_goMany 3 none)))) rfl) IN_X12
theorem v_X12_goMany : ab_kV M_X12_goMany 12 := ⟨(ab_T_in (tb_c_in 9 _ (List.mem_of_getElem? (i := 88) (rfl : (tb_c 9)[88]? = some (Cond.instanceMethod yX12_goMany)))) rfl), (ab_T_in (tb_c_in 0 _ (List.mem_of_getElem? (i := 102) (rfl : (tb_c 0)[102]? = some (Cond.selects RX12 yX12_goMany yX12_goMany)))) rfl), _, rfl, rfl⟩
def k_X12_goldAll : List (Nat × Instr × Nat) :=
  [(0, .iconst 0, 1), (1, .istore_n 2, 1), (2, .iconst 0, 1), (3, .istore_n 3, 1), (4, .iload_n 3, 1), (5, .aload_n 0, 1), (6, .getfield 228, 3), (9, .if_icmp .ge 22, 3),
   (12, .iload_n 2, 1), (13, .aload_n 0, 1), (14, .getfield 94, 3), (17, .iconst 5, 1), (18, .iload_n 1, 1), (19, .imul, 1), (20, .iload_n 3, 1), (21, .iadd, 1),
   (22, .iaload, 1), (23, .iadd, 1), (24, .istore_n 2, 1), (25, .iinc 3 1, 3), (28, .goto (-24), 3), (31, .iload_n 2, 1), (32, .ireturn, 1)]
def M_X12_goldAll : ab_MD := (K_X12, yX12_goldAll, cX12_goldAll, 4, (some .int), false, k_X12_goldAll)
theorem o_X12_goldAll : ab_OK M_X12_goldAll 1 := tb_ok OC_X12 (by decide +kernel) (by decide +kernel) (ab_T_in (tb_c_in 10 _ (List.mem_of_getElem? (i := 15) (rfl : (tb_c 10)[15]? = some (Cond.code yX12_goldAll cX12_goldAll 4 (some .int))))) rfl) IN_X12
theorem v_X12_goldAll : ab_kV M_X12_goldAll 12 := ⟨(ab_T_in (tb_c_in 10 _ (List.mem_of_getElem? (i := 14) (rfl : (tb_c 10)[14]? = some (Cond.instanceMethod yX12_goldAll)))) rfl), (ab_T_in (tb_c_in 0 _ (List.mem_of_getElem? (i := 119) (rfl : (tb_c 0)[119]? = some (Cond.selects RX12 yX12_goldAll yX12_goldAll)))) rfl), _, rfl, rfl⟩
def k_X12_grown : List (Nat × Instr × Nat) :=
  [(0, .aload_n 0, 1), (1, .getfield 69, 3), (4, .bipush 64, 2), (6, .aload_n 0, 1), (7, .getfield 219, 3), (10, .iadd, 1), (11, .iload_n 1, 1), (12, .iastore, 1),
   (13, .aload_n 0, 1), (14, .getfield 72, 3), (17, .bipush 64, 2), (19, .aload_n 0, 1), (20, .getfield 219, 3), (23, .iadd, 1), (24, .iload_n 2, 1), (25, .iastore, 1),
   (26, .aload_n 0, 1), (27, .getfield 75, 3), (30, .bipush 64, 2), (32, .aload_n 0, 1), (33, .getfield 219, 3), (36, .iadd, 1), (37, .iload_n 3, 1), (38, .iastore, 1),
   (39, .aload_n 0, 1), (40, .getfield 81, 3), (43, .aload_n 0, 1), (44, .getfield 283, 3), (47, .aload_n 0, 1), (48, .getfield 219, 3), (51, .iastore, 1), (52, .aload_n 0, 1),
   (53, .dup, 1), (54, .getfield 283, 3), (57, .iconst 1, 1), (58, .iadd, 1), (59, .putfield 283, 3), (62, .aload_n 0, 1), (63, .dup, 1), (64, .getfield 219, 3),
   (67, .iconst 1, 1), (68, .iadd, 1), (69, .putfield 219, 3), (72, .return_, 1)]
def M_X12_grown : ab_MD := (K_X12, yX12_grown, cX12_grown, 4, none, false, k_X12_grown)
theorem o_X12_grown : ab_OK M_X12_grown 3 := tb_ok OC_X12 (by decide +kernel) (by decide +kernel) (ab_T_in (tb_c_in 8 _ (List.mem_of_getElem? (i := 147) (rfl : (tb_c 8)[147]? = some (Cond.code yX12_grown cX12_grown 4 none)))) rfl) IN_X12
theorem v_X12_grown : ab_kV M_X12_grown 12 := ⟨(ab_T_in (tb_c_in 8 _ (List.mem_of_getElem? (i := 146) (rfl : (tb_c 8)[146]? = some (Cond.instanceMethod yX12_grown)))) rfl), (ab_T_in (tb_c_in 0 _ (List.mem_of_getElem? (i := 74) (rfl : (tb_c 0)[74]? = some (Cond.selects RX12 yX12_grown yX12_grown)))) rfl), _, rfl, rfl⟩
def k_X12_heir : List (Nat × Instr × Nat) :=
  [(0, .aload_n 0, 1), (1, .iconst 0, 1), (2, .putfield 145, 3), (5, .aload_n 0, 1), (6, .iload_n 1, 1), (7, .invokevirtual 480, 3), (10, .ifCond .ne 5, 3), (13, .iconst (-1), 1),
   (14, .ireturn, 1), (15, .iload_n 2, 1), (16, .ifCond .ne 12, 3), (19, .aload_n 0, 1), (20, .getfield 94, 3), (23, .iload_n 1, 1), (24, .iaload, 1), (25, .goto 32, 3),
   (28, .iload_n 2, 1), (29, .iconst 1, 1), (30, .if_icmp .ne 12, 3), (33, .aload_n 0, 1), (34, .iconst 0, 1), (35, .iload_n 1, 1), (36, .invokevirtual 392, 3), (39, .goto 18, 3),
   (42, .iload_n 2, 1), (43, .iconst 2, 1), (44, .if_icmp .ne 12, 3), (47, .aload_n 0, 1), (48, .getfield 97, 3), (51, .iload_n 1, 1), (52, .iaload, 1), (53, .goto 4, 3),
   (56, .iconst (-1), 1), (57, .ireturn, 1)]
def M_X12_heir : ab_MD := (K_X12, yX12_heir, cX12_heir, 3, (some .int), false, k_X12_heir)
theorem o_X12_heir : ab_OK M_X12_heir 2 := tb_ok OC_X12 (by decide +kernel) (by decide +kernel) (ab_T_in (tb_c_in 8 _ (List.mem_of_getElem? (i := 186) (rfl : (tb_c 8)[186]? = some (Cond.code yX12_heir cX12_heir 3 (some .int))))) rfl) IN_X12
theorem v_X12_heir : ab_kV M_X12_heir 12 := ⟨(ab_T_in (tb_c_in 8 _ (List.mem_of_getElem? (i := 184) (rfl : (tb_c 8)[184]? = some (Cond.instanceMethod yX12_heir)))) rfl), (ab_T_in (tb_c_in 8 _ (List.mem_of_getElem? (i := 185) (rfl : (tb_c 8)[185]? = some (Cond.selects RX12 yX12_heir yX12_heir)))) rfl), _, rfl, rfl⟩
def k_X12_heirLine : List (Nat × Instr × Nat) :=
  [(0, .aload_n 0, 1), (1, .getfield 210, 3), (4, .iconst 5, 1), (5, .if_icmp .ne 9, 3), (8, .aload_n 0, 1), (9, .iconst 2, 1), (10, .invokevirtual 187, 3), (13, .ireturn, 1),
   (14, .aload_n 0, 1), (15, .invokevirtual 197, 3), (18, .aload_n 0, 1), (19, .aload_n 0, 1), (20, .getfield 42, 3), (23, .iconst 5, 1), (24, .aload_n 0, 1), (25, .getfield 210, 3),
   (28, .invokevirtual 251, 3), (31, .ifCond .ne 5, 3), (34, .iconst 0, 1), (35, .ireturn, 1), (36, .aload_n 0, 1), (37, .dup, 1), (38, .getfield 210, 3), (41, .iconst 1, 1),
   (42, .iadd, 1), (43, .putfield 210, 3), (46, .iconst 1, 1), (47, .ireturn, 1)]
def M_X12_heirLine : ab_MD := (K_X12, yX12_heirLine, cX12_heirLine, 1, (some .boolean), false, k_X12_heirLine)
theorem o_X12_heirLine : ab_OK M_X12_heirLine 0 := tb_ok OC_X12 (by decide +kernel) (by decide +kernel) (ab_T_in (tb_c_in 8 _ (List.mem_of_getElem? (i := 95) (rfl : (tb_c 8)[95]? = some (Cond.code yX12_heirLine cX12_heirLine 1 (some .boolean))))) rfl) IN_X12
theorem v_X12_heirLine : ab_kV M_X12_heirLine 12 := ⟨(ab_T_in (tb_c_in 8 _ (List.mem_of_getElem? (i := 94) (rfl : (tb_c 8)[94]? = some (Cond.instanceMethod yX12_heirLine)))) rfl), (ab_T_in (tb_c_in 0 _ (List.mem_of_getElem? (i := 61) (rfl : (tb_c 0)[61]? = some (Cond.selects RX12 yX12_heirLine yX12_heirLine)))) rfl), _, rfl, rfl⟩
def k_X12_heldBy : List (Nat × Instr × Nat) :=
  [(0, .iconst 0, 1), (1, .istore_n 3, 1), (2, .iconst 0, 1), (3, .istore 4, 2), (5, .iload 4, 2), (7, .aload_n 0, 1), (8, .getfield 225, 3), (11, .if_icmp .ge 36, 3),
   (14, .iload_n 3, 1), (15, .aload_n 0, 1), (16, .getfield 91, 3), (19, .bipush 9, 2), (21, .iload_n 1, 1), (22, .imul, 1), (23, .iload 4, 2), (25, .iadd, 1),
   (26, .iaload, 1), (27, .iload_n 2, 1), (28, .if_icmp .ne 10, 3), (31, .iconst 1, 1), (32, .iload 4, 2), (34, .ishl, 1), (35, .goto 4, 3), (38, .iconst 0, 1),
   (39, .ior, 1), (40, .istore_n 3, 1), (41, .iinc 4 1, 3), (44, .goto (-39), 3), (47, .iload_n 3, 1), (48, .ireturn, 1)]
def M_X12_heldBy : ab_MD := (K_X12, yX12_heldBy, cX12_heldBy, 5, (some .int), false, k_X12_heldBy)
theorem o_X12_heldBy : ab_OK M_X12_heldBy 2 := tb_ok OC_X12 (by decide +kernel) (by decide +kernel) (ab_T_in (tb_c_in 8 _ (List.mem_of_getElem? (i := 194) (rfl : (tb_c 8)[194]? = some (Cond.code yX12_heldBy cX12_heldBy 5 (some .int))))) rfl) IN_X12
theorem v_X12_heldBy : ab_kV M_X12_heldBy 12 := ⟨(ab_T_in (tb_c_in 8 _ (List.mem_of_getElem? (i := 193) (rfl : (tb_c 8)[193]? = some (Cond.instanceMethod yX12_heldBy)))) rfl), (ab_T_in (tb_c_in 0 _ (List.mem_of_getElem? (i := 81) (rfl : (tb_c 0)[81]? = some (Cond.selects RX12 yX12_heldBy yX12_heldBy)))) rfl), _, rfl, rfl⟩
def k_X12_init_0 : List (Nat × Instr × Nat) :=
  [(0, .aload_n 0, 1), (1, .invokespecial 1, 3), (4, .aload_n 0, 1), (5, .sipush 700, 3), (8, .newarray .int, 2), (10, .putfield 7, 3), (13, .aload_n 0, 1), (14, .bipush 101, 2),
   (16, .newarray .int, 2), (18, .dup, 1), (19, .iconst 0, 1), (20, .bipush 112, 2), (22, .iastore, 1), (23, .dup, 1), (24, .iconst 1, 1), (25, .bipush 105, 2),
   (27, .iastore, 1), (28, .dup, 1), (29, .iconst 2, 1), (30, .bipush 101, 2), (32, .iastore, 1), (33, .dup, 1), (34, .iconst 3, 1), (35, .bipush 99, 2),
   (37, .iastore, 1), (38, .dup, 1), (39, .iconst 4, 1), (40, .bipush 101, 2), (42, .iastore, 1), (43, .dup, 1), (44, .iconst 5, 1), (45, .bipush 32, 2),
   (47, .iastore, 1), (48, .dup, 1), (49, .bipush 6, 2), (51, .bipush 104, 2), (53, .iastore, 1), (54, .dup, 1), (55, .bipush 7, 2), (57, .bipush 101, 2),
   (59, .iastore, 1), (60, .dup, 1), (61, .bipush 8, 2), (63, .bipush 105, 2), (65, .iastore, 1), (66, .dup, 1), (67, .bipush 9, 2), (69, .bipush 114, 2)]
def k_X12_init_1 : List (Nat × Instr × Nat) :=
  [(71, .iastore, 1), (72, .dup, 1), (73, .bipush 10, 2), (75, .bipush 32, 2), (77, .iastore, 1), (78, .dup, 1), (79, .bipush 11, 2), (81, .bipush 115, 2),
   (83, .iastore, 1), (84, .dup, 1), (85, .bipush 12, 2), (87, .bipush 104, 2), (89, .iastore, 1), (90, .dup, 1), (91, .bipush 13, 2), (93, .bipush 97, 2),
   (95, .iastore, 1), (96, .dup, 1), (97, .bipush 14, 2), (99, .bipush 114, 2), (101, .iastore, 1), (102, .dup, 1), (103, .bipush 15, 2), (105, .bipush 101, 2),
   (107, .iastore, 1), (108, .dup, 1), (109, .bipush 16, 2), (111, .bipush 32, 2), (113, .iastore, 1), (114, .dup, 1), (115, .bipush 17, 2), (117, .bipush 116, 2),
   (119, .iastore, 1), (120, .dup, 1), (121, .bipush 18, 2), (123, .bipush 114, 2), (125, .iastore, 1), (126, .dup, 1), (127, .bipush 19, 2), (129, .bipush 97, 2),
   (131, .iastore, 1), (132, .dup, 1), (133, .bipush 20, 2), (135, .bipush 100, 2), (137, .iastore, 1), (138, .dup, 1), (139, .bipush 21, 2), (141, .bipush 101, 2)]
def k_X12_init_2 : List (Nat × Instr × Nat) :=
  [(143, .iastore, 1), (144, .dup, 1), (145, .bipush 22, 2), (147, .bipush 32, 2), (149, .iastore, 1), (150, .dup, 1), (151, .bipush 23, 2), (153, .bipush 100, 2),
   (155, .iastore, 1), (156, .dup, 1), (157, .bipush 24, 2), (159, .bipush 114, 2), (161, .iastore, 1), (162, .dup, 1), (163, .bipush 25, 2), (165, .bipush 97, 2),
   (167, .iastore, 1), (168, .dup, 1), (169, .bipush 26, 2), (171, .bipush 119, 2), (173, .iastore, 1), (174, .dup, 1), (175, .bipush 27, 2), (177, .bipush 32, 2),
   (179, .iastore, 1), (180, .dup, 1), (181, .bipush 28, 2), (183, .bipush 110, 2), (185, .iastore, 1), (186, .dup, 1), (187, .bipush 29, 2), (189, .bipush 101, 2),
   (191, .iastore, 1), (192, .dup, 1), (193, .bipush 30, 2), (195, .bipush 101, 2), (197, .iastore, 1), (198, .dup, 1), (199, .bipush 31, 2), (201, .bipush 100, 2),
   (203, .iastore, 1), (204, .dup, 1), (205, .bipush 32, 2), (207, .bipush 32, 2), (209, .iastore, 1), (210, .dup, 1), (211, .bipush 33, 2), (213, .bipush 115, 2)]
def k_X12_init_3 : List (Nat × Instr × Nat) :=
  [(215, .iastore, 1), (216, .dup, 1), (217, .bipush 34, 2), (219, .bipush 101, 2), (221, .iastore, 1), (222, .dup, 1), (223, .bipush 35, 2), (225, .bipush 101, 2),
   (227, .iastore, 1), (228, .dup, 1), (229, .bipush 36, 2), (231, .bipush 100, 2), (233, .iastore, 1), (234, .dup, 1), (235, .bipush 37, 2), (237, .bipush 32, 2),
   (239, .iastore, 1), (240, .dup, 1), (241, .bipush 38, 2), (243, .bipush 108, 2), (245, .iastore, 1), (246, .dup, 1), (247, .bipush 39, 2), (249, .bipush 97, 2),
   (251, .iastore, 1), (252, .dup, 1), (253, .bipush 40, 2), (255, .bipush 119, 2), (257, .iastore, 1), (258, .dup, 1), (259, .bipush 41, 2), (261, .bipush 32, 2),
   (263, .iastore, 1), (264, .dup, 1), (265, .bipush 42, 2), (267, .bipush 106, 2), (269, .iastore, 1), (270, .dup, 1), (271, .bipush 43, 2), (273, .bipush 111, 2),
   (275, .iastore, 1), (276, .dup, 1), (277, .bipush 44, 2), (279, .bipush 105, 2), (281, .iastore, 1), (282, .dup, 1), (283, .bipush 45, 2), (285, .bipush 110, 2)]
def k_X12_init_4 : List (Nat × Instr × Nat) :=
  [(287, .iastore, 1), (288, .dup, 1), (289, .bipush 46, 2), (291, .bipush 32, 2), (293, .iastore, 1), (294, .dup, 1), (295, .bipush 47, 2), (297, .bipush 109, 2),
   (299, .iastore, 1), (300, .dup, 1), (301, .bipush 48, 2), (303, .bipush 97, 2), (305, .iastore, 1), (306, .dup, 1), (307, .bipush 49, 2), (309, .bipush 121, 2),
   (311, .iastore, 1), (312, .dup, 1), (313, .bipush 50, 2), (315, .bipush 32, 2), (317, .iastore, 1), (318, .dup, 1), (319, .bipush 51, 2), (321, .bipush 103, 2),
   (323, .iastore, 1), (324, .dup, 1), (325, .bipush 52, 2), (327, .bipush 111, 2), (329, .iastore, 1), (330, .dup, 1), (331, .bipush 53, 2), (333, .bipush 108, 2),
   (335, .iastore, 1), (336, .dup, 1), (337, .bipush 54, 2), (339, .bipush 100, 2), (341, .iastore, 1), (342, .dup, 1), (343, .bipush 55, 2), (345, .bipush 32, 2),
   (347, .iastore, 1), (348, .dup, 1), (349, .bipush 56, 2), (351, .bipush 97, 2), (353, .iastore, 1), (354, .dup, 1), (355, .bipush 57, 2), (357, .bipush 110, 2)]
def k_X12_init_5 : List (Nat × Instr × Nat) :=
  [(359, .iastore, 1), (360, .dup, 1), (361, .bipush 58, 2), (363, .bipush 100, 2), (365, .iastore, 1), (366, .dup, 1), (367, .bipush 59, 2), (369, .bipush 32, 2),
   (371, .iastore, 1), (372, .dup, 1), (373, .bipush 60, 2), (375, .bipush 111, 2), (377, .iastore, 1), (378, .dup, 1), (379, .bipush 61, 2), (381, .bipush 114, 2),
   (383, .iastore, 1), (384, .dup, 1), (385, .bipush 62, 2), (387, .bipush 32, 2), (389, .iastore, 1), (390, .dup, 1), (391, .bipush 63, 2), (393, .bipush 110, 2),
   (395, .iastore, 1), (396, .dup, 1), (397, .bipush 64, 2), (399, .bipush 111, 2), (401, .iastore, 1), (402, .dup, 1), (403, .bipush 65, 2), (405, .bipush 116, 2),
   (407, .iastore, 1), (408, .dup, 1), (409, .bipush 66, 2), (411, .bipush 32, 2), (413, .iastore, 1), (414, .dup, 1), (415, .bipush 67, 2), (417, .bipush 111, 2),
   (419, .iastore, 1), (420, .dup, 1), (421, .bipush 68, 2), (423, .bipush 110, 2), (425, .iastore, 1), (426, .dup, 1), (427, .bipush 69, 2), (429, .bipush 101, 2)]
def k_X12_init_6 : List (Nat × Instr × Nat) :=
  [(431, .iastore, 1), (432, .dup, 1), (433, .bipush 70, 2), (435, .bipush 32, 2), (437, .iastore, 1), (438, .dup, 1), (439, .bipush 71, 2), (441, .bipush 111, 2),
   (443, .iastore, 1), (444, .dup, 1), (445, .bipush 72, 2), (447, .bipush 116, 2), (449, .iastore, 1), (450, .dup, 1), (451, .bipush 73, 2), (453, .bipush 104, 2),
   (455, .iastore, 1), (456, .dup, 1), (457, .bipush 74, 2), (459, .bipush 101, 2), (461, .iastore, 1), (462, .dup, 1), (463, .bipush 75, 2), (465, .bipush 114, 2),
   (467, .iastore, 1), (468, .dup, 1), (469, .bipush 76, 2), (471, .bipush 32, 2), (473, .iastore, 1), (474, .dup, 1), (475, .bipush 77, 2), (477, .bipush 119, 2),
   (479, .iastore, 1), (480, .dup, 1), (481, .bipush 78, 2), (483, .bipush 111, 2), (485, .iastore, 1), (486, .dup, 1), (487, .bipush 79, 2), (489, .bipush 114, 2),
   (491, .iastore, 1), (492, .dup, 1), (493, .bipush 80, 2), (495, .bipush 116, 2), (497, .iastore, 1), (498, .dup, 1), (499, .bipush 81, 2), (501, .bipush 104, 2)]
def k_X12_init_7 : List (Nat × Instr × Nat) :=
  [(503, .iastore, 1), (504, .dup, 1), (505, .bipush 82, 2), (507, .bipush 32, 2), (509, .iastore, 1), (510, .dup, 1), (511, .bipush 83, 2), (513, .bipush 107, 2),
   (515, .iastore, 1), (516, .dup, 1), (517, .bipush 84, 2), (519, .bipush 105, 2), (521, .iastore, 1), (522, .dup, 1), (523, .bipush 85, 2), (525, .bipush 110, 2),
   (527, .iastore, 1), (528, .dup, 1), (529, .bipush 86, 2), (531, .bipush 32, 2), (533, .iastore, 1), (534, .dup, 1), (535, .bipush 87, 2), (537, .bipush 104, 2),
   (539, .iastore, 1), (540, .dup, 1), (541, .bipush 88, 2), (543, .bipush 101, 2), (545, .iastore, 1), (546, .dup, 1), (547, .bipush 89, 2), (549, .bipush 108, 2),
   (551, .iastore, 1), (552, .dup, 1), (553, .bipush 90, 2), (555, .bipush 100, 2), (557, .iastore, 1), (558, .dup, 1), (559, .bipush 91, 2), (561, .bipush 32, 2),
   (563, .iastore, 1), (564, .dup, 1), (565, .bipush 92, 2), (567, .bipush 114, 2), (569, .iastore, 1), (570, .dup, 1), (571, .bipush 93, 2), (573, .bipush 105, 2)]
def k_X12_init_8 : List (Nat × Instr × Nat) :=
  [(575, .iastore, 1), (576, .dup, 1), (577, .bipush 94, 2), (579, .bipush 99, 2), (581, .iastore, 1), (582, .dup, 1), (583, .bipush 95, 2), (585, .bipush 104, 2),
   (587, .iastore, 1), (588, .dup, 1), (589, .bipush 96, 2), (591, .bipush 32, 2), (593, .iastore, 1), (594, .dup, 1), (595, .bipush 97, 2), (597, .bipush 100, 2),
   (599, .iastore, 1), (600, .dup, 1), (601, .bipush 98, 2), (603, .bipush 97, 2), (605, .iastore, 1), (606, .dup, 1), (607, .bipush 99, 2), (609, .bipush 121, 2),
   (611, .iastore, 1), (612, .dup, 1), (613, .bipush 100, 2), (615, .bipush 32, 2), (617, .iastore, 1), (618, .putfield 13, 3), (621, .aload_n 0, 1), (622, .iconst (-1), 1),
   (623, .putfield 16, 3), (626, .aload_n 0, 1), (627, .iconst 2, 1), (628, .newarray .boolean, 2), (630, .putfield 20, 3), (633, .aload_n 0, 1), (634, .iconst 4, 1), (635, .newarray .int, 2),
   (637, .putfield 24, 3), (640, .aload_n 0, 1), (641, .bipush 18, 2), (643, .newarray .int, 2), (645, .putfield 27, 3), (648, .aload_n 0, 1), (649, .bipush 18, 2), (651, .newarray .int, 2)]
def k_X12_init_9 : List (Nat × Instr × Nat) :=
  [(653, .putfield 30, 3), (656, .aload_n 0, 1), (657, .bipush 18, 2), (659, .newarray .int, 2), (661, .putfield 33, 3), (664, .aload_n 0, 1), (665, .bipush 18, 2), (667, .newarray .int, 2),
   (669, .putfield 36, 3), (672, .aload_n 0, 1), (673, .bipush 18, 2), (675, .newarray .int, 2), (677, .putfield 39, 3), (680, .aload_n 0, 1), (681, .bipush 10, 2), (683, .newarray .int, 2),
   (685, .putfield 42, 3), (688, .aload_n 0, 1), (689, .bipush 16, 2), (691, .newarray .int, 2), (693, .putfield 45, 3), (696, .aload_n 0, 1), (697, .bipush 16, 2), (699, .newarray .int, 2),
   (701, .putfield 48, 3), (704, .aload_n 0, 1), (705, .bipush 16, 2), (707, .newarray .int, 2), (709, .putfield 51, 3), (712, .aload_n 0, 1), (713, .bipush 20, 2), (715, .newarray .int, 2),
   (717, .putfield 54, 3), (720, .aload_n 0, 1), (721, .bipush 20, 2), (723, .newarray .int, 2), (725, .putfield 57, 3), (728, .aload_n 0, 1), (729, .bipush 6, 2), (731, .newarray .boolean, 2),
   (733, .putfield 60, 3), (736, .aload_n 0, 1), (737, .bipush 6, 2), (739, .newarray .int, 2), (741, .putfield 63, 3), (744, .aload_n 0, 1), (745, .bipush 6, 2), (747, .newarray .int, 2)]
def k_X12_init_10 : List (Nat × Instr × Nat) :=
  [(749, .putfield 66, 3), (752, .aload_n 0, 1), (753, .sipush 128, 3), (756, .newarray .int, 2), (758, .putfield 69, 3), (761, .aload_n 0, 1), (762, .sipush 128, 3), (765, .newarray .int, 2),
   (767, .putfield 72, 3), (770, .aload_n 0, 1), (771, .sipush 128, 3), (774, .newarray .int, 2), (776, .putfield 75, 3), (779, .aload_n 0, 1), (780, .bipush 96, 2), (782, .newarray .int, 2),
   (784, .putfield 78, 3), (787, .aload_n 0, 1), (788, .bipush 96, 2), (790, .newarray .int, 2), (792, .putfield 81, 3), (795, .aload_n 0, 1), (796, .bipush 7, 2), (798, .newarray .long, 2),
   (800, .putfield 84, 3), (803, .aload_n 0, 1), (804, .bipush 64, 2), (806, .newarray .long, 2), (808, .putfield 88, 3), (811, .aload_n 0, 1), (812, .bipush 18, 2), (814, .newarray .int, 2),
   (816, .putfield 91, 3), (819, .aload_n 0, 1), (820, .bipush 10, 2), (822, .newarray .int, 2), (824, .putfield 94, 3), (827, .aload_n 0, 1), (828, .bipush 10, 2), (830, .newarray .int, 2),
   (832, .putfield 97, 3), (835, .aload_n 0, 1), (836, .iconst 2, 1), (837, .newarray .int, 2), (839, .putfield 100, 3), (842, .aload_n 0, 1), (843, .iconst 2, 1), (844, .newarray .int, 2)]
def k_X12_init_11 : List (Nat × Instr × Nat) :=
  [(846, .putfield 103, 3), (849, .aload_n 0, 1), (850, .bipush 7, 2), (852, .newarray .int, 2), (854, .putfield 106, 3), (857, .aload_n 0, 1), (858, .sipush 3584, 3), (861, .newarray .int, 2),
   (863, .putfield 109, 3), (866, .aload_n 0, 1), (867, .bipush 7, 2), (869, .newarray .int, 2), (871, .putfield 112, 3), (874, .aload_n 0, 1), (875, .sipush 3584, 3), (878, .newarray .long, 2),
   (880, .putfield 115, 3), (883, .aload_n 0, 1), (884, .sipush 512, 3), (887, .newarray .int, 2), (889, .putfield 118, 3), (892, .aload_n 0, 1), (893, .sipush 25088, 3), (896, .newarray .int, 2),
   (898, .putfield 121, 3), (901, .aload_n 0, 1), (902, .iconst (-1), 1), (903, .putfield 124, 3), (906, .aload_n 0, 1), (907, .bipush 120, 2), (909, .newarray .int, 2), (911, .putfield 127, 3),
   (914, .aload_n 0, 1), (915, .bipush 24, 2), (917, .newarray .boolean, 2), (919, .putfield 130, 3), (922, .aload_n 0, 1), (923, .sipush 380, 3), (926, .newarray .int, 2), (928, .putfield 133, 3),
   (931, .aload_n 0, 1), (932, .bipush 19, 2), (934, .newarray .int, 2), (936, .putfield 136, 3), (939, .aload_n 0, 1), (940, .invokevirtual 139, 3), (943, .aload_n 0, 1), (944, .invokevirtual 142, 3)]
def k_X12_init_12 : List (Nat × Instr × Nat) :=
  [(947, .return_, 1)]
def k_X12_init : List (Nat × Instr × Nat) := k_X12_init_0 ++ (k_X12_init_1 ++ (k_X12_init_2 ++ (k_X12_init_3 ++ (k_X12_init_4 ++ (k_X12_init_5 ++ (k_X12_init_6 ++ (k_X12_init_7 ++ (k_X12_init_8 ++ (k_X12_init_9 ++ (k_X12_init_10 ++ (k_X12_init_11 ++ (k_X12_init_12))))))))))))
theorem r_X12_init_0 : k_X12_init_0.all (tb_rr cX12_init) = true := by decide +kernel
theorem r_X12_init_1 : k_X12_init_1.all (tb_rr cX12_init) = true := by decide +kernel
theorem r_X12_init_2 : k_X12_init_2.all (tb_rr cX12_init) = true := by decide +kernel
theorem r_X12_init_3 : k_X12_init_3.all (tb_rr cX12_init) = true := by decide +kernel
theorem r_X12_init_4 : k_X12_init_4.all (tb_rr cX12_init) = true := by decide +kernel
theorem r_X12_init_5 : k_X12_init_5.all (tb_rr cX12_init) = true := by decide +kernel
theorem r_X12_init_6 : k_X12_init_6.all (tb_rr cX12_init) = true := by decide +kernel
theorem r_X12_init_7 : k_X12_init_7.all (tb_rr cX12_init) = true := by decide +kernel
theorem r_X12_init_8 : k_X12_init_8.all (tb_rr cX12_init) = true := by decide +kernel
theorem r_X12_init_9 : k_X12_init_9.all (tb_rr cX12_init) = true := by decide +kernel
theorem r_X12_init_10 : k_X12_init_10.all (tb_rr cX12_init) = true := by decide +kernel
theorem r_X12_init_11 : k_X12_init_11.all (tb_rr cX12_init) = true := by decide +kernel
theorem r_X12_init_12 : k_X12_init_12.all (tb_rr cX12_init) = true := by decide +kernel
def M_X12_init : ab_MD := (K_X12, yX12_init, cX12_init, 1, none, true, k_X12_init)
theorem o_X12_init : ab_OK M_X12_init 0 := tb_ok OC_X12 (by decide +kernel) (tb_app r_X12_init_0 (tb_app r_X12_init_1 (tb_app r_X12_init_2 (tb_app r_X12_init_3 (tb_app r_X12_init_4 (tb_app r_X12_init_5 (tb_app r_X12_init_6 (tb_app r_X12_init_7 (tb_app r_X12_init_8 (tb_app r_X12_init_9 (tb_app r_X12_init_10 (tb_app r_X12_init_11 r_X12_init_12)))))))))))) (ab_T_in (tb_c_in 6 _ (List.mem_of_getElem? (i := 225) (rfl : (tb_c 6)[225]? = some (Cond.code yX12_init cX12_init 1 none)))) rfl) IN_X12
theorem i_X12_init : Cond.instanceMethod M_X12_init.2.1 ∈ ab_T := (ab_T_in (tb_c_in 6 _ (List.mem_of_getElem? (i := 224) (rfl : (tb_c 6)[224]? = some (Cond.instanceMethod yX12_init)))) rfl)
def k_X12_isBetween : List (Nat × Instr × Nat) :=
  [(0, .aload_n 0, 1), (1, .getfield 106, 3), (4, .iload_n 3, 1), (5, .iaload, 1), (6, .iload_n 1, 1), (7, .invokestatic 412, 3), (10, .ifCond .eq 21, 3), (13, .aload_n 0, 1),
   (14, .getfield 106, 3), (17, .iload_n 2, 1), (18, .iaload, 1), (19, .iload 4, 2), (21, .invokestatic 412, 3), (24, .ifCond .eq 7, 3), (27, .iconst 1, 1), (28, .goto 4, 3),
   (31, .iconst 0, 1), (32, .ireturn, 1)]
def M_X12_isBetween : ab_MD := (K_X12, yX12_isBetween, cX12_isBetween, 5, (some .boolean), false, k_X12_isBetween)
theorem o_X12_isBetween : ab_OK M_X12_isBetween 4 := tb_ok OC_X12 (by decide +kernel) (by decide +kernel) (ab_T_in (tb_c_in 9 _ (List.mem_of_getElem? (i := 227) (rfl : (tb_c 9)[227]? = some (Cond.code yX12_isBetween cX12_isBetween 5 (some .boolean))))) rfl) IN_X12
theorem v_X12_isBetween : ab_kV M_X12_isBetween 12 := ⟨(ab_T_in (tb_c_in 9 _ (List.mem_of_getElem? (i := 226) (rfl : (tb_c 9)[226]? = some (Cond.instanceMethod yX12_isBetween)))) rfl), (ab_T_in (tb_c_in 0 _ (List.mem_of_getElem? (i := 116) (rfl : (tb_c 0)[116]? = some (Cond.selects RX12 yX12_isBetween yX12_isBetween)))) rfl), _, rfl, rfl⟩
def k_X12_isCounted : List (Nat × Instr × Nat) :=
  [(0, .aload_n 0, 1), (1, .getfield 222, 3), (4, .bipush 64, 2), (6, .if_icmp .ne 9, 3), (9, .aload_n 0, 1), (10, .iconst 2, 1), (11, .invokevirtual 187, 3), (14, .ireturn, 1),
   (15, .aload_n 0, 1), (16, .dup, 1), (17, .getfield 222, 3), (20, .iconst 1, 1), (21, .iadd, 1), (22, .putfield 222, 3), (25, .iconst 1, 1), (26, .ireturn, 1)]
def M_X12_isCounted : ab_MD := (K_X12, yX12_isCounted, cX12_isCounted, 1, (some .boolean), false, k_X12_isCounted)
theorem o_X12_isCounted : ab_OK M_X12_isCounted 0 := tb_ok OC_X12 (by decide +kernel) (by decide +kernel) (ab_T_in (tb_c_in 8 _ (List.mem_of_getElem? (i := 139) (rfl : (tb_c 8)[139]? = some (Cond.code yX12_isCounted cX12_isCounted 1 (some .boolean))))) rfl) IN_X12
theorem v_X12_isCounted : ab_kV M_X12_isCounted 12 := ⟨(ab_T_in (tb_c_in 8 _ (List.mem_of_getElem? (i := 138) (rfl : (tb_c 8)[138]? = some (Cond.instanceMethod yX12_isCounted)))) rfl), (ab_T_in (tb_c_in 0 _ (List.mem_of_getElem? (i := 72) (rfl : (tb_c 0)[72]? = some (Cond.selects RX12 yX12_isCounted yX12_isCounted)))) rfl), _, rfl, rfl⟩
def k_X12_isDear_0 : List (Nat × Instr × Nat) :=
  [(0, .aload_n 0, 1), (1, .iload_n 1, 1), (2, .iload_n 2, 1), (3, .invokevirtual 392, 3), (6, .istore_n 3, 1), (7, .iconst 0, 1), (8, .istore 4, 2), (10, .iconst 0, 1),
   (11, .istore 5, 2), (13, .iconst 0, 1), (14, .istore 6, 2), (16, .iload 6, 2), (18, .aload_n 0, 1), (19, .getfield 225, 3), (22, .if_icmp .ge 60, 3), (25, .iload_n 3, 1),
   (26, .iload 6, 2), (28, .invokestatic 412, 3), (31, .ifCond .ne 6, 3), (34, .goto 42, 3), (37, .iload 4, 2), (39, .aload_n 0, 1), (40, .getfield 36, 3), (43, .iload 6, 2),
   (45, .iaload, 1), (46, .iadd, 1), (47, .istore 4, 2), (49, .iload 5, 2), (51, .aload_n 0, 1), (52, .getfield 30, 3), (55, .iload 6, 2), (57, .iaload, 1),
   (58, .aload_n 0, 1), (59, .getfield 33, 3), (62, .iload 6, 2), (64, .iaload, 1), (65, .if_icmp .ne 7, 3), (68, .iconst 1, 1), (69, .goto 4, 3), (72, .iconst 0, 1),
   (73, .iadd, 1), (74, .istore 5, 2), (76, .iinc 6 1, 3), (79, .goto (-63), 3), (82, .aload_n 0, 1), (83, .iconst (-1), 1), (84, .putfield 424, 3), (87, .iconst 0, 1)]
def k_X12_isDear_1 : List (Nat × Instr × Nat) :=
  [(88, .istore 6, 2), (90, .iload 6, 2), (92, .bipush 7, 2), (94, .if_icmp .ge 159, 3), (97, .iconst 0, 1), (98, .istore 7, 2), (100, .iload 7, 2), (102, .bipush 7, 2),
   (104, .if_icmp .ge 143, 3), (107, .aload_n 0, 1), (108, .getfield 109, 3), (111, .bipush 7, 2), (113, .iload_n 3, 1), (114, .imul, 1), (115, .iload 6, 2), (117, .iadd, 1),
   (118, .iaload, 1), (119, .iload 7, 2), (121, .invokestatic 412, 3), (124, .ifCond .ne 6, 3), (127, .goto 114, 3), (130, .iload 4, 2), (132, .istore 8, 2), (134, .aload_n 0, 1),
   (135, .getfield 60, 3), (138, .iconst 2, 1), (139, .baload, 1), (140, .ifCond .eq 71, 3), (143, .aload_n 0, 1), (144, .iload 6, 2), (146, .iload 7, 2), (148, .iload 4, 2),
   (150, .iload 5, 2), (152, .invokevirtual 405, 3), (155, .aload_n 0, 1), (156, .iload_n 1, 1), (157, .iload_n 2, 1), (158, .invokevirtual 427, 3), (161, .aload_n 0, 1), (162, .iconst 2, 1),
   (163, .invokevirtual 409, 3), (166, .lstore 9, 2), (168, .aload_n 0, 1), (169, .getfield 333, 3), (172, .ifCond .eq 8, 3), (175, .iload 8, 2), (177, .goto 32, 3), (180, .lload 9, 2)]
def k_X12_isDear_2 : List (Nat × Instr × Nat) :=
  [(182, .lconst 0, 1), (183, .lcmp, 1), (184, .ifCond .ge 7, 3), (187, .iconst 0, 1), (188, .goto 21, 3), (191, .lload 9, 2), (193, .ldc2_w 431, 3), (196, .lcmp, 1),
   (197, .ifCond .le 9, 3), (200, .sipush 9999, 3), (203, .goto 6, 3), (206, .lload 9, 2), (208, .l2i, 1), (209, .istore 8, 2), (211, .iload 8, 2), (213, .aload_n 0, 1),
   (214, .getfield 424, 3), (217, .if_icmp .gt 6, 3), (220, .goto 21, 3), (223, .aload_n 0, 1), (224, .iload 8, 2), (226, .putfield 424, 3), (229, .aload_n 0, 1), (230, .iload 6, 2),
   (232, .putfield 433, 3), (235, .aload_n 0, 1), (236, .iload 7, 2), (238, .putfield 436, 3), (241, .iinc 7 1, 3), (244, .goto (-144), 3), (247, .iinc 6 1, 3), (250, .goto (-160), 3),
   (253, .aload_n 0, 1), (254, .getfield 424, 3), (257, .ifCond .lt 7, 3), (260, .iconst 1, 1), (261, .goto 4, 3), (264, .iconst 0, 1), (265, .ireturn, 1)]
def k_X12_isDear : List (Nat × Instr × Nat) := k_X12_isDear_0 ++ (k_X12_isDear_1 ++ (k_X12_isDear_2))
theorem r_X12_isDear_0 : k_X12_isDear_0.all (tb_rr cX12_isDear) = true := by decide +kernel
theorem r_X12_isDear_1 : k_X12_isDear_1.all (tb_rr cX12_isDear) = true := by decide +kernel
theorem r_X12_isDear_2 : k_X12_isDear_2.all (tb_rr cX12_isDear) = true := by decide +kernel
def M_X12_isDear : ab_MD := (K_X12, yX12_isDear, cX12_isDear, 11, (some .boolean), false, k_X12_isDear)
theorem o_X12_isDear : ab_OK M_X12_isDear 2 := tb_ok OC_X12 (by decide +kernel) (tb_app r_X12_isDear_0 (tb_app r_X12_isDear_1 r_X12_isDear_2)) (ab_T_in (tb_c_in 9 _ (List.mem_of_getElem? (i := 52) (rfl : (tb_c 9)[52]? = some (Cond.code yX12_isDear cX12_isDear 11 (some .boolean))))) rfl) IN_X12
theorem v_X12_isDear : ab_kV M_X12_isDear 12 := ⟨(ab_T_in (tb_c_in 9 _ (List.mem_of_getElem? (i := 51) (rfl : (tb_c 9)[51]? = some (Cond.instanceMethod yX12_isDear)))) rfl), (ab_T_in (tb_c_in 0 _ (List.mem_of_getElem? (i := 96) (rfl : (tb_c 0)[96]? = some (Cond.selects RX12 yX12_isDear yX12_isDear)))) rfl), _, rfl, rfl⟩
