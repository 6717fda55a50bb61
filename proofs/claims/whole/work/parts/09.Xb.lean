/-! printed by wip/tools/mktab.py: methods of BoneEstate$Judge -/
def k_X3_addHeirToDeal : List (Nat × Instr × Nat) :=
  [(0, .iload_n 2, 1), (1, .istore 4, 2), (3, .iconst 0, 1), (4, .istore 5, 2), (6, .iload 5, 2), (8, .sipush 512, 3), (11, .if_icmp .ge 43, 3), (14, .aload_n 0, 1),
   (15, .getfield 22, 3), (18, .iload 4, 2), (20, .aload_n 0, 1), (21, .iload_n 1, 1), (22, .iload 4, 2), (24, .iload 4, 2), (26, .iload_n 3, 1), (27, .iand, 1),
   (28, .invokevirtual 178, 3), (31, .iastore, 1), (32, .iload 4, 2), (34, .ifCond .ne 6, 3), (37, .goto 17, 3), (40, .iload 4, 2), (42, .iconst 1, 1), (43, .isub, 1),
   (44, .iload_n 2, 1), (45, .iand, 1), (46, .istore 4, 2), (48, .iinc 5 1, 3), (51, .goto (-45), 3), (54, .return_, 1)]
def M_X3_addHeirToDeal : ab_MD := (K_X3, yX3_addHeirToDeal, cX3_addHeirToDeal, 6, none, false, k_X3_addHeirToDeal)
theorem o_X3_addHeirToDeal : ab_OK M_X3_addHeirToDeal 3 := tb_ok OC_X3 (by decide +kernel) (by decide +kernel) (ab_T_in (tb_c_in 5 _ (List.mem_of_getElem? (i := 219) (rfl : (tb_c 5)[219]? = some (Cond.code yX3_addHeirToDeal cX3_addHeirToDeal 6 none)))) rfl) IN_X3
theorem v_X3_addHeirToDeal : ab_kV M_X3_addHeirToDeal 3 := ⟨(ab_T_in (tb_c_in 5 _ (List.mem_of_getElem? (i := 218) (rfl : (tb_c 5)[218]? = some (Cond.instanceMethod yX3_addHeirToDeal)))) rfl), (ab_T_in (tb_c_in 0 _ (List.mem_of_getElem? (i := 39) (rfl : (tb_c 0)[39]? = some (Cond.selects RX3 yX3_addHeirToDeal yX3_addHeirToDeal)))) rfl), _, rfl, rfl⟩
def k_X3_exchangeMakesRow : List (Nat × Instr × Nat) :=
  [(0, .iconst 0, 1), (1, .istore_n 3, 1), (2, .iload_n 3, 1), (3, .aload_n 0, 1), (4, .getfield 25, 3), (7, .getfield 151, 3), (10, .if_icmp .ge 35, 3), (13, .iload_n 2, 1),
   (14, .iload_n 3, 1), (15, .iushr, 1), (16, .iconst 1, 1), (17, .iand, 1), (18, .iconst 1, 1), (19, .if_icmp .ne 20, 3), (22, .aload_n 0, 1), (23, .getfield 29, 3),
   (26, .iload_n 1, 1), (27, .iconst 1, 1), (28, .iload_n 3, 1), (29, .ishl, 1), (30, .ior, 1), (31, .invokevirtual 165, 3), (34, .ifCond .eq 5, 3), (37, .iconst 1, 1),
   (38, .ireturn, 1), (39, .iinc 3 1, 3), (42, .goto (-40), 3), (45, .iconst 0, 1), (46, .ireturn, 1)]
def M_X3_exchangeMakesRow : ab_MD := (K_X3, yX3_exchangeMakesRow, cX3_exchangeMakesRow, 4, (some .boolean), false, k_X3_exchangeMakesRow)
theorem o_X3_exchangeMakesRow : ab_OK M_X3_exchangeMakesRow 2 := tb_ok OC_X3 (by decide +kernel) (by decide +kernel) (ab_T_in (tb_c_in 5 _ (List.mem_of_getElem? (i := 194) (rfl : (tb_c 5)[194]? = some (Cond.code yX3_exchangeMakesRow cX3_exchangeMakesRow 4 (some .boolean))))) rfl) IN_X3
theorem v_X3_exchangeMakesRow : ab_kV M_X3_exchangeMakesRow 3 := ⟨(ab_T_in (tb_c_in 5 _ (List.mem_of_getElem? (i := 193) (rfl : (tb_c 5)[193]? = some (Cond.instanceMethod yX3_exchangeMakesRow)))) rfl), (ab_T_in (tb_c_in 0 _ (List.mem_of_getElem? (i := 38) (rfl : (tb_c 0)[38]? = some (Cond.selects RX3 yX3_exchangeMakesRow yX3_exchangeMakesRow)))) rfl), _, rfl, rfl⟩
def k_X3_findDearest_0 : List (Nat × Instr × Nat) :=
  [(0, .aload_n 0, 1), (1, .getfield 29, 3), (4, .aload_n 0, 1), (5, .aload_n 1, 1), (6, .getfield 74, 3), (9, .invokevirtual 117, 3), (12, .invokevirtual 121, 3), (15, .aload_n 1, 1),
   (16, .getfield 61, 3), (19, .iload_n 2, 1), (20, .iaload, 1), (21, .istore_n 3, 1), (22, .aload_n 0, 1), (23, .getfield 29, 3), (26, .iload_n 3, 1), (27, .invokevirtual 127, 3),
   (30, .lstore 4, 2), (32, .lload 4, 2), (34, .lconst 0, 1), (35, .lcmp, 1), (36, .ifCond .ne 5, 3), (39, .iconst 0, 1), (40, .ireturn, 1), (41, .aload_n 0, 1),
   (42, .getfield 25, 3), (45, .iload_n 3, 1), (46, .invokevirtual 130, 3), (49, .istore 6, 2), (51, .aload_n 0, 1), (52, .getfield 25, 3), (55, .iload_n 3, 1), (56, .invokevirtual 90, 3),
   (59, .istore 7, 2), (61, .aload_n 0, 1), (62, .getfield 25, 3), (65, .getfield 39, 3), (68, .iconst 2, 1), (69, .aaload, 1), (70, .astore 8, 2), (72, .aload 8, 2),
   (74, .iload_n 3, 1), (75, .invokestatic 66, 3), (78, .aload_n 1, 1), (79, .getfield 71, 3), (82, .iload_n 2, 1), (83, .iaload, 1), (84, .aload_n 1, 1), (85, .getfield 74, 3)]
def k_X3_findDearest_1 : List (Nat × Instr × Nat) :=
  [(88, .invokevirtual 45, 3), (91, .aload_n 0, 1), (92, .iconst (-1), 1), (93, .putfield 133, 3), (96, .iconst 0, 1), (97, .istore 9, 2), (99, .iload 9, 2), (101, .bipush 7, 2),
   (103, .if_icmp .ge 115, 3), (106, .iconst 0, 1), (107, .istore 10, 2), (109, .iload 10, 2), (111, .bipush 7, 2), (113, .if_icmp .ge 99, 3), (116, .lload 4, 2), (118, .iload 9, 2),
   (120, .bipush 8, 2), (122, .imul, 1), (123, .iload 10, 2), (125, .iadd, 1), (126, .lushr, 1), (127, .lconst 1, 1), (128, .land, 1), (129, .lconst 1, 1),
   (130, .lcmp, 1), (131, .ifCond .ne 75, 3), (134, .aload 8, 2), (136, .iload 9, 2), (138, .iload 10, 2), (140, .iload 6, 2), (142, .iload 7, 2), (144, .invokevirtual 57, 3),
   (147, .lstore 11, 2), (149, .lconst 0, 1), (150, .ldc2_w 136, 3), (153, .lload 11, 2), (155, .ldc2_w 108, 3), (158, .lcmp, 1), (159, .ifCond .ne 9, 3), (162, .iload 6, 2),
   (164, .i2l, 1), (165, .goto 5, 3), (168, .lload 11, 2), (170, .invokestatic 138, 3), (173, .invokestatic 142, 3), (176, .l2i, 1), (177, .istore 13, 2), (179, .iload 13, 2)]
def k_X3_findDearest_2 : List (Nat × Instr × Nat) :=
  [(181, .aload_n 0, 1), (182, .getfield 133, 3), (185, .if_icmp .le 21, 3), (188, .aload_n 0, 1), (189, .iload 13, 2), (191, .putfield 133, 3), (194, .aload_n 0, 1), (195, .iload 9, 2),
   (197, .putfield 145, 3), (200, .aload_n 0, 1), (201, .iload 10, 2), (203, .putfield 148, 3), (206, .iinc 10 1, 3), (209, .goto (-100), 3), (212, .iinc 9 1, 3), (215, .goto (-116), 3),
   (218, .iconst 1, 1), (219, .ireturn, 1)]
def k_X3_findDearest : List (Nat × Instr × Nat) := k_X3_findDearest_0 ++ (k_X3_findDearest_1 ++ (k_X3_findDearest_2))
theorem r_X3_findDearest_0 : k_X3_findDearest_0.all (tb_rr cX3_findDearest) = true := by decide +kernel
theorem r_X3_findDearest_1 : k_X3_findDearest_1.all (tb_rr cX3_findDearest) = true := by decide +kernel
theorem r_X3_findDearest_2 : k_X3_findDearest_2.all (tb_rr cX3_findDearest) = true := by decide +kernel
def M_X3_findDearest : ab_MD := (K_X3, yX3_findDearest, cX3_findDearest, 14, (some .boolean), false, k_X3_findDearest)
theorem o_X3_findDearest : ab_OK M_X3_findDearest 2 := tb_ok OC_X3 (by decide +kernel) (tb_app r_X3_findDearest_0 (tb_app r_X3_findDearest_1 r_X3_findDearest_2)) (ab_T_in (tb_c_in 5 _ (List.mem_of_getElem? (i := 6) (rfl : (tb_c 5)[6]? = some (Cond.code yX3_findDearest cX3_findDearest 14 (some .boolean))))) rfl) IN_X3
theorem v_X3_findDearest : ab_kV M_X3_findDearest 3 := ⟨(ab_T_in (tb_c_in 5 _ (List.mem_of_getElem? (i := 4) (rfl : (tb_c 5)[4]? = some (Cond.instanceMethod yX3_findDearest)))) rfl), (ab_T_in (tb_c_in 5 _ (List.mem_of_getElem? (i := 5) (rfl : (tb_c 5)[5]? = some (Cond.selects RX3 yX3_findDearest yX3_findDearest)))) rfl), _, rfl, rfl⟩
def k_X3_findExchanges : List (Nat × Instr × Nat) :=
  [(0, .iconst 0, 1), (1, .istore_n 3, 1), (2, .iload_n 3, 1), (3, .aload_n 0, 1), (4, .getfield 25, 3), (7, .getfield 151, 3), (10, .if_icmp .ge 100, 3), (13, .aload_n 0, 1),
   (14, .getfield 19, 3), (17, .iload_n 3, 1), (18, .iconst 0, 1), (19, .iastore, 1), (20, .aload_n 1, 1), (21, .iload_n 3, 1), (22, .invokevirtual 154, 3), (25, .iload_n 2, 1),
   (26, .if_icmp .ne 78, 3), (29, .iconst 0, 1), (30, .istore 4, 2), (32, .iload 4, 2), (34, .aload_n 0, 1), (35, .getfield 25, 3), (38, .getfield 151, 3), (41, .if_icmp .ge 63, 3),
   (44, .aload_n 1, 1), (45, .iload 4, 2), (47, .invokevirtual 154, 3), (50, .istore 5, 2), (52, .iload 5, 2), (54, .ifCond .lt 44, 3), (57, .iload 5, 2), (59, .iload_n 2, 1),
   (60, .if_icmp .eq 38, 3), (63, .aload_n 0, 1), (64, .aload_n 1, 1), (65, .iload 4, 2), (67, .iload_n 2, 1), (68, .invokevirtual 157, 3), (71, .ifCond .eq 27, 3), (74, .aload_n 0, 1),
   (75, .aload_n 1, 1), (76, .iload_n 3, 1), (77, .iload 5, 2), (79, .invokevirtual 157, 3), (82, .ifCond .eq 16, 3), (85, .aload_n 0, 1), (86, .getfield 19, 3), (89, .iload_n 3, 1),
   (90, .dup2, 1), (91, .iaload, 1), (92, .iconst 1, 1), (93, .iload 4, 2), (95, .ishl, 1), (96, .ior, 1), (97, .iastore, 1), (98, .iinc 4 1, 3),
   (101, .goto (-69), 3), (104, .iinc 3 1, 3), (107, .goto (-105), 3), (110, .return_, 1)]
def M_X3_findExchanges : ab_MD := (K_X3, yX3_findExchanges, cX3_findExchanges, 6, none, false, k_X3_findExchanges)
theorem o_X3_findExchanges : ab_OK M_X3_findExchanges 2 := tb_ok OC_X3 (by decide +kernel) (by decide +kernel) (ab_T_in (tb_c_in 5 _ (List.mem_of_getElem? (i := 184) (rfl : (tb_c 5)[184]? = some (Cond.code yX3_findExchanges cX3_findExchanges 6 none)))) rfl) IN_X3
theorem v_X3_findExchanges : ab_kV M_X3_findExchanges 3 := ⟨(ab_T_in (tb_c_in 5 _ (List.mem_of_getElem? (i := 182) (rfl : (tb_c 5)[182]? = some (Cond.instanceMethod yX3_findExchanges)))) rfl), (ab_T_in (tb_c_in 5 _ (List.mem_of_getElem? (i := 183) (rfl : (tb_c 5)[183]? = some (Cond.selects RX3 yX3_findExchanges yX3_findExchanges)))) rfl), _, rfl, rfl⟩
def k_X3_forget : List (Nat × Instr × Nat) :=
  [(0, .aload_n 0, 1), (1, .getfield 15, 3), (4, .iconst (-1), 1), (5, .invokestatic 33, 3), (8, .return_, 1)]
def M_X3_forget : ab_MD := (K_X3, yX3_forget, cX3_forget, 1, none, false, k_X3_forget)
theorem o_X3_forget : ab_OK M_X3_forget 0 := tb_ok OC_X3 (by decide +kernel) (by decide +kernel) (ab_T_in (tb_c_in 4 _ (List.mem_of_getElem? (i := 81) (rfl : (tb_c 4)[81]? = some (Cond.code yX3_forget cX3_forget 1 none)))) rfl) IN_X3
theorem v_X3_forget : ab_kV M_X3_forget 3 := ⟨(ab_T_in (tb_c_in 4 _ (List.mem_of_getElem? (i := 79) (rfl : (tb_c 4)[79]? = some (Cond.instanceMethod yX3_forget)))) rfl), (ab_T_in (tb_c_in 4 _ (List.mem_of_getElem? (i := 80) (rfl : (tb_c 4)[80]? = some (Cond.selects RX3 yX3_forget yX3_forget)))) rfl), _, rfl, rfl⟩
def k_X3_goldValue : List (Nat × Instr × Nat) :=
  [(0, .aload_n 0, 1), (1, .getfield 25, 3), (4, .getfield 39, 3), (7, .iconst 2, 1), (8, .aaload, 1), (9, .astore 4, 2), (11, .aload 4, 2), (13, .aload_n 1, 1),
   (14, .getfield 61, 3), (17, .iload_n 3, 1), (18, .iaload, 1), (19, .invokestatic 66, 3), (22, .aload_n 1, 1), (23, .getfield 71, 3), (26, .iload_n 3, 1), (27, .iaload, 1),
   (28, .aload_n 1, 1), (29, .getfield 74, 3), (32, .invokevirtual 45, 3), (35, .aload 4, 2), (37, .aload_n 0, 1), (38, .getfield 25, 3), (41, .getfield 78, 3), (44, .iload_n 2, 1),
   (45, .iaload, 1), (46, .aload_n 0, 1), (47, .getfield 25, 3), (50, .getfield 81, 3), (53, .iload_n 2, 1), (54, .iaload, 1), (55, .aload_n 0, 1), (56, .getfield 25, 3),
   (59, .getfield 84, 3), (62, .iload_n 2, 1), (63, .iaload, 1), (64, .aload_n 0, 1), (65, .getfield 25, 3), (68, .iconst 1, 1), (69, .iload_n 2, 1), (70, .ishl, 1),
   (71, .invokevirtual 90, 3), (74, .invokevirtual 57, 3), (77, .lreturn, 1)]
def M_X3_goldValue : ab_MD := (K_X3, yX3_goldValue, cX3_goldValue, 5, (some .long), false, k_X3_goldValue)
theorem o_X3_goldValue : ab_OK M_X3_goldValue 3 := tb_ok OC_X3 (by decide +kernel) (by decide +kernel) (ab_T_in (tb_c_in 4 _ (List.mem_of_getElem? (i := 179) (rfl : (tb_c 4)[179]? = some (Cond.code yX3_goldValue cX3_goldValue 5 (some .long))))) rfl) IN_X3
theorem v_X3_goldValue : ab_kV M_X3_goldValue 3 := ⟨(ab_T_in (tb_c_in 4 _ (List.mem_of_getElem? (i := 177) (rfl : (tb_c 4)[177]? = some (Cond.instanceMethod yX3_goldValue)))) rfl), (ab_T_in (tb_c_in 4 _ (List.mem_of_getElem? (i := 178) (rfl : (tb_c 4)[178]? = some (Cond.selects RX3 yX3_goldValue yX3_goldValue)))) rfl), _, rfl, rfl⟩
def k_X3_init : List (Nat × Instr × Nat) :=
  [(0, .aload_n 0, 1), (1, .invokespecial 3, 3), (4, .aload_n 0, 1), (5, .sipush 128, 3), (8, .newarray .long, 2), (10, .putfield 11, 3), (13, .aload_n 0, 1), (14, .sipush 128, 3),
   (17, .newarray .int, 2), (19, .putfield 15, 3), (22, .aload_n 0, 1), (23, .bipush 9, 2), (25, .newarray .int, 2), (27, .putfield 19, 3), (30, .aload_n 0, 1), (31, .sipush 512, 3),
   (34, .newarray .int, 2), (36, .putfield 22, 3), (39, .aload_n 0, 1), (40, .aload_n 1, 1), (41, .putfield 25, 3), (44, .aload_n 0, 1), (45, .aload_n 2, 1), (46, .putfield 29, 3),
   (49, .aload_n 0, 1), (50, .getfield 15, 3), (53, .iconst (-1), 1), (54, .invokestatic 33, 3), (57, .return_, 1)]
def M_X3_init : ab_MD := (K_X3, yX3_init, cX3_init, 3, none, true, k_X3_init)
theorem o_X3_init : ab_OK M_X3_init 2 := tb_ok OC_X3 (by decide +kernel) (by decide +kernel) (ab_T_in (tb_c_in 2 _ (List.mem_of_getElem? (i := 113) (rfl : (tb_c 2)[113]? = some (Cond.code yX3_init cX3_init 3 none)))) rfl) IN_X3
theorem i_X3_init : Cond.instanceMethod M_X3_init.2.1 ∈ ab_T := (ab_T_in (tb_c_in 2 _ (List.mem_of_getElem? (i := 112) (rfl : (tb_c 2)[112]? = some (Cond.instanceMethod yX3_init)))) rfl)
def k_X3_joinValue : List (Nat × Instr × Nat) :=
  [(0, .aload_n 0, 1), (1, .getfield 25, 3), (4, .getfield 39, 3), (7, .iconst 0, 1), (8, .aaload, 1), (9, .astore 4, 2), (11, .aload 4, 2), (13, .iconst 0, 1),
   (14, .iconst 0, 1), (15, .iload_n 1, 1), (16, .invokevirtual 45, 3), (19, .aload 4, 2), (21, .iload_n 2, 1), (22, .iload_n 3, 1), (23, .iconst 0, 1), (24, .iload_n 2, 1),
   (25, .iload_n 3, 1), (26, .isub, 1), (27, .invokestatic 51, 3), (30, .invokevirtual 57, 3), (33, .lreturn, 1)]
def M_X3_joinValue : ab_MD := (K_X3, yX3_joinValue, cX3_joinValue, 5, (some .long), false, k_X3_joinValue)
theorem o_X3_joinValue : ab_OK M_X3_joinValue 3 := tb_ok OC_X3 (by decide +kernel) (by decide +kernel) (ab_T_in (tb_c_in 4 _ (List.mem_of_getElem? (i := 155) (rfl : (tb_c 4)[155]? = some (Cond.code yX3_joinValue cX3_joinValue 5 (some .long))))) rfl) IN_X3
theorem v_X3_joinValue : ab_kV M_X3_joinValue 3 := ⟨(ab_T_in (tb_c_in 4 _ (List.mem_of_getElem? (i := 153) (rfl : (tb_c 4)[153]? = some (Cond.instanceMethod yX3_joinValue)))) rfl), (ab_T_in (tb_c_in 4 _ (List.mem_of_getElem? (i := 154) (rfl : (tb_c 4)[154]? = some (Cond.selects RX3 yX3_joinValue yX3_joinValue)))) rfl), _, rfl, rfl⟩
def k_X3_joinsOn_0 : List (Nat × Instr × Nat) :=
  [(0, .aload_n 0, 1), (1, .getfield 25, 3), (4, .getfield 39, 3), (7, .iconst 0, 1), (8, .aaload, 1), (9, .astore_n 2, 1), (10, .aload_n 0, 1), (11, .getfield 93, 3),
   (14, .ifCond .eq 7, 3), (17, .ldc2_w 97, 3), (20, .lreturn, 1), (21, .aload_n 2, 1), (22, .invokevirtual 99, 3), (25, .ifCond .ne 7, 3), (28, .ldc2_w 103, 3), (31, .lreturn, 1),
   (32, .aload_n 2, 1), (33, .getfield 105, 3), (36, .ifCond .eq 7, 3), (39, .iload_n 1, 1), (40, .goto 4, 3), (43, .iconst 0, 1), (44, .istore_n 3, 1), (45, .iload_n 3, 1),
   (46, .bipush 127, 2), (48, .iand, 1), (49, .istore 4, 2), (51, .aload_n 0, 1), (52, .getfield 15, 3), (55, .iload 4, 2), (57, .iaload, 1), (58, .iload_n 3, 1),
   (59, .if_icmp .ne 11, 3), (62, .aload_n 0, 1), (63, .getfield 11, 3), (66, .iload 4, 2), (68, .laload, 1), (69, .lreturn, 1), (70, .lconst 0, 1), (71, .lstore 5, 2),
   (73, .aload_n 2, 1), (74, .iconst 0, 1), (75, .iconst 0, 1), (76, .iload_n 1, 1), (77, .invokevirtual 45, 3), (80, .iconst 0, 1), (81, .istore 7, 2), (83, .iload 7, 2)]
def k_X3_joinsOn_1 : List (Nat × Instr × Nat) :=
  [(85, .bipush 7, 2), (87, .if_icmp .ge 85, 3), (90, .iconst 0, 1), (91, .istore 8, 2), (93, .iload 8, 2), (95, .bipush 7, 2), (97, .if_icmp .ge 69, 3), (100, .aload_n 2, 1),
   (101, .iload 7, 2), (103, .iload 8, 2), (105, .iconst 0, 1), (106, .iload 7, 2), (108, .iload 8, 2), (110, .isub, 1), (111, .invokestatic 51, 3), (114, .invokevirtual 57, 3),
   (117, .lstore 9, 2), (119, .lload 9, 2), (121, .ldc2_w 108, 3), (124, .lcmp, 1), (125, .ifCond .ne 13, 3), (128, .iload 7, 2), (130, .iload 8, 2), (132, .if_icmp .ne 28, 3),
   (135, .goto 10, 3), (138, .lload 9, 2), (140, .lconst 0, 1), (141, .lcmp, 1), (142, .ifCond .eq 18, 3), (145, .lload 5, 2), (147, .lconst 1, 1), (148, .iload 7, 2),
   (150, .bipush 8, 2), (152, .imul, 1), (153, .iload 8, 2), (155, .iadd, 1), (156, .lshl, 1), (157, .lor, 1), (158, .lstore 5, 2), (160, .iinc 8 1, 3),
   (163, .goto (-70), 3), (166, .iinc 7 1, 3), (169, .goto (-86), 3), (172, .aload_n 0, 1), (173, .getfield 11, 3), (176, .iload 4, 2), (178, .lload 5, 2), (180, .lastore, 1)]
def k_X3_joinsOn_2 : List (Nat × Instr × Nat) :=
  [(181, .aload_n 0, 1), (182, .getfield 15, 3), (185, .iload 4, 2), (187, .iload_n 3, 1), (188, .iastore, 1), (189, .lload 5, 2), (191, .lreturn, 1)]
def k_X3_joinsOn : List (Nat × Instr × Nat) := k_X3_joinsOn_0 ++ (k_X3_joinsOn_1 ++ (k_X3_joinsOn_2))
theorem r_X3_joinsOn_0 : k_X3_joinsOn_0.all (tb_rr cX3_joinsOn) = true := by decide +kernel
theorem r_X3_joinsOn_1 : k_X3_joinsOn_1.all (tb_rr cX3_joinsOn) = true := by decide +kernel
theorem r_X3_joinsOn_2 : k_X3_joinsOn_2.all (tb_rr cX3_joinsOn) = true := by decide +kernel
def M_X3_joinsOn : ab_MD := (K_X3, yX3_joinsOn, cX3_joinsOn, 11, (some .long), false, k_X3_joinsOn)
theorem o_X3_joinsOn : ab_OK M_X3_joinsOn 1 := tb_ok OC_X3 (by decide +kernel) (tb_app r_X3_joinsOn_0 (tb_app r_X3_joinsOn_1 r_X3_joinsOn_2)) (ab_T_in (tb_c_in 4 _ (List.mem_of_getElem? (i := 123) (rfl : (tb_c 4)[123]? = some (Cond.code yX3_joinsOn cX3_joinsOn 11 (some .long))))) rfl) IN_X3
theorem v_X3_joinsOn : ab_kV M_X3_joinsOn 3 := ⟨(ab_T_in (tb_c_in 4 _ (List.mem_of_getElem? (i := 121) (rfl : (tb_c 4)[121]? = some (Cond.instanceMethod yX3_joinsOn)))) rfl), (ab_T_in (tb_c_in 4 _ (List.mem_of_getElem? (i := 122) (rfl : (tb_c 4)[122]? = some (Cond.selects RX3 yX3_joinsOn yX3_joinsOn)))) rfl), _, rfl, rfl⟩
def k_X3_mayHold : List (Nat × Instr × Nat) :=
  [(0, .aload_n 0, 1), (1, .getfield 110, 3), (4, .ifCond .ne 15, 3), (7, .aload_n 0, 1), (8, .aload_n 1, 1), (9, .iload_n 2, 1), (10, .iload_n 3, 1), (11, .invokevirtual 113, 3),
   (14, .lconst 0, 1), (15, .lcmp, 1), (16, .ifCond .eq 7, 3), (19, .iconst 1, 1), (20, .goto 4, 3), (23, .iconst 0, 1), (24, .ireturn, 1)]
def M_X3_mayHold : ab_MD := (K_X3, yX3_mayHold, cX3_mayHold, 4, (some .boolean), false, k_X3_mayHold)
theorem o_X3_mayHold : ab_OK M_X3_mayHold 3 := tb_ok OC_X3 (by decide +kernel) (by decide +kernel) (ab_T_in (tb_c_in 4 _ (List.mem_of_getElem? (i := 195) (rfl : (tb_c 4)[195]? = some (Cond.code yX3_mayHold cX3_mayHold 4 (some .boolean))))) rfl) IN_X3
theorem v_X3_mayHold : ab_kV M_X3_mayHold 3 := ⟨(ab_T_in (tb_c_in 4 _ (List.mem_of_getElem? (i := 193) (rfl : (tb_c 4)[193]? = some (Cond.instanceMethod yX3_mayHold)))) rfl), (ab_T_in (tb_c_in 4 _ (List.mem_of_getElem? (i := 194) (rfl : (tb_c 4)[194]? = some (Cond.selects RX3 yX3_mayHold yX3_mayHold)))) rfl), _, rfl, rfl⟩
def k_X3_mayValue : List (Nat × Instr × Nat) :=
  [(0, .aload_n 0, 1), (1, .getfield 25, 3), (4, .getfield 39, 3), (7, .iconst 1, 1), (8, .aaload, 1), (9, .astore 4, 2), (11, .aload 4, 2), (13, .aload_n 1, 1),
   (14, .getfield 61, 3), (17, .iload_n 3, 1), (18, .iaload, 1), (19, .invokestatic 66, 3), (22, .aload_n 1, 1), (23, .getfield 71, 3), (26, .iload_n 3, 1), (27, .iaload, 1),
   (28, .aload_n 1, 1), (29, .getfield 74, 3), (32, .invokevirtual 45, 3), (35, .aload 4, 2), (37, .aload_n 0, 1), (38, .getfield 25, 3), (41, .getfield 78, 3), (44, .iload_n 2, 1),
   (45, .iaload, 1), (46, .aload_n 0, 1), (47, .getfield 25, 3), (50, .getfield 81, 3), (53, .iload_n 2, 1), (54, .iaload, 1), (55, .aload_n 0, 1), (56, .getfield 25, 3),
   (59, .getfield 84, 3), (62, .iload_n 2, 1), (63, .iaload, 1), (64, .aload_n 0, 1), (65, .getfield 25, 3), (68, .iload_n 2, 1), (69, .invokevirtual 87, 3), (72, .invokevirtual 57, 3),
   (75, .lreturn, 1)]
def M_X3_mayValue : ab_MD := (K_X3, yX3_mayValue, cX3_mayValue, 5, (some .long), false, k_X3_mayValue)
theorem o_X3_mayValue : ab_OK M_X3_mayValue 3 := tb_ok OC_X3 (by decide +kernel) (by decide +kernel) (ab_T_in (tb_c_in 4 _ (List.mem_of_getElem? (i := 164) (rfl : (tb_c 4)[164]? = some (Cond.code yX3_mayValue cX3_mayValue 5 (some .long))))) rfl) IN_X3
theorem v_X3_mayValue : ab_kV M_X3_mayValue 3 := ⟨(ab_T_in (tb_c_in 4 _ (List.mem_of_getElem? (i := 162) (rfl : (tb_c 4)[162]? = some (Cond.instanceMethod yX3_mayValue)))) rfl), (ab_T_in (tb_c_in 4 _ (List.mem_of_getElem? (i := 163) (rfl : (tb_c 4)[163]? = some (Cond.selects RX3 yX3_mayValue yX3_mayValue)))) rfl), _, rfl, rfl⟩
def k_X3_mostRowsByBox : List (Nat × Instr × Nat) :=
  [(0, .aload_n 0, 1), (1, .getfield 22, 3), (4, .iconst 0, 1), (5, .invokestatic 33, 3), (8, .iconst 0, 1), (9, .istore_n 2, 1), (10, .iload_n 2, 1), (11, .aload_n 0, 1),
   (12, .getfield 25, 3), (15, .getfield 169, 3), (18, .if_icmp .ge 82, 3), (21, .iconst 0, 1), (22, .istore_n 3, 1), (23, .iconst 0, 1), (24, .istore 4, 2), (26, .iload 4, 2),
   (28, .aload_n 0, 1), (29, .getfield 25, 3), (32, .getfield 151, 3), (35, .if_icmp .ge 40, 3), (38, .aload_n 1, 1), (39, .getfield 172, 3), (42, .iload 4, 2), (44, .iushr, 1),
   (45, .iconst 1, 1), (46, .iand, 1), (47, .iconst 1, 1), (48, .if_icmp .ne 21, 3), (51, .aload_n 0, 1), (52, .aload_n 1, 1), (53, .iload 4, 2), (55, .iload_n 2, 1),
   (56, .invokevirtual 157, 3), (59, .ifCond .eq 10, 3), (62, .iload_n 3, 1), (63, .iconst 1, 1), (64, .iload 4, 2), (66, .ishl, 1), (67, .ior, 1), (68, .istore_n 3, 1),
   (69, .iinc 4 1, 3), (72, .goto (-46), 3), (75, .aload_n 0, 1), (76, .aload_n 1, 1), (77, .getfield 61, 3), (80, .iload_n 2, 1), (81, .iaload, 1), (82, .aload_n 1, 1),
   (83, .getfield 172, 3), (86, .sipush 511, 3), (89, .iand, 1), (90, .iload_n 3, 1), (91, .invokevirtual 175, 3), (94, .iinc 2 1, 3), (97, .goto (-87), 3), (100, .aload_n 0, 1),
   (101, .getfield 22, 3), (104, .aload_n 1, 1), (105, .getfield 172, 3), (108, .sipush 511, 3), (111, .iand, 1), (112, .iaload, 1), (113, .ireturn, 1)]
def M_X3_mostRowsByBox : ab_MD := (K_X3, yX3_mostRowsByBox, cX3_mostRowsByBox, 5, (some .int), false, k_X3_mostRowsByBox)
theorem o_X3_mostRowsByBox : ab_OK M_X3_mostRowsByBox 1 := tb_ok OC_X3 (by decide +kernel) (by decide +kernel) (ab_T_in (tb_c_in 5 _ (List.mem_of_getElem? (i := 215) (rfl : (tb_c 5)[215]? = some (Cond.code yX3_mostRowsByBox cX3_mostRowsByBox 5 (some .int))))) rfl) IN_X3
theorem v_X3_mostRowsByBox : ab_kV M_X3_mostRowsByBox 3 := ⟨(ab_T_in (tb_c_in 5 _ (List.mem_of_getElem? (i := 213) (rfl : (tb_c 5)[213]? = some (Cond.instanceMethod yX3_mostRowsByBox)))) rfl), (ab_T_in (tb_c_in 5 _ (List.mem_of_getElem? (i := 214) (rfl : (tb_c 5)[214]? = some (Cond.selects RX3 yX3_mostRowsByBox yX3_mostRowsByBox)))) rfl), _, rfl, rfl⟩
def k_X3_mostWith : List (Nat × Instr × Nat) :=
  [(0, .aload_n 0, 1), (1, .getfield 22, 3), (4, .iload_n 2, 1), (5, .iaload, 1), (6, .istore 4, 2), (8, .iload_n 3, 1), (9, .istore 5, 2), (11, .iconst 0, 1),
   (12, .istore 6, 2), (14, .iload 6, 2), (16, .sipush 512, 3), (19, .if_icmp .ge 72, 3), (22, .iconst 1, 1), (23, .aload_n 0, 1), (24, .getfield 22, 3), (27, .iload_n 2, 1),
   (28, .iload 5, 2), (30, .iconst (-1), 1), (31, .ixor, 1), (32, .iand, 1), (33, .iaload, 1), (34, .iadd, 1), (35, .iload 4, 2), (37, .if_icmp .le 32, 3),
   (40, .aload_n 0, 1), (41, .getfield 29, 3), (44, .iload_n 1, 1), (45, .iload 5, 2), (47, .ior, 1), (48, .invokevirtual 165, 3), (51, .ifCond .eq 18, 3), (54, .iconst 1, 1),
   (55, .aload_n 0, 1), (56, .getfield 22, 3), (59, .iload_n 2, 1), (60, .iload 5, 2), (62, .iconst (-1), 1), (63, .ixor, 1), (64, .iand, 1), (65, .iaload, 1),
   (66, .iadd, 1), (67, .istore 4, 2), (69, .iload 5, 2), (71, .ifCond .ne 6, 3), (74, .goto 17, 3), (77, .iload 5, 2), (79, .iconst 1, 1), (80, .isub, 1),
   (81, .iload_n 3, 1), (82, .iand, 1), (83, .istore 5, 2), (85, .iinc 6 1, 3), (88, .goto (-74), 3), (91, .iload 4, 2), (93, .ireturn, 1)]
def M_X3_mostWith : ab_MD := (K_X3, yX3_mostWith, cX3_mostWith, 7, (some .int), false, k_X3_mostWith)
theorem o_X3_mostWith : ab_OK M_X3_mostWith 3 := tb_ok OC_X3 (by decide +kernel) (by decide +kernel) (ab_T_in (tb_c_in 5 _ (List.mem_of_getElem? (i := 223) (rfl : (tb_c 5)[223]? = some (Cond.code yX3_mostWith cX3_mostWith 7 (some .int))))) rfl) IN_X3
theorem v_X3_mostWith : ab_kV M_X3_mostWith 3 := ⟨(ab_T_in (tb_c_in 5 _ (List.mem_of_getElem? (i := 222) (rfl : (tb_c 5)[222]? = some (Cond.instanceMethod yX3_mostWith)))) rfl), (ab_T_in (tb_c_in 0 _ (List.mem_of_getElem? (i := 40) (rfl : (tb_c 0)[40]? = some (Cond.selects RX3 yX3_mostWith yX3_mostWith)))) rfl), _, rfl, rfl⟩
def k_X3_oneExchangeMakesRow : List (Nat × Instr × Nat) :=
  [(0, .iconst 0, 1), (1, .istore_n 2, 1), (2, .iload_n 2, 1), (3, .aload_n 0, 1), (4, .getfield 25, 3), (7, .getfield 151, 3), (10, .if_icmp .ge 31, 3), (13, .aload_n 0, 1),
   (14, .iload_n 1, 1), (15, .iconst 1, 1), (16, .iload_n 2, 1), (17, .ishl, 1), (18, .iconst (-1), 1), (19, .ixor, 1), (20, .iand, 1), (21, .aload_n 0, 1),
   (22, .getfield 19, 3), (25, .iload_n 2, 1), (26, .iaload, 1), (27, .invokevirtual 161, 3), (30, .ifCond .eq 5, 3), (33, .iconst 1, 1), (34, .ireturn, 1), (35, .iinc 2 1, 3),
   (38, .goto (-36), 3), (41, .iconst 0, 1), (42, .ireturn, 1)]
def M_X3_oneExchangeMakesRow : ab_MD := (K_X3, yX3_oneExchangeMakesRow, cX3_oneExchangeMakesRow, 3, (some .boolean), false, k_X3_oneExchangeMakesRow)
theorem o_X3_oneExchangeMakesRow : ab_OK M_X3_oneExchangeMakesRow 1 := tb_ok OC_X3 (by decide +kernel) (by decide +kernel) (ab_T_in (tb_c_in 5 _ (List.mem_of_getElem? (i := 190) (rfl : (tb_c 5)[190]? = some (Cond.code yX3_oneExchangeMakesRow cX3_oneExchangeMakesRow 3 (some .boolean))))) rfl) IN_X3
theorem v_X3_oneExchangeMakesRow : ab_kV M_X3_oneExchangeMakesRow 3 := ⟨(ab_T_in (tb_c_in 5 _ (List.mem_of_getElem? (i := 188) (rfl : (tb_c 5)[188]? = some (Cond.instanceMethod yX3_oneExchangeMakesRow)))) rfl), (ab_T_in (tb_c_in 5 _ (List.mem_of_getElem? (i := 189) (rfl : (tb_c 5)[189]? = some (Cond.selects RX3 yX3_oneExchangeMakesRow yX3_oneExchangeMakesRow)))) rfl), _, rfl, rfl⟩
def k_X3_twoExchangesMakeRow : List (Nat × Instr × Nat) :=
  [(0, .iconst 0, 1), (1, .istore_n 2, 1), (2, .iload_n 2, 1), (3, .aload_n 0, 1), (4, .getfield 25, 3), (7, .getfield 151, 3), (10, .if_icmp .ge 112, 3), (13, .iconst 0, 1),
   (14, .istore_n 3, 1), (15, .iload_n 3, 1), (16, .aload_n 0, 1), (17, .getfield 25, 3), (20, .getfield 151, 3), (23, .if_icmp .ge 93, 3), (26, .aload_n 0, 1), (27, .getfield 19, 3),
   (30, .iload_n 2, 1), (31, .iaload, 1), (32, .iload_n 3, 1), (33, .iushr, 1), (34, .iconst 1, 1), (35, .iand, 1), (36, .iconst 1, 1), (37, .if_icmp .ne 73, 3),
   (40, .iconst 1, 1), (41, .iload_n 3, 1), (42, .ishl, 1), (43, .istore 4, 2), (45, .iload_n 2, 1), (46, .iconst 1, 1), (47, .iadd, 1), (48, .istore 5, 2),
   (50, .iload 5, 2), (52, .aload_n 0, 1), (53, .getfield 25, 3), (56, .getfield 151, 3), (59, .if_icmp .ge 51, 3), (62, .iload_n 1, 1), (63, .iconst 1, 1), (64, .iload_n 2, 1),
   (65, .ishl, 1), (66, .iconst (-1), 1), (67, .ixor, 1), (68, .iand, 1), (69, .iconst 1, 1), (70, .iload 5, 2), (72, .ishl, 1), (73, .iconst (-1), 1),
   (74, .ixor, 1), (75, .iand, 1), (76, .istore 6, 2), (78, .aload_n 0, 1), (79, .iload 6, 2), (81, .iload 4, 2), (83, .ior, 1), (84, .aload_n 0, 1),
   (85, .getfield 19, 3), (88, .iload 5, 2), (90, .iaload, 1), (91, .iload 4, 2), (93, .iconst (-1), 1), (94, .ixor, 1), (95, .iand, 1), (96, .invokevirtual 161, 3),
   (99, .ifCond .eq 5, 3), (102, .iconst 1, 1), (103, .ireturn, 1), (104, .iinc 5 1, 3), (107, .goto (-57), 3), (110, .iinc 3 1, 3), (113, .goto (-98), 3), (116, .iinc 2 1, 3),
   (119, .goto (-117), 3), (122, .iconst 0, 1), (123, .ireturn, 1)]
def M_X3_twoExchangesMakeRow : ab_MD := (K_X3, yX3_twoExchangesMakeRow, cX3_twoExchangesMakeRow, 7, (some .boolean), false, k_X3_twoExchangesMakeRow)
theorem o_X3_twoExchangesMakeRow : ab_OK M_X3_twoExchangesMakeRow 1 := tb_ok OC_X3 (by decide +kernel) (by decide +kernel) (ab_T_in (tb_c_in 5 _ (List.mem_of_getElem? (i := 199) (rfl : (tb_c 5)[199]? = some (Cond.code yX3_twoExchangesMakeRow cX3_twoExchangesMakeRow 7 (some .boolean))))) rfl) IN_X3
theorem v_X3_twoExchangesMakeRow : ab_kV M_X3_twoExchangesMakeRow 3 := ⟨(ab_T_in (tb_c_in 5 _ (List.mem_of_getElem? (i := 197) (rfl : (tb_c 5)[197]? = some (Cond.instanceMethod yX3_twoExchangesMakeRow)))) rfl), (ab_T_in (tb_c_in 5 _ (List.mem_of_getElem? (i := 198) (rfl : (tb_c 5)[198]? = some (Cond.selects RX3 yX3_twoExchangesMakeRow yX3_twoExchangesMakeRow)))) rfl), _, rfl, rfl⟩
/-! printed by wip/tools/mktab.py: methods of BoneEstate$LawReader -/
def k_X5_addSign : List (Nat × Instr × Nat) :=
  [(0, .iload_n 1, 1), (1, .invokestatic 78, 3), (4, .ifCond .eq 38, 3), (7, .aload_n 0, 1), (8, .getfield 36, 3), (11, .aload_n 0, 1), (12, .getfield 33, 3), (15, .iushr, 1),
   (16, .iconst 1, 1), (17, .iand, 1), (18, .iconst 1, 1), (19, .if_icmp .ne 5, 3), (22, .iconst 1, 1), (23, .ireturn, 1), (24, .aload_n 0, 1), (25, .dup, 1),
   (26, .getfield 36, 3), (29, .iconst 1, 1), (30, .aload_n 0, 1), (31, .getfield 33, 3), (34, .ishl, 1), (35, .ior, 1), (36, .putfield 36, 3), (39, .goto 32, 3),
   (42, .iload_n 1, 1), (43, .bipush 9, 2), (45, .if_icmp .eq 9, 3), (48, .iload_n 1, 1), (49, .bipush 8, 2), (51, .if_icmp .ne 20, 3), (54, .aload_n 0, 1), (55, .dup, 1),
   (56, .getfield 36, 3), (59, .iconst 1, 1), (60, .aload_n 0, 1), (61, .getfield 33, 3), (64, .ishl, 1), (65, .iconst (-1), 1), (66, .ixor, 1), (67, .iand, 1),
   (68, .putfield 36, 3), (71, .aload_n 0, 1), (72, .getfield 26, 3), (75, .ifCond .ne 5, 3), (78, .iconst 2, 1), (79, .ireturn, 1), (80, .aload_n 0, 1), (81, .dup, 1),
   (82, .getfield 26, 3), (85, .iconst 1, 1), (86, .isub, 1), (87, .putfield 26, 3), (90, .aload_n 0, 1), (91, .iload_n 1, 1), (92, .invokestatic 81, 3), (95, .invokevirtual 84, 3),
   (98, .aload_n 0, 1), (99, .iload_n 1, 1), (100, .invokevirtual 71, 3), (103, .iconst 0, 1), (104, .ireturn, 1)]
def M_X5_addSign : ab_MD := (K_X5, yX5_addSign, cX5_addSign, 2, (some .int), false, k_X5_addSign)
theorem o_X5_addSign : ab_OK M_X5_addSign 1 := tb_ok OC_X5 (by decide +kernel) (by decide +kernel) (ab_T_in (tb_c_in 4 _ (List.mem_of_getElem? (i := 42) (rfl : (tb_c 4)[42]? = some (Cond.code yX5_addSign cX5_addSign 2 (some .int))))) rfl) IN_X5
theorem v_X5_addSign : ab_kV M_X5_addSign 5 := ⟨(ab_T_in (tb_c_in 4 _ (List.mem_of_getElem? (i := 41) (rfl : (tb_c 4)[41]? = some (Cond.instanceMethod yX5_addSign)))) rfl), (ab_T_in (tb_c_in 0 _ (List.mem_of_getElem? (i := 20) (rfl : (tb_c 0)[20]? = some (Cond.selects RX5 yX5_addSign yX5_addSign)))) rfl), _, rfl, rfl⟩
def k_X5_addValue : List (Nat × Instr × Nat) :=
  [(0, .iload_n 1, 1), (1, .bipush 32, 2), (3, .if_icmp .ne 8, 3), (6, .aload_n 0, 1), (7, .invokevirtual 65, 3), (10, .ireturn, 1), (11, .iload_n 1, 1), (12, .bipush 10, 2),
   (14, .if_icmp .eq 22, 3), (17, .iload_n 1, 1), (18, .bipush 36, 2), (20, .if_icmp .eq 16, 3), (23, .iload_n 1, 1), (24, .iconst 1, 1), (25, .if_icmp .lt 9, 3), (28, .iload_n 1, 1),
   (29, .bipush 7, 2), (31, .if_icmp .le 5, 3), (34, .iconst 1, 1), (35, .ireturn, 1), (36, .iload_n 1, 1), (37, .bipush 36, 2), (39, .if_icmp .ne 16, 3), (42, .aload_n 0, 1),
   (43, .getfield 22, 3), (46, .getfield 68, 3), (49, .sipush 9999, 3), (52, .if_icmp .gt 10, 3), (55, .aload_n 0, 1), (56, .getfield 26, 3), (59, .ifCond .ne 5, 3), (62, .iconst 2, 1),
   (63, .ireturn, 1), (64, .aload_n 0, 1), (65, .dup, 1), (66, .getfield 26, 3), (69, .iconst 1, 1), (70, .isub, 1), (71, .putfield 26, 3), (74, .iload_n 1, 1),
   (75, .bipush 10, 2), (77, .if_icmp .ne 12, 3), (80, .aload_n 0, 1), (81, .bipush 10, 2), (83, .invokevirtual 71, 3), (86, .goto 28, 3), (89, .aload_n 0, 1), (90, .getfield 18, 3),
   (93, .iload_n 1, 1), (94, .bipush 36, 2), (96, .if_icmp .ne 13, 3), (99, .aload_n 0, 1), (100, .getfield 22, 3), (103, .getfield 68, 3), (106, .goto 5, 3), (109, .iload_n 1, 1),
   (110, .ineg, 1), (111, .invokevirtual 75, 3), (114, .iconst 0, 1), (115, .ireturn, 1)]
def M_X5_addValue : ab_MD := (K_X5, yX5_addValue, cX5_addValue, 2, (some .int), false, k_X5_addValue)
theorem o_X5_addValue : ab_OK M_X5_addValue 1 := tb_ok OC_X5 (by decide +kernel) (by decide +kernel) (ab_T_in (tb_c_in 4 _ (List.mem_of_getElem? (i := 57) (rfl : (tb_c 4)[57]? = some (Cond.code yX5_addValue cX5_addValue 2 (some .int))))) rfl) IN_X5
theorem v_X5_addValue : ab_kV M_X5_addValue 5 := ⟨(ab_T_in (tb_c_in 4 _ (List.mem_of_getElem? (i := 56) (rfl : (tb_c 4)[56]? = some (Cond.instanceMethod yX5_addValue)))) rfl), (ab_T_in (tb_c_in 0 _ (List.mem_of_getElem? (i := 23) (rfl : (tb_c 0)[23]? = some (Cond.selects RX5 yX5_addValue yX5_addValue)))) rfl), _, rfl, rfl⟩
def k_X5_closeParenthesis : List (Nat × Instr × Nat) :=
  [(0, .aload_n 0, 1), (1, .iconst 1, 1), (2, .invokevirtual 84, 3), (5, .aload_n 0, 1), (6, .aload_n 0, 1), (7, .getfield 30, 3), (10, .iconst 1, 1), (11, .isub, 1),
   (12, .iconst 0, 1), (13, .invokestatic 87, 3), (16, .putfield 30, 3), (19, .aload_n 0, 1), (20, .dup, 1), (21, .getfield 33, 3), (24, .iconst 1, 1), (25, .isub, 1),
   (26, .putfield 33, 3), (29, .iconst 0, 1), (30, .ireturn, 1)]
def M_X5_closeParenthesis : ab_MD := (K_X5, yX5_closeParenthesis, cX5_closeParenthesis, 1, (some .int), false, k_X5_closeParenthesis)
theorem o_X5_closeParenthesis : ab_OK M_X5_closeParenthesis 0 := tb_ok OC_X5 (by decide +kernel) (by decide +kernel) (ab_T_in (tb_c_in 4 _ (List.mem_of_getElem? (i := 24) (rfl : (tb_c 4)[24]? = some (Cond.code yX5_closeParenthesis cX5_closeParenthesis 1 (some .int))))) rfl) IN_X5
theorem v_X5_closeParenthesis : ab_kV M_X5_closeParenthesis 5 := ⟨(ab_T_in (tb_c_in 4 _ (List.mem_of_getElem? (i := 23) (rfl : (tb_c 4)[23]? = some (Cond.instanceMethod yX5_closeParenthesis)))) rfl), (ab_T_in (tb_c_in 0 _ (List.mem_of_getElem? (i := 18) (rfl : (tb_c 0)[18]? = some (Cond.selects RX5 yX5_closeParenthesis yX5_closeParenthesis)))) rfl), _, rfl, rfl⟩
def k_X5_finish : List (Nat × Instr × Nat) :=
  [(0, .aload_n 0, 1), (1, .getfield 33, 3), (4, .ifCond .le 5, 3), (7, .iconst 1, 1), (8, .ireturn, 1), (9, .aload_n 0, 1), (10, .iconst 1, 1), (11, .invokevirtual 84, 3),
   (14, .iconst 0, 1), (15, .ireturn, 1)]
def M_X5_finish : ab_MD := (K_X5, yX5_finish, cX5_finish, 1, (some .int), false, k_X5_finish)
theorem o_X5_finish : ab_OK M_X5_finish 0 := tb_ok OC_X5 (by decide +kernel) (by decide +kernel) (ab_T_in (tb_c_in 4 _ (List.mem_of_getElem? (i := 53) (rfl : (tb_c 4)[53]? = some (Cond.code yX5_finish cX5_finish 1 (some .int))))) rfl) IN_X5
theorem v_X5_finish : ab_kV M_X5_finish 5 := ⟨(ab_T_in (tb_c_in 4 _ (List.mem_of_getElem? (i := 52) (rfl : (tb_c 4)[52]? = some (Cond.instanceMethod yX5_finish)))) rfl), (ab_T_in (tb_c_in 0 _ (List.mem_of_getElem? (i := 22) (rfl : (tb_c 0)[22]? = some (Cond.selects RX5 yX5_finish yX5_finish)))) rfl), _, rfl, rfl⟩
def k_X5_init : List (Nat × Instr × Nat) :=
  [(0, .aload_n 0, 1), (1, .invokespecial 3, 3), (4, .aload_n 0, 1), (5, .bipush 72, 2), (7, .newarray .int, 2), (9, .putfield 9, 3), (12, .aload_n 0, 1), (13, .new 15, 3),
   (16, .dup, 1), (17, .invokespecial 17, 3), (20, .putfield 18, 3), (23, .aload_n 0, 1), (24, .aload_n 1, 1), (25, .putfield 22, 3), (28, .return_, 1)]
def M_X5_init : ab_MD := (K_X5, yX5_init, cX5_init, 2, none, true, k_X5_init)
theorem o_X5_init : ab_OK M_X5_init 1 := tb_ok OC_X5 (by decide +kernel) (by decide +kernel) (ab_T_in (tb_c_in 2 _ (List.mem_of_getElem? (i := 37) (rfl : (tb_c 2)[37]? = some (Cond.code yX5_init cX5_init 2 none)))) rfl) IN_X5
theorem i_X5_init : Cond.instanceMethod M_X5_init.2.1 ∈ ab_T := (ab_T_in (tb_c_in 2 _ (List.mem_of_getElem? (i := 36) (rfl : (tb_c 2)[36]? = some (Cond.instanceMethod yX5_init)))) rfl)
def k_X5_isComparison : List (Nat × Instr × Nat) :=
  [(0, .iload_n 0, 1), (1, .bipush 11, 2), (3, .if_icmp .lt 13, 3), (6, .iload_n 0, 1), (7, .bipush 16, 2), (9, .if_icmp .gt 7, 3), (12, .iconst 1, 1), (13, .goto 4, 3),
   (16, .iconst 0, 1), (17, .ireturn, 1)]
def M_X5_isComparison : ab_MD := (K_X5, yX5_isComparison, cX5_isComparison, 1, (some .boolean), false, k_X5_isComparison)
theorem o_X5_isComparison : ab_OK M_X5_isComparison 1 := tb_ok OC_X5 (by decide +kernel) (by decide +kernel) (ab_T_in (tb_c_in 4 _ (List.mem_of_getElem? (i := 45) (rfl : (tb_c 4)[45]? = some (Cond.code yX5_isComparison cX5_isComparison 1 (some .boolean))))) rfl) IN_X5
theorem s_X5_isComparison : Cond.static M_X5_isComparison.2.1 ∈ ab_T := (ab_T_in (tb_c_in 4 _ (List.mem_of_getElem? (i := 44) (rfl : (tb_c 4)[44]? = some (Cond.static yX5_isComparison)))) rfl)
def k_X5_isSign : List (Nat × Instr × Nat) :=
  [(0, .iload_n 0, 1), (1, .bipush 8, 2), (3, .if_icmp .lt 19, 3), (6, .iload_n 0, 1), (7, .bipush 20, 2), (9, .if_icmp .gt 13, 3), (12, .iload_n 0, 1), (13, .bipush 10, 2),
   (15, .if_icmp .eq 7, 3), (18, .iconst 1, 1), (19, .goto 4, 3), (22, .iconst 0, 1), (23, .ireturn, 1)]
def M_X5_isSign : ab_MD := (K_X5, yX5_isSign, cX5_isSign, 1, (some .boolean), false, k_X5_isSign)
theorem o_X5_isSign : ab_OK M_X5_isSign 1 := tb_ok OC_X5 (by decide +kernel) (by decide +kernel) (ab_T_in (tb_c_in 4 _ (List.mem_of_getElem? (i := 20) (rfl : (tb_c 4)[20]? = some (Cond.code yX5_isSign cX5_isSign 1 (some .boolean))))) rfl) IN_X5
theorem s_X5_isSign : Cond.static M_X5_isSign.2.1 ∈ ab_T := (ab_T_in (tb_c_in 4 _ (List.mem_of_getElem? (i := 19) (rfl : (tb_c 4)[19]? = some (Cond.static yX5_isSign)))) rfl)
def k_X5_openParenthesis : List (Nat × Instr × Nat) :=
  [(0, .aload_n 0, 1), (1, .getfield 33, 3), (4, .bipush 8, 2), (6, .if_icmp .ne 5, 3), (9, .iconst 2, 1), (10, .ireturn, 1), (11, .aload_n 0, 1), (12, .dup, 1),
   (13, .getfield 33, 3), (16, .iconst 1, 1), (17, .iadd, 1), (18, .putfield 33, 3), (21, .aload_n 0, 1), (22, .dup, 1), (23, .getfield 36, 3), (26, .iconst 1, 1),
   (27, .aload_n 0, 1), (28, .getfield 33, 3), (31, .ishl, 1), (32, .iconst (-1), 1), (33, .ixor, 1), (34, .iand, 1), (35, .putfield 36, 3), (38, .aload_n 0, 1),
   (39, .bipush 32, 2), (41, .invokevirtual 71, 3), (44, .iconst 0, 1), (45, .ireturn, 1)]
def M_X5_openParenthesis : ab_MD := (K_X5, yX5_openParenthesis, cX5_openParenthesis, 1, (some .int), false, k_X5_openParenthesis)
theorem o_X5_openParenthesis : ab_OK M_X5_openParenthesis 0 := tb_ok OC_X5 (by decide +kernel) (by decide +kernel) (ab_T_in (tb_c_in 4 _ (List.mem_of_getElem? (i := 61) (rfl : (tb_c 4)[61]? = some (Cond.code yX5_openParenthesis cX5_openParenthesis 1 (some .int))))) rfl) IN_X5
theorem v_X5_openParenthesis : ab_kV M_X5_openParenthesis 5 := ⟨(ab_T_in (tb_c_in 4 _ (List.mem_of_getElem? (i := 60) (rfl : (tb_c 4)[60]? = some (Cond.instanceMethod yX5_openParenthesis)))) rfl), (ab_T_in (tb_c_in 0 _ (List.mem_of_getElem? (i := 24) (rfl : (tb_c 0)[24]? = some (Cond.selects RX5 yX5_openParenthesis yX5_openParenthesis)))) rfl), _, rfl, rfl⟩
def k_X5_push : List (Nat × Instr × Nat) :=
  [(0, .aload_n 0, 1), (1, .getfield 30, 3), (4, .aload_n 0, 1), (5, .getfield 9, 3), (8, .arraylength, 1), (9, .if_icmp .ge 23, 3), (12, .aload_n 0, 1), (13, .getfield 9, 3),
   (16, .aload_n 0, 1), (17, .getfield 30, 3), (20, .iload_n 1, 1), (21, .iastore, 1), (22, .aload_n 0, 1), (23, .dup, 1), (24, .getfield 30, 3), (27, .iconst 1, 1),
   (28, .iadd, 1), (29, .putfield 30, 3), (32, .return_, 1)]
def M_X5_push : ab_MD := (K_X5, yX5_push, cX5_push, 2, none, false, k_X5_push)
theorem o_X5_push : ab_OK M_X5_push 1 := tb_ok OC_X5 (by decide +kernel) (by decide +kernel) (ab_T_in (tb_c_in 4 _ (List.mem_of_getElem? (i := 49) (rfl : (tb_c 4)[49]? = some (Cond.code yX5_push cX5_push 2 none)))) rfl) IN_X5
theorem v_X5_push : ab_kV M_X5_push 5 := ⟨(ab_T_in (tb_c_in 4 _ (List.mem_of_getElem? (i := 48) (rfl : (tb_c 4)[48]? = some (Cond.instanceMethod yX5_push)))) rfl), (ab_T_in (tb_c_in 0 _ (List.mem_of_getElem? (i := 21) (rfl : (tb_c 0)[21]? = some (Cond.selects RX5 yX5_push yX5_push)))) rfl), _, rfl, rfl⟩
def k_X5_read_0 : List (Nat × Instr × Nat) :=
  [(0, .aload_n 0, 1), (1, .aload_n 1, 1), (2, .putfield 18, 3), (5, .aload_n 0, 1), (6, .iload_n 2, 1), (7, .putfield 26, 3), (10, .aload_n 0, 1), (11, .iconst 0, 1),
   (12, .putfield 30, 3), (15, .aload_n 0, 1), (16, .iconst 0, 1), (17, .putfield 33, 3), (20, .aload_n 0, 1), (21, .iconst 0, 1), (22, .putfield 36, 3), (25, .iconst 1, 1),
   (26, .istore_n 3, 1), (27, .iconst 1, 1), (28, .istore 4, 2), (30, .aload_n 0, 1), (31, .getfield 22, 3), (34, .invokevirtual 39, 3), (37, .iconst 0, 1), (38, .istore 5, 2),
   (40, .iload 5, 2), (42, .sipush 700, 3), (45, .if_icmp .gt 182, 3), (48, .aload_n 0, 1), (49, .getfield 22, 3), (52, .getfield 44, 3), (55, .istore 6, 2), (57, .iload_n 3, 1),
   (58, .ifCond .ne 92, 3), (61, .iload 6, 2), (63, .invokestatic 47, 3), (66, .ifCond .ne 17, 3), (69, .iload 6, 2), (71, .bipush 33, 2), (73, .if_icmp .ne 77, 3), (76, .aload_n 0, 1),
   (77, .getfield 33, 3), (80, .ifCond .le 70, 3), (83, .iload 6, 2), (85, .bipush 33, 2), (87, .if_icmp .ne 10, 3), (90, .aload_n 0, 1), (91, .invokevirtual 51, 3), (94, .goto 9, 3)]
def k_X5_read_1 : List (Nat × Instr × Nat) :=
  [(97, .aload_n 0, 1), (98, .iload 6, 2), (100, .invokevirtual 55, 3), (103, .istore 7, 2), (105, .iload 7, 2), (107, .ifCond .eq 6, 3), (110, .iload 7, 2), (112, .ireturn, 1),
   (113, .iload 6, 2), (115, .bipush 33, 2), (117, .if_icmp .eq 7, 3), (120, .iconst 1, 1), (121, .goto 4, 3), (124, .iconst 0, 1), (125, .istore_n 3, 1), (126, .iload 6, 2),
   (128, .bipush 9, 2), (130, .if_icmp .eq 10, 3), (133, .iload 6, 2), (135, .bipush 8, 2), (137, .if_icmp .ne 7, 3), (140, .iconst 1, 1), (141, .goto 4, 3), (144, .iconst 0, 1),
   (145, .istore 4, 2), (147, .goto 67, 3), (150, .iload_n 3, 1), (151, .ifCond .ne 8, 3), (154, .aload_n 0, 1), (155, .invokevirtual 59, 3), (158, .ireturn, 1), (159, .iload 6, 2),
   (161, .bipush 10, 2), (163, .if_icmp .ne 12, 3), (166, .iload 4, 2), (168, .ifCond .ne 7, 3), (171, .iconst 1, 1), (172, .goto 9, 3), (175, .aload_n 0, 1), (176, .iload 6, 2),
   (178, .invokevirtual 62, 3), (181, .istore 7, 2), (183, .iload 7, 2), (185, .ifCond .eq 6, 3), (188, .iload 7, 2), (190, .ireturn, 1), (191, .iload 6, 2), (193, .bipush 10, 2)]
def k_X5_read_2 : List (Nat × Instr × Nat) :=
  [(195, .if_icmp .eq 10, 3), (198, .iload 6, 2), (200, .bipush 32, 2), (202, .if_icmp .ne 7, 3), (205, .iconst 1, 1), (206, .goto 4, 3), (209, .iconst 0, 1), (210, .istore_n 3, 1),
   (211, .iload_n 3, 1), (212, .istore 4, 2), (214, .aload_n 0, 1), (215, .getfield 22, 3), (218, .invokevirtual 39, 3), (221, .iinc 5 1, 3), (224, .goto (-184), 3), (227, .iconst 1, 1),
   (228, .ireturn, 1)]
def k_X5_read : List (Nat × Instr × Nat) := k_X5_read_0 ++ (k_X5_read_1 ++ (k_X5_read_2))
theorem r_X5_read_0 : k_X5_read_0.all (tb_rr cX5_read) = true := by decide +kernel
theorem r_X5_read_1 : k_X5_read_1.all (tb_rr cX5_read) = true := by decide +kernel
theorem r_X5_read_2 : k_X5_read_2.all (tb_rr cX5_read) = true := by decide +kernel
def M_X5_read : ab_MD := (K_X5, yX5_read, cX5_read, 8, (some .int), false, k_X5_read)
theorem o_X5_read : ab_OK M_X5_read 2 := tb_ok OC_X5 (by decide +kernel) (tb_app r_X5_read_0 (tb_app r_X5_read_1 r_X5_read_2)) (ab_T_in (tb_c_in 4 _ (List.mem_of_getElem? (i := 16) (rfl : (tb_c 4)[16]? = some (Cond.code yX5_read cX5_read 8 (some .int))))) rfl) IN_X5
theorem v_X5_read : ab_kV M_X5_read 5 := ⟨(ab_T_in (tb_c_in 4 _ (List.mem_of_getElem? (i := 14) (rfl : (tb_c 4)[14]? = some (Cond.instanceMethod yX5_read)))) rfl), (ab_T_in (tb_c_in 4 _ (List.mem_of_getElem? (i := 15) (rfl : (tb_c 4)[15]? = some (Cond.selects RX5 yX5_read yX5_read)))) rfl), _, rfl, rfl⟩
def k_X5_release : List (Nat × Instr × Nat) :=
  [(0, .aload_n 0, 1), (1, .getfield 30, 3), (4, .ifCond .le 51, 3), (7, .aload_n 0, 1), (8, .getfield 9, 3), (11, .aload_n 0, 1), (12, .getfield 30, 3), (15, .iconst 1, 1),
   (16, .isub, 1), (17, .iaload, 1), (18, .invokestatic 81, 3), (21, .iload_n 1, 1), (22, .if_icmp .lt 33, 3), (25, .aload_n 0, 1), (26, .dup, 1), (27, .getfield 30, 3),
   (30, .iconst 1, 1), (31, .isub, 1), (32, .putfield 30, 3), (35, .aload_n 0, 1), (36, .getfield 18, 3), (39, .aload_n 0, 1), (40, .getfield 9, 3), (43, .aload_n 0, 1),
   (44, .getfield 30, 3), (47, .iaload, 1), (48, .ineg, 1), (49, .invokevirtual 75, 3), (52, .goto (-52), 3), (55, .return_, 1)]
def M_X5_release : ab_MD := (K_X5, yX5_release, cX5_release, 2, none, false, k_X5_release)
theorem o_X5_release : ab_OK M_X5_release 1 := tb_ok OC_X5 (by decide +kernel) (by decide +kernel) (ab_T_in (tb_c_in 4 _ (List.mem_of_getElem? (i := 28) (rfl : (tb_c 4)[28]? = some (Cond.code yX5_release cX5_release 2 none)))) rfl) IN_X5
theorem v_X5_release : ab_kV M_X5_release 5 := ⟨(ab_T_in (tb_c_in 4 _ (List.mem_of_getElem? (i := 27) (rfl : (tb_c 4)[27]? = some (Cond.instanceMethod yX5_release)))) rfl), (ab_T_in (tb_c_in 0 _ (List.mem_of_getElem? (i := 19) (rfl : (tb_c 0)[19]? = some (Cond.selects RX5 yX5_release yX5_release)))) rfl), _, rfl, rfl⟩
def k_X5_strengthOf : List (Nat × Instr × Nat) :=
  [(0, .iload_n 0, 1), (1, .bipush 32, 2), (3, .if_icmp .ne 5, 3), (6, .iconst 0, 1), (7, .ireturn, 1), (8, .iload_n 0, 1), (9, .bipush 10, 2), (11, .if_icmp .gt 10, 3),
   (14, .iload_n 0, 1), (15, .bipush 8, 2), (17, .isub, 1), (18, .iconst 1, 1), (19, .iadd, 1), (20, .ireturn, 1), (21, .iload_n 0, 1), (22, .bipush 16, 2),
   (24, .if_icmp .gt 5, 3), (27, .iconst 4, 1), (28, .ireturn, 1), (29, .iload_n 0, 1), (30, .bipush 18, 2), (32, .if_icmp .gt 7, 3), (35, .iconst 5, 1), (36, .goto 5, 3),
   (39, .bipush 6, 2), (41, .ireturn, 1)]
def M_X5_strengthOf : ab_MD := (K_X5, yX5_strengthOf, cX5_strengthOf, 1, (some .int), false, k_X5_strengthOf)
theorem o_X5_strengthOf : ab_OK M_X5_strengthOf 1 := tb_ok OC_X5 (by decide +kernel) (by decide +kernel) (ab_T_in (tb_c_in 4 _ (List.mem_of_getElem? (i := 31) (rfl : (tb_c 4)[31]? = some (Cond.code yX5_strengthOf cX5_strengthOf 1 (some .int))))) rfl) IN_X5
theorem s_X5_strengthOf : Cond.static M_X5_strengthOf.2.1 ∈ ab_T := (ab_T_in (tb_c_in 4 _ (List.mem_of_getElem? (i := 30) (rfl : (tb_c 4)[30]? = some (Cond.static yX5_strengthOf)))) rfl)
/-! printed by wip/tools/mktab.py: methods of BoneEstate$PlanReader -/
def k_X8_init : List (Nat × Instr × Nat) :=
  [(0, .aload_n 0, 1), (1, .invokespecial 3, 3), (4, .aload_n 0, 1), (5, .new 9, 3), (8, .dup, 1), (9, .invokespecial 11, 3), (12, .putfield 12, 3), (15, .aload_n 0, 1),
   (16, .aload_n 1, 1), (17, .putfield 18, 3), (20, .aload_n 0, 1), (21, .new 22, 3), (24, .dup, 1), (25, .aload_n 1, 1), (26, .invokespecial 24, 3), (29, .putfield 27, 3),
   (32, .return_, 1)]
def M_X8_init : ab_MD := (K_X8, yX8_init, cX8_init, 2, none, true, k_X8_init)
theorem o_X8_init : ab_OK M_X8_init 1 := tb_ok OC_X8 (by decide +kernel) (by decide +kernel) (ab_T_in (tb_c_in 2 _ (List.mem_of_getElem? (i := 29) (rfl : (tb_c 2)[29]? = some (Cond.code yX8_init cX8_init 2 none)))) rfl) IN_X8
theorem i_X8_init : Cond.instanceMethod M_X8_init.2.1 ∈ ab_T := (ab_T_in (tb_c_in 2 _ (List.mem_of_getElem? (i := 28) (rfl : (tb_c 2)[28]? = some (Cond.instanceMethod yX8_init)))) rfl)
def k_X8_read : List (Nat × Instr × Nat) :=
  [(0, .aload_n 0, 1), (1, .getfield 12, 3), (4, .invokevirtual 31, 3), (7, .aload_n 0, 1), (8, .iconst 0, 1), (9, .putfield 34, 3), (12, .aload_n 0, 1), (13, .getfield 18, 3),
   (16, .iload_n 1, 1), (17, .invokevirtual 38, 3), (20, .aload_n 0, 1), (21, .getfield 18, 3), (24, .invokevirtual 44, 3), (27, .aload_n 0, 1), (28, .getfield 34, 3), (31, .sipush 700, 3),
   (34, .if_icmp .ge 60, 3), (37, .aload_n 0, 1), (38, .getfield 18, 3), (41, .getfield 47, 3), (44, .bipush 37, 2), (46, .if_icmp .eq 48, 3), (49, .aload_n 0, 1), (50, .invokevirtual 50, 3),
   (53, .istore_n 2, 1), (54, .iload_n 2, 1), (55, .ifCond .eq 5, 3), (58, .iload_n 2, 1), (59, .ireturn, 1), (60, .aload_n 0, 1), (61, .getfield 18, 3), (64, .getfield 47, 3),
   (67, .bipush 34, 2), (69, .if_icmp .eq 5, 3), (72, .iconst 1, 1), (73, .ireturn, 1), (74, .aload_n 0, 1), (75, .dup, 1), (76, .getfield 34, 3), (79, .iconst 1, 1),
   (80, .iadd, 1), (81, .putfield 34, 3), (84, .aload_n 0, 1), (85, .getfield 18, 3), (88, .invokevirtual 44, 3), (91, .goto (-64), 3), (94, .iconst 0, 1), (95, .ireturn, 1)]
def M_X8_read : ab_MD := (K_X8, yX8_read, cX8_read, 3, (some .int), false, k_X8_read)
theorem o_X8_read : ab_OK M_X8_read 1 := tb_ok OC_X8 (by decide +kernel) (by decide +kernel) (ab_T_in (tb_c_in 3 _ (List.mem_of_getElem? (i := 126) (rfl : (tb_c 3)[126]? = some (Cond.code yX8_read cX8_read 3 (some .int))))) rfl) IN_X8
theorem v_X8_read : ab_kV M_X8_read 8 := ⟨(ab_T_in (tb_c_in 3 _ (List.mem_of_getElem? (i := 124) (rfl : (tb_c 3)[124]? = some (Cond.instanceMethod yX8_read)))) rfl), (ab_T_in (tb_c_in 3 _ (List.mem_of_getElem? (i := 125) (rfl : (tb_c 3)[125]? = some (Cond.selects RX8 yX8_read yX8_read)))) rfl), _, rfl, rfl⟩
def k_X8_readDraw : List (Nat × Instr × Nat) :=
  [(0, .aload_n 0, 1), (1, .getfield 12, 3), (4, .getfield 142, 3), (7, .istore_n 1, 1), (8, .iload_n 1, 1), (9, .bipush 10, 2), (11, .if_icmp .lt 5, 3), (14, .iconst 2, 1),
   (15, .ireturn, 1), (16, .aload_n 0, 1), (17, .invokevirtual 108, 3), (20, .istore_n 2, 1), (21, .iload_n 2, 1), (22, .ifCond .eq 5, 3), (25, .iload_n 2, 1), (26, .ireturn, 1),
   (27, .aload_n 0, 1), (28, .getfield 12, 3), (31, .getfield 145, 3), (34, .iload_n 1, 1), (35, .aload_n 0, 1), (36, .getfield 12, 3), (39, .aload_n 0, 1), (40, .getfield 18, 3),
   (43, .getfield 111, 3), (46, .invokevirtual 114, 3), (49, .iastore, 1), (50, .aload_n 0, 1), (51, .aload_n 0, 1), (52, .getfield 12, 3), (55, .getfield 148, 3), (58, .iload_n 1, 1),
   (59, .bipush 99, 2), (61, .invokevirtual 92, 3), (64, .istore_n 2, 1), (65, .iload_n 2, 1), (66, .ifCond .ne 23, 3), (69, .aload_n 0, 1), (70, .getfield 12, 3), (73, .dup, 1),
   (74, .getfield 142, 3), (77, .iconst 1, 1), (78, .iadd, 1), (79, .putfield 142, 3), (82, .aload_n 0, 1), (83, .getfield 18, 3), (86, .invokevirtual 44, 3), (89, .iload_n 2, 1),
   (90, .ireturn, 1)]
def M_X8_readDraw : ab_MD := (K_X8, yX8_readDraw, cX8_readDraw, 3, (some .int), false, k_X8_readDraw)
theorem o_X8_readDraw : ab_OK M_X8_readDraw 0 := tb_ok OC_X8 (by decide +kernel) (by decide +kernel) (ab_T_in (tb_c_in 3 _ (List.mem_of_getElem? (i := 231) (rfl : (tb_c 3)[231]? = some (Cond.code yX8_readDraw cX8_readDraw 3 (some .int))))) rfl) IN_X8
theorem v_X8_readDraw : ab_kV M_X8_readDraw 8 := ⟨(ab_T_in (tb_c_in 3 _ (List.mem_of_getElem? (i := 230) (rfl : (tb_c 3)[230]? = some (Cond.instanceMethod yX8_readDraw)))) rfl), (ab_T_in (tb_c_in 0 _ (List.mem_of_getElem? (i := 14) (rfl : (tb_c 0)[14]? = some (Cond.selects RX8 yX8_readDraw yX8_readDraw)))) rfl), _, rfl, rfl⟩
def k_X8_readHeir : List (Nat × Instr × Nat) :=
  [(0, .aload_n 0, 1), (1, .getfield 12, 3), (4, .getfield 102, 3), (7, .istore_n 1, 1), (8, .iload_n 1, 1), (9, .iconst 5, 1), (10, .if_icmp .lt 5, 3), (13, .iconst 2, 1),
   (14, .ireturn, 1), (15, .aload_n 0, 1), (16, .aload_n 0, 1), (17, .getfield 12, 3), (20, .getfield 105, 3), (23, .iload_n 1, 1), (24, .iconst 0, 1), (25, .invokevirtual 85, 3),
   (28, .istore_n 2, 1), (29, .iload_n 2, 1), (30, .ifCond .ne 23, 3), (33, .aload_n 0, 1), (34, .getfield 12, 3), (37, .dup, 1), (38, .getfield 102, 3), (41, .iconst 1, 1),
   (42, .iadd, 1), (43, .putfield 102, 3), (46, .aload_n 0, 1), (47, .getfield 18, 3), (50, .invokevirtual 44, 3), (53, .iload_n 2, 1), (54, .ireturn, 1)]
def M_X8_readHeir : ab_MD := (K_X8, yX8_readHeir, cX8_readHeir, 3, (some .int), false, k_X8_readHeir)
theorem o_X8_readHeir : ab_OK M_X8_readHeir 0 := tb_ok OC_X8 (by decide +kernel) (by decide +kernel) (ab_T_in (tb_c_in 3 _ (List.mem_of_getElem? (i := 207) (rfl : (tb_c 3)[207]? = some (Cond.code yX8_readHeir cX8_readHeir 3 (some .int))))) rfl) IN_X8
theorem v_X8_readHeir : ab_kV M_X8_readHeir 8 := ⟨(ab_T_in (tb_c_in 3 _ (List.mem_of_getElem? (i := 206) (rfl : (tb_c 3)[206]? = some (Cond.instanceMethod yX8_readHeir)))) rfl), (ab_T_in (tb_c_in 0 _ (List.mem_of_getElem? (i := 9) (rfl : (tb_c 0)[9]? = some (Cond.selects RX8 yX8_readHeir yX8_readHeir)))) rfl), _, rfl, rfl⟩
def k_X8_readLaw : List (Nat × Instr × Nat) :=
  [(0, .aload_n 0, 1), (1, .getfield 18, 3), (4, .invokevirtual 44, 3), (7, .aload_n 0, 1), (8, .getfield 18, 3), (11, .getfield 47, 3), (14, .bipush 29, 2), (16, .isub, 1),
   (17, .istore_n 1, 1), (18, .iload_n 1, 1), (19, .ifCond .lt 8, 3), (22, .iload_n 1, 1), (23, .iconst 2, 1), (24, .if_icmp .le 5, 3), (27, .iconst 1, 1), (28, .ireturn, 1),
   (29, .aload_n 0, 1), (30, .getfield 12, 3), (33, .getfield 158, 3), (36, .iload_n 1, 1), (37, .aaload, 1), (38, .invokevirtual 162, 3), (41, .ifCond .eq 5, 3), (44, .iconst 3, 1),
   (45, .ireturn, 1), (46, .aload_n 0, 1), (47, .getfield 27, 3), (50, .aload_n 0, 1), (51, .getfield 12, 3), (54, .getfield 158, 3), (57, .iload_n 1, 1), (58, .aaload, 1),
   (59, .bipush 64, 2), (61, .aload_n 0, 1), (62, .getfield 12, 3), (65, .invokevirtual 168, 3), (68, .isub, 1), (69, .invokevirtual 171, 3), (72, .ireturn, 1)]
def M_X8_readLaw : ab_MD := (K_X8, yX8_readLaw, cX8_readLaw, 2, (some .int), false, k_X8_readLaw)
theorem o_X8_readLaw : ab_OK M_X8_readLaw 0 := tb_ok OC_X8 (by decide +kernel) (by decide +kernel) (ab_T_in (tb_c_in 4 _ (List.mem_of_getElem? (i := 4) (rfl : (tb_c 4)[4]? = some (Cond.code yX8_readLaw cX8_readLaw 2 (some .int))))) rfl) IN_X8
theorem v_X8_readLaw : ab_kV M_X8_readLaw 8 := ⟨(ab_T_in (tb_c_in 4 _ (List.mem_of_getElem? (i := 3) (rfl : (tb_c 4)[3]? = some (Cond.instanceMethod yX8_readLaw)))) rfl), (ab_T_in (tb_c_in 0 _ (List.mem_of_getElem? (i := 17) (rfl : (tb_c 0)[17]? = some (Cond.selects RX8 yX8_readLaw yX8_readLaw)))) rfl), _, rfl, rfl⟩
def k_X8_readLine : List (Nat × Instr × Nat) :=
  [(0, .aload_n 0, 1), (1, .getfield 18, 3), (4, .getfield 47, 3), (7, .tableswitch 85 21 28 #[45, 50, 55, 60, 65, 70, 75, 80], 45), (52, .aload_n 0, 1), (53, .invokevirtual 54, 3), (56, .ireturn, 1), (57, .aload_n 0, 1),
   (58, .invokevirtual 57, 3), (61, .ireturn, 1), (62, .aload_n 0, 1), (63, .invokevirtual 60, 3), (66, .ireturn, 1), (67, .aload_n 0, 1), (68, .invokevirtual 63, 3), (71, .ireturn, 1),
   (72, .aload_n 0, 1), (73, .invokevirtual 66, 3), (76, .ireturn, 1), (77, .aload_n 0, 1), (78, .invokevirtual 69, 3), (81, .ireturn, 1), (82, .aload_n 0, 1), (83, .invokevirtual 72, 3),
   (86, .ireturn, 1), (87, .aload_n 0, 1), (88, .invokevirtual 75, 3), (91, .ireturn, 1), (92, .iconst 1, 1), (93, .ireturn, 1)]
def M_X8_readLine : ab_MD := (K_X8, yX8_readLine, cX8_readLine, 1, (some .int), false, k_X8_readLine)
theorem o_X8_readLine : ab_OK M_X8_readLine 0 := tb_ok OC_X8 (by decide +kernel) (by decide +kernel) (ab_T_in (tb_c_in 3 _ (List.mem_of_getElem? (i := 180) (rfl : (tb_c 3)[180]? = some (Cond.code yX8_readLine cX8_readLine 1 (some .int))))) rfl) IN_X8
theorem v_X8_readLine : ab_kV M_X8_readLine 8 := ⟨(ab_T_in (tb_c_in 3 _ (List.mem_of_getElem? (i := 179) (rfl : (tb_c 3)[179]? = some (Cond.instanceMethod yX8_readLine)))) rfl), (ab_T_in (tb_c_in 0 _ (List.mem_of_getElem? (i := 5) (rfl : (tb_c 0)[5]? = some (Cond.selects RX8 yX8_readLine yX8_readLine)))) rfl), _, rfl, rfl⟩
def k_X8_readNeed : List (Nat × Instr × Nat) :=
  [(0, .aload_n 0, 1), (1, .getfield 12, 3), (4, .getfield 151, 3), (7, .ifCond .eq 5, 3), (10, .iconst 3, 1), (11, .ireturn, 1), (12, .aload_n 0, 1), (13, .getfield 18, 3),
   (16, .invokevirtual 44, 3), (19, .aload_n 0, 1), (20, .getfield 18, 3), (23, .getfield 47, 3), (26, .bipush 36, 2), (28, .if_icmp .eq 5, 3), (31, .iconst 1, 1), (32, .ireturn, 1),
   (33, .aload_n 0, 1), (34, .getfield 18, 3), (37, .getfield 111, 3), (40, .iconst 1, 1), (41, .if_icmp .lt 15, 3), (44, .aload_n 0, 1), (45, .getfield 18, 3), (48, .getfield 111, 3),
   (51, .bipush 9, 2), (53, .if_icmp .le 5, 3), (56, .iconst 2, 1), (57, .ireturn, 1), (58, .aload_n 0, 1), (59, .getfield 12, 3), (62, .aload_n 0, 1), (63, .getfield 18, 3),
   (66, .getfield 111, 3), (69, .putfield 151, 3), (72, .aload_n 0, 1), (73, .getfield 18, 3), (76, .invokevirtual 44, 3), (79, .iconst 0, 1), (80, .ireturn, 1)]
def M_X8_readNeed : ab_MD := (K_X8, yX8_readNeed, cX8_readNeed, 1, (some .int), false, k_X8_readNeed)
theorem o_X8_readNeed : ab_OK M_X8_readNeed 0 := tb_ok OC_X8 (by decide +kernel) (by decide +kernel) (ab_T_in (tb_c_in 3 _ (List.mem_of_getElem? (i := 235) (rfl : (tb_c 3)[235]? = some (Cond.code yX8_readNeed cX8_readNeed 1 (some .int))))) rfl) IN_X8
theorem v_X8_readNeed : ab_kV M_X8_readNeed 8 := ⟨(ab_T_in (tb_c_in 3 _ (List.mem_of_getElem? (i := 234) (rfl : (tb_c 3)[234]? = some (Cond.instanceMethod yX8_readNeed)))) rfl), (ab_T_in (tb_c_in 0 _ (List.mem_of_getElem? (i := 15) (rfl : (tb_c 0)[15]? = some (Cond.selects RX8 yX8_readNeed yX8_readNeed)))) rfl), _, rfl, rfl⟩
def k_X8_readNewName : List (Nat × Instr × Nat) :=
  [(0, .aload_n 0, 1), (1, .getfield 18, 3), (4, .invokevirtual 44, 3), (7, .aload_n 0, 1), (8, .getfield 18, 3), (11, .getfield 47, 3), (14, .bipush 35, 2), (16, .if_icmp .ne 13, 3),
   (19, .iload_n 2, 1), (20, .ifCond .lt 9, 3), (23, .iload_n 2, 1), (24, .aload_n 1, 1), (25, .arraylength, 1), (26, .if_icmp .lt 5, 3), (29, .iconst 1, 1), (30, .ireturn, 1),
   (31, .iload_n 3, 1), (32, .ifCond .eq 20, 3), (35, .aload_n 0, 1), (36, .getfield 12, 3), (39, .aload_n 0, 1), (40, .getfield 18, 3), (43, .getfield 111, 3), (46, .invokevirtual 121, 3),
   (49, .goto 17, 3), (52, .aload_n 0, 1), (53, .getfield 12, 3), (56, .aload_n 0, 1), (57, .getfield 18, 3), (60, .getfield 111, 3), (63, .invokevirtual 114, 3), (66, .istore 4, 2),
   (68, .iload 4, 2), (70, .iconst (-1), 1), (71, .if_icmp .eq 5, 3), (74, .iconst 3, 1), (75, .ireturn, 1), (76, .aload_n 1, 1), (77, .iload_n 2, 1), (78, .aload_n 0, 1),
   (79, .getfield 18, 3), (82, .getfield 111, 3), (85, .iastore, 1), (86, .iconst 0, 1), (87, .ireturn, 1)]
def M_X8_readNewName : ab_MD := (K_X8, yX8_readNewName, cX8_readNewName, 5, (some .int), false, k_X8_readNewName)
theorem o_X8_readNewName : ab_OK M_X8_readNewName 3 := tb_ok OC_X8 (by decide +kernel) (by decide +kernel) (ab_T_in (tb_c_in 3 _ (List.mem_of_getElem? (i := 188) (rfl : (tb_c 3)[188]? = some (Cond.code yX8_readNewName cX8_readNewName 5 (some .int))))) rfl) IN_X8
theorem v_X8_readNewName : ab_kV M_X8_readNewName 8 := ⟨(ab_T_in (tb_c_in 3 _ (List.mem_of_getElem? (i := 187) (rfl : (tb_c 3)[187]? = some (Cond.instanceMethod yX8_readNewName)))) rfl), (ab_T_in (tb_c_in 0 _ (List.mem_of_getElem? (i := 7) (rfl : (tb_c 0)[7]? = some (Cond.selects RX8 yX8_readNewName yX8_readNewName)))) rfl), _, rfl, rfl⟩
def k_X8_readNumber : List (Nat × Instr × Nat) :=
  [(0, .aload_n 0, 1), (1, .getfield 18, 3), (4, .invokevirtual 44, 3), (7, .aload_n 0, 1), (8, .getfield 18, 3), (11, .getfield 47, 3), (14, .bipush 36, 2), (16, .if_icmp .ne 13, 3),
   (19, .iload_n 2, 1), (20, .ifCond .lt 9, 3), (23, .iload_n 2, 1), (24, .aload_n 1, 1), (25, .arraylength, 1), (26, .if_icmp .lt 5, 3), (29, .iconst 1, 1), (30, .ireturn, 1),
   (31, .aload_n 0, 1), (32, .getfield 18, 3), (35, .getfield 111, 3), (38, .iload_n 3, 1), (39, .if_icmp .le 5, 3), (42, .iconst 2, 1), (43, .ireturn, 1), (44, .aload_n 1, 1),
   (45, .iload_n 2, 1), (46, .aload_n 0, 1), (47, .getfield 18, 3), (50, .getfield 111, 3), (53, .iastore, 1), (54, .iconst 0, 1), (55, .ireturn, 1)]
def M_X8_readNumber : ab_MD := (K_X8, yX8_readNumber, cX8_readNumber, 4, (some .int), false, k_X8_readNumber)
theorem o_X8_readNumber : ab_OK M_X8_readNumber 3 := tb_ok OC_X8 (by decide +kernel) (by decide +kernel) (ab_T_in (tb_c_in 3 _ (List.mem_of_getElem? (i := 203) (rfl : (tb_c 3)[203]? = some (Cond.code yX8_readNumber cX8_readNumber 4 (some .int))))) rfl) IN_X8
theorem v_X8_readNumber : ab_kV M_X8_readNumber 8 := ⟨(ab_T_in (tb_c_in 3 _ (List.mem_of_getElem? (i := 202) (rfl : (tb_c 3)[202]? = some (Cond.instanceMethod yX8_readNumber)))) rfl), (ab_T_in (tb_c_in 0 _ (List.mem_of_getElem? (i := 8) (rfl : (tb_c 0)[8]? = some (Cond.selects RX8 yX8_readNumber yX8_readNumber)))) rfl), _, rfl, rfl⟩
def k_X8_readPiece : List (Nat × Instr × Nat) :=
  [(0, .aload_n 0, 1), (1, .getfield 12, 3), (4, .getfield 78, 3), (7, .istore_n 1, 1), (8, .iload_n 1, 1), (9, .bipush 9, 2), (11, .if_icmp .lt 5, 3), (14, .iconst 2, 1),
   (15, .ireturn, 1), (16, .aload_n 0, 1), (17, .aload_n 0, 1), (18, .getfield 12, 3), (21, .getfield 81, 3), (24, .iload_n 1, 1), (25, .iconst 1, 1), (26, .invokevirtual 85, 3),
   (29, .istore_n 2, 1), (30, .iload_n 2, 1), (31, .ifCond .ne 18, 3), (34, .aload_n 0, 1), (35, .aload_n 0, 1), (36, .getfield 12, 3), (39, .getfield 89, 3), (42, .iload_n 1, 1),
   (43, .bipush 6, 2), (45, .invokevirtual 92, 3), (48, .istore_n 2, 1), (49, .iload_n 2, 1), (50, .ifCond .ne 18, 3), (53, .aload_n 0, 1), (54, .aload_n 0, 1), (55, .getfield 12, 3),
   (58, .getfield 96, 3), (61, .iload_n 1, 1), (62, .bipush 6, 2), (64, .invokevirtual 92, 3), (67, .istore_n 2, 1), (68, .iload_n 2, 1), (69, .ifCond .ne 18, 3), (72, .aload_n 0, 1),
   (73, .aload_n 0, 1), (74, .getfield 12, 3), (77, .getfield 99, 3), (80, .iload_n 1, 1), (81, .bipush 99, 2), (83, .invokevirtual 92, 3), (86, .istore_n 2, 1), (87, .iload_n 2, 1),
   (88, .ifCond .ne 23, 3), (91, .aload_n 0, 1), (92, .getfield 12, 3), (95, .dup, 1), (96, .getfield 78, 3), (99, .iconst 1, 1), (100, .iadd, 1), (101, .putfield 78, 3),
   (104, .aload_n 0, 1), (105, .getfield 18, 3), (108, .invokevirtual 44, 3), (111, .iload_n 2, 1), (112, .ireturn, 1)]
def M_X8_readPiece : ab_MD := (K_X8, yX8_readPiece, cX8_readPiece, 3, (some .int), false, k_X8_readPiece)
theorem o_X8_readPiece : ab_OK M_X8_readPiece 0 := tb_ok OC_X8 (by decide +kernel) (by decide +kernel) (ab_T_in (tb_c_in 3 _ (List.mem_of_getElem? (i := 184) (rfl : (tb_c 3)[184]? = some (Cond.code yX8_readPiece cX8_readPiece 3 (some .int))))) rfl) IN_X8
theorem v_X8_readPiece : ab_kV M_X8_readPiece 8 := ⟨(ab_T_in (tb_c_in 3 _ (List.mem_of_getElem? (i := 183) (rfl : (tb_c 3)[183]? = some (Cond.instanceMethod yX8_readPiece)))) rfl), (ab_T_in (tb_c_in 0 _ (List.mem_of_getElem? (i := 6) (rfl : (tb_c 0)[6]? = some (Cond.selects RX8 yX8_readPiece yX8_readPiece)))) rfl), _, rfl, rfl⟩
def k_X8_readSeed : List (Nat × Instr × Nat) :=
  [(0, .aload_n 0, 1), (1, .getfield 12, 3), (4, .getfield 154, 3), (7, .iconst (-1), 1), (8, .if_icmp .eq 5, 3), (11, .iconst 3, 1), (12, .ireturn, 1), (13, .aload_n 0, 1),
   (14, .getfield 18, 3), (17, .invokevirtual 44, 3), (20, .aload_n 0, 1), (21, .getfield 18, 3), (24, .getfield 47, 3), (27, .bipush 36, 2), (29, .if_icmp .eq 5, 3), (32, .iconst 1, 1),
   (33, .ireturn, 1), (34, .aload_n 0, 1), (35, .getfield 18, 3), (38, .getfield 111, 3), (41, .ldc 157, 2), (43, .if_icmp .le 5, 3), (46, .iconst 2, 1), (47, .ireturn, 1),
   (48, .aload_n 0, 1), (49, .getfield 12, 3), (52, .aload_n 0, 1), (53, .getfield 18, 3), (56, .getfield 111, 3), (59, .putfield 154, 3), (62, .aload_n 0, 1), (63, .getfield 18, 3),
   (66, .invokevirtual 44, 3), (69, .iconst 0, 1), (70, .ireturn, 1)]
def M_X8_readSeed : ab_MD := (K_X8, yX8_readSeed, cX8_readSeed, 1, (some .int), false, k_X8_readSeed)
theorem o_X8_readSeed : ab_OK M_X8_readSeed 0 := tb_ok OC_X8 (by decide +kernel) (by decide +kernel) (ab_T_in (tb_c_in 3 _ (List.mem_of_getElem? (i := 239) (rfl : (tb_c 3)[239]? = some (Cond.code yX8_readSeed cX8_readSeed 1 (some .int))))) rfl) IN_X8
theorem v_X8_readSeed : ab_kV M_X8_readSeed 8 := ⟨(ab_T_in (tb_c_in 3 _ (List.mem_of_getElem? (i := 238) (rfl : (tb_c 3)[238]? = some (Cond.instanceMethod yX8_readSeed)))) rfl), (ab_T_in (tb_c_in 0 _ (List.mem_of_getElem? (i := 16) (rfl : (tb_c 0)[16]? = some (Cond.selects RX8 yX8_readSeed yX8_readSeed)))) rfl), _, rfl, rfl⟩
def k_X8_readShare : List (Nat × Instr × Nat) :=
  [(0, .aload_n 0, 1), (1, .invokevirtual 108, 3), (4, .istore_n 1, 1), (5, .iload_n 1, 1), (6, .ifCond .eq 5, 3), (9, .iload_n 1, 1), (10, .ireturn, 1), (11, .aload_n 0, 1),
   (12, .getfield 12, 3), (15, .aload_n 0, 1), (16, .getfield 18, 3), (19, .getfield 111, 3), (22, .invokevirtual 114, 3), (25, .istore_n 2, 1), (26, .aload_n 0, 1), (27, .invokevirtual 118, 3),
   (30, .istore_n 1, 1), (31, .iload_n 1, 1), (32, .ifCond .eq 5, 3), (35, .iload_n 1, 1), (36, .ireturn, 1), (37, .aload_n 0, 1), (38, .getfield 12, 3), (41, .aload_n 0, 1),
   (42, .getfield 18, 3), (45, .getfield 111, 3), (48, .invokevirtual 121, 3), (51, .istore_n 3, 1), (52, .aload_n 0, 1), (53, .getfield 12, 3), (56, .invokevirtual 124, 3), (59, .iload_n 3, 1),
   (60, .iushr, 1), (61, .iconst 1, 1), (62, .iand, 1), (63, .iconst 1, 1), (64, .if_icmp .ne 5, 3), (67, .iconst 3, 1), (68, .ireturn, 1), (69, .iload_n 2, 1),
   (70, .ifCond .lt 23, 3), (73, .iload_n 2, 1), (74, .iconst 5, 1), (75, .if_icmp .ge 18, 3), (78, .aload_n 0, 1), (79, .getfield 12, 3), (82, .getfield 127, 3), (85, .iload_n 2, 1),
   (86, .dup2, 1), (87, .iaload, 1), (88, .iconst 1, 1), (89, .iload_n 3, 1), (90, .ishl, 1), (91, .ior, 1), (92, .iastore, 1), (93, .aload_n 0, 1),
   (94, .getfield 18, 3), (97, .invokevirtual 44, 3), (100, .iconst 0, 1), (101, .ireturn, 1)]
def M_X8_readShare : ab_MD := (K_X8, yX8_readShare, cX8_readShare, 4, (some .int), false, k_X8_readShare)
theorem o_X8_readShare : ab_OK M_X8_readShare 0 := tb_ok OC_X8 (by decide +kernel) (by decide +kernel) (ab_T_in (tb_c_in 3 _ (List.mem_of_getElem? (i := 211) (rfl : (tb_c 3)[211]? = some (Cond.code yX8_readShare cX8_readShare 4 (some .int))))) rfl) IN_X8
theorem v_X8_readShare : ab_kV M_X8_readShare 8 := ⟨(ab_T_in (tb_c_in 3 _ (List.mem_of_getElem? (i := 210) (rfl : (tb_c 3)[210]? = some (Cond.instanceMethod yX8_readShare)))) rfl), (ab_T_in (tb_c_in 0 _ (List.mem_of_getElem? (i := 10) (rfl : (tb_c 0)[10]? = some (Cond.selects RX8 yX8_readShare yX8_readShare)))) rfl), _, rfl, rfl⟩
def k_X8_readToldHeir : List (Nat × Instr × Nat) :=
  [(0, .aload_n 0, 1), (1, .getfield 18, 3), (4, .invokevirtual 44, 3), (7, .aload_n 0, 1), (8, .getfield 18, 3), (11, .getfield 47, 3), (14, .bipush 35, 2), (16, .if_icmp .eq 5, 3),
   (19, .iconst 1, 1), (20, .ireturn, 1), (21, .aload_n 0, 1), (22, .getfield 12, 3), (25, .aload_n 0, 1), (26, .getfield 18, 3), (29, .getfield 111, 3), (32, .invokevirtual 114, 3),
   (35, .iconst (-1), 1), (36, .if_icmp .ne 7, 3), (39, .iconst 4, 1), (40, .goto 4, 3), (43, .iconst 0, 1), (44, .ireturn, 1)]
def M_X8_readToldHeir : ab_MD := (K_X8, yX8_readToldHeir, cX8_readToldHeir, 1, (some .int), false, k_X8_readToldHeir)
theorem o_X8_readToldHeir : ab_OK M_X8_readToldHeir 0 := tb_ok OC_X8 (by decide +kernel) (by decide +kernel) (ab_T_in (tb_c_in 3 _ (List.mem_of_getElem? (i := 215) (rfl : (tb_c 3)[215]? = some (Cond.code yX8_readToldHeir cX8_readToldHeir 1 (some .int))))) rfl) IN_X8
theorem v_X8_readToldHeir : ab_kV M_X8_readToldHeir 8 := ⟨(ab_T_in (tb_c_in 3 _ (List.mem_of_getElem? (i := 214) (rfl : (tb_c 3)[214]? = some (Cond.instanceMethod yX8_readToldHeir)))) rfl), (ab_T_in (tb_c_in 0 _ (List.mem_of_getElem? (i := 11) (rfl : (tb_c 0)[11]? = some (Cond.selects RX8 yX8_readToldHeir yX8_readToldHeir)))) rfl), _, rfl, rfl⟩
def k_X8_readToldPiece : List (Nat × Instr × Nat) :=
  [(0, .aload_n 0, 1), (1, .getfield 18, 3), (4, .invokevirtual 44, 3), (7, .aload_n 0, 1), (8, .getfield 18, 3), (11, .getfield 47, 3), (14, .bipush 35, 2), (16, .if_icmp .eq 5, 3),
   (19, .iconst 1, 1), (20, .ireturn, 1), (21, .aload_n 0, 1), (22, .getfield 12, 3), (25, .aload_n 0, 1), (26, .getfield 18, 3), (29, .getfield 111, 3), (32, .invokevirtual 121, 3),
   (35, .iconst (-1), 1), (36, .if_icmp .ne 7, 3), (39, .iconst 4, 1), (40, .goto 4, 3), (43, .iconst 0, 1), (44, .ireturn, 1)]
def M_X8_readToldPiece : ab_MD := (K_X8, yX8_readToldPiece, cX8_readToldPiece, 1, (some .int), false, k_X8_readToldPiece)
theorem o_X8_readToldPiece : ab_OK M_X8_readToldPiece 0 := tb_ok OC_X8 (by decide +kernel) (by decide +kernel) (ab_T_in (tb_c_in 3 _ (List.mem_of_getElem? (i := 219) (rfl : (tb_c 3)[219]? = some (Cond.code yX8_readToldPiece cX8_readToldPiece 1 (some .int))))) rfl) IN_X8
theorem v_X8_readToldPiece : ab_kV M_X8_readToldPiece 8 := ⟨(ab_T_in (tb_c_in 3 _ (List.mem_of_getElem? (i := 218) (rfl : (tb_c 3)[218]? = some (Cond.instanceMethod yX8_readToldPiece)))) rfl), (ab_T_in (tb_c_in 0 _ (List.mem_of_getElem? (i := 12) (rfl : (tb_c 0)[12]? = some (Cond.selects RX8 yX8_readToldPiece yX8_readToldPiece)))) rfl), _, rfl, rfl⟩
def k_X8_readTrade : List (Nat × Instr × Nat) :=
  [(0, .aload_n 0, 1), (1, .getfield 12, 3), (4, .getfield 130, 3), (7, .istore_n 1, 1), (8, .iload_n 1, 1), (9, .bipush 8, 2), (11, .if_icmp .lt 5, 3), (14, .iconst 2, 1),
   (15, .ireturn, 1), (16, .aload_n 0, 1), (17, .invokevirtual 118, 3), (20, .istore_n 2, 1), (21, .iload_n 2, 1), (22, .ifCond .eq 5, 3), (25, .iload_n 2, 1), (26, .ireturn, 1),
   (27, .aload_n 0, 1), (28, .getfield 12, 3), (31, .getfield 133, 3), (34, .iload_n 1, 1), (35, .aload_n 0, 1), (36, .getfield 12, 3), (39, .aload_n 0, 1), (40, .getfield 18, 3),
   (43, .getfield 111, 3), (46, .invokevirtual 121, 3), (49, .iastore, 1), (50, .aload_n 0, 1), (51, .invokevirtual 118, 3), (54, .istore_n 2, 1), (55, .iload_n 2, 1), (56, .ifCond .eq 5, 3),
   (59, .iload_n 2, 1), (60, .ireturn, 1), (61, .aload_n 0, 1), (62, .getfield 12, 3), (65, .getfield 136, 3), (68, .iload_n 1, 1), (69, .aload_n 0, 1), (70, .getfield 12, 3),
   (73, .aload_n 0, 1), (74, .getfield 18, 3), (77, .getfield 111, 3), (80, .invokevirtual 121, 3), (83, .iastore, 1), (84, .aload_n 0, 1), (85, .getfield 12, 3), (88, .getfield 133, 3),
   (91, .iload_n 1, 1), (92, .iaload, 1), (93, .aload_n 0, 1), (94, .getfield 12, 3), (97, .getfield 136, 3), (100, .iload_n 1, 1), (101, .iaload, 1), (102, .if_icmp .ne 5, 3),
   (105, .iconst 5, 1), (106, .ireturn, 1), (107, .aload_n 0, 1), (108, .aload_n 0, 1), (109, .getfield 12, 3), (112, .getfield 139, 3), (115, .iload_n 1, 1), (116, .bipush 99, 2),
   (118, .invokevirtual 92, 3), (121, .istore_n 2, 1), (122, .iload_n 2, 1), (123, .ifCond .ne 23, 3), (126, .aload_n 0, 1), (127, .getfield 12, 3), (130, .dup, 1), (131, .getfield 130, 3),
   (134, .iconst 1, 1), (135, .iadd, 1), (136, .putfield 130, 3), (139, .aload_n 0, 1), (140, .getfield 18, 3), (143, .invokevirtual 44, 3), (146, .iload_n 2, 1), (147, .ireturn, 1)]
def M_X8_readTrade : ab_MD := (K_X8, yX8_readTrade, cX8_readTrade, 3, (some .int), false, k_X8_readTrade)
theorem o_X8_readTrade : ab_OK M_X8_readTrade 0 := tb_ok OC_X8 (by decide +kernel) (by decide +kernel) (ab_T_in (tb_c_in 3 _ (List.mem_of_getElem? (i := 227) (rfl : (tb_c 3)[227]? = some (Cond.code yX8_readTrade cX8_readTrade 3 (some .int))))) rfl) IN_X8
theorem v_X8_readTrade : ab_kV M_X8_readTrade 8 := ⟨(ab_T_in (tb_c_in 3 _ (List.mem_of_getElem? (i := 226) (rfl : (tb_c 3)[226]? = some (Cond.instanceMethod yX8_readTrade)))) rfl), (ab_T_in (tb_c_in 0 _ (List.mem_of_getElem? (i := 13) (rfl : (tb_c 0)[13]? = some (Cond.selects RX8 yX8_readTrade yX8_readTrade)))) rfl), _, rfl, rfl⟩
