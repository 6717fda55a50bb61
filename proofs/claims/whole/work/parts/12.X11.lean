/-! printed by wip/tools/mktab.py: methods of BoneEstate -/
def k_X11_ahead : List (Nat × Instr × Nat) :=
  [(0, .iload_n 1, 1), (1, .invokestatic 237, 3), (4, .ifCond .eq 25, 3), (7, .iload_n 2, 1), (8, .ifCond .lt 21, 3), (11, .iload_n 2, 1), (12, .iconst 4, 1), (13, .if_icmp .gt 16, 3),
   (16, .iload_n 2, 1), (17, .iconst 2, 1), (18, .if_icmp .ge 13, 3), (21, .aload_n 0, 1), (22, .iload_n 3, 1), (23, .invokevirtual 174, 3), (26, .ifCond .ne 5, 3), (29, .iconst (-1), 1),
   (30, .ireturn, 1), (31, .aload_n 0, 1), (32, .getfield 57, 3), (35, .invokevirtual 227, 3), (38, .aload_n 0, 1), (39, .getfield 82, 3), (42, .aload_n 0, 1), (43, .getfield 78, 3),
   (46, .invokevirtual 230, 3), (49, .aload_n 0, 1), (50, .getfield 57, 3), (53, .aload_n 0, 1), (54, .getfield 82, 3), (57, .iload_n 1, 1), (58, .invokevirtual 243, 3), (61, .iload_n 2, 1),
   (62, .tableswitch 85 0 3 #[30, 40, 53, 69], 30), (92, .aload_n 0, 1), (93, .getfield 82, 3), (96, .getfield 177, 3), (99, .iload_n 3, 1), (100, .iaload, 1), (101, .ireturn, 1), (102, .aload_n 0, 1),
   (103, .getfield 82, 3), (106, .getfield 180, 3), (109, .iload_n 3, 1), (110, .iaload, 1), (111, .invokestatic 247, 3), (114, .ireturn, 1), (115, .aload_n 0, 1), (116, .getfield 82, 3),
   (119, .invokevirtual 252, 3), (122, .aload_n 0, 1), (123, .getfield 78, 3), (126, .invokevirtual 252, 3), (129, .isub, 1), (130, .ireturn, 1), (131, .aload_n 0, 1), (132, .getfield 82, 3),
   (135, .getfield 256, 3), (138, .aload_n 0, 1), (139, .getfield 78, 3), (142, .getfield 256, 3), (145, .isub, 1), (146, .ireturn, 1), (147, .aload_n 0, 1), (148, .getfield 82, 3),
   (151, .getfield 259, 3), (154, .invokestatic 247, 3), (157, .ireturn, 1)]
def M_X11_ahead : ab_MD := (K_X11, yX11_ahead, cX11_ahead, 4, (some .int), false, k_X11_ahead)
theorem w_X11_ahead : ∀ w ∈ [Cond.code yX11_ahead cX11_ahead 4 (some .int), Cond.initialized RX11, Cond.instanceMethod yX11_ahead, Cond.selects RX11 yX11_ahead yX11_ahead], w ∈ ab_T := tb_k_ok [(5, 70), (1, 1), (5, 68), (5, 69)] _ (by decide +kernel)
theorem o_X11_ahead : ab_OK M_X11_ahead 3 := tb_ok OC_X11 (by decide +kernel) (by decide +kernel) (w_X11_ahead _ (.head _)) (w_X11_ahead _ (.tail _ (.head _)))
theorem v_X11_ahead : ab_kV M_X11_ahead 11 := ⟨w_X11_ahead _ (.tail _ (.tail _ (.head _))), w_X11_ahead _ (.tail _ (.tail _ (.tail _ (.head _)))), _, rfl, rfl⟩
def k_X11_ask : List (Nat × Instr × Nat) :=
  [(0, .iload_n 1, 1), (1, .ifCond .lt 8, 3), (4, .iload_n 1, 1), (5, .iconst 1, 1), (6, .if_icmp .le 5, 3), (9, .iconst (-1), 1), (10, .ireturn, 1), (11, .aload_n 0, 1),
   (12, .getfield 71, 3), (15, .aload_n 0, 1), (16, .getfield 21, 3), (19, .aload_n 0, 1), (20, .getfield 48, 3), (23, .aload_n 0, 1), (24, .getfield 78, 3), (27, .getfield 189, 3),
   (30, .invokevirtual 192, 3), (33, .invokevirtual 353, 3), (36, .lstore_n 2, 1), (37, .iconst 0, 1), (38, .istore 4, 2), (40, .bipush 64, 2), (42, .istore 5, 2), (44, .iconst 0, 1),
   (45, .istore 6, 2), (47, .iload 6, 2), (49, .bipush 7, 2), (51, .if_icmp .ge 50, 3), (54, .lload_n 2, 1), (55, .iload 6, 2), (57, .invokestatic 363, 3), (60, .land, 1),
   (61, .invokestatic 357, 3), (64, .istore 7, 2), (66, .iload 7, 2), (68, .lload_n 2, 1), (69, .invokestatic 357, 3), (72, .iload 7, 2), (74, .isub, 1), (75, .invokestatic 366, 3),
   (78, .istore 8, 2), (80, .iload 8, 2), (82, .iload 5, 2), (84, .if_icmp .ge 11, 3), (87, .iload 8, 2), (89, .istore 5, 2), (91, .iload 6, 2), (93, .istore 4, 2),
   (95, .iinc 6 1, 3), (98, .goto (-51), 3), (101, .iload_n 1, 1), (102, .ifCond .ne 8, 3), (105, .iload 4, 2), (107, .goto 5, 3), (110, .iload 5, 2), (112, .ireturn, 1)]
def M_X11_ask : ab_MD := (K_X11, yX11_ask, cX11_ask, 9, (some .int), false, k_X11_ask)
theorem w_X11_ask : ∀ w ∈ [Cond.code yX11_ask cX11_ask 9 (some .int), Cond.initialized RX11, Cond.instanceMethod yX11_ask, Cond.selects RX11 yX11_ask yX11_ask], w ∈ ab_T := tb_k_ok [(6, 82), (1, 1), (6, 80), (6, 81)] _ (by decide +kernel)
theorem o_X11_ask : ab_OK M_X11_ask 1 := tb_ok OC_X11 (by decide +kernel) (by decide +kernel) (w_X11_ask _ (.head _)) (w_X11_ask _ (.tail _ (.head _)))
theorem v_X11_ask : ab_kV M_X11_ask 11 := ⟨w_X11_ask _ (.tail _ (.tail _ (.head _))), w_X11_ask _ (.tail _ (.tail _ (.tail _ (.head _)))), _, rfl, rfl⟩
def k_X11_back : List (Nat × Instr × Nat) :=
  [(0, .aload_n 0, 1), (1, .getfield 129, 3), (4, .ifCond .ne 5, 3), (7, .iconst (-1), 1), (8, .ireturn, 1), (9, .aload_n 0, 1), (10, .getfield 78, 3), (13, .aload_n 0, 1),
   (14, .getfield 85, 3), (17, .invokevirtual 230, 3), (20, .aload_n 0, 1), (21, .iconst 0, 1), (22, .putfield 133, 3), (25, .aload_n 0, 1), (26, .getfield 78, 3), (29, .getfield 189, 3),
   (32, .ireturn, 1)]
def M_X11_back : ab_MD := (K_X11, yX11_back, cX11_back, 1, (some .int), false, k_X11_back)
theorem w_X11_back : ∀ w ∈ [Cond.code yX11_back cX11_back 1 (some .int), Cond.initialized RX11, Cond.instanceMethod yX11_back, Cond.selects RX11 yX11_back yX11_back], w ∈ ab_T := tb_k_ok [(6, 123), (1, 1), (6, 121), (6, 122)] _ (by decide +kernel)
theorem o_X11_back : ab_OK M_X11_back 0 := tb_ok OC_X11 (by decide +kernel) (by decide +kernel) (w_X11_back _ (.head _)) (w_X11_back _ (.tail _ (.head _)))
theorem v_X11_back : ab_kV M_X11_back 11 := ⟨w_X11_back _ (.tail _ (.tail _ (.head _))), w_X11_back _ (.tail _ (.tail _ (.tail _ (.head _)))), _, rfl, rfl⟩
def k_X11_chance : List (Nat × Instr × Nat) :=
  [(0, .iload_n 1, 1), (1, .ifCond .lt 30, 3), (4, .iload_n 2, 1), (5, .iconst 1, 1), (6, .if_icmp .lt 25, 3), (9, .iload_n 2, 1), (10, .bipush 99, 2), (12, .if_icmp .gt 19, 3),
   (15, .aload_n 0, 1), (16, .iload_n 3, 1), (17, .invokevirtual 174, 3), (20, .ifCond .eq 11, 3), (23, .iload 4, 2), (25, .invokestatic 344, 3), (28, .ifCond .ne 5, 3), (31, .iconst (-1), 1),
   (32, .ireturn, 1), (33, .aload_n 0, 1), (34, .getfield 57, 3), (37, .invokevirtual 227, 3), (40, .aload_n 0, 1), (41, .getfield 57, 3), (44, .iconst 1, 1), (45, .putfield 240, 3),
   (48, .iload_n 1, 1), (49, .istore 5, 2), (51, .iconst 0, 1), (52, .istore 6, 2), (54, .iconst 0, 1), (55, .istore 7, 2), (57, .iload 7, 2), (59, .bipush 10, 2),
   (61, .if_icmp .ge 67, 3), (64, .aload_n 0, 1), (65, .getfield 82, 3), (68, .aload_n 0, 1), (69, .getfield 78, 3), (72, .invokevirtual 230, 3), (75, .aload_n 0, 1), (76, .getfield 82, 3),
   (79, .iload 5, 2), (81, .putfield 384, 3), (84, .aload_n 0, 1), (85, .getfield 57, 3), (88, .aload_n 0, 1), (89, .getfield 82, 3), (92, .iload_n 2, 1), (93, .invokevirtual 243, 3),
   (96, .aload_n 0, 1), (97, .getfield 82, 3), (100, .getfield 384, 3), (103, .istore 5, 2), (105, .aload_n 0, 1), (106, .getfield 82, 3), (109, .getfield 177, 3), (112, .iload_n 3, 1),
   (113, .iaload, 1), (114, .iload 4, 2), (116, .if_icmp .lt 6, 3), (119, .iinc 6 1, 3), (122, .iinc 7 1, 3), (125, .goto (-68), 3), (128, .aload_n 0, 1), (129, .getfield 57, 3),
   (132, .invokevirtual 227, 3), (135, .iload 6, 2), (137, .ireturn, 1)]
def M_X11_chance : ab_MD := (K_X11, yX11_chance, cX11_chance, 8, (some .int), false, k_X11_chance)
theorem w_X11_chance : ∀ w ∈ [Cond.code yX11_chance cX11_chance 8 (some .int), Cond.initialized RX11, Cond.instanceMethod yX11_chance, Cond.selects RX11 yX11_chance yX11_chance], w ∈ ab_T := tb_k_ok [(6, 103), (1, 1), (6, 101), (6, 102)] _ (by decide +kernel)
theorem o_X11_chance : ab_OK M_X11_chance 4 := tb_ok OC_X11 (by decide +kernel) (by decide +kernel) (w_X11_chance _ (.head _)) (w_X11_chance _ (.tail _ (.head _)))
theorem v_X11_chance : ab_kV M_X11_chance 11 := ⟨w_X11_chance _ (.tail _ (.tail _ (.head _))), w_X11_chance _ (.tail _ (.tail _ (.tail _ (.head _)))), _, rfl, rfl⟩
def k_X11_closed : List (Nat × Instr × Nat) :=
  [(0, .aload_n 0, 1), (1, .iload_n 1, 1), (2, .invokevirtual 174, 3), (5, .ifCond .ne 7, 3), (8, .ldc2_w 262, 3), (11, .lreturn, 1), (12, .aload_n 0, 1), (13, .invokevirtual 264, 3),
   (16, .aload_n 0, 1), (17, .getfield 39, 3), (20, .aload_n 0, 1), (21, .getfield 78, 3), (24, .getfield 180, 3), (27, .iload_n 1, 1), (28, .iaload, 1), (29, .invokevirtual 287, 3),
   (32, .lreturn, 1)]
def M_X11_closed : ab_MD := (K_X11, yX11_closed, cX11_closed, 2, (some .long), false, k_X11_closed)
theorem w_X11_closed : ∀ w ∈ [Cond.code yX11_closed cX11_closed 2 (some .long), Cond.initialized RX11, Cond.instanceMethod yX11_closed, Cond.selects RX11 yX11_closed yX11_closed], w ∈ ab_T := tb_k_ok [(5, 141), (1, 1), (5, 139), (5, 140)] _ (by decide +kernel)
theorem o_X11_closed : ab_OK M_X11_closed 1 := tb_ok OC_X11 (by decide +kernel) (by decide +kernel) (w_X11_closed _ (.head _)) (w_X11_closed _ (.tail _ (.head _)))
theorem v_X11_closed : ab_kV M_X11_closed 11 := ⟨w_X11_closed _ (.tail _ (.tail _ (.head _))), w_X11_closed _ (.tail _ (.tail _ (.tail _ (.head _)))), _, rfl, rfl⟩
def k_X11_commonDivisor : List (Nat × Instr × Nat) :=
  [(0, .iload_n 0, 1), (1, .istore_n 2, 1), (2, .iload_n 1, 1), (3, .istore_n 3, 1), (4, .iconst 0, 1), (5, .istore 4, 2), (7, .iload 4, 2), (9, .bipush 64, 2),
   (11, .if_icmp .ge 23, 3), (14, .iload_n 3, 1), (15, .ifCond .eq 19, 3), (18, .iload_n 2, 1), (19, .iload_n 3, 1), (20, .irem, 1), (21, .istore 5, 2), (23, .iload_n 3, 1),
   (24, .istore_n 2, 1), (25, .iload 5, 2), (27, .istore_n 3, 1), (28, .iinc 4 1, 3), (31, .goto (-24), 3), (34, .iload_n 2, 1), (35, .ireturn, 1)]
def M_X11_commonDivisor : ab_MD := (K_X11, yX11_commonDivisor, cX11_commonDivisor, 6, (some .int), false, k_X11_commonDivisor)
theorem w_X11_commonDivisor : ∀ w ∈ [Cond.code yX11_commonDivisor cX11_commonDivisor 6 (some .int), Cond.initialized RX11, Cond.static yX11_commonDivisor], w ∈ ab_T := tb_k_ok [(6, 18), (1, 1), (6, 17)] _ (by decide +kernel)
theorem o_X11_commonDivisor : ab_OK M_X11_commonDivisor 2 := tb_ok OC_X11 (by decide +kernel) (by decide +kernel) (w_X11_commonDivisor _ (.head _)) (w_X11_commonDivisor _ (.tail _ (.head _)))
theorem s_X11_commonDivisor : Cond.static M_X11_commonDivisor.2.1 ∈ ab_T := w_X11_commonDivisor _ (.tail _ (.tail _ (.head _)))
def k_X11_count : List (Nat × Instr × Nat) :=
  [(0, .iload_n 1, 1), (1, .tableswitch 162 0 11 #[63, 71, 79, 87, 95, 106, 117, 125, 133, 141, 149, 157], 63), (64, .aload_n 0, 1), (65, .getfield 21, 3), (68, .getfield 311, 3), (71, .ireturn, 1), (72, .aload_n 0, 1), (73, .getfield 21, 3),
   (76, .getfield 405, 3), (79, .ireturn, 1), (80, .aload_n 0, 1), (81, .getfield 21, 3), (84, .invokevirtual 408, 3), (87, .ireturn, 1), (88, .aload_n 0, 1), (89, .getfield 78, 3),
   (92, .getfield 189, 3), (95, .ireturn, 1), (96, .aload_n 0, 1), (97, .getfield 78, 3), (100, .getfield 259, 3), (103, .invokestatic 247, 3), (106, .ireturn, 1), (107, .aload_n 0, 1),
   (108, .getfield 78, 3), (111, .getfield 314, 3), (114, .invokestatic 247, 3), (117, .ireturn, 1), (118, .aload_n 0, 1), (119, .getfield 78, 3), (122, .invokevirtual 399, 3), (125, .ireturn, 1),
   (126, .aload_n 0, 1), (127, .getfield 78, 3), (130, .invokevirtual 252, 3), (133, .ireturn, 1), (134, .aload_n 0, 1), (135, .getfield 78, 3), (138, .getfield 256, 3), (141, .ireturn, 1),
   (142, .aload_n 0, 1), (143, .getfield 71, 3), (146, .getfield 347, 3), (149, .ireturn, 1), (150, .aload_n 0, 1), (151, .getfield 71, 3), (154, .invokevirtual 411, 3), (157, .ireturn, 1),
   (158, .aload_n 0, 1), (159, .getfield 133, 3), (162, .ireturn, 1), (163, .iconst (-1), 1), (164, .ireturn, 1)]
def M_X11_count : ab_MD := (K_X11, yX11_count, cX11_count, 2, (some .int), false, k_X11_count)
theorem w_X11_count : ∀ w ∈ [Cond.code yX11_count cX11_count 2 (some .int), Cond.initialized RX11, Cond.instanceMethod yX11_count, Cond.selects RX11 yX11_count yX11_count], w ∈ ab_T := tb_k_ok [(6, 127), (1, 1), (6, 125), (6, 126)] _ (by decide +kernel)
theorem o_X11_count : ab_OK M_X11_count 1 := tb_ok OC_X11 (by decide +kernel) (by decide +kernel) (w_X11_count _ (.head _)) (w_X11_count _ (.tail _ (.head _)))
theorem v_X11_count : ab_kV M_X11_count 11 := ⟨w_X11_count _ (.tail _ (.tail _ (.head _))), w_X11_count _ (.tail _ (.tail _ (.tail _ (.head _)))), _, rfl, rfl⟩
def k_X11_deal : List (Nat × Instr × Nat) :=
  [(0, .aload_n 0, 1), (1, .invokevirtual 264, 3), (4, .aload_n 0, 1), (5, .getfield 48, 3), (8, .aload_n 0, 1), (9, .getfield 78, 3), (12, .invokevirtual 317, 3), (15, .ireturn, 1)]
def M_X11_deal : ab_MD := (K_X11, yX11_deal, cX11_deal, 1, (some .int), false, k_X11_deal)
theorem w_X11_deal : ∀ w ∈ [Cond.code yX11_deal cX11_deal 1 (some .int), Cond.initialized RX11, Cond.instanceMethod yX11_deal, Cond.selects RX11 yX11_deal yX11_deal], w ∈ ab_T := tb_k_ok [(5, 211), (1, 1), (5, 209), (5, 210)] _ (by decide +kernel)
theorem o_X11_deal : ab_OK M_X11_deal 0 := tb_ok OC_X11 (by decide +kernel) (by decide +kernel) (w_X11_deal _ (.head _)) (w_X11_deal _ (.tail _ (.head _)))
theorem v_X11_deal : ab_kV M_X11_deal 11 := ⟨w_X11_deal _ (.tail _ (.tail _ (.head _))), w_X11_deal _ (.tail _ (.tail _ (.tail _ (.head _)))), _, rfl, rfl⟩
def k_X11_dearest : List (Nat × Instr × Nat) :=
  [(0, .aload_n 0, 1), (1, .iload_n 1, 1), (2, .invokevirtual 174, 3), (5, .ifCond .eq 12, 3), (8, .iload_n 2, 1), (9, .ifCond .lt 8, 3), (12, .iload_n 2, 1), (13, .iconst 2, 1),
   (14, .if_icmp .le 5, 3), (17, .iconst (-1), 1), (18, .ireturn, 1), (19, .aload_n 0, 1), (20, .getfield 48, 3), (23, .aload_n 0, 1), (24, .getfield 78, 3), (27, .iload_n 1, 1),
   (28, .invokevirtual 274, 3), (31, .ifCond .ne 6, 3), (34, .bipush (-2), 2), (36, .ireturn, 1), (37, .iload_n 2, 1), (38, .lookupswitch 42 #[(0, 26), (1, 34)], 26), (64, .aload_n 0, 1), (65, .getfield 48, 3),
   (68, .getfield 278, 3), (71, .ireturn, 1), (72, .aload_n 0, 1), (73, .getfield 48, 3), (76, .getfield 281, 3), (79, .ireturn, 1), (80, .aload_n 0, 1), (81, .getfield 48, 3),
   (84, .getfield 284, 3), (87, .ireturn, 1)]
def M_X11_dearest : ab_MD := (K_X11, yX11_dearest, cX11_dearest, 3, (some .int), false, k_X11_dearest)
theorem w_X11_dearest : ∀ w ∈ [Cond.code yX11_dearest cX11_dearest 3 (some .int), Cond.initialized RX11, Cond.instanceMethod yX11_dearest, Cond.selects RX11 yX11_dearest yX11_dearest], w ∈ ab_T := tb_k_ok [(5, 136), (1, 1), (5, 134), (5, 135)] _ (by decide +kernel)
theorem o_X11_dearest : ab_OK M_X11_dearest 2 := tb_ok OC_X11 (by decide +kernel) (by decide +kernel) (w_X11_dearest _ (.head _)) (w_X11_dearest _ (.tail _ (.head _)))
theorem v_X11_dearest : ab_kV M_X11_dearest 11 := ⟨w_X11_dearest _ (.tail _ (.tail _ (.head _))), w_X11_dearest _ (.tail _ (.tail _ (.tail _ (.head _)))), _, rfl, rfl⟩
def k_X11_fault : List (Nat × Instr × Nat) :=
  [(0, .iload_n 1, 1), (1, .lookupswitch 37 #[(0, 27), (1, 32)], 27), (28, .aload_n 0, 1), (29, .getfield 107, 3), (32, .ireturn, 1), (33, .aload_n 0, 1), (34, .getfield 92, 3), (37, .ireturn, 1),
   (38, .iconst (-1), 1), (39, .ireturn, 1)]
def M_X11_fault : ab_MD := (K_X11, yX11_fault, cX11_fault, 2, (some .int), false, k_X11_fault)
theorem w_X11_fault : ∀ w ∈ [Cond.code yX11_fault cX11_fault 2 (some .int), Cond.initialized RX11, Cond.instanceMethod yX11_fault, Cond.selects RX11 yX11_fault yX11_fault], w ∈ ab_T := tb_k_ok [(4, 98), (1, 1), (4, 96), (4, 97)] _ (by decide +kernel)
theorem o_X11_fault : ab_OK M_X11_fault 1 := tb_ok OC_X11 (by decide +kernel) (by decide +kernel) (w_X11_fault _ (.head _)) (w_X11_fault _ (.tail _ (.head _)))
theorem v_X11_fault : ab_kV M_X11_fault 11 := ⟨w_X11_fault _ (.tail _ (.tail _ (.head _))), w_X11_fault _ (.tail _ (.tail _ (.tail _ (.head _)))), _, rfl, rfl⟩
def k_X11_feed : List (Nat × Instr × Nat) :=
  [(0, .aload_n 0, 1), (1, .getfield 14, 3), (4, .getfield 96, 3), (7, .bipush 20, 2), (9, .iadd, 1), (10, .sipush 700, 3), (13, .if_icmp .le 5, 3), (16, .iconst (-1), 1),
   (17, .ireturn, 1), (18, .aload_n 0, 1), (19, .getfield 14, 3), (22, .iload_n 1, 1), (23, .invokevirtual 99, 3), (26, .aload_n 0, 1), (27, .getfield 14, 3), (30, .iload_n 2, 1),
   (31, .invokevirtual 99, 3), (34, .aload_n 0, 1), (35, .getfield 14, 3), (38, .iload_n 3, 1), (39, .invokevirtual 99, 3), (42, .aload_n 0, 1), (43, .getfield 14, 3), (46, .iload 4, 2),
   (48, .invokevirtual 99, 3), (51, .aload_n 0, 1), (52, .getfield 14, 3), (55, .iload 5, 2), (57, .invokevirtual 99, 3), (60, .aload_n 0, 1), (61, .getfield 14, 3), (64, .getfield 96, 3),
   (67, .ireturn, 1)]
def M_X11_feed : ab_MD := (K_X11, yX11_feed, cX11_feed, 6, (some .int), false, k_X11_feed)
theorem w_X11_feed : ∀ w ∈ [Cond.code yX11_feed cX11_feed 6 (some .int), Cond.initialized RX11, Cond.instanceMethod yX11_feed, Cond.selects RX11 yX11_feed yX11_feed], w ∈ ab_T := tb_k_ok [(3, 114), (1, 1), (3, 112), (3, 113)] _ (by decide +kernel)
theorem o_X11_feed : ab_OK M_X11_feed 5 := tb_ok OC_X11 (by decide +kernel) (by decide +kernel) (w_X11_feed _ (.head _)) (w_X11_feed _ (.tail _ (.head _)))
theorem v_X11_feed : ab_kV M_X11_feed 11 := ⟨w_X11_feed _ (.tail _ (.tail _ (.head _))), w_X11_feed _ (.tail _ (.tail _ (.tail _ (.head _)))), _, rfl, rfl⟩
def k_X11_fewest : List (Nat × Instr × Nat) :=
  [(0, .aload_n 0, 1), (1, .iload_n 1, 1), (2, .invokevirtual 174, 3), (5, .ifCond .ne 5, 3), (8, .iconst (-1), 1), (9, .ireturn, 1), (10, .aload_n 0, 1), (11, .invokevirtual 264, 3),
   (14, .aload_n 0, 1), (15, .getfield 39, 3), (18, .aload_n 0, 1), (19, .getfield 78, 3), (22, .getfield 180, 3), (25, .iload_n 1, 1), (26, .iaload, 1), (27, .invokevirtual 290, 3),
   (30, .ireturn, 1)]
def M_X11_fewest : ab_MD := (K_X11, yX11_fewest, cX11_fewest, 2, (some .int), false, k_X11_fewest)
theorem w_X11_fewest : ∀ w ∈ [Cond.code yX11_fewest cX11_fewest 2 (some .int), Cond.initialized RX11, Cond.instanceMethod yX11_fewest, Cond.selects RX11 yX11_fewest yX11_fewest], w ∈ ab_T := tb_k_ok [(5, 149), (1, 1), (5, 147), (5, 148)] _ (by decide +kernel)
theorem o_X11_fewest : ab_OK M_X11_fewest 1 := tb_ok OC_X11 (by decide +kernel) (by decide +kernel) (w_X11_fewest _ (.head _)) (w_X11_fewest _ (.tail _ (.head _)))
theorem v_X11_fewest : ab_kV M_X11_fewest 11 := ⟨w_X11_fewest _ (.tail _ (.tail _ (.head _))), w_X11_fewest _ (.tail _ (.tail _ (.tail _ (.head _)))), _, rfl, rfl⟩
def k_X11_firstRow : List (Nat × Instr × Nat) :=
  [(0, .aload_n 0, 1), (1, .iload_n 1, 1), (2, .invokevirtual 174, 3), (5, .ifCond .eq 13, 3), (8, .iload_n 2, 1), (9, .ifCond .lt 9, 3), (12, .iload_n 2, 1), (13, .bipush 9, 2),
   (15, .if_icmp .lt 5, 3), (18, .iconst (-1), 1), (19, .ireturn, 1), (20, .aload_n 0, 1), (21, .invokevirtual 264, 3), (24, .aload_n 0, 1), (25, .getfield 39, 3), (28, .aload_n 0, 1),
   (29, .getfield 78, 3), (32, .getfield 180, 3), (35, .iload_n 1, 1), (36, .iaload, 1), (37, .iload_n 2, 1), (38, .invokevirtual 270, 3), (41, .ireturn, 1)]
def M_X11_firstRow : ab_MD := (K_X11, yX11_firstRow, cX11_firstRow, 3, (some .int), false, k_X11_firstRow)
theorem w_X11_firstRow : ∀ w ∈ [Cond.code yX11_firstRow cX11_firstRow 3 (some .int), Cond.initialized RX11, Cond.instanceMethod yX11_firstRow, Cond.selects RX11 yX11_firstRow yX11_firstRow], w ∈ ab_T := tb_k_ok [(5, 114), (1, 1), (5, 112), (5, 113)] _ (by decide +kernel)
theorem o_X11_firstRow : ab_OK M_X11_firstRow 2 := tb_ok OC_X11 (by decide +kernel) (by decide +kernel) (w_X11_firstRow _ (.head _)) (w_X11_firstRow _ (.tail _ (.head _)))
theorem v_X11_firstRow : ab_kV M_X11_firstRow 11 := ⟨w_X11_firstRow _ (.tail _ (.tail _ (.head _))), w_X11_firstRow _ (.tail _ (.tail _ (.tail _ (.head _)))), _, rfl, rfl⟩
def k_X11_game : List (Nat × Instr × Nat) :=
  [(0, .aload_n 0, 1), (1, .iload_n 1, 1), (2, .invokevirtual 174, 3), (5, .ifCond .eq 25, 3), (8, .aload_n 0, 1), (9, .iload_n 2, 1), (10, .invokevirtual 174, 3), (13, .ifCond .eq 17, 3),
   (16, .iload_n 1, 1), (17, .iload_n 2, 1), (18, .if_icmp .eq 12, 3), (21, .iload_n 3, 1), (22, .ifCond .lt 8, 3), (25, .iload_n 3, 1), (26, .iconst 2, 1), (27, .if_icmp .le 5, 3),
   (30, .iconst (-1), 1), (31, .ireturn, 1), (32, .aload_n 0, 1), (33, .invokevirtual 264, 3), (36, .aload_n 0, 1), (37, .getfield 64, 3), (40, .aload_n 0, 1), (41, .getfield 78, 3),
   (44, .getfield 180, 3), (47, .iload_n 1, 1), (48, .iaload, 1), (49, .aload_n 0, 1), (50, .getfield 78, 3), (53, .getfield 180, 3), (56, .iload_n 2, 1), (57, .iaload, 1),
   (58, .invokevirtual 321, 3), (61, .iload_n 3, 1), (62, .lookupswitch 53 #[(0, 26), (1, 45)], 26), (88, .aload_n 0, 1), (89, .getfield 64, 3), (92, .getfield 324, 3), (95, .iconst 2, 1), (96, .irem, 1),
   (97, .iconst 1, 1), (98, .if_icmp .ne 7, 3), (101, .iconst 0, 1), (102, .goto 4, 3), (105, .iconst 1, 1), (106, .ireturn, 1), (107, .aload_n 0, 1), (108, .getfield 64, 3),
   (111, .getfield 324, 3), (114, .ireturn, 1), (115, .aload_n 0, 1), (116, .getfield 64, 3), (119, .getfield 327, 3), (122, .ireturn, 1)]
def M_X11_game : ab_MD := (K_X11, yX11_game, cX11_game, 4, (some .int), false, k_X11_game)
theorem w_X11_game : ∀ w ∈ [Cond.code yX11_game cX11_game 4 (some .int), Cond.initialized RX11, Cond.instanceMethod yX11_game, Cond.selects RX11 yX11_game yX11_game], w ∈ ab_T := tb_k_ok [(5, 227), (1, 1), (5, 225), (5, 226)] _ (by decide +kernel)
theorem o_X11_game : ab_OK M_X11_game 3 := tb_ok OC_X11 (by decide +kernel) (by decide +kernel) (w_X11_game _ (.head _)) (w_X11_game _ (.tail _ (.head _)))
theorem v_X11_game : ab_kV M_X11_game 11 := ⟨w_X11_game _ (.tail _ (.tail _ (.head _))), w_X11_game _ (.tail _ (.tail _ (.tail _ (.head _)))), _, rfl, rfl⟩
def k_X11_give : List (Nat × Instr × Nat) :=
  [(0, .aload_n 0, 1), (1, .iload_n 1, 1), (2, .invokevirtual 145, 3), (5, .ifCond .eq 16, 3), (8, .iload_n 2, 1), (9, .iconst (-1), 1), (10, .if_icmp .eq 13, 3), (13, .aload_n 0, 1),
   (14, .iload_n 2, 1), (15, .invokevirtual 174, 3), (18, .ifCond .ne 5, 3), (21, .iconst 0, 1), (22, .ireturn, 1), (23, .aload_n 0, 1), (24, .getfield 78, 3), (27, .iload_n 1, 1),
   (28, .invokevirtual 166, 3), (31, .istore_n 3, 1), (32, .iload_n 2, 1), (33, .iconst (-1), 1), (34, .if_icmp .ne 8, 3), (37, .bipush (-2), 2), (39, .goto 4, 3), (42, .iload_n 2, 1),
   (43, .istore 4, 2), (45, .iload_n 3, 1), (46, .bipush (-3), 2), (48, .if_icmp .eq 9, 3), (51, .iload_n 3, 1), (52, .iload 4, 2), (54, .if_icmp .ne 5, 3), (57, .iconst 0, 1),
   (58, .ireturn, 1), (59, .iload 4, 2), (61, .bipush (-2), 2), (63, .if_icmp .eq 22, 3), (66, .aload_n 0, 1), (67, .getfield 48, 3), (70, .aload_n 0, 1), (71, .getfield 78, 3),
   (74, .iload_n 1, 1), (75, .iload 4, 2), (77, .invokevirtual 209, 3), (80, .ifCond .ne 5, 3), (83, .iconst 0, 1), (84, .ireturn, 1), (85, .aload_n 0, 1), (86, .invokevirtual 213, 3),
   (89, .aload_n 0, 1), (90, .getfield 78, 3), (93, .iload_n 1, 1), (94, .iload_n 3, 1), (95, .iload 4, 2), (97, .invokevirtual 216, 3), (100, .iconst 1, 1), (101, .ireturn, 1)]
def M_X11_give : ab_MD := (K_X11, yX11_give, cX11_give, 5, (some .boolean), false, k_X11_give)
theorem w_X11_give : ∀ w ∈ [Cond.code yX11_give cX11_give 5 (some .boolean), Cond.initialized RX11, Cond.instanceMethod yX11_give, Cond.selects RX11 yX11_give yX11_give], w ∈ ab_T := tb_k_ok [(4, 187), (1, 1), (4, 185), (4, 186)] _ (by decide +kernel)
theorem o_X11_give : ab_OK M_X11_give 2 := tb_ok OC_X11 (by decide +kernel) (by decide +kernel) (w_X11_give _ (.head _)) (w_X11_give _ (.tail _ (.head _)))
theorem v_X11_give : ab_kV M_X11_give 11 := ⟨w_X11_give _ (.tail _ (.tail _ (.head _))), w_X11_give _ (.tail _ (.tail _ (.tail _ (.head _)))), _, rfl, rfl⟩
def k_X11_go : List (Nat × Instr × Nat) :=
  [(0, .iload_n 1, 1), (1, .invokestatic 237, 3), (4, .ifCond .eq 18, 3), (7, .aload_n 0, 1), (8, .getfield 78, 3), (11, .getfield 189, 3), (14, .iload_n 1, 1), (15, .iadd, 1),
   (16, .sipush 9000, 3), (19, .if_icmp .le 5, 3), (22, .iconst (-1), 1), (23, .ireturn, 1), (24, .iload_n 1, 1), (25, .ifCond .le 8, 3), (28, .aload_n 0, 1), (29, .iconst 0, 1),
   (30, .putfield 133, 3), (33, .aload_n 0, 1), (34, .getfield 57, 3), (37, .invokevirtual 227, 3), (40, .aload_n 0, 1), (41, .getfield 57, 3), (44, .iconst 1, 1), (45, .putfield 240, 3),
   (48, .aload_n 0, 1), (49, .getfield 57, 3), (52, .aload_n 0, 1), (53, .getfield 78, 3), (56, .iload_n 1, 1), (57, .invokevirtual 243, 3), (60, .aload_n 0, 1), (61, .getfield 57, 3),
   (64, .invokevirtual 227, 3), (67, .aload_n 0, 1), (68, .getfield 78, 3), (71, .getfield 189, 3), (74, .ireturn, 1)]
def M_X11_go : ab_MD := (K_X11, yX11_go, cX11_go, 2, (some .int), false, k_X11_go)
theorem w_X11_go : ∀ w ∈ [Cond.code yX11_go cX11_go 2 (some .int), Cond.initialized RX11, Cond.instanceMethod yX11_go, Cond.selects RX11 yX11_go yX11_go], w ∈ ab_T := tb_k_ok [(5, 41), (1, 1), (5, 39), (5, 40)] _ (by decide +kernel)
theorem o_X11_go : ab_OK M_X11_go 1 := tb_ok OC_X11 (by decide +kernel) (by decide +kernel) (w_X11_go _ (.head _)) (w_X11_go _ (.tail _ (.head _)))
theorem v_X11_go : ab_kV M_X11_go 11 := ⟨w_X11_go _ (.tail _ (.tail _ (.head _))), w_X11_go _ (.tail _ (.tail _ (.tail _ (.head _)))), _, rfl, rfl⟩
def k_X11_heir : List (Nat × Instr × Nat) :=
  [(0, .aload_n 0, 1), (1, .iload_n 1, 1), (2, .invokevirtual 174, 3), (5, .ifCond .ne 5, 3), (8, .iconst (-1), 1), (9, .ireturn, 1), (10, .iload_n 2, 1), (11, .tableswitch 55 0 2 #[25, 35, 45], 25),
   (36, .aload_n 0, 1), (37, .getfield 78, 3), (40, .getfield 177, 3), (43, .iload_n 1, 1), (44, .iaload, 1), (45, .ireturn, 1), (46, .aload_n 0, 1), (47, .getfield 78, 3),
   (50, .getfield 180, 3), (53, .iload_n 1, 1), (54, .iaload, 1), (55, .ireturn, 1), (56, .aload_n 0, 1), (57, .getfield 78, 3), (60, .getfield 183, 3), (63, .iload_n 1, 1),
   (64, .iaload, 1), (65, .ireturn, 1), (66, .iconst (-1), 1), (67, .ireturn, 1)]
def M_X11_heir : ab_MD := (K_X11, yX11_heir, cX11_heir, 3, (some .int), false, k_X11_heir)
theorem w_X11_heir : ∀ w ∈ [Cond.code yX11_heir cX11_heir 3 (some .int), Cond.initialized RX11, Cond.instanceMethod yX11_heir, Cond.selects RX11 yX11_heir yX11_heir], w ∈ ab_T := tb_k_ok [(4, 108), (1, 1), (4, 106), (4, 107)] _ (by decide +kernel)
theorem o_X11_heir : ab_OK M_X11_heir 2 := tb_ok OC_X11 (by decide +kernel) (by decide +kernel) (w_X11_heir _ (.head _)) (w_X11_heir _ (.tail _ (.head _)))
theorem v_X11_heir : ab_kV M_X11_heir 11 := ⟨w_X11_heir _ (.tail _ (.tail _ (.head _))), w_X11_heir _ (.tail _ (.tail _ (.tail _ (.head _)))), _, rfl, rfl⟩
def k_X11_init : List (Nat × Instr × Nat) :=
  [(0, .aload_n 0, 1), (1, .invokespecial 5, 3), (4, .aload_n 0, 1), (5, .new 11, 3), (8, .dup, 1), (9, .invokespecial 13, 3), (12, .putfield 14, 3), (15, .aload_n 0, 1),
   (16, .new 18, 3), (19, .dup, 1), (20, .invokespecial 20, 3), (23, .putfield 21, 3), (26, .aload_n 0, 1), (27, .new 25, 3), (30, .dup, 1), (31, .aload_n 0, 1),
   (32, .getfield 14, 3), (35, .invokespecial 27, 3), (38, .putfield 30, 3), (41, .aload_n 0, 1), (42, .new 34, 3), (45, .dup, 1), (46, .aload_n 0, 1), (47, .getfield 21, 3),
   (50, .invokespecial 36, 3), (53, .putfield 39, 3), (56, .aload_n 0, 1), (57, .new 43, 3), (60, .dup, 1), (61, .aload_n 0, 1), (62, .getfield 21, 3), (65, .aload_n 0, 1),
   (66, .getfield 39, 3), (69, .invokespecial 45, 3), (72, .putfield 48, 3), (75, .aload_n 0, 1), (76, .new 52, 3), (79, .dup, 1), (80, .aload_n 0, 1), (81, .getfield 21, 3),
   (84, .aload_n 0, 1), (85, .getfield 48, 3), (88, .invokespecial 54, 3), (91, .putfield 57, 3), (94, .aload_n 0, 1), (95, .new 61, 3), (98, .dup, 1), (99, .aload_n 0, 1),
   (100, .getfield 21, 3), (103, .aload_n 0, 1), (104, .getfield 39, 3), (107, .invokespecial 63, 3), (110, .putfield 64, 3), (113, .aload_n 0, 1), (114, .new 68, 3), (117, .dup, 1),
   (118, .invokespecial 70, 3), (121, .putfield 71, 3), (124, .aload_n 0, 1), (125, .new 75, 3), (128, .dup, 1), (129, .invokespecial 77, 3), (132, .putfield 78, 3), (135, .aload_n 0, 1),
   (136, .new 75, 3), (139, .dup, 1), (140, .invokespecial 77, 3), (143, .putfield 82, 3), (146, .aload_n 0, 1), (147, .new 75, 3), (150, .dup, 1), (151, .invokespecial 77, 3),
   (154, .putfield 85, 3), (157, .aload_n 0, 1), (158, .bipush 20, 2), (160, .anewarray 75, 3), (163, .putfield 88, 3), (166, .iconst 0, 1), (167, .istore_n 1, 1), (168, .iload_n 1, 1),
   (169, .bipush 20, 2), (171, .if_icmp .ge 22, 3), (174, .aload_n 0, 1), (175, .getfield 88, 3), (178, .iload_n 1, 1), (179, .new 75, 3), (182, .dup, 1), (183, .invokespecial 77, 3),
   (186, .aastore, 1), (187, .iinc 1 1, 3), (190, .goto (-22), 3), (193, .aload_n 0, 1), (194, .iconst (-1), 1), (195, .putfield 92, 3), (198, .return_, 1)]
def M_X11_init : ab_MD := (K_X11, yX11_init, cX11_init, 2, none, true, k_X11_init)
theorem w_X11_init : ∀ w ∈ [Cond.code yX11_init cX11_init 2 none, Cond.initialized RX11, Cond.instanceMethod yX11_init], w ∈ ab_T := tb_k_ok [(1, 33), (1, 1), (1, 32)] _ (by decide +kernel)
theorem o_X11_init : ab_OK M_X11_init 0 := tb_ok OC_X11 (by decide +kernel) (by decide +kernel) (w_X11_init _ (.head _)) (w_X11_init _ (.tail _ (.head _)))
theorem i_X11_init : Cond.instanceMethod M_X11_init.2.1 ∈ ab_T := w_X11_init _ (.tail _ (.tail _ (.head _)))
def k_X11_isEnd : List (Nat × Instr × Nat) :=
  [(0, .iload_n 0, 1), (1, .ifCond .lt 13, 3), (4, .iload_n 0, 1), (5, .bipush 7, 2), (7, .if_icmp .ge 7, 3), (10, .iconst 1, 1), (11, .goto 4, 3), (14, .iconst 0, 1),
   (15, .ireturn, 1)]
def M_X11_isEnd : ab_MD := (K_X11, yX11_isEnd, cX11_isEnd, 1, (some .boolean), false, k_X11_isEnd)
theorem w_X11_isEnd : ∀ w ∈ [Cond.code yX11_isEnd cX11_isEnd 1 (some .boolean), Cond.initialized RX11, Cond.static yX11_isEnd], w ∈ ab_T := tb_k_ok [(4, 119), (1, 1), (4, 118)] _ (by decide +kernel)
theorem o_X11_isEnd : ab_OK M_X11_isEnd 1 := tb_ok OC_X11 (by decide +kernel) (by decide +kernel) (w_X11_isEnd _ (.head _)) (w_X11_isEnd _ (.tail _ (.head _)))
theorem s_X11_isEnd : Cond.static M_X11_isEnd.2.1 ∈ ab_T := w_X11_isEnd _ (.tail _ (.tail _ (.head _)))
def k_X11_isGold : List (Nat × Instr × Nat) :=
  [(0, .iload_n 0, 1), (1, .ifCond .lt 14, 3), (4, .iload_n 0, 1), (5, .ldc_w 414, 3), (8, .if_icmp .gt 7, 3), (11, .iconst 1, 1), (12, .goto 4, 3), (15, .iconst 0, 1),
   (16, .ireturn, 1)]
def M_X11_isGold : ab_MD := (K_X11, yX11_isGold, cX11_isGold, 1, (some .boolean), false, k_X11_isGold)
theorem w_X11_isGold : ∀ w ∈ [Cond.code yX11_isGold cX11_isGold 1 (some .boolean), Cond.initialized RX11, Cond.static yX11_isGold], w ∈ ab_T := tb_k_ok [(6, 33), (1, 1), (6, 32)] _ (by decide +kernel)
theorem o_X11_isGold : ab_OK M_X11_isGold 1 := tb_ok OC_X11 (by decide +kernel) (by decide +kernel) (w_X11_isGold _ (.head _)) (w_X11_isGold _ (.tail _ (.head _)))
theorem s_X11_isGold : Cond.static M_X11_isGold.2.1 ∈ ab_T := w_X11_isGold _ (.tail _ (.tail _ (.head _)))
def k_X11_isHeir : List (Nat × Instr × Nat) :=
  [(0, .iload_n 1, 1), (1, .ifCond .lt 18, 3), (4, .iload_n 1, 1), (5, .aload_n 0, 1), (6, .getfield 21, 3), (9, .getfield 405, 3), (12, .if_icmp .ge 7, 3), (15, .iconst 1, 1),
   (16, .goto 4, 3), (19, .iconst 0, 1), (20, .ireturn, 1)]
def M_X11_isHeir : ab_MD := (K_X11, yX11_isHeir, cX11_isHeir, 2, (some .boolean), false, k_X11_isHeir)
theorem w_X11_isHeir : ∀ w ∈ [Cond.code yX11_isHeir cX11_isHeir 2 (some .boolean), Cond.initialized RX11, Cond.instanceMethod yX11_isHeir, Cond.selects RX11 yX11_isHeir yX11_isHeir], w ∈ ab_T := tb_k_ok [(4, 112), (1, 1), (4, 111), (0, 25)] _ (by decide +kernel)
theorem o_X11_isHeir : ab_OK M_X11_isHeir 1 := tb_ok OC_X11 (by decide +kernel) (by decide +kernel) (w_X11_isHeir _ (.head _)) (w_X11_isHeir _ (.tail _ (.head _)))
theorem v_X11_isHeir : ab_kV M_X11_isHeir 11 := ⟨w_X11_isHeir _ (.tail _ (.tail _ (.head _))), w_X11_isHeir _ (.tail _ (.tail _ (.tail _ (.head _)))), _, rfl, rfl⟩
def k_X11_isPiece : List (Nat × Instr × Nat) :=
  [(0, .iload_n 1, 1), (1, .ifCond .lt 18, 3), (4, .iload_n 1, 1), (5, .aload_n 0, 1), (6, .getfield 21, 3), (9, .getfield 311, 3), (12, .if_icmp .ge 7, 3), (15, .iconst 1, 1),
   (16, .goto 4, 3), (19, .iconst 0, 1), (20, .ireturn, 1)]
def M_X11_isPiece : ab_MD := (K_X11, yX11_isPiece, cX11_isPiece, 2, (some .boolean), false, k_X11_isPiece)
theorem w_X11_isPiece : ∀ w ∈ [Cond.code yX11_isPiece cX11_isPiece 2 (some .boolean), Cond.initialized RX11, Cond.instanceMethod yX11_isPiece, Cond.selects RX11 yX11_isPiece yX11_isPiece], w ∈ ab_T := tb_k_ok [(4, 160), (1, 1), (4, 159), (0, 26)] _ (by decide +kernel)
theorem o_X11_isPiece : ab_OK M_X11_isPiece 1 := tb_ok OC_X11 (by decide +kernel) (by decide +kernel) (w_X11_isPiece _ (.head _)) (w_X11_isPiece _ (.tail _ (.head _)))
theorem v_X11_isPiece : ab_kV M_X11_isPiece 11 := ⟨w_X11_isPiece _ (.tail _ (.tail _ (.head _))), w_X11_isPiece _ (.tail _ (.tail _ (.tail _ (.head _)))), _, rfl, rfl⟩
def k_X11_isSpan : List (Nat × Instr × Nat) :=
  [(0, .iload_n 0, 1), (1, .ifCond .lt 13, 3), (4, .iload_n 0, 1), (5, .bipush 99, 2), (7, .if_icmp .gt 7, 3), (10, .iconst 1, 1), (11, .goto 4, 3), (14, .iconst 0, 1),
   (15, .ireturn, 1)]
def M_X11_isSpan : ab_MD := (K_X11, yX11_isSpan, cX11_isSpan, 1, (some .boolean), false, k_X11_isSpan)
theorem w_X11_isSpan : ∀ w ∈ [Cond.code yX11_isSpan cX11_isSpan 1 (some .boolean), Cond.initialized RX11, Cond.static yX11_isSpan], w ∈ ab_T := tb_k_ok [(5, 44), (1, 1), (5, 43)] _ (by decide +kernel)
theorem o_X11_isSpan : ab_OK M_X11_isSpan 1 := tb_ok OC_X11 (by decide +kernel) (by decide +kernel) (w_X11_isSpan _ (.head _)) (w_X11_isSpan _ (.tail _ (.head _)))
theorem s_X11_isSpan : Cond.static M_X11_isSpan.2.1 ∈ ab_T := w_X11_isSpan _ (.tail _ (.tail _ (.head _)))
def k_X11_joinAsNow : List (Nat × Instr × Nat) :=
  [(0, .aload_n 0, 1), (1, .getfield 39, 3), (4, .aload_n 0, 1), (5, .getfield 48, 3), (8, .aload_n 0, 1), (9, .getfield 78, 3), (12, .getfield 189, 3), (15, .invokevirtual 192, 3),
   (18, .invokevirtual 415, 3), (21, .return_, 1)]
def M_X11_joinAsNow : ab_MD := (K_X11, yX11_joinAsNow, cX11_joinAsNow, 1, none, false, k_X11_joinAsNow)
theorem w_X11_joinAsNow : ∀ w ∈ [Cond.code yX11_joinAsNow cX11_joinAsNow 1 none, Cond.initialized RX11, Cond.instanceMethod yX11_joinAsNow, Cond.selects RX11 yX11_joinAsNow yX11_joinAsNow], w ∈ ab_T := tb_k_ok [(5, 88), (1, 1), (5, 87), (0, 30)] _ (by decide +kernel)
theorem o_X11_joinAsNow : ab_OK M_X11_joinAsNow 0 := tb_ok OC_X11 (by decide +kernel) (by decide +kernel) (w_X11_joinAsNow _ (.head _)) (w_X11_joinAsNow _ (.tail _ (.head _)))
theorem v_X11_joinAsNow : ab_kV M_X11_joinAsNow 11 := ⟨w_X11_joinAsNow _ (.tail _ (.tail _ (.head _))), w_X11_joinAsNow _ (.tail _ (.tail _ (.tail _ (.head _)))), _, rfl, rfl⟩
def k_X11_joins : List (Nat × Instr × Nat) :=
  [(0, .iload_n 1, 1), (1, .invokestatic 186, 3), (4, .ifCond .eq 10, 3), (7, .iload_n 2, 1), (8, .invokestatic 186, 3), (11, .ifCond .ne 5, 3), (14, .iconst (-1), 1), (15, .ireturn, 1),
   (16, .aload_n 0, 1), (17, .getfield 48, 3), (20, .aload_n 0, 1), (21, .getfield 78, 3), (24, .getfield 189, 3), (27, .invokevirtual 192, 3), (30, .iload_n 1, 1), (31, .bipush 8, 2),
   (33, .imul, 1), (34, .iload_n 2, 1), (35, .iadd, 1), (36, .lushr, 1), (37, .lconst 1, 1), (38, .land, 1), (39, .l2i, 1), (40, .ireturn, 1)]
def M_X11_joins : ab_MD := (K_X11, yX11_joins, cX11_joins, 3, (some .int), false, k_X11_joins)
theorem w_X11_joins : ∀ w ∈ [Cond.code yX11_joins cX11_joins 3 (some .int), Cond.initialized RX11, Cond.instanceMethod yX11_joins, Cond.selects RX11 yX11_joins yX11_joins], w ∈ ab_T := tb_k_ok [(4, 116), (1, 1), (4, 114), (4, 115)] _ (by decide +kernel)
theorem o_X11_joins : ab_OK M_X11_joins 2 := tb_ok OC_X11 (by decide +kernel) (by decide +kernel) (w_X11_joins _ (.head _)) (w_X11_joins _ (.tail _ (.head _)))
theorem v_X11_joins : ab_kV M_X11_joins 11 := ⟨w_X11_joins _ (.tail _ (.tail _ (.head _))), w_X11_joins _ (.tail _ (.tail _ (.tail _ (.head _)))), _, rfl, rfl⟩
def k_X11_keep : List (Nat × Instr × Nat) :=
  [(0, .aload_n 0, 1), (1, .getfield 85, 3), (4, .aload_n 0, 1), (5, .getfield 78, 3), (8, .invokevirtual 230, 3), (11, .aload_n 0, 1), (12, .iconst 1, 1), (13, .putfield 129, 3),
   (16, .aload_n 0, 1), (17, .getfield 78, 3), (20, .getfield 189, 3), (23, .ireturn, 1)]
def M_X11_keep : ab_MD := (K_X11, yX11_keep, cX11_keep, 1, (some .int), false, k_X11_keep)
theorem w_X11_keep : ∀ w ∈ [Cond.code yX11_keep cX11_keep 1 (some .int), Cond.initialized RX11, Cond.instanceMethod yX11_keep, Cond.selects RX11 yX11_keep yX11_keep], w ∈ ab_T := tb_k_ok [(6, 119), (1, 1), (6, 117), (6, 118)] _ (by decide +kernel)
theorem o_X11_keep : ab_OK M_X11_keep 0 := tb_ok OC_X11 (by decide +kernel) (by decide +kernel) (w_X11_keep _ (.head _)) (w_X11_keep _ (.tail _ (.head _)))
theorem v_X11_keep : ab_kV M_X11_keep 11 := ⟨w_X11_keep _ (.tail _ (.tail _ (.head _))), w_X11_keep _ (.tail _ (.tail _ (.tail _ (.head _)))), _, rfl, rfl⟩
def k_X11_known : List (Nat × Instr × Nat) :=
  [(0, .iload_n 1, 1), (1, .iconst (-1), 1), (2, .if_icmp .lt 14, 3), (5, .iload_n 1, 1), (6, .aload_n 0, 1), (7, .getfield 71, 3), (10, .getfield 347, 3), (13, .if_icmp .le 5, 3),
   (16, .iconst 0, 1), (17, .ireturn, 1), (18, .aload_n 0, 1), (19, .getfield 71, 3), (22, .iload_n 1, 1), (23, .putfield 350, 3), (26, .iconst 1, 1), (27, .ireturn, 1)]
def M_X11_known : ab_MD := (K_X11, yX11_known, cX11_known, 2, (some .boolean), false, k_X11_known)
theorem w_X11_known : ∀ w ∈ [Cond.code yX11_known cX11_known 2 (some .boolean), Cond.initialized RX11, Cond.instanceMethod yX11_known, Cond.selects RX11 yX11_known yX11_known], w ∈ ab_T := tb_k_ok [(6, 42), (1, 1), (6, 40), (6, 41)] _ (by decide +kernel)
theorem o_X11_known : ab_OK M_X11_known 1 := tb_ok OC_X11 (by decide +kernel) (by decide +kernel) (w_X11_known _ (.head _)) (w_X11_known _ (.tail _ (.head _)))
theorem v_X11_known : ab_kV M_X11_known 11 := ⟨w_X11_known _ (.tail _ (.tail _ (.head _))), w_X11_known _ (.tail _ (.tail _ (.tail _ (.head _)))), _, rfl, rfl⟩
def k_X11_lacks : List (Nat × Instr × Nat) :=
  [(0, .aload_n 0, 1), (1, .iload_n 1, 1), (2, .invokevirtual 174, 3), (5, .ifCond .ne 5, 3), (8, .iconst (-1), 1), (9, .ireturn, 1), (10, .aload_n 0, 1), (11, .invokevirtual 264, 3),
   (14, .aload_n 0, 1), (15, .getfield 78, 3), (18, .getfield 180, 3), (21, .iload_n 1, 1), (22, .iaload, 1), (23, .istore_n 2, 1), (24, .iconst 0, 1), (25, .istore_n 3, 1),
   (26, .iconst 0, 1), (27, .istore 4, 2), (29, .iload 4, 2), (31, .aload_n 0, 1), (32, .getfield 21, 3), (35, .getfield 311, 3), (38, .if_icmp .ge 66, 3), (41, .iconst 1, 1),
   (42, .iload 4, 2), (44, .ishl, 1), (45, .istore 5, 2), (47, .iload_n 2, 1), (48, .aload_n 0, 1), (49, .getfield 78, 3), (52, .getfield 314, 3), (55, .ior, 1),
   (56, .iload 5, 2), (58, .iand, 1), (59, .ifCond .ne 39, 3), (62, .aload_n 0, 1), (63, .getfield 39, 3), (66, .iload_n 2, 1), (67, .iload 5, 2), (69, .ior, 1),
   (70, .invokevirtual 299, 3), (73, .ifCond .eq 25, 3), (76, .aload_n 0, 1), (77, .getfield 48, 3), (80, .aload_n 0, 1), (81, .getfield 78, 3), (84, .iload 4, 2), (86, .iload_n 1, 1),
   (87, .invokevirtual 209, 3), (90, .ifCond .eq 8, 3), (93, .iload_n 3, 1), (94, .iload 5, 2), (96, .ior, 1), (97, .istore_n 3, 1), (98, .iinc 4 1, 3), (101, .goto (-72), 3),
   (104, .iload_n 3, 1), (105, .ireturn, 1)]
def M_X11_lacks : ab_MD := (K_X11, yX11_lacks, cX11_lacks, 6, (some .int), false, k_X11_lacks)
theorem w_X11_lacks : ∀ w ∈ [Cond.code yX11_lacks cX11_lacks 6 (some .int), Cond.initialized RX11, Cond.instanceMethod yX11_lacks, Cond.selects RX11 yX11_lacks yX11_lacks], w ∈ ab_T := tb_k_ok [(5, 203), (1, 1), (5, 201), (5, 202)] _ (by decide +kernel)
theorem o_X11_lacks : ab_OK M_X11_lacks 1 := tb_ok OC_X11 (by decide +kernel) (by decide +kernel) (w_X11_lacks _ (.head _)) (w_X11_lacks _ (.tail _ (.head _)))
theorem v_X11_lacks : ab_kV M_X11_lacks 11 := ⟨w_X11_lacks _ (.tail _ (.tail _ (.head _))), w_X11_lacks _ (.tail _ (.tail _ (.tail _ (.head _)))), _, rfl, rfl⟩
def k_X11_law : List (Nat × Instr × Nat) :=
  [(0, .iload_n 1, 1), (1, .tableswitch 136 0 2 #[27, 64, 100], 27), (28, .iload_n 2, 1), (29, .invokestatic 186, 3), (32, .ifCond .eq 29, 3), (35, .iload_n 3, 1), (36, .invokestatic 186, 3), (39, .ifCond .eq 22, 3),
   (42, .aload_n 0, 1), (43, .getfield 48, 3), (46, .aload_n 0, 1), (47, .getfield 78, 3), (50, .getfield 189, 3), (53, .iload_n 2, 1), (54, .iload_n 3, 1), (55, .invokevirtual 196, 3),
   (58, .goto 6, 3), (61, .ldc2_w 200, 3), (64, .lreturn, 1), (65, .aload_n 0, 1), (66, .iload_n 2, 1), (67, .invokevirtual 145, 3), (70, .ifCond .eq 27, 3), (73, .aload_n 0, 1),
   (74, .iload_n 3, 1), (75, .invokevirtual 174, 3), (78, .ifCond .eq 19, 3), (81, .aload_n 0, 1), (82, .getfield 48, 3), (85, .aload_n 0, 1), (86, .getfield 78, 3), (89, .iload_n 2, 1),
   (90, .iload_n 3, 1), (91, .invokevirtual 202, 3), (94, .goto 6, 3), (97, .ldc2_w 200, 3), (100, .lreturn, 1), (101, .aload_n 0, 1), (102, .iload_n 2, 1), (103, .invokevirtual 145, 3),
   (106, .ifCond .eq 27, 3), (109, .aload_n 0, 1), (110, .iload_n 3, 1), (111, .invokevirtual 174, 3), (114, .ifCond .eq 19, 3), (117, .aload_n 0, 1), (118, .getfield 48, 3), (121, .aload_n 0, 1),
   (122, .getfield 78, 3), (125, .iload_n 2, 1), (126, .iload_n 3, 1), (127, .invokevirtual 206, 3), (130, .goto 6, 3), (133, .ldc2_w 200, 3), (136, .lreturn, 1), (137, .ldc2_w 200, 3),
   (140, .lreturn, 1)]
def M_X11_law : ab_MD := (K_X11, yX11_law, cX11_law, 4, (some .long), false, k_X11_law)
theorem w_X11_law : ∀ w ∈ [Cond.code yX11_law cX11_law 4 (some .long), Cond.initialized RX11, Cond.instanceMethod yX11_law, Cond.selects RX11 yX11_law yX11_law], w ∈ ab_T := tb_k_ok [(4, 151), (1, 1), (4, 149), (4, 150)] _ (by decide +kernel)
theorem o_X11_law : ab_OK M_X11_law 3 := tb_ok OC_X11 (by decide +kernel) (by decide +kernel) (w_X11_law _ (.head _)) (w_X11_law _ (.tail _ (.head _)))
theorem v_X11_law : ab_kV M_X11_law 11 := ⟨w_X11_law _ (.tail _ (.tail _ (.head _))), w_X11_law _ (.tail _ (.tail _ (.tail _ (.head _)))), _, rfl, rfl⟩
def k_X11_lay : List (Nat × Instr × Nat) :=
  [(0, .aload_n 0, 1), (1, .iload_n 1, 1), (2, .invokevirtual 174, 3), (5, .ifCond .ne 5, 3), (8, .iconst (-1), 1), (9, .ireturn, 1), (10, .aload_n 0, 1), (11, .getfield 57, 3),
   (14, .invokevirtual 227, 3), (17, .aload_n 0, 1), (18, .getfield 82, 3), (21, .aload_n 0, 1), (22, .getfield 78, 3), (25, .invokevirtual 230, 3), (28, .aload_n 0, 1), (29, .getfield 57, 3),
   (32, .aload_n 0, 1), (33, .getfield 82, 3), (36, .iload_n 1, 1), (37, .invokevirtual 233, 3), (40, .istore_n 2, 1), (41, .iload_n 2, 1), (42, .bipush (-2), 2), (44, .if_icmp .eq 18, 3),
   (47, .aload_n 0, 1), (48, .invokevirtual 213, 3), (51, .aload_n 0, 1), (52, .getfield 78, 3), (55, .aload_n 0, 1), (56, .getfield 82, 3), (59, .invokevirtual 230, 3), (62, .iload_n 2, 1),
   (63, .ireturn, 1)]
def M_X11_lay : ab_MD := (K_X11, yX11_lay, cX11_lay, 3, (some .int), false, k_X11_lay)
theorem w_X11_lay : ∀ w ∈ [Cond.code yX11_lay cX11_lay 3 (some .int), Cond.initialized RX11, Cond.instanceMethod yX11_lay, Cond.selects RX11 yX11_lay yX11_lay], w ∈ ab_T := tb_k_ok [(4, 229), (1, 1), (4, 227), (4, 228)] _ (by decide +kernel)
theorem o_X11_lay : ab_OK M_X11_lay 1 := tb_ok OC_X11 (by decide +kernel) (by decide +kernel) (w_X11_lay _ (.head _)) (w_X11_lay _ (.tail _ (.head _)))
theorem v_X11_lay : ab_kV M_X11_lay 11 := ⟨w_X11_lay _ (.tail _ (.tail _ (.head _))), w_X11_lay _ (.tail _ (.tail _ (.tail _ (.head _)))), _, rfl, rfl⟩
def k_X11_lays : List (Nat × Instr × Nat) :=
  [(0, .aload_n 0, 1), (1, .iload_n 1, 1), (2, .invokevirtual 174, 3), (5, .ifCond .ne 5, 3), (8, .iconst (-1), 1), (9, .ireturn, 1), (10, .aload_n 0, 1), (11, .getfield 57, 3),
   (14, .invokevirtual 227, 3), (17, .aload_n 0, 1), (18, .getfield 82, 3), (21, .aload_n 0, 1), (22, .getfield 78, 3), (25, .invokevirtual 230, 3), (28, .iconst 1, 1), (29, .istore_n 2, 1),
   (30, .iload_n 2, 1), (31, .bipush 99, 2), (33, .if_icmp .gt 44, 3), (36, .aload_n 0, 1), (37, .getfield 57, 3), (40, .aload_n 0, 1), (41, .getfield 82, 3), (44, .iconst 1, 1),
   (45, .invokevirtual 243, 3), (48, .aload_n 0, 1), (49, .getfield 82, 3), (52, .getfield 183, 3), (55, .iload_n 1, 1), (56, .iaload, 1), (57, .aload_n 0, 1), (58, .getfield 78, 3),
   (61, .getfield 183, 3), (64, .iload_n 1, 1), (65, .iaload, 1), (66, .if_icmp .le 5, 3), (69, .iload_n 2, 1), (70, .ireturn, 1), (71, .iinc 2 1, 3), (74, .goto (-44), 3),
   (77, .bipush (-2), 2), (79, .ireturn, 1)]
def M_X11_lays : ab_MD := (K_X11, yX11_lays, cX11_lays, 3, (some .int), false, k_X11_lays)
theorem w_X11_lays : ∀ w ∈ [Cond.code yX11_lays cX11_lays 3 (some .int), Cond.initialized RX11, Cond.instanceMethod yX11_lays, Cond.selects RX11 yX11_lays yX11_lays], w ∈ ab_T := tb_k_ok [(5, 79), (1, 1), (5, 77), (5, 78)] _ (by decide +kernel)
theorem o_X11_lays : ab_OK M_X11_lays 1 := tb_ok OC_X11 (by decide +kernel) (by decide +kernel) (w_X11_lays _ (.head _)) (w_X11_lays _ (.tail _ (.head _)))
theorem v_X11_lays : ab_kV M_X11_lays 11 := ⟨w_X11_lays _ (.tail _ (.tail _ (.head _))), w_X11_lays _ (.tail _ (.tail _ (.tail _ (.head _)))), _, rfl, rfl⟩
def k_X11_likely : List (Nat × Instr × Nat) :=
  [(0, .aload_n 0, 1), (1, .iload_n 1, 1), (2, .invokevirtual 174, 3), (5, .ifCond .eq 22, 3), (8, .iload_n 2, 1), (9, .ifCond .lt 18, 3), (12, .iload_n 2, 1), (13, .bipush 9, 2),
   (15, .if_icmp .gt 12, 3), (18, .iload_n 3, 1), (19, .ifCond .lt 8, 3), (22, .iload_n 3, 1), (23, .iconst 1, 1), (24, .if_icmp .le 5, 3), (27, .iconst (-1), 1), (28, .ireturn, 1),
   (29, .iload_n 2, 1), (30, .aload_n 0, 1), (31, .getfield 78, 3), (34, .getfield 259, 3), (37, .invokestatic 247, 3), (40, .if_icmp .le 6, 3), (43, .bipush (-2), 2), (45, .ireturn, 1),
   (46, .aload_n 0, 1), (47, .invokevirtual 264, 3), (50, .aload_n 0, 1), (51, .getfield 39, 3), (54, .aload_n 0, 1), (55, .getfield 78, 3), (58, .getfield 180, 3), (61, .iload_n 1, 1),
   (62, .iaload, 1), (63, .aload_n 0, 1), (64, .getfield 78, 3), (67, .getfield 259, 3), (70, .iload_n 2, 1), (71, .invokevirtual 330, 3), (74, .istore 4, 2), (76, .aload_n 0, 1),
   (77, .getfield 78, 3), (80, .getfield 259, 3), (83, .invokestatic 247, 3), (86, .iload_n 2, 1), (87, .invokestatic 334, 3), (90, .istore 5, 2), (92, .iload 4, 2), (94, .iload 5, 2),
   (96, .invokestatic 337, 3), (99, .istore 6, 2), (101, .iload 6, 2), (103, .iconst 1, 1), (104, .if_icmp .ge 6, 3), (107, .bipush (-2), 2), (109, .ireturn, 1), (110, .iload_n 3, 1),
   (111, .ifCond .ne 11, 3), (114, .iload 4, 2), (116, .iload 6, 2), (118, .idiv, 1), (119, .goto 8, 3), (122, .iload 5, 2), (124, .iload 6, 2), (126, .idiv, 1),
   (127, .ireturn, 1)]
def M_X11_likely : ab_MD := (K_X11, yX11_likely, cX11_likely, 7, (some .int), false, k_X11_likely)
theorem w_X11_likely : ∀ w ∈ [Cond.code yX11_likely cX11_likely 7 (some .int), Cond.initialized RX11, Cond.instanceMethod yX11_likely, Cond.selects RX11 yX11_likely yX11_likely], w ∈ ab_T := tb_k_ok [(6, 8), (1, 1), (6, 6), (6, 7)] _ (by decide +kernel)
theorem o_X11_likely : ab_OK M_X11_likely 3 := tb_ok OC_X11 (by decide +kernel) (by decide +kernel) (w_X11_likely _ (.head _)) (w_X11_likely _ (.tail _ (.head _)))
theorem v_X11_likely : ab_kV M_X11_likely 11 := ⟨w_X11_likely _ (.tail _ (.tail _ (.head _))), w_X11_likely _ (.tail _ (.tail _ (.tail _ (.head _)))), _, rfl, rfl⟩
def k_X11_missing : List (Nat × Instr × Nat) :=
  [(0, .iload_n 1, 1), (1, .ifCond .lt 8, 3), (4, .iload_n 1, 1), (5, .iconst 1, 1), (6, .if_icmp .le 5, 3), (9, .iconst (-1), 1), (10, .ireturn, 1), (11, .aload_n 0, 1),
   (12, .getfield 71, 3), (15, .aload_n 0, 1), (16, .getfield 21, 3), (19, .aload_n 0, 1), (20, .getfield 48, 3), (23, .aload_n 0, 1), (24, .getfield 78, 3), (27, .getfield 189, 3),
   (30, .invokevirtual 192, 3), (33, .invokevirtual 353, 3), (36, .lstore_n 2, 1), (37, .iload_n 1, 1), (38, .ifCond .ne 8, 3), (41, .lload_n 2, 1), (42, .invokestatic 357, 3), (45, .ireturn, 1),
   (46, .lload_n 2, 1), (47, .invokestatic 360, 3), (50, .istore 4, 2), (52, .lload_n 2, 1), (53, .lconst 0, 1), (54, .lcmp, 1), (55, .ifCond .ne 8, 3), (58, .bipush (-2), 2),
   (60, .goto 17, 3), (63, .iload 4, 2), (65, .bipush 8, 2), (67, .idiv, 1), (68, .bipush 10, 2), (70, .imul, 1), (71, .iload 4, 2), (73, .bipush 8, 2),
   (75, .irem, 1), (76, .iadd, 1), (77, .ireturn, 1)]
def M_X11_missing : ab_MD := (K_X11, yX11_missing, cX11_missing, 5, (some .int), false, k_X11_missing)
theorem w_X11_missing : ∀ w ∈ [Cond.code yX11_missing cX11_missing 5 (some .int), Cond.initialized RX11, Cond.instanceMethod yX11_missing, Cond.selects RX11 yX11_missing yX11_missing], w ∈ ab_T := tb_k_ok [(6, 46), (1, 1), (6, 44), (6, 45)] _ (by decide +kernel)
theorem o_X11_missing : ab_OK M_X11_missing 1 := tb_ok OC_X11 (by decide +kernel) (by decide +kernel) (w_X11_missing _ (.head _)) (w_X11_missing _ (.tail _ (.head _)))
theorem v_X11_missing : ab_kV M_X11_missing 11 := ⟨w_X11_missing _ (.tail _ (.tail _ (.head _))), w_X11_missing _ (.tail _ (.tail _ (.tail _ (.head _)))), _, rfl, rfl⟩
def k_X11_named : List (Nat × Instr × Nat) :=
  [(0, .iload_n 1, 1), (1, .lookupswitch 45 #[(0, 27), (1, 36)], 27), (28, .aload_n 0, 1), (29, .getfield 21, 3), (32, .iload_n 2, 1), (33, .invokevirtual 139, 3), (36, .ireturn, 1), (37, .aload_n 0, 1),
   (38, .getfield 21, 3), (41, .iload_n 2, 1), (42, .invokevirtual 142, 3), (45, .ireturn, 1), (46, .iconst (-1), 1), (47, .ireturn, 1)]
def M_X11_named : ab_MD := (K_X11, yX11_named, cX11_named, 3, (some .int), false, k_X11_named)
theorem w_X11_named : ∀ w ∈ [Cond.code yX11_named cX11_named 3 (some .int), Cond.initialized RX11, Cond.instanceMethod yX11_named, Cond.selects RX11 yX11_named yX11_named], w ∈ ab_T := tb_k_ok [(4, 102), (1, 1), (4, 100), (4, 101)] _ (by decide +kernel)
theorem o_X11_named : ab_OK M_X11_named 2 := tb_ok OC_X11 (by decide +kernel) (by decide +kernel) (w_X11_named _ (.head _)) (w_X11_named _ (.tail _ (.head _)))
theorem v_X11_named : ab_kV M_X11_named 11 := ⟨w_X11_named _ (.tail _ (.tail _ (.head _))), w_X11_named _ (.tail _ (.tail _ (.tail _ (.head _)))), _, rfl, rfl⟩
def k_X11_needs : List (Nat × Instr × Nat) :=
  [(0, .aload_n 0, 1), (1, .getfield 71, 3), (4, .invokevirtual 371, 3), (7, .istore_n 1, 1), (8, .aload_n 0, 1), (9, .getfield 71, 3), (12, .iload_n 1, 1), (13, .invokevirtual 374, 3),
   (16, .istore_n 2, 1), (17, .iconst 0, 1), (18, .istore_n 3, 1), (19, .aload_n 0, 1), (20, .getfield 57, 3), (23, .invokevirtual 227, 3), (26, .iconst 1, 1), (27, .istore 4, 2),
   (29, .iload 4, 2), (31, .bipush 9, 2), (33, .if_icmp .gt 94, 3), (36, .aload_n 0, 1), (37, .getfield 57, 3), (40, .iload 4, 2), (42, .putfield 377, 3), (45, .aload_n 0, 1),
   (46, .getfield 82, 3), (49, .aload_n 0, 1), (50, .getfield 21, 3), (53, .invokevirtual 126, 3), (56, .iconst 1, 1), (57, .istore 5, 2), (59, .iconst 1, 1), (60, .istore 6, 2),
   (62, .iload 6, 2), (64, .iload_n 2, 1), (65, .if_icmp .gt 42, 3), (68, .iload 5, 2), (70, .ifCond .eq 37, 3), (73, .aload_n 0, 1), (74, .getfield 57, 3), (77, .aload_n 0, 1),
   (78, .getfield 82, 3), (81, .iconst 1, 1), (82, .invokevirtual 243, 3), (85, .aload_n 0, 1), (86, .getfield 71, 3), (89, .iload_n 1, 1), (90, .iload 6, 2), (92, .aload_n 0, 1),
   (93, .getfield 82, 3), (96, .invokevirtual 380, 3), (99, .istore 5, 2), (101, .iinc 6 1, 3), (104, .goto (-42), 3), (107, .iload 5, 2), (109, .ifCond .eq 12, 3), (112, .iload_n 3, 1),
   (113, .iconst 1, 1), (114, .iload 4, 2), (116, .iconst 1, 1), (117, .isub, 1), (118, .ishl, 1), (119, .ior, 1), (120, .istore_n 3, 1), (121, .iinc 4 1, 3),
   (124, .goto (-95), 3), (127, .aload_n 0, 1), (128, .getfield 57, 3), (131, .invokevirtual 227, 3), (134, .iload_n 3, 1), (135, .ireturn, 1)]
def M_X11_needs : ab_MD := (K_X11, yX11_needs, cX11_needs, 7, (some .int), false, k_X11_needs)
theorem w_X11_needs : ∀ w ∈ [Cond.code yX11_needs cX11_needs 7 (some .int), Cond.initialized RX11, Cond.instanceMethod yX11_needs, Cond.selects RX11 yX11_needs yX11_needs], w ∈ ab_T := tb_k_ok [(6, 90), (1, 1), (6, 88), (6, 89)] _ (by decide +kernel)
theorem o_X11_needs : ab_OK M_X11_needs 0 := tb_ok OC_X11 (by decide +kernel) (by decide +kernel) (w_X11_needs _ (.head _)) (w_X11_needs _ (.tail _ (.head _)))
theorem v_X11_needs : ab_kV M_X11_needs 11 := ⟨w_X11_needs _ (.tail _ (.tail _ (.head _))), w_X11_needs _ (.tail _ (.tail _ (.tail _ (.head _)))), _, rfl, rfl⟩
def k_X11_note : List (Nat × Instr × Nat) :=
  [(0, .iload_n 1, 1), (1, .ifCond .eq 8, 3), (4, .iload_n 1, 1), (5, .iconst 1, 1), (6, .if_icmp .ne 22, 3), (9, .iload_n 2, 1), (10, .invokestatic 186, 3), (13, .ifCond .eq 15, 3),
   (16, .iload_n 1, 1), (17, .iconst 1, 1), (18, .if_icmp .ne 12, 3), (21, .iload_n 3, 1), (22, .invokestatic 186, 3), (25, .ifCond .ne 5, 3), (28, .iconst (-1), 1), (29, .ireturn, 1),
   (30, .aload_n 0, 1), (31, .getfield 71, 3), (34, .iload_n 1, 1), (35, .iload_n 2, 1), (36, .iload_n 3, 1), (37, .iconst 0, 1), (38, .iload 4, 2), (40, .invokevirtual 340, 3),
   (43, .ireturn, 1)]
def M_X11_note : ab_MD := (K_X11, yX11_note, cX11_note, 5, (some .int), false, k_X11_note)
theorem w_X11_note : ∀ w ∈ [Cond.code yX11_note cX11_note 5 (some .int), Cond.initialized RX11, Cond.instanceMethod yX11_note, Cond.selects RX11 yX11_note yX11_note], w ∈ ab_T := tb_k_ok [(6, 22), (1, 1), (6, 20), (6, 21)] _ (by decide +kernel)
theorem o_X11_note : ab_OK M_X11_note 4 := tb_ok OC_X11 (by decide +kernel) (by decide +kernel) (w_X11_note _ (.head _)) (w_X11_note _ (.tail _ (.head _)))
theorem v_X11_note : ab_kV M_X11_note 11 := ⟨w_X11_note _ (.tail _ (.tail _ (.head _))), w_X11_note _ (.tail _ (.tail _ (.tail _ (.head _)))), _, rfl, rfl⟩
def k_X11_pairsWith : List (Nat × Instr × Nat) :=
  [(0, .lconst 0, 1), (1, .lstore_n 1, 1), (2, .iconst 0, 1), (3, .istore_n 3, 1), (4, .iload_n 3, 1), (5, .bipush 7, 2), (7, .if_icmp .ge 28, 3), (10, .lload_n 1, 1),
   (11, .lconst 1, 1), (12, .iload_n 0, 1), (13, .iload_n 3, 1), (14, .invokestatic 419, 3), (17, .bipush 8, 2), (19, .imul, 1), (20, .iload_n 0, 1), (21, .iload_n 3, 1),
   (22, .invokestatic 366, 3), (25, .iadd, 1), (26, .lshl, 1), (27, .lor, 1), (28, .lstore_n 1, 1), (29, .iinc 3 1, 3), (32, .goto (-28), 3), (35, .lload_n 1, 1),
   (36, .lreturn, 1)]
def M_X11_pairsWith : ab_MD := (K_X11, yX11_pairsWith, cX11_pairsWith, 4, (some .long), false, k_X11_pairsWith)
theorem w_X11_pairsWith : ∀ w ∈ [Cond.code yX11_pairsWith cX11_pairsWith 4 (some .long), Cond.initialized RX11, Cond.static yX11_pairsWith], w ∈ ab_T := tb_k_ok [(6, 85), (1, 1), (6, 84)] _ (by decide +kernel)
theorem o_X11_pairsWith : ab_OK M_X11_pairsWith 1 := tb_ok OC_X11 (by decide +kernel) (by decide +kernel) (w_X11_pairsWith _ (.head _)) (w_X11_pairsWith _ (.tail _ (.head _)))
theorem s_X11_pairsWith : Cond.static M_X11_pairsWith.2.1 ∈ ab_T := w_X11_pairsWith _ (.tail _ (.tail _ (.head _)))
def k_X11_piece : List (Nat × Instr × Nat) :=
  [(0, .aload_n 0, 1), (1, .iload_n 1, 1), (2, .invokevirtual 145, 3), (5, .ifCond .ne 13, 3), (8, .new 149, 3), (11, .dup, 1), (12, .ldc 151, 2), (14, .invokespecial 153, 3),
   (17, .athrow, 1), (18, .iload_n 2, 1), (19, .tableswitch 68 0 3 #[29, 39, 49, 59], 29), (48, .aload_n 0, 1), (49, .getfield 21, 3), (52, .getfield 156, 3), (55, .iload_n 1, 1), (56, .iaload, 1),
   (57, .ireturn, 1), (58, .aload_n 0, 1), (59, .getfield 21, 3), (62, .getfield 160, 3), (65, .iload_n 1, 1), (66, .iaload, 1), (67, .ireturn, 1), (68, .aload_n 0, 1),
   (69, .getfield 21, 3), (72, .getfield 163, 3), (75, .iload_n 1, 1), (76, .iaload, 1), (77, .ireturn, 1), (78, .aload_n 0, 1), (79, .getfield 78, 3), (82, .iload_n 1, 1),
   (83, .invokevirtual 166, 3), (86, .ireturn, 1), (87, .new 169, 3), (90, .dup, 1), (91, .ldc 171, 2), (93, .invokespecial 173, 3), (96, .athrow, 1)]
def M_X11_piece : ab_MD := (K_X11, yX11_piece, cX11_piece, 3, (some .int), false, k_X11_piece)
theorem w_X11_piece : ∀ w ∈ [Cond.code yX11_piece cX11_piece 3 (some .int), Cond.initialized RX11, Cond.instanceMethod yX11_piece, Cond.selects RX11 yX11_piece yX11_piece], w ∈ ab_T := tb_k_ok [(6, 138), (1, 1), (6, 136), (6, 137)] _ (by decide +kernel)
theorem o_X11_piece : ab_OK M_X11_piece 2 := tb_ok OC_X11 (by decide +kernel) (by decide +kernel) (w_X11_piece _ (.head _)) (w_X11_piece _ (.tail _ (.head _)))
theorem v_X11_piece : ab_kV M_X11_piece 11 := ⟨w_X11_piece _ (.tail _ (.tail _ (.head _))), w_X11_piece _ (.tail _ (.tail _ (.tail _ (.head _)))), _, rfl, rfl⟩
def k_X11_remember : List (Nat × Instr × Nat) :=
  [(0, .aload_n 0, 1), (1, .getfield 88, 3), (4, .aload_n 0, 1), (5, .getfield 402, 3), (8, .aaload, 1), (9, .aload_n 0, 1), (10, .getfield 78, 3), (13, .invokevirtual 230, 3),
   (16, .aload_n 0, 1), (17, .aload_n 0, 1), (18, .getfield 402, 3), (21, .iconst 1, 1), (22, .iadd, 1), (23, .bipush 20, 2), (25, .irem, 1), (26, .putfield 402, 3),
   (29, .aload_n 0, 1), (30, .aload_n 0, 1), (31, .getfield 133, 3), (34, .iconst 1, 1), (35, .iadd, 1), (36, .bipush 20, 2), (38, .invokestatic 419, 3), (41, .putfield 133, 3),
   (44, .return_, 1)]
def M_X11_remember : ab_MD := (K_X11, yX11_remember, cX11_remember, 1, none, false, k_X11_remember)
theorem w_X11_remember : ∀ w ∈ [Cond.code yX11_remember cX11_remember 1 none, Cond.initialized RX11, Cond.instanceMethod yX11_remember, Cond.selects RX11 yX11_remember yX11_remember], w ∈ ab_T := tb_k_ok [(4, 200), (1, 1), (4, 199), (0, 27)] _ (by decide +kernel)
theorem o_X11_remember : ab_OK M_X11_remember 0 := tb_ok OC_X11 (by decide +kernel) (by decide +kernel) (w_X11_remember _ (.head _)) (w_X11_remember _ (.tail _ (.head _)))
theorem v_X11_remember : ab_kV M_X11_remember 11 := ⟨w_X11_remember _ (.tail _ (.tail _ (.head _))), w_X11_remember _ (.tail _ (.tail _ (.tail _ (.head _)))), _, rfl, rfl⟩
def k_X11_rows : List (Nat × Instr × Nat) :=
  [(0, .aload_n 0, 1), (1, .iload_n 1, 1), (2, .invokevirtual 174, 3), (5, .ifCond .ne 7, 3), (8, .ldc2_w 262, 3), (11, .lreturn, 1), (12, .aload_n 0, 1), (13, .invokevirtual 264, 3),
   (16, .aload_n 0, 1), (17, .getfield 39, 3), (20, .aload_n 0, 1), (21, .getfield 78, 3), (24, .getfield 180, 3), (27, .iload_n 1, 1), (28, .iaload, 1), (29, .invokevirtual 267, 3),
   (32, .lreturn, 1)]
def M_X11_rows : ab_MD := (K_X11, yX11_rows, cX11_rows, 2, (some .long), false, k_X11_rows)
theorem w_X11_rows : ∀ w ∈ [Cond.code yX11_rows cX11_rows 2 (some .long), Cond.initialized RX11, Cond.instanceMethod yX11_rows, Cond.selects RX11 yX11_rows yX11_rows], w ∈ ab_T := tb_k_ok [(5, 83), (1, 1), (5, 81), (5, 82)] _ (by decide +kernel)
theorem o_X11_rows : ab_OK M_X11_rows 1 := tb_ok OC_X11 (by decide +kernel) (by decide +kernel) (w_X11_rows _ (.head _)) (w_X11_rows _ (.tail _ (.head _)))
theorem v_X11_rows : ab_kV M_X11_rows 11 := ⟨w_X11_rows _ (.tail _ (.tail _ (.head _))), w_X11_rows _ (.tail _ (.tail _ (.tail _ (.head _)))), _, rfl, rfl⟩
def k_X11_see : List (Nat × Instr × Nat) :=
  [(0, .iload_n 1, 1), (1, .iconst 1, 1), (2, .if_icmp .lt 24, 3), (5, .iload_n 1, 1), (6, .bipush 60, 2), (8, .if_icmp .gt 18, 3), (11, .aload_n 0, 1), (12, .iload_n 2, 1),
   (13, .invokevirtual 174, 3), (16, .ifCond .eq 10, 3), (19, .iload_n 3, 1), (20, .invokestatic 344, 3), (23, .ifCond .ne 5, 3), (26, .iconst (-1), 1), (27, .ireturn, 1), (28, .aload_n 0, 1),
   (29, .getfield 71, 3), (32, .iconst 2, 1), (33, .iload_n 1, 1), (34, .iload_n 2, 1), (35, .iload_n 3, 1), (36, .iload 4, 2), (38, .invokevirtual 340, 3), (41, .ireturn, 1)]
def M_X11_see : ab_MD := (K_X11, yX11_see, cX11_see, 5, (some .int), false, k_X11_see)
theorem w_X11_see : ∀ w ∈ [Cond.code yX11_see cX11_see 5 (some .int), Cond.initialized RX11, Cond.instanceMethod yX11_see, Cond.selects RX11 yX11_see yX11_see], w ∈ ab_T := tb_k_ok [(6, 30), (1, 1), (6, 28), (6, 29)] _ (by decide +kernel)
theorem o_X11_see : ab_OK M_X11_see 4 := tb_ok OC_X11 (by decide +kernel) (by decide +kernel) (w_X11_see _ (.head _)) (w_X11_see _ (.tail _ (.head _)))
theorem v_X11_see : ab_kV M_X11_see 11 := ⟨w_X11_see _ (.tail _ (.tail _ (.head _))), w_X11_see _ (.tail _ (.tail _ (.tail _ (.head _)))), _, rfl, rfl⟩
def k_X11_setsOf : List (Nat × Instr × Nat) :=
  [(0, .iconst 1, 1), (1, .istore_n 2, 1), (2, .iconst 1, 1), (3, .istore_n 3, 1), (4, .iload_n 3, 1), (5, .iload_n 1, 1), (6, .if_icmp .gt 19, 3), (9, .iload_n 2, 1),
   (10, .iload_n 0, 1), (11, .iload_n 3, 1), (12, .isub, 1), (13, .iconst 1, 1), (14, .iadd, 1), (15, .imul, 1), (16, .iload_n 3, 1), (17, .idiv, 1),
   (18, .istore_n 2, 1), (19, .iinc 3 1, 3), (22, .goto (-18), 3), (25, .iload_n 2, 1), (26, .ireturn, 1)]
def M_X11_setsOf : ab_MD := (K_X11, yX11_setsOf, cX11_setsOf, 4, (some .int), false, k_X11_setsOf)
theorem w_X11_setsOf : ∀ w ∈ [Cond.code yX11_setsOf cX11_setsOf 4 (some .int), Cond.initialized RX11, Cond.static yX11_setsOf], w ∈ ab_T := tb_k_ok [(6, 15), (1, 1), (6, 14)] _ (by decide +kernel)
theorem o_X11_setsOf : ab_OK M_X11_setsOf 2 := tb_ok OC_X11 (by decide +kernel) (by decide +kernel) (w_X11_setsOf _ (.head _)) (w_X11_setsOf _ (.tail _ (.head _)))
theorem s_X11_setsOf : Cond.static M_X11_setsOf.2.1 ∈ ab_T := w_X11_setsOf _ (.tail _ (.tail _ (.head _)))
def k_X11_shape : List (Nat × Instr × Nat) :=
  [(0, .aload_n 0, 1), (1, .iload_n 1, 1), (2, .invokevirtual 174, 3), (5, .ifCond .ne 5, 3), (8, .iconst (-1), 1), (9, .ireturn, 1), (10, .iload_n 2, 1), (11, .lookupswitch 59 #[(0, 25), (1, 42)], 25),
   (36, .aload_n 0, 1), (37, .getfield 21, 3), (40, .aload_n 0, 1), (41, .getfield 78, 3), (44, .getfield 180, 3), (47, .iload_n 1, 1), (48, .iaload, 1), (49, .invokevirtual 293, 3),
   (52, .ireturn, 1), (53, .aload_n 0, 1), (54, .getfield 21, 3), (57, .aload_n 0, 1), (58, .getfield 78, 3), (61, .getfield 180, 3), (64, .iload_n 1, 1), (65, .iaload, 1),
   (66, .invokevirtual 296, 3), (69, .ireturn, 1), (70, .iconst (-1), 1), (71, .ireturn, 1)]
def M_X11_shape : ab_MD := (K_X11, yX11_shape, cX11_shape, 3, (some .int), false, k_X11_shape)
theorem w_X11_shape : ∀ w ∈ [Cond.code yX11_shape cX11_shape 3 (some .int), Cond.initialized RX11, Cond.instanceMethod yX11_shape, Cond.selects RX11 yX11_shape yX11_shape], w ∈ ab_T := tb_k_ok [(5, 162), (1, 1), (5, 160), (5, 161)] _ (by decide +kernel)
theorem o_X11_shape : ab_OK M_X11_shape 2 := tb_ok OC_X11 (by decide +kernel) (by decide +kernel) (w_X11_shape _ (.head _)) (w_X11_shape _ (.tail _ (.head _)))
theorem v_X11_shape : ab_kV M_X11_shape 11 := ⟨w_X11_shape _ (.tail _ (.tail _ (.head _))), w_X11_shape _ (.tail _ (.tail _ (.tail _ (.head _)))), _, rfl, rfl⟩
def k_X11_strike : List (Nat × Instr × Nat) :=
  [(0, .iload_n 1, 1), (1, .ifCond .lt 14, 3), (4, .iload_n 1, 1), (5, .aload_n 0, 1), (6, .getfield 71, 3), (9, .getfield 347, 3), (12, .if_icmp .lt 5, 3), (15, .iconst (-1), 1),
   (16, .ireturn, 1), (17, .aload_n 0, 1), (18, .getfield 71, 3), (21, .iconst 3, 1), (22, .iload_n 1, 1), (23, .iconst 0, 1), (24, .iconst 0, 1), (25, .iconst 1, 1),
   (26, .invokevirtual 340, 3), (29, .ireturn, 1)]
def M_X11_strike : ab_MD := (K_X11, yX11_strike, cX11_strike, 2, (some .int), false, k_X11_strike)
theorem w_X11_strike : ∀ w ∈ [Cond.code yX11_strike cX11_strike 2 (some .int), Cond.initialized RX11, Cond.instanceMethod yX11_strike, Cond.selects RX11 yX11_strike yX11_strike], w ∈ ab_T := tb_k_ok [(6, 38), (1, 1), (6, 36), (6, 37)] _ (by decide +kernel)
theorem o_X11_strike : ab_OK M_X11_strike 1 := tb_ok OC_X11 (by decide +kernel) (by decide +kernel) (w_X11_strike _ (.head _)) (w_X11_strike _ (.tail _ (.head _)))
theorem v_X11_strike : ab_kV M_X11_strike 11 := ⟨w_X11_strike _ (.tail _ (.tail _ (.head _))), w_X11_strike _ (.tail _ (.tail _ (.tail _ (.head _)))), _, rfl, rfl⟩
def k_X11_swaps : List (Nat × Instr × Nat) :=
  [(0, .aload_n 0, 1), (1, .iload_n 1, 1), (2, .invokevirtual 174, 3), (5, .ifCond .ne 5, 3), (8, .iconst (-1), 1), (9, .ireturn, 1), (10, .aload_n 0, 1), (11, .getfield 78, 3),
   (14, .getfield 180, 3), (17, .iload_n 1, 1), (18, .iaload, 1), (19, .istore_n 2, 1), (20, .iload_n 2, 1), (21, .ifCond .ne 6, 3), (24, .bipush (-2), 2), (26, .ireturn, 1),
   (27, .aload_n 0, 1), (28, .invokevirtual 264, 3), (31, .aload_n 0, 1), (32, .getfield 39, 3), (35, .iload_n 2, 1), (36, .invokevirtual 299, 3), (39, .ifCond .eq 5, 3), (42, .iconst 0, 1),
   (43, .ireturn, 1), (44, .aload_n 0, 1), (45, .getfield 48, 3), (48, .aload_n 0, 1), (49, .getfield 78, 3), (52, .iload_n 1, 1), (53, .invokevirtual 302, 3), (56, .aload_n 0, 1),
   (57, .getfield 48, 3), (60, .iload_n 2, 1), (61, .invokevirtual 305, 3), (64, .ifCond .eq 5, 3), (67, .iconst 1, 1), (68, .ireturn, 1), (69, .aload_n 0, 1), (70, .getfield 48, 3),
   (73, .iload_n 2, 1), (74, .invokevirtual 308, 3), (77, .ifCond .eq 7, 3), (80, .iconst 2, 1), (81, .goto 5, 3), (84, .bipush (-2), 2), (86, .ireturn, 1)]
def M_X11_swaps : ab_MD := (K_X11, yX11_swaps, cX11_swaps, 3, (some .int), false, k_X11_swaps)
theorem w_X11_swaps : ∀ w ∈ [Cond.code yX11_swaps cX11_swaps 3 (some .int), Cond.initialized RX11, Cond.instanceMethod yX11_swaps, Cond.selects RX11 yX11_swaps yX11_swaps], w ∈ ab_T := tb_k_ok [(5, 179), (1, 1), (5, 177), (5, 178)] _ (by decide +kernel)
theorem o_X11_swaps : ab_OK M_X11_swaps 1 := tb_ok OC_X11 (by decide +kernel) (by decide +kernel) (w_X11_swaps _ (.head _)) (w_X11_swaps _ (.tail _ (.head _)))
theorem v_X11_swaps : ab_kV M_X11_swaps 11 := ⟨w_X11_swaps _ (.tail _ (.tail _ (.head _))), w_X11_swaps _ (.tail _ (.tail _ (.tail _ (.head _)))), _, rfl, rfl⟩
def k_X11_text : List (Nat × Instr × Nat) :=
  [(0, .iload_n 1, 1), (1, .ifCond .lt 14, 3), (4, .iload_n 1, 1), (5, .aload_n 0, 1), (6, .getfield 14, 3), (9, .getfield 96, 3), (12, .if_icmp .le 6, 3), (15, .bipush (-2), 2),
   (17, .ireturn, 1), (18, .aload_n 0, 1), (19, .aload_n 0, 1), (20, .getfield 30, 3), (23, .iload_n 1, 1), (24, .invokevirtual 103, 3), (27, .putfield 107, 3), (30, .aload_n 0, 1),
   (31, .aload_n 0, 1), (32, .getfield 107, 3), (35, .ifCond .ne 7, 3), (38, .iconst (-1), 1), (39, .goto 10, 3), (42, .aload_n 0, 1), (43, .getfield 14, 3), (46, .getfield 110, 3),
   (49, .putfield 92, 3), (52, .aload_n 0, 1), (53, .getfield 14, 3), (56, .iconst 0, 1), (57, .putfield 96, 3), (60, .aload_n 0, 1), (61, .getfield 107, 3), (64, .ifCond .eq 5, 3),
   (67, .iconst (-1), 1), (68, .ireturn, 1), (69, .aload_n 0, 1), (70, .getfield 21, 3), (73, .aload_n 0, 1), (74, .getfield 30, 3), (77, .getfield 113, 3), (80, .invokevirtual 116, 3),
   (83, .aload_n 0, 1), (84, .getfield 39, 3), (87, .invokevirtual 119, 3), (90, .aload_n 0, 1), (91, .getfield 48, 3), (94, .invokevirtual 122, 3), (97, .aload_n 0, 1), (98, .getfield 71, 3),
   (101, .invokevirtual 123, 3), (104, .aload_n 0, 1), (105, .getfield 78, 3), (108, .aload_n 0, 1), (109, .getfield 21, 3), (112, .invokevirtual 126, 3), (115, .aload_n 0, 1), (116, .iconst 0, 1),
   (117, .putfield 129, 3), (120, .aload_n 0, 1), (121, .iconst 0, 1), (122, .putfield 133, 3), (125, .aload_n 0, 1), (126, .getfield 30, 3), (129, .getfield 136, 3), (132, .ireturn, 1)]
def M_X11_text : ab_MD := (K_X11, yX11_text, cX11_text, 2, (some .int), false, k_X11_text)
theorem w_X11_text : ∀ w ∈ [Cond.code yX11_text cX11_text 2 (some .int), Cond.initialized RX11, Cond.instanceMethod yX11_text, Cond.selects RX11 yX11_text yX11_text], w ∈ ab_T := tb_k_ok [(3, 122), (1, 1), (3, 120), (3, 121)] _ (by decide +kernel)
theorem o_X11_text : ab_OK M_X11_text 1 := tb_ok OC_X11 (by decide +kernel) (by decide +kernel) (w_X11_text _ (.head _)) (w_X11_text _ (.tail _ (.head _)))
theorem v_X11_text : ab_kV M_X11_text 11 := ⟨w_X11_text _ (.tail _ (.tail _ (.head _))), w_X11_text _ (.tail _ (.tail _ (.tail _ (.head _)))), _, rfl, rfl⟩
def k_X11_tooMany : List (Nat × Instr × Nat) :=
  [(0, .aload_n 0, 1), (1, .iload_n 1, 1), (2, .invokevirtual 174, 3), (5, .ifCond .ne 5, 3), (8, .iconst (-1), 1), (9, .ireturn, 1), (10, .aload_n 0, 1), (11, .invokevirtual 264, 3),
   (14, .aload_n 0, 1), (15, .getfield 78, 3), (18, .getfield 180, 3), (21, .iload_n 1, 1), (22, .iaload, 1), (23, .istore_n 2, 1), (24, .iconst 0, 1), (25, .istore_n 3, 1),
   (26, .iconst 0, 1), (27, .istore 4, 2), (29, .iload 4, 2), (31, .aload_n 0, 1), (32, .getfield 21, 3), (35, .getfield 311, 3), (38, .if_icmp .ge 43, 3), (41, .iconst 1, 1),
   (42, .iload 4, 2), (44, .ishl, 1), (45, .istore 5, 2), (47, .iload_n 2, 1), (48, .iload 5, 2), (50, .iand, 1), (51, .ifCond .eq 24, 3), (54, .aload_n 0, 1),
   (55, .getfield 39, 3), (58, .iload_n 2, 1), (59, .iload 5, 2), (61, .iconst (-1), 1), (62, .ixor, 1), (63, .iand, 1), (64, .invokevirtual 299, 3), (67, .ifCond .eq 8, 3),
   (70, .iload_n 3, 1), (71, .iload 5, 2), (73, .ior, 1), (74, .istore_n 3, 1), (75, .iinc 4 1, 3), (78, .goto (-49), 3), (81, .iload_n 3, 1), (82, .ireturn, 1)]
def M_X11_tooMany : ab_MD := (K_X11, yX11_tooMany, cX11_tooMany, 6, (some .int), false, k_X11_tooMany)
theorem w_X11_tooMany : ∀ w ∈ [Cond.code yX11_tooMany cX11_tooMany 6 (some .int), Cond.initialized RX11, Cond.instanceMethod yX11_tooMany, Cond.selects RX11 yX11_tooMany yX11_tooMany], w ∈ ab_T := tb_k_ok [(5, 207), (1, 1), (5, 205), (5, 206)] _ (by decide +kernel)
theorem o_X11_tooMany : ab_OK M_X11_tooMany 1 := tb_ok OC_X11 (by decide +kernel) (by decide +kernel) (w_X11_tooMany _ (.head _)) (w_X11_tooMany _ (.tail _ (.head _)))
theorem v_X11_tooMany : ab_kV M_X11_tooMany 11 := ⟨w_X11_tooMany _ (.tail _ (.tail _ (.head _))), w_X11_tooMany _ (.tail _ (.tail _ (.tail _ (.head _)))), _, rfl, rfl⟩
def k_X11_trade : List (Nat × Instr × Nat) :=
  [(0, .aload_n 0, 1), (1, .iload_n 1, 1), (2, .invokevirtual 145, 3), (5, .ifCond .eq 27, 3), (8, .aload_n 0, 1), (9, .iload_n 2, 1), (10, .invokevirtual 145, 3), (13, .ifCond .eq 19, 3),
   (16, .aload_n 0, 1), (17, .getfield 57, 3), (20, .aload_n 0, 1), (21, .getfield 78, 3), (24, .iload_n 1, 1), (25, .iload_n 2, 1), (26, .invokevirtual 220, 3), (29, .ifCond .ne 5, 3),
   (32, .iconst 0, 1), (33, .ireturn, 1), (34, .aload_n 0, 1), (35, .invokevirtual 213, 3), (38, .aload_n 0, 1), (39, .getfield 78, 3), (42, .iload_n 1, 1), (43, .iload_n 2, 1),
   (44, .invokevirtual 223, 3), (47, .iconst 1, 1), (48, .ireturn, 1)]
def M_X11_trade : ab_MD := (K_X11, yX11_trade, cX11_trade, 3, (some .boolean), false, k_X11_trade)
theorem w_X11_trade : ∀ w ∈ [Cond.code yX11_trade cX11_trade 3 (some .boolean), Cond.initialized RX11, Cond.instanceMethod yX11_trade, Cond.selects RX11 yX11_trade yX11_trade], w ∈ ab_T := tb_k_ok [(4, 213), (1, 1), (4, 211), (4, 212)] _ (by decide +kernel)
theorem o_X11_trade : ab_OK M_X11_trade 2 := tb_ok OC_X11 (by decide +kernel) (by decide +kernel) (w_X11_trade _ (.head _)) (w_X11_trade _ (.tail _ (.head _)))
theorem v_X11_trade : ab_kV M_X11_trade 11 := ⟨w_X11_trade _ (.tail _ (.tail _ (.head _))), w_X11_trade _ (.tail _ (.tail _ (.tail _ (.head _)))), _, rfl, rfl⟩
def k_X11_tried : List (Nat × Instr × Nat) :=
  [(0, .iload_n 1, 1), (1, .ifCond .lt 35, 3), (4, .iload_n 1, 1), (5, .iconst 4, 1), (6, .if_icmp .gt 30, 3), (9, .iload_n 3, 1), (10, .invokestatic 237, 3), (13, .ifCond .eq 23, 3),
   (16, .iload_n 1, 1), (17, .iconst 2, 1), (18, .if_icmp .ne 14, 3), (21, .aload_n 0, 1), (22, .iload_n 2, 1), (23, .invokevirtual 174, 3), (26, .ifCond .ne 12, 3), (29, .goto 7, 3),
   (32, .iload_n 2, 1), (33, .ifCond .eq 5, 3), (36, .iconst (-1), 1), (37, .ireturn, 1), (38, .aload_n 0, 1), (39, .getfield 57, 3), (42, .invokevirtual 227, 3), (45, .aload_n 0, 1),
   (46, .getfield 57, 3), (49, .iload_n 1, 1), (50, .ifCond .ne 7, 3), (53, .iconst 1, 1), (54, .goto 4, 3), (57, .iconst 0, 1), (58, .putfield 387, 3), (61, .aload_n 0, 1),
   (62, .getfield 48, 3), (65, .iload_n 1, 1), (66, .iconst 1, 1), (67, .if_icmp .ne 7, 3), (70, .iconst 1, 1), (71, .goto 4, 3), (74, .iconst 0, 1), (75, .putfield 390, 3),
   (78, .aload_n 0, 1), (79, .getfield 57, 3), (82, .iload_n 1, 1), (83, .iconst 2, 1), (84, .if_icmp .ne 7, 3), (87, .iload_n 2, 1), (88, .goto 4, 3), (91, .iconst (-1), 1),
   (92, .putfield 393, 3), (95, .aload_n 0, 1), (96, .getfield 57, 3), (99, .iload_n 1, 1), (100, .iconst 3, 1), (101, .if_icmp .ne 7, 3), (104, .iconst 1, 1), (105, .goto 10, 3),
   (108, .aload_n 0, 1), (109, .getfield 57, 3), (112, .getfield 377, 3), (115, .putfield 377, 3), (118, .aload_n 0, 1), (119, .getfield 48, 3), (122, .iload_n 1, 1), (123, .iconst 4, 1),
   (124, .if_icmp .ne 7, 3), (127, .iconst 1, 1), (128, .goto 4, 3), (131, .iconst 0, 1), (132, .putfield 396, 3), (135, .aload_n 0, 1), (136, .getfield 82, 3), (139, .aload_n 0, 1),
   (140, .getfield 78, 3), (143, .invokevirtual 230, 3), (146, .aload_n 0, 1), (147, .getfield 57, 3), (150, .aload_n 0, 1), (151, .getfield 82, 3), (154, .iload_n 3, 1), (155, .invokevirtual 243, 3),
   (158, .aload_n 0, 1), (159, .getfield 57, 3), (162, .invokevirtual 227, 3), (165, .aload_n 0, 1), (166, .getfield 82, 3), (169, .invokevirtual 399, 3), (172, .aload_n 0, 1), (173, .getfield 78, 3),
   (176, .invokevirtual 399, 3), (179, .isub, 1), (180, .ireturn, 1)]
def M_X11_tried : ab_MD := (K_X11, yX11_tried, cX11_tried, 4, (some .int), false, k_X11_tried)
theorem w_X11_tried : ∀ w ∈ [Cond.code yX11_tried cX11_tried 4 (some .int), Cond.initialized RX11, Cond.instanceMethod yX11_tried, Cond.selects RX11 yX11_tried yX11_tried], w ∈ ab_T := tb_k_ok [(6, 107), (1, 1), (6, 105), (6, 106)] _ (by decide +kernel)
theorem o_X11_tried : ab_OK M_X11_tried 3 := tb_ok OC_X11 (by decide +kernel) (by decide +kernel) (w_X11_tried _ (.head _)) (w_X11_tried _ (.tail _ (.head _)))
theorem v_X11_tried : ab_kV M_X11_tried 11 := ⟨w_X11_tried _ (.tail _ (.tail _ (.head _))), w_X11_tried _ (.tail _ (.tail _ (.tail _ (.head _)))), _, rfl, rfl⟩
def k_X11_undo : List (Nat × Instr × Nat) :=
  [(0, .aload_n 0, 1), (1, .getfield 133, 3), (4, .ifCond .ne 5, 3), (7, .iconst (-1), 1), (8, .ireturn, 1), (9, .aload_n 0, 1), (10, .aload_n 0, 1), (11, .getfield 402, 3),
   (14, .bipush 20, 2), (16, .iadd, 1), (17, .iconst 1, 1), (18, .isub, 1), (19, .bipush 20, 2), (21, .irem, 1), (22, .putfield 402, 3), (25, .aload_n 0, 1),
   (26, .dup, 1), (27, .getfield 133, 3), (30, .iconst 1, 1), (31, .isub, 1), (32, .putfield 133, 3), (35, .aload_n 0, 1), (36, .getfield 78, 3), (39, .aload_n 0, 1),
   (40, .getfield 88, 3), (43, .aload_n 0, 1), (44, .getfield 402, 3), (47, .aaload, 1), (48, .invokevirtual 230, 3), (51, .aload_n 0, 1), (52, .getfield 133, 3), (55, .ireturn, 1)]
def M_X11_undo : ab_MD := (K_X11, yX11_undo, cX11_undo, 1, (some .int), false, k_X11_undo)
theorem w_X11_undo : ∀ w ∈ [Cond.code yX11_undo cX11_undo 1 (some .int), Cond.initialized RX11, Cond.instanceMethod yX11_undo, Cond.selects RX11 yX11_undo yX11_undo], w ∈ ab_T := tb_k_ok [(6, 115), (1, 1), (6, 113), (6, 114)] _ (by decide +kernel)
theorem o_X11_undo : ab_OK M_X11_undo 0 := tb_ok OC_X11 (by decide +kernel) (by decide +kernel) (w_X11_undo _ (.head _)) (w_X11_undo _ (.tail _ (.head _)))
theorem v_X11_undo : ab_kV M_X11_undo 11 := ⟨w_X11_undo _ (.tail _ (.tail _ (.head _))), w_X11_undo _ (.tail _ (.tail _ (.tail _ (.head _)))), _, rfl, rfl⟩
