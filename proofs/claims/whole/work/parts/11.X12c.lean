/-! printed by wip/tools/mktab.py: methods of BoneEstateModel -/
def k_X12_newName : List (Nat × Instr × Nat) :=
  [(0, .aload_n 0, 1), (1, .getfield 163, 3), (4, .iconst 2, 1), (5, .if_icmp .eq 9, 3), (8, .aload_n 0, 1), (9, .iconst 1, 1), (10, .invokevirtual 187, 3), (13, .ireturn, 1),
   (14, .aload_n 1, 1), (15, .iload_n 2, 1), (16, .iload_n 3, 1), (17, .aload_n 0, 1), (18, .getfield 174, 3), (21, .invokestatic 247, 3), (24, .ifCond .lt 9, 3), (27, .aload_n 0, 1),
   (28, .iconst 3, 1), (29, .invokevirtual 187, 3), (32, .ireturn, 1), (33, .aload_n 1, 1), (34, .iload_n 2, 1), (35, .iload_n 3, 1), (36, .iadd, 1), (37, .aload_n 0, 1),
   (38, .getfield 174, 3), (41, .iastore, 1), (42, .aload_n 0, 1), (43, .invokevirtual 197, 3), (46, .iconst 1, 1), (47, .ireturn, 1)]
def M_X12_newName : ab_MD := (K_X12, yX12_newName, cX12_newName, 4, (some .boolean), false, k_X12_newName)
theorem o_X12_newName : ab_OK M_X12_newName 3 := tb_ok OC_X12 (by decide +kernel) (by decide +kernel) (ab_T_in (tb_c_in 8 _ (List.mem_of_getElem? (i := 81) (rfl : (tb_c 8)[81]? = some (Cond.code yX12_newName cX12_newName 4 (some .boolean))))) rfl) IN_X12
theorem v_X12_newName : ab_kV M_X12_newName 12 := ⟨(ab_T_in (tb_c_in 8 _ (List.mem_of_getElem? (i := 80) (rfl : (tb_c 8)[80]? = some (Cond.instanceMethod yX12_newName)))) rfl), (ab_T_in (tb_c_in 0 _ (List.mem_of_getElem? (i := 59) (rfl : (tb_c 0)[59]? = some (Cond.selects RX12 yX12_newName yX12_newName)))) rfl), _, rfl, rfl⟩
def k_X12_note : List (Nat × Instr × Nat) :=
  [(0, .aload_n 0, 1), (1, .iconst 0, 1), (2, .putfield 145, 3), (5, .iload_n 1, 1), (6, .iconst 0, 1), (7, .iconst 1, 1), (8, .invokestatic 190, 3), (11, .ifCond .eq 42, 3),
   (14, .iload_n 2, 1), (15, .invokestatic 483, 3), (18, .ifCond .eq 35, 3), (21, .iload_n 1, 1), (22, .ifCond .eq 10, 3), (25, .iload_n 3, 1), (26, .invokestatic 483, 3), (29, .ifCond .eq 24, 3),
   (32, .aload_n 0, 1), (33, .iload_n 1, 1), (34, .iload_n 2, 1), (35, .iload_n 3, 1), (36, .iconst 0, 1), (37, .iload 4, 2), (39, .ifCond .eq 7, 3), (42, .iconst 1, 1),
   (43, .goto 4, 3), (46, .iconst 0, 1), (47, .invokevirtual 535, 3), (50, .goto 4, 3), (53, .iconst (-1), 1), (54, .ireturn, 1)]
def M_X12_note : ab_MD := (K_X12, yX12_note, cX12_note, 5, (some .int), false, k_X12_note)
theorem o_X12_note : ab_OK M_X12_note 4 := tb_ok OC_X12 (by decide +kernel) (by decide +kernel) (ab_T_in (tb_c_in 9 _ (List.mem_of_getElem? (i := 187) (rfl : (tb_c 9)[187]? = some (Cond.code yX12_note cX12_note 5 (some .int))))) rfl) IN_X12
theorem v_X12_note : ab_kV M_X12_note 12 := ⟨(ab_T_in (tb_c_in 9 _ (List.mem_of_getElem? (i := 185) (rfl : (tb_c 9)[185]? = some (Cond.instanceMethod yX12_note)))) rfl), (ab_T_in (tb_c_in 9 _ (List.mem_of_getElem? (i := 186) (rfl : (tb_c 9)[186]? = some (Cond.selects RX12 yX12_note yX12_note)))) rfl), _, rfl, rfl⟩
def k_X12_notes1 : List (Nat × Instr × Nat) :=
  [(0, .aload_n 0, 1), (1, .getfield 365, 3), (4, .bipush 24, 2), (6, .if_icmp .ne 5, 3), (9, .iconst (-1), 1), (10, .ireturn, 1), (11, .iconst 5, 1), (12, .aload_n 0, 1),
   (13, .getfield 365, 3), (16, .imul, 1), (17, .istore 6, 2), (19, .aload_n 0, 1), (20, .getfield 127, 3), (23, .iload 6, 2), (25, .iload_n 1, 1), (26, .iastore, 1),
   (27, .aload_n 0, 1), (28, .getfield 127, 3), (31, .iload 6, 2), (33, .iconst 1, 1), (34, .iadd, 1), (35, .iload_n 2, 1), (36, .iastore, 1), (37, .aload_n 0, 1),
   (38, .getfield 127, 3), (41, .iload 6, 2), (43, .iconst 2, 1), (44, .iadd, 1), (45, .iload_n 3, 1), (46, .iastore, 1), (47, .aload_n 0, 1), (48, .getfield 127, 3),
   (51, .iload 6, 2), (53, .iconst 3, 1), (54, .iadd, 1), (55, .iload 4, 2), (57, .iastore, 1), (58, .aload_n 0, 1), (59, .getfield 127, 3), (62, .iload 6, 2),
   (64, .iconst 4, 1), (65, .iadd, 1), (66, .iload 5, 2), (68, .iastore, 1), (69, .aload_n 0, 1), (70, .dup, 1), (71, .getfield 365, 3), (74, .iconst 1, 1),
   (75, .iadd, 1), (76, .putfield 365, 3), (79, .aload_n 0, 1), (80, .getfield 365, 3), (83, .iconst 1, 1), (84, .isub, 1), (85, .ireturn, 1)]
def M_X12_notes1 : ab_MD := (K_X12, yX12_notes1, cX12_notes1, 7, (some .int), false, k_X12_notes1)
theorem o_X12_notes1 : ab_OK M_X12_notes1 5 := tb_ok OC_X12 (by decide +kernel) (by decide +kernel) (ab_T_in (tb_c_in 9 _ (List.mem_of_getElem? (i := 191) (rfl : (tb_c 9)[191]? = some (Cond.code yX12_notes1 cX12_notes1 7 (some .int))))) rfl) IN_X12
theorem v_X12_notes1 : ab_kV M_X12_notes1 12 := ⟨(ab_T_in (tb_c_in 9 _ (List.mem_of_getElem? (i := 190) (rfl : (tb_c 9)[190]? = some (Cond.instanceMethod yX12_notes1)))) rfl), (ab_T_in (tb_c_in 0 _ (List.mem_of_getElem? (i := 111) (rfl : (tb_c 0)[111]? = some (Cond.selects RX12 yX12_notes1 yX12_notes1)))) rfl), _, rfl, rfl⟩
def k_X12_number : List (Nat × Instr × Nat) :=
  [(0, .aload_n 0, 1), (1, .getfield 163, 3), (4, .iconst 3, 1), (5, .if_icmp .eq 9, 3), (8, .aload_n 0, 1), (9, .iconst 1, 1), (10, .invokevirtual 187, 3), (13, .ireturn, 1),
   (14, .aload_n 0, 1), (15, .getfield 174, 3), (18, .iload_n 1, 1), (19, .iload_n 2, 1), (20, .invokestatic 190, 3), (23, .ifCond .ne 9, 3), (26, .aload_n 0, 1), (27, .iconst 2, 1),
   (28, .invokevirtual 187, 3), (31, .ireturn, 1), (32, .aload_n 0, 1), (33, .aload_n 0, 1), (34, .getfield 174, 3), (37, .putfield 194, 3), (40, .aload_n 0, 1), (41, .invokevirtual 197, 3),
   (44, .iconst 1, 1), (45, .ireturn, 1)]
def M_X12_number : ab_MD := (K_X12, yX12_number, cX12_number, 3, (some .boolean), false, k_X12_number)
theorem o_X12_number : ab_OK M_X12_number 2 := tb_ok OC_X12 (by decide +kernel) (by decide +kernel) (ab_T_in (tb_c_in 8 _ (List.mem_of_getElem? (i := 88) (rfl : (tb_c 8)[88]? = some (Cond.code yX12_number cX12_number 3 (some .boolean))))) rfl) IN_X12
theorem v_X12_number : ab_kV M_X12_number 12 := ⟨(ab_T_in (tb_c_in 8 _ (List.mem_of_getElem? (i := 87) (rfl : (tb_c 8)[87]? = some (Cond.instanceMethod yX12_number)))) rfl), (ab_T_in (tb_c_in 0 _ (List.mem_of_getElem? (i := 60) (rfl : (tb_c 0)[60]? = some (Cond.selects RX12 yX12_number yX12_number)))) rfl), _, rfl, rfl⟩
def k_X12_number1 : List (Nat × Instr × Nat) :=
  [(0, .aload_n 0, 1), (1, .aload_n 0, 1), (2, .getfield 358, 3), (5, .ldc2_w 439, 3), (8, .lmul, 1), (9, .ldc2_w 441, 3), (12, .ladd, 1), (13, .ldc2_w 443, 3),
   (16, .land, 1), (17, .putfield 358, 3), (20, .aload_n 0, 1), (21, .getfield 358, 3), (24, .ldc2_w 445, 3), (27, .ldiv, 1), (28, .iload_n 1, 1), (29, .i2l, 1),
   (30, .lrem, 1), (31, .l2i, 1), (32, .ireturn, 1)]
def M_X12_number1 : ab_MD := (K_X12, yX12_number1, cX12_number1, 2, (some .int), false, k_X12_number1)
theorem o_X12_number1 : ab_OK M_X12_number1 1 := tb_ok OC_X12 (by decide +kernel) (by decide +kernel) (ab_T_in (tb_c_in 9 _ (List.mem_of_getElem? (i := 73) (rfl : (tb_c 9)[73]? = some (Cond.code yX12_number1 cX12_number1 2 (some .int))))) rfl) IN_X12
theorem v_X12_number1 : ab_kV M_X12_number1 12 := ⟨(ab_T_in (tb_c_in 9 _ (List.mem_of_getElem? (i := 72) (rfl : (tb_c 9)[72]? = some (Cond.instanceMethod yX12_number1)))) rfl), (ab_T_in (tb_c_in 0 _ (List.mem_of_getElem? (i := 100) (rfl : (tb_c 0)[100]? = some (Cond.selects RX12 yX12_number1 yX12_number1)))) rfl), _, rfl, rfl⟩
def k_X12_onceLine : List (Nat × Instr × Nat) :=
  [(0, .aload_n 0, 1), (1, .getfield 20, 3), (4, .iload_n 1, 1), (5, .baload, 1), (6, .ifCond .eq 9, 3), (9, .aload_n 0, 1), (10, .iconst 3, 1), (11, .invokevirtual 187, 3),
   (14, .ireturn, 1), (15, .aload_n 0, 1), (16, .getfield 20, 3), (19, .iload_n 1, 1), (20, .iconst 1, 1), (21, .bastore, 1), (22, .aload_n 0, 1), (23, .invokevirtual 197, 3),
   (26, .aload_n 0, 1), (27, .iload_n 2, 1), (28, .iload_n 3, 1), (29, .invokevirtual 203, 3), (32, .ifCond .ne 5, 3), (35, .iconst 0, 1), (36, .ireturn, 1), (37, .aload_n 0, 1),
   (38, .getfield 24, 3), (41, .iconst 2, 1), (42, .iload_n 1, 1), (43, .iadd, 1), (44, .aload_n 0, 1), (45, .getfield 194, 3), (48, .iastore, 1), (49, .iconst 1, 1),
   (50, .ireturn, 1)]
def M_X12_onceLine : ab_MD := (K_X12, yX12_onceLine, cX12_onceLine, 4, (some .boolean), false, k_X12_onceLine)
theorem o_X12_onceLine : ab_OK M_X12_onceLine 3 := tb_ok OC_X12 (by decide +kernel) (by decide +kernel) (ab_T_in (tb_c_in 8 _ (List.mem_of_getElem? (i := 115) (rfl : (tb_c 8)[115]? = some (Cond.code yX12_onceLine cX12_onceLine 4 (some .boolean))))) rfl) IN_X12
theorem v_X12_onceLine : ab_kV M_X12_onceLine 12 := ⟨(ab_T_in (tb_c_in 8 _ (List.mem_of_getElem? (i := 114) (rfl : (tb_c 8)[114]? = some (Cond.instanceMethod yX12_onceLine)))) rfl), (ab_T_in (tb_c_in 0 _ (List.mem_of_getElem? (i := 66) (rfl : (tb_c 0)[66]? = some (Cond.selects RX12 yX12_onceLine yX12_onceLine)))) rfl), _, rfl, rfl⟩
def k_X12_packed : List (Nat × Instr × Nat) :=
  [(0, .iconst 0, 1), (1, .istore_n 3, 1), (2, .iload_n 1, 1), (3, .istore 4, 2), (5, .iload 4, 2), (7, .iload_n 1, 1), (8, .bipush 6, 2), (10, .iadd, 1),
   (11, .if_icmp .ge 34, 3), (14, .iload_n 3, 1), (15, .iconst 5, 1), (16, .ishl, 1), (17, .iload 4, 2), (19, .iload_n 2, 1), (20, .if_icmp .ge 16, 3), (23, .aload_n 0, 1),
   (24, .getfield 7, 3), (27, .iload 4, 2), (29, .iaload, 1), (30, .bipush 96, 2), (32, .isub, 1), (33, .goto 4, 3), (36, .iconst 0, 1), (37, .ior, 1),
   (38, .istore_n 3, 1), (39, .iinc 4 1, 3), (42, .goto (-37), 3), (45, .iload_n 3, 1), (46, .ireturn, 1)]
def M_X12_packed : ab_MD := (K_X12, yX12_packed, cX12_packed, 5, (some .int), false, k_X12_packed)
theorem o_X12_packed : ab_OK M_X12_packed 2 := tb_ok OC_X12 (by decide +kernel) (by decide +kernel) (ab_T_in (tb_c_in 8 _ (List.mem_of_getElem? (i := 56) (rfl : (tb_c 8)[56]? = some (Cond.code yX12_packed cX12_packed 5 (some .int))))) rfl) IN_X12
theorem v_X12_packed : ab_kV M_X12_packed 12 := ⟨(ab_T_in (tb_c_in 8 _ (List.mem_of_getElem? (i := 55) (rfl : (tb_c 8)[55]? = some (Cond.instanceMethod yX12_packed)))) rfl), (ab_T_in (tb_c_in 0 _ (List.mem_of_getElem? (i := 53) (rfl : (tb_c 0)[53]? = some (Cond.selects RX12 yX12_packed yX12_packed)))) rfl), _, rfl, rfl⟩
def k_X12_piece : List (Nat × Instr × Nat) :=
  [(0, .aload_n 0, 1), (1, .iconst 0, 1), (2, .putfield 145, 3), (5, .aload_n 0, 1), (6, .iload_n 1, 1), (7, .invokevirtual 474, 3), (10, .ifCond .ne 9, 3), (13, .aload_n 0, 1),
   (14, .iconst 1, 1), (15, .invokevirtual 477, 3), (18, .ireturn, 1), (19, .iload_n 2, 1), (20, .tableswitch 60 0 3 #[32, 39, 46, 53], 32), (52, .aload_n 0, 1), (53, .getfield 30, 3), (56, .iload_n 1, 1),
   (57, .iaload, 1), (58, .ireturn, 1), (59, .aload_n 0, 1), (60, .getfield 33, 3), (63, .iload_n 1, 1), (64, .iaload, 1), (65, .ireturn, 1), (66, .aload_n 0, 1),
   (67, .getfield 36, 3), (70, .iload_n 1, 1), (71, .iaload, 1), (72, .ireturn, 1), (73, .aload_n 0, 1), (74, .getfield 91, 3), (77, .iload_n 1, 1), (78, .iaload, 1),
   (79, .ireturn, 1), (80, .aload_n 0, 1), (81, .iconst 2, 1), (82, .invokevirtual 477, 3), (85, .ireturn, 1)]
def M_X12_piece : ab_MD := (K_X12, yX12_piece, cX12_piece, 3, (some .int), false, k_X12_piece)
theorem o_X12_piece : ab_OK M_X12_piece 2 := tb_ok OC_X12 (by decide +kernel) (by decide +kernel) (ab_T_in (tb_c_in 8 _ (List.mem_of_getElem? (i := 174) (rfl : (tb_c 8)[174]? = some (Cond.code yX12_piece cX12_piece 3 (some .int))))) rfl) IN_X12
theorem v_X12_piece : ab_kV M_X12_piece 12 := ⟨(ab_T_in (tb_c_in 8 _ (List.mem_of_getElem? (i := 172) (rfl : (tb_c 8)[172]? = some (Cond.instanceMethod yX12_piece)))) rfl), (ab_T_in (tb_c_in 8 _ (List.mem_of_getElem? (i := 173) (rfl : (tb_c 8)[173]? = some (Cond.selects RX12 yX12_piece yX12_piece)))) rfl), _, rfl, rfl⟩
def k_X12_pieceLine : List (Nat × Instr × Nat) :=
  [(0, .aload_n 0, 1), (1, .getfield 207, 3), (4, .bipush 9, 2), (6, .if_icmp .ne 9, 3), (9, .aload_n 0, 1), (10, .iconst 2, 1), (11, .invokevirtual 187, 3), (14, .ireturn, 1),
   (15, .aload_n 0, 1), (16, .invokevirtual 197, 3), (19, .aload_n 0, 1), (20, .aload_n 0, 1), (21, .getfield 27, 3), (24, .bipush 9, 2), (26, .aload_n 0, 1), (27, .getfield 207, 3),
   (30, .invokevirtual 251, 3), (33, .ifCond .ne 5, 3), (36, .iconst 0, 1), (37, .ireturn, 1), (38, .bipush 9, 2), (40, .aload_n 0, 1), (41, .getfield 207, 3), (44, .iadd, 1),
   (45, .istore_n 1, 1), (46, .aload_n 0, 1), (47, .iconst 0, 1), (48, .bipush 6, 2), (50, .invokevirtual 203, 3), (53, .ifCond .ne 5, 3), (56, .iconst 0, 1), (57, .ireturn, 1),
   (58, .aload_n 0, 1), (59, .getfield 30, 3), (62, .iload_n 1, 1), (63, .aload_n 0, 1), (64, .getfield 194, 3), (67, .iastore, 1), (68, .aload_n 0, 1), (69, .iconst 0, 1),
   (70, .bipush 6, 2), (72, .invokevirtual 203, 3), (75, .ifCond .ne 5, 3), (78, .iconst 0, 1), (79, .ireturn, 1), (80, .aload_n 0, 1), (81, .getfield 33, 3), (84, .iload_n 1, 1),
   (85, .aload_n 0, 1), (86, .getfield 194, 3), (89, .iastore, 1), (90, .aload_n 0, 1), (91, .iconst 0, 1), (92, .bipush 99, 2), (94, .invokevirtual 203, 3), (97, .ifCond .ne 5, 3),
   (100, .iconst 0, 1), (101, .ireturn, 1), (102, .aload_n 0, 1), (103, .getfield 36, 3), (106, .iload_n 1, 1), (107, .aload_n 0, 1), (108, .getfield 194, 3), (111, .iastore, 1),
   (112, .aload_n 0, 1), (113, .dup, 1), (114, .getfield 207, 3), (117, .iconst 1, 1), (118, .iadd, 1), (119, .putfield 207, 3), (122, .iconst 1, 1), (123, .ireturn, 1)]
def M_X12_pieceLine : ab_MD := (K_X12, yX12_pieceLine, cX12_pieceLine, 2, (some .boolean), false, k_X12_pieceLine)
theorem o_X12_pieceLine : ab_OK M_X12_pieceLine 0 := tb_ok OC_X12 (by decide +kernel) (by decide +kernel) (ab_T_in (tb_c_in 8 _ (List.mem_of_getElem? (i := 77) (rfl : (tb_c 8)[77]? = some (Cond.code yX12_pieceLine cX12_pieceLine 2 (some .boolean))))) rfl) IN_X12
theorem v_X12_pieceLine : ab_kV M_X12_pieceLine 12 := ⟨(ab_T_in (tb_c_in 8 _ (List.mem_of_getElem? (i := 76) (rfl : (tb_c 8)[76]? = some (Cond.instanceMethod yX12_pieceLine)))) rfl), (ab_T_in (tb_c_in 0 _ (List.mem_of_getElem? (i := 58) (rfl : (tb_c 0)[58]? = some (Cond.selects RX12 yX12_pieceLine yX12_pieceLine)))) rfl), _, rfl, rfl⟩
def k_X12_plain : List (Nat × Instr × Nat) :=
  [(0, .aload_n 0, 1), (1, .iconst 0, 1), (2, .putfield 207, 3), (5, .aload_n 0, 1), (6, .iconst 0, 1), (7, .putfield 210, 3), (10, .aload_n 0, 1), (11, .iconst 0, 1),
   (12, .putfield 213, 3), (15, .aload_n 0, 1), (16, .iconst 0, 1), (17, .putfield 216, 3), (20, .aload_n 0, 1), (21, .iconst 0, 1), (22, .putfield 219, 3), (25, .aload_n 0, 1),
   (26, .iconst 0, 1), (27, .putfield 222, 3), (30, .iconst 0, 1), (31, .istore_n 1, 1), (32, .iload_n 1, 1), (33, .iconst 2, 1), (34, .if_icmp .ge 16, 3), (37, .aload_n 0, 1),
   (38, .getfield 20, 3), (41, .iload_n 1, 1), (42, .iconst 0, 1), (43, .bastore, 1), (44, .iinc 1 1, 3), (47, .goto (-15), 3), (50, .aload_n 0, 1), (51, .getfield 24, 3),
   (54, .iconst 2, 1), (55, .iconst 2, 1), (56, .iastore, 1), (57, .aload_n 0, 1), (58, .getfield 24, 3), (61, .iconst 3, 1), (62, .iconst 0, 1), (63, .iastore, 1),
   (64, .iconst 0, 1), (65, .istore_n 1, 1), (66, .iload_n 1, 1), (67, .bipush 9, 2), (69, .if_icmp .ge 20, 3), (72, .aload_n 0, 1), (73, .getfield 39, 3), (76, .bipush 9, 2),
   (78, .iload_n 1, 1), (79, .iadd, 1), (80, .bipush (-2), 2), (82, .iastore, 1), (83, .iinc 1 1, 3), (86, .goto (-20), 3), (89, .iconst 3, 1), (90, .istore_n 1, 1),
   (91, .iload_n 1, 1), (92, .bipush 6, 2), (94, .if_icmp .ge 16, 3), (97, .aload_n 0, 1), (98, .getfield 60, 3), (101, .iload_n 1, 1), (102, .iconst 0, 1), (103, .bastore, 1),
   (104, .iinc 1 1, 3), (107, .goto (-16), 3), (110, .return_, 1)]
def M_X12_plain : ab_MD := (K_X12, yX12_plain, cX12_plain, 2, none, false, k_X12_plain)
theorem o_X12_plain : ab_OK M_X12_plain 0 := tb_ok OC_X12 (by decide +kernel) (by decide +kernel) (ab_T_in (tb_c_in 6 _ (List.mem_of_getElem? (i := 230) (rfl : (tb_c 6)[230]? = some (Cond.code yX12_plain cX12_plain 2 none)))) rfl) IN_X12
theorem v_X12_plain : ab_kV M_X12_plain 12 := ⟨(ab_T_in (tb_c_in 6 _ (List.mem_of_getElem? (i := 229) (rfl : (tb_c 6)[229]? = some (Cond.instanceMethod yX12_plain)))) rfl), (ab_T_in (tb_c_in 0 _ (List.mem_of_getElem? (i := 45) (rfl : (tb_c 0)[45]? = some (Cond.selects RX12 yX12_plain yX12_plain)))) rfl), _, rfl, rfl⟩
def k_X12_plainTried : List (Nat × Instr × Nat) :=
  [(0, .aload_n 0, 1), (1, .iconst 0, 1), (2, .putfield 374, 3), (5, .aload_n 0, 1), (6, .iconst 0, 1), (7, .putfield 377, 3), (10, .aload_n 0, 1), (11, .iconst 0, 1),
   (12, .putfield 380, 3), (15, .aload_n 0, 1), (16, .iconst 0, 1), (17, .putfield 383, 3), (20, .aload_n 0, 1), (21, .iconst (-1), 1), (22, .putfield 386, 3), (25, .aload_n 0, 1),
   (26, .aload_n 0, 1), (27, .getfield 24, 3), (30, .iconst 0, 1), (31, .iaload, 1), (32, .putfield 389, 3), (35, .return_, 1)]
def M_X12_plainTried : ab_MD := (K_X12, yX12_plainTried, cX12_plainTried, 1, none, false, k_X12_plainTried)
theorem o_X12_plainTried : ab_OK M_X12_plainTried 0 := tb_ok OC_X12 (by decide +kernel) (by decide +kernel) (ab_T_in (tb_c_in 7 _ (List.mem_of_getElem? (i := 9) (rfl : (tb_c 7)[9]? = some (Cond.code yX12_plainTried cX12_plainTried 1 none)))) rfl) IN_X12
theorem v_X12_plainTried : ab_kV M_X12_plainTried 12 := ⟨(ab_T_in (tb_c_in 7 _ (List.mem_of_getElem? (i := 8) (rfl : (tb_c 7)[8]? = some (Cond.instanceMethod yX12_plainTried)))) rfl), (ab_T_in (tb_c_in 0 _ (List.mem_of_getElem? (i := 49) (rfl : (tb_c 0)[49]? = some (Cond.selects RX12 yX12_plainTried yX12_plainTried)))) rfl), _, rfl, rfl⟩
def k_X12_put : List (Nat × Instr × Nat) :=
  [(0, .iconst 0, 1), (1, .istore_n 3, 1), (2, .iload_n 3, 1), (3, .bipush 9, 2), (5, .if_icmp .ge 20, 3), (8, .aload_n 1, 1), (9, .iload_n 2, 1), (10, .iload_n 3, 1),
   (11, .iadd, 1), (12, .aload_n 0, 1), (13, .getfield 91, 3), (16, .iload_n 3, 1), (17, .iaload, 1), (18, .iastore, 1), (19, .iinc 3 1, 3), (22, .goto (-20), 3),
   (25, .iconst 0, 1), (26, .istore_n 3, 1), (27, .iload_n 3, 1), (28, .iconst 5, 1), (29, .if_icmp .ge 37, 3), (32, .aload_n 1, 1), (33, .iload_n 2, 1), (34, .bipush 9, 2),
   (36, .iadd, 1), (37, .iload_n 3, 1), (38, .iadd, 1), (39, .aload_n 0, 1), (40, .getfield 94, 3), (43, .iload_n 3, 1), (44, .iaload, 1), (45, .iastore, 1),
   (46, .aload_n 1, 1), (47, .iload_n 2, 1), (48, .bipush 14, 2), (50, .iadd, 1), (51, .iload_n 3, 1), (52, .iadd, 1), (53, .aload_n 0, 1), (54, .getfield 97, 3),
   (57, .iload_n 3, 1), (58, .iaload, 1), (59, .iastore, 1), (60, .iinc 3 1, 3), (63, .goto (-36), 3), (66, .return_, 1)]
def M_X12_put : ab_MD := (K_X12, yX12_put, cX12_put, 4, none, false, k_X12_put)
theorem o_X12_put : ab_OK M_X12_put 2 := tb_ok OC_X12 (by decide +kernel) (by decide +kernel) (ab_T_in (tb_c_in 9 _ (List.mem_of_getElem? (i := 21) (rfl : (tb_c 9)[21]? = some (Cond.code yX12_put cX12_put 4 none)))) rfl) IN_X12
theorem v_X12_put : ab_kV M_X12_put 12 := ⟨(ab_T_in (tb_c_in 9 _ (List.mem_of_getElem? (i := 20) (rfl : (tb_c 9)[20]? = some (Cond.instanceMethod yX12_put)))) rfl), (ab_T_in (tb_c_in 0 _ (List.mem_of_getElem? (i := 91) (rfl : (tb_c 0)[91]? = some (Cond.selects RX12 yX12_put yX12_put)))) rfl), _, rfl, rfl⟩
def k_X12_rank : List (Nat × Instr × Nat) :=
  [(0, .iload_n 0, 1), (1, .bipush 13, 2), (3, .if_icmp .lt 8, 3), (6, .bipush 6, 2), (8, .goto 50, 3), (11, .iload_n 0, 1), (12, .bipush 11, 2), (14, .if_icmp .lt 7, 3),
   (17, .iconst 5, 1), (18, .goto 40, 3), (21, .iload_n 0, 1), (22, .iconst 5, 1), (23, .if_icmp .lt 7, 3), (26, .iconst 4, 1), (27, .goto 31, 3), (30, .iload_n 0, 1),
   (31, .iconst 2, 1), (32, .if_icmp .ne 7, 3), (35, .iconst 3, 1), (36, .goto 22, 3), (39, .iload_n 0, 1), (40, .iconst 3, 1), (41, .if_icmp .ne 7, 3), (44, .iconst 2, 1),
   (45, .goto 13, 3), (48, .iload_n 0, 1), (49, .iconst 4, 1), (50, .if_icmp .ne 7, 3), (53, .iconst 1, 1), (54, .goto 4, 3), (57, .iconst 0, 1), (58, .ireturn, 1)]
def M_X12_rank : ab_MD := (K_X12, yX12_rank, cX12_rank, 1, (some .int), false, k_X12_rank)
theorem o_X12_rank : ab_OK M_X12_rank 1 := tb_ok OC_X12 (by decide +kernel) (by decide +kernel) (ab_T_in (tb_c_in 8 _ (List.mem_of_getElem? (i := 158) (rfl : (tb_c 8)[158]? = some (Cond.code yX12_rank cX12_rank 1 (some .int))))) rfl) IN_X12
theorem s_X12_rank : Cond.static M_X12_rank.2.1 ∈ ab_T := (ab_T_in (tb_c_in 8 _ (List.mem_of_getElem? (i := 157) (rfl : (tb_c 8)[157]? = some (Cond.static yX12_rank)))) rfl)
def k_X12_remember : List (Nat × Instr × Nat) :=
  [(0, .aload_n 0, 1), (1, .getfield 368, 3), (4, .bipush 20, 2), (6, .if_icmp .ne 43, 3), (9, .iconst 0, 1), (10, .istore_n 1, 1), (11, .iload_n 1, 1), (12, .sipush 361, 3),
   (15, .if_icmp .ge 24, 3), (18, .aload_n 0, 1), (19, .getfield 133, 3), (22, .iload_n 1, 1), (23, .aload_n 0, 1), (24, .getfield 133, 3), (27, .iload_n 1, 1), (28, .bipush 19, 2),
   (30, .iadd, 1), (31, .iaload, 1), (32, .iastore, 1), (33, .iinc 1 1, 3), (36, .goto (-25), 3), (39, .aload_n 0, 1), (40, .dup, 1), (41, .getfield 368, 3),
   (44, .iconst 1, 1), (45, .isub, 1), (46, .putfield 368, 3), (49, .aload_n 0, 1), (50, .aload_n 0, 1), (51, .getfield 133, 3), (54, .bipush 19, 2), (56, .aload_n 0, 1),
   (57, .getfield 368, 3), (60, .imul, 1), (61, .invokevirtual 564, 3), (64, .aload_n 0, 1), (65, .dup, 1), (66, .getfield 368, 3), (69, .iconst 1, 1), (70, .iadd, 1),
   (71, .putfield 368, 3), (74, .return_, 1)]
def M_X12_remember : ab_MD := (K_X12, yX12_remember, cX12_remember, 2, none, false, k_X12_remember)
theorem o_X12_remember : ab_OK M_X12_remember 0 := tb_ok OC_X12 (by decide +kernel) (by decide +kernel) (ab_T_in (tb_c_in 9 _ (List.mem_of_getElem? (i := 17) (rfl : (tb_c 9)[17]? = some (Cond.code yX12_remember cX12_remember 2 none)))) rfl) IN_X12
theorem v_X12_remember : ab_kV M_X12_remember 12 := ⟨(ab_T_in (tb_c_in 9 _ (List.mem_of_getElem? (i := 16) (rfl : (tb_c 9)[16]? = some (Cond.instanceMethod yX12_remember)))) rfl), (ab_T_in (tb_c_in 0 _ (List.mem_of_getElem? (i := 90) (rfl : (tb_c 0)[90]? = some (Cond.selects RX12 yX12_remember yX12_remember)))) rfl), _, rfl, rfl⟩
def k_X12_rows : List (Nat × Instr × Nat) :=
  [(0, .aload_n 0, 1), (1, .iconst 0, 1), (2, .putfield 145, 3), (5, .aload_n 0, 1), (6, .iload_n 1, 1), (7, .invokevirtual 480, 3), (10, .ifCond .ne 7, 3), (13, .ldc2_w 503, 3),
   (16, .lreturn, 1), (17, .aload_n 0, 1), (18, .invokevirtual 362, 3), (21, .aload_n 0, 1), (22, .iconst 0, 1), (23, .invokevirtual 418, 3), (26, .aload_n 0, 1), (27, .bipush 127, 2),
   (29, .invokevirtual 505, 3), (32, .aload_n 0, 1), (33, .aload_n 0, 1), (34, .iconst 0, 1), (35, .iload_n 1, 1), (36, .invokevirtual 392, 3), (39, .iconst (-1), 1), (40, .invokevirtual 508, 3),
   (43, .lreturn, 1)]
def M_X12_rows : ab_MD := (K_X12, yX12_rows, cX12_rows, 2, (some .long), false, k_X12_rows)
theorem o_X12_rows : ab_OK M_X12_rows 1 := tb_ok OC_X12 (by decide +kernel) (by decide +kernel) (ab_T_in (tb_c_in 9 _ (List.mem_of_getElem? (i := 101) (rfl : (tb_c 9)[101]? = some (Cond.code yX12_rows cX12_rows 2 (some .long))))) rfl) IN_X12
theorem v_X12_rows : ab_kV M_X12_rows 12 := ⟨(ab_T_in (tb_c_in 9 _ (List.mem_of_getElem? (i := 99) (rfl : (tb_c 9)[99]? = some (Cond.instanceMethod yX12_rows)))) rfl), (ab_T_in (tb_c_in 9 _ (List.mem_of_getElem? (i := 100) (rfl : (tb_c 9)[100]? = some (Cond.selects RX12 yX12_rows yX12_rows)))) rfl), _, rfl, rfl⟩
def k_X12_rowsOf : List (Nat × Instr × Nat) :=
  [(0, .lconst 0, 1), (1, .lstore_n 3, 1), (2, .iconst 0, 1), (3, .istore 5, 2), (5, .iload 5, 2), (7, .aload_n 0, 1), (8, .getfield 225, 3), (11, .if_icmp .ge 120, 3),
   (14, .iload_n 1, 1), (15, .iload 5, 2), (17, .invokestatic 412, 3), (20, .ifCond .ne 6, 3), (23, .goto 102, 3), (26, .bipush 7, 2), (28, .iload_n 1, 1), (29, .iconst 1, 1),
   (30, .iload 5, 2), (32, .ishl, 1), (33, .iconst (-1), 1), (34, .ixor, 1), (35, .iand, 1), (36, .imul, 1), (37, .istore 6, 2), (39, .lload_n 3, 1),
   (40, .iload_n 2, 1), (41, .iconst (-1), 1), (42, .if_icmp .eq 14, 3), (45, .iload_n 2, 1), (46, .aload_n 0, 1), (47, .getfield 30, 3), (50, .iload 5, 2), (52, .iaload, 1),
   (53, .if_icmp .ne 21, 3), (56, .aload_n 0, 1), (57, .getfield 115, 3), (60, .iload 6, 2), (62, .aload_n 0, 1), (63, .getfield 33, 3), (66, .iload 5, 2), (68, .iaload, 1),
   (69, .iadd, 1), (70, .laload, 1), (71, .goto 4, 3), (74, .lconst 0, 1), (75, .ladd, 1), (76, .lstore_n 3, 1), (77, .lload_n 3, 1), (78, .aload_n 0, 1),
   (79, .iload 5, 2), (81, .invokevirtual 500, 3), (84, .iconst 2, 1), (85, .if_icmp .ne 37, 3), (88, .iload_n 2, 1), (89, .iconst (-1), 1), (90, .if_icmp .eq 14, 3), (93, .iload_n 2, 1),
   (94, .aload_n 0, 1), (95, .getfield 33, 3), (98, .iload 5, 2), (100, .iaload, 1), (101, .if_icmp .ne 21, 3), (104, .aload_n 0, 1), (105, .getfield 115, 3), (108, .iload 6, 2),
   (110, .aload_n 0, 1), (111, .getfield 30, 3), (114, .iload 5, 2), (116, .iaload, 1), (117, .iadd, 1), (118, .laload, 1), (119, .goto 4, 3), (122, .lconst 0, 1),
   (123, .ladd, 1), (124, .lstore_n 3, 1), (125, .iinc 5 1, 3), (128, .goto (-123), 3), (131, .lload_n 3, 1), (132, .lreturn, 1)]
def M_X12_rowsOf : ab_MD := (K_X12, yX12_rowsOf, cX12_rowsOf, 7, (some .long), false, k_X12_rowsOf)
theorem o_X12_rowsOf : ab_OK M_X12_rowsOf 2 := tb_ok OC_X12 (by decide +kernel) (by decide +kernel) (ab_T_in (tb_c_in 9 _ (List.mem_of_getElem? (i := 114) (rfl : (tb_c 9)[114]? = some (Cond.code yX12_rowsOf cX12_rowsOf 7 (some .long))))) rfl) IN_X12
theorem v_X12_rowsOf : ab_kV M_X12_rowsOf 12 := ⟨(ab_T_in (tb_c_in 9 _ (List.mem_of_getElem? (i := 113) (rfl : (tb_c 9)[113]? = some (Cond.instanceMethod yX12_rowsOf)))) rfl), (ab_T_in (tb_c_in 0 _ (List.mem_of_getElem? (i := 106) (rfl : (tb_c 0)[106]? = some (Cond.selects RX12 yX12_rowsOf yX12_rowsOf)))) rfl), _, rfl, rfl⟩
def k_X12_see : List (Nat × Instr × Nat) :=
  [(0, .aload_n 0, 1), (1, .iconst 0, 1), (2, .putfield 145, 3), (5, .iload_n 1, 1), (6, .iconst 1, 1), (7, .bipush 60, 2), (9, .invokestatic 190, 3), (12, .ifCond .eq 42, 3),
   (15, .aload_n 0, 1), (16, .iload_n 2, 1), (17, .invokevirtual 480, 3), (20, .ifCond .eq 34, 3), (23, .iload_n 3, 1), (24, .iconst 0, 1), (25, .ldc 183, 2), (27, .invokestatic 190, 3),
   (30, .ifCond .eq 24, 3), (33, .aload_n 0, 1), (34, .iconst 2, 1), (35, .iload_n 1, 1), (36, .iload_n 2, 1), (37, .iload_n 3, 1), (38, .iload 4, 2), (40, .ifCond .eq 7, 3),
   (43, .iconst 1, 1), (44, .goto 4, 3), (47, .iconst 0, 1), (48, .invokevirtual 535, 3), (51, .goto 4, 3), (54, .iconst (-1), 1), (55, .ireturn, 1)]
def M_X12_see : ab_MD := (K_X12, yX12_see, cX12_see, 5, (some .int), false, k_X12_see)
theorem o_X12_see : ab_OK M_X12_see 4 := tb_ok OC_X12 (by decide +kernel) (by decide +kernel) (ab_T_in (tb_c_in 9 _ (List.mem_of_getElem? (i := 195) (rfl : (tb_c 9)[195]? = some (Cond.code yX12_see cX12_see 5 (some .int))))) rfl) IN_X12
theorem v_X12_see : ab_kV M_X12_see 12 := ⟨(ab_T_in (tb_c_in 9 _ (List.mem_of_getElem? (i := 193) (rfl : (tb_c 9)[193]? = some (Cond.instanceMethod yX12_see)))) rfl), (ab_T_in (tb_c_in 9 _ (List.mem_of_getElem? (i := 194) (rfl : (tb_c 9)[194]? = some (Cond.selects RX12 yX12_see yX12_see)))) rfl), _, rfl, rfl⟩
def k_X12_shape_0 : List (Nat × Instr × Nat) :=
  [(0, .aload_n 0, 1), (1, .iconst 0, 1), (2, .putfield 145, 3), (5, .aload_n 0, 1), (6, .iload_n 1, 1), (7, .invokevirtual 480, 3), (10, .ifCond .eq 12, 3), (13, .iload_n 2, 1),
   (14, .iconst 0, 1), (15, .iconst 1, 1), (16, .invokestatic 190, 3), (19, .ifCond .ne 5, 3), (22, .iconst (-1), 1), (23, .ireturn, 1), (24, .aload_n 0, 1), (25, .iconst 0, 1),
   (26, .iload_n 1, 1), (27, .invokevirtual 392, 3), (30, .istore_n 3, 1), (31, .iconst 0, 1), (32, .istore 4, 2), (34, .iconst 0, 1), (35, .istore 5, 2), (37, .iload 5, 2),
   (39, .aload_n 0, 1), (40, .getfield 225, 3), (43, .if_icmp .ge 42, 3), (46, .iload_n 3, 1), (47, .iload 5, 2), (49, .invokestatic 412, 3), (52, .ifCond .eq 27, 3), (55, .iload 4, 2),
   (57, .iconst 1, 1), (58, .aload_n 0, 1), (59, .getfield 30, 3), (62, .iload 5, 2), (64, .iaload, 1), (65, .ishl, 1), (66, .iconst 1, 1), (67, .aload_n 0, 1),
   (68, .getfield 33, 3), (71, .iload 5, 2), (73, .iaload, 1), (74, .ishl, 1), (75, .ixor, 1), (76, .ixor, 1), (77, .istore 4, 2), (79, .iinc 5 1, 3)]
def k_X12_shape_1 : List (Nat × Instr × Nat) :=
  [(82, .goto (-45), 3), (85, .iload_n 2, 1), (86, .ifCond .ne 9, 3), (89, .iload 4, 2), (91, .invokestatic 395, 3), (94, .ireturn, 1), (95, .iconst 0, 1), (96, .istore 5, 2),
   (98, .iload_n 3, 1), (99, .ifCond .eq 164, 3), (102, .iinc 5 1, 3), (105, .iconst 0, 1), (106, .istore 6, 2), (108, .bipush 8, 2), (110, .istore 7, 2), (112, .iload 7, 2),
   (114, .ifCond .lt 39, 3), (117, .iload_n 3, 1), (118, .iload 7, 2), (120, .invokestatic 412, 3), (123, .ifCond .eq 24, 3), (126, .iconst 1, 1), (127, .aload_n 0, 1), (128, .getfield 30, 3),
   (131, .iload 7, 2), (133, .iaload, 1), (134, .ishl, 1), (135, .iconst 1, 1), (136, .aload_n 0, 1), (137, .getfield 33, 3), (140, .iload 7, 2), (142, .iaload, 1),
   (143, .ishl, 1), (144, .ior, 1), (145, .istore 6, 2), (147, .iinc 7 (-1), 3), (150, .goto (-38), 3), (153, .iconst 0, 1), (154, .istore 7, 2), (156, .iload 7, 2),
   (158, .bipush 9, 2), (160, .if_icmp .ge 100, 3), (163, .iconst 0, 1), (164, .istore 8, 2), (166, .iload 8, 2), (168, .aload_n 0, 1), (169, .getfield 225, 3), (172, .if_icmp .ge 82, 3)]
def k_X12_shape_2 : List (Nat × Instr × Nat) :=
  [(175, .iload_n 3, 1), (176, .iload 8, 2), (178, .invokestatic 412, 3), (181, .ifCond .eq 67, 3), (184, .iload 6, 2), (186, .aload_n 0, 1), (187, .getfield 30, 3), (190, .iload 8, 2),
   (192, .iaload, 1), (193, .ishr, 1), (194, .iconst 1, 1), (195, .iand, 1), (196, .iload 6, 2), (198, .aload_n 0, 1), (199, .getfield 33, 3), (202, .iload 8, 2),
   (204, .iaload, 1), (205, .ishr, 1), (206, .iconst 1, 1), (207, .iand, 1), (208, .iadd, 1), (209, .ifCond .ne 6, 3), (212, .goto 36, 3), (215, .iload 6, 2),
   (217, .iconst 1, 1), (218, .aload_n 0, 1), (219, .getfield 30, 3), (222, .iload 8, 2), (224, .iaload, 1), (225, .ishl, 1), (226, .iconst 1, 1), (227, .aload_n 0, 1),
   (228, .getfield 33, 3), (231, .iload 8, 2), (233, .iaload, 1), (234, .ishl, 1), (235, .ior, 1), (236, .ior, 1), (237, .istore 6, 2), (239, .iload_n 3, 1),
   (240, .iconst 1, 1), (241, .iload 8, 2), (243, .ishl, 1), (244, .iconst (-1), 1), (245, .ixor, 1), (246, .iand, 1), (247, .istore_n 3, 1), (248, .iinc 8 1, 3)]
def k_X12_shape_3 : List (Nat × Instr × Nat) :=
  [(251, .goto (-85), 3), (254, .iinc 7 1, 3), (257, .goto (-101), 3), (260, .goto (-162), 3), (263, .iload 5, 2), (265, .ireturn, 1)]
def k_X12_shape : List (Nat × Instr × Nat) := k_X12_shape_0 ++ (k_X12_shape_1 ++ (k_X12_shape_2 ++ (k_X12_shape_3)))
theorem r_X12_shape_0 : k_X12_shape_0.all (tb_rr cX12_shape) = true := by decide +kernel
theorem r_X12_shape_1 : k_X12_shape_1.all (tb_rr cX12_shape) = true := by decide +kernel
theorem r_X12_shape_2 : k_X12_shape_2.all (tb_rr cX12_shape) = true := by decide +kernel
theorem r_X12_shape_3 : k_X12_shape_3.all (tb_rr cX12_shape) = true := by decide +kernel
def M_X12_shape : ab_MD := (K_X12, yX12_shape, cX12_shape, 9, (some .int), false, k_X12_shape)
theorem o_X12_shape : ab_OK M_X12_shape 2 := tb_ok OC_X12 (by decide +kernel) (tb_app r_X12_shape_0 (tb_app r_X12_shape_1 (tb_app r_X12_shape_2 r_X12_shape_3))) (ab_T_in (tb_c_in 9 _ (List.mem_of_getElem? (i := 138) (rfl : (tb_c 9)[138]? = some (Cond.code yX12_shape cX12_shape 9 (some .int))))) rfl) IN_X12
theorem v_X12_shape : ab_kV M_X12_shape 12 := ⟨(ab_T_in (tb_c_in 9 _ (List.mem_of_getElem? (i := 136) (rfl : (tb_c 9)[136]? = some (Cond.instanceMethod yX12_shape)))) rfl), (ab_T_in (tb_c_in 9 _ (List.mem_of_getElem? (i := 137) (rfl : (tb_c 9)[137]? = some (Cond.selects RX12 yX12_shape yX12_shape)))) rfl), _, rfl, rfl⟩
def k_X12_shareLine : List (Nat × Instr × Nat) :=
  [(0, .aload_n 0, 1), (1, .invokevirtual 197, 3), (4, .aload_n 0, 1), (5, .aload_n 0, 1), (6, .getfield 42, 3), (9, .iconst 5, 1), (10, .aload_n 0, 1), (11, .getfield 210, 3),
   (14, .invokevirtual 255, 3), (17, .ifCond .ne 5, 3), (20, .iconst 0, 1), (21, .ireturn, 1), (22, .aload_n 0, 1), (23, .getfield 194, 3), (26, .istore_n 1, 1), (27, .aload_n 0, 1),
   (28, .getfield 154, 3), (31, .istore_n 2, 1), (32, .aload_n 0, 1), (33, .aload_n 0, 1), (34, .getfield 27, 3), (37, .bipush 9, 2), (39, .aload_n 0, 1), (40, .getfield 207, 3),
   (43, .invokevirtual 255, 3), (46, .ifCond .ne 5, 3), (49, .iconst 0, 1), (50, .ireturn, 1), (51, .aload_n 0, 1), (52, .getfield 39, 3), (55, .bipush 9, 2), (57, .aload_n 0, 1),
   (58, .getfield 194, 3), (61, .iadd, 1), (62, .iaload, 1), (63, .ifCond .lt 14, 3), (66, .aload_n 0, 1), (67, .iload_n 2, 1), (68, .putfield 154, 3), (71, .aload_n 0, 1),
   (72, .iconst 3, 1), (73, .invokevirtual 187, 3), (76, .ireturn, 1), (77, .aload_n 0, 1), (78, .getfield 39, 3), (81, .bipush 9, 2), (83, .aload_n 0, 1), (84, .getfield 194, 3),
   (87, .iadd, 1), (88, .iload_n 1, 1), (89, .iastore, 1), (90, .iconst 1, 1), (91, .ireturn, 1)]
def M_X12_shareLine : ab_MD := (K_X12, yX12_shareLine, cX12_shareLine, 3, (some .boolean), false, k_X12_shareLine)
theorem o_X12_shareLine : ab_OK M_X12_shareLine 0 := tb_ok OC_X12 (by decide +kernel) (by decide +kernel) (ab_T_in (tb_c_in 8 _ (List.mem_of_getElem? (i := 99) (rfl : (tb_c 8)[99]? = some (Cond.code yX12_shareLine cX12_shareLine 3 (some .boolean))))) rfl) IN_X12
theorem v_X12_shareLine : ab_kV M_X12_shareLine 12 := ⟨(ab_T_in (tb_c_in 8 _ (List.mem_of_getElem? (i := 98) (rfl : (tb_c 8)[98]? = some (Cond.instanceMethod yX12_shareLine)))) rfl), (ab_T_in (tb_c_in 0 _ (List.mem_of_getElem? (i := 62) (rfl : (tb_c 0)[62]? = some (Cond.selects RX12 yX12_shareLine yX12_shareLine)))) rfl), _, rfl, rfl⟩
def k_X12_signToken_0 : List (Nat × Instr × Nat) :=
  [(0, .aload_n 0, 1), (1, .aload_n 0, 1), (2, .getfield 7, 3), (5, .aload_n 0, 1), (6, .getfield 160, 3), (9, .iaload, 1), (10, .putfield 174, 3), (13, .aload_n 0, 1),
   (14, .dup, 1), (15, .getfield 160, 3), (18, .iconst 1, 1), (19, .iadd, 1), (20, .putfield 160, 3), (23, .aload_n 0, 1), (24, .getfield 174, 3), (27, .bipush 60, 2),
   (29, .if_icmp .eq 21, 3), (32, .aload_n 0, 1), (33, .getfield 174, 3), (36, .bipush 62, 2), (38, .if_icmp .eq 12, 3), (41, .aload_n 0, 1), (42, .getfield 174, 3), (45, .bipush 61, 2),
   (47, .if_icmp .ne 151, 3), (50, .aload_n 0, 1), (51, .getfield 160, 3), (54, .aload_n 0, 1), (55, .getfield 157, 3), (58, .if_icmp .ge 15, 3), (61, .aload_n 0, 1), (62, .getfield 7, 3),
   (65, .aload_n 0, 1), (66, .getfield 160, 3), (69, .iaload, 1), (70, .goto 4, 3), (73, .iconst 0, 1), (74, .istore_n 1, 1), (75, .aload_n 0, 1), (76, .getfield 174, 3),
   (79, .bipush 61, 2), (81, .if_icmp .eq 13, 3), (84, .iload_n 1, 1), (85, .bipush 61, 2), (87, .if_icmp .ne 7, 3), (90, .iconst 1, 1), (91, .goto 4, 3), (94, .iconst 0, 1)]
def k_X12_signToken_1 : List (Nat × Instr × Nat) :=
  [(95, .istore_n 2, 1), (96, .aload_n 0, 1), (97, .getfield 174, 3), (100, .bipush 60, 2), (102, .if_icmp .ne 13, 3), (105, .iload_n 1, 1), (106, .bipush 62, 2), (108, .if_icmp .ne 7, 3),
   (111, .iconst 1, 1), (112, .goto 4, 3), (115, .iconst 0, 1), (116, .istore_n 3, 1), (117, .iload_n 2, 1), (118, .ifCond .ne 7, 3), (121, .iload_n 3, 1), (122, .ifCond .eq 13, 3),
   (125, .aload_n 0, 1), (126, .dup, 1), (127, .getfield 160, 3), (130, .iconst 1, 1), (131, .iadd, 1), (132, .putfield 160, 3), (135, .aload_n 0, 1), (136, .iconst 5, 1),
   (137, .putfield 163, 3), (140, .aload_n 0, 1), (141, .aload_n 0, 1), (142, .getfield 174, 3), (145, .bipush 61, 2), (147, .if_icmp .ne 7, 3), (150, .iconst 2, 1), (151, .goto 41, 3),
   (154, .aload_n 0, 1), (155, .getfield 174, 3), (158, .bipush 60, 2), (160, .if_icmp .ne 23, 3), (163, .iload_n 2, 1), (164, .ifCond .eq 7, 3), (167, .iconst 1, 1), (168, .goto 24, 3),
   (171, .iload_n 3, 1), (172, .ifCond .eq 7, 3), (175, .iconst 3, 1), (176, .goto 16, 3), (179, .iconst 0, 1), (180, .goto 12, 3), (183, .iload_n 2, 1), (184, .ifCond .eq 7, 3)]
def k_X12_signToken_2 : List (Nat × Instr × Nat) :=
  [(187, .iconst 4, 1), (188, .goto 4, 3), (191, .iconst 5, 1), (192, .putfield 174, 3), (195, .goto 95, 3), (198, .aload_n 0, 1), (199, .getfield 174, 3), (202, .bipush 59, 2),
   (204, .if_icmp .eq 66, 3), (207, .aload_n 0, 1), (208, .getfield 174, 3), (211, .bipush 40, 2), (213, .if_icmp .eq 57, 3), (216, .aload_n 0, 1), (217, .getfield 174, 3), (220, .bipush 41, 2),
   (222, .if_icmp .eq 48, 3), (225, .aload_n 0, 1), (226, .getfield 174, 3), (229, .bipush 43, 2), (231, .if_icmp .eq 39, 3), (234, .aload_n 0, 1), (235, .getfield 174, 3), (238, .bipush 45, 2),
   (240, .if_icmp .eq 30, 3), (243, .aload_n 0, 1), (244, .getfield 174, 3), (247, .bipush 42, 2), (249, .if_icmp .eq 21, 3), (252, .aload_n 0, 1), (253, .getfield 174, 3), (256, .bipush 47, 2),
   (258, .if_icmp .eq 12, 3), (261, .aload_n 0, 1), (262, .getfield 174, 3), (265, .bipush 37, 2), (267, .if_icmp .ne 7, 3), (270, .iconst 1, 1), (271, .goto 4, 3), (274, .iconst 0, 1),
   (275, .istore_n 1, 1), (276, .aload_n 0, 1), (277, .iload_n 1, 1), (278, .ifCond .eq 7, 3), (281, .iconst 4, 1), (282, .goto 5, 3), (285, .bipush 6, 2), (287, .putfield 163, 3)]
def k_X12_signToken_3 : List (Nat × Instr × Nat) :=
  [(290, .return_, 1)]
def k_X12_signToken : List (Nat × Instr × Nat) := k_X12_signToken_0 ++ (k_X12_signToken_1 ++ (k_X12_signToken_2 ++ (k_X12_signToken_3)))
theorem r_X12_signToken_0 : k_X12_signToken_0.all (tb_rr cX12_signToken) = true := by decide +kernel
theorem r_X12_signToken_1 : k_X12_signToken_1.all (tb_rr cX12_signToken) = true := by decide +kernel
theorem r_X12_signToken_2 : k_X12_signToken_2.all (tb_rr cX12_signToken) = true := by decide +kernel
theorem r_X12_signToken_3 : k_X12_signToken_3.all (tb_rr cX12_signToken) = true := by decide +kernel
def M_X12_signToken : ab_MD := (K_X12, yX12_signToken, cX12_signToken, 4, none, false, k_X12_signToken)
theorem o_X12_signToken : ab_OK M_X12_signToken 0 := tb_ok OC_X12 (by decide +kernel) (tb_app r_X12_signToken_0 (tb_app r_X12_signToken_1 (tb_app r_X12_signToken_2 r_X12_signToken_3))) (ab_T_in (tb_c_in 8 _ (List.mem_of_getElem? (i := 65) (rfl : (tb_c 8)[65]? = some (Cond.code yX12_signToken cX12_signToken 4 none)))) rfl) IN_X12
theorem v_X12_signToken : ab_kV M_X12_signToken 12 := ⟨(ab_T_in (tb_c_in 8 _ (List.mem_of_getElem? (i := 64) (rfl : (tb_c 8)[64]? = some (Cond.instanceMethod yX12_signToken)))) rfl), (ab_T_in (tb_c_in 0 _ (List.mem_of_getElem? (i := 55) (rfl : (tb_c 0)[55]? = some (Cond.selects RX12 yX12_signToken yX12_signToken)))) rfl), _, rfl, rfl⟩
def k_X12_signs_0 : List (Nat × Instr × Nat) :=
  [(0, .aload_n 0, 1), (1, .bipush 41, 2), (3, .invokevirtual 200, 3), (6, .ifCond .eq 41, 3), (9, .aload_n 0, 1), (10, .getfield 301, 3), (13, .ifCond .le 34, 3), (16, .aload_n 0, 1),
   (17, .iconst 1, 1), (18, .invokevirtual 324, 3), (21, .aload_n 0, 1), (22, .dup, 1), (23, .getfield 286, 3), (26, .iconst 1, 1), (27, .isub, 1), (28, .putfield 286, 3),
   (31, .aload_n 0, 1), (32, .dup, 1), (33, .getfield 301, 3), (36, .iconst 1, 1), (37, .isub, 1), (38, .putfield 301, 3), (41, .aload_n 0, 1), (42, .invokevirtual 197, 3),
   (45, .iconst 1, 1), (46, .ireturn, 1), (47, .aload_n 0, 1), (48, .bipush 11, 2), (50, .invokevirtual 312, 3), (53, .ifCond .eq 7, 3), (56, .iconst 3, 1), (57, .goto 90, 3),
   (60, .aload_n 0, 1), (61, .bipush 12, 2), (63, .invokevirtual 312, 3), (66, .ifCond .eq 7, 3), (69, .iconst 4, 1), (70, .goto 77, 3), (73, .aload_n 0, 1), (74, .getfield 163, 3),
   (77, .iconst 5, 1), (78, .if_icmp .ne 12, 3), (81, .iconst 5, 1), (82, .aload_n 0, 1), (83, .getfield 174, 3), (86, .iadd, 1), (87, .goto 60, 3), (90, .aload_n 0, 1)]
def k_X12_signs_1 : List (Nat × Instr × Nat) :=
  [(91, .bipush 43, 2), (93, .invokevirtual 200, 3), (96, .ifCond .eq 8, 3), (99, .bipush 11, 2), (101, .goto 46, 3), (104, .aload_n 0, 1), (105, .bipush 45, 2), (107, .invokevirtual 200, 3),
   (110, .ifCond .eq 8, 3), (113, .bipush 12, 2), (115, .goto 32, 3), (118, .aload_n 0, 1), (119, .bipush 42, 2), (121, .invokevirtual 200, 3), (124, .ifCond .eq 8, 3), (127, .bipush 13, 2),
   (129, .goto 18, 3), (132, .aload_n 0, 1), (133, .bipush 47, 2), (135, .invokevirtual 200, 3), (138, .ifCond .eq 8, 3), (141, .bipush 14, 2), (143, .goto 4, 3), (146, .iconst 0, 1),
   (147, .istore_n 1, 1), (148, .iload_n 1, 1), (149, .ifCond .ne 9, 3), (152, .aload_n 0, 1), (153, .iconst 1, 1), (154, .invokevirtual 187, 3), (157, .ireturn, 1), (158, .aload_n 0, 1),
   (159, .iload_n 1, 1), (160, .invokestatic 289, 3), (163, .iconst 4, 1), (164, .if_icmp .ne 7, 3), (167, .iconst 5, 1), (168, .goto 7, 3), (171, .iload_n 1, 1), (172, .invokestatic 289, 3),
   (175, .invokevirtual 324, 3), (178, .iload_n 1, 1), (179, .invokestatic 289, 3), (182, .iconst 4, 1), (183, .if_icmp .ne 34, 3), (186, .aload_n 0, 1), (187, .getfield 286, 3), (190, .ifCond .le 27, 3)]
def k_X12_signs_2 : List (Nat × Instr × Nat) :=
  [(193, .aload_n 0, 1), (194, .getfield 78, 3), (197, .aload_n 0, 1), (198, .getfield 286, 3), (201, .iconst 1, 1), (202, .isub, 1), (203, .iaload, 1), (204, .invokestatic 289, 3),
   (207, .iconst 4, 1), (208, .if_icmp .ne 9, 3), (211, .aload_n 0, 1), (212, .iconst 1, 1), (213, .invokevirtual 187, 3), (216, .ireturn, 1), (217, .aload_n 0, 1), (218, .invokevirtual 315, 3),
   (221, .ifCond .ne 5, 3), (224, .iconst 0, 1), (225, .ireturn, 1), (226, .aload_n 0, 1), (227, .iload_n 1, 1), (228, .invokevirtual 304, 3), (231, .aload_n 0, 1), (232, .iconst 1, 1),
   (233, .putfield 321, 3), (236, .aload_n 0, 1), (237, .iload_n 1, 1), (238, .invokestatic 289, 3), (241, .iconst 3, 1), (242, .if_icmp .ge 7, 3), (245, .iconst 1, 1), (246, .goto 4, 3),
   (249, .iconst 0, 1), (250, .putfield 308, 3), (253, .aload_n 0, 1), (254, .invokevirtual 197, 3), (257, .iconst 1, 1), (258, .ireturn, 1)]
def k_X12_signs : List (Nat × Instr × Nat) := k_X12_signs_0 ++ (k_X12_signs_1 ++ (k_X12_signs_2))
theorem r_X12_signs_0 : k_X12_signs_0.all (tb_rr cX12_signs) = true := by decide +kernel
theorem r_X12_signs_1 : k_X12_signs_1.all (tb_rr cX12_signs) = true := by decide +kernel
theorem r_X12_signs_2 : k_X12_signs_2.all (tb_rr cX12_signs) = true := by decide +kernel
def M_X12_signs : ab_MD := (K_X12, yX12_signs, cX12_signs, 2, (some .boolean), false, k_X12_signs)
theorem o_X12_signs : ab_OK M_X12_signs 0 := tb_ok OC_X12 (by decide +kernel) (tb_app r_X12_signs_0 (tb_app r_X12_signs_1 r_X12_signs_2)) (ab_T_in (tb_c_in 8 _ (List.mem_of_getElem? (i := 151) (rfl : (tb_c 8)[151]? = some (Cond.code yX12_signs cX12_signs 2 (some .boolean))))) rfl) IN_X12
theorem v_X12_signs : ab_kV M_X12_signs 12 := ⟨(ab_T_in (tb_c_in 8 _ (List.mem_of_getElem? (i := 150) (rfl : (tb_c 8)[150]? = some (Cond.instanceMethod yX12_signs)))) rfl), (ab_T_in (tb_c_in 0 _ (List.mem_of_getElem? (i := 75) (rfl : (tb_c 0)[75]? = some (Cond.selects RX12 yX12_signs yX12_signs)))) rfl), _, rfl, rfl⟩
def k_X12_spends_0 : List (Nat × Instr × Nat) :=
  [(0, .aload_n 0, 1), (1, .getfield 94, 3), (4, .iconst 5, 1), (5, .iload_n 1, 1), (6, .imul, 1), (7, .iload_n 2, 1), (8, .iadd, 1), (9, .aload_n 0, 1),
   (10, .getfield 94, 3), (13, .iconst 5, 1), (14, .iload_n 1, 1), (15, .imul, 1), (16, .iload_n 2, 1), (17, .iadd, 1), (18, .iaload, 1), (19, .aload_n 0, 1),
   (20, .getfield 424, 3), (23, .iadd, 1), (24, .ldc 183, 2), (26, .if_icmp .le 8, 3), (29, .ldc 183, 2), (31, .goto 18, 3), (34, .aload_n 0, 1), (35, .getfield 94, 3),
   (38, .iconst 5, 1), (39, .iload_n 1, 1), (40, .imul, 1), (41, .iload_n 2, 1), (42, .iadd, 1), (43, .iaload, 1), (44, .aload_n 0, 1), (45, .getfield 424, 3),
   (48, .iadd, 1), (49, .iastore, 1), (50, .aload_n 0, 1), (51, .getfield 97, 3), (54, .iconst 5, 1), (55, .iload_n 1, 1), (56, .imul, 1), (57, .iload_n 2, 1),
   (58, .iadd, 1), (59, .dup2, 1), (60, .iaload, 1), (61, .iconst 1, 1), (62, .iadd, 1), (63, .iastore, 1), (64, .iconst 0, 1), (65, .istore_n 3, 1)]
def k_X12_spends_1 : List (Nat × Instr × Nat) :=
  [(66, .iload_n 3, 1), (67, .aload_n 0, 1), (68, .getfield 225, 3), (71, .if_icmp .ge 51, 3), (74, .aload_n 0, 1), (75, .getfield 91, 3), (78, .bipush 9, 2), (80, .iload_n 1, 1),
   (81, .imul, 1), (82, .iload_n 3, 1), (83, .iadd, 1), (84, .aload_n 0, 1), (85, .getfield 91, 3), (88, .bipush 9, 2), (90, .iload_n 1, 1), (91, .imul, 1),
   (92, .iload_n 3, 1), (93, .iadd, 1), (94, .iaload, 1), (95, .iload_n 2, 1), (96, .if_icmp .ne 8, 3), (99, .bipush (-3), 2), (101, .goto 14, 3), (104, .aload_n 0, 1),
   (105, .getfield 91, 3), (108, .bipush 9, 2), (110, .iload_n 1, 1), (111, .imul, 1), (112, .iload_n 3, 1), (113, .iadd, 1), (114, .iaload, 1), (115, .iastore, 1),
   (116, .iinc 3 1, 3), (119, .goto (-53), 3), (122, .return_, 1)]
def k_X12_spends : List (Nat × Instr × Nat) := k_X12_spends_0 ++ (k_X12_spends_1)
theorem r_X12_spends_0 : k_X12_spends_0.all (tb_rr cX12_spends) = true := by decide +kernel
theorem r_X12_spends_1 : k_X12_spends_1.all (tb_rr cX12_spends) = true := by decide +kernel
def M_X12_spends : ab_MD := (K_X12, yX12_spends, cX12_spends, 4, none, false, k_X12_spends)
theorem o_X12_spends : ab_OK M_X12_spends 2 := tb_ok OC_X12 (by decide +kernel) (tb_app r_X12_spends_0 r_X12_spends_1) (ab_T_in (tb_c_in 9 _ (List.mem_of_getElem? (i := 57) (rfl : (tb_c 9)[57]? = some (Cond.code yX12_spends cX12_spends 4 none)))) rfl) IN_X12
theorem v_X12_spends : ab_kV M_X12_spends 12 := ⟨(ab_T_in (tb_c_in 9 _ (List.mem_of_getElem? (i := 56) (rfl : (tb_c 9)[56]? = some (Cond.instanceMethod yX12_spends)))) rfl), (ab_T_in (tb_c_in 0 _ (List.mem_of_getElem? (i := 97) (rfl : (tb_c 0)[97]? = some (Cond.selects RX12 yX12_spends yX12_spends)))) rfl), _, rfl, rfl⟩
def k_X12_stateOf : List (Nat × Instr × Nat) :=
  [(0, .bipush 49, 2), (2, .iload_n 0, 1), (3, .imul, 1), (4, .bipush 7, 2), (6, .iload_n 1, 1), (7, .imul, 1), (8, .iadd, 1), (9, .iload_n 2, 1),
   (10, .iadd, 1), (11, .ireturn, 1)]
def M_X12_stateOf : ab_MD := (K_X12, yX12_stateOf, cX12_stateOf, 3, (some .int), false, k_X12_stateOf)
theorem o_X12_stateOf : ab_OK M_X12_stateOf 3 := tb_ok OC_X12 (by decide +kernel) (by decide +kernel) (ab_T_in (tb_c_in 9 _ (List.mem_of_getElem? (i := 169) (rfl : (tb_c 9)[169]? = some (Cond.code yX12_stateOf cX12_stateOf 3 (some .int))))) rfl) IN_X12
theorem s_X12_stateOf : Cond.static M_X12_stateOf.2.1 ∈ ab_T := (ab_T_in (tb_c_in 9 _ (List.mem_of_getElem? (i := 168) (rfl : (tb_c 9)[168]? = some (Cond.static yX12_stateOf)))) rfl)
def k_X12_strike : List (Nat × Instr × Nat) :=
  [(0, .aload_n 0, 1), (1, .iconst 0, 1), (2, .putfield 145, 3), (5, .iload_n 1, 1), (6, .ifCond .lt 11, 3), (9, .iload_n 1, 1), (10, .aload_n 0, 1), (11, .getfield 365, 3),
   (14, .if_icmp .lt 7, 3), (17, .iconst (-1), 1), (18, .goto 12, 3), (21, .aload_n 0, 1), (22, .iconst 3, 1), (23, .iload_n 1, 1), (24, .iconst 0, 1), (25, .iconst 0, 1),
   (26, .iconst 0, 1), (27, .invokevirtual 535, 3), (30, .ireturn, 1)]
def M_X12_strike : ab_MD := (K_X12, yX12_strike, cX12_strike, 2, (some .int), false, k_X12_strike)
theorem o_X12_strike : ab_OK M_X12_strike 1 := tb_ok OC_X12 (by decide +kernel) (by decide +kernel) (ab_T_in (tb_c_in 9 _ (List.mem_of_getElem? (i := 199) (rfl : (tb_c 9)[199]? = some (Cond.code yX12_strike cX12_strike 2 (some .int))))) rfl) IN_X12
theorem v_X12_strike : ab_kV M_X12_strike 12 := ⟨(ab_T_in (tb_c_in 9 _ (List.mem_of_getElem? (i := 197) (rfl : (tb_c 9)[197]? = some (Cond.instanceMethod yX12_strike)))) rfl), (ab_T_in (tb_c_in 9 _ (List.mem_of_getElem? (i := 198) (rfl : (tb_c 9)[198]? = some (Cond.selects RX12 yX12_strike yX12_strike)))) rfl), _, rfl, rfl⟩
def k_X12_sumRead : List (Nat × Instr × Nat) :=
  [(0, .aload_n 0, 1), (1, .iconst 0, 1), (2, .putfield 286, 3), (5, .aload_n 0, 1), (6, .iconst 0, 1), (7, .putfield 283, 3), (10, .aload_n 0, 1), (11, .iconst 0, 1),
   (12, .putfield 301, 3), (15, .aload_n 0, 1), (16, .iconst 1, 1), (17, .putfield 321, 3), (20, .aload_n 0, 1), (21, .iconst 1, 1), (22, .putfield 308, 3), (25, .aload_n 0, 1),
   (26, .bipush 59, 2), (28, .invokevirtual 200, 3), (31, .ifCond .eq 17, 3), (34, .aload_n 0, 1), (35, .getfield 321, 3), (38, .ifCond .ne 10, 3), (41, .aload_n 0, 1), (42, .getfield 301, 3),
   (45, .ifCond .le 29, 3), (48, .aload_n 0, 1), (49, .getfield 321, 3), (52, .ifCond .eq 13, 3), (55, .aload_n 0, 1), (56, .invokevirtual 327, 3), (59, .ifCond .eq 13, 3), (62, .goto (-37), 3),
   (65, .aload_n 0, 1), (66, .invokevirtual 330, 3), (69, .ifCond .ne (-44), 3), (72, .iconst 0, 1), (73, .ireturn, 1), (74, .aload_n 0, 1), (75, .iconst 1, 1), (76, .invokevirtual 324, 3),
   (79, .iconst 1, 1), (80, .ireturn, 1)]
def M_X12_sumRead : ab_MD := (K_X12, yX12_sumRead, cX12_sumRead, 1, (some .boolean), false, k_X12_sumRead)
theorem o_X12_sumRead : ab_OK M_X12_sumRead 0 := tb_ok OC_X12 (by decide +kernel) (by decide +kernel) (ab_T_in (tb_c_in 8 _ (List.mem_of_getElem? (i := 119) (rfl : (tb_c 8)[119]? = some (Cond.code yX12_sumRead cX12_sumRead 1 (some .boolean))))) rfl) IN_X12
theorem v_X12_sumRead : ab_kV M_X12_sumRead 12 := ⟨(ab_T_in (tb_c_in 8 _ (List.mem_of_getElem? (i := 118) (rfl : (tb_c 8)[118]? = some (Cond.instanceMethod yX12_sumRead)))) rfl), (ab_T_in (tb_c_in 0 _ (List.mem_of_getElem? (i := 67) (rfl : (tb_c 0)[67]? = some (Cond.selects RX12 yX12_sumRead yX12_sumRead)))) rfl), _, rfl, rfl⟩
def k_X12_swaps_0 : List (Nat × Instr × Nat) :=
  [(0, .aload_n 0, 1), (1, .iconst 0, 1), (2, .putfield 145, 3), (5, .aload_n 0, 1), (6, .iload_n 1, 1), (7, .invokevirtual 480, 3), (10, .ifCond .ne 5, 3), (13, .iconst (-1), 1),
   (14, .ireturn, 1), (15, .aload_n 0, 1), (16, .invokevirtual 362, 3), (19, .aload_n 0, 1), (20, .iconst 0, 1), (21, .invokevirtual 462, 3), (24, .aload_n 0, 1), (25, .iconst 0, 1),
   (26, .iload_n 1, 1), (27, .invokevirtual 392, 3), (30, .istore_n 2, 1), (31, .iload_n 2, 1), (32, .ifCond .ne 6, 3), (35, .bipush (-2), 2), (37, .ireturn, 1), (38, .aload_n 0, 1),
   (39, .iload_n 2, 1), (40, .invokevirtual 512, 3), (43, .ifCond .eq 5, 3), (46, .iconst 0, 1), (47, .ireturn, 1), (48, .iconst 0, 1), (49, .istore_n 3, 1), (50, .iconst 0, 1),
   (51, .istore 4, 2), (53, .iload 4, 2), (55, .aload_n 0, 1), (56, .getfield 225, 3), (59, .if_icmp .ge 165, 3), (62, .iconst 0, 1), (63, .istore 5, 2), (65, .iload 5, 2),
   (67, .aload_n 0, 1), (68, .getfield 225, 3), (71, .if_icmp .ge 147, 3), (74, .aload_n 0, 1), (75, .iload_n 1, 1), (76, .iload 4, 2), (78, .iload 5, 2), (80, .invokevirtual 515, 3)]
def k_X12_swaps_1 : List (Nat × Instr × Nat) :=
  [(83, .ifCond .ne 6, 3), (86, .goto 126, 3), (89, .iload_n 2, 1), (90, .iconst 1, 1), (91, .iload 4, 2), (93, .ishl, 1), (94, .iconst (-1), 1), (95, .ixor, 1),
   (96, .iand, 1), (97, .iconst 1, 1), (98, .iload 5, 2), (100, .ishl, 1), (101, .ior, 1), (102, .istore 6, 2), (104, .aload_n 0, 1), (105, .iload 6, 2),
   (107, .invokevirtual 512, 3), (110, .ifCond .eq 5, 3), (113, .iconst 1, 1), (114, .ireturn, 1), (115, .iconst 0, 1), (116, .istore 7, 2), (118, .iload 7, 2), (120, .aload_n 0, 1),
   (121, .getfield 225, 3), (124, .if_icmp .ge 88, 3), (127, .iload_n 3, 1), (128, .ifCond .ne 84, 3), (131, .iconst 0, 1), (132, .istore 8, 2), (134, .iload 8, 2), (136, .aload_n 0, 1),
   (137, .getfield 225, 3), (140, .if_icmp .ge 66, 3), (143, .iload_n 3, 1), (144, .ifCond .ne 62, 3), (147, .iload 7, 2), (149, .iload 4, 2), (151, .if_icmp .eq 47, 3), (154, .iload 8, 2),
   (156, .iload 5, 2), (158, .if_icmp .eq 40, 3), (161, .aload_n 0, 1), (162, .iload_n 1, 1), (163, .iload 7, 2), (165, .iload 8, 2), (167, .invokevirtual 515, 3), (170, .ifCond .eq 28, 3)]
def k_X12_swaps_2 : List (Nat × Instr × Nat) :=
  [(173, .aload_n 0, 1), (174, .iload 6, 2), (176, .iconst 1, 1), (177, .iload 7, 2), (179, .ishl, 1), (180, .iconst (-1), 1), (181, .ixor, 1), (182, .iand, 1),
   (183, .iconst 1, 1), (184, .iload 8, 2), (186, .ishl, 1), (187, .ior, 1), (188, .invokevirtual 512, 3), (191, .ifCond .eq 7, 3), (194, .iconst 1, 1), (195, .goto 4, 3),
   (198, .iconst 0, 1), (199, .istore_n 3, 1), (200, .iinc 8 1, 3), (203, .goto (-69), 3), (206, .iinc 7 1, 3), (209, .goto (-91), 3), (212, .iinc 5 1, 3), (215, .goto (-150), 3),
   (218, .iinc 4 1, 3), (221, .goto (-168), 3), (224, .iload_n 3, 1), (225, .ifCond .eq 7, 3), (228, .iconst 2, 1), (229, .goto 5, 3), (232, .bipush (-2), 2), (234, .ireturn, 1)]
def k_X12_swaps : List (Nat × Instr × Nat) := k_X12_swaps_0 ++ (k_X12_swaps_1 ++ (k_X12_swaps_2))
theorem r_X12_swaps_0 : k_X12_swaps_0.all (tb_rr cX12_swaps) = true := by decide +kernel
theorem r_X12_swaps_1 : k_X12_swaps_1.all (tb_rr cX12_swaps) = true := by decide +kernel
theorem r_X12_swaps_2 : k_X12_swaps_2.all (tb_rr cX12_swaps) = true := by decide +kernel
def M_X12_swaps : ab_MD := (K_X12, yX12_swaps, cX12_swaps, 9, (some .int), false, k_X12_swaps)
theorem o_X12_swaps : ab_OK M_X12_swaps 1 := tb_ok OC_X12 (by decide +kernel) (tb_app r_X12_swaps_0 (tb_app r_X12_swaps_1 r_X12_swaps_2)) (ab_T_in (tb_c_in 9 _ (List.mem_of_getElem? (i := 142) (rfl : (tb_c 9)[142]? = some (Cond.code yX12_swaps cX12_swaps 9 (some .int))))) rfl) IN_X12
theorem v_X12_swaps : ab_kV M_X12_swaps 12 := ⟨(ab_T_in (tb_c_in 9 _ (List.mem_of_getElem? (i := 140) (rfl : (tb_c 9)[140]? = some (Cond.instanceMethod yX12_swaps)))) rfl), (ab_T_in (tb_c_in 9 _ (List.mem_of_getElem? (i := 141) (rfl : (tb_c 9)[141]? = some (Cond.selects RX12 yX12_swaps yX12_swaps)))) rfl), _, rfl, rfl⟩
def k_X12_take : List (Nat × Instr × Nat) :=
  [(0, .iconst 0, 1), (1, .istore_n 3, 1), (2, .iload_n 3, 1), (3, .bipush 9, 2), (5, .if_icmp .ge 20, 3), (8, .aload_n 0, 1), (9, .getfield 91, 3), (12, .iload_n 3, 1),
   (13, .aload_n 1, 1), (14, .iload_n 2, 1), (15, .iload_n 3, 1), (16, .iadd, 1), (17, .iaload, 1), (18, .iastore, 1), (19, .iinc 3 1, 3), (22, .goto (-20), 3),
   (25, .iconst 0, 1), (26, .istore_n 3, 1), (27, .iload_n 3, 1), (28, .iconst 5, 1), (29, .if_icmp .ge 37, 3), (32, .aload_n 0, 1), (33, .getfield 94, 3), (36, .iload_n 3, 1),
   (37, .aload_n 1, 1), (38, .iload_n 2, 1), (39, .bipush 9, 2), (41, .iadd, 1), (42, .iload_n 3, 1), (43, .iadd, 1), (44, .iaload, 1), (45, .iastore, 1),
   (46, .aload_n 0, 1), (47, .getfield 97, 3), (50, .iload_n 3, 1), (51, .aload_n 1, 1), (52, .iload_n 2, 1), (53, .bipush 14, 2), (55, .iadd, 1), (56, .iload_n 3, 1),
   (57, .iadd, 1), (58, .iaload, 1), (59, .iastore, 1), (60, .iinc 3 1, 3), (63, .goto (-36), 3), (66, .return_, 1)]
def M_X12_take : ab_MD := (K_X12, yX12_take, cX12_take, 4, none, false, k_X12_take)
theorem o_X12_take : ab_OK M_X12_take 2 := tb_ok OC_X12 (by decide +kernel) (by decide +kernel) (ab_T_in (tb_c_in 10 _ (List.mem_of_getElem? (i := 23) (rfl : (tb_c 10)[23]? = some (Cond.code yX12_take cX12_take 4 none)))) rfl) IN_X12
theorem v_X12_take : ab_kV M_X12_take 12 := ⟨(ab_T_in (tb_c_in 10 _ (List.mem_of_getElem? (i := 22) (rfl : (tb_c 10)[22]? = some (Cond.instanceMethod yX12_take)))) rfl), (ab_T_in (tb_c_in 0 _ (List.mem_of_getElem? (i := 120) (rfl : (tb_c 0)[120]? = some (Cond.selects RX12 yX12_take yX12_take)))) rfl), _, rfl, rfl⟩
def k_X12_text : List (Nat × Instr × Nat) :=
  [(0, .aload_n 0, 1), (1, .iconst 0, 1), (2, .putfield 145, 3), (5, .iload_n 1, 1), (6, .ifCond .lt 11, 3), (9, .iload_n 1, 1), (10, .aload_n 0, 1), (11, .getfield 148, 3),
   (14, .if_icmp .le 6, 3), (17, .bipush (-2), 2), (19, .ireturn, 1), (20, .aload_n 0, 1), (21, .iload_n 1, 1), (22, .putfield 157, 3), (25, .aload_n 0, 1), (26, .iconst 0, 1),
   (27, .putfield 148, 3), (30, .aload_n 0, 1), (31, .iconst 0, 1), (32, .putfield 151, 3), (35, .aload_n 0, 1), (36, .iconst (-1), 1), (37, .putfield 16, 3), (40, .aload_n 0, 1),
   (41, .iconst 0, 1), (42, .putfield 160, 3), (45, .aload_n 0, 1), (46, .invokevirtual 139, 3), (49, .aload_n 0, 1), (50, .invokevirtual 197, 3), (53, .iconst 0, 1), (54, .istore_n 2, 1),
   (55, .aload_n 0, 1), (56, .getfield 163, 3), (59, .ifCond .eq 18, 3), (62, .aload_n 0, 1), (63, .invokevirtual 280, 3), (66, .ifCond .ne 5, 3), (69, .iconst (-1), 1), (70, .ireturn, 1),
   (71, .iinc 2 1, 3), (74, .goto (-19), 3), (77, .aload_n 0, 1), (78, .invokevirtual 142, 3), (81, .iload_n 2, 1), (82, .ireturn, 1)]
def M_X12_text : ab_MD := (K_X12, yX12_text, cX12_text, 3, (some .int), false, k_X12_text)
theorem o_X12_text : ab_OK M_X12_text 1 := tb_ok OC_X12 (by decide +kernel) (by decide +kernel) (ab_T_in (tb_c_in 8 _ (List.mem_of_getElem? (i := 40) (rfl : (tb_c 8)[40]? = some (Cond.code yX12_text cX12_text 3 (some .int))))) rfl) IN_X12
theorem v_X12_text : ab_kV M_X12_text 12 := ⟨(ab_T_in (tb_c_in 8 _ (List.mem_of_getElem? (i := 38) (rfl : (tb_c 8)[38]? = some (Cond.instanceMethod yX12_text)))) rfl), (ab_T_in (tb_c_in 8 _ (List.mem_of_getElem? (i := 39) (rfl : (tb_c 8)[39]? = some (Cond.selects RX12 yX12_text yX12_text)))) rfl), _, rfl, rfl⟩
def k_X12_thereIn : List (Nat × Instr × Nat) :=
  [(0, .aload_n 0, 1), (1, .getfield 163, 3), (4, .iconst 2, 1), (5, .if_icmp .eq 9, 3), (8, .aload_n 0, 1), (9, .iconst 1, 1), (10, .invokevirtual 187, 3), (13, .ireturn, 1),
   (14, .aload_n 1, 1), (15, .iload_n 2, 1), (16, .iload_n 3, 1), (17, .aload_n 0, 1), (18, .getfield 174, 3), (21, .invokestatic 247, 3), (24, .istore 4, 2), (26, .iload 4, 2),
   (28, .ifCond .ge 9, 3), (31, .aload_n 0, 1), (32, .iconst 4, 1), (33, .invokevirtual 187, 3), (36, .ireturn, 1), (37, .aload_n 0, 1), (38, .invokevirtual 197, 3), (41, .aload_n 0, 1),
   (42, .iload 4, 2), (44, .putfield 194, 3), (47, .iconst 1, 1), (48, .ireturn, 1)]
def M_X12_thereIn : ab_MD := (K_X12, yX12_thereIn, cX12_thereIn, 5, (some .boolean), false, k_X12_thereIn)
theorem o_X12_thereIn : ab_OK M_X12_thereIn 3 := tb_ok OC_X12 (by decide +kernel) (by decide +kernel) (ab_T_in (tb_c_in 8 _ (List.mem_of_getElem? (i := 103) (rfl : (tb_c 8)[103]? = some (Cond.code yX12_thereIn cX12_thereIn 5 (some .boolean))))) rfl) IN_X12
theorem v_X12_thereIn : ab_kV M_X12_thereIn 12 := ⟨(ab_T_in (tb_c_in 8 _ (List.mem_of_getElem? (i := 102) (rfl : (tb_c 8)[102]? = some (Cond.instanceMethod yX12_thereIn)))) rfl), (ab_T_in (tb_c_in 0 _ (List.mem_of_getElem? (i := 63) (rfl : (tb_c 0)[63]? = some (Cond.selects RX12 yX12_thereIn yX12_thereIn)))) rfl), _, rfl, rfl⟩
def k_X12_thrown : List (Nat × Instr × Nat) :=
  [(0, .aload_n 0, 1), (1, .getfield 145, 3), (4, .ireturn, 1)]
def M_X12_thrown : ab_MD := (K_X12, yX12_thrown, cX12_thrown, 1, (some .int), false, k_X12_thrown)
theorem o_X12_thrown : ab_OK M_X12_thrown 0 := tb_ok OC_X12 (by decide +kernel) (by decide +kernel) (ab_T_in (tb_c_in 8 _ (List.mem_of_getElem? (i := 32) (rfl : (tb_c 8)[32]? = some (Cond.code yX12_thrown cX12_thrown 1 (some .int))))) rfl) IN_X12
theorem v_X12_thrown : ab_kV M_X12_thrown 12 := ⟨(ab_T_in (tb_c_in 8 _ (List.mem_of_getElem? (i := 30) (rfl : (tb_c 8)[30]? = some (Cond.instanceMethod yX12_thrown)))) rfl), (ab_T_in (tb_c_in 8 _ (List.mem_of_getElem? (i := 31) (rfl : (tb_c 8)[31]? = some (Cond.selects RX12 yX12_thrown yX12_thrown)))) rfl), _, rfl, rfl⟩
def k_X12_times : List (Nat × Instr × Nat) :=
  [(0, .lload_n 1, 1), (1, .lconst 0, 1), (2, .lcmp, 1), (3, .ifCond .eq 45, 3), (6, .lload_n 3, 1), (7, .lconst 0, 1), (8, .lcmp, 1), (9, .ifCond .eq 39, 3),
   (12, .lload_n 3, 1), (13, .lconst 0, 1), (14, .lcmp, 1), (15, .ifCond .ge 8, 3), (18, .lload_n 3, 1), (19, .lneg, 1), (20, .goto 4, 3), (23, .lload_n 3, 1),
   (24, .ldc2_w 336, 3), (27, .lload_n 1, 1), (28, .lconst 0, 1), (29, .lcmp, 1), (30, .ifCond .ge 8, 3), (33, .lload_n 1, 1), (34, .lneg, 1), (35, .goto 4, 3),
   (38, .lload_n 1, 1), (39, .ldiv, 1), (40, .lcmp, 1), (41, .ifCond .le 7, 3), (44, .iconst 1, 1), (45, .goto 4, 3), (48, .iconst 0, 1), (49, .istore 5, 2),
   (51, .aload_n 0, 1), (52, .aload_n 0, 1), (53, .getfield 333, 3), (56, .ifCond .ne 8, 3), (59, .iload 5, 2), (61, .ifCond .eq 7, 3), (64, .iconst 1, 1), (65, .goto 4, 3),
   (68, .iconst 0, 1), (69, .putfield 333, 3), (72, .aload_n 0, 1), (73, .getfield 333, 3), (76, .ifCond .eq 7, 3), (79, .lconst 0, 1), (80, .goto 6, 3), (83, .lload_n 1, 1),
   (84, .lload_n 3, 1), (85, .lmul, 1), (86, .lreturn, 1)]
def M_X12_times : ab_MD := (K_X12, yX12_times, cX12_times, 6, (some .long), false, k_X12_times)
theorem o_X12_times : ab_OK M_X12_times 2 := tb_ok OC_X12 (by decide +kernel) (by decide +kernel) (ab_T_in (tb_c_in 8 _ (List.mem_of_getElem? (i := 230) (rfl : (tb_c 8)[230]? = some (Cond.code yX12_times cX12_times 6 (some .long))))) rfl) IN_X12
theorem v_X12_times : ab_kV M_X12_times 12 := ⟨(ab_T_in (tb_c_in 8 _ (List.mem_of_getElem? (i := 229) (rfl : (tb_c 8)[229]? = some (Cond.instanceMethod yX12_times)))) rfl), (ab_T_in (tb_c_in 0 _ (List.mem_of_getElem? (i := 87) (rfl : (tb_c 0)[87]? = some (Cond.selects RX12 yX12_times yX12_times)))) rfl), _, rfl, rfl⟩
def k_X12_token_0 : List (Nat × Instr × Nat) :=
  [(0, .aload_n 0, 1), (1, .getfield 160, 3), (4, .aload_n 0, 1), (5, .getfield 157, 3), (8, .if_icmp .ge 44, 3), (11, .aload_n 0, 1), (12, .getfield 7, 3), (15, .aload_n 0, 1),
   (16, .getfield 160, 3), (19, .iaload, 1), (20, .bipush 10, 2), (22, .if_icmp .eq 17, 3), (25, .aload_n 0, 1), (26, .getfield 7, 3), (29, .aload_n 0, 1), (30, .getfield 160, 3),
   (33, .iaload, 1), (34, .bipush 32, 2), (36, .if_icmp .ne 16, 3), (39, .aload_n 0, 1), (40, .dup, 1), (41, .getfield 160, 3), (44, .iconst 1, 1), (45, .iadd, 1),
   (46, .putfield 160, 3), (49, .goto (-49), 3), (52, .aload_n 0, 1), (53, .aload_n 0, 1), (54, .getfield 160, 3), (57, .putfield 154, 3), (60, .aload_n 0, 1), (61, .getfield 160, 3),
   (64, .aload_n 0, 1), (65, .getfield 157, 3), (68, .if_icmp .ne 11, 3), (71, .aload_n 0, 1), (72, .iconst 0, 1), (73, .putfield 163, 3), (76, .goto 205, 3), (79, .aload_n 0, 1),
   (80, .aload_n 0, 1), (81, .getfield 160, 3), (84, .invokevirtual 166, 3), (87, .ifCond .eq 105, 3), (90, .aload_n 0, 1), (91, .aload_n 0, 1), (92, .getfield 160, 3), (95, .invokevirtual 166, 3)]
def k_X12_token_1 : List (Nat × Instr × Nat) :=
  [(98, .ifCond .eq 16, 3), (101, .aload_n 0, 1), (102, .dup, 1), (103, .getfield 160, 3), (106, .iconst 1, 1), (107, .iadd, 1), (108, .putfield 160, 3), (111, .goto (-21), 3),
   (114, .aload_n 0, 1), (115, .aload_n 0, 1), (116, .aload_n 0, 1), (117, .getfield 154, 3), (120, .aload_n 0, 1), (121, .getfield 160, 3), (124, .invokevirtual 170, 3), (127, .putfield 174, 3),
   (130, .aload_n 0, 1), (131, .aload_n 0, 1), (132, .getfield 174, 3), (135, .ifCond .lt 7, 3), (138, .iconst 1, 1), (139, .goto 23, 3), (142, .aload_n 0, 1), (143, .getfield 160, 3),
   (146, .aload_n 0, 1), (147, .getfield 154, 3), (150, .isub, 1), (151, .bipush 6, 2), (153, .if_icmp .le 8, 3), (156, .bipush 6, 2), (158, .goto 4, 3), (161, .iconst 2, 1),
   (162, .putfield 163, 3), (165, .aload_n 0, 1), (166, .getfield 163, 3), (169, .iconst 2, 1), (170, .if_icmp .ne 111, 3), (173, .aload_n 0, 1), (174, .aload_n 0, 1), (175, .aload_n 0, 1),
   (176, .getfield 154, 3), (179, .aload_n 0, 1), (180, .getfield 160, 3), (183, .invokevirtual 177, 3), (186, .putfield 174, 3), (189, .goto 92, 3), (192, .aload_n 0, 1), (193, .aload_n 0, 1)]
def k_X12_token_2 : List (Nat × Instr × Nat) :=
  [(194, .getfield 160, 3), (197, .invokevirtual 180, 3), (200, .ifCond .eq 77, 3), (203, .aload_n 0, 1), (204, .iconst 3, 1), (205, .putfield 163, 3), (208, .aload_n 0, 1), (209, .iconst 0, 1),
   (210, .putfield 174, 3), (213, .aload_n 0, 1), (214, .aload_n 0, 1), (215, .getfield 160, 3), (218, .invokevirtual 180, 3), (221, .ifCond .eq 60, 3), (224, .aload_n 0, 1), (225, .aload_n 0, 1),
   (226, .getfield 174, 3), (229, .ldc 183, 2), (231, .if_icmp .le 10, 3), (234, .aload_n 0, 1), (235, .getfield 174, 3), (238, .goto 23, 3), (241, .bipush 10, 2), (243, .aload_n 0, 1),
   (244, .getfield 174, 3), (247, .imul, 1), (248, .aload_n 0, 1), (249, .getfield 7, 3), (252, .aload_n 0, 1), (253, .getfield 160, 3), (256, .iaload, 1), (257, .iadd, 1),
   (258, .bipush 48, 2), (260, .isub, 1), (261, .putfield 174, 3), (264, .aload_n 0, 1), (265, .dup, 1), (266, .getfield 160, 3), (269, .iconst 1, 1), (270, .iadd, 1),
   (271, .putfield 160, 3), (274, .goto (-61), 3), (277, .aload_n 0, 1), (278, .invokevirtual 184, 3), (281, .return_, 1)]
def k_X12_token : List (Nat × Instr × Nat) := k_X12_token_0 ++ (k_X12_token_1 ++ (k_X12_token_2))
theorem r_X12_token_0 : k_X12_token_0.all (tb_rr cX12_token) = true := by decide +kernel
theorem r_X12_token_1 : k_X12_token_1.all (tb_rr cX12_token) = true := by decide +kernel
theorem r_X12_token_2 : k_X12_token_2.all (tb_rr cX12_token) = true := by decide +kernel
def M_X12_token : ab_MD := (K_X12, yX12_token, cX12_token, 1, none, false, k_X12_token)
theorem o_X12_token : ab_OK M_X12_token 0 := tb_ok OC_X12 (by decide +kernel) (tb_app r_X12_token_0 (tb_app r_X12_token_1 r_X12_token_2)) (ab_T_in (tb_c_in 8 _ (List.mem_of_getElem? (i := 44) (rfl : (tb_c 8)[44]? = some (Cond.code yX12_token cX12_token 1 none)))) rfl) IN_X12
theorem v_X12_token : ab_kV M_X12_token 12 := ⟨(ab_T_in (tb_c_in 8 _ (List.mem_of_getElem? (i := 43) (rfl : (tb_c 8)[43]? = some (Cond.instanceMethod yX12_token)))) rfl), (ab_T_in (tb_c_in 0 _ (List.mem_of_getElem? (i := 50) (rfl : (tb_c 0)[50]? = some (Cond.selects RX12 yX12_token yX12_token)))) rfl), _, rfl, rfl⟩
def k_X12_tooMany : List (Nat × Instr × Nat) :=
  [(0, .aload_n 0, 1), (1, .iconst 0, 1), (2, .putfield 145, 3), (5, .aload_n 0, 1), (6, .iload_n 1, 1), (7, .invokevirtual 480, 3), (10, .ifCond .ne 5, 3), (13, .iconst (-1), 1),
   (14, .ireturn, 1), (15, .aload_n 0, 1), (16, .invokevirtual 362, 3), (19, .aload_n 0, 1), (20, .iconst 0, 1), (21, .invokevirtual 462, 3), (24, .aload_n 0, 1), (25, .iconst 0, 1),
   (26, .iload_n 1, 1), (27, .invokevirtual 392, 3), (30, .istore_n 2, 1), (31, .iconst 0, 1), (32, .istore_n 3, 1), (33, .iconst 0, 1), (34, .istore 4, 2), (36, .iload 4, 2),
   (38, .aload_n 0, 1), (39, .getfield 225, 3), (42, .if_icmp .ge 40, 3), (45, .iload_n 2, 1), (46, .iload 4, 2), (48, .invokestatic 412, 3), (51, .ifCond .eq 25, 3), (54, .aload_n 0, 1),
   (55, .iload_n 2, 1), (56, .iconst 1, 1), (57, .iload 4, 2), (59, .ishl, 1), (60, .iconst (-1), 1), (61, .ixor, 1), (62, .iand, 1), (63, .invokevirtual 512, 3),
   (66, .ifCond .eq 10, 3), (69, .iload_n 3, 1), (70, .iconst 1, 1), (71, .iload 4, 2), (73, .ishl, 1), (74, .ior, 1), (75, .istore_n 3, 1), (76, .iinc 4 1, 3),
   (79, .goto (-43), 3), (82, .iload_n 3, 1), (83, .ireturn, 1)]
def M_X12_tooMany : ab_MD := (K_X12, yX12_tooMany, cX12_tooMany, 5, (some .int), false, k_X12_tooMany)
theorem o_X12_tooMany : ab_OK M_X12_tooMany 1 := tb_ok OC_X12 (by decide +kernel) (by decide +kernel) (ab_T_in (tb_c_in 9 _ (List.mem_of_getElem? (i := 154) (rfl : (tb_c 9)[154]? = some (Cond.code yX12_tooMany cX12_tooMany 5 (some .int))))) rfl) IN_X12
theorem v_X12_tooMany : ab_kV M_X12_tooMany 12 := ⟨(ab_T_in (tb_c_in 9 _ (List.mem_of_getElem? (i := 152) (rfl : (tb_c 9)[152]? = some (Cond.instanceMethod yX12_tooMany)))) rfl), (ab_T_in (tb_c_in 9 _ (List.mem_of_getElem? (i := 153) (rfl : (tb_c 9)[153]? = some (Cond.selects RX12 yX12_tooMany yX12_tooMany)))) rfl), _, rfl, rfl⟩
def k_X12_trade : List (Nat × Instr × Nat) :=
  [(0, .aload_n 0, 1), (1, .iconst 0, 1), (2, .putfield 145, 3), (5, .aload_n 0, 1), (6, .invokevirtual 362, 3), (9, .aload_n 0, 1), (10, .iload_n 1, 1), (11, .invokevirtual 474, 3),
   (14, .ifCond .eq 16, 3), (17, .aload_n 0, 1), (18, .iload_n 2, 1), (19, .invokevirtual 474, 3), (22, .ifCond .eq 8, 3), (25, .iload_n 1, 1), (26, .iload_n 2, 1), (27, .if_icmp .ne 5, 3),
   (30, .iconst 0, 1), (31, .ireturn, 1), (32, .iconst 0, 1), (33, .istore_n 3, 1), (34, .iload_n 3, 1), (35, .bipush 9, 2), (37, .if_icmp .ge 24, 3), (40, .aload_n 0, 1),
   (41, .getfield 91, 3), (44, .bipush 9, 2), (46, .iload_n 3, 1), (47, .iadd, 1), (48, .aload_n 0, 1), (49, .getfield 91, 3), (52, .iload_n 3, 1), (53, .iaload, 1),
   (54, .iastore, 1), (55, .iinc 3 1, 3), (58, .goto (-24), 3), (61, .iconst 0, 1), (62, .istore_n 3, 1), (63, .iload_n 3, 1), (64, .iconst 5, 1), (65, .if_icmp .ge 23, 3),
   (68, .aload_n 0, 1), (69, .getfield 94, 3), (72, .iconst 5, 1), (73, .iload_n 3, 1), (74, .iadd, 1), (75, .aload_n 0, 1), (76, .getfield 94, 3), (79, .iload_n 3, 1),
   (80, .iaload, 1), (81, .iastore, 1), (82, .iinc 3 1, 3), (85, .goto (-22), 3), (88, .aload_n 0, 1), (89, .getfield 103, 3), (92, .iconst 1, 1), (93, .aload_n 0, 1),
   (94, .getfield 103, 3), (97, .iconst 0, 1), (98, .iaload, 1), (99, .iastore, 1), (100, .aload_n 0, 1), (101, .iconst 1, 1), (102, .iload_n 1, 1), (103, .iload_n 2, 1),
   (104, .invokevirtual 456, 3), (107, .ifCond .ne 5, 3), (110, .iconst 0, 1), (111, .ireturn, 1), (112, .aload_n 0, 1), (113, .invokevirtual 488, 3), (116, .aload_n 0, 1), (117, .iconst 0, 1),
   (118, .iload_n 1, 1), (119, .iload_n 2, 1), (120, .invokevirtual 456, 3), (123, .ireturn, 1)]
def M_X12_trade : ab_MD := (K_X12, yX12_trade, cX12_trade, 4, (some .boolean), false, k_X12_trade)
theorem o_X12_trade : ab_OK M_X12_trade 2 := tb_ok OC_X12 (by decide +kernel) (by decide +kernel) (ab_T_in (tb_c_in 9 _ (List.mem_of_getElem? (i := 25) (rfl : (tb_c 9)[25]? = some (Cond.code yX12_trade cX12_trade 4 (some .boolean))))) rfl) IN_X12
theorem v_X12_trade : ab_kV M_X12_trade 12 := ⟨(ab_T_in (tb_c_in 9 _ (List.mem_of_getElem? (i := 23) (rfl : (tb_c 9)[23]? = some (Cond.instanceMethod yX12_trade)))) rfl), (ab_T_in (tb_c_in 9 _ (List.mem_of_getElem? (i := 24) (rfl : (tb_c 9)[24]? = some (Cond.selects RX12 yX12_trade yX12_trade)))) rfl), _, rfl, rfl⟩
def k_X12_tradeLine_0 : List (Nat × Instr × Nat) :=
  [(0, .aload_n 0, 1), (1, .getfield 213, 3), (4, .bipush 8, 2), (6, .if_icmp .ne 9, 3), (9, .aload_n 0, 1), (10, .iconst 2, 1), (11, .invokevirtual 187, 3), (14, .ireturn, 1),
   (15, .aload_n 0, 1), (16, .invokevirtual 197, 3), (19, .bipush 8, 2), (21, .aload_n 0, 1), (22, .getfield 213, 3), (25, .iadd, 1), (26, .istore_n 1, 1), (27, .aload_n 0, 1),
   (28, .aload_n 0, 1), (29, .getfield 27, 3), (32, .bipush 9, 2), (34, .aload_n 0, 1), (35, .getfield 207, 3), (38, .invokevirtual 255, 3), (41, .ifCond .ne 5, 3), (44, .iconst 0, 1),
   (45, .ireturn, 1), (46, .aload_n 0, 1), (47, .getfield 45, 3), (50, .iload_n 1, 1), (51, .aload_n 0, 1), (52, .getfield 194, 3), (55, .iastore, 1), (56, .aload_n 0, 1),
   (57, .getfield 154, 3), (60, .istore_n 2, 1), (61, .aload_n 0, 1), (62, .aload_n 0, 1), (63, .getfield 27, 3), (66, .bipush 9, 2), (68, .aload_n 0, 1), (69, .getfield 207, 3),
   (72, .invokevirtual 255, 3), (75, .ifCond .ne 5, 3), (78, .iconst 0, 1), (79, .ireturn, 1), (80, .aload_n 0, 1), (81, .getfield 194, 3), (84, .aload_n 0, 1), (85, .getfield 45, 3)]
def k_X12_tradeLine_1 : List (Nat × Instr × Nat) :=
  [(88, .iload_n 1, 1), (89, .iaload, 1), (90, .if_icmp .ne 14, 3), (93, .aload_n 0, 1), (94, .iload_n 2, 1), (95, .putfield 154, 3), (98, .aload_n 0, 1), (99, .iconst 5, 1),
   (100, .invokevirtual 187, 3), (103, .ireturn, 1), (104, .aload_n 0, 1), (105, .getfield 48, 3), (108, .iload_n 1, 1), (109, .aload_n 0, 1), (110, .getfield 194, 3), (113, .iastore, 1),
   (114, .aload_n 0, 1), (115, .iconst 0, 1), (116, .bipush 99, 2), (118, .invokevirtual 203, 3), (121, .ifCond .ne 5, 3), (124, .iconst 0, 1), (125, .ireturn, 1), (126, .aload_n 0, 1),
   (127, .getfield 51, 3), (130, .iload_n 1, 1), (131, .aload_n 0, 1), (132, .getfield 194, 3), (135, .iastore, 1), (136, .aload_n 0, 1), (137, .dup, 1), (138, .getfield 213, 3),
   (141, .iconst 1, 1), (142, .iadd, 1), (143, .putfield 213, 3), (146, .iconst 1, 1), (147, .ireturn, 1)]
def k_X12_tradeLine : List (Nat × Instr × Nat) := k_X12_tradeLine_0 ++ (k_X12_tradeLine_1)
theorem r_X12_tradeLine_0 : k_X12_tradeLine_0.all (tb_rr cX12_tradeLine) = true := by decide +kernel
theorem r_X12_tradeLine_1 : k_X12_tradeLine_1.all (tb_rr cX12_tradeLine) = true := by decide +kernel
def M_X12_tradeLine : ab_MD := (K_X12, yX12_tradeLine, cX12_tradeLine, 3, (some .boolean), false, k_X12_tradeLine)
theorem o_X12_tradeLine : ab_OK M_X12_tradeLine 0 := tb_ok OC_X12 (by decide +kernel) (tb_app r_X12_tradeLine_0 r_X12_tradeLine_1) (ab_T_in (tb_c_in 8 _ (List.mem_of_getElem? (i := 107) (rfl : (tb_c 8)[107]? = some (Cond.code yX12_tradeLine cX12_tradeLine 3 (some .boolean))))) rfl) IN_X12
theorem v_X12_tradeLine : ab_kV M_X12_tradeLine 12 := ⟨(ab_T_in (tb_c_in 8 _ (List.mem_of_getElem? (i := 106) (rfl : (tb_c 8)[106]? = some (Cond.instanceMethod yX12_tradeLine)))) rfl), (ab_T_in (tb_c_in 0 _ (List.mem_of_getElem? (i := 64) (rfl : (tb_c 0)[64]? = some (Cond.selects RX12 yX12_tradeLine yX12_tradeLine)))) rfl), _, rfl, rfl⟩
def k_X12_tradesOne : List (Nat × Instr × Nat) :=
  [(0, .aload_n 0, 1), (1, .getfield 91, 3), (4, .bipush 9, 2), (6, .iload_n 1, 1), (7, .imul, 1), (8, .iload_n 2, 1), (9, .iadd, 1), (10, .iaload, 1),
   (11, .istore 4, 2), (13, .aload_n 0, 1), (14, .getfield 91, 3), (17, .bipush 9, 2), (19, .iload_n 1, 1), (20, .imul, 1), (21, .iload_n 3, 1), (22, .iadd, 1),
   (23, .iaload, 1), (24, .istore 5, 2), (26, .iload 4, 2), (28, .ifCond .lt 37, 3), (31, .iload 5, 2), (33, .ifCond .lt 32, 3), (36, .iload 4, 2), (38, .iload 5, 2),
   (40, .if_icmp .eq 25, 3), (43, .aload_n 0, 1), (44, .iload_n 1, 1), (45, .iload 4, 2), (47, .iload_n 3, 1), (48, .invokevirtual 447, 3), (51, .ifCond .eq 14, 3), (54, .aload_n 0, 1),
   (55, .iload_n 1, 1), (56, .iload 5, 2), (58, .iload_n 2, 1), (59, .invokevirtual 447, 3), (62, .ifCond .ne 5, 3), (65, .iconst 0, 1), (66, .ireturn, 1), (67, .aload_n 0, 1),
   (68, .getfield 91, 3), (71, .bipush 9, 2), (73, .iload_n 1, 1), (74, .imul, 1), (75, .iload_n 2, 1), (76, .iadd, 1), (77, .iload 5, 2), (79, .iastore, 1),
   (80, .aload_n 0, 1), (81, .getfield 91, 3), (84, .bipush 9, 2), (86, .iload_n 1, 1), (87, .imul, 1), (88, .iload_n 3, 1), (89, .iadd, 1), (90, .iload 4, 2),
   (92, .iastore, 1), (93, .iconst 1, 1), (94, .ireturn, 1)]
def M_X12_tradesOne : ab_MD := (K_X12, yX12_tradesOne, cX12_tradesOne, 6, (some .boolean), false, k_X12_tradesOne)
theorem o_X12_tradesOne : ab_OK M_X12_tradesOne 3 := tb_ok OC_X12 (by decide +kernel) (by decide +kernel) (ab_T_in (tb_c_in 9 _ (List.mem_of_getElem? (i := 29) (rfl : (tb_c 9)[29]? = some (Cond.code yX12_tradesOne cX12_tradesOne 6 (some .boolean))))) rfl) IN_X12
theorem v_X12_tradesOne : ab_kV M_X12_tradesOne 12 := ⟨(ab_T_in (tb_c_in 9 _ (List.mem_of_getElem? (i := 28) (rfl : (tb_c 9)[28]? = some (Cond.instanceMethod yX12_tradesOne)))) rfl), (ab_T_in (tb_c_in 0 _ (List.mem_of_getElem? (i := 92) (rfl : (tb_c 0)[92]? = some (Cond.selects RX12 yX12_tradesOne yX12_tradesOne)))) rfl), _, rfl, rfl⟩
def k_X12_tried_0 : List (Nat × Instr × Nat) :=
  [(0, .aload_n 0, 1), (1, .iconst 0, 1), (2, .putfield 145, 3), (5, .iload_n 1, 1), (6, .iconst 0, 1), (7, .iconst 4, 1), (8, .invokestatic 190, 3), (11, .ifCond .eq 33, 3),
   (14, .iload_n 3, 1), (15, .iconst 0, 1), (16, .bipush 99, 2), (18, .invokestatic 190, 3), (21, .ifCond .eq 23, 3), (24, .iload_n 1, 1), (25, .iconst 2, 1), (26, .if_icmp .ne 14, 3),
   (29, .aload_n 0, 1), (30, .iload_n 2, 1), (31, .invokevirtual 480, 3), (34, .ifCond .ne 12, 3), (37, .goto 7, 3), (40, .iload_n 2, 1), (41, .ifCond .eq 5, 3), (44, .iconst (-1), 1),
   (45, .ireturn, 1), (46, .aload_n 0, 1), (47, .invokevirtual 491, 3), (50, .aload_n 0, 1), (51, .iload_n 1, 1), (52, .ifCond .ne 7, 3), (55, .iconst 1, 1), (56, .goto 4, 3),
   (59, .iconst 0, 1), (60, .putfield 377, 3), (63, .aload_n 0, 1), (64, .iload_n 1, 1), (65, .iconst 1, 1), (66, .if_icmp .ne 7, 3), (69, .iconst 1, 1), (70, .goto 4, 3),
   (73, .iconst 0, 1), (74, .putfield 380, 3), (77, .aload_n 0, 1), (78, .iload_n 1, 1), (79, .iconst 2, 1), (80, .if_icmp .ne 7, 3), (83, .iload_n 2, 1), (84, .goto 4, 3)]
def k_X12_tried_1 : List (Nat × Instr × Nat) :=
  [(87, .iconst (-1), 1), (88, .putfield 386, 3), (91, .aload_n 0, 1), (92, .iload_n 1, 1), (93, .iconst 3, 1), (94, .if_icmp .ne 7, 3), (97, .iconst 1, 1), (98, .goto 9, 3),
   (101, .aload_n 0, 1), (102, .getfield 24, 3), (105, .iconst 0, 1), (106, .iaload, 1), (107, .putfield 389, 3), (110, .aload_n 0, 1), (111, .iload_n 1, 1), (112, .iconst 4, 1),
   (113, .if_icmp .ne 7, 3), (116, .iconst 1, 1), (117, .goto 4, 3), (120, .iconst 0, 1), (121, .putfield 383, 3), (124, .aload_n 0, 1), (125, .iload_n 3, 1), (126, .invokevirtual 494, 3),
   (129, .aload_n 0, 1), (130, .invokevirtual 362, 3), (133, .aload_n 0, 1), (134, .iconst 1, 1), (135, .invokevirtual 561, 3), (138, .aload_n 0, 1), (139, .iconst 0, 1), (140, .invokevirtual 561, 3),
   (143, .isub, 1), (144, .ireturn, 1)]
def k_X12_tried : List (Nat × Instr × Nat) := k_X12_tried_0 ++ (k_X12_tried_1)
theorem r_X12_tried_0 : k_X12_tried_0.all (tb_rr cX12_tried) = true := by decide +kernel
theorem r_X12_tried_1 : k_X12_tried_1.all (tb_rr cX12_tried) = true := by decide +kernel
def M_X12_tried : ab_MD := (K_X12, yX12_tried, cX12_tried, 4, (some .int), false, k_X12_tried)
theorem o_X12_tried : ab_OK M_X12_tried 3 := tb_ok OC_X12 (by decide +kernel) (tb_app r_X12_tried_0 r_X12_tried_1) (ab_T_in (tb_c_in 10 _ (List.mem_of_getElem? (i := 11) (rfl : (tb_c 10)[11]? = some (Cond.code yX12_tried cX12_tried 4 (some .int))))) rfl) IN_X12
theorem v_X12_tried : ab_kV M_X12_tried 12 := ⟨(ab_T_in (tb_c_in 10 _ (List.mem_of_getElem? (i := 9) (rfl : (tb_c 10)[9]? = some (Cond.instanceMethod yX12_tried)))) rfl), (ab_T_in (tb_c_in 10 _ (List.mem_of_getElem? (i := 10) (rfl : (tb_c 10)[10]? = some (Cond.selects RX12 yX12_tried yX12_tried)))) rfl), _, rfl, rfl⟩
def k_X12_undo : List (Nat × Instr × Nat) :=
  [(0, .aload_n 0, 1), (1, .iconst 0, 1), (2, .putfield 145, 3), (5, .aload_n 0, 1), (6, .getfield 368, 3), (9, .ifCond .ne 5, 3), (12, .iconst (-1), 1), (13, .ireturn, 1),
   (14, .aload_n 0, 1), (15, .dup, 1), (16, .getfield 368, 3), (19, .iconst 1, 1), (20, .isub, 1), (21, .putfield 368, 3), (24, .aload_n 0, 1), (25, .aload_n 0, 1),
   (26, .getfield 133, 3), (29, .bipush 19, 2), (31, .aload_n 0, 1), (32, .getfield 368, 3), (35, .imul, 1), (36, .invokevirtual 567, 3), (39, .aload_n 0, 1), (40, .getfield 368, 3),
   (43, .ireturn, 1)]
def M_X12_undo : ab_MD := (K_X12, yX12_undo, cX12_undo, 1, (some .int), false, k_X12_undo)
theorem o_X12_undo : ab_OK M_X12_undo 0 := tb_ok OC_X12 (by decide +kernel) (by decide +kernel) (ab_T_in (tb_c_in 10 _ (List.mem_of_getElem? (i := 19) (rfl : (tb_c 10)[19]? = some (Cond.code yX12_undo cX12_undo 1 (some .int))))) rfl) IN_X12
theorem v_X12_undo : ab_kV M_X12_undo 12 := ⟨(ab_T_in (tb_c_in 10 _ (List.mem_of_getElem? (i := 17) (rfl : (tb_c 10)[17]? = some (Cond.instanceMethod yX12_undo)))) rfl), (ab_T_in (tb_c_in 10 _ (List.mem_of_getElem? (i := 18) (rfl : (tb_c 10)[18]? = some (Cond.selects RX12 yX12_undo yX12_undo)))) rfl), _, rfl, rfl⟩
def k_X12_valueOf_0 : List (Nat × Instr × Nat) :=
  [(0, .aload_n 0, 1), (1, .getfield 69, 3), (4, .iload_n 1, 1), (5, .iaload, 1), (6, .ifCond .ne 11, 3), (9, .aload_n 0, 1), (10, .getfield 72, 3), (13, .iload_n 1, 1),
   (14, .iaload, 1), (15, .i2l, 1), (16, .lreturn, 1), (17, .aload_n 0, 1), (18, .getfield 69, 3), (21, .iload_n 1, 1), (22, .iaload, 1), (23, .iconst 1, 1),
   (24, .if_icmp .ne 15, 3), (27, .aload_n 0, 1), (28, .getfield 84, 3), (31, .aload_n 0, 1), (32, .getfield 72, 3), (35, .iload_n 1, 1), (36, .iaload, 1), (37, .laload, 1),
   (38, .lreturn, 1), (39, .aload_n 0, 1), (40, .getfield 88, 3), (43, .aload_n 0, 1), (44, .getfield 72, 3), (47, .iload_n 1, 1), (48, .iaload, 1), (49, .laload, 1),
   (50, .lstore_n 2, 1), (51, .aload_n 0, 1), (52, .getfield 69, 3), (55, .iload_n 1, 1), (56, .iaload, 1), (57, .iconst 2, 1), (58, .if_icmp .ne 15, 3), (61, .lload_n 2, 1),
   (62, .lconst 0, 1), (63, .lcmp, 1), (64, .ifCond .ne 7, 3), (67, .lconst 1, 1), (68, .goto 4, 3), (71, .lconst 0, 1), (72, .lreturn, 1), (73, .aload_n 0, 1)]
def k_X12_valueOf_1 : List (Nat × Instr × Nat) :=
  [(74, .getfield 88, 3), (77, .aload_n 0, 1), (78, .getfield 75, 3), (81, .iload_n 1, 1), (82, .iaload, 1), (83, .laload, 1), (84, .lstore 4, 2), (86, .aload_n 0, 1),
   (87, .getfield 69, 3), (90, .iload_n 1, 1), (91, .iaload, 1), (92, .tableswitch 167 3 14 #[64, 83, 167, 167, 167, 167, 167, 167, 102, 111, 120, 128], 64), (156, .lload_n 2, 1), (157, .lconst 0, 1), (158, .lcmp, 1), (159, .ifCond .eq 14, 3),
   (162, .lload 4, 2), (164, .lconst 0, 1), (165, .lcmp, 1), (166, .ifCond .eq 7, 3), (169, .lconst 1, 1), (170, .goto 4, 3), (173, .lconst 0, 1), (174, .lreturn, 1),
   (175, .lload_n 2, 1), (176, .lconst 0, 1), (177, .lcmp, 1), (178, .ifCond .ne 10, 3), (181, .lload 4, 2), (183, .lconst 0, 1), (184, .lcmp, 1), (185, .ifCond .eq 7, 3),
   (188, .lconst 1, 1), (189, .goto 4, 3), (192, .lconst 0, 1), (193, .lreturn, 1), (194, .aload_n 0, 1), (195, .lload_n 2, 1), (196, .lload 4, 2), (198, .ladd, 1),
   (199, .invokevirtual 340, 3), (202, .lreturn, 1), (203, .aload_n 0, 1), (204, .lload_n 2, 1), (205, .lload 4, 2), (207, .lsub, 1), (208, .invokevirtual 340, 3), (211, .lreturn, 1)]
def k_X12_valueOf_2 : List (Nat × Instr × Nat) :=
  [(212, .aload_n 0, 1), (213, .lload_n 2, 1), (214, .lload 4, 2), (216, .invokevirtual 344, 3), (219, .lreturn, 1), (220, .aload_n 0, 1), (221, .aload_n 0, 1), (222, .getfield 333, 3),
   (225, .ifCond .ne 10, 3), (228, .lload 4, 2), (230, .lconst 0, 1), (231, .lcmp, 1), (232, .ifCond .ne 7, 3), (235, .iconst 1, 1), (236, .goto 4, 3), (239, .iconst 0, 1),
   (240, .putfield 333, 3), (243, .aload_n 0, 1), (244, .getfield 333, 3), (247, .ifCond .eq 7, 3), (250, .lconst 0, 1), (251, .goto 7, 3), (254, .lload_n 2, 1), (255, .lload 4, 2),
   (257, .ldiv, 1), (258, .lreturn, 1), (259, .aload_n 0, 1), (260, .getfield 69, 3), (263, .iload_n 1, 1), (264, .iaload, 1), (265, .lload_n 2, 1), (266, .lload 4, 2),
   (268, .invokestatic 348, 3), (271, .ifCond .eq 7, 3), (274, .lconst 1, 1), (275, .goto 4, 3), (278, .lconst 0, 1), (279, .lreturn, 1)]
def k_X12_valueOf : List (Nat × Instr × Nat) := k_X12_valueOf_0 ++ (k_X12_valueOf_1 ++ (k_X12_valueOf_2))
theorem r_X12_valueOf_0 : k_X12_valueOf_0.all (tb_rr cX12_valueOf) = true := by decide +kernel
theorem r_X12_valueOf_1 : k_X12_valueOf_1.all (tb_rr cX12_valueOf) = true := by decide +kernel
theorem r_X12_valueOf_2 : k_X12_valueOf_2.all (tb_rr cX12_valueOf) = true := by decide +kernel
def M_X12_valueOf : ab_MD := (K_X12, yX12_valueOf, cX12_valueOf, 6, (some .long), false, k_X12_valueOf)
theorem o_X12_valueOf : ab_OK M_X12_valueOf 1 := tb_ok OC_X12 (by decide +kernel) (tb_app r_X12_valueOf_0 (tb_app r_X12_valueOf_1 r_X12_valueOf_2)) (ab_T_in (tb_c_in 8 _ (List.mem_of_getElem? (i := 220) (rfl : (tb_c 8)[220]? = some (Cond.code yX12_valueOf cX12_valueOf 6 (some .long))))) rfl) IN_X12
theorem v_X12_valueOf : ab_kV M_X12_valueOf 12 := ⟨(ab_T_in (tb_c_in 8 _ (List.mem_of_getElem? (i := 219) (rfl : (tb_c 8)[219]? = some (Cond.instanceMethod yX12_valueOf)))) rfl), (ab_T_in (tb_c_in 0 _ (List.mem_of_getElem? (i := 85) (rfl : (tb_c 0)[85]? = some (Cond.selects RX12 yX12_valueOf yX12_valueOf)))) rfl), _, rfl, rfl⟩
def k_X12_waitsFor : List (Nat × Instr × Nat) :=
  [(0, .aload_n 0, 1), (1, .getfield 78, 3), (4, .aload_n 0, 1), (5, .getfield 286, 3), (8, .iload_n 1, 1), (9, .iastore, 1), (10, .aload_n 0, 1), (11, .dup, 1),
   (12, .getfield 286, 3), (15, .iconst 1, 1), (16, .iadd, 1), (17, .putfield 286, 3), (20, .return_, 1)]
def M_X12_waitsFor : ab_MD := (K_X12, yX12_waitsFor, cX12_waitsFor, 2, none, false, k_X12_waitsFor)
theorem o_X12_waitsFor : ab_OK M_X12_waitsFor 1 := tb_ok OC_X12 (by decide +kernel) (by decide +kernel) (ab_T_in (tb_c_in 8 _ (List.mem_of_getElem? (i := 131) (rfl : (tb_c 8)[131]? = some (Cond.code yX12_waitsFor cX12_waitsFor 2 none)))) rfl) IN_X12
theorem v_X12_waitsFor : ab_kV M_X12_waitsFor 12 := ⟨(ab_T_in (tb_c_in 8 _ (List.mem_of_getElem? (i := 130) (rfl : (tb_c 8)[130]? = some (Cond.instanceMethod yX12_waitsFor)))) rfl), (ab_T_in (tb_c_in 0 _ (List.mem_of_getElem? (i := 70) (rfl : (tb_c 0)[70]? = some (Cond.selects RX12 yX12_waitsFor yX12_waitsFor)))) rfl), _, rfl, rfl⟩
def k_X12_waysWith : List (Nat × Instr × Nat) :=
  [(0, .aload_n 0, 1), (1, .getfield 30, 3), (4, .iload_n 1, 1), (5, .iaload, 1), (6, .aload_n 0, 1), (7, .getfield 33, 3), (10, .iload_n 1, 1), (11, .iaload, 1),
   (12, .if_icmp .ne 7, 3), (15, .iconst 1, 1), (16, .goto 4, 3), (19, .iconst 2, 1), (20, .ireturn, 1)]
def M_X12_waysWith : ab_MD := (K_X12, yX12_waysWith, cX12_waysWith, 2, (some .int), false, k_X12_waysWith)
theorem o_X12_waysWith : ab_OK M_X12_waysWith 1 := tb_ok OC_X12 (by decide +kernel) (by decide +kernel) (ab_T_in (tb_c_in 9 _ (List.mem_of_getElem? (i := 110) (rfl : (tb_c 9)[110]? = some (Cond.code yX12_waysWith cX12_waysWith 2 (some .int))))) rfl) IN_X12
theorem v_X12_waysWith : ab_kV M_X12_waysWith 12 := ⟨(ab_T_in (tb_c_in 9 _ (List.mem_of_getElem? (i := 109) (rfl : (tb_c 9)[109]? = some (Cond.instanceMethod yX12_waysWith)))) rfl), (ab_T_in (tb_c_in 0 _ (List.mem_of_getElem? (i := 105) (rfl : (tb_c 0)[105]? = some (Cond.selects RX12 yX12_waysWith yX12_waysWith)))) rfl), _, rfl, rfl⟩
def k_X12_wordAt : List (Nat × Instr × Nat) :=
  [(0, .iconst 0, 1), (1, .istore_n 3, 1), (2, .iconst 0, 1), (3, .istore 4, 2), (5, .iload 4, 2), (7, .aload_n 0, 1), (8, .getfield 13, 3), (11, .arraylength, 1),
   (12, .if_icmp .ge 114, 3), (15, .iconst 0, 1), (16, .istore 5, 2), (18, .aload_n 0, 1), (19, .getfield 13, 3), (22, .iload 4, 2), (24, .iload 5, 2), (26, .iadd, 1),
   (27, .iaload, 1), (28, .bipush 32, 2), (30, .if_icmp .eq 9, 3), (33, .iinc 5 1, 3), (36, .goto (-18), 3), (39, .iload 5, 2), (41, .iload_n 2, 1), (42, .iload_n 1, 1),
   (43, .isub, 1), (44, .if_icmp .ne 7, 3), (47, .iconst 1, 1), (48, .goto 4, 3), (51, .iconst 0, 1), (52, .istore 6, 2), (54, .iconst 0, 1), (55, .istore 7, 2),
   (57, .iload 7, 2), (59, .iload 5, 2), (61, .if_icmp .ge 43, 3), (64, .iload 6, 2), (66, .ifCond .eq 38, 3), (69, .aload_n 0, 1), (70, .getfield 13, 3), (73, .iload 4, 2),
   (75, .iload 7, 2), (77, .iadd, 1), (78, .iaload, 1), (79, .aload_n 0, 1), (80, .getfield 7, 3), (83, .iload_n 1, 1), (84, .iload 7, 2), (86, .iadd, 1),
   (87, .iaload, 1), (88, .if_icmp .ne 7, 3), (91, .iconst 1, 1), (92, .goto 4, 3), (95, .iconst 0, 1), (96, .istore 6, 2), (98, .iinc 7 1, 3), (101, .goto (-44), 3),
   (104, .iload 6, 2), (106, .ifCond .eq 5, 3), (109, .iload_n 3, 1), (110, .ireturn, 1), (111, .iload 4, 2), (113, .iload 5, 2), (115, .iconst 1, 1), (116, .iadd, 1),
   (117, .iadd, 1), (118, .istore 4, 2), (120, .iinc 3 1, 3), (123, .goto (-118), 3), (126, .iconst (-1), 1), (127, .ireturn, 1)]
def M_X12_wordAt : ab_MD := (K_X12, yX12_wordAt, cX12_wordAt, 8, (some .int), false, k_X12_wordAt)
theorem o_X12_wordAt : ab_OK M_X12_wordAt 2 := tb_ok OC_X12 (by decide +kernel) (by decide +kernel) (ab_T_in (tb_c_in 8 _ (List.mem_of_getElem? (i := 52) (rfl : (tb_c 8)[52]? = some (Cond.code yX12_wordAt cX12_wordAt 8 (some .int))))) rfl) IN_X12
theorem v_X12_wordAt : ab_kV M_X12_wordAt 12 := ⟨(ab_T_in (tb_c_in 8 _ (List.mem_of_getElem? (i := 51) (rfl : (tb_c 8)[51]? = some (Cond.instanceMethod yX12_wordAt)))) rfl), (ab_T_in (tb_c_in 0 _ (List.mem_of_getElem? (i := 52) (rfl : (tb_c 0)[52]? = some (Cond.selects RX12 yX12_wordAt yX12_wordAt)))) rfl), _, rfl, rfl⟩
def k_X12_wrong : List (Nat × Instr × Nat) :=
  [(0, .aload_n 0, 1), (1, .iload_n 1, 1), (2, .putfield 151, 3), (5, .aload_n 0, 1), (6, .aload_n 0, 1), (7, .getfield 154, 3), (10, .putfield 16, 3), (13, .iconst 0, 1),
   (14, .ireturn, 1)]
def M_X12_wrong : ab_MD := (K_X12, yX12_wrong, cX12_wrong, 2, (some .boolean), false, k_X12_wrong)
theorem o_X12_wrong : ab_OK M_X12_wrong 1 := tb_ok OC_X12 (by decide +kernel) (by decide +kernel) (ab_T_in (tb_c_in 8 _ (List.mem_of_getElem? (i := 73) (rfl : (tb_c 8)[73]? = some (Cond.code yX12_wrong cX12_wrong 2 (some .boolean))))) rfl) IN_X12
theorem v_X12_wrong : ab_kV M_X12_wrong 12 := ⟨(ab_T_in (tb_c_in 8 _ (List.mem_of_getElem? (i := 72) (rfl : (tb_c 8)[72]? = some (Cond.instanceMethod yX12_wrong)))) rfl), (ab_T_in (tb_c_in 0 _ (List.mem_of_getElem? (i := 57) (rfl : (tb_c 0)[57]? = some (Cond.selects RX12 yX12_wrong yX12_wrong)))) rfl), _, rfl, rfl⟩
