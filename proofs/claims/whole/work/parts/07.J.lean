/-! printed by wip/tools/mktab.py: methods of java/lang/Long -/
def k_J13_bitCount_l : List (Nat × Instr × Nat) :=
  [(0, .lload_n 0, 1), (1, .lload_n 0, 1), (2, .iconst 1, 1), (3, .lushr, 1), (4, .ldc2_w 314, 3), (7, .land, 1), (8, .lsub, 1), (9, .lstore_n 0, 1),
   (10, .lload_n 0, 1), (11, .ldc2_w 316, 3), (14, .land, 1), (15, .lload_n 0, 1), (16, .iconst 2, 1), (17, .lushr, 1), (18, .ldc2_w 316, 3), (21, .land, 1),
   (22, .ladd, 1), (23, .lstore_n 0, 1), (24, .lload_n 0, 1), (25, .lload_n 0, 1), (26, .iconst 4, 1), (27, .lushr, 1), (28, .ladd, 1), (29, .ldc2_w 318, 3),
   (32, .land, 1), (33, .lstore_n 0, 1), (34, .lload_n 0, 1), (35, .lload_n 0, 1), (36, .bipush 8, 2), (38, .lushr, 1), (39, .ladd, 1), (40, .lstore_n 0, 1),
   (41, .lload_n 0, 1), (42, .lload_n 0, 1), (43, .bipush 16, 2), (45, .lushr, 1), (46, .ladd, 1), (47, .lstore_n 0, 1), (48, .lload_n 0, 1), (49, .lload_n 0, 1),
   (50, .bipush 32, 2), (52, .lushr, 1), (53, .ladd, 1), (54, .lstore_n 0, 1), (55, .lload_n 0, 1), (56, .l2i, 1), (57, .bipush 127, 2), (59, .iand, 1),
   (60, .ireturn, 1)]
def M_J13_bitCount_l : ab_MD := (K_J13, yJ13_bitCount_95d88, cJ13_bitCount_95d88, 2, (some .int), false, k_J13_bitCount_l)
theorem o_J13_bitCount_l : ab_OK M_J13_bitCount_l 1 := tb_ok OC_J13 (by decide +kernel) (by decide +kernel) (ab_T_in (tb_c_in 6 _ (List.mem_of_getElem? (i := 71) (rfl : (tb_c 6)[71]? = some (Cond.code yJ13_bitCount_95d88 cJ13_bitCount_95d88 2 (some .int))))) rfl) IN_J13
theorem s_J13_bitCount_l : Cond.static M_J13_bitCount_l.2.1 ∈ ab_T := (ab_T_in (tb_c_in 6 _ (List.mem_of_getElem? (i := 70) (rfl : (tb_c 6)[70]? = some (Cond.static yJ13_bitCount_95d88)))) rfl)
def k_J13_numberOfTrailingZeros_l : List (Nat × Instr × Nat) :=
  [(0, .lload_n 0, 1), (1, .l2i, 1), (2, .istore_n 2, 1), (3, .iload_n 2, 1), (4, .ifCond .ne 17, 3), (7, .bipush 32, 2), (9, .lload_n 0, 1), (10, .bipush 32, 2),
   (12, .lushr, 1), (13, .l2i, 1), (14, .invokestatic 311, 3), (17, .iadd, 1), (18, .goto 7, 3), (21, .iload_n 2, 1), (22, .invokestatic 311, 3), (25, .ireturn, 1)]
def M_J13_numberOfTrailingZeros_l : ab_MD := (K_J13, yJ13_numberOfTrailingZeros_95d88, cJ13_numberOfTrailingZeros_95d88, 3, (some .int), false, k_J13_numberOfTrailingZeros_l)
theorem o_J13_numberOfTrailingZeros_l : ab_OK M_J13_numberOfTrailingZeros_l 1 := tb_ok OC_J13 (by decide +kernel) (by decide +kernel) (ab_T_in (tb_c_in 6 _ (List.mem_of_getElem? (i := 77) (rfl : (tb_c 6)[77]? = some (Cond.code yJ13_numberOfTrailingZeros_95d88 cJ13_numberOfTrailingZeros_95d88 3 (some .int))))) rfl) IN_J13
theorem s_J13_numberOfTrailingZeros_l : Cond.static M_J13_numberOfTrailingZeros_l.2.1 ∈ ab_T := (ab_T_in (tb_c_in 6 _ (List.mem_of_getElem? (i := 76) (rfl : (tb_c 6)[76]? = some (Cond.static yJ13_numberOfTrailingZeros_95d88)))) rfl)
/-! printed by wip/tools/mktab.py: methods of java/lang/Integer -/
def k_J6_bitCount : List (Nat × Instr × Nat) :=
  [(0, .iload_n 0, 1), (1, .iload_n 0, 1), (2, .iconst 1, 1), (3, .iushr, 1), (4, .ldc_w 265, 3), (7, .iand, 1), (8, .isub, 1), (9, .istore_n 0, 1),
   (10, .iload_n 0, 1), (11, .ldc_w 266, 3), (14, .iand, 1), (15, .iload_n 0, 1), (16, .iconst 2, 1), (17, .iushr, 1), (18, .ldc_w 266, 3), (21, .iand, 1),
   (22, .iadd, 1), (23, .istore_n 0, 1), (24, .iload_n 0, 1), (25, .iload_n 0, 1), (26, .iconst 4, 1), (27, .iushr, 1), (28, .iadd, 1), (29, .ldc_w 267, 3),
   (32, .iand, 1), (33, .istore_n 0, 1), (34, .iload_n 0, 1), (35, .iload_n 0, 1), (36, .bipush 8, 2), (38, .iushr, 1), (39, .iadd, 1), (40, .istore_n 0, 1),
   (41, .iload_n 0, 1), (42, .iload_n 0, 1), (43, .bipush 16, 2), (45, .iushr, 1), (46, .iadd, 1), (47, .istore_n 0, 1), (48, .iload_n 0, 1), (49, .bipush 63, 2),
   (51, .iand, 1), (52, .ireturn, 1)]
def M_J6_bitCount : ab_MD := (K_J6, yJ6_bitCount_0f7a4, cJ6_bitCount_0f7a4, 1, (some .int), false, k_J6_bitCount)
theorem o_J6_bitCount : ab_OK M_J6_bitCount 1 := tb_ok OC_J6 (by decide +kernel) (by decide +kernel) (ab_T_in (tb_c_in 4 _ (List.mem_of_getElem? (i := 167) (rfl : (tb_c 4)[167]? = some (Cond.code yJ6_bitCount_0f7a4 cJ6_bitCount_0f7a4 1 (some .int))))) rfl) IN_J6
theorem s_J6_bitCount : Cond.static M_J6_bitCount.2.1 ∈ ab_T := (ab_T_in (tb_c_in 4 _ (List.mem_of_getElem? (i := 166) (rfl : (tb_c 4)[166]? = some (Cond.static yJ6_bitCount_0f7a4)))) rfl)
def k_J6_numberOfTrailingZeros : List (Nat × Instr × Nat) :=
  [(0, .iload_n 0, 1), (1, .iconst (-1), 1), (2, .ixor, 1), (3, .iload_n 0, 1), (4, .iconst 1, 1), (5, .isub, 1), (6, .iand, 1), (7, .istore_n 0, 1),
   (8, .iload_n 0, 1), (9, .ifCond .gt 8, 3), (12, .iload_n 0, 1), (13, .bipush 32, 2), (15, .iand, 1), (16, .ireturn, 1), (17, .iconst 1, 1), (18, .istore_n 1, 1),
   (19, .iload_n 0, 1), (20, .ldc_w 264, 3), (23, .if_icmp .le 11, 3), (26, .iinc 1 16, 3), (29, .iload_n 0, 1), (30, .bipush 16, 2), (32, .iushr, 1), (33, .istore_n 0, 1),
   (34, .iload_n 0, 1), (35, .sipush 256, 3), (38, .if_icmp .le 11, 3), (41, .iinc 1 8, 3), (44, .iload_n 0, 1), (45, .bipush 8, 2), (47, .iushr, 1), (48, .istore_n 0, 1),
   (49, .iload_n 0, 1), (50, .bipush 16, 2), (52, .if_icmp .le 10, 3), (55, .iinc 1 4, 3), (58, .iload_n 0, 1), (59, .iconst 4, 1), (60, .iushr, 1), (61, .istore_n 0, 1),
   (62, .iload_n 0, 1), (63, .iconst 4, 1), (64, .if_icmp .le 10, 3), (67, .iinc 1 2, 3), (70, .iload_n 0, 1), (71, .iconst 2, 1), (72, .iushr, 1), (73, .istore_n 0, 1),
   (74, .iload_n 1, 1), (75, .iload_n 0, 1), (76, .iconst 1, 1), (77, .iushr, 1), (78, .iadd, 1), (79, .ireturn, 1)]
def M_J6_numberOfTrailingZeros : ab_MD := (K_J6, yJ6_numberOfTrailingZeros_0f7a4, cJ6_numberOfTrailingZeros_0f7a4, 2, (some .int), false, k_J6_numberOfTrailingZeros)
theorem o_J6_numberOfTrailingZeros : ab_OK M_J6_numberOfTrailingZeros 1 := tb_ok OC_J6 (by decide +kernel) (by decide +kernel) (ab_T_in (tb_c_in 5 _ (List.mem_of_getElem? (i := 63) (rfl : (tb_c 5)[63]? = some (Cond.code yJ6_numberOfTrailingZeros_0f7a4 cJ6_numberOfTrailingZeros_0f7a4 2 (some .int))))) rfl) IN_J6
theorem s_J6_numberOfTrailingZeros : Cond.static M_J6_numberOfTrailingZeros.2.1 ∈ ab_T := (ab_T_in (tb_c_in 5 _ (List.mem_of_getElem? (i := 62) (rfl : (tb_c 5)[62]? = some (Cond.static yJ6_numberOfTrailingZeros_0f7a4)))) rfl)
/-! printed by wip/tools/mktab.py: methods of java/util/Arrays -/
def k_J7_fill : List (Nat × Instr × Nat) :=
  [(0, .iconst 0, 1), (1, .istore_n 2, 1), (2, .aload_n 0, 1), (3, .arraylength, 1), (4, .istore_n 3, 1), (5, .iload_n 2, 1), (6, .iload_n 3, 1), (7, .if_icmp .ge 13, 3),
   (10, .aload_n 0, 1), (11, .iload_n 2, 1), (12, .iload_n 1, 1), (13, .iastore, 1), (14, .iinc 2 1, 3), (17, .goto (-12), 3), (20, .return_, 1)]
def M_J7_fill : ab_MD := (K_J7, yJ7_fill_53178, cJ7_fill_53178, 4, none, false, k_J7_fill)
theorem o_J7_fill : ab_OK M_J7_fill 2 := tb_ok OC_J7 (by decide +kernel) (by decide +kernel) (ab_T_in (tb_c_in 2 _ (List.mem_of_getElem? (i := 117) (rfl : (tb_c 2)[117]? = some (Cond.code yJ7_fill_53178 cJ7_fill_53178 4 none)))) rfl) IN_J7
theorem s_J7_fill : Cond.static M_J7_fill.2.1 ∈ ab_T := (ab_T_in (tb_c_in 2 _ (List.mem_of_getElem? (i := 116) (rfl : (tb_c 2)[116]? = some (Cond.static yJ7_fill_53178)))) rfl)
