/-! printed by wip/tools/mktab.py: methods of BoneEstateModel -/
def k_X12_isDigit : List (Nat × Instr × Nat) :=
  [(0, .iload_n 1, 1), (1, .aload_n 0, 1), (2, .getfield 157, 3), (5, .if_icmp .ge 29, 3), (8, .aload_n 0, 1), (9, .getfield 7, 3), (12, .iload_n 1, 1), (13, .iaload, 1),
   (14, .bipush 48, 2), (16, .if_icmp .lt 18, 3), (19, .aload_n 0, 1), (20, .getfield 7, 3), (23, .iload_n 1, 1), (24, .iaload, 1), (25, .bipush 57, 2), (27, .if_icmp .gt 7, 3),
   (30, .iconst 1, 1), (31, .goto 4, 3), (34, .iconst 0, 1), (35, .ireturn, 1)]
def M_X12_isDigit : ab_MD := (K_X12, yX12_isDigit, cX12_isDigit, 2, (some .boolean), false, k_X12_isDigit)
theorem o_X12_isDigit : ab_OK M_X12_isDigit 1 := tb_ok OC_X12 (by decide +kernel) (by decide +kernel) (ab_T_in (tb_c_in 8 _ (List.mem_of_getElem? (i := 60) (rfl : (tb_c 8)[60]? = some (Cond.code yX12_isDigit cX12_isDigit 2 (some .boolean))))) rfl) IN_X12
theorem v_X12_isDigit : ab_kV M_X12_isDigit 12 := ⟨(ab_T_in (tb_c_in 8 _ (List.mem_of_getElem? (i := 59) (rfl : (tb_c 8)[59]? = some (Cond.instanceMethod yX12_isDigit)))) rfl), (ab_T_in (tb_c_in 0 _ (List.mem_of_getElem? (i := 54) (rfl : (tb_c 0)[54]? = some (Cond.selects RX12 yX12_isDigit yX12_isDigit)))) rfl), _, rfl, rfl⟩
def k_X12_isEnd : List (Nat × Instr × Nat) :=
  [(0, .iload_n 0, 1), (1, .ifCond .lt 13, 3), (4, .iload_n 0, 1), (5, .bipush 6, 2), (7, .if_icmp .gt 7, 3), (10, .iconst 1, 1), (11, .goto 4, 3), (14, .iconst 0, 1),
   (15, .ireturn, 1)]
def M_X12_isEnd : ab_MD := (K_X12, yX12_isEnd, cX12_isEnd, 1, (some .boolean), false, k_X12_isEnd)
theorem o_X12_isEnd : ab_OK M_X12_isEnd 1 := tb_ok OC_X12 (by decide +kernel) (by decide +kernel) (ab_T_in (tb_c_in 8 _ (List.mem_of_getElem? (i := 201) (rfl : (tb_c 8)[201]? = some (Cond.code yX12_isEnd cX12_isEnd 1 (some .boolean))))) rfl) IN_X12
theorem s_X12_isEnd : Cond.static M_X12_isEnd.2.1 ∈ ab_T := (ab_T_in (tb_c_in 8 _ (List.mem_of_getElem? (i := 200) (rfl : (tb_c 8)[200]? = some (Cond.static yX12_isEnd)))) rfl)
def k_X12_isHeir : List (Nat × Instr × Nat) :=
  [(0, .iload_n 1, 1), (1, .ifCond .lt 15, 3), (4, .iload_n 1, 1), (5, .aload_n 0, 1), (6, .getfield 228, 3), (9, .if_icmp .ge 7, 3), (12, .iconst 1, 1), (13, .goto 4, 3),
   (16, .iconst 0, 1), (17, .ireturn, 1)]
def M_X12_isHeir : ab_MD := (K_X12, yX12_isHeir, cX12_isHeir, 2, (some .boolean), false, k_X12_isHeir)
theorem o_X12_isHeir : ab_OK M_X12_isHeir 1 := tb_ok OC_X12 (by decide +kernel) (by decide +kernel) (ab_T_in (tb_c_in 8 _ (List.mem_of_getElem? (i := 190) (rfl : (tb_c 8)[190]? = some (Cond.code yX12_isHeir cX12_isHeir 2 (some .boolean))))) rfl) IN_X12
theorem v_X12_isHeir : ab_kV M_X12_isHeir 12 := ⟨(ab_T_in (tb_c_in 8 _ (List.mem_of_getElem? (i := 189) (rfl : (tb_c 8)[189]? = some (Cond.instanceMethod yX12_isHeir)))) rfl), (ab_T_in (tb_c_in 0 _ (List.mem_of_getElem? (i := 80) (rfl : (tb_c 0)[80]? = some (Cond.selects RX12 yX12_isHeir yX12_isHeir)))) rfl), _, rfl, rfl⟩
def k_X12_isIn : List (Nat × Instr × Nat) :=
  [(0, .iload_n 0, 1), (1, .iload_n 1, 1), (2, .if_icmp .lt 12, 3), (5, .iload_n 0, 1), (6, .iload_n 2, 1), (7, .if_icmp .gt 7, 3), (10, .iconst 1, 1), (11, .goto 4, 3),
   (14, .iconst 0, 1), (15, .ireturn, 1)]
def M_X12_isIn : ab_MD := (K_X12, yX12_isIn, cX12_isIn, 3, (some .boolean), false, k_X12_isIn)
theorem o_X12_isIn : ab_OK M_X12_isIn 3 := tb_ok OC_X12 (by decide +kernel) (by decide +kernel) (ab_T_in (tb_c_in 8 _ (List.mem_of_getElem? (i := 91) (rfl : (tb_c 8)[91]? = some (Cond.code yX12_isIn cX12_isIn 3 (some .boolean))))) rfl) IN_X12
theorem s_X12_isIn : Cond.static M_X12_isIn.2.1 ∈ ab_T := (ab_T_in (tb_c_in 8 _ (List.mem_of_getElem? (i := 90) (rfl : (tb_c 8)[90]? = some (Cond.static yX12_isIn)))) rfl)
def k_X12_isKey : List (Nat × Instr × Nat) :=
  [(0, .aload_n 0, 1), (1, .getfield 163, 3), (4, .iconst 1, 1), (5, .if_icmp .ne 15, 3), (8, .aload_n 0, 1), (9, .getfield 174, 3), (12, .iload_n 1, 1), (13, .if_icmp .ne 7, 3),
   (16, .iconst 1, 1), (17, .goto 4, 3), (20, .iconst 0, 1), (21, .ireturn, 1)]
def M_X12_isKey : ab_MD := (K_X12, yX12_isKey, cX12_isKey, 2, (some .boolean), false, k_X12_isKey)
theorem o_X12_isKey : ab_OK M_X12_isKey 1 := tb_ok OC_X12 (by decide +kernel) (by decide +kernel) (ab_T_in (tb_c_in 8 _ (List.mem_of_getElem? (i := 135) (rfl : (tb_c 8)[135]? = some (Cond.code yX12_isKey cX12_isKey 2 (some .boolean))))) rfl) IN_X12
theorem v_X12_isKey : ab_kV M_X12_isKey 12 := ⟨(ab_T_in (tb_c_in 8 _ (List.mem_of_getElem? (i := 134) (rfl : (tb_c 8)[134]? = some (Cond.instanceMethod yX12_isKey)))) rfl), (ab_T_in (tb_c_in 0 _ (List.mem_of_getElem? (i := 71) (rfl : (tb_c 0)[71]? = some (Cond.selects RX12 yX12_isKey yX12_isKey)))) rfl), _, rfl, rfl⟩
def k_X12_isNoted_0 : List (Nat × Instr × Nat) :=
  [(0, .aload_n 0, 1), (1, .iload_n 1, 1), (2, .iload_n 2, 1), (3, .invokevirtual 542, 3), (6, .ifCond .eq 5, 3), (9, .iconst 0, 1), (10, .ireturn, 1), (11, .iconst 0, 1),
   (12, .istore_n 3, 1), (13, .iload_n 3, 1), (14, .aload_n 0, 1), (15, .invokevirtual 539, 3), (18, .if_icmp .ge 147, 3), (21, .iconst 5, 1), (22, .iload_n 3, 1), (23, .imul, 1),
   (24, .istore 4, 2), (26, .aload_n 0, 1), (27, .getfield 130, 3), (30, .iload_n 3, 1), (31, .baload, 1), (32, .ifCond .eq 127, 3), (35, .aload_n 0, 1), (36, .getfield 127, 3),
   (39, .iload 4, 2), (41, .iaload, 1), (42, .iconst 1, 1), (43, .if_icmp .le 6, 3), (46, .goto 113, 3), (49, .aload_n 0, 1), (50, .getfield 127, 3), (53, .iload 4, 2),
   (55, .iconst 1, 1), (56, .iadd, 1), (57, .iaload, 1), (58, .istore 5, 2), (60, .aload_n 0, 1), (61, .getfield 127, 3), (64, .iload 4, 2), (66, .iconst 2, 1),
   (67, .iadd, 1), (68, .iaload, 1), (69, .istore 6, 2), (71, .aload_n 0, 1), (72, .getfield 127, 3), (75, .iload 4, 2), (77, .iaload, 1), (78, .ifCond .ne 23, 3)]
def k_X12_isNoted_1 : List (Nat × Instr × Nat) :=
  [(81, .iload_n 1, 1), (82, .iload 5, 2), (84, .if_icmp .eq 9, 3), (87, .iload_n 2, 1), (88, .iload 5, 2), (90, .if_icmp .ne 7, 3), (93, .iconst 1, 1), (94, .goto 38, 3),
   (97, .iconst 0, 1), (98, .goto 34, 3), (101, .aload_n 0, 1), (102, .iload_n 1, 1), (103, .iload_n 2, 1), (104, .iload 5, 2), (106, .iload 6, 2), (108, .invokevirtual 545, 3),
   (111, .ifCond .ne 16, 3), (114, .aload_n 0, 1), (115, .iload_n 2, 1), (116, .iload_n 1, 1), (117, .iload 5, 2), (119, .iload 6, 2), (121, .invokevirtual 545, 3), (124, .ifCond .eq 7, 3),
   (127, .iconst 1, 1), (128, .goto 4, 3), (131, .iconst 0, 1), (132, .istore 7, 2), (134, .iload 7, 2), (136, .aload_n 0, 1), (137, .getfield 127, 3), (140, .iload 4, 2),
   (142, .iconst 4, 1), (143, .iadd, 1), (144, .iaload, 1), (145, .iconst 1, 1), (146, .if_icmp .ne 7, 3), (149, .iconst 1, 1), (150, .goto 4, 3), (153, .iconst 0, 1),
   (154, .if_icmp .eq 5, 3), (157, .iconst 0, 1), (158, .ireturn, 1), (159, .iinc 3 1, 3), (162, .goto (-149), 3), (165, .iconst 1, 1), (166, .ireturn, 1)]
def k_X12_isNoted : List (Nat × Instr × Nat) := k_X12_isNoted_0 ++ (k_X12_isNoted_1)
theorem r_X12_isNoted_0 : k_X12_isNoted_0.all (tb_rr cX12_isNoted) = true := by decide +kernel
theorem r_X12_isNoted_1 : k_X12_isNoted_1.all (tb_rr cX12_isNoted) = true := by decide +kernel
def M_X12_isNoted : ab_MD := (K_X12, yX12_isNoted, cX12_isNoted, 8, (some .boolean), false, k_X12_isNoted)
theorem o_X12_isNoted : ab_OK M_X12_isNoted 2 := tb_ok OC_X12 (by decide +kernel) (tb_app r_X12_isNoted_0 r_X12_isNoted_1) (ab_T_in (tb_c_in 9 _ (List.mem_of_getElem? (i := 219) (rfl : (tb_c 9)[219]? = some (Cond.code yX12_isNoted cX12_isNoted 8 (some .boolean))))) rfl) IN_X12
theorem v_X12_isNoted : ab_kV M_X12_isNoted 12 := ⟨(ab_T_in (tb_c_in 9 _ (List.mem_of_getElem? (i := 218) (rfl : (tb_c 9)[218]? = some (Cond.instanceMethod yX12_isNoted)))) rfl), (ab_T_in (tb_c_in 0 _ (List.mem_of_getElem? (i := 114) (rfl : (tb_c 0)[114]? = some (Cond.selects RX12 yX12_isNoted yX12_isNoted)))) rfl), _, rfl, rfl⟩
def k_X12_isOf : List (Nat × Instr × Nat) :=
  [(0, .iload_n 0, 1), (1, .iload_n 1, 1), (2, .ishr, 1), (3, .iconst 1, 1), (4, .iand, 1), (5, .iconst 1, 1), (6, .if_icmp .ne 7, 3), (9, .iconst 1, 1),
   (10, .goto 4, 3), (13, .iconst 0, 1), (14, .ireturn, 1)]
def M_X12_isOf : ab_MD := (K_X12, yX12_isOf, cX12_isOf, 2, (some .boolean), false, k_X12_isOf)
theorem o_X12_isOf : ab_OK M_X12_isOf 2 := tb_ok OC_X12 (by decide +kernel) (by decide +kernel) (ab_T_in (tb_c_in 9 _ (List.mem_of_getElem? (i := 44) (rfl : (tb_c 9)[44]? = some (Cond.code yX12_isOf cX12_isOf 2 (some .boolean))))) rfl) IN_X12
theorem s_X12_isOf : Cond.static M_X12_isOf.2.1 ∈ ab_T := (ab_T_in (tb_c_in 9 _ (List.mem_of_getElem? (i := 43) (rfl : (tb_c 9)[43]? = some (Cond.static yX12_isOf)))) rfl)
def k_X12_isPiece : List (Nat × Instr × Nat) :=
  [(0, .iload_n 1, 1), (1, .ifCond .lt 15, 3), (4, .iload_n 1, 1), (5, .aload_n 0, 1), (6, .getfield 225, 3), (9, .if_icmp .ge 7, 3), (12, .iconst 1, 1), (13, .goto 4, 3),
   (16, .iconst 0, 1), (17, .ireturn, 1)]
def M_X12_isPiece : ab_MD := (K_X12, yX12_isPiece, cX12_isPiece, 2, (some .boolean), false, k_X12_isPiece)
theorem o_X12_isPiece : ab_OK M_X12_isPiece 1 := tb_ok OC_X12 (by decide +kernel) (by decide +kernel) (ab_T_in (tb_c_in 8 _ (List.mem_of_getElem? (i := 178) (rfl : (tb_c 8)[178]? = some (Cond.code yX12_isPiece cX12_isPiece 2 (some .boolean))))) rfl) IN_X12
theorem v_X12_isPiece : ab_kV M_X12_isPiece 12 := ⟨(ab_T_in (tb_c_in 8 _ (List.mem_of_getElem? (i := 177) (rfl : (tb_c 8)[177]? = some (Cond.instanceMethod yX12_isPiece)))) rfl), (ab_T_in (tb_c_in 0 _ (List.mem_of_getElem? (i := 78) (rfl : (tb_c 0)[78]? = some (Cond.selects RX12 yX12_isPiece yX12_isPiece)))) rfl), _, rfl, rfl⟩
def k_X12_isRow : List (Nat × Instr × Nat) :=
  [(0, .iconst 0, 1), (1, .istore_n 2, 1), (2, .iload_n 2, 1), (3, .bipush 7, 2), (5, .if_icmp .ge 25, 3), (8, .aload_n 0, 1), (9, .getfield 109, 3), (12, .bipush 7, 2),
   (14, .iload_n 1, 1), (15, .imul, 1), (16, .iload_n 2, 1), (17, .iadd, 1), (18, .iaload, 1), (19, .ifCond .eq 5, 3), (22, .iconst 1, 1), (23, .ireturn, 1),
   (24, .iinc 2 1, 3), (27, .goto (-25), 3), (30, .iconst 0, 1), (31, .ireturn, 1)]
def M_X12_isRow : ab_MD := (K_X12, yX12_isRow, cX12_isRow, 3, (some .boolean), false, k_X12_isRow)
theorem o_X12_isRow : ab_OK M_X12_isRow 1 := tb_ok OC_X12 (by decide +kernel) (by decide +kernel) (ab_T_in (tb_c_in 9 _ (List.mem_of_getElem? (i := 134) (rfl : (tb_c 9)[134]? = some (Cond.code yX12_isRow cX12_isRow 3 (some .boolean))))) rfl) IN_X12
theorem v_X12_isRow : ab_kV M_X12_isRow 12 := ⟨(ab_T_in (tb_c_in 9 _ (List.mem_of_getElem? (i := 133) (rfl : (tb_c 9)[133]? = some (Cond.instanceMethod yX12_isRow)))) rfl), (ab_T_in (tb_c_in 0 _ (List.mem_of_getElem? (i := 107) (rfl : (tb_c 0)[107]? = some (Cond.selects RX12 yX12_isRow yX12_isRow)))) rfl), _, rfl, rfl⟩
def k_X12_isSign : List (Nat × Instr × Nat) :=
  [(0, .aload_n 0, 1), (1, .getfield 163, 3), (4, .iconst 4, 1), (5, .if_icmp .ne 15, 3), (8, .aload_n 0, 1), (9, .getfield 174, 3), (12, .iload_n 1, 1), (13, .if_icmp .ne 7, 3),
   (16, .iconst 1, 1), (17, .goto 4, 3), (20, .iconst 0, 1), (21, .ireturn, 1)]
def M_X12_isSign : ab_MD := (K_X12, yX12_isSign, cX12_isSign, 2, (some .boolean), false, k_X12_isSign)
theorem o_X12_isSign : ab_OK M_X12_isSign 1 := tb_ok OC_X12 (by decide +kernel) (by decide +kernel) (ab_T_in (tb_c_in 8 _ (List.mem_of_getElem? (i := 123) (rfl : (tb_c 8)[123]? = some (Cond.code yX12_isSign cX12_isSign 2 (some .boolean))))) rfl) IN_X12
theorem v_X12_isSign : ab_kV M_X12_isSign 12 := ⟨(ab_T_in (tb_c_in 8 _ (List.mem_of_getElem? (i := 122) (rfl : (tb_c 8)[122]? = some (Cond.instanceMethod yX12_isSign)))) rfl), (ab_T_in (tb_c_in 0 _ (List.mem_of_getElem? (i := 68) (rfl : (tb_c 0)[68]? = some (Cond.selects RX12 yX12_isSign yX12_isSign)))) rfl), _, rfl, rfl⟩
def k_X12_isSmall : List (Nat × Instr × Nat) :=
  [(0, .iload_n 1, 1), (1, .aload_n 0, 1), (2, .getfield 157, 3), (5, .if_icmp .ge 29, 3), (8, .aload_n 0, 1), (9, .getfield 7, 3), (12, .iload_n 1, 1), (13, .iaload, 1),
   (14, .bipush 97, 2), (16, .if_icmp .lt 18, 3), (19, .aload_n 0, 1), (20, .getfield 7, 3), (23, .iload_n 1, 1), (24, .iaload, 1), (25, .bipush 122, 2), (27, .if_icmp .gt 7, 3),
   (30, .iconst 1, 1), (31, .goto 4, 3), (34, .iconst 0, 1), (35, .ireturn, 1)]
def M_X12_isSmall : ab_MD := (K_X12, yX12_isSmall, cX12_isSmall, 2, (some .boolean), false, k_X12_isSmall)
theorem o_X12_isSmall : ab_OK M_X12_isSmall 1 := tb_ok OC_X12 (by decide +kernel) (by decide +kernel) (ab_T_in (tb_c_in 8 _ (List.mem_of_getElem? (i := 48) (rfl : (tb_c 8)[48]? = some (Cond.code yX12_isSmall cX12_isSmall 2 (some .boolean))))) rfl) IN_X12
theorem v_X12_isSmall : ab_kV M_X12_isSmall 12 := ⟨(ab_T_in (tb_c_in 8 _ (List.mem_of_getElem? (i := 47) (rfl : (tb_c 8)[47]? = some (Cond.instanceMethod yX12_isSmall)))) rfl), (ab_T_in (tb_c_in 0 _ (List.mem_of_getElem? (i := 51) (rfl : (tb_c 0)[51]? = some (Cond.selects RX12 yX12_isSmall yX12_isSmall)))) rfl), _, rfl, rfl⟩
def k_X12_isSo : List (Nat × Instr × Nat) :=
  [(0, .iconst 0, 1), (1, .istore_n 2, 1), (2, .iload_n 2, 1), (3, .aload_n 0, 1), (4, .invokevirtual 539, 3), (7, .if_icmp .ge 100, 3), (10, .iconst 5, 1), (11, .iload_n 2, 1),
   (12, .imul, 1), (13, .istore_n 3, 1), (14, .aload_n 0, 1), (15, .getfield 130, 3), (18, .iload_n 2, 1), (19, .baload, 1), (20, .ifCond .eq 81, 3), (23, .aload_n 0, 1),
   (24, .getfield 127, 3), (27, .iload_n 3, 1), (28, .iaload, 1), (29, .iconst 2, 1), (30, .if_icmp .ne 71, 3), (33, .aload_n 0, 1), (34, .getfield 127, 3), (37, .iload_n 3, 1),
   (38, .iconst 1, 1), (39, .iadd, 1), (40, .iaload, 1), (41, .iload_n 1, 1), (42, .if_icmp .eq 6, 3), (45, .goto 56, 3), (48, .aload_n 0, 1), (49, .getfield 94, 3),
   (52, .iconst 5, 1), (53, .aload_n 0, 1), (54, .getfield 127, 3), (57, .iload_n 3, 1), (58, .iconst 2, 1), (59, .iadd, 1), (60, .iaload, 1), (61, .iadd, 1),
   (62, .iaload, 1), (63, .aload_n 0, 1), (64, .getfield 127, 3), (67, .iload_n 3, 1), (68, .iconst 3, 1), (69, .iadd, 1), (70, .iaload, 1), (71, .if_icmp .lt 7, 3),
   (74, .iconst 1, 1), (75, .goto 4, 3), (78, .iconst 0, 1), (79, .aload_n 0, 1), (80, .getfield 127, 3), (83, .iload_n 3, 1), (84, .iconst 4, 1), (85, .iadd, 1),
   (86, .iaload, 1), (87, .iconst 1, 1), (88, .if_icmp .ne 7, 3), (91, .iconst 1, 1), (92, .goto 4, 3), (95, .iconst 0, 1), (96, .if_icmp .eq 5, 3), (99, .iconst 0, 1),
   (100, .ireturn, 1), (101, .iinc 2 1, 3), (104, .goto (-102), 3), (107, .iconst 1, 1), (108, .ireturn, 1)]
def M_X12_isSo : ab_MD := (K_X12, yX12_isSo, cX12_isSo, 4, (some .boolean), false, k_X12_isSo)
theorem o_X12_isSo : ab_OK M_X12_isSo 1 := tb_ok OC_X12 (by decide +kernel) (by decide +kernel) (ab_T_in (tb_c_in 10 _ (List.mem_of_getElem? (i := 3) (rfl : (tb_c 10)[3]? = some (Cond.code yX12_isSo cX12_isSo 4 (some .boolean))))) rfl) IN_X12
theorem v_X12_isSo : ab_kV M_X12_isSo 12 := ⟨(ab_T_in (tb_c_in 10 _ (List.mem_of_getElem? (i := 2) (rfl : (tb_c 10)[2]? = some (Cond.instanceMethod yX12_isSo)))) rfl), (ab_T_in (tb_c_in 0 _ (List.mem_of_getElem? (i := 118) (rfl : (tb_c 0)[118]? = some (Cond.selects RX12 yX12_isSo yX12_isSo)))) rfl), _, rfl, rfl⟩
def k_X12_isSwap : List (Nat × Instr × Nat) :=
  [(0, .aload_n 0, 1), (1, .getfield 91, 3), (4, .iload_n 3, 1), (5, .iaload, 1), (6, .istore 4, 2), (8, .aload_n 0, 1), (9, .getfield 91, 3), (12, .iload_n 2, 1),
   (13, .iaload, 1), (14, .iload_n 1, 1), (15, .if_icmp .ne 39, 3), (18, .iload 4, 2), (20, .ifCond .lt 34, 3), (23, .iload 4, 2), (25, .iload_n 1, 1), (26, .if_icmp .eq 28, 3),
   (29, .aload_n 0, 1), (30, .iconst 0, 1), (31, .iload_n 1, 1), (32, .iload_n 3, 1), (33, .invokevirtual 447, 3), (36, .ifCond .eq 18, 3), (39, .aload_n 0, 1), (40, .iconst 0, 1),
   (41, .iload 4, 2), (43, .iload_n 2, 1), (44, .invokevirtual 447, 3), (47, .ifCond .eq 7, 3), (50, .iconst 1, 1), (51, .goto 4, 3), (54, .iconst 0, 1), (55, .ireturn, 1)]
def M_X12_isSwap : ab_MD := (K_X12, yX12_isSwap, cX12_isSwap, 5, (some .boolean), false, k_X12_isSwap)
theorem o_X12_isSwap : ab_OK M_X12_isSwap 3 := tb_ok OC_X12 (by decide +kernel) (by decide +kernel) (ab_T_in (tb_c_in 9 _ (List.mem_of_getElem? (i := 146) (rfl : (tb_c 9)[146]? = some (Cond.code yX12_isSwap cX12_isSwap 5 (some .boolean))))) rfl) IN_X12
theorem v_X12_isSwap : ab_kV M_X12_isSwap 12 := ⟨(ab_T_in (tb_c_in 9 _ (List.mem_of_getElem? (i := 145) (rfl : (tb_c 9)[145]? = some (Cond.instanceMethod yX12_isSwap)))) rfl), (ab_T_in (tb_c_in 0 _ (List.mem_of_getElem? (i := 108) (rfl : (tb_c 0)[108]? = some (Cond.selects RX12 yX12_isSwap yX12_isSwap)))) rfl), _, rfl, rfl⟩
def k_X12_isTold : List (Nat × Instr × Nat) :=
  [(0, .iconst 0, 1), (1, .istore_n 3, 1), (2, .iload_n 3, 1), (3, .aload_n 0, 1), (4, .getfield 225, 3), (7, .if_icmp .ge 51, 3), (10, .aload_n 0, 1), (11, .getfield 30, 3),
   (14, .iload_n 3, 1), (15, .iaload, 1), (16, .iload_n 1, 1), (17, .if_icmp .ne 13, 3), (20, .aload_n 0, 1), (21, .getfield 33, 3), (24, .iload_n 3, 1), (25, .iaload, 1),
   (26, .iload_n 2, 1), (27, .if_icmp .eq 23, 3), (30, .aload_n 0, 1), (31, .getfield 30, 3), (34, .iload_n 3, 1), (35, .iaload, 1), (36, .iload_n 2, 1), (37, .if_icmp .ne 15, 3),
   (40, .aload_n 0, 1), (41, .getfield 33, 3), (44, .iload_n 3, 1), (45, .iaload, 1), (46, .iload_n 1, 1), (47, .if_icmp .ne 5, 3), (50, .iconst 1, 1), (51, .ireturn, 1),
   (52, .iinc 3 1, 3), (55, .goto (-53), 3), (58, .iconst 0, 1), (59, .ireturn, 1)]
def M_X12_isTold : ab_MD := (K_X12, yX12_isTold, cX12_isTold, 4, (some .boolean), false, k_X12_isTold)
theorem o_X12_isTold : ab_OK M_X12_isTold 2 := tb_ok OC_X12 (by decide +kernel) (by decide +kernel) (ab_T_in (tb_c_in 9 _ (List.mem_of_getElem? (i := 223) (rfl : (tb_c 9)[223]? = some (Cond.code yX12_isTold cX12_isTold 4 (some .boolean))))) rfl) IN_X12
theorem v_X12_isTold : ab_kV M_X12_isTold 12 := ⟨(ab_T_in (tb_c_in 9 _ (List.mem_of_getElem? (i := 222) (rfl : (tb_c 9)[222]? = some (Cond.instanceMethod yX12_isTold)))) rfl), (ab_T_in (tb_c_in 0 _ (List.mem_of_getElem? (i := 115) (rfl : (tb_c 0)[115]? = some (Cond.selects RX12 yX12_isTold yX12_isTold)))) rfl), _, rfl, rfl⟩
def k_X12_joins : List (Nat × Instr × Nat) :=
  [(0, .aload_n 0, 1), (1, .iconst 0, 1), (2, .putfield 145, 3), (5, .iload_n 1, 1), (6, .invokestatic 483, 3), (9, .ifCond .eq 10, 3), (12, .iload_n 2, 1), (13, .invokestatic 483, 3),
   (16, .ifCond .ne 5, 3), (19, .iconst (-1), 1), (20, .ireturn, 1), (21, .aload_n 0, 1), (22, .invokevirtual 362, 3), (25, .aload_n 0, 1), (26, .iconst 0, 1), (27, .invokevirtual 418, 3),
   (30, .aload_n 0, 1), (31, .getfield 106, 3), (34, .iload_n 1, 1), (35, .iaload, 1), (36, .iload_n 2, 1), (37, .ishr, 1), (38, .iconst 1, 1), (39, .iand, 1),
   (40, .ireturn, 1)]
def M_X12_joins : ab_MD := (K_X12, yX12_joins, cX12_joins, 3, (some .int), false, k_X12_joins)
theorem o_X12_joins : ab_OK M_X12_joins 2 := tb_ok OC_X12 (by decide +kernel) (by decide +kernel) (ab_T_in (tb_c_in 8 _ (List.mem_of_getElem? (i := 198) (rfl : (tb_c 8)[198]? = some (Cond.code yX12_joins cX12_joins 3 (some .int))))) rfl) IN_X12
theorem v_X12_joins : ab_kV M_X12_joins 12 := ⟨(ab_T_in (tb_c_in 8 _ (List.mem_of_getElem? (i := 196) (rfl : (tb_c 8)[196]? = some (Cond.instanceMethod yX12_joins)))) rfl), (ab_T_in (tb_c_in 8 _ (List.mem_of_getElem? (i := 197) (rfl : (tb_c 8)[197]? = some (Cond.selects RX12 yX12_joins yX12_joins)))) rfl), _, rfl, rfl⟩
def k_X12_keep : List (Nat × Instr × Nat) :=
  [(0, .aload_n 0, 1), (1, .iconst 0, 1), (2, .putfield 145, 3), (5, .aload_n 0, 1), (6, .iconst 1, 1), (7, .putfield 371, 3), (10, .aload_n 0, 1), (11, .aload_n 0, 1),
   (12, .getfield 136, 3), (15, .iconst 0, 1), (16, .invokevirtual 564, 3), (19, .aload_n 0, 1), (20, .aload_n 0, 1), (21, .getfield 100, 3), (24, .iconst 0, 1), (25, .iaload, 1),
   (26, .putfield 570, 3), (29, .aload_n 0, 1), (30, .aload_n 0, 1), (31, .getfield 103, 3), (34, .iconst 0, 1), (35, .iaload, 1), (36, .putfield 573, 3), (39, .aload_n 0, 1),
   (40, .aload_n 0, 1), (41, .getfield 358, 3), (44, .putfield 576, 3), (47, .aload_n 0, 1), (48, .getfield 103, 3), (51, .iconst 0, 1), (52, .iaload, 1), (53, .ireturn, 1)]
def M_X12_keep : ab_MD := (K_X12, yX12_keep, cX12_keep, 1, (some .int), false, k_X12_keep)
theorem o_X12_keep : ab_OK M_X12_keep 0 := tb_ok OC_X12 (by decide +kernel) (by decide +kernel) (ab_T_in (tb_c_in 10 _ (List.mem_of_getElem? (i := 27) (rfl : (tb_c 10)[27]? = some (Cond.code yX12_keep cX12_keep 1 (some .int))))) rfl) IN_X12
theorem v_X12_keep : ab_kV M_X12_keep 12 := ⟨(ab_T_in (tb_c_in 10 _ (List.mem_of_getElem? (i := 25) (rfl : (tb_c 10)[25]? = some (Cond.instanceMethod yX12_keep)))) rfl), (ab_T_in (tb_c_in 10 _ (List.mem_of_getElem? (i := 26) (rfl : (tb_c 10)[26]? = some (Cond.selects RX12 yX12_keep yX12_keep)))) rfl), _, rfl, rfl⟩
def k_X12_keepText_0 : List (Nat × Instr × Nat) :=
  [(0, .aload_n 0, 1), (1, .aload_n 0, 1), (2, .getfield 207, 3), (5, .putfield 225, 3), (8, .aload_n 0, 1), (9, .aload_n 0, 1), (10, .getfield 210, 3), (13, .putfield 228, 3),
   (16, .aload_n 0, 1), (17, .aload_n 0, 1), (18, .getfield 213, 3), (21, .putfield 231, 3), (24, .aload_n 0, 1), (25, .aload_n 0, 1), (26, .getfield 216, 3), (29, .putfield 234, 3),
   (32, .aload_n 0, 1), (33, .aload_n 0, 1), (34, .getfield 219, 3), (37, .putfield 237, 3), (40, .aload_n 0, 1), (41, .getfield 24, 3), (44, .iconst 2, 1), (45, .invokestatic 240, 3),
   (48, .aload_n 0, 1), (49, .getfield 27, 3), (52, .bipush 9, 2), (54, .invokestatic 240, 3), (57, .aload_n 0, 1), (58, .getfield 30, 3), (61, .bipush 9, 2), (63, .invokestatic 240, 3),
   (66, .aload_n 0, 1), (67, .getfield 33, 3), (70, .bipush 9, 2), (72, .invokestatic 240, 3), (75, .aload_n 0, 1), (76, .getfield 36, 3), (79, .bipush 9, 2), (81, .invokestatic 240, 3),
   (84, .aload_n 0, 1), (85, .getfield 39, 3), (88, .bipush 9, 2), (90, .invokestatic 240, 3), (93, .aload_n 0, 1), (94, .getfield 42, 3), (97, .iconst 5, 1), (98, .invokestatic 240, 3)]
def k_X12_keepText_1 : List (Nat × Instr × Nat) :=
  [(101, .aload_n 0, 1), (102, .getfield 45, 3), (105, .bipush 8, 2), (107, .invokestatic 240, 3), (110, .aload_n 0, 1), (111, .getfield 48, 3), (114, .bipush 8, 2), (116, .invokestatic 240, 3),
   (119, .aload_n 0, 1), (120, .getfield 51, 3), (123, .bipush 8, 2), (125, .invokestatic 240, 3), (128, .aload_n 0, 1), (129, .getfield 54, 3), (132, .bipush 10, 2), (134, .invokestatic 240, 3),
   (137, .aload_n 0, 1), (138, .getfield 57, 3), (141, .bipush 10, 2), (143, .invokestatic 240, 3), (146, .iconst 0, 1), (147, .istore_n 1, 1), (148, .iload_n 1, 1), (149, .iconst 3, 1),
   (150, .if_icmp .ge 23, 3), (153, .aload_n 0, 1), (154, .getfield 60, 3), (157, .iload_n 1, 1), (158, .aload_n 0, 1), (159, .getfield 60, 3), (162, .iconst 3, 1), (163, .iload_n 1, 1),
   (164, .iadd, 1), (165, .baload, 1), (166, .bastore, 1), (167, .iinc 1 1, 3), (170, .goto (-22), 3), (173, .aload_n 0, 1), (174, .getfield 63, 3), (177, .iconst 3, 1),
   (178, .invokestatic 240, 3), (181, .aload_n 0, 1), (182, .getfield 66, 3), (185, .iconst 3, 1), (186, .invokestatic 240, 3), (189, .aload_n 0, 1), (190, .getfield 69, 3), (193, .bipush 64, 2)]
def k_X12_keepText_2 : List (Nat × Instr × Nat) :=
  [(195, .invokestatic 240, 3), (198, .aload_n 0, 1), (199, .getfield 72, 3), (202, .bipush 64, 2), (204, .invokestatic 240, 3), (207, .aload_n 0, 1), (208, .getfield 75, 3), (211, .bipush 64, 2),
   (213, .invokestatic 240, 3), (216, .aload_n 0, 1), (217, .invokevirtual 244, 3), (220, .return_, 1)]
def k_X12_keepText : List (Nat × Instr × Nat) := k_X12_keepText_0 ++ (k_X12_keepText_1 ++ (k_X12_keepText_2))
theorem r_X12_keepText_0 : k_X12_keepText_0.all (tb_rr cX12_keepText) = true := by decide +kernel
theorem r_X12_keepText_1 : k_X12_keepText_1.all (tb_rr cX12_keepText) = true := by decide +kernel
theorem r_X12_keepText_2 : k_X12_keepText_2.all (tb_rr cX12_keepText) = true := by decide +kernel
def M_X12_keepText : ab_MD := (K_X12, yX12_keepText, cX12_keepText, 2, none, false, k_X12_keepText)
theorem o_X12_keepText : ab_OK M_X12_keepText 0 := tb_ok OC_X12 (by decide +kernel) (tb_app r_X12_keepText_0 (tb_app r_X12_keepText_1 r_X12_keepText_2)) (ab_T_in (tb_c_in 6 _ (List.mem_of_getElem? (i := 234) (rfl : (tb_c 6)[234]? = some (Cond.code yX12_keepText cX12_keepText 2 none)))) rfl) IN_X12
theorem v_X12_keepText : ab_kV M_X12_keepText 12 := ⟨(ab_T_in (tb_c_in 6 _ (List.mem_of_getElem? (i := 233) (rfl : (tb_c 6)[233]? = some (Cond.instanceMethod yX12_keepText)))) rfl), (ab_T_in (tb_c_in 0 _ (List.mem_of_getElem? (i := 46) (rfl : (tb_c 0)[46]? = some (Cond.selects RX12 yX12_keepText yX12_keepText)))) rfl), _, rfl, rfl⟩
def k_X12_known : List (Nat × Instr × Nat) :=
  [(0, .aload_n 0, 1), (1, .iconst 0, 1), (2, .putfield 145, 3), (5, .iload_n 1, 1), (6, .iconst (-1), 1), (7, .aload_n 0, 1), (8, .getfield 365, 3), (11, .invokestatic 190, 3),
   (14, .ifCond .ne 5, 3), (17, .iconst 0, 1), (18, .ireturn, 1), (19, .aload_n 0, 1), (20, .iload_n 1, 1), (21, .putfield 124, 3), (24, .iconst 1, 1), (25, .ireturn, 1)]
def M_X12_known : ab_MD := (K_X12, yX12_known, cX12_known, 2, (some .boolean), false, k_X12_known)
theorem o_X12_known : ab_OK M_X12_known 1 := tb_ok OC_X12 (by decide +kernel) (by decide +kernel) (ab_T_in (tb_c_in 9 _ (List.mem_of_getElem? (i := 203) (rfl : (tb_c 9)[203]? = some (Cond.code yX12_known cX12_known 2 (some .boolean))))) rfl) IN_X12
theorem v_X12_known : ab_kV M_X12_known 12 := ⟨(ab_T_in (tb_c_in 9 _ (List.mem_of_getElem? (i := 201) (rfl : (tb_c 9)[201]? = some (Cond.instanceMethod yX12_known)))) rfl), (ab_T_in (tb_c_in 9 _ (List.mem_of_getElem? (i := 202) (rfl : (tb_c 9)[202]? = some (Cond.selects RX12 yX12_known yX12_known)))) rfl), _, rfl, rfl⟩
def k_X12_knownBy : List (Nat × Instr × Nat) :=
  [(0, .aload_n 0, 1), (1, .getfield 124, 3), (4, .ifCond .ge 10, 3), (7, .aload_n 0, 1), (8, .getfield 365, 3), (11, .goto 7, 3), (14, .aload_n 0, 1), (15, .getfield 124, 3),
   (18, .ireturn, 1)]
def M_X12_knownBy : ab_MD := (K_X12, yX12_knownBy, cX12_knownBy, 1, (some .int), false, k_X12_knownBy)
theorem o_X12_knownBy : ab_OK M_X12_knownBy 0 := tb_ok OC_X12 (by decide +kernel) (by decide +kernel) (ab_T_in (tb_c_in 9 _ (List.mem_of_getElem? (i := 215) (rfl : (tb_c 9)[215]? = some (Cond.code yX12_knownBy cX12_knownBy 1 (some .int))))) rfl) IN_X12
theorem v_X12_knownBy : ab_kV M_X12_knownBy 12 := ⟨(ab_T_in (tb_c_in 9 _ (List.mem_of_getElem? (i := 214) (rfl : (tb_c 9)[214]? = some (Cond.instanceMethod yX12_knownBy)))) rfl), (ab_T_in (tb_c_in 0 _ (List.mem_of_getElem? (i := 113) (rfl : (tb_c 0)[113]? = some (Cond.selects RX12 yX12_knownBy yX12_knownBy)))) rfl), _, rfl, rfl⟩
def k_X12_lacks : List (Nat × Instr × Nat) :=
  [(0, .aload_n 0, 1), (1, .iconst 0, 1), (2, .putfield 145, 3), (5, .aload_n 0, 1), (6, .iload_n 1, 1), (7, .invokevirtual 480, 3), (10, .ifCond .ne 5, 3), (13, .iconst (-1), 1),
   (14, .ireturn, 1), (15, .aload_n 0, 1), (16, .invokevirtual 362, 3), (19, .aload_n 0, 1), (20, .iconst 0, 1), (21, .invokevirtual 462, 3), (24, .aload_n 0, 1), (25, .iconst 0, 1),
   (26, .iload_n 1, 1), (27, .invokevirtual 392, 3), (30, .istore_n 2, 1), (31, .iconst 0, 1), (32, .istore_n 3, 1), (33, .iconst 0, 1), (34, .istore 4, 2), (36, .iload 4, 2),
   (38, .aload_n 0, 1), (39, .getfield 225, 3), (42, .if_icmp .ge 63, 3), (45, .aload_n 0, 1), (46, .getfield 91, 3), (49, .iload 4, 2), (51, .iaload, 1), (52, .iload_n 1, 1),
   (53, .if_icmp .eq 46, 3), (56, .aload_n 0, 1), (57, .getfield 91, 3), (60, .iload 4, 2), (62, .iaload, 1), (63, .bipush (-3), 2), (65, .if_icmp .eq 34, 3), (68, .aload_n 0, 1),
   (69, .iconst 0, 1), (70, .iload_n 1, 1), (71, .iload 4, 2), (73, .invokevirtual 447, 3), (76, .ifCond .eq 23, 3), (79, .aload_n 0, 1), (80, .iload_n 2, 1), (81, .iconst 1, 1),
   (82, .iload 4, 2), (84, .ishl, 1), (85, .ior, 1), (86, .invokevirtual 512, 3), (89, .ifCond .eq 10, 3), (92, .iload_n 3, 1), (93, .iconst 1, 1), (94, .iload 4, 2),
   (96, .ishl, 1), (97, .ior, 1), (98, .istore_n 3, 1), (99, .iinc 4 1, 3), (102, .goto (-66), 3), (105, .iload_n 3, 1), (106, .ireturn, 1)]
def M_X12_lacks : ab_MD := (K_X12, yX12_lacks, cX12_lacks, 5, (some .int), false, k_X12_lacks)
theorem o_X12_lacks : ab_OK M_X12_lacks 1 := tb_ok OC_X12 (by decide +kernel) (by decide +kernel) (ab_T_in (tb_c_in 9 _ (List.mem_of_getElem? (i := 150) (rfl : (tb_c 9)[150]? = some (Cond.code yX12_lacks cX12_lacks 5 (some .int))))) rfl) IN_X12
theorem v_X12_lacks : ab_kV M_X12_lacks 12 := ⟨(ab_T_in (tb_c_in 9 _ (List.mem_of_getElem? (i := 148) (rfl : (tb_c 9)[148]? = some (Cond.instanceMethod yX12_lacks)))) rfl), (ab_T_in (tb_c_in 9 _ (List.mem_of_getElem? (i := 149) (rfl : (tb_c 9)[149]? = some (Cond.selects RX12 yX12_lacks yX12_lacks)))) rfl), _, rfl, rfl⟩
def k_X12_laidAll : List (Nat × Instr × Nat) :=
  [(0, .iconst 0, 1), (1, .istore_n 2, 1), (2, .iconst 0, 1), (3, .istore_n 3, 1), (4, .iload_n 3, 1), (5, .aload_n 0, 1), (6, .getfield 228, 3), (9, .if_icmp .ge 22, 3),
   (12, .iload_n 2, 1), (13, .aload_n 0, 1), (14, .getfield 97, 3), (17, .iconst 5, 1), (18, .iload_n 1, 1), (19, .imul, 1), (20, .iload_n 3, 1), (21, .iadd, 1),
   (22, .iaload, 1), (23, .iadd, 1), (24, .istore_n 2, 1), (25, .iinc 3 1, 3), (28, .goto (-24), 3), (31, .iload_n 2, 1), (32, .ireturn, 1)]
def M_X12_laidAll : ab_MD := (K_X12, yX12_laidAll, cX12_laidAll, 4, (some .int), false, k_X12_laidAll)
theorem o_X12_laidAll : ab_OK M_X12_laidAll 1 := tb_ok OC_X12 (by decide +kernel) (by decide +kernel) (ab_T_in (tb_c_in 9 _ (List.mem_of_getElem? (i := 93) (rfl : (tb_c 9)[93]? = some (Cond.code yX12_laidAll cX12_laidAll 4 (some .int))))) rfl) IN_X12
theorem v_X12_laidAll : ab_kV M_X12_laidAll 12 := ⟨(ab_T_in (tb_c_in 9 _ (List.mem_of_getElem? (i := 92) (rfl : (tb_c 9)[92]? = some (Cond.instanceMethod yX12_laidAll)))) rfl), (ab_T_in (tb_c_in 0 _ (List.mem_of_getElem? (i := 103) (rfl : (tb_c 0)[103]? = some (Cond.selects RX12 yX12_laidAll yX12_laidAll)))) rfl), _, rfl, rfl⟩
def k_X12_lastsOf : List (Nat × Instr × Nat) :=
  [(0, .iconst 0, 1), (1, .istore_n 3, 1), (2, .iconst 0, 1), (3, .istore 4, 2), (5, .iload 4, 2), (7, .aload_n 0, 1), (8, .getfield 225, 3), (11, .if_icmp .ge 113, 3),
   (14, .iload_n 1, 1), (15, .iload 4, 2), (17, .invokestatic 412, 3), (20, .ifCond .ne 6, 3), (23, .goto 95, 3), (26, .iload_n 1, 1), (27, .iconst 1, 1), (28, .iload 4, 2),
   (30, .ishl, 1), (31, .if_icmp .ne 60, 3), (34, .iload_n 3, 1), (35, .aload_n 0, 1), (36, .getfield 30, 3), (39, .iload 4, 2), (41, .iaload, 1), (42, .iload_n 2, 1),
   (43, .if_icmp .ne 15, 3), (46, .iconst 1, 1), (47, .aload_n 0, 1), (48, .getfield 33, 3), (51, .iload 4, 2), (53, .iaload, 1), (54, .ishl, 1), (55, .goto 4, 3),
   (58, .iconst 0, 1), (59, .ior, 1), (60, .istore_n 3, 1), (61, .iload_n 3, 1), (62, .aload_n 0, 1), (63, .getfield 33, 3), (66, .iload 4, 2), (68, .iaload, 1),
   (69, .iload_n 2, 1), (70, .if_icmp .ne 15, 3), (73, .iconst 1, 1), (74, .aload_n 0, 1), (75, .getfield 30, 3), (78, .iload 4, 2), (80, .iaload, 1), (81, .ishl, 1),
   (82, .goto 4, 3), (85, .iconst 0, 1), (86, .ior, 1), (87, .istore_n 3, 1), (88, .goto 30, 3), (91, .iload_n 3, 1), (92, .aload_n 0, 1), (93, .aload_n 0, 1),
   (94, .getfield 109, 3), (97, .bipush 7, 2), (99, .iload_n 1, 1), (100, .iconst 1, 1), (101, .iload 4, 2), (103, .ishl, 1), (104, .iconst (-1), 1), (105, .ixor, 1),
   (106, .iand, 1), (107, .imul, 1), (108, .iload_n 2, 1), (109, .iadd, 1), (110, .iaload, 1), (111, .iload 4, 2), (113, .invokevirtual 415, 3), (116, .ior, 1),
   (117, .istore_n 3, 1), (118, .iinc 4 1, 3), (121, .goto (-116), 3), (124, .iload_n 3, 1), (125, .ireturn, 1)]
def M_X12_lastsOf : ab_MD := (K_X12, yX12_lastsOf, cX12_lastsOf, 5, (some .int), false, k_X12_lastsOf)
theorem o_X12_lastsOf : ab_OK M_X12_lastsOf 2 := tb_ok OC_X12 (by decide +kernel) (by decide +kernel) (ab_T_in (tb_c_in 9 _ (List.mem_of_getElem? (i := 41) (rfl : (tb_c 9)[41]? = some (Cond.code yX12_lastsOf cX12_lastsOf 5 (some .int))))) rfl) IN_X12
theorem v_X12_lastsOf : ab_kV M_X12_lastsOf 12 := ⟨(ab_T_in (tb_c_in 9 _ (List.mem_of_getElem? (i := 40) (rfl : (tb_c 9)[40]? = some (Cond.instanceMethod yX12_lastsOf)))) rfl), (ab_T_in (tb_c_in 0 _ (List.mem_of_getElem? (i := 94) (rfl : (tb_c 0)[94]? = some (Cond.selects RX12 yX12_lastsOf yX12_lastsOf)))) rfl), _, rfl, rfl⟩
def k_X12_law_0 : List (Nat × Instr × Nat) :=
  [(0, .aload_n 0, 1), (1, .iconst 0, 1), (2, .putfield 145, 3), (5, .iload_n 1, 1), (6, .iconst 0, 1), (7, .iconst 2, 1), (8, .invokestatic 190, 3), (11, .ifCond .eq 49, 3),
   (14, .aload_n 0, 1), (15, .getfield 60, 3), (18, .iload_n 1, 1), (19, .baload, 1), (20, .ifCond .eq 40, 3), (23, .iload_n 1, 1), (24, .ifCond .ne 20, 3), (27, .iload_n 2, 1),
   (28, .invokestatic 483, 3), (31, .ifCond .eq 29, 3), (34, .iload_n 3, 1), (35, .invokestatic 483, 3), (38, .ifCond .ne 26, 3), (41, .goto 19, 3), (44, .aload_n 0, 1), (45, .iload_n 2, 1),
   (46, .invokevirtual 474, 3), (49, .ifCond .eq 11, 3), (52, .aload_n 0, 1), (53, .iload_n 3, 1), (54, .invokevirtual 480, 3), (57, .ifCond .ne 7, 3), (60, .ldc2_w 486, 3), (63, .lreturn, 1),
   (64, .iload_n 1, 1), (65, .ifCond .ne 32, 3), (68, .aload_n 0, 1), (69, .iload_n 2, 1), (70, .iload_n 3, 1), (71, .iconst 0, 1), (72, .iload_n 2, 1), (73, .iload_n 3, 1),
   (74, .invokestatic 402, 3), (77, .invokevirtual 405, 3), (80, .aload_n 0, 1), (81, .getfield 84, 3), (84, .bipush 6, 2), (86, .aload_n 0, 1), (87, .getfield 103, 3), (90, .iconst 0, 1)]
def k_X12_law_1 : List (Nat × Instr × Nat) :=
  [(91, .iaload, 1), (92, .i2l, 1), (93, .lastore, 1), (94, .goto 68, 3), (97, .aload_n 0, 1), (98, .getfield 30, 3), (101, .iload_n 2, 1), (102, .iaload, 1),
   (103, .aload_n 0, 1), (104, .getfield 33, 3), (107, .iload_n 2, 1), (108, .iaload, 1), (109, .invokestatic 402, 3), (112, .istore 4, 2), (114, .aload_n 0, 1), (115, .aload_n 0, 1),
   (116, .getfield 30, 3), (119, .iload_n 2, 1), (120, .iaload, 1), (121, .aload_n 0, 1), (122, .getfield 33, 3), (125, .iload_n 2, 1), (126, .iaload, 1), (127, .aload_n 0, 1),
   (128, .getfield 36, 3), (131, .iload_n 2, 1), (132, .iaload, 1), (133, .iload_n 1, 1), (134, .iconst 1, 1), (135, .if_icmp .ne 8, 3), (138, .iload 4, 2), (140, .goto 13, 3),
   (143, .iload 4, 2), (145, .ifCond .ne 7, 3), (148, .iconst 1, 1), (149, .goto 4, 3), (152, .iconst 0, 1), (153, .invokevirtual 405, 3), (156, .aload_n 0, 1), (157, .iconst 0, 1),
   (158, .iload_n 3, 1), (159, .invokevirtual 427, 3), (162, .aload_n 0, 1), (163, .iload_n 1, 1), (164, .invokevirtual 409, 3), (167, .lstore 4, 2), (169, .aload_n 0, 1), (170, .getfield 333, 3)]
def k_X12_law_2 : List (Nat × Instr × Nat) :=
  [(173, .ifCond .eq 9, 3), (176, .ldc2_w 486, 3), (179, .goto 5, 3), (182, .lload 4, 2), (184, .lreturn, 1)]
def k_X12_law : List (Nat × Instr × Nat) := k_X12_law_0 ++ (k_X12_law_1 ++ (k_X12_law_2))
theorem r_X12_law_0 : k_X12_law_0.all (tb_rr cX12_law) = true := by decide +kernel
theorem r_X12_law_1 : k_X12_law_1.all (tb_rr cX12_law) = true := by decide +kernel
theorem r_X12_law_2 : k_X12_law_2.all (tb_rr cX12_law) = true := by decide +kernel
def M_X12_law : ab_MD := (K_X12, yX12_law, cX12_law, 6, (some .long), false, k_X12_law)
theorem o_X12_law : ab_OK M_X12_law 3 := tb_ok OC_X12 (by decide +kernel) (tb_app r_X12_law_0 (tb_app r_X12_law_1 r_X12_law_2)) (ab_T_in (tb_c_in 8 _ (List.mem_of_getElem? (i := 237) (rfl : (tb_c 8)[237]? = some (Cond.code yX12_law cX12_law 6 (some .long))))) rfl) IN_X12
theorem v_X12_law : ab_kV M_X12_law 12 := ⟨(ab_T_in (tb_c_in 8 _ (List.mem_of_getElem? (i := 235) (rfl : (tb_c 8)[235]? = some (Cond.instanceMethod yX12_law)))) rfl), (ab_T_in (tb_c_in 8 _ (List.mem_of_getElem? (i := 236) (rfl : (tb_c 8)[236]? = some (Cond.selects RX12 yX12_law yX12_law)))) rfl), _, rfl, rfl⟩
def k_X12_lawOf : List (Nat × Instr × Nat) :=
  [(0, .aload_n 0, 1), (1, .iconst 0, 1), (2, .putfield 333, 3), (5, .aload_n 0, 1), (6, .getfield 63, 3), (9, .iload_n 1, 1), (10, .iaload, 1), (11, .istore_n 2, 1),
   (12, .iload_n 2, 1), (13, .aload_n 0, 1), (14, .getfield 66, 3), (17, .iload_n 1, 1), (18, .iaload, 1), (19, .if_icmp .ge 20, 3), (22, .aload_n 0, 1), (23, .getfield 88, 3),
   (26, .iload_n 2, 1), (27, .aload_n 0, 1), (28, .iload_n 2, 1), (29, .invokevirtual 398, 3), (32, .lastore, 1), (33, .iinc 2 1, 3), (36, .goto (-24), 3), (39, .aload_n 0, 1),
   (40, .getfield 333, 3), (43, .ifCond .eq 7, 3), (46, .lconst 0, 1), (47, .goto 16, 3), (50, .aload_n 0, 1), (51, .getfield 88, 3), (54, .aload_n 0, 1), (55, .getfield 66, 3),
   (58, .iload_n 1, 1), (59, .iaload, 1), (60, .iconst 1, 1), (61, .isub, 1), (62, .laload, 1), (63, .lreturn, 1)]
def M_X12_lawOf : ab_MD := (K_X12, yX12_lawOf, cX12_lawOf, 3, (some .long), false, k_X12_lawOf)
theorem o_X12_lawOf : ab_OK M_X12_lawOf 1 := tb_ok OC_X12 (by decide +kernel) (by decide +kernel) (ab_T_in (tb_c_in 8 _ (List.mem_of_getElem? (i := 216) (rfl : (tb_c 8)[216]? = some (Cond.code yX12_lawOf cX12_lawOf 3 (some .long))))) rfl) IN_X12
theorem v_X12_lawOf : ab_kV M_X12_lawOf 12 := ⟨(ab_T_in (tb_c_in 8 _ (List.mem_of_getElem? (i := 215) (rfl : (tb_c 8)[215]? = some (Cond.instanceMethod yX12_lawOf)))) rfl), (ab_T_in (tb_c_in 0 _ (List.mem_of_getElem? (i := 84) (rfl : (tb_c 0)[84]? = some (Cond.selects RX12 yX12_lawOf yX12_lawOf)))) rfl), _, rfl, rfl⟩
def k_X12_lay : List (Nat × Instr × Nat) :=
  [(0, .aload_n 0, 1), (1, .iconst 0, 1), (2, .putfield 145, 3), (5, .aload_n 0, 1), (6, .iload_n 1, 1), (7, .invokevirtual 480, 3), (10, .ifCond .ne 5, 3), (13, .iconst (-1), 1),
   (14, .ireturn, 1), (15, .aload_n 0, 1), (16, .invokevirtual 362, 3), (19, .aload_n 0, 1), (20, .iconst 0, 1), (21, .invokevirtual 462, 3), (24, .aload_n 0, 1), (25, .iconst 0, 1),
   (26, .iload_n 1, 1), (27, .invokevirtual 392, 3), (30, .invokestatic 395, 3), (33, .aload_n 0, 1), (34, .getfield 389, 3), (37, .if_icmp .lt 12, 3), (40, .aload_n 0, 1), (41, .iconst 0, 1),
   (42, .iload_n 1, 1), (43, .invokevirtual 465, 3), (46, .ifCond .ne 6, 3), (49, .bipush (-2), 2), (51, .ireturn, 1), (52, .aload_n 0, 1), (53, .invokevirtual 488, 3), (56, .aload_n 0, 1),
   (57, .iconst 0, 1), (58, .iload_n 1, 1), (59, .invokevirtual 468, 3), (62, .aload_n 0, 1), (63, .getfield 424, 3), (66, .ireturn, 1)]
def M_X12_lay : ab_MD := (K_X12, yX12_lay, cX12_lay, 2, (some .int), false, k_X12_lay)
theorem o_X12_lay : ab_OK M_X12_lay 1 := tb_ok OC_X12 (by decide +kernel) (by decide +kernel) (ab_T_in (tb_c_in 9 _ (List.mem_of_getElem? (i := 33) (rfl : (tb_c 9)[33]? = some (Cond.code yX12_lay cX12_lay 2 (some .int))))) rfl) IN_X12
theorem v_X12_lay : ab_kV M_X12_lay 12 := ⟨(ab_T_in (tb_c_in 9 _ (List.mem_of_getElem? (i := 31) (rfl : (tb_c 9)[31]? = some (Cond.instanceMethod yX12_lay)))) rfl), (ab_T_in (tb_c_in 9 _ (List.mem_of_getElem? (i := 32) (rfl : (tb_c 9)[32]? = some (Cond.selects RX12 yX12_lay yX12_lay)))) rfl), _, rfl, rfl⟩
def k_X12_layCounts : List (Nat × Instr × Nat) :=
  [(0, .iconst 0, 1), (1, .istore_n 1, 1), (2, .iload_n 1, 1), (3, .aload_n 0, 1), (4, .invokevirtual 539, 3), (7, .if_icmp .ge 16, 3), (10, .aload_n 0, 1), (11, .getfield 130, 3),
   (14, .iload_n 1, 1), (15, .iconst 1, 1), (16, .bastore, 1), (17, .iinc 1 1, 3), (20, .goto (-18), 3), (23, .aload_n 0, 1), (24, .invokevirtual 539, 3), (27, .iconst 1, 1),
   (28, .isub, 1), (29, .istore_n 1, 1), (30, .iload_n 1, 1), (31, .ifCond .lt 46, 3), (34, .aload_n 0, 1), (35, .getfield 130, 3), (38, .iload_n 1, 1), (39, .baload, 1),
   (40, .ifCond .eq 31, 3), (43, .aload_n 0, 1), (44, .getfield 127, 3), (47, .iconst 5, 1), (48, .iload_n 1, 1), (49, .imul, 1), (50, .iaload, 1), (51, .iconst 3, 1),
   (52, .if_icmp .ne 19, 3), (55, .aload_n 0, 1), (56, .getfield 130, 3), (59, .aload_n 0, 1), (60, .getfield 127, 3), (63, .iconst 5, 1), (64, .iload_n 1, 1), (65, .imul, 1),
   (66, .iconst 1, 1), (67, .iadd, 1), (68, .iaload, 1), (69, .iconst 0, 1), (70, .bastore, 1), (71, .iinc 1 (-1), 3), (74, .goto (-44), 3), (77, .return_, 1)]
def M_X12_layCounts : ab_MD := (K_X12, yX12_layCounts, cX12_layCounts, 2, none, false, k_X12_layCounts)
theorem o_X12_layCounts : ab_OK M_X12_layCounts 0 := tb_ok OC_X12 (by decide +kernel) (by decide +kernel) (ab_T_in (tb_c_in 9 _ (List.mem_of_getElem? (i := 211) (rfl : (tb_c 9)[211]? = some (Cond.code yX12_layCounts cX12_layCounts 2 none)))) rfl) IN_X12
theorem v_X12_layCounts : ab_kV M_X12_layCounts 12 := ⟨(ab_T_in (tb_c_in 9 _ (List.mem_of_getElem? (i := 210) (rfl : (tb_c 9)[210]? = some (Cond.instanceMethod yX12_layCounts)))) rfl), (ab_T_in (tb_c_in 0 _ (List.mem_of_getElem? (i := 112) (rfl : (tb_c 0)[112]? = some (Cond.selects RX12 yX12_layCounts yX12_layCounts)))) rfl), _, rfl, rfl⟩
def k_X12_layGame : List (Nat × Instr × Nat) :=
  [(0, .aload_n 0, 1), (1, .iconst 0, 1), (2, .invokevirtual 418, 3), (5, .iload_n 1, 1), (6, .iload_n 2, 1), (7, .ior, 1), (8, .istore_n 3, 1), (9, .sipush 511, 3),
   (12, .istore 4, 2), (14, .iload 4, 2), (16, .ifCond .le 96, 3), (19, .iload 4, 2), (21, .iload_n 3, 1), (22, .iconst (-1), 1), (23, .ixor, 1), (24, .iand, 1),
   (25, .ifCond .eq 6, 3), (28, .goto 78, 3), (31, .iload 4, 2), (33, .invokestatic 395, 3), (36, .iconst 2, 1), (37, .irem, 1), (38, .ifCond .ne 7, 3), (41, .iload_n 1, 1),
   (42, .goto 4, 3), (45, .iload_n 2, 1), (46, .istore 5, 2), (48, .iconst 0, 1), (49, .istore 6, 2), (51, .iload 6, 2), (53, .bipush 7, 2), (55, .if_icmp .ge 51, 3),
   (58, .iconst 0, 1), (59, .istore 7, 2), (61, .iload 7, 2), (63, .bipush 7, 2), (65, .if_icmp .ge 35, 3), (68, .aload_n 0, 1), (69, .getfield 121, 3), (72, .iload 4, 2),
   (74, .iload 6, 2), (76, .iload 7, 2), (78, .invokestatic 518, 3), (81, .aload_n 0, 1), (82, .iload 5, 2), (84, .iload 4, 2), (86, .iload 6, 2), (88, .iload 7, 2),
   (90, .invokevirtual 525, 3), (93, .iastore, 1), (94, .iinc 7 1, 3), (97, .goto (-36), 3), (100, .iinc 6 1, 3), (103, .goto (-52), 3), (106, .iinc 4 (-1), 3), (109, .goto (-95), 3),
   (112, .return_, 1)]
def M_X12_layGame : ab_MD := (K_X12, yX12_layGame, cX12_layGame, 8, none, false, k_X12_layGame)
theorem o_X12_layGame : ab_OK M_X12_layGame 2 := tb_ok OC_X12 (by decide +kernel) (by decide +kernel) (ab_T_in (tb_c_in 9 _ (List.mem_of_getElem? (i := 166) (rfl : (tb_c 9)[166]? = some (Cond.code yX12_layGame cX12_layGame 8 none)))) rfl) IN_X12
theorem v_X12_layGame : ab_kV M_X12_layGame 12 := ⟨(ab_T_in (tb_c_in 9 _ (List.mem_of_getElem? (i := 165) (rfl : (tb_c 9)[165]? = some (Cond.instanceMethod yX12_layGame)))) rfl), (ab_T_in (tb_c_in 0 _ (List.mem_of_getElem? (i := 109) (rfl : (tb_c 0)[109]? = some (Cond.selects RX12 yX12_layGame yX12_layGame)))) rfl), _, rfl, rfl⟩
def k_X12_layHeir : List (Nat × Instr × Nat) :=
  [(0, .aload_n 0, 1), (1, .getfield 84, 3), (4, .iconst 4, 1), (5, .aload_n 0, 1), (6, .iload_n 1, 1), (7, .iload_n 2, 1), (8, .invokevirtual 392, 3), (11, .invokestatic 395, 3),
   (14, .i2l, 1), (15, .lastore, 1), (16, .aload_n 0, 1), (17, .getfield 84, 3), (20, .iconst 5, 1), (21, .aload_n 0, 1), (22, .getfield 94, 3), (25, .iconst 5, 1),
   (26, .iload_n 1, 1), (27, .imul, 1), (28, .iload_n 2, 1), (29, .iadd, 1), (30, .iaload, 1), (31, .i2l, 1), (32, .lastore, 1), (33, .aload_n 0, 1),
   (34, .getfield 84, 3), (37, .bipush 6, 2), (39, .aload_n 0, 1), (40, .getfield 103, 3), (43, .iload_n 1, 1), (44, .iaload, 1), (45, .i2l, 1), (46, .lastore, 1),
   (47, .return_, 1)]
def M_X12_layHeir : ab_MD := (K_X12, yX12_layHeir, cX12_layHeir, 3, none, false, k_X12_layHeir)
theorem o_X12_layHeir : ab_OK M_X12_layHeir 2 := tb_ok OC_X12 (by decide +kernel) (by decide +kernel) (ab_T_in (tb_c_in 9 _ (List.mem_of_getElem? (i := 2) (rfl : (tb_c 9)[2]? = some (Cond.code yX12_layHeir cX12_layHeir 3 none)))) rfl) IN_X12
theorem v_X12_layHeir : ab_kV M_X12_layHeir 12 := ⟨(ab_T_in (tb_c_in 9 _ (List.mem_of_getElem? (i := 1) (rfl : (tb_c 9)[1]? = some (Cond.instanceMethod yX12_layHeir)))) rfl), (ab_T_in (tb_c_in 0 _ (List.mem_of_getElem? (i := 88) (rfl : (tb_c 0)[88]? = some (Cond.selects RX12 yX12_layHeir yX12_layHeir)))) rfl), _, rfl, rfl⟩
def k_X12_layJoins_0 : List (Nat × Instr × Nat) :=
  [(0, .iconst 0, 1), (1, .istore_n 2, 1), (2, .iload_n 2, 1), (3, .bipush 7, 2), (5, .if_icmp .ge 138, 3), (8, .aload_n 0, 1), (9, .getfield 106, 3), (12, .iload_n 2, 1),
   (13, .iconst 0, 1), (14, .iastore, 1), (15, .iconst 0, 1), (16, .istore_n 3, 1), (17, .iload_n 3, 1), (18, .bipush 7, 2), (20, .if_icmp .ge 117, 3), (23, .iload_n 2, 1),
   (24, .iload_n 3, 1), (25, .if_icmp .ne 7, 3), (28, .iconst 1, 1), (29, .goto 4, 3), (32, .iconst 0, 1), (33, .istore 4, 2), (35, .aload_n 0, 1), (36, .getfield 60, 3),
   (39, .iconst 0, 1), (40, .baload, 1), (41, .ifCond .eq 62, 3), (44, .aload_n 0, 1), (45, .iload_n 2, 1), (46, .iload_n 3, 1), (47, .iconst 0, 1), (48, .iload_n 2, 1),
   (49, .iload_n 3, 1), (50, .invokestatic 402, 3), (53, .invokevirtual 405, 3), (56, .aload_n 0, 1), (57, .getfield 84, 3), (60, .bipush 6, 2), (62, .aload_n 0, 1), (63, .getfield 103, 3),
   (66, .iload_n 1, 1), (67, .iaload, 1), (68, .i2l, 1), (69, .lastore, 1), (70, .aload_n 0, 1), (71, .iconst 0, 1), (72, .invokevirtual 409, 3), (75, .lstore 5, 2)]
def k_X12_layJoins_1 : List (Nat × Instr × Nat) :=
  [(77, .aload_n 0, 1), (78, .getfield 333, 3), (81, .ifCond .eq 8, 3), (84, .iload 4, 2), (86, .goto 15, 3), (89, .lload 5, 2), (91, .lconst 0, 1), (92, .lcmp, 1),
   (93, .ifCond .eq 7, 3), (96, .iconst 1, 1), (97, .goto 4, 3), (100, .iconst 0, 1), (101, .istore 4, 2), (103, .aload_n 0, 1), (104, .getfield 106, 3), (107, .iload_n 2, 1),
   (108, .dup2, 1), (109, .iaload, 1), (110, .iload 4, 2), (112, .ifCond .ne 10, 3), (115, .aload_n 0, 1), (116, .getfield 380, 3), (119, .ifCond .eq 9, 3), (122, .iconst 1, 1),
   (123, .iload_n 3, 1), (124, .ishl, 1), (125, .goto 4, 3), (128, .iconst 0, 1), (129, .ior, 1), (130, .iastore, 1), (131, .iinc 3 1, 3), (134, .goto (-117), 3),
   (137, .iinc 2 1, 3), (140, .goto (-138), 3), (143, .return_, 1)]
def k_X12_layJoins : List (Nat × Instr × Nat) := k_X12_layJoins_0 ++ (k_X12_layJoins_1)
theorem r_X12_layJoins_0 : k_X12_layJoins_0.all (tb_rr cX12_layJoins) = true := by decide +kernel
theorem r_X12_layJoins_1 : k_X12_layJoins_1.all (tb_rr cX12_layJoins) = true := by decide +kernel
def M_X12_layJoins : ab_MD := (K_X12, yX12_layJoins, cX12_layJoins, 7, none, false, k_X12_layJoins)
theorem o_X12_layJoins : ab_OK M_X12_layJoins 1 := tb_ok OC_X12 (by decide +kernel) (tb_app r_X12_layJoins_0 r_X12_layJoins_1) (ab_T_in (tb_c_in 8 _ (List.mem_of_getElem? (i := 205) (rfl : (tb_c 8)[205]? = some (Cond.code yX12_layJoins cX12_layJoins 7 none)))) rfl) IN_X12
theorem v_X12_layJoins : ab_kV M_X12_layJoins 12 := ⟨(ab_T_in (tb_c_in 8 _ (List.mem_of_getElem? (i := 204) (rfl : (tb_c 8)[204]? = some (Cond.instanceMethod yX12_layJoins)))) rfl), (ab_T_in (tb_c_in 0 _ (List.mem_of_getElem? (i := 82) (rfl : (tb_c 0)[82]? = some (Cond.selects RX12 yX12_layJoins yX12_layJoins)))) rfl), _, rfl, rfl⟩
def k_X12_layNames : List (Nat × Instr × Nat) :=
  [(0, .aload_n 0, 1), (1, .getfield 84, 3), (4, .iconst 0, 1), (5, .iload_n 1, 1), (6, .i2l, 1), (7, .lastore, 1), (8, .aload_n 0, 1), (9, .getfield 84, 3),
   (12, .iconst 1, 1), (13, .iload_n 2, 1), (14, .i2l, 1), (15, .lastore, 1), (16, .aload_n 0, 1), (17, .getfield 84, 3), (20, .iconst 2, 1), (21, .iload_n 3, 1),
   (22, .i2l, 1), (23, .lastore, 1), (24, .aload_n 0, 1), (25, .getfield 84, 3), (28, .iconst 3, 1), (29, .iload 4, 2), (31, .i2l, 1), (32, .lastore, 1),
   (33, .aload_n 0, 1), (34, .getfield 84, 3), (37, .iconst 4, 1), (38, .lconst 0, 1), (39, .lastore, 1), (40, .aload_n 0, 1), (41, .getfield 84, 3), (44, .iconst 5, 1),
   (45, .lconst 0, 1), (46, .lastore, 1), (47, .return_, 1)]
def M_X12_layNames : ab_MD := (K_X12, yX12_layNames, cX12_layNames, 5, none, false, k_X12_layNames)
theorem o_X12_layNames : ab_OK M_X12_layNames 4 := tb_ok OC_X12 (by decide +kernel) (by decide +kernel) (ab_T_in (tb_c_in 8 _ (List.mem_of_getElem? (i := 212) (rfl : (tb_c 8)[212]? = some (Cond.code yX12_layNames cX12_layNames 5 none)))) rfl) IN_X12
theorem v_X12_layNames : ab_kV M_X12_layNames 12 := ⟨(ab_T_in (tb_c_in 8 _ (List.mem_of_getElem? (i := 211) (rfl : (tb_c 8)[211]? = some (Cond.instanceMethod yX12_layNames)))) rfl), (ab_T_in (tb_c_in 0 _ (List.mem_of_getElem? (i := 83) (rfl : (tb_c 0)[83]? = some (Cond.selects RX12 yX12_layNames yX12_layNames)))) rfl), _, rfl, rfl⟩
def k_X12_layRows_0 : List (Nat × Instr × Nat) :=
  [(0, .aload_n 0, 1), (1, .iload_n 1, 1), (2, .invokevirtual 418, 3), (5, .aload_n 0, 1), (6, .getfield 352, 3), (9, .istore_n 2, 1), (10, .iconst 0, 1), (11, .istore_n 3, 1),
   (12, .iload_n 3, 1), (13, .bipush 7, 2), (15, .if_icmp .ge 46, 3), (18, .iload_n 2, 1), (19, .ifCond .eq 22, 3), (22, .aload_n 0, 1), (23, .getfield 112, 3), (26, .iload_n 3, 1),
   (27, .iaload, 1), (28, .aload_n 0, 1), (29, .getfield 106, 3), (32, .iload_n 3, 1), (33, .iaload, 1), (34, .if_icmp .ne 7, 3), (37, .iconst 1, 1), (38, .goto 4, 3),
   (41, .iconst 0, 1), (42, .istore_n 2, 1), (43, .aload_n 0, 1), (44, .getfield 112, 3), (47, .iload_n 3, 1), (48, .aload_n 0, 1), (49, .getfield 106, 3), (52, .iload_n 3, 1),
   (53, .iaload, 1), (54, .iastore, 1), (55, .iinc 3 1, 3), (58, .goto (-46), 3), (61, .iload_n 2, 1), (62, .ifCond .eq 4, 3), (65, .return_, 1), (66, .aload_n 0, 1),
   (67, .iconst 1, 1), (68, .putfield 352, 3), (71, .iconst 0, 1), (72, .istore_n 3, 1), (73, .iload_n 3, 1), (74, .bipush 7, 2), (76, .if_icmp .ge 16, 3), (79, .aload_n 0, 1)]
def k_X12_layRows_1 : List (Nat × Instr × Nat) :=
  [(80, .getfield 109, 3), (83, .iload_n 3, 1), (84, .iconst 0, 1), (85, .iastore, 1), (86, .iinc 3 1, 3), (89, .goto (-16), 3), (92, .iconst 1, 1), (93, .istore_n 3, 1),
   (94, .iload_n 3, 1), (95, .iconst 1, 1), (96, .aload_n 0, 1), (97, .getfield 225, 3), (100, .ishl, 1), (101, .if_icmp .ge 44, 3), (104, .iconst 0, 1), (105, .istore 4, 2),
   (107, .iload 4, 2), (109, .bipush 7, 2), (111, .if_icmp .ge 28, 3), (114, .aload_n 0, 1), (115, .getfield 109, 3), (118, .bipush 7, 2), (120, .iload_n 3, 1), (121, .imul, 1),
   (122, .iload 4, 2), (124, .iadd, 1), (125, .aload_n 0, 1), (126, .iload_n 3, 1), (127, .iload 4, 2), (129, .invokevirtual 421, 3), (132, .iastore, 1), (133, .iinc 4 1, 3),
   (136, .goto (-29), 3), (139, .iinc 3 1, 3), (142, .goto (-48), 3), (145, .return_, 1)]
def k_X12_layRows : List (Nat × Instr × Nat) := k_X12_layRows_0 ++ (k_X12_layRows_1)
theorem r_X12_layRows_0 : k_X12_layRows_0.all (tb_rr cX12_layRows) = true := by decide +kernel
theorem r_X12_layRows_1 : k_X12_layRows_1.all (tb_rr cX12_layRows) = true := by decide +kernel
def M_X12_layRows : ab_MD := (K_X12, yX12_layRows, cX12_layRows, 5, none, false, k_X12_layRows)
theorem o_X12_layRows : ab_OK M_X12_layRows 1 := tb_ok OC_X12 (by decide +kernel) (tb_app r_X12_layRows_0 r_X12_layRows_1) (ab_T_in (tb_c_in 9 _ (List.mem_of_getElem? (i := 37) (rfl : (tb_c 9)[37]? = some (Cond.code yX12_layRows cX12_layRows 5 none)))) rfl) IN_X12
theorem v_X12_layRows : ab_kV M_X12_layRows 12 := ⟨(ab_T_in (tb_c_in 9 _ (List.mem_of_getElem? (i := 36) (rfl : (tb_c 9)[36]? = some (Cond.instanceMethod yX12_layRows)))) rfl), (ab_T_in (tb_c_in 0 _ (List.mem_of_getElem? (i := 93) (rfl : (tb_c 0)[93]? = some (Cond.selects RX12 yX12_layRows yX12_layRows)))) rfl), _, rfl, rfl⟩
def k_X12_layTried : List (Nat × Instr × Nat) :=
  [(0, .iconst 0, 1), (1, .istore_n 1, 1), (2, .iload_n 1, 1), (3, .bipush 9, 2), (5, .if_icmp .ge 24, 3), (8, .aload_n 0, 1), (9, .getfield 91, 3), (12, .bipush 9, 2),
   (14, .iload_n 1, 1), (15, .iadd, 1), (16, .aload_n 0, 1), (17, .getfield 91, 3), (20, .iload_n 1, 1), (21, .iaload, 1), (22, .iastore, 1), (23, .iinc 1 1, 3),
   (26, .goto (-24), 3), (29, .iconst 0, 1), (30, .istore_n 1, 1), (31, .iload_n 1, 1), (32, .iconst 5, 1), (33, .if_icmp .ge 37, 3), (36, .aload_n 0, 1), (37, .getfield 94, 3),
   (40, .iconst 5, 1), (41, .iload_n 1, 1), (42, .iadd, 1), (43, .aload_n 0, 1), (44, .getfield 94, 3), (47, .iload_n 1, 1), (48, .iaload, 1), (49, .iastore, 1),
   (50, .aload_n 0, 1), (51, .getfield 97, 3), (54, .iconst 5, 1), (55, .iload_n 1, 1), (56, .iadd, 1), (57, .aload_n 0, 1), (58, .getfield 97, 3), (61, .iload_n 1, 1),
   (62, .iaload, 1), (63, .iastore, 1), (64, .iinc 1 1, 3), (67, .goto (-36), 3), (70, .aload_n 0, 1), (71, .getfield 100, 3), (74, .iconst 1, 1), (75, .aload_n 0, 1),
   (76, .getfield 100, 3), (79, .iconst 0, 1), (80, .iaload, 1), (81, .iastore, 1), (82, .aload_n 0, 1), (83, .getfield 103, 3), (86, .iconst 1, 1), (87, .aload_n 0, 1),
   (88, .getfield 103, 3), (91, .iconst 0, 1), (92, .iaload, 1), (93, .iastore, 1), (94, .aload_n 0, 1), (95, .invokevirtual 362, 3), (98, .return_, 1)]
def M_X12_layTried : ab_MD := (K_X12, yX12_layTried, cX12_layTried, 2, none, false, k_X12_layTried)
theorem o_X12_layTried : ab_OK M_X12_layTried 0 := tb_ok OC_X12 (by decide +kernel) (by decide +kernel) (ab_T_in (tb_c_in 9 _ (List.mem_of_getElem? (i := 85) (rfl : (tb_c 9)[85]? = some (Cond.code yX12_layTried cX12_layTried 2 none)))) rfl) IN_X12
theorem v_X12_layTried : ab_kV M_X12_layTried 12 := ⟨(ab_T_in (tb_c_in 9 _ (List.mem_of_getElem? (i := 84) (rfl : (tb_c 9)[84]? = some (Cond.instanceMethod yX12_layTried)))) rfl), (ab_T_in (tb_c_in 0 _ (List.mem_of_getElem? (i := 101) (rfl : (tb_c 0)[101]? = some (Cond.selects RX12 yX12_layTried yX12_layTried)))) rfl), _, rfl, rfl⟩
def k_X12_layWays_0 : List (Nat × Instr × Nat) :=
  [(0, .iconst 0, 1), (1, .istore_n 2, 1), (2, .iload_n 2, 1), (3, .bipush 7, 2), (5, .if_icmp .ge 28, 3), (8, .aload_n 0, 1), (9, .getfield 115, 3), (12, .iload_n 2, 1),
   (13, .iload_n 1, 1), (14, .iload_n 2, 1), (15, .invokestatic 412, 3), (18, .ifCond .eq 7, 3), (21, .lconst 1, 1), (22, .goto 4, 3), (25, .lconst 0, 1), (26, .lastore, 1),
   (27, .iinc 2 1, 3), (30, .goto (-28), 3), (33, .iconst 1, 1), (34, .istore_n 2, 1), (35, .iload_n 2, 1), (36, .iconst 1, 1), (37, .aload_n 0, 1), (38, .getfield 225, 3),
   (41, .ishl, 1), (42, .if_icmp .ge 178, 3), (45, .iconst 0, 1), (46, .istore_n 3, 1), (47, .iload_n 3, 1), (48, .bipush 7, 2), (50, .if_icmp .ge 164, 3), (53, .lconst 0, 1),
   (54, .lstore 4, 2), (56, .iconst 0, 1), (57, .istore 6, 2), (59, .iload 6, 2), (61, .aload_n 0, 1), (62, .getfield 225, 3), (65, .if_icmp .ge 130, 3), (68, .iload_n 2, 1),
   (69, .iload 6, 2), (71, .invokestatic 412, 3), (74, .ifCond .ne 6, 3), (77, .goto 112, 3), (80, .bipush 7, 2), (82, .iload_n 2, 1), (83, .iconst 1, 1), (84, .iload 6, 2)]
def k_X12_layWays_1 : List (Nat × Instr × Nat) :=
  [(86, .ishl, 1), (87, .iconst (-1), 1), (88, .ixor, 1), (89, .iand, 1), (90, .imul, 1), (91, .istore 7, 2), (93, .lload 4, 2), (95, .aload_n 0, 1),
   (96, .getfield 106, 3), (99, .iload_n 3, 1), (100, .iaload, 1), (101, .aload_n 0, 1), (102, .getfield 30, 3), (105, .iload 6, 2), (107, .iaload, 1), (108, .invokestatic 412, 3),
   (111, .ifCond .eq 21, 3), (114, .aload_n 0, 1), (115, .getfield 115, 3), (118, .iload 7, 2), (120, .aload_n 0, 1), (121, .getfield 33, 3), (124, .iload 6, 2), (126, .iaload, 1),
   (127, .iadd, 1), (128, .laload, 1), (129, .goto 4, 3), (132, .lconst 0, 1), (133, .ladd, 1), (134, .lstore 4, 2), (136, .lload 4, 2), (138, .aload_n 0, 1),
   (139, .iload 6, 2), (141, .invokevirtual 500, 3), (144, .iconst 2, 1), (145, .if_icmp .ne 40, 3), (148, .aload_n 0, 1), (149, .getfield 106, 3), (152, .iload_n 3, 1), (153, .iaload, 1),
   (154, .aload_n 0, 1), (155, .getfield 33, 3), (158, .iload 6, 2), (160, .iaload, 1), (161, .invokestatic 412, 3), (164, .ifCond .eq 21, 3), (167, .aload_n 0, 1), (168, .getfield 115, 3)]
def k_X12_layWays_2 : List (Nat × Instr × Nat) :=
  [(171, .iload 7, 2), (173, .aload_n 0, 1), (174, .getfield 30, 3), (177, .iload 6, 2), (179, .iaload, 1), (180, .iadd, 1), (181, .laload, 1), (182, .goto 4, 3),
   (185, .lconst 0, 1), (186, .ladd, 1), (187, .lstore 4, 2), (189, .iinc 6 1, 3), (192, .goto (-133), 3), (195, .aload_n 0, 1), (196, .getfield 115, 3), (199, .bipush 7, 2),
   (201, .iload_n 2, 1), (202, .imul, 1), (203, .iload_n 3, 1), (204, .iadd, 1), (205, .lload 4, 2), (207, .lastore, 1), (208, .iinc 3 1, 3), (211, .goto (-164), 3),
   (214, .iinc 2 1, 3), (217, .goto (-182), 3), (220, .return_, 1)]
def k_X12_layWays : List (Nat × Instr × Nat) := k_X12_layWays_0 ++ (k_X12_layWays_1 ++ (k_X12_layWays_2))
theorem r_X12_layWays_0 : k_X12_layWays_0.all (tb_rr cX12_layWays) = true := by decide +kernel
theorem r_X12_layWays_1 : k_X12_layWays_1.all (tb_rr cX12_layWays) = true := by decide +kernel
theorem r_X12_layWays_2 : k_X12_layWays_2.all (tb_rr cX12_layWays) = true := by decide +kernel
def M_X12_layWays : ab_MD := (K_X12, yX12_layWays, cX12_layWays, 8, none, false, k_X12_layWays)
theorem o_X12_layWays : ab_OK M_X12_layWays 1 := tb_ok OC_X12 (by decide +kernel) (tb_app r_X12_layWays_0 (tb_app r_X12_layWays_1 r_X12_layWays_2)) (ab_T_in (tb_c_in 9 _ (List.mem_of_getElem? (i := 106) (rfl : (tb_c 9)[106]? = some (Cond.code yX12_layWays cX12_layWays 8 none)))) rfl) IN_X12
theorem v_X12_layWays : ab_kV M_X12_layWays 12 := ⟨(ab_T_in (tb_c_in 9 _ (List.mem_of_getElem? (i := 105) (rfl : (tb_c 9)[105]? = some (Cond.instanceMethod yX12_layWays)))) rfl), (ab_T_in (tb_c_in 0 _ (List.mem_of_getElem? (i := 104) (rfl : (tb_c 0)[104]? = some (Cond.selects RX12 yX12_layWays yX12_layWays)))) rfl), _, rfl, rfl⟩
def k_X12_lays : List (Nat × Instr × Nat) :=
  [(0, .aload_n 0, 1), (1, .iconst 0, 1), (2, .putfield 145, 3), (5, .aload_n 0, 1), (6, .iload_n 1, 1), (7, .invokevirtual 480, 3), (10, .ifCond .ne 5, 3), (13, .iconst (-1), 1),
   (14, .ireturn, 1), (15, .aload_n 0, 1), (16, .invokevirtual 491, 3), (19, .iconst 1, 1), (20, .istore_n 2, 1), (21, .iload_n 2, 1), (22, .bipush 99, 2), (24, .if_icmp .gt 27, 3),
   (27, .aload_n 0, 1), (28, .iconst 1, 1), (29, .invokevirtual 471, 3), (32, .aload_n 0, 1), (33, .getfield 453, 3), (36, .iload_n 1, 1), (37, .invokestatic 412, 3), (40, .ifCond .eq 5, 3),
   (43, .iload_n 2, 1), (44, .ireturn, 1), (45, .iinc 2 1, 3), (48, .goto (-27), 3), (51, .bipush (-2), 2), (53, .ireturn, 1)]
def M_X12_lays : ab_MD := (K_X12, yX12_lays, cX12_lays, 3, (some .int), false, k_X12_lays)
theorem o_X12_lays : ab_OK M_X12_lays 1 := tb_ok OC_X12 (by decide +kernel) (by decide +kernel) (ab_T_in (tb_c_in 9 _ (List.mem_of_getElem? (i := 97) (rfl : (tb_c 9)[97]? = some (Cond.code yX12_lays cX12_lays 3 (some .int))))) rfl) IN_X12
theorem v_X12_lays : ab_kV M_X12_lays 12 := ⟨(ab_T_in (tb_c_in 9 _ (List.mem_of_getElem? (i := 95) (rfl : (tb_c 9)[95]? = some (Cond.instanceMethod yX12_lays)))) rfl), (ab_T_in (tb_c_in 9 _ (List.mem_of_getElem? (i := 96) (rfl : (tb_c 9)[96]? = some (Cond.selects RX12 yX12_lays yX12_lays)))) rfl), _, rfl, rfl⟩
def k_X12_leafRead_0 : List (Nat × Instr × Nat) :=
  [(0, .aload_n 0, 1), (1, .bipush 40, 2), (3, .invokevirtual 200, 3), (6, .ifCond .eq 44, 3), (9, .aload_n 0, 1), (10, .getfield 301, 3), (13, .bipush 8, 2), (15, .if_icmp .ne 9, 3),
   (18, .aload_n 0, 1), (19, .iconst 2, 1), (20, .invokevirtual 187, 3), (23, .ireturn, 1), (24, .aload_n 0, 1), (25, .dup, 1), (26, .getfield 301, 3), (29, .iconst 1, 1),
   (30, .iadd, 1), (31, .putfield 301, 3), (34, .aload_n 0, 1), (35, .iconst 0, 1), (36, .invokevirtual 304, 3), (39, .aload_n 0, 1), (40, .iconst 1, 1), (41, .putfield 308, 3),
   (44, .aload_n 0, 1), (45, .invokevirtual 197, 3), (48, .iconst 1, 1), (49, .ireturn, 1), (50, .aload_n 0, 1), (51, .bipush 13, 2), (53, .invokevirtual 312, 3), (56, .ifCond .eq 30, 3),
   (59, .aload_n 0, 1), (60, .getfield 308, 3), (63, .ifCond .eq 23, 3), (66, .aload_n 0, 1), (67, .invokevirtual 315, 3), (70, .ifCond .ne 5, 3), (73, .iconst 0, 1), (74, .ireturn, 1),
   (75, .aload_n 0, 1), (76, .iconst 2, 1), (77, .invokevirtual 304, 3), (80, .aload_n 0, 1), (81, .invokevirtual 197, 3), (84, .iconst 1, 1), (85, .ireturn, 1), (86, .aload_n 0, 1)]
def k_X12_leafRead_1 : List (Nat × Instr × Nat) :=
  [(87, .invokevirtual 318, 3), (90, .istore_n 1, 1), (91, .iload_n 1, 1), (92, .ifCond .ge 17, 3), (95, .aload_n 0, 1), (96, .getfield 163, 3), (99, .iconst 3, 1), (100, .if_icmp .eq 9, 3),
   (103, .aload_n 0, 1), (104, .iconst 1, 1), (105, .invokevirtual 187, 3), (108, .ireturn, 1), (109, .iload_n 1, 1), (110, .ifCond .ge 19, 3), (113, .aload_n 0, 1), (114, .getfield 174, 3),
   (117, .sipush 9999, 3), (120, .if_icmp .le 9, 3), (123, .aload_n 0, 1), (124, .iconst 2, 1), (125, .invokevirtual 187, 3), (128, .ireturn, 1), (129, .aload_n 0, 1), (130, .invokevirtual 315, 3),
   (133, .ifCond .ne 5, 3), (136, .iconst 0, 1), (137, .ireturn, 1), (138, .aload_n 0, 1), (139, .iload_n 1, 1), (140, .ifCond .lt 7, 3), (143, .iconst 1, 1), (144, .goto 4, 3),
   (147, .iconst 0, 1), (148, .iload_n 1, 1), (149, .ifCond .lt 7, 3), (152, .iload_n 1, 1), (153, .goto 7, 3), (156, .aload_n 0, 1), (157, .getfield 174, 3), (160, .iconst 0, 1),
   (161, .invokevirtual 297, 3), (164, .aload_n 0, 1), (165, .iconst 0, 1), (166, .putfield 321, 3), (169, .aload_n 0, 1), (170, .invokevirtual 197, 3), (173, .iconst 1, 1), (174, .ireturn, 1)]
def k_X12_leafRead : List (Nat × Instr × Nat) := k_X12_leafRead_0 ++ (k_X12_leafRead_1)
theorem r_X12_leafRead_0 : k_X12_leafRead_0.all (tb_rr cX12_leafRead) = true := by decide +kernel
theorem r_X12_leafRead_1 : k_X12_leafRead_1.all (tb_rr cX12_leafRead) = true := by decide +kernel
def M_X12_leafRead : ab_MD := (K_X12, yX12_leafRead, cX12_leafRead, 2, (some .boolean), false, k_X12_leafRead)
theorem o_X12_leafRead : ab_OK M_X12_leafRead 0 := tb_ok OC_X12 (by decide +kernel) (tb_app r_X12_leafRead_0 r_X12_leafRead_1) (ab_T_in (tb_c_in 8 _ (List.mem_of_getElem? (i := 127) (rfl : (tb_c 8)[127]? = some (Cond.code yX12_leafRead cX12_leafRead 2 (some .boolean))))) rfl) IN_X12
theorem v_X12_leafRead : ab_kV M_X12_leafRead 12 := ⟨(ab_T_in (tb_c_in 8 _ (List.mem_of_getElem? (i := 126) (rfl : (tb_c 8)[126]? = some (Cond.instanceMethod yX12_leafRead)))) rfl), (ab_T_in (tb_c_in 0 _ (List.mem_of_getElem? (i := 69) (rfl : (tb_c 0)[69]? = some (Cond.selects RX12 yX12_leafRead yX12_leafRead)))) rfl), _, rfl, rfl⟩
def k_X12_likely_0 : List (Nat × Instr × Nat) :=
  [(0, .aload_n 0, 1), (1, .iconst 0, 1), (2, .putfield 145, 3), (5, .aload_n 0, 1), (6, .iload_n 1, 1), (7, .invokevirtual 480, 3), (10, .ifCond .eq 22, 3), (13, .iload_n 2, 1),
   (14, .iconst 0, 1), (15, .bipush 9, 2), (17, .invokestatic 190, 3), (20, .ifCond .eq 12, 3), (23, .iload_n 3, 1), (24, .iconst 0, 1), (25, .iconst 1, 1), (26, .invokestatic 190, 3),
   (29, .ifCond .ne 5, 3), (32, .iconst (-1), 1), (33, .ireturn, 1), (34, .aload_n 0, 1), (35, .invokevirtual 362, 3), (38, .aload_n 0, 1), (39, .iconst 0, 1), (40, .invokevirtual 462, 3),
   (43, .aload_n 0, 1), (44, .iconst 0, 1), (45, .bipush (-2), 2), (47, .invokevirtual 392, 3), (50, .istore 4, 2), (52, .iload 4, 2), (54, .invokestatic 395, 3), (57, .iload_n 2, 1),
   (58, .if_icmp .ge 6, 3), (61, .bipush (-2), 2), (63, .ireturn, 1), (64, .aload_n 0, 1), (65, .iconst 0, 1), (66, .iload_n 1, 1), (67, .invokevirtual 392, 3), (70, .istore 5, 2),
   (72, .iconst 0, 1), (73, .istore 6, 2), (75, .iconst 0, 1), (76, .istore 7, 2), (78, .iconst 0, 1), (79, .istore 8, 2), (81, .iload 8, 2), (83, .sipush 512, 3)]
def k_X12_likely_1 : List (Nat × Instr × Nat) :=
  [(86, .if_icmp .ge 56, 3), (89, .iload 8, 2), (91, .iload 4, 2), (93, .iconst (-1), 1), (94, .ixor, 1), (95, .iand, 1), (96, .ifCond .ne 40, 3), (99, .iload 8, 2),
   (101, .invokestatic 395, 3), (104, .iload_n 2, 1), (105, .if_icmp .eq 6, 3), (108, .goto 28, 3), (111, .iinc 7 1, 3), (114, .iload 6, 2), (116, .aload_n 0, 1), (117, .iload 5, 2),
   (119, .iload 8, 2), (121, .ior, 1), (122, .invokevirtual 512, 3), (125, .ifCond .eq 7, 3), (128, .iconst 1, 1), (129, .goto 4, 3), (132, .iconst 0, 1), (133, .iadd, 1),
   (134, .istore 6, 2), (136, .iinc 8 1, 3), (139, .goto (-58), 3), (142, .iload 7, 2), (144, .iload 6, 2), (146, .invokestatic 532, 3), (149, .istore 8, 2), (151, .iload_n 3, 1),
   (152, .ifCond .ne 11, 3), (155, .iload 6, 2), (157, .iload 8, 2), (159, .idiv, 1), (160, .goto 8, 3), (163, .iload 7, 2), (165, .iload 8, 2), (167, .idiv, 1),
   (168, .ireturn, 1)]
def k_X12_likely : List (Nat × Instr × Nat) := k_X12_likely_0 ++ (k_X12_likely_1)
theorem r_X12_likely_0 : k_X12_likely_0.all (tb_rr cX12_likely) = true := by decide +kernel
theorem r_X12_likely_1 : k_X12_likely_1.all (tb_rr cX12_likely) = true := by decide +kernel
def M_X12_likely : ab_MD := (K_X12, yX12_likely, cX12_likely, 9, (some .int), false, k_X12_likely)
theorem o_X12_likely : ab_OK M_X12_likely 3 := tb_ok OC_X12 (by decide +kernel) (tb_app r_X12_likely_0 r_X12_likely_1) (ab_T_in (tb_c_in 9 _ (List.mem_of_getElem? (i := 180) (rfl : (tb_c 9)[180]? = some (Cond.code yX12_likely cX12_likely 9 (some .int))))) rfl) IN_X12
theorem v_X12_likely : ab_kV M_X12_likely 12 := ⟨(ab_T_in (tb_c_in 9 _ (List.mem_of_getElem? (i := 178) (rfl : (tb_c 9)[178]? = some (Cond.instanceMethod yX12_likely)))) rfl), (ab_T_in (tb_c_in 9 _ (List.mem_of_getElem? (i := 179) (rfl : (tb_c 9)[179]? = some (Cond.selects RX12 yX12_likely yX12_likely)))) rfl), _, rfl, rfl⟩
def k_X12_lineRead_0 : List (Nat × Instr × Nat) :=
  [(0, .aload_n 0, 1), (1, .getfield 163, 3), (4, .iconst 1, 1), (5, .if_icmp .ne 12, 3), (8, .aload_n 0, 1), (9, .getfield 174, 3), (12, .bipush 7, 2), (14, .if_icmp .le 9, 3),
   (17, .aload_n 0, 1), (18, .iconst 1, 1), (19, .invokevirtual 187, 3), (22, .ireturn, 1), (23, .aload_n 0, 1), (24, .getfield 174, 3), (27, .tableswitch 105 0 6 #[41, 49, 57, 65, 73, 81, 93], 41), (68, .aload_n 0, 1),
   (69, .invokevirtual 258, 3), (72, .istore_n 1, 1), (73, .goto 156, 3), (76, .aload_n 0, 1), (77, .invokevirtual 262, 3), (80, .istore_n 1, 1), (81, .goto 148, 3), (84, .aload_n 0, 1),
   (85, .invokevirtual 265, 3), (88, .istore_n 1, 1), (89, .goto 140, 3), (92, .aload_n 0, 1), (93, .invokevirtual 268, 3), (96, .istore_n 1, 1), (97, .goto 132, 3), (100, .aload_n 0, 1),
   (101, .invokevirtual 271, 3), (104, .istore_n 1, 1), (105, .goto 124, 3), (108, .aload_n 0, 1), (109, .iconst 0, 1), (110, .iconst 1, 1), (111, .bipush 9, 2), (113, .invokevirtual 274, 3),
   (116, .istore_n 1, 1), (117, .goto 112, 3), (120, .aload_n 0, 1), (121, .iconst 1, 1), (122, .iconst 0, 1), (123, .ldc 183, 2), (125, .invokevirtual 274, 3), (128, .istore_n 1, 1)]
def k_X12_lineRead_1 : List (Nat × Instr × Nat) :=
  [(129, .goto 100, 3), (132, .aload_n 0, 1), (133, .invokevirtual 197, 3), (136, .aload_n 0, 1), (137, .getfield 163, 3), (140, .iconst 1, 1), (141, .if_icmp .ne 21, 3), (144, .aload_n 0, 1),
   (145, .getfield 174, 3), (148, .bipush 8, 2), (150, .if_icmp .lt 12, 3), (153, .aload_n 0, 1), (154, .getfield 174, 3), (157, .bipush 10, 2), (159, .if_icmp .le 9, 3), (162, .aload_n 0, 1),
   (163, .iconst 1, 1), (164, .invokevirtual 187, 3), (167, .ireturn, 1), (168, .iconst 3, 1), (169, .aload_n 0, 1), (170, .getfield 174, 3), (173, .iadd, 1), (174, .bipush 8, 2),
   (176, .isub, 1), (177, .istore_n 2, 1), (178, .aload_n 0, 1), (179, .getfield 60, 3), (182, .iload_n 2, 1), (183, .baload, 1), (184, .ifCond .eq 9, 3), (187, .aload_n 0, 1),
   (188, .iconst 3, 1), (189, .invokevirtual 187, 3), (192, .ireturn, 1), (193, .aload_n 0, 1), (194, .getfield 60, 3), (197, .iload_n 2, 1), (198, .iconst 1, 1), (199, .bastore, 1),
   (200, .aload_n 0, 1), (201, .invokevirtual 197, 3), (204, .aload_n 0, 1), (205, .getfield 63, 3), (208, .iload_n 2, 1), (209, .aload_n 0, 1), (210, .getfield 219, 3), (213, .iastore, 1)]
def k_X12_lineRead_2 : List (Nat × Instr × Nat) :=
  [(214, .aload_n 0, 1), (215, .invokevirtual 277, 3), (218, .istore_n 1, 1), (219, .aload_n 0, 1), (220, .getfield 66, 3), (223, .iload_n 2, 1), (224, .aload_n 0, 1), (225, .getfield 219, 3),
   (228, .iastore, 1), (229, .iload_n 1, 1), (230, .ifCond .ne 5, 3), (233, .iconst 0, 1), (234, .ireturn, 1), (235, .aload_n 0, 1), (236, .bipush 59, 2), (238, .invokevirtual 200, 3),
   (241, .ifCond .ne 9, 3), (244, .aload_n 0, 1), (245, .iconst 1, 1), (246, .invokevirtual 187, 3), (249, .ireturn, 1), (250, .aload_n 0, 1), (251, .invokevirtual 197, 3), (254, .iconst 1, 1),
   (255, .ireturn, 1)]
def k_X12_lineRead : List (Nat × Instr × Nat) := k_X12_lineRead_0 ++ (k_X12_lineRead_1 ++ (k_X12_lineRead_2))
theorem r_X12_lineRead_0 : k_X12_lineRead_0.all (tb_rr cX12_lineRead) = true := by decide +kernel
theorem r_X12_lineRead_1 : k_X12_lineRead_1.all (tb_rr cX12_lineRead) = true := by decide +kernel
theorem r_X12_lineRead_2 : k_X12_lineRead_2.all (tb_rr cX12_lineRead) = true := by decide +kernel
def M_X12_lineRead : ab_MD := (K_X12, yX12_lineRead, cX12_lineRead, 3, (some .boolean), false, k_X12_lineRead)
theorem o_X12_lineRead : ab_OK M_X12_lineRead 0 := tb_ok OC_X12 (by decide +kernel) (tb_app r_X12_lineRead_0 (tb_app r_X12_lineRead_1 r_X12_lineRead_2)) (ab_T_in (tb_c_in 8 _ (List.mem_of_getElem? (i := 69) (rfl : (tb_c 8)[69]? = some (Cond.code yX12_lineRead cX12_lineRead 3 (some .boolean))))) rfl) IN_X12
theorem v_X12_lineRead : ab_kV M_X12_lineRead 12 := ⟨(ab_T_in (tb_c_in 8 _ (List.mem_of_getElem? (i := 68) (rfl : (tb_c 8)[68]? = some (Cond.instanceMethod yX12_lineRead)))) rfl), (ab_T_in (tb_c_in 0 _ (List.mem_of_getElem? (i := 56) (rfl : (tb_c 0)[56]? = some (Cond.selects RX12 yX12_lineRead yX12_lineRead)))) rfl), _, rfl, rfl⟩
def k_X12_manyOf : List (Nat × Instr × Nat) :=
  [(0, .iconst 0, 1), (1, .istore_n 1, 1), (2, .iconst 0, 1), (3, .istore_n 2, 1), (4, .iload_n 2, 1), (5, .bipush 9, 2), (7, .if_icmp .ge 17, 3), (10, .iload_n 1, 1),
   (11, .iload_n 0, 1), (12, .iload_n 2, 1), (13, .ishr, 1), (14, .iconst 1, 1), (15, .iand, 1), (16, .iadd, 1), (17, .istore_n 1, 1), (18, .iinc 2 1, 3),
   (21, .goto (-17), 3), (24, .iload_n 1, 1), (25, .ireturn, 1)]
def M_X12_manyOf : ab_MD := (K_X12, yX12_manyOf, cX12_manyOf, 3, (some .int), false, k_X12_manyOf)
theorem o_X12_manyOf : ab_OK M_X12_manyOf 1 := tb_ok OC_X12 (by decide +kernel) (by decide +kernel) (ab_T_in (tb_c_in 9 _ (List.mem_of_getElem? (i := 5) (rfl : (tb_c 9)[5]? = some (Cond.code yX12_manyOf cX12_manyOf 3 (some .int))))) rfl) IN_X12
theorem s_X12_manyOf : Cond.static M_X12_manyOf.2.1 ∈ ab_T := (ab_T_in (tb_c_in 9 _ (List.mem_of_getElem? (i := 4) (rfl : (tb_c 9)[4]? = some (Cond.static yX12_manyOf)))) rfl)
def k_X12_may : List (Nat × Instr × Nat) :=
  [(0, .aload_n 0, 1), (1, .getfield 60, 3), (4, .iconst 1, 1), (5, .baload, 1), (6, .ifCond .eq 10, 3), (9, .aload_n 0, 1), (10, .getfield 383, 3), (13, .ifCond .eq 5, 3),
   (16, .iconst 1, 1), (17, .ireturn, 1), (18, .aload_n 0, 1), (19, .aload_n 0, 1), (20, .getfield 30, 3), (23, .iload_n 3, 1), (24, .iaload, 1), (25, .aload_n 0, 1),
   (26, .getfield 33, 3), (29, .iload_n 3, 1), (30, .iaload, 1), (31, .aload_n 0, 1), (32, .getfield 36, 3), (35, .iload_n 3, 1), (36, .iaload, 1), (37, .aload_n 0, 1),
   (38, .getfield 30, 3), (41, .iload_n 3, 1), (42, .iaload, 1), (43, .aload_n 0, 1), (44, .getfield 33, 3), (47, .iload_n 3, 1), (48, .iaload, 1), (49, .invokestatic 402, 3),
   (52, .invokevirtual 405, 3), (55, .aload_n 0, 1), (56, .iload_n 1, 1), (57, .iload_n 2, 1), (58, .invokevirtual 427, 3), (61, .aload_n 0, 1), (62, .iconst 1, 1), (63, .invokevirtual 409, 3),
   (66, .lstore 4, 2), (68, .aload_n 0, 1), (69, .getfield 333, 3), (72, .ifCond .ne 10, 3), (75, .lload 4, 2), (77, .lconst 0, 1), (78, .lcmp, 1), (79, .ifCond .eq 7, 3),
   (82, .iconst 1, 1), (83, .goto 4, 3), (86, .iconst 0, 1), (87, .ireturn, 1)]
def M_X12_may : ab_MD := (K_X12, yX12_may, cX12_may, 6, (some .boolean), false, k_X12_may)
theorem o_X12_may : ab_OK M_X12_may 3 := tb_ok OC_X12 (by decide +kernel) (by decide +kernel) (ab_T_in (tb_c_in 9 _ (List.mem_of_getElem? (i := 13) (rfl : (tb_c 9)[13]? = some (Cond.code yX12_may cX12_may 6 (some .boolean))))) rfl) IN_X12
theorem v_X12_may : ab_kV M_X12_may 12 := ⟨(ab_T_in (tb_c_in 9 _ (List.mem_of_getElem? (i := 12) (rfl : (tb_c 9)[12]? = some (Cond.instanceMethod yX12_may)))) rfl), (ab_T_in (tb_c_in 0 _ (List.mem_of_getElem? (i := 89) (rfl : (tb_c 0)[89]? = some (Cond.selects RX12 yX12_may yX12_may)))) rfl), _, rfl, rfl⟩
def k_X12_missing : List (Nat × Instr × Nat) :=
  [(0, .aload_n 0, 1), (1, .iconst 0, 1), (2, .putfield 145, 3), (5, .iload_n 1, 1), (6, .iconst 0, 1), (7, .iconst 1, 1), (8, .invokestatic 190, 3), (11, .ifCond .ne 5, 3),
   (14, .iconst (-1), 1), (15, .ireturn, 1), (16, .aload_n 0, 1), (17, .invokevirtual 362, 3), (20, .aload_n 0, 1), (21, .iconst 0, 1), (22, .invokevirtual 418, 3), (25, .aload_n 0, 1),
   (26, .invokevirtual 549, 3), (29, .iconst 0, 1), (30, .istore_n 2, 1), (31, .bipush (-2), 2), (33, .istore_n 3, 1), (34, .iconst 0, 1), (35, .istore 4, 2), (37, .iload 4, 2),
   (39, .bipush 7, 2), (41, .if_icmp .ge 60, 3), (44, .iload 4, 2), (46, .istore 5, 2), (48, .iload 5, 2), (50, .bipush 7, 2), (52, .if_icmp .ge 43, 3), (55, .aload_n 0, 1),
   (56, .iload 4, 2), (58, .iload 5, 2), (60, .invokevirtual 552, 3), (63, .ifCond .ne 6, 3), (66, .goto 23, 3), (69, .iinc 2 1, 3), (72, .iload_n 3, 1), (73, .ifCond .ge 14, 3),
   (76, .bipush 10, 2), (78, .iload 4, 2), (80, .imul, 1), (81, .iload 5, 2), (83, .iadd, 1), (84, .goto 4, 3), (87, .iload_n 3, 1), (88, .istore_n 3, 1),
   (89, .iinc 5 1, 3), (92, .goto (-44), 3), (95, .iinc 4 1, 3), (98, .goto (-61), 3), (101, .iload_n 1, 1), (102, .ifCond .ne 7, 3), (105, .iload_n 2, 1), (106, .goto 4, 3),
   (109, .iload_n 3, 1), (110, .ireturn, 1)]
def M_X12_missing : ab_MD := (K_X12, yX12_missing, cX12_missing, 6, (some .int), false, k_X12_missing)
theorem o_X12_missing : ab_OK M_X12_missing 1 := tb_ok OC_X12 (by decide +kernel) (by decide +kernel) (ab_T_in (tb_c_in 9 _ (List.mem_of_getElem? (i := 207) (rfl : (tb_c 9)[207]? = some (Cond.code yX12_missing cX12_missing 6 (some .int))))) rfl) IN_X12
theorem v_X12_missing : ab_kV M_X12_missing 12 := ⟨(ab_T_in (tb_c_in 9 _ (List.mem_of_getElem? (i := 205) (rfl : (tb_c 9)[205]? = some (Cond.instanceMethod yX12_missing)))) rfl), (ab_T_in (tb_c_in 9 _ (List.mem_of_getElem? (i := 206) (rfl : (tb_c 9)[206]? = some (Cond.selects RX12 yX12_missing yX12_missing)))) rfl), _, rfl, rfl⟩
def k_X12_nameMet : List (Nat × Instr × Nat) :=
  [(0, .aload_n 0, 1), (1, .getfield 163, 3), (4, .iconst 1, 1), (5, .if_icmp .ne 22, 3), (8, .aload_n 0, 1), (9, .getfield 174, 3), (12, .bipush 14, 2), (14, .if_icmp .lt 13, 3),
   (17, .aload_n 0, 1), (18, .getfield 174, 3), (21, .bipush 14, 2), (23, .isub, 1), (24, .goto 4, 3), (27, .iconst (-1), 1), (28, .ireturn, 1)]
def M_X12_nameMet : ab_MD := (K_X12, yX12_nameMet, cX12_nameMet, 1, (some .int), false, k_X12_nameMet)
theorem o_X12_nameMet : ab_OK M_X12_nameMet 0 := tb_ok OC_X12 (by decide +kernel) (by decide +kernel) (ab_T_in (tb_c_in 8 _ (List.mem_of_getElem? (i := 143) (rfl : (tb_c 8)[143]? = some (Cond.code yX12_nameMet cX12_nameMet 1 (some .int))))) rfl) IN_X12
theorem v_X12_nameMet : ab_kV M_X12_nameMet 12 := ⟨(ab_T_in (tb_c_in 8 _ (List.mem_of_getElem? (i := 142) (rfl : (tb_c 8)[142]? = some (Cond.instanceMethod yX12_nameMet)))) rfl), (ab_T_in (tb_c_in 0 _ (List.mem_of_getElem? (i := 73) (rfl : (tb_c 0)[73]? = some (Cond.selects RX12 yX12_nameMet yX12_nameMet)))) rfl), _, rfl, rfl⟩
def k_X12_named : List (Nat × Instr × Nat) :=
  [(0, .aload_n 0, 1), (1, .iconst 0, 1), (2, .putfield 145, 3), (5, .iload_n 1, 1), (6, .ifCond .ne 19, 3), (9, .aload_n 0, 1), (10, .getfield 27, 3), (13, .iconst 0, 1),
   (14, .aload_n 0, 1), (15, .getfield 225, 3), (18, .iload_n 2, 1), (19, .invokestatic 247, 3), (22, .goto 25, 3), (25, .iload_n 1, 1), (26, .iconst 1, 1), (27, .if_icmp .ne 19, 3),
   (30, .aload_n 0, 1), (31, .getfield 42, 3), (34, .iconst 0, 1), (35, .aload_n 0, 1), (36, .getfield 228, 3), (39, .iload_n 2, 1), (40, .invokestatic 247, 3), (43, .goto 4, 3),
   (46, .iconst (-1), 1), (47, .ireturn, 1)]
def M_X12_named : ab_MD := (K_X12, yX12_named, cX12_named, 3, (some .int), false, k_X12_named)
theorem o_X12_named : ab_OK M_X12_named 2 := tb_ok OC_X12 (by decide +kernel) (by decide +kernel) (ab_T_in (tb_c_in 8 _ (List.mem_of_getElem? (i := 170) (rfl : (tb_c 8)[170]? = some (Cond.code yX12_named cX12_named 3 (some .int))))) rfl) IN_X12
theorem v_X12_named : ab_kV M_X12_named 12 := ⟨(ab_T_in (tb_c_in 8 _ (List.mem_of_getElem? (i := 168) (rfl : (tb_c 8)[168]? = some (Cond.instanceMethod yX12_named)))) rfl), (ab_T_in (tb_c_in 8 _ (List.mem_of_getElem? (i := 169) (rfl : (tb_c 8)[169]? = some (Cond.selects RX12 yX12_named yX12_named)))) rfl), _, rfl, rfl⟩
def k_X12_needs : List (Nat × Instr × Nat) :=
  [(0, .aload_n 0, 1), (1, .iconst 0, 1), (2, .putfield 145, 3), (5, .aload_n 0, 1), (6, .invokevirtual 549, 3), (9, .iconst 0, 1), (10, .istore_n 1, 1), (11, .iconst 1, 1),
   (12, .istore_n 2, 1), (13, .iload_n 2, 1), (14, .bipush 10, 2), (16, .if_icmp .ge 29, 3), (19, .iload_n 1, 1), (20, .aload_n 0, 1), (21, .iload_n 2, 1), (22, .invokevirtual 558, 3),
   (25, .ifCond .eq 11, 3), (28, .iconst 1, 1), (29, .iload_n 2, 1), (30, .iconst 1, 1), (31, .isub, 1), (32, .ishl, 1), (33, .goto 4, 3), (36, .iconst 0, 1),
   (37, .ior, 1), (38, .istore_n 1, 1), (39, .iinc 2 1, 3), (42, .goto (-29), 3), (45, .aload_n 0, 1), (46, .invokevirtual 362, 3), (49, .iload_n 1, 1), (50, .ireturn, 1)]
def M_X12_needs : ab_MD := (K_X12, yX12_needs, cX12_needs, 3, (some .int), false, k_X12_needs)
theorem o_X12_needs : ab_OK M_X12_needs 0 := tb_ok OC_X12 (by decide +kernel) (by decide +kernel) (ab_T_in (tb_c_in 9 _ (List.mem_of_getElem? (i := 235) (rfl : (tb_c 9)[235]? = some (Cond.code yX12_needs cX12_needs 3 (some .int))))) rfl) IN_X12
theorem v_X12_needs : ab_kV M_X12_needs 12 := ⟨(ab_T_in (tb_c_in 9 _ (List.mem_of_getElem? (i := 233) (rfl : (tb_c 9)[233]? = some (Cond.instanceMethod yX12_needs)))) rfl), (ab_T_in (tb_c_in 9 _ (List.mem_of_getElem? (i := 234) (rfl : (tb_c 9)[234]? = some (Cond.selects RX12 yX12_needs yX12_needs)))) rfl), _, rfl, rfl⟩
