/-! ===== the text constant of the tape: words (printed by wip/tools/mkd6s.py) ===== -/
theorem sw_len_c : Cond.code yJ0_length_8abf5 cJ0_length_8abf5 1 (some .int) ∈ ab_T := ab_T_in (tb_c_in 1 _ (List.mem_of_getElem? (i := 47) (rfl : (tb_c 1)[47]? = some (Cond.code yJ0_length_8abf5 cJ0_length_8abf5 1 (some .int))))) rfl
theorem sw_chr_c : Cond.code yJ0_charAt_5068e cJ0_charAt_5068e 2 (some .char) ∈ ab_T := ab_T_in (tb_c_in 1 _ (List.mem_of_getElem? (i := 57) (rfl : (tb_c 1)[57]? = some (Cond.code yJ0_charAt_5068e cJ0_charAt_5068e 2 (some .char))))) rfl
theorem sw_cod_c : Cond.code yJ0_coder_7d493 cJ0_coder_7d493 1 (some .byte) ∈ ab_T := ab_T_in (tb_c_in 1 _ (List.mem_of_getElem? (i := 51) (rfl : (tb_c 1)[51]? = some (Cond.code yJ0_coder_7d493 cJ0_coder_7d493 1 (some .byte))))) rfl
theorem sw_lat_c : Cond.code yJ0_isLatin1_aae02 cJ0_isLatin1_aae02 1 (some .boolean) ∈ ab_T := ab_T_in (tb_c_in 1 _ (List.mem_of_getElem? (i := 61) (rfl : (tb_c 1)[61]? = some (Cond.code yJ0_isLatin1_aae02 cJ0_isLatin1_aae02 1 (some .boolean))))) rfl
theorem sw_chk_c : Cond.code yJ0_checkIndex_df160 cJ0_checkIndex_df160 2 none ∈ ab_T := ab_T_in (tb_c_in 1 _ (List.mem_of_getElem? (i := 67) (rfl : (tb_c 1)[67]? = some (Cond.code yJ0_checkIndex_df160 cJ0_checkIndex_df160 2 none)))) rfl
theorem sw_ch1_c : Cond.code yJ1_charAt_3b067 cJ1_charAt_3b067 2 (some .char) ∈ ab_T := ab_T_in (tb_c_in 1 _ (List.mem_of_getElem? (i := 64) (rfl : (tb_c 1)[64]? = some (Cond.code yJ1_charAt_3b067 cJ1_charAt_3b067 2 (some .char))))) rfl
theorem sw_pre_c : Cond.code yJ3_checkIndex_8e157 cJ3_checkIndex_8e157 3 (some .int) ∈ ab_T := ab_T_in (tb_c_in 1 _ (List.mem_of_getElem? (i := 72) (rfl : (tb_c 1)[72]? = some (Cond.code yJ3_checkIndex_8e157 cJ3_checkIndex_8e157 3 (some .int))))) rfl
theorem sw_len_i : Cond.instanceMethod yJ0_length_8abf5 ∈ ab_T := ab_T_in (tb_c_in 1 _ (List.mem_of_getElem? (i := 45) (rfl : (tb_c 1)[45]? = some (Cond.instanceMethod yJ0_length_8abf5)))) rfl
theorem sw_len_s : Cond.selects RJ0 yJ0_length_8abf5 yJ0_length_8abf5 ∈ ab_T := ab_T_in (tb_c_in 1 _ (List.mem_of_getElem? (i := 46) (rfl : (tb_c 1)[46]? = some (Cond.selects RJ0 yJ0_length_8abf5 yJ0_length_8abf5)))) rfl
theorem sw_chr_i : Cond.instanceMethod yJ0_charAt_5068e ∈ ab_T := ab_T_in (tb_c_in 1 _ (List.mem_of_getElem? (i := 55) (rfl : (tb_c 1)[55]? = some (Cond.instanceMethod yJ0_charAt_5068e)))) rfl
theorem sw_chr_s : Cond.selects RJ0 yJ0_charAt_5068e yJ0_charAt_5068e ∈ ab_T := ab_T_in (tb_c_in 1 _ (List.mem_of_getElem? (i := 56) (rfl : (tb_c 1)[56]? = some (Cond.selects RJ0 yJ0_charAt_5068e yJ0_charAt_5068e)))) rfl
theorem sw_cod_i : Cond.instanceMethod yJ0_coder_7d493 ∈ ab_T := ab_T_in (tb_c_in 1 _ (List.mem_of_getElem? (i := 49) (rfl : (tb_c 1)[49]? = some (Cond.instanceMethod yJ0_coder_7d493)))) rfl
theorem sw_cod_s : Cond.selects RJ0 yJ0_coder_7d493 yJ0_coder_7d493 ∈ ab_T := ab_T_in (tb_c_in 1 _ (List.mem_of_getElem? (i := 50) (rfl : (tb_c 1)[50]? = some (Cond.selects RJ0 yJ0_coder_7d493 yJ0_coder_7d493)))) rfl
theorem sw_lat_i : Cond.instanceMethod yJ0_isLatin1_aae02 ∈ ab_T := ab_T_in (tb_c_in 1 _ (List.mem_of_getElem? (i := 59) (rfl : (tb_c 1)[59]? = some (Cond.instanceMethod yJ0_isLatin1_aae02)))) rfl
theorem sw_lat_s : Cond.selects RJ0 yJ0_isLatin1_aae02 yJ0_isLatin1_aae02 ∈ ab_T := ab_T_in (tb_c_in 1 _ (List.mem_of_getElem? (i := 60) (rfl : (tb_c 1)[60]? = some (Cond.selects RJ0 yJ0_isLatin1_aae02 yJ0_isLatin1_aae02)))) rfl
theorem sw_chk_t : Cond.static yJ0_checkIndex_df160 ∈ ab_T := ab_T_in (tb_c_in 1 _ (List.mem_of_getElem? (i := 66) (rfl : (tb_c 1)[66]? = some (Cond.static yJ0_checkIndex_df160)))) rfl
theorem sw_ch1_t : Cond.static yJ1_charAt_3b067 ∈ ab_T := ab_T_in (tb_c_in 1 _ (List.mem_of_getElem? (i := 63) (rfl : (tb_c 1)[63]? = some (Cond.static yJ1_charAt_3b067)))) rfl
theorem sw_pre_t : Cond.static yJ3_checkIndex_8e157 ∈ ab_T := ab_T_in (tb_c_in 1 _ (List.mem_of_getElem? (i := 71) (rfl : (tb_c 1)[71]? = some (Cond.static yJ3_checkIndex_8e157)))) rfl
theorem sw_in_RJ0 : Cond.initialized RJ0 ∈ ab_T := ab_T_in (tb_c_in 1 _ (List.mem_of_getElem? (i := 3) (rfl : (tb_c 1)[3]? = some (Cond.initialized RJ0)))) rfl
theorem sw_in_RJ1 : Cond.initialized RJ1 ∈ ab_T := ab_T_in (tb_c_in 1 _ (List.mem_of_getElem? (i := 4) (rfl : (tb_c 1)[4]? = some (Cond.initialized RJ1)))) rfl
theorem sw_in_RJ3 : Cond.initialized RJ3 ∈ ab_T := ab_T_in (tb_c_in 1 _ (List.mem_of_getElem? (i := 5) (rfl : (tb_c 1)[5]? = some (Cond.initialized RJ3)))) rfl
theorem sw_ml_335 : Cond.methodLink RJ0 335 yJ0_coder_7d493 ∈ ab_T := ab_T_in (tb_c_in 1 _ (List.mem_of_getElem? (i := 48) (rfl : (tb_c 1)[48]? = some (Cond.methodLink RJ0 335 yJ0_coder_7d493)))) rfl
theorem sw_ml_492 : Cond.methodLink RJ0 492 yJ0_isLatin1_aae02 ∈ ab_T := ab_T_in (tb_c_in 1 _ (List.mem_of_getElem? (i := 58) (rfl : (tb_c 1)[58]? = some (Cond.methodLink RJ0 492 yJ0_isLatin1_aae02)))) rfl
theorem sw_ml_495 : Cond.methodLink RJ0 495 yJ1_charAt_3b067 ∈ ab_T := ab_T_in (tb_c_in 1 _ (List.mem_of_getElem? (i := 62) (rfl : (tb_c 1)[62]? = some (Cond.methodLink RJ0 495 yJ1_charAt_3b067)))) rfl
theorem sw_ml_9 : Cond.methodLink RJ1 9 yJ0_checkIndex_df160 ∈ ab_T := ab_T_in (tb_c_in 1 _ (List.mem_of_getElem? (i := 65) (rfl : (tb_c 1)[65]? = some (Cond.methodLink RJ1 9 yJ0_checkIndex_df160)))) rfl
theorem sw_ml_1059 : Cond.methodLink RJ0 1059 yJ3_checkIndex_8e157 ∈ ab_T := ab_T_in (tb_c_in 1 _ (List.mem_of_getElem? (i := 70) (rfl : (tb_c 1)[70]? = some (Cond.methodLink RJ0 1059 yJ3_checkIndex_8e157)))) rfl
theorem sw_fl_38 : Cond.fieldLink RJ0 38 "java/lang/String" "COMPACT_STRINGS" "Z" ∈ ab_T := ab_T_in (tb_c_in 1 _ (List.mem_of_getElem? (i := 52) (rfl : (tb_c 1)[52]? = some (Cond.fieldLink RJ0 38 "java/lang/String" "COMPACT_STRINGS" "Z")))) rfl
theorem sw_fl_15 : Cond.fieldLink RJ0 15 "java/lang/String" "coder" "B" ∈ ab_T := ab_T_in (tb_c_in 10 _ (List.mem_of_getElem? (i := 55) (rfl : (tb_c 10)[55]? = some (Cond.fieldLink RJ0 15 "java/lang/String" "coder" "B")))) rfl
theorem sw_fl_9 : Cond.fieldLink RJ0 9 "java/lang/String" "value" "[B" ∈ ab_T := ab_T_in (tb_c_in 10 _ (List.mem_of_getElem? (i := 54) (rfl : (tb_c 10)[54]? = some (Cond.fieldLink RJ0 9 "java/lang/String" "value" "[B")))) rfl
theorem sw_fl_1053 : Cond.fieldLink RJ0 1053 "jdk/internal/util/Preconditions" "SIOOBE_FORMATTER" "Ljava/util/function/BiFunction;" ∈ ab_T := ab_T_in (tb_c_in 1 _ (List.mem_of_getElem? (i := 68) (rfl : (tb_c 1)[68]? = some (Cond.fieldLink RJ0 1053 "jdk/internal/util/Preconditions" "SIOOBE_FORMATTER" "Ljava/util/function/BiFunction;")))) rfl
theorem dJ0_length_8abf5_0 : decode cJ0_length_8abf5 0 = .ok (.aload_n 0, 1) := by decide +kernel
theorem dJ0_length_8abf5_1 : decode cJ0_length_8abf5 1 = .ok (.getfield 9, 3) := by decide +kernel
theorem dJ0_length_8abf5_4 : decode cJ0_length_8abf5 4 = .ok (.arraylength, 1) := by decide +kernel
theorem dJ0_length_8abf5_5 : decode cJ0_length_8abf5 5 = .ok (.aload_n 0, 1) := by decide +kernel
theorem dJ0_length_8abf5_6 : decode cJ0_length_8abf5 6 = .ok (.invokevirtual 335, 3) := by decide +kernel
theorem dJ0_length_8abf5_9 : decode cJ0_length_8abf5 9 = .ok (.ishr, 1) := by decide +kernel
theorem dJ0_length_8abf5_10 : decode cJ0_length_8abf5 10 = .ok (.ireturn, 1) := by decide +kernel
theorem dJ0_charAt_5068e_0 : decode cJ0_charAt_5068e 0 = .ok (.aload_n 0, 1) := by decide +kernel
theorem dJ0_charAt_5068e_1 : decode cJ0_charAt_5068e 1 = .ok (.invokevirtual 492, 3) := by decide +kernel
theorem dJ0_charAt_5068e_4 : decode cJ0_charAt_5068e 4 = .ok (.ifCond .eq 12, 3) := by decide +kernel
theorem dJ0_charAt_5068e_7 : decode cJ0_charAt_5068e 7 = .ok (.aload_n 0, 1) := by decide +kernel
theorem dJ0_charAt_5068e_8 : decode cJ0_charAt_5068e 8 = .ok (.getfield 9, 3) := by decide +kernel
theorem dJ0_charAt_5068e_11 : decode cJ0_charAt_5068e 11 = .ok (.iload_n 1, 1) := by decide +kernel
theorem dJ0_charAt_5068e_12 : decode cJ0_charAt_5068e 12 = .ok (.invokestatic 495, 3) := by decide +kernel
theorem dJ0_charAt_5068e_15 : decode cJ0_charAt_5068e 15 = .ok (.ireturn, 1) := by decide +kernel
theorem dJ0_charAt_5068e_16 : decode cJ0_charAt_5068e 16 = .ok (.aload_n 0, 1) := by decide +kernel
theorem dJ0_charAt_5068e_17 : decode cJ0_charAt_5068e 17 = .ok (.getfield 9, 3) := by decide +kernel
theorem dJ0_charAt_5068e_20 : decode cJ0_charAt_5068e 20 = .ok (.iload_n 1, 1) := by decide +kernel
theorem dJ0_charAt_5068e_21 : decode cJ0_charAt_5068e 21 = .ok (.invokestatic 498, 3) := by decide +kernel
theorem dJ0_charAt_5068e_24 : decode cJ0_charAt_5068e 24 = .ok (.ireturn, 1) := by decide +kernel
theorem dJ0_coder_7d493_0 : decode cJ0_coder_7d493 0 = .ok (.getstatic 38, 3) := by decide +kernel
theorem dJ0_coder_7d493_3 : decode cJ0_coder_7d493 3 = .ok (.ifCond .eq 10, 3) := by decide +kernel
theorem dJ0_coder_7d493_6 : decode cJ0_coder_7d493 6 = .ok (.aload_n 0, 1) := by decide +kernel
theorem dJ0_coder_7d493_7 : decode cJ0_coder_7d493 7 = .ok (.getfield 15, 3) := by decide +kernel
theorem dJ0_coder_7d493_10 : decode cJ0_coder_7d493 10 = .ok (.goto 4, 3) := by decide +kernel
theorem dJ0_coder_7d493_13 : decode cJ0_coder_7d493 13 = .ok (.iconst 1, 1) := by decide +kernel
theorem dJ0_coder_7d493_14 : decode cJ0_coder_7d493 14 = .ok (.ireturn, 1) := by decide +kernel
theorem dJ0_isLatin1_aae02_0 : decode cJ0_isLatin1_aae02 0 = .ok (.getstatic 38, 3) := by decide +kernel
theorem dJ0_isLatin1_aae02_3 : decode cJ0_isLatin1_aae02 3 = .ok (.ifCond .eq 14, 3) := by decide +kernel
theorem dJ0_isLatin1_aae02_6 : decode cJ0_isLatin1_aae02 6 = .ok (.aload_n 0, 1) := by decide +kernel
theorem dJ0_isLatin1_aae02_7 : decode cJ0_isLatin1_aae02 7 = .ok (.getfield 15, 3) := by decide +kernel
theorem dJ0_isLatin1_aae02_10 : decode cJ0_isLatin1_aae02 10 = .ok (.ifCond .ne 7, 3) := by decide +kernel
theorem dJ0_isLatin1_aae02_13 : decode cJ0_isLatin1_aae02 13 = .ok (.iconst 1, 1) := by decide +kernel
theorem dJ0_isLatin1_aae02_14 : decode cJ0_isLatin1_aae02 14 = .ok (.goto 4, 3) := by decide +kernel
theorem dJ0_isLatin1_aae02_17 : decode cJ0_isLatin1_aae02 17 = .ok (.iconst 0, 1) := by decide +kernel
theorem dJ0_isLatin1_aae02_18 : decode cJ0_isLatin1_aae02 18 = .ok (.ireturn, 1) := by decide +kernel
theorem dJ0_checkIndex_df160_0 : decode cJ0_checkIndex_df160 0 = .ok (.iload_n 0, 1) := by decide +kernel
theorem dJ0_checkIndex_df160_1 : decode cJ0_checkIndex_df160 1 = .ok (.iload_n 1, 1) := by decide +kernel
theorem dJ0_checkIndex_df160_2 : decode cJ0_checkIndex_df160 2 = .ok (.getstatic 1053, 3) := by decide +kernel
theorem dJ0_checkIndex_df160_5 : decode cJ0_checkIndex_df160 5 = .ok (.invokestatic 1059, 3) := by decide +kernel
theorem dJ0_checkIndex_df160_8 : decode cJ0_checkIndex_df160 8 = .ok (.pop, 1) := by decide +kernel
theorem dJ0_checkIndex_df160_9 : decode cJ0_checkIndex_df160 9 = .ok (.return_, 1) := by decide +kernel
theorem dJ1_charAt_3b067_0 : decode cJ1_charAt_3b067 0 = .ok (.iload_n 1, 1) := by decide +kernel
theorem dJ1_charAt_3b067_1 : decode cJ1_charAt_3b067 1 = .ok (.aload_n 0, 1) := by decide +kernel
theorem dJ1_charAt_3b067_2 : decode cJ1_charAt_3b067 2 = .ok (.arraylength, 1) := by decide +kernel
theorem dJ1_charAt_3b067_3 : decode cJ1_charAt_3b067 3 = .ok (.invokestatic 9, 3) := by decide +kernel
theorem dJ1_charAt_3b067_6 : decode cJ1_charAt_3b067 6 = .ok (.aload_n 0, 1) := by decide +kernel
theorem dJ1_charAt_3b067_7 : decode cJ1_charAt_3b067 7 = .ok (.iload_n 1, 1) := by decide +kernel
theorem dJ1_charAt_3b067_8 : decode cJ1_charAt_3b067 8 = .ok (.baload, 1) := by decide +kernel
theorem dJ1_charAt_3b067_9 : decode cJ1_charAt_3b067 9 = .ok (.sipush 255, 3) := by decide +kernel
theorem dJ1_charAt_3b067_12 : decode cJ1_charAt_3b067 12 = .ok (.iand, 1) := by decide +kernel
theorem dJ1_charAt_3b067_13 : decode cJ1_charAt_3b067 13 = .ok (.i2c, 1) := by decide +kernel
theorem dJ1_charAt_3b067_14 : decode cJ1_charAt_3b067 14 = .ok (.ireturn, 1) := by decide +kernel
theorem dJ3_checkIndex_8e157_0 : decode cJ3_checkIndex_8e157 0 = .ok (.iload_n 0, 1) := by decide +kernel
theorem dJ3_checkIndex_8e157_1 : decode cJ3_checkIndex_8e157 1 = .ok (.ifCond .lt 8, 3) := by decide +kernel
theorem dJ3_checkIndex_8e157_4 : decode cJ3_checkIndex_8e157 4 = .ok (.iload_n 0, 1) := by decide +kernel
theorem dJ3_checkIndex_8e157_5 : decode cJ3_checkIndex_8e157 5 = .ok (.iload_n 1, 1) := by decide +kernel
theorem dJ3_checkIndex_8e157_6 : decode cJ3_checkIndex_8e157 6 = .ok (.if_icmp .lt 10, 3) := by decide +kernel
theorem dJ3_checkIndex_8e157_9 : decode cJ3_checkIndex_8e157 9 = .ok (.aload_n 2, 1) := by decide +kernel
theorem dJ3_checkIndex_8e157_10 : decode cJ3_checkIndex_8e157 10 = .ok (.iload_n 0, 1) := by decide +kernel
theorem dJ3_checkIndex_8e157_11 : decode cJ3_checkIndex_8e157 11 = .ok (.iload_n 1, 1) := by decide +kernel
theorem dJ3_checkIndex_8e157_12 : decode cJ3_checkIndex_8e157 12 = .ok (.invokestatic 95, 3) := by decide +kernel
theorem dJ3_checkIndex_8e157_15 : decode cJ3_checkIndex_8e157 15 = .ok (.athrow, 1) := by decide +kernel
theorem dJ3_checkIndex_8e157_16 : decode cJ3_checkIndex_8e157 16 = .ok (.iload_n 0, 1) := by decide +kernel
theorem dJ3_checkIndex_8e157_17 : decode cJ3_checkIndex_8e157 17 = .ok (.ireturn, 1) := by decide +kernel
def sx_tx : String := "one other worth kin held rich day or and not - - - - - - - - - - piece heir share trade draw need seed law join may gold"
def sx_L : List Int32 := [111, 110, 101, 32, 111, 116, 104, 101, 114, 32, 119, 111, 114, 116, 104, 32, 107, 105, 110, 32, 104, 101, 108, 100, 32, 114, 105, 99, 104, 32, 100, 97, 121, 32, 111, 114, 32, 97, 110, 100, 32, 110, 111, 116, 32, 45, 32, 45, 32, 45, 32, 45, 32, 45, 32, 45, 32, 45, 32, 45, 32, 45, 32, 45, 32, 112, 105, 101, 99, 101, 32, 104, 101, 105, 114, 32, 115, 104, 97, 114, 101, 32, 116, 114, 97, 100, 101, 32, 100, 114, 97, 119, 32, 110, 101, 101, 100, 32, 115, 101, 101, 100, 32, 108, 97, 119, 32, 106, 111, 105, 110, 32, 109, 97, 121, 32, 103, 111, 108, 100]
def sx_N : Nat := 120

