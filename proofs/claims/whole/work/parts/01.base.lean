-- ===== PART A: goes FIRST, ahead of the names: the tables' words, and 'selects' of the private methods out of them =====
/-- a private method of a class that the tables say can be made, by its rows of tables_1 -/
def lw_okq (q : MethodName × Nat) : Prop := (q.1.cls ≠ "java/lang/invoke/MethodHandle" ∧ q.1.cls ≠ "java/lang/invoke/VarHandle") ∧ Cond.instantiable q.1.cls q.2 ∈ tables_1 ∧ Cond.privateMethod q.1 ∈ tables_1 ∧ Cond.instanceMethod q.1 ∈ tables_1
theorem lw_p0 : lw_okq (⟨"BoneEstate$Tape", "readWord", "()V"⟩, 8) := ⟨⟨by decide +kernel, by decide +kernel⟩, List.mem_of_getElem? (i := 38) (by decide +kernel), List.mem_of_getElem? (i := 631) (by decide +kernel), List.mem_of_getElem? (i := 632) (by decide +kernel)⟩
theorem lw_p1 : lw_okq (⟨"BoneEstate$Tape", "wordToken", "()I"⟩, 8) := ⟨⟨by decide +kernel, by decide +kernel⟩, List.mem_of_getElem? (i := 38) (by decide +kernel), List.mem_of_getElem? (i := 635) (by decide +kernel), List.mem_of_getElem? (i := 636) (by decide +kernel)⟩
theorem lw_p2 : lw_okq (⟨"BoneEstate$Tape", "readNumber", "()V"⟩, 8) := ⟨⟨by decide +kernel, by decide +kernel⟩, List.mem_of_getElem? (i := 38) (by decide +kernel), List.mem_of_getElem? (i := 642) (by decide +kernel), List.mem_of_getElem? (i := 643) (by decide +kernel)⟩
theorem lw_p3 : lw_okq (⟨"BoneEstate$Tape", "readSign", "()V"⟩, 8) := ⟨⟨by decide +kernel, by decide +kernel⟩, List.mem_of_getElem? (i := 38) (by decide +kernel), List.mem_of_getElem? (i := 647) (by decide +kernel), List.mem_of_getElem? (i := 648) (by decide +kernel)⟩
theorem lw_p4 : lw_okq (⟨"BoneEstate$Tape", "byteAt", "(I)I"⟩, 8) := ⟨⟨by decide +kernel, by decide +kernel⟩, List.mem_of_getElem? (i := 38) (by decide +kernel), List.mem_of_getElem? (i := 651) (by decide +kernel), List.mem_of_getElem? (i := 652) (by decide +kernel)⟩
theorem lw_p5 : lw_okq (⟨"BoneEstate$PlanReader", "readLine", "()I"⟩, 4) := ⟨⟨by decide +kernel, by decide +kernel⟩, List.mem_of_getElem? (i := 266) (by decide +kernel), List.mem_of_getElem? (i := 658) (by decide +kernel), List.mem_of_getElem? (i := 659) (by decide +kernel)⟩
theorem lw_p6 : lw_okq (⟨"BoneEstate$PlanReader", "readPiece", "()I"⟩, 4) := ⟨⟨by decide +kernel, by decide +kernel⟩, List.mem_of_getElem? (i := 266) (by decide +kernel), List.mem_of_getElem? (i := 662) (by decide +kernel), List.mem_of_getElem? (i := 663) (by decide +kernel)⟩
theorem lw_p7 : lw_okq (⟨"BoneEstate$PlanReader", "readNewName", "([IIZ)I"⟩, 4) := ⟨⟨by decide +kernel, by decide +kernel⟩, List.mem_of_getElem? (i := 266) (by decide +kernel), List.mem_of_getElem? (i := 666) (by decide +kernel), List.mem_of_getElem? (i := 667) (by decide +kernel)⟩
theorem lw_p8 : lw_okq (⟨"BoneEstate$PlanReader", "readNumber", "([III)I"⟩, 4) := ⟨⟨by decide +kernel, by decide +kernel⟩, List.mem_of_getElem? (i := 266) (by decide +kernel), List.mem_of_getElem? (i := 681) (by decide +kernel), List.mem_of_getElem? (i := 682) (by decide +kernel)⟩
theorem lw_p9 : lw_okq (⟨"BoneEstate$PlanReader", "readHeir", "()I"⟩, 4) := ⟨⟨by decide +kernel, by decide +kernel⟩, List.mem_of_getElem? (i := 266) (by decide +kernel), List.mem_of_getElem? (i := 685) (by decide +kernel), List.mem_of_getElem? (i := 686) (by decide +kernel)⟩
theorem lw_p10 : lw_okq (⟨"BoneEstate$PlanReader", "readShare", "()I"⟩, 4) := ⟨⟨by decide +kernel, by decide +kernel⟩, List.mem_of_getElem? (i := 266) (by decide +kernel), List.mem_of_getElem? (i := 689) (by decide +kernel), List.mem_of_getElem? (i := 690) (by decide +kernel)⟩
theorem lw_p11 : lw_okq (⟨"BoneEstate$PlanReader", "readToldHeir", "()I"⟩, 4) := ⟨⟨by decide +kernel, by decide +kernel⟩, List.mem_of_getElem? (i := 266) (by decide +kernel), List.mem_of_getElem? (i := 693) (by decide +kernel), List.mem_of_getElem? (i := 694) (by decide +kernel)⟩
theorem lw_p12 : lw_okq (⟨"BoneEstate$PlanReader", "readToldPiece", "()I"⟩, 4) := ⟨⟨by decide +kernel, by decide +kernel⟩, List.mem_of_getElem? (i := 266) (by decide +kernel), List.mem_of_getElem? (i := 697) (by decide +kernel), List.mem_of_getElem? (i := 698) (by decide +kernel)⟩
theorem lw_p13 : lw_okq (⟨"BoneEstate$PlanReader", "readTrade", "()I"⟩, 4) := ⟨⟨by decide +kernel, by decide +kernel⟩, List.mem_of_getElem? (i := 266) (by decide +kernel), List.mem_of_getElem? (i := 705) (by decide +kernel), List.mem_of_getElem? (i := 706) (by decide +kernel)⟩
theorem lw_p14 : lw_okq (⟨"BoneEstate$PlanReader", "readDraw", "()I"⟩, 4) := ⟨⟨by decide +kernel, by decide +kernel⟩, List.mem_of_getElem? (i := 266) (by decide +kernel), List.mem_of_getElem? (i := 709) (by decide +kernel), List.mem_of_getElem? (i := 710) (by decide +kernel)⟩
theorem lw_p15 : lw_okq (⟨"BoneEstate$PlanReader", "readNeed", "()I"⟩, 4) := ⟨⟨by decide +kernel, by decide +kernel⟩, List.mem_of_getElem? (i := 266) (by decide +kernel), List.mem_of_getElem? (i := 713) (by decide +kernel), List.mem_of_getElem? (i := 714) (by decide +kernel)⟩
def lw_privs_1 : List (MethodName × Nat) := [(⟨"BoneEstate$Tape", "readWord", "()V"⟩, 8), (⟨"BoneEstate$Tape", "wordToken", "()I"⟩, 8), (⟨"BoneEstate$Tape", "readNumber", "()V"⟩, 8), (⟨"BoneEstate$Tape", "readSign", "()V"⟩, 8), (⟨"BoneEstate$Tape", "byteAt", "(I)I"⟩, 8), (⟨"BoneEstate$PlanReader", "readLine", "()I"⟩, 4), (⟨"BoneEstate$PlanReader", "readPiece", "()I"⟩, 4), (⟨"BoneEstate$PlanReader", "readNewName", "([IIZ)I"⟩, 4), (⟨"BoneEstate$PlanReader", "readNumber", "([III)I"⟩, 4), (⟨"BoneEstate$PlanReader", "readHeir", "()I"⟩, 4), (⟨"BoneEstate$PlanReader", "readShare", "()I"⟩, 4), (⟨"BoneEstate$PlanReader", "readToldHeir", "()I"⟩, 4), (⟨"BoneEstate$PlanReader", "readToldPiece", "()I"⟩, 4), (⟨"BoneEstate$PlanReader", "readTrade", "()I"⟩, 4), (⟨"BoneEstate$PlanReader", "readDraw", "()I"⟩, 4), (⟨"BoneEstate$PlanReader", "readNeed", "()I"⟩, 4)]
theorem lw_r1 : ∀ q ∈ lw_privs_1, lw_okq q := List.forall_mem_cons.mpr ⟨lw_p0, List.forall_mem_cons.mpr ⟨lw_p1, List.forall_mem_cons.mpr ⟨lw_p2, List.forall_mem_cons.mpr ⟨lw_p3, List.forall_mem_cons.mpr ⟨lw_p4, List.forall_mem_cons.mpr ⟨lw_p5, List.forall_mem_cons.mpr ⟨lw_p6, List.forall_mem_cons.mpr ⟨lw_p7, List.forall_mem_cons.mpr ⟨lw_p8, List.forall_mem_cons.mpr ⟨lw_p9, List.forall_mem_cons.mpr ⟨lw_p10, List.forall_mem_cons.mpr ⟨lw_p11, List.forall_mem_cons.mpr ⟨lw_p12, List.forall_mem_cons.mpr ⟨lw_p13, List.forall_mem_cons.mpr ⟨lw_p14, List.forall_mem_cons.mpr ⟨lw_p15, fun _ h => absurd h List.not_mem_nil⟩⟩⟩⟩⟩⟩⟩⟩⟩⟩⟩⟩⟩⟩⟩⟩
theorem lw_p16 : lw_okq (⟨"BoneEstate$PlanReader", "readSeed", "()I"⟩, 4) := ⟨⟨by decide +kernel, by decide +kernel⟩, List.mem_of_getElem? (i := 266) (by decide +kernel), List.mem_of_getElem? (i := 717) (by decide +kernel), List.mem_of_getElem? (i := 718) (by decide +kernel)⟩
theorem lw_p17 : lw_okq (⟨"BoneEstate$PlanReader", "readLaw", "()I"⟩, 4) := ⟨⟨by decide +kernel, by decide +kernel⟩, List.mem_of_getElem? (i := 266) (by decide +kernel), List.mem_of_getElem? (i := 722) (by decide +kernel), List.mem_of_getElem? (i := 723) (by decide +kernel)⟩
theorem lw_p18 : lw_okq (⟨"BoneEstate$LawReader", "closeParenthesis", "()I"⟩, 7) := ⟨⟨by decide +kernel, by decide +kernel⟩, List.mem_of_getElem? (i := 274) (by decide +kernel), List.mem_of_getElem? (i := 742) (by decide +kernel), List.mem_of_getElem? (i := 743) (by decide +kernel)⟩
theorem lw_p19 : lw_okq (⟨"BoneEstate$LawReader", "release", "(I)V"⟩, 7) := ⟨⟨by decide +kernel, by decide +kernel⟩, List.mem_of_getElem? (i := 274) (by decide +kernel), List.mem_of_getElem? (i := 746) (by decide +kernel), List.mem_of_getElem? (i := 747) (by decide +kernel)⟩
theorem lw_p20 : lw_okq (⟨"BoneEstate$LawReader", "addSign", "(I)I"⟩, 7) := ⟨⟨by decide +kernel, by decide +kernel⟩, List.mem_of_getElem? (i := 274) (by decide +kernel), List.mem_of_getElem? (i := 760) (by decide +kernel), List.mem_of_getElem? (i := 761) (by decide +kernel)⟩
theorem lw_p21 : lw_okq (⟨"BoneEstate$LawReader", "push", "(I)V"⟩, 7) := ⟨⟨by decide +kernel, by decide +kernel⟩, List.mem_of_getElem? (i := 274) (by decide +kernel), List.mem_of_getElem? (i := 767) (by decide +kernel), List.mem_of_getElem? (i := 768) (by decide +kernel)⟩
theorem lw_p22 : lw_okq (⟨"BoneEstate$LawReader", "finish", "()I"⟩, 7) := ⟨⟨by decide +kernel, by decide +kernel⟩, List.mem_of_getElem? (i := 274) (by decide +kernel), List.mem_of_getElem? (i := 771) (by decide +kernel), List.mem_of_getElem? (i := 772) (by decide +kernel)⟩
theorem lw_p23 : lw_okq (⟨"BoneEstate$LawReader", "addValue", "(I)I"⟩, 7) := ⟨⟨by decide +kernel, by decide +kernel⟩, List.mem_of_getElem? (i := 274) (by decide +kernel), List.mem_of_getElem? (i := 775) (by decide +kernel), List.mem_of_getElem? (i := 776) (by decide +kernel)⟩
theorem lw_p24 : lw_okq (⟨"BoneEstate$LawReader", "openParenthesis", "()I"⟩, 7) := ⟨⟨by decide +kernel, by decide +kernel⟩, List.mem_of_getElem? (i := 274) (by decide +kernel), List.mem_of_getElem? (i := 779) (by decide +kernel), List.mem_of_getElem? (i := 780) (by decide +kernel)⟩
theorem lw_p25 : lw_okq (⟨"BoneEstate", "isHeir", "(I)Z"⟩, 17) := ⟨⟨by decide +kernel, by decide +kernel⟩, List.mem_of_getElem? (i := 30) (by decide +kernel), List.mem_of_getElem? (i := 830) (by decide +kernel), List.mem_of_getElem? (i := 831) (by decide +kernel)⟩
theorem lw_p26 : lw_okq (⟨"BoneEstate", "isPiece", "(I)Z"⟩, 17) := ⟨⟨by decide +kernel, by decide +kernel⟩, List.mem_of_getElem? (i := 30) (by decide +kernel), List.mem_of_getElem? (i := 878) (by decide +kernel), List.mem_of_getElem? (i := 879) (by decide +kernel)⟩
theorem lw_p27 : lw_okq (⟨"BoneEstate", "remember", "()V"⟩, 17) := ⟨⟨by decide +kernel, by decide +kernel⟩, List.mem_of_getElem? (i := 30) (by decide +kernel), List.mem_of_getElem? (i := 918) (by decide +kernel), List.mem_of_getElem? (i := 919) (by decide +kernel)⟩
theorem lw_p28 : lw_okq (⟨"BoneEstate$RowTable", "endsOf", "(I)J"⟩, 8) := ⟨⟨by decide +kernel, by decide +kernel⟩, List.mem_of_getElem? (i := 319) (by decide +kernel), List.mem_of_getElem? (i := 978) (by decide +kernel), List.mem_of_getElem? (i := 979) (by decide +kernel)⟩
theorem lw_p29 : lw_okq (⟨"BoneEstate$Course", "drawOrRefuse", "(LBoneEstate$Estate;I)V"⟩, 6) := ⟨⟨by decide +kernel, by decide +kernel⟩, List.mem_of_getElem? (i := 401) (by decide +kernel), List.mem_of_getElem? (i := 1012) (by decide +kernel), List.mem_of_getElem? (i := 1013) (by decide +kernel)⟩
theorem lw_p30 : lw_okq (⟨"BoneEstate", "joinAsNow", "()V"⟩, 17) := ⟨⟨by decide +kernel, by decide +kernel⟩, List.mem_of_getElem? (i := 30) (by decide +kernel), List.mem_of_getElem? (i := 1046) (by decide +kernel), List.mem_of_getElem? (i := 1047) (by decide +kernel)⟩
theorem lw_p31 : lw_okq (⟨"BoneEstate$RowTable", "countWays", "(II)V"⟩, 8) := ⟨⟨by decide +kernel, by decide +kernel⟩, List.mem_of_getElem? (i := 319) (by decide +kernel), List.mem_of_getElem? (i := 1060) (by decide +kernel), List.mem_of_getElem? (i := 1061) (by decide +kernel)⟩
def lw_privs_2 : List (MethodName × Nat) := [(⟨"BoneEstate$PlanReader", "readSeed", "()I"⟩, 4), (⟨"BoneEstate$PlanReader", "readLaw", "()I"⟩, 4), (⟨"BoneEstate$LawReader", "closeParenthesis", "()I"⟩, 7), (⟨"BoneEstate$LawReader", "release", "(I)V"⟩, 7), (⟨"BoneEstate$LawReader", "addSign", "(I)I"⟩, 7), (⟨"BoneEstate$LawReader", "push", "(I)V"⟩, 7), (⟨"BoneEstate$LawReader", "finish", "()I"⟩, 7), (⟨"BoneEstate$LawReader", "addValue", "(I)I"⟩, 7), (⟨"BoneEstate$LawReader", "openParenthesis", "()I"⟩, 7), (⟨"BoneEstate", "isHeir", "(I)Z"⟩, 17), (⟨"BoneEstate", "isPiece", "(I)Z"⟩, 17), (⟨"BoneEstate", "remember", "()V"⟩, 17), (⟨"BoneEstate$RowTable", "endsOf", "(I)J"⟩, 8), (⟨"BoneEstate$Course", "drawOrRefuse", "(LBoneEstate$Estate;I)V"⟩, 6), (⟨"BoneEstate", "joinAsNow", "()V"⟩, 17), (⟨"BoneEstate$RowTable", "countWays", "(II)V"⟩, 8)]
theorem lw_r2 : ∀ q ∈ lw_privs_2, lw_okq q := List.forall_mem_cons.mpr ⟨lw_p16, List.forall_mem_cons.mpr ⟨lw_p17, List.forall_mem_cons.mpr ⟨lw_p18, List.forall_mem_cons.mpr ⟨lw_p19, List.forall_mem_cons.mpr ⟨lw_p20, List.forall_mem_cons.mpr ⟨lw_p21, List.forall_mem_cons.mpr ⟨lw_p22, List.forall_mem_cons.mpr ⟨lw_p23, List.forall_mem_cons.mpr ⟨lw_p24, List.forall_mem_cons.mpr ⟨lw_p25, List.forall_mem_cons.mpr ⟨lw_p26, List.forall_mem_cons.mpr ⟨lw_p27, List.forall_mem_cons.mpr ⟨lw_p28, List.forall_mem_cons.mpr ⟨lw_p29, List.forall_mem_cons.mpr ⟨lw_p30, List.forall_mem_cons.mpr ⟨lw_p31, fun _ h => absurd h List.not_mem_nil⟩⟩⟩⟩⟩⟩⟩⟩⟩⟩⟩⟩⟩⟩⟩⟩
theorem lw_p32 : lw_okq (⟨"BoneEstate$RowTable", "countWaysOf", "(II)V"⟩, 8) := ⟨⟨by decide +kernel, by decide +kernel⟩, List.mem_of_getElem? (i := 319) (by decide +kernel), List.mem_of_getElem? (i := 1064) (by decide +kernel), List.mem_of_getElem? (i := 1065) (by decide +kernel)⟩
theorem lw_p33 : lw_okq (⟨"BoneEstate$RowTable", "waysBefore", "(III)J"⟩, 8) := ⟨⟨by decide +kernel, by decide +kernel⟩, List.mem_of_getElem? (i := 319) (by decide +kernel), List.mem_of_getElem? (i := 1068) (by decide +kernel), List.mem_of_getElem? (i := 1069) (by decide +kernel)⟩
theorem lw_p34 : lw_okq (⟨"BoneEstate$RowTable", "firstBehind", "(II)I"⟩, 8) := ⟨⟨by decide +kernel, by decide +kernel⟩, List.mem_of_getElem? (i := 319) (by decide +kernel), List.mem_of_getElem? (i := 1081) (by decide +kernel), List.mem_of_getElem? (i := 1082) (by decide +kernel)⟩
theorem lw_p35 : lw_okq (⟨"BoneEstate$RowTable", "fits", "(IIII)Z"⟩, 8) := ⟨⟨by decide +kernel, by decide +kernel⟩, List.mem_of_getElem? (i := 319) (by decide +kernel), List.mem_of_getElem? (i := 1085) (by decide +kernel), List.mem_of_getElem? (i := 1086) (by decide +kernel)⟩
theorem lw_p36 : lw_okq (⟨"BoneEstate$RowTable", "fewestOf", "(I)I"⟩, 8) := ⟨⟨by decide +kernel, by decide +kernel⟩, List.mem_of_getElem? (i := 319) (by decide +kernel), List.mem_of_getElem? (i := 1115) (by decide +kernel), List.mem_of_getElem? (i := 1116) (by decide +kernel)⟩
theorem lw_p37 : lw_okq (⟨"BoneEstate$Plan", "hangingWith", "(II)I"⟩, 18) := ⟨⟨by decide +kernel, by decide +kernel⟩, List.mem_of_getElem? (i := 130) (by decide +kernel), List.mem_of_getElem? (i := 1133) (by decide +kernel), List.mem_of_getElem? (i := 1134) (by decide +kernel)⟩
theorem lw_p38 : lw_okq (⟨"BoneEstate$Judge", "exchangeMakesRow", "(II)Z"⟩, 11) := ⟨⟨by decide +kernel, by decide +kernel⟩, List.mem_of_getElem? (i := 350) (by decide +kernel), List.mem_of_getElem? (i := 1152) (by decide +kernel), List.mem_of_getElem? (i := 1153) (by decide +kernel)⟩
theorem lw_p39 : lw_okq (⟨"BoneEstate$Judge", "addHeirToDeal", "(III)V"⟩, 11) := ⟨⟨by decide +kernel, by decide +kernel⟩, List.mem_of_getElem? (i := 350) (by decide +kernel), List.mem_of_getElem? (i := 1177) (by decide +kernel), List.mem_of_getElem? (i := 1178) (by decide +kernel)⟩
theorem lw_p40 : lw_okq (⟨"BoneEstate$Judge", "mostWith", "(III)I"⟩, 11) := ⟨⟨by decide +kernel, by decide +kernel⟩, List.mem_of_getElem? (i := 350) (by decide +kernel), List.mem_of_getElem? (i := 1181) (by decide +kernel), List.mem_of_getElem? (i := 1182) (by decide +kernel)⟩
theorem lw_p41 : lw_okq (⟨"BoneEstate$Game", "totalFrom", "(IIII)I"⟩, 6) := ⟨⟨by decide +kernel, by decide +kernel⟩, List.mem_of_getElem? (i := 430) (by decide +kernel), List.mem_of_getElem? (i := 1194) (by decide +kernel), List.mem_of_getElem? (i := 1195) (by decide +kernel)⟩
theorem lw_p42 : lw_okq (⟨"BoneEstate$Game", "open", "(II)V"⟩, 6) := ⟨⟨by decide +kernel, by decide +kernel⟩, List.mem_of_getElem? (i := 430) (by decide +kernel), List.mem_of_getElem? (i := 1202) (by decide +kernel), List.mem_of_getElem? (i := 1203) (by decide +kernel)⟩
theorem lw_p43 : lw_okq (⟨"BoneEstate$Notebook", "notesAgree", "(IIIJ)Z"⟩, 7) := ⟨⟨by decide +kernel, by decide +kernel⟩, List.mem_of_getElem? (i := 457) (by decide +kernel), List.mem_of_getElem? (i := 1261) (by decide +kernel), List.mem_of_getElem? (i := 1262) (by decide +kernel)⟩
theorem lw_p44 : lw_okq (⟨"java/lang/Throwable", "fillInStackTrace", "(I)Ljava/lang/Throwable;"⟩, 6) := ⟨⟨by decide +kernel, by decide +kernel⟩, List.mem_of_getElem? (i := 1377) (by decide +kernel), List.mem_of_getElem? (i := 1375) (by decide +kernel), List.mem_of_getElem? (i := 1376) (by decide +kernel)⟩
theorem lw_p45 : lw_okq (⟨"BoneEstateModel", "plain", "()V"⟩, 86) := ⟨⟨by decide +kernel, by decide +kernel⟩, List.mem_of_getElem? (i := 1422) (by decide +kernel), List.mem_of_getElem? (i := 1428) (by decide +kernel), List.mem_of_getElem? (i := 1429) (by decide +kernel)⟩
theorem lw_p46 : lw_okq (⟨"BoneEstateModel", "keepText", "()V"⟩, 86) := ⟨⟨by decide +kernel, by decide +kernel⟩, List.mem_of_getElem? (i := 1422) (by decide +kernel), List.mem_of_getElem? (i := 1432) (by decide +kernel), List.mem_of_getElem? (i := 1433) (by decide +kernel)⟩
theorem lw_p47 : lw_okq (⟨"BoneEstateModel", "begin", "()V"⟩, 86) := ⟨⟨by decide +kernel, by decide +kernel⟩, List.mem_of_getElem? (i := 1422) (by decide +kernel), List.mem_of_getElem? (i := 1439) (by decide +kernel), List.mem_of_getElem? (i := 1440) (by decide +kernel)⟩
def lw_privs_3 : List (MethodName × Nat) := [(⟨"BoneEstate$RowTable", "countWaysOf", "(II)V"⟩, 8), (⟨"BoneEstate$RowTable", "waysBefore", "(III)J"⟩, 8), (⟨"BoneEstate$RowTable", "firstBehind", "(II)I"⟩, 8), (⟨"BoneEstate$RowTable", "fits", "(IIII)Z"⟩, 8), (⟨"BoneEstate$RowTable", "fewestOf", "(I)I"⟩, 8), (⟨"BoneEstate$Plan", "hangingWith", "(II)I"⟩, 18), (⟨"BoneEstate$Judge", "exchangeMakesRow", "(II)Z"⟩, 11), (⟨"BoneEstate$Judge", "addHeirToDeal", "(III)V"⟩, 11), (⟨"BoneEstate$Judge", "mostWith", "(III)I"⟩, 11), (⟨"BoneEstate$Game", "totalFrom", "(IIII)I"⟩, 6), (⟨"BoneEstate$Game", "open", "(II)V"⟩, 6), (⟨"BoneEstate$Notebook", "notesAgree", "(IIIJ)Z"⟩, 7), (⟨"java/lang/Throwable", "fillInStackTrace", "(I)Ljava/lang/Throwable;"⟩, 6), (⟨"BoneEstateModel", "plain", "()V"⟩, 86), (⟨"BoneEstateModel", "keepText", "()V"⟩, 86), (⟨"BoneEstateModel", "begin", "()V"⟩, 86)]
theorem lw_r3 : ∀ q ∈ lw_privs_3, lw_okq q := List.forall_mem_cons.mpr ⟨lw_p32, List.forall_mem_cons.mpr ⟨lw_p33, List.forall_mem_cons.mpr ⟨lw_p34, List.forall_mem_cons.mpr ⟨lw_p35, List.forall_mem_cons.mpr ⟨lw_p36, List.forall_mem_cons.mpr ⟨lw_p37, List.forall_mem_cons.mpr ⟨lw_p38, List.forall_mem_cons.mpr ⟨lw_p39, List.forall_mem_cons.mpr ⟨lw_p40, List.forall_mem_cons.mpr ⟨lw_p41, List.forall_mem_cons.mpr ⟨lw_p42, List.forall_mem_cons.mpr ⟨lw_p43, List.forall_mem_cons.mpr ⟨lw_p44, List.forall_mem_cons.mpr ⟨lw_p45, List.forall_mem_cons.mpr ⟨lw_p46, List.forall_mem_cons.mpr ⟨lw_p47, fun _ h => absurd h List.not_mem_nil⟩⟩⟩⟩⟩⟩⟩⟩⟩⟩⟩⟩⟩⟩⟩⟩
theorem lw_p48 : lw_okq (⟨"BoneEstateModel", "atFirst", "(I)V"⟩, 86) := ⟨⟨by decide +kernel, by decide +kernel⟩, List.mem_of_getElem? (i := 1422) (by decide +kernel), List.mem_of_getElem? (i := 1443) (by decide +kernel), List.mem_of_getElem? (i := 1444) (by decide +kernel)⟩
theorem lw_p49 : lw_okq (⟨"BoneEstateModel", "plainTried", "()V"⟩, 86) := ⟨⟨by decide +kernel, by decide +kernel⟩, List.mem_of_getElem? (i := 1422) (by decide +kernel), List.mem_of_getElem? (i := 1447) (by decide +kernel), List.mem_of_getElem? (i := 1448) (by decide +kernel)⟩
theorem lw_p50 : lw_okq (⟨"BoneEstateModel", "token", "()V"⟩, 86) := ⟨⟨by decide +kernel, by decide +kernel⟩, List.mem_of_getElem? (i := 1422) (by decide +kernel), List.mem_of_getElem? (i := 1722) (by decide +kernel), List.mem_of_getElem? (i := 1723) (by decide +kernel)⟩
theorem lw_p51 : lw_okq (⟨"BoneEstateModel", "isSmall", "(I)Z"⟩, 86) := ⟨⟨by decide +kernel, by decide +kernel⟩, List.mem_of_getElem? (i := 1422) (by decide +kernel), List.mem_of_getElem? (i := 1726) (by decide +kernel), List.mem_of_getElem? (i := 1727) (by decide +kernel)⟩
theorem lw_p52 : lw_okq (⟨"BoneEstateModel", "wordAt", "(II)I"⟩, 86) := ⟨⟨by decide +kernel, by decide +kernel⟩, List.mem_of_getElem? (i := 1422) (by decide +kernel), List.mem_of_getElem? (i := 1730) (by decide +kernel), List.mem_of_getElem? (i := 1731) (by decide +kernel)⟩
theorem lw_p53 : lw_okq (⟨"BoneEstateModel", "packed", "(II)I"⟩, 86) := ⟨⟨by decide +kernel, by decide +kernel⟩, List.mem_of_getElem? (i := 1422) (by decide +kernel), List.mem_of_getElem? (i := 1734) (by decide +kernel), List.mem_of_getElem? (i := 1735) (by decide +kernel)⟩
theorem lw_p54 : lw_okq (⟨"BoneEstateModel", "isDigit", "(I)Z"⟩, 86) := ⟨⟨by decide +kernel, by decide +kernel⟩, List.mem_of_getElem? (i := 1422) (by decide +kernel), List.mem_of_getElem? (i := 1738) (by decide +kernel), List.mem_of_getElem? (i := 1739) (by decide +kernel)⟩
theorem lw_p55 : lw_okq (⟨"BoneEstateModel", "signToken", "()V"⟩, 86) := ⟨⟨by decide +kernel, by decide +kernel⟩, List.mem_of_getElem? (i := 1422) (by decide +kernel), List.mem_of_getElem? (i := 1743) (by decide +kernel), List.mem_of_getElem? (i := 1744) (by decide +kernel)⟩
theorem lw_p56 : lw_okq (⟨"BoneEstateModel", "lineRead", "()Z"⟩, 86) := ⟨⟨by decide +kernel, by decide +kernel⟩, List.mem_of_getElem? (i := 1422) (by decide +kernel), List.mem_of_getElem? (i := 1747) (by decide +kernel), List.mem_of_getElem? (i := 1748) (by decide +kernel)⟩
theorem lw_p57 : lw_okq (⟨"BoneEstateModel", "wrong", "(I)Z"⟩, 86) := ⟨⟨by decide +kernel, by decide +kernel⟩, List.mem_of_getElem? (i := 1422) (by decide +kernel), List.mem_of_getElem? (i := 1751) (by decide +kernel), List.mem_of_getElem? (i := 1752) (by decide +kernel)⟩
theorem lw_p58 : lw_okq (⟨"BoneEstateModel", "pieceLine", "()Z"⟩, 86) := ⟨⟨by decide +kernel, by decide +kernel⟩, List.mem_of_getElem? (i := 1422) (by decide +kernel), List.mem_of_getElem? (i := 1755) (by decide +kernel), List.mem_of_getElem? (i := 1756) (by decide +kernel)⟩
theorem lw_p59 : lw_okq (⟨"BoneEstateModel", "newName", "([III)Z"⟩, 86) := ⟨⟨by decide +kernel, by decide +kernel⟩, List.mem_of_getElem? (i := 1422) (by decide +kernel), List.mem_of_getElem? (i := 1759) (by decide +kernel), List.mem_of_getElem? (i := 1760) (by decide +kernel)⟩
theorem lw_p60 : lw_okq (⟨"BoneEstateModel", "number", "(II)Z"⟩, 86) := ⟨⟨by decide +kernel, by decide +kernel⟩, List.mem_of_getElem? (i := 1422) (by decide +kernel), List.mem_of_getElem? (i := 1766) (by decide +kernel), List.mem_of_getElem? (i := 1767) (by decide +kernel)⟩
theorem lw_p61 : lw_okq (⟨"BoneEstateModel", "heirLine", "()Z"⟩, 86) := ⟨⟨by decide +kernel, by decide +kernel⟩, List.mem_of_getElem? (i := 1422) (by decide +kernel), List.mem_of_getElem? (i := 1773) (by decide +kernel), List.mem_of_getElem? (i := 1774) (by decide +kernel)⟩
theorem lw_p62 : lw_okq (⟨"BoneEstateModel", "shareLine", "()Z"⟩, 86) := ⟨⟨by decide +kernel, by decide +kernel⟩, List.mem_of_getElem? (i := 1422) (by decide +kernel), List.mem_of_getElem? (i := 1777) (by decide +kernel), List.mem_of_getElem? (i := 1778) (by decide +kernel)⟩
theorem lw_p63 : lw_okq (⟨"BoneEstateModel", "thereIn", "([III)Z"⟩, 86) := ⟨⟨by decide +kernel, by decide +kernel⟩, List.mem_of_getElem? (i := 1422) (by decide +kernel), List.mem_of_getElem? (i := 1781) (by decide +kernel), List.mem_of_getElem? (i := 1782) (by decide +kernel)⟩
def lw_privs_4 : List (MethodName × Nat) := [(⟨"BoneEstateModel", "atFirst", "(I)V"⟩, 86), (⟨"BoneEstateModel", "plainTried", "()V"⟩, 86), (⟨"BoneEstateModel", "token", "()V"⟩, 86), (⟨"BoneEstateModel", "isSmall", "(I)Z"⟩, 86), (⟨"BoneEstateModel", "wordAt", "(II)I"⟩, 86), (⟨"BoneEstateModel", "packed", "(II)I"⟩, 86), (⟨"BoneEstateModel", "isDigit", "(I)Z"⟩, 86), (⟨"BoneEstateModel", "signToken", "()V"⟩, 86), (⟨"BoneEstateModel", "lineRead", "()Z"⟩, 86), (⟨"BoneEstateModel", "wrong", "(I)Z"⟩, 86), (⟨"BoneEstateModel", "pieceLine", "()Z"⟩, 86), (⟨"BoneEstateModel", "newName", "([III)Z"⟩, 86), (⟨"BoneEstateModel", "number", "(II)Z"⟩, 86), (⟨"BoneEstateModel", "heirLine", "()Z"⟩, 86), (⟨"BoneEstateModel", "shareLine", "()Z"⟩, 86), (⟨"BoneEstateModel", "thereIn", "([III)Z"⟩, 86)]
theorem lw_r4 : ∀ q ∈ lw_privs_4, lw_okq q := List.forall_mem_cons.mpr ⟨lw_p48, List.forall_mem_cons.mpr ⟨lw_p49, List.forall_mem_cons.mpr ⟨lw_p50, List.forall_mem_cons.mpr ⟨lw_p51, List.forall_mem_cons.mpr ⟨lw_p52, List.forall_mem_cons.mpr ⟨lw_p53, List.forall_mem_cons.mpr ⟨lw_p54, List.forall_mem_cons.mpr ⟨lw_p55, List.forall_mem_cons.mpr ⟨lw_p56, List.forall_mem_cons.mpr ⟨lw_p57, List.forall_mem_cons.mpr ⟨lw_p58, List.forall_mem_cons.mpr ⟨lw_p59, List.forall_mem_cons.mpr ⟨lw_p60, List.forall_mem_cons.mpr ⟨lw_p61, List.forall_mem_cons.mpr ⟨lw_p62, List.forall_mem_cons.mpr ⟨lw_p63, fun _ h => absurd h List.not_mem_nil⟩⟩⟩⟩⟩⟩⟩⟩⟩⟩⟩⟩⟩⟩⟩⟩
theorem lw_p64 : lw_okq (⟨"BoneEstateModel", "tradeLine", "()Z"⟩, 86) := ⟨⟨by decide +kernel, by decide +kernel⟩, List.mem_of_getElem? (i := 1422) (by decide +kernel), List.mem_of_getElem? (i := 1785) (by decide +kernel), List.mem_of_getElem? (i := 1786) (by decide +kernel)⟩
theorem lw_p65 : lw_okq (⟨"BoneEstateModel", "drawLine", "()Z"⟩, 86) := ⟨⟨by decide +kernel, by decide +kernel⟩, List.mem_of_getElem? (i := 1422) (by decide +kernel), List.mem_of_getElem? (i := 1789) (by decide +kernel), List.mem_of_getElem? (i := 1790) (by decide +kernel)⟩
theorem lw_p66 : lw_okq (⟨"BoneEstateModel", "onceLine", "(III)Z"⟩, 86) := ⟨⟨by decide +kernel, by decide +kernel⟩, List.mem_of_getElem? (i := 1422) (by decide +kernel), List.mem_of_getElem? (i := 1793) (by decide +kernel), List.mem_of_getElem? (i := 1794) (by decide +kernel)⟩
theorem lw_p67 : lw_okq (⟨"BoneEstateModel", "sumRead", "()Z"⟩, 86) := ⟨⟨by decide +kernel, by decide +kernel⟩, List.mem_of_getElem? (i := 1422) (by decide +kernel), List.mem_of_getElem? (i := 1797) (by decide +kernel), List.mem_of_getElem? (i := 1798) (by decide +kernel)⟩
theorem lw_p68 : lw_okq (⟨"BoneEstateModel", "isSign", "(I)Z"⟩, 86) := ⟨⟨by decide +kernel, by decide +kernel⟩, List.mem_of_getElem? (i := 1422) (by decide +kernel), List.mem_of_getElem? (i := 1801) (by decide +kernel), List.mem_of_getElem? (i := 1802) (by decide +kernel)⟩
theorem lw_p69 : lw_okq (⟨"BoneEstateModel", "leafRead", "()Z"⟩, 86) := ⟨⟨by decide +kernel, by decide +kernel⟩, List.mem_of_getElem? (i := 1422) (by decide +kernel), List.mem_of_getElem? (i := 1805) (by decide +kernel), List.mem_of_getElem? (i := 1806) (by decide +kernel)⟩
theorem lw_p70 : lw_okq (⟨"BoneEstateModel", "waitsFor", "(I)V"⟩, 86) := ⟨⟨by decide +kernel, by decide +kernel⟩, List.mem_of_getElem? (i := 1422) (by decide +kernel), List.mem_of_getElem? (i := 1809) (by decide +kernel), List.mem_of_getElem? (i := 1810) (by decide +kernel)⟩
theorem lw_p71 : lw_okq (⟨"BoneEstateModel", "isKey", "(I)Z"⟩, 86) := ⟨⟨by decide +kernel, by decide +kernel⟩, List.mem_of_getElem? (i := 1422) (by decide +kernel), List.mem_of_getElem? (i := 1813) (by decide +kernel), List.mem_of_getElem? (i := 1814) (by decide +kernel)⟩
theorem lw_p72 : lw_okq (⟨"BoneEstateModel", "isCounted", "()Z"⟩, 86) := ⟨⟨by decide +kernel, by decide +kernel⟩, List.mem_of_getElem? (i := 1422) (by decide +kernel), List.mem_of_getElem? (i := 1817) (by decide +kernel), List.mem_of_getElem? (i := 1818) (by decide +kernel)⟩
theorem lw_p73 : lw_okq (⟨"BoneEstateModel", "nameMet", "()I"⟩, 86) := ⟨⟨by decide +kernel, by decide +kernel⟩, List.mem_of_getElem? (i := 1422) (by decide +kernel), List.mem_of_getElem? (i := 1821) (by decide +kernel), List.mem_of_getElem? (i := 1822) (by decide +kernel)⟩
theorem lw_p74 : lw_okq (⟨"BoneEstateModel", "grown", "(III)V"⟩, 86) := ⟨⟨by decide +kernel, by decide +kernel⟩, List.mem_of_getElem? (i := 1422) (by decide +kernel), List.mem_of_getElem? (i := 1825) (by decide +kernel), List.mem_of_getElem? (i := 1826) (by decide +kernel)⟩
theorem lw_p75 : lw_okq (⟨"BoneEstateModel", "signs", "()Z"⟩, 86) := ⟨⟨by decide +kernel, by decide +kernel⟩, List.mem_of_getElem? (i := 1422) (by decide +kernel), List.mem_of_getElem? (i := 1829) (by decide +kernel), List.mem_of_getElem? (i := 1830) (by decide +kernel)⟩
theorem lw_p76 : lw_okq (⟨"BoneEstateModel", "bind", "(I)V"⟩, 86) := ⟨⟨by decide +kernel, by decide +kernel⟩, List.mem_of_getElem? (i := 1422) (by decide +kernel), List.mem_of_getElem? (i := 1833) (by decide +kernel), List.mem_of_getElem? (i := 1834) (by decide +kernel)⟩
theorem lw_p77 : lw_okq (⟨"BoneEstateModel", "dropHeld", "()I"⟩, 86) := ⟨⟨by decide +kernel, by decide +kernel⟩, List.mem_of_getElem? (i := 1422) (by decide +kernel), List.mem_of_getElem? (i := 1840) (by decide +kernel), List.mem_of_getElem? (i := 1841) (by decide +kernel)⟩
theorem lw_p78 : lw_okq (⟨"BoneEstateModel", "isPiece", "(I)Z"⟩, 86) := ⟨⟨by decide +kernel, by decide +kernel⟩, List.mem_of_getElem? (i := 1422) (by decide +kernel), List.mem_of_getElem? (i := 1856) (by decide +kernel), List.mem_of_getElem? (i := 1857) (by decide +kernel)⟩
theorem lw_p79 : lw_okq (⟨"BoneEstateModel", "fails", "(I)I"⟩, 86) := ⟨⟨by decide +kernel, by decide +kernel⟩, List.mem_of_getElem? (i := 1422) (by decide +kernel), List.mem_of_getElem? (i := 1860) (by decide +kernel), List.mem_of_getElem? (i := 1861) (by decide +kernel)⟩
def lw_privs_5 : List (MethodName × Nat) := [(⟨"BoneEstateModel", "tradeLine", "()Z"⟩, 86), (⟨"BoneEstateModel", "drawLine", "()Z"⟩, 86), (⟨"BoneEstateModel", "onceLine", "(III)Z"⟩, 86), (⟨"BoneEstateModel", "sumRead", "()Z"⟩, 86), (⟨"BoneEstateModel", "isSign", "(I)Z"⟩, 86), (⟨"BoneEstateModel", "leafRead", "()Z"⟩, 86), (⟨"BoneEstateModel", "waitsFor", "(I)V"⟩, 86), (⟨"BoneEstateModel", "isKey", "(I)Z"⟩, 86), (⟨"BoneEstateModel", "isCounted", "()Z"⟩, 86), (⟨"BoneEstateModel", "nameMet", "()I"⟩, 86), (⟨"BoneEstateModel", "grown", "(III)V"⟩, 86), (⟨"BoneEstateModel", "signs", "()Z"⟩, 86), (⟨"BoneEstateModel", "bind", "(I)V"⟩, 86), (⟨"BoneEstateModel", "dropHeld", "()I"⟩, 86), (⟨"BoneEstateModel", "isPiece", "(I)Z"⟩, 86), (⟨"BoneEstateModel", "fails", "(I)I"⟩, 86)]
theorem lw_r5 : ∀ q ∈ lw_privs_5, lw_okq q := List.forall_mem_cons.mpr ⟨lw_p64, List.forall_mem_cons.mpr ⟨lw_p65, List.forall_mem_cons.mpr ⟨lw_p66, List.forall_mem_cons.mpr ⟨lw_p67, List.forall_mem_cons.mpr ⟨lw_p68, List.forall_mem_cons.mpr ⟨lw_p69, List.forall_mem_cons.mpr ⟨lw_p70, List.forall_mem_cons.mpr ⟨lw_p71, List.forall_mem_cons.mpr ⟨lw_p72, List.forall_mem_cons.mpr ⟨lw_p73, List.forall_mem_cons.mpr ⟨lw_p74, List.forall_mem_cons.mpr ⟨lw_p75, List.forall_mem_cons.mpr ⟨lw_p76, List.forall_mem_cons.mpr ⟨lw_p77, List.forall_mem_cons.mpr ⟨lw_p78, List.forall_mem_cons.mpr ⟨lw_p79, fun _ h => absurd h List.not_mem_nil⟩⟩⟩⟩⟩⟩⟩⟩⟩⟩⟩⟩⟩⟩⟩⟩
theorem lw_p80 : lw_okq (⟨"BoneEstateModel", "isHeir", "(I)Z"⟩, 86) := ⟨⟨by decide +kernel, by decide +kernel⟩, List.mem_of_getElem? (i := 1422) (by decide +kernel), List.mem_of_getElem? (i := 1868) (by decide +kernel), List.mem_of_getElem? (i := 1869) (by decide +kernel)⟩
theorem lw_p81 : lw_okq (⟨"BoneEstateModel", "heldBy", "(II)I"⟩, 86) := ⟨⟨by decide +kernel, by decide +kernel⟩, List.mem_of_getElem? (i := 1422) (by decide +kernel), List.mem_of_getElem? (i := 1872) (by decide +kernel), List.mem_of_getElem? (i := 1873) (by decide +kernel)⟩
theorem lw_p82 : lw_okq (⟨"BoneEstateModel", "layJoins", "(I)V"⟩, 86) := ⟨⟨by decide +kernel, by decide +kernel⟩, List.mem_of_getElem? (i := 1422) (by decide +kernel), List.mem_of_getElem? (i := 1883) (by decide +kernel), List.mem_of_getElem? (i := 1884) (by decide +kernel)⟩
theorem lw_p83 : lw_okq (⟨"BoneEstateModel", "layNames", "(IIII)V"⟩, 86) := ⟨⟨by decide +kernel, by decide +kernel⟩, List.mem_of_getElem? (i := 1422) (by decide +kernel), List.mem_of_getElem? (i := 1890) (by decide +kernel), List.mem_of_getElem? (i := 1891) (by decide +kernel)⟩
theorem lw_p84 : lw_okq (⟨"BoneEstateModel", "lawOf", "(I)J"⟩, 86) := ⟨⟨by decide +kernel, by decide +kernel⟩, List.mem_of_getElem? (i := 1422) (by decide +kernel), List.mem_of_getElem? (i := 1894) (by decide +kernel), List.mem_of_getElem? (i := 1895) (by decide +kernel)⟩
theorem lw_p85 : lw_okq (⟨"BoneEstateModel", "valueOf", "(I)J"⟩, 86) := ⟨⟨by decide +kernel, by decide +kernel⟩, List.mem_of_getElem? (i := 1422) (by decide +kernel), List.mem_of_getElem? (i := 1898) (by decide +kernel), List.mem_of_getElem? (i := 1899) (by decide +kernel)⟩
theorem lw_p86 : lw_okq (⟨"BoneEstateModel", "bounded", "(J)J"⟩, 86) := ⟨⟨by decide +kernel, by decide +kernel⟩, List.mem_of_getElem? (i := 1422) (by decide +kernel), List.mem_of_getElem? (i := 1902) (by decide +kernel), List.mem_of_getElem? (i := 1903) (by decide +kernel)⟩
theorem lw_p87 : lw_okq (⟨"BoneEstateModel", "times", "(JJ)J"⟩, 86) := ⟨⟨by decide +kernel, by decide +kernel⟩, List.mem_of_getElem? (i := 1422) (by decide +kernel), List.mem_of_getElem? (i := 1908) (by decide +kernel), List.mem_of_getElem? (i := 1909) (by decide +kernel)⟩
theorem lw_p88 : lw_okq (⟨"BoneEstateModel", "layHeir", "(II)V"⟩, 86) := ⟨⟨by decide +kernel, by decide +kernel⟩, List.mem_of_getElem? (i := 1422) (by decide +kernel), List.mem_of_getElem? (i := 1920) (by decide +kernel), List.mem_of_getElem? (i := 1921) (by decide +kernel)⟩
theorem lw_p89 : lw_okq (⟨"BoneEstateModel", "may", "(III)Z"⟩, 86) := ⟨⟨by decide +kernel, by decide +kernel⟩, List.mem_of_getElem? (i := 1422) (by decide +kernel), List.mem_of_getElem? (i := 1931) (by decide +kernel), List.mem_of_getElem? (i := 1932) (by decide +kernel)⟩
theorem lw_p90 : lw_okq (⟨"BoneEstateModel", "remember", "()V"⟩, 86) := ⟨⟨by decide +kernel, by decide +kernel⟩, List.mem_of_getElem? (i := 1422) (by decide +kernel), List.mem_of_getElem? (i := 1935) (by decide +kernel), List.mem_of_getElem? (i := 1936) (by decide +kernel)⟩
theorem lw_p91 : lw_okq (⟨"BoneEstateModel", "put", "([II)V"⟩, 86) := ⟨⟨by decide +kernel, by decide +kernel⟩, List.mem_of_getElem? (i := 1422) (by decide +kernel), List.mem_of_getElem? (i := 1939) (by decide +kernel), List.mem_of_getElem? (i := 1940) (by decide +kernel)⟩
theorem lw_p92 : lw_okq (⟨"BoneEstateModel", "tradesOne", "(III)Z"⟩, 86) := ⟨⟨by decide +kernel, by decide +kernel⟩, List.mem_of_getElem? (i := 1422) (by decide +kernel), List.mem_of_getElem? (i := 1947) (by decide +kernel), List.mem_of_getElem? (i := 1948) (by decide +kernel)⟩
theorem lw_p93 : lw_okq (⟨"BoneEstateModel", "layRows", "(I)V"⟩, 86) := ⟨⟨by decide +kernel, by decide +kernel⟩, List.mem_of_getElem? (i := 1422) (by decide +kernel), List.mem_of_getElem? (i := 1955) (by decide +kernel), List.mem_of_getElem? (i := 1956) (by decide +kernel)⟩
theorem lw_p94 : lw_okq (⟨"BoneEstateModel", "lastsOf", "(II)I"⟩, 86) := ⟨⟨by decide +kernel, by decide +kernel⟩, List.mem_of_getElem? (i := 1422) (by decide +kernel), List.mem_of_getElem? (i := 1959) (by decide +kernel), List.mem_of_getElem? (i := 1960) (by decide +kernel)⟩
theorem lw_p95 : lw_okq (⟨"BoneEstateModel", "behind", "(II)I"⟩, 86) := ⟨⟨by decide +kernel, by decide +kernel⟩, List.mem_of_getElem? (i := 1422) (by decide +kernel), List.mem_of_getElem? (i := 1966) (by decide +kernel), List.mem_of_getElem? (i := 1967) (by decide +kernel)⟩
def lw_privs_6 : List (MethodName × Nat) := [(⟨"BoneEstateModel", "isHeir", "(I)Z"⟩, 86), (⟨"BoneEstateModel", "heldBy", "(II)I"⟩, 86), (⟨"BoneEstateModel", "layJoins", "(I)V"⟩, 86), (⟨"BoneEstateModel", "layNames", "(IIII)V"⟩, 86), (⟨"BoneEstateModel", "lawOf", "(I)J"⟩, 86), (⟨"BoneEstateModel", "valueOf", "(I)J"⟩, 86), (⟨"BoneEstateModel", "bounded", "(J)J"⟩, 86), (⟨"BoneEstateModel", "times", "(JJ)J"⟩, 86), (⟨"BoneEstateModel", "layHeir", "(II)V"⟩, 86), (⟨"BoneEstateModel", "may", "(III)Z"⟩, 86), (⟨"BoneEstateModel", "remember", "()V"⟩, 86), (⟨"BoneEstateModel", "put", "([II)V"⟩, 86), (⟨"BoneEstateModel", "tradesOne", "(III)Z"⟩, 86), (⟨"BoneEstateModel", "layRows", "(I)V"⟩, 86), (⟨"BoneEstateModel", "lastsOf", "(II)I"⟩, 86), (⟨"BoneEstateModel", "behind", "(II)I"⟩, 86)]
theorem lw_r6 : ∀ q ∈ lw_privs_6, lw_okq q := List.forall_mem_cons.mpr ⟨lw_p80, List.forall_mem_cons.mpr ⟨lw_p81, List.forall_mem_cons.mpr ⟨lw_p82, List.forall_mem_cons.mpr ⟨lw_p83, List.forall_mem_cons.mpr ⟨lw_p84, List.forall_mem_cons.mpr ⟨lw_p85, List.forall_mem_cons.mpr ⟨lw_p86, List.forall_mem_cons.mpr ⟨lw_p87, List.forall_mem_cons.mpr ⟨lw_p88, List.forall_mem_cons.mpr ⟨lw_p89, List.forall_mem_cons.mpr ⟨lw_p90, List.forall_mem_cons.mpr ⟨lw_p91, List.forall_mem_cons.mpr ⟨lw_p92, List.forall_mem_cons.mpr ⟨lw_p93, List.forall_mem_cons.mpr ⟨lw_p94, List.forall_mem_cons.mpr ⟨lw_p95, fun _ h => absurd h List.not_mem_nil⟩⟩⟩⟩⟩⟩⟩⟩⟩⟩⟩⟩⟩⟩⟩⟩
theorem lw_p96 : lw_okq (⟨"BoneEstateModel", "isDear", "(II)Z"⟩, 86) := ⟨⟨by decide +kernel, by decide +kernel⟩, List.mem_of_getElem? (i := 1422) (by decide +kernel), List.mem_of_getElem? (i := 1970) (by decide +kernel), List.mem_of_getElem? (i := 1971) (by decide +kernel)⟩
theorem lw_p97 : lw_okq (⟨"BoneEstateModel", "spends", "(II)V"⟩, 86) := ⟨⟨by decide +kernel, by decide +kernel⟩, List.mem_of_getElem? (i := 1422) (by decide +kernel), List.mem_of_getElem? (i := 1975) (by decide +kernel), List.mem_of_getElem? (i := 1976) (by decide +kernel)⟩
theorem lw_p98 : lw_okq (⟨"BoneEstateModel", "dayGoes", "(I)V"⟩, 86) := ⟨⟨by decide +kernel, by decide +kernel⟩, List.mem_of_getElem? (i := 1422) (by decide +kernel), List.mem_of_getElem? (i := 1983) (by decide +kernel), List.mem_of_getElem? (i := 1984) (by decide +kernel)⟩
theorem lw_p99 : lw_okq (⟨"BoneEstateModel", "drawsOne", "(II)Z"⟩, 86) := ⟨⟨by decide +kernel, by decide +kernel⟩, List.mem_of_getElem? (i := 1422) (by decide +kernel), List.mem_of_getElem? (i := 1987) (by decide +kernel), List.mem_of_getElem? (i := 1988) (by decide +kernel)⟩
theorem lw_p100 : lw_okq (⟨"BoneEstateModel", "number1", "(I)I"⟩, 86) := ⟨⟨by decide +kernel, by decide +kernel⟩, List.mem_of_getElem? (i := 1422) (by decide +kernel), List.mem_of_getElem? (i := 1991) (by decide +kernel), List.mem_of_getElem? (i := 1992) (by decide +kernel)⟩
theorem lw_p101 : lw_okq (⟨"BoneEstateModel", "layTried", "()V"⟩, 86) := ⟨⟨by decide +kernel, by decide +kernel⟩, List.mem_of_getElem? (i := 1422) (by decide +kernel), List.mem_of_getElem? (i := 2003) (by decide +kernel), List.mem_of_getElem? (i := 2004) (by decide +kernel)⟩
theorem lw_p102 : lw_okq (⟨"BoneEstateModel", "goMany", "(I)V"⟩, 86) := ⟨⟨by decide +kernel, by decide +kernel⟩, List.mem_of_getElem? (i := 1422) (by decide +kernel), List.mem_of_getElem? (i := 2007) (by decide +kernel), List.mem_of_getElem? (i := 2008) (by decide +kernel)⟩
theorem lw_p103 : lw_okq (⟨"BoneEstateModel", "laidAll", "(I)I"⟩, 86) := ⟨⟨by decide +kernel, by decide +kernel⟩, List.mem_of_getElem? (i := 1422) (by decide +kernel), List.mem_of_getElem? (i := 2011) (by decide +kernel), List.mem_of_getElem? (i := 2012) (by decide +kernel)⟩
theorem lw_p104 : lw_okq (⟨"BoneEstateModel", "layWays", "(I)V"⟩, 86) := ⟨⟨by decide +kernel, by decide +kernel⟩, List.mem_of_getElem? (i := 1422) (by decide +kernel), List.mem_of_getElem? (i := 2024) (by decide +kernel), List.mem_of_getElem? (i := 2025) (by decide +kernel)⟩
theorem lw_p105 : lw_okq (⟨"BoneEstateModel", "waysWith", "(I)I"⟩, 86) := ⟨⟨by decide +kernel, by decide +kernel⟩, List.mem_of_getElem? (i := 1422) (by decide +kernel), List.mem_of_getElem? (i := 2028) (by decide +kernel), List.mem_of_getElem? (i := 2029) (by decide +kernel)⟩
theorem lw_p106 : lw_okq (⟨"BoneEstateModel", "rowsOf", "(II)J"⟩, 86) := ⟨⟨by decide +kernel, by decide +kernel⟩, List.mem_of_getElem? (i := 1422) (by decide +kernel), List.mem_of_getElem? (i := 2032) (by decide +kernel), List.mem_of_getElem? (i := 2033) (by decide +kernel)⟩
theorem lw_p107 : lw_okq (⟨"BoneEstateModel", "isRow", "(I)Z"⟩, 86) := ⟨⟨by decide +kernel, by decide +kernel⟩, List.mem_of_getElem? (i := 1422) (by decide +kernel), List.mem_of_getElem? (i := 2052) (by decide +kernel), List.mem_of_getElem? (i := 2053) (by decide +kernel)⟩
theorem lw_p108 : lw_okq (⟨"BoneEstateModel", "isSwap", "(III)Z"⟩, 86) := ⟨⟨by decide +kernel, by decide +kernel⟩, List.mem_of_getElem? (i := 1422) (by decide +kernel), List.mem_of_getElem? (i := 2064) (by decide +kernel), List.mem_of_getElem? (i := 2065) (by decide +kernel)⟩
theorem lw_p109 : lw_okq (⟨"BoneEstateModel", "layGame", "(II)V"⟩, 86) := ⟨⟨by decide +kernel, by decide +kernel⟩, List.mem_of_getElem? (i := 1422) (by decide +kernel), List.mem_of_getElem? (i := 2084) (by decide +kernel), List.mem_of_getElem? (i := 2085) (by decide +kernel)⟩
theorem lw_p110 : lw_okq (⟨"BoneEstateModel", "endsBy", "(IIII)I"⟩, 86) := ⟨⟨by decide +kernel, by decide +kernel⟩, List.mem_of_getElem? (i := 1422) (by decide +kernel), List.mem_of_getElem? (i := 2091) (by decide +kernel), List.mem_of_getElem? (i := 2092) (by decide +kernel)⟩
theorem lw_p111 : lw_okq (⟨"BoneEstateModel", "notes1", "(IIIII)I"⟩, 86) := ⟨⟨by decide +kernel, by decide +kernel⟩, List.mem_of_getElem? (i := 1422) (by decide +kernel), List.mem_of_getElem? (i := 2109) (by decide +kernel), List.mem_of_getElem? (i := 2110) (by decide +kernel)⟩
def lw_privs_7 : List (MethodName × Nat) := [(⟨"BoneEstateModel", "isDear", "(II)Z"⟩, 86), (⟨"BoneEstateModel", "spends", "(II)V"⟩, 86), (⟨"BoneEstateModel", "dayGoes", "(I)V"⟩, 86), (⟨"BoneEstateModel", "drawsOne", "(II)Z"⟩, 86), (⟨"BoneEstateModel", "number1", "(I)I"⟩, 86), (⟨"BoneEstateModel", "layTried", "()V"⟩, 86), (⟨"BoneEstateModel", "goMany", "(I)V"⟩, 86), (⟨"BoneEstateModel", "laidAll", "(I)I"⟩, 86), (⟨"BoneEstateModel", "layWays", "(I)V"⟩, 86), (⟨"BoneEstateModel", "waysWith", "(I)I"⟩, 86), (⟨"BoneEstateModel", "rowsOf", "(II)J"⟩, 86), (⟨"BoneEstateModel", "isRow", "(I)Z"⟩, 86), (⟨"BoneEstateModel", "isSwap", "(III)Z"⟩, 86), (⟨"BoneEstateModel", "layGame", "(II)V"⟩, 86), (⟨"BoneEstateModel", "endsBy", "(IIII)I"⟩, 86), (⟨"BoneEstateModel", "notes1", "(IIIII)I"⟩, 86)]
theorem lw_r7 : ∀ q ∈ lw_privs_7, lw_okq q := List.forall_mem_cons.mpr ⟨lw_p96, List.forall_mem_cons.mpr ⟨lw_p97, List.forall_mem_cons.mpr ⟨lw_p98, List.forall_mem_cons.mpr ⟨lw_p99, List.forall_mem_cons.mpr ⟨lw_p100, List.forall_mem_cons.mpr ⟨lw_p101, List.forall_mem_cons.mpr ⟨lw_p102, List.forall_mem_cons.mpr ⟨lw_p103, List.forall_mem_cons.mpr ⟨lw_p104, List.forall_mem_cons.mpr ⟨lw_p105, List.forall_mem_cons.mpr ⟨lw_p106, List.forall_mem_cons.mpr ⟨lw_p107, List.forall_mem_cons.mpr ⟨lw_p108, List.forall_mem_cons.mpr ⟨lw_p109, List.forall_mem_cons.mpr ⟨lw_p110, List.forall_mem_cons.mpr ⟨lw_p111, fun _ h => absurd h List.not_mem_nil⟩⟩⟩⟩⟩⟩⟩⟩⟩⟩⟩⟩⟩⟩⟩⟩
theorem lw_p112 : lw_okq (⟨"BoneEstateModel", "layCounts", "()V"⟩, 86) := ⟨⟨by decide +kernel, by decide +kernel⟩, List.mem_of_getElem? (i := 1422) (by decide +kernel), List.mem_of_getElem? (i := 2129) (by decide +kernel), List.mem_of_getElem? (i := 2130) (by decide +kernel)⟩
theorem lw_p113 : lw_okq (⟨"BoneEstateModel", "knownBy", "()I"⟩, 86) := ⟨⟨by decide +kernel, by decide +kernel⟩, List.mem_of_getElem? (i := 1422) (by decide +kernel), List.mem_of_getElem? (i := 2133) (by decide +kernel), List.mem_of_getElem? (i := 2134) (by decide +kernel)⟩
theorem lw_p114 : lw_okq (⟨"BoneEstateModel", "isNoted", "(II)Z"⟩, 86) := ⟨⟨by decide +kernel, by decide +kernel⟩, List.mem_of_getElem? (i := 1422) (by decide +kernel), List.mem_of_getElem? (i := 2137) (by decide +kernel), List.mem_of_getElem? (i := 2138) (by decide +kernel)⟩
theorem lw_p115 : lw_okq (⟨"BoneEstateModel", "isTold", "(II)Z"⟩, 86) := ⟨⟨by decide +kernel, by decide +kernel⟩, List.mem_of_getElem? (i := 1422) (by decide +kernel), List.mem_of_getElem? (i := 2141) (by decide +kernel), List.mem_of_getElem? (i := 2142) (by decide +kernel)⟩
theorem lw_p116 : lw_okq (⟨"BoneEstateModel", "isBetween", "(IIII)Z"⟩, 86) := ⟨⟨by decide +kernel, by decide +kernel⟩, List.mem_of_getElem? (i := 1422) (by decide +kernel), List.mem_of_getElem? (i := 2145) (by decide +kernel), List.mem_of_getElem? (i := 2146) (by decide +kernel)⟩
theorem lw_p117 : lw_okq (⟨"BoneEstateModel", "fits", "(I)Z"⟩, 86) := ⟨⟨by decide +kernel, by decide +kernel⟩, List.mem_of_getElem? (i := 1422) (by decide +kernel), List.mem_of_getElem? (i := 2157) (by decide +kernel), List.mem_of_getElem? (i := 2158) (by decide +kernel)⟩
theorem lw_p118 : lw_okq (⟨"BoneEstateModel", "isSo", "(I)Z"⟩, 86) := ⟨⟨by decide +kernel, by decide +kernel⟩, List.mem_of_getElem? (i := 1422) (by decide +kernel), List.mem_of_getElem? (i := 2161) (by decide +kernel), List.mem_of_getElem? (i := 2162) (by decide +kernel)⟩
theorem lw_p119 : lw_okq (⟨"BoneEstateModel", "goldAll", "(I)I"⟩, 86) := ⟨⟨by decide +kernel, by decide +kernel⟩, List.mem_of_getElem? (i := 1422) (by decide +kernel), List.mem_of_getElem? (i := 2173) (by decide +kernel), List.mem_of_getElem? (i := 2174) (by decide +kernel)⟩
theorem lw_p120 : lw_okq (⟨"BoneEstateModel", "take", "([II)V"⟩, 86) := ⟨⟨by decide +kernel, by decide +kernel⟩, List.mem_of_getElem? (i := 1422) (by decide +kernel), List.mem_of_getElem? (i := 2181) (by decide +kernel), List.mem_of_getElem? (i := 2182) (by decide +kernel)⟩
def lw_privs_8 : List (MethodName × Nat) := [(⟨"BoneEstateModel", "layCounts", "()V"⟩, 86), (⟨"BoneEstateModel", "knownBy", "()I"⟩, 86), (⟨"BoneEstateModel", "isNoted", "(II)Z"⟩, 86), (⟨"BoneEstateModel", "isTold", "(II)Z"⟩, 86), (⟨"BoneEstateModel", "isBetween", "(IIII)Z"⟩, 86), (⟨"BoneEstateModel", "fits", "(I)Z"⟩, 86), (⟨"BoneEstateModel", "isSo", "(I)Z"⟩, 86), (⟨"BoneEstateModel", "goldAll", "(I)I"⟩, 86), (⟨"BoneEstateModel", "take", "([II)V"⟩, 86)]
theorem lw_r8 : ∀ q ∈ lw_privs_8, lw_okq q := List.forall_mem_cons.mpr ⟨lw_p112, List.forall_mem_cons.mpr ⟨lw_p113, List.forall_mem_cons.mpr ⟨lw_p114, List.forall_mem_cons.mpr ⟨lw_p115, List.forall_mem_cons.mpr ⟨lw_p116, List.forall_mem_cons.mpr ⟨lw_p117, List.forall_mem_cons.mpr ⟨lw_p118, List.forall_mem_cons.mpr ⟨lw_p119, List.forall_mem_cons.mpr ⟨lw_p120, fun _ h => absurd h List.not_mem_nil⟩⟩⟩⟩⟩⟩⟩⟩⟩
def lw_privs : List (MethodName × Nat) := lw_privs_1 ++ (lw_privs_2 ++ (lw_privs_3 ++ (lw_privs_4 ++ (lw_privs_5 ++ (lw_privs_6 ++ (lw_privs_7 ++ (lw_privs_8)))))))
def lw_tbl : List Cond := k2_sels lw_privs ++ tables_1
theorem lw_privs_ok : ∀ q ∈ lw_privs, lw_okq q := by
  show ∀ q ∈ lw_privs_1 ++ (lw_privs_2 ++ (lw_privs_3 ++ (lw_privs_4 ++ (lw_privs_5 ++ (lw_privs_6 ++ (lw_privs_7 ++ (lw_privs_8))))))), lw_okq q
  exact List.forall_mem_append.mpr ⟨lw_r1, List.forall_mem_append.mpr ⟨lw_r2, List.forall_mem_append.mpr ⟨lw_r3, List.forall_mem_append.mpr ⟨lw_r4, List.forall_mem_append.mpr ⟨lw_r5, List.forall_mem_append.mpr ⟨lw_r6, List.forall_mem_append.mpr ⟨lw_r7, lw_r8⟩⟩⟩⟩⟩⟩⟩
-- ===== end of PART A; then your names; then what follows =====
def RX0 : String := "BoneEstate$Course"
def TX0 : u_T := fun k => match k with
  | 0 => ("BoneEstate$Course", "plan", "LBoneEstate$Plan;", true)
  | 1 => ("BoneEstate$Course", "judge", "LBoneEstate$Judge;", true)
  | 2 => ("BoneEstate$Course", "byNumbers", "Z", false)
  | 3 => ("BoneEstate$Course", "noTrades", "Z", false)
  | 4 => ("BoneEstate$Course", "idleHeir", "I", false)
  | _ => ("BoneEstate$Course", "need", "I", false)
def tyX0 : Nat → FieldType := fun k => match k with
  | 0 => .object "BoneEstate$Plan"
  | 1 => .object "BoneEstate$Judge"
  | 2 => .boolean
  | 3 => .boolean
  | 4 => .int
  | _ => .int
abbrev wsX00 : List Cond := u_ws RX0 TX0 6
theorem nmX0 : ∀ a, a < 6 → ∀ b, b < 6 → a ≠ b → (TX0 a).2.1 ≠ (TX0 b).2.1 := by decide +kernel
theorem tyX0_ok : ∀ k, k < 6 → parseFieldDescriptor (TX0 k).2.2.1 = some (tyX0 k) := by decide +kernel
abbrev cX0_init : ByteArray := prog_2_method_1_code
def yX0_init : MethodName := ⟨RX0, "<init>", "(LBoneEstate$Plan;LBoneEstate$Judge;)V"⟩
abbrev cX0_asTold : ByteArray := prog_2_method_2_code
def yX0_asTold : MethodName := ⟨RX0, "asTold", "()V"⟩
abbrev cX0_goOn : ByteArray := prog_2_method_3_code
def yX0_goOn : MethodName := ⟨RX0, "goOn", "(LBoneEstate$Estate;I)V"⟩
abbrev cX0_canTrade : ByteArray := prog_2_method_4_code
def yX0_canTrade : MethodName := ⟨RX0, "canTrade", "(LBoneEstate$Estate;II)Z"⟩
abbrev cX0_drawOrRefuse : ByteArray := prog_2_method_5_code
def yX0_drawOrRefuse : MethodName := ⟨RX0, "drawOrRefuse", "(LBoneEstate$Estate;I)V"⟩
abbrev cX0_layRow : ByteArray := prog_2_method_6_code
def yX0_layRow : MethodName := ⟨RX0, "layRow", "(LBoneEstate$Estate;I)I"⟩
def RX1 : String := "BoneEstate$Estate"
def TX1 : u_T := fun k => match k with
  | 0 => ("BoneEstate$Estate", "share", "[I", true)
  | 1 => ("BoneEstate$Estate", "gold", "[I", true)
  | 2 => ("BoneEstate$Estate", "laid", "[I", true)
  | 3 => ("BoneEstate$Estate", "day", "I", false)
  | 4 => ("BoneEstate$Estate", "box", "I", false)
  | 5 => ("BoneEstate$Estate", "spent", "I", false)
  | 6 => ("BoneEstate$Estate", "refused", "I", false)
  | _ => ("BoneEstate$Estate", "number", "I", false)
def tyX1 : Nat → FieldType := fun k => match k with
  | 0 => .array .int
  | 1 => .array .int
  | 2 => .array .int
  | 3 => .int
  | 4 => .int
  | 5 => .int
  | 6 => .int
  | _ => .int
abbrev wsX10 : List Cond := u_ws RX1 TX1 8
theorem nmX1 : ∀ a, a < 8 → ∀ b, b < 8 → a ≠ b → (TX1 a).2.1 ≠ (TX1 b).2.1 := by decide +kernel
theorem tyX1_ok : ∀ k, k < 8 → parseFieldDescriptor (TX1 k).2.2.1 = some (tyX1 k) := by decide +kernel
abbrev cX1_init : ByteArray := prog_3_method_1_code
def yX1_init : MethodName := ⟨RX1, "<init>", "()V"⟩
abbrev cX1_begin : ByteArray := prog_3_method_2_code
def yX1_begin : MethodName := ⟨RX1, "begin", "(LBoneEstate$Plan;)V"⟩
abbrev cX1_copyFrom : ByteArray := prog_3_method_3_code
def yX1_copyFrom : MethodName := ⟨RX1, "copyFrom", "(LBoneEstate$Estate;)V"⟩
abbrev cX1_holderOf : ByteArray := prog_3_method_4_code
def yX1_holderOf : MethodName := ⟨RX1, "holderOf", "(I)I"⟩
abbrev cX1_move : ByteArray := prog_3_method_5_code
def yX1_move : MethodName := ⟨RX1, "move", "(III)V"⟩
abbrev cX1_change : ByteArray := prog_3_method_6_code
def yX1_change : MethodName := ⟨RX1, "change", "(II)V"⟩
abbrev cX1_nextNumber : ByteArray := prog_3_method_7_code
def yX1_nextNumber : MethodName := ⟨RX1, "nextNumber", "()I"⟩
abbrev cX1_goldOfAll : ByteArray := prog_3_method_8_code
def yX1_goldOfAll : MethodName := ⟨RX1, "goldOfAll", "()I"⟩
abbrev cX1_laidByAll : ByteArray := prog_3_method_9_code
def yX1_laidByAll : MethodName := ⟨RX1, "laidByAll", "()I"⟩
def RX2 : String := "BoneEstate$Game"
def TX2 : u_T := fun k => match k with
  | 0 => ("BoneEstate$Game", "plan", "LBoneEstate$Plan;", true)
  | 1 => ("BoneEstate$Game", "rowTable", "LBoneEstate$RowTable;", true)
  | 2 => ("BoneEstate$Game", "shares", "[I", true)
  | 3 => ("BoneEstate$Game", "totals", "[I", true)
  | 4 => ("BoneEstate$Game", "total", "I", false)
  | _ => ("BoneEstate$Game", "opening", "I", false)
def tyX2 : Nat → FieldType := fun k => match k with
  | 0 => .object "BoneEstate$Plan"
  | 1 => .object "BoneEstate$RowTable"
  | 2 => .array .int
  | 3 => .array .int
  | 4 => .int
  | _ => .int
abbrev wsX20 : List Cond := u_ws RX2 TX2 6
theorem nmX2 : ∀ a, a < 6 → ∀ b, b < 6 → a ≠ b → (TX2 a).2.1 ≠ (TX2 b).2.1 := by decide +kernel
theorem tyX2_ok : ∀ k, k < 6 → parseFieldDescriptor (TX2 k).2.2.1 = some (tyX2 k) := by decide +kernel
abbrev cX2_init : ByteArray := prog_4_method_1_code
def yX2_init : MethodName := ⟨RX2, "<init>", "(LBoneEstate$Plan;LBoneEstate$RowTable;)V"⟩
abbrev cX2_playOut : ByteArray := prog_4_method_2_code
def yX2_playOut : MethodName := ⟨RX2, "playOut", "(II)V"⟩
abbrev cX2_open : ByteArray := prog_4_method_3_code
def yX2_open : MethodName := ⟨RX2, "open", "(II)V"⟩
abbrev cX2_isBetter : ByteArray := prog_4_method_4_code
def yX2_isBetter : MethodName := ⟨RX2, "isBetter", "(III)Z"⟩
abbrev cX2_totalFrom : ByteArray := prog_4_method_5_code
def yX2_totalFrom : MethodName := ⟨RX2, "totalFrom", "(IIII)I"⟩
def RX3 : String := "BoneEstate$Judge"
def TX3 : u_T := fun k => match k with
  | 0 => ("BoneEstate$Judge", "plan", "LBoneEstate$Plan;", true)
  | 1 => ("BoneEstate$Judge", "rowTable", "LBoneEstate$RowTable;", true)
  | 2 => ("BoneEstate$Judge", "keptJoins", "[J", true)
  | 3 => ("BoneEstate$Judge", "keptDay", "[I", true)
  | 4 => ("BoneEstate$Judge", "exchange", "[I", true)
  | 5 => ("BoneEstate$Judge", "most", "[I", true)
  | 6 => ("BoneEstate$Judge", "allJoin", "Z", false)
  | 7 => ("BoneEstate$Judge", "allMay", "Z", false)
  | 8 => ("BoneEstate$Judge", "bestWorth", "I", false)
  | 9 => ("BoneEstate$Judge", "bestFirst", "I", false)
  | _ => ("BoneEstate$Judge", "bestLast", "I", false)
def tyX3 : Nat → FieldType := fun k => match k with
  | 0 => .object "BoneEstate$Plan"
  | 1 => .object "BoneEstate$RowTable"
  | 2 => .array .long
  | 3 => .array .int
  | 4 => .array .int
  | 5 => .array .int
  | 6 => .boolean
  | 7 => .boolean
  | 8 => .int
  | 9 => .int
  | _ => .int
abbrev wsX30 : List Cond := u_ws RX3 TX3 11
theorem nmX3 : ∀ a, a < 11 → ∀ b, b < 11 → a ≠ b → (TX3 a).2.1 ≠ (TX3 b).2.1 := by decide +kernel
theorem tyX3_ok : ∀ k, k < 11 → parseFieldDescriptor (TX3 k).2.2.1 = some (tyX3 k) := by decide +kernel
abbrev cX3_init : ByteArray := prog_5_method_1_code
def yX3_init : MethodName := ⟨RX3, "<init>", "(LBoneEstate$Plan;LBoneEstate$RowTable;)V"⟩
abbrev cX3_forget : ByteArray := prog_5_method_2_code
def yX3_forget : MethodName := ⟨RX3, "forget", "()V"⟩
abbrev cX3_joinValue : ByteArray := prog_5_method_3_code
def yX3_joinValue : MethodName := ⟨RX3, "joinValue", "(III)J"⟩
abbrev cX3_mayValue : ByteArray := prog_5_method_4_code
def yX3_mayValue : MethodName := ⟨RX3, "mayValue", "(LBoneEstate$Estate;II)J"⟩
abbrev cX3_goldValue : ByteArray := prog_5_method_5_code
def yX3_goldValue : MethodName := ⟨RX3, "goldValue", "(LBoneEstate$Estate;II)J"⟩
abbrev cX3_joinsOn : ByteArray := prog_5_method_6_code
def yX3_joinsOn : MethodName := ⟨RX3, "joinsOn", "(I)J"⟩
abbrev cX3_mayHold : ByteArray := prog_5_method_7_code
def yX3_mayHold : MethodName := ⟨RX3, "mayHold", "(LBoneEstate$Estate;II)Z"⟩
abbrev cX3_findDearest : ByteArray := prog_5_method_8_code
def yX3_findDearest : MethodName := ⟨RX3, "findDearest", "(LBoneEstate$Estate;I)Z"⟩
abbrev cX3_findExchanges : ByteArray := prog_5_method_9_code
def yX3_findExchanges : MethodName := ⟨RX3, "findExchanges", "(LBoneEstate$Estate;I)V"⟩
abbrev cX3_oneExchangeMakesRow : ByteArray := prog_5_method_10_code
def yX3_oneExchangeMakesRow : MethodName := ⟨RX3, "oneExchangeMakesRow", "(I)Z"⟩
abbrev cX3_twoExchangesMakeRow : ByteArray := prog_5_method_11_code
def yX3_twoExchangesMakeRow : MethodName := ⟨RX3, "twoExchangesMakeRow", "(I)Z"⟩
abbrev cX3_exchangeMakesRow : ByteArray := prog_5_method_12_code
def yX3_exchangeMakesRow : MethodName := ⟨RX3, "exchangeMakesRow", "(II)Z"⟩
abbrev cX3_mostRowsByBox : ByteArray := prog_5_method_13_code
def yX3_mostRowsByBox : MethodName := ⟨RX3, "mostRowsByBox", "(LBoneEstate$Estate;)I"⟩
abbrev cX3_addHeirToDeal : ByteArray := prog_5_method_14_code
def yX3_addHeirToDeal : MethodName := ⟨RX3, "addHeirToDeal", "(III)V"⟩
abbrev cX3_mostWith : ByteArray := prog_5_method_15_code
def yX3_mostWith : MethodName := ⟨RX3, "mostWith", "(III)I"⟩
def RX4 : String := "BoneEstate$Law"
def TX4 : u_T := fun k => match k with
  | 0 => ("BoneEstate$Law", "knots", "[I", true)
  | 1 => ("BoneEstate$Law", "stack", "[J", true)
  | 2 => ("BoneEstate$Law", "names", "[J", true)
  | 3 => ("BoneEstate$Law", "size", "I", false)
  | _ => ("BoneEstate$Law", "namesDay", "Z", false)
def tyX4 : Nat → FieldType := fun k => match k with
  | 0 => .array .int
  | 1 => .array .long
  | 2 => .array .long
  | 3 => .int
  | _ => .boolean
abbrev wsX40 : List Cond := u_ws RX4 TX4 5
theorem nmX4 : ∀ a, a < 5 → ∀ b, b < 5 → a ≠ b → (TX4 a).2.1 ≠ (TX4 b).2.1 := by decide +kernel
theorem tyX4_ok : ∀ k, k < 5 → parseFieldDescriptor (TX4 k).2.2.1 = some (tyX4 k) := by decide +kernel
abbrev cX4_init : ByteArray := prog_6_method_1_code
def yX4_init : MethodName := ⟨RX4, "<init>", "()V"⟩
abbrev cX4_clear : ByteArray := prog_6_method_2_code
def yX4_clear : MethodName := ⟨RX4, "clear", "()V"⟩
abbrev cX4_copyFrom : ByteArray := prog_6_method_3_code
def yX4_copyFrom : MethodName := ⟨RX4, "copyFrom", "(LBoneEstate$Law;)V"⟩
abbrev cX4_isTold : ByteArray := prog_6_method_4_code
def yX4_isTold : MethodName := ⟨RX4, "isTold", "()Z"⟩
abbrev cX4_add : ByteArray := prog_6_method_5_code
def yX4_add : MethodName := ⟨RX4, "add", "(I)V"⟩
abbrev cX4_scene : ByteArray := prog_6_method_6_code
def yX4_scene : MethodName := ⟨RX4, "scene", "(III)V"⟩
abbrev cX4_work : ByteArray := prog_6_method_7_code
def yX4_work : MethodName := ⟨RX4, "work", "(IIII)J"⟩
abbrev cX4_resultOf : ByteArray := prog_6_method_8_code
def yX4_resultOf : MethodName := ⟨RX4, "resultOf", "(IJJ)J"⟩
abbrev cX4_product : ByteArray := prog_6_method_9_code
def yX4_product : MethodName := ⟨RX4, "product", "(JJ)J"⟩
def RX5 : String := "BoneEstate$LawReader"
def TX5 : u_T := fun k => match k with
  | 0 => ("BoneEstate$LawReader", "tape", "LBoneEstate$Tape;", true)
  | 1 => ("BoneEstate$LawReader", "waiting", "[I", true)
  | 2 => ("BoneEstate$LawReader", "waitingSize", "I", false)
  | 3 => ("BoneEstate$LawReader", "open", "I", false)
  | 4 => ("BoneEstate$LawReader", "compared", "I", false)
  | 5 => ("BoneEstate$LawReader", "knotsLeft", "I", false)
  | _ => ("BoneEstate$LawReader", "law", "LBoneEstate$Law;", false)
def tyX5 : Nat → FieldType := fun k => match k with
  | 0 => .object "BoneEstate$Tape"
  | 1 => .array .int
  | 2 => .int
  | 3 => .int
  | 4 => .int
  | 5 => .int
  | _ => .object "BoneEstate$Law"
abbrev wsX50 : List Cond := u_ws RX5 TX5 7
theorem nmX5 : ∀ a, a < 7 → ∀ b, b < 7 → a ≠ b → (TX5 a).2.1 ≠ (TX5 b).2.1 := by decide +kernel
theorem tyX5_ok : ∀ k, k < 7 → parseFieldDescriptor (TX5 k).2.2.1 = some (tyX5 k) := by decide +kernel
abbrev cX5_init : ByteArray := prog_7_method_1_code
def yX5_init : MethodName := ⟨RX5, "<init>", "(LBoneEstate$Tape;)V"⟩
abbrev cX5_read : ByteArray := prog_7_method_2_code
def yX5_read : MethodName := ⟨RX5, "read", "(LBoneEstate$Law;I)I"⟩
abbrev cX5_isSign : ByteArray := prog_7_method_3_code
def yX5_isSign : MethodName := ⟨RX5, "isSign", "(I)Z"⟩
abbrev cX5_isComparison : ByteArray := prog_7_method_4_code
def yX5_isComparison : MethodName := ⟨RX5, "isComparison", "(I)Z"⟩
abbrev cX5_strengthOf : ByteArray := prog_7_method_5_code
def yX5_strengthOf : MethodName := ⟨RX5, "strengthOf", "(I)I"⟩
abbrev cX5_addValue : ByteArray := prog_7_method_6_code
def yX5_addValue : MethodName := ⟨RX5, "addValue", "(I)I"⟩
abbrev cX5_addSign : ByteArray := prog_7_method_7_code
def yX5_addSign : MethodName := ⟨RX5, "addSign", "(I)I"⟩
abbrev cX5_openParenthesis : ByteArray := prog_7_method_8_code
def yX5_openParenthesis : MethodName := ⟨RX5, "openParenthesis", "()I"⟩
abbrev cX5_closeParenthesis : ByteArray := prog_7_method_9_code
def yX5_closeParenthesis : MethodName := ⟨RX5, "closeParenthesis", "()I"⟩
abbrev cX5_finish : ByteArray := prog_7_method_10_code
def yX5_finish : MethodName := ⟨RX5, "finish", "()I"⟩
abbrev cX5_push : ByteArray := prog_7_method_11_code
def yX5_push : MethodName := ⟨RX5, "push", "(I)V"⟩
abbrev cX5_release : ByteArray := prog_7_method_12_code
def yX5_release : MethodName := ⟨RX5, "release", "(I)V"⟩
def RX6 : String := "BoneEstate$Notebook"
def TX6 : u_T := fun k => match k with
  | 0 => ("BoneEstate$Notebook", "kind", "[I", true)
  | 1 => ("BoneEstate$Notebook", "one", "[I", true)
  | 2 => ("BoneEstate$Notebook", "other", "[I", true)
  | 3 => ("BoneEstate$Notebook", "gold", "[I", true)
  | 4 => ("BoneEstate$Notebook", "so", "[Z", true)
  | 5 => ("BoneEstate$Notebook", "size", "I", false)
  | _ => ("BoneEstate$Notebook", "knownBy", "I", false)
def tyX6 : Nat → FieldType := fun k => match k with
  | 0 => .array .int
  | 1 => .array .int
  | 2 => .array .int
  | 3 => .array .int
  | 4 => .array .boolean
  | 5 => .int
  | _ => .int
abbrev wsX60 : List Cond := u_ws RX6 TX6 7
theorem nmX6 : ∀ a, a < 7 → ∀ b, b < 7 → a ≠ b → (TX6 a).2.1 ≠ (TX6 b).2.1 := by decide +kernel
theorem tyX6_ok : ∀ k, k < 7 → parseFieldDescriptor (TX6 k).2.2.1 = some (tyX6 k) := by decide +kernel
abbrev cX6_init : ByteArray := prog_8_method_1_code
def yX6_init : MethodName := ⟨RX6, "<init>", "()V"⟩
abbrev cX6_clear : ByteArray := prog_8_method_2_code
def yX6_clear : MethodName := ⟨RX6, "clear", "()V"⟩
abbrev cX6_knownSize : ByteArray := prog_8_method_3_code
def yX6_knownSize : MethodName := ⟨RX6, "knownSize", "()I"⟩
abbrev cX6_write : ByteArray := prog_8_method_4_code
def yX6_write : MethodName := ⟨RX6, "write", "(IIIIZ)I"⟩
abbrev cX6_standing : ByteArray := prog_8_method_5_code
def yX6_standing : MethodName := ⟨RX6, "standing", "()I"⟩
abbrev cX6_pairsLeft : ByteArray := prog_8_method_6_code
def yX6_pairsLeft : MethodName := ⟨RX6, "pairsLeft", "(LBoneEstate$Plan;J)J"⟩
abbrev cX6_notesAgree : ByteArray := prog_8_method_7_code
def yX6_notesAgree : MethodName := ⟨RX6, "notesAgree", "(IIIJ)Z"⟩
abbrev cX6_stands : ByteArray := prog_8_method_8_code
def yX6_stands : MethodName := ⟨RX6, "stands", "(IIIIJ)Z"⟩
abbrev cX6_lastSight : ByteArray := prog_8_method_9_code
def yX6_lastSight : MethodName := ⟨RX6, "lastSight", "(I)I"⟩
abbrev cX6_sightsAgree : ByteArray := prog_8_method_10_code
def yX6_sightsAgree : MethodName := ⟨RX6, "sightsAgree", "(IILBoneEstate$Estate;)Z"⟩
def RX7 : String := "BoneEstate$Plan"
def TX7 : u_T := fun k => match k with
  | 0 => ("BoneEstate$Plan", "pieceName", "[I", true)
  | 1 => ("BoneEstate$Plan", "first", "[I", true)
  | 2 => ("BoneEstate$Plan", "second", "[I", true)
  | 3 => ("BoneEstate$Plan", "worth", "[I", true)
  | 4 => ("BoneEstate$Plan", "heirName", "[I", true)
  | 5 => ("BoneEstate$Plan", "share", "[I", true)
  | 6 => ("BoneEstate$Plan", "tradeOne", "[I", true)
  | 7 => ("BoneEstate$Plan", "tradeOther", "[I", true)
  | 8 => ("BoneEstate$Plan", "tradeDay", "[I", true)
  | 9 => ("BoneEstate$Plan", "drawHeir", "[I", true)
  | 10 => ("BoneEstate$Plan", "drawDay", "[I", true)
  | 11 => ("BoneEstate$Plan", "laws", "[LBoneEstate$Law;", true)
  | 12 => ("BoneEstate$Plan", "pieces", "I", false)
  | 13 => ("BoneEstate$Plan", "heirs", "I", false)
  | 14 => ("BoneEstate$Plan", "trades", "I", false)
  | 15 => ("BoneEstate$Plan", "draws", "I", false)
  | 16 => ("BoneEstate$Plan", "need", "I", false)
  | _ => ("BoneEstate$Plan", "seed", "I", false)
def tyX7 : Nat → FieldType := fun k => match k with
  | 0 => .array .int
  | 1 => .array .int
  | 2 => .array .int
  | 3 => .array .int
  | 4 => .array .int
  | 5 => .array .int
  | 6 => .array .int
  | 7 => .array .int
  | 8 => .array .int
  | 9 => .array .int
  | 10 => .array .int
  | 11 => .array (.object "BoneEstate$Law")
  | 12 => .int
  | 13 => .int
  | 14 => .int
  | 15 => .int
  | 16 => .int
  | _ => .int
abbrev wsX70 : List Cond := u_ws RX7 TX7 18
theorem nmX7 : ∀ a, a < 18 → ∀ b, b < 18 → a ≠ b → (TX7 a).2.1 ≠ (TX7 b).2.1 := by decide +kernel
theorem tyX7_ok : ∀ k, k < 18 → parseFieldDescriptor (TX7 k).2.2.1 = some (tyX7 k) := by decide +kernel
abbrev cX7_init : ByteArray := prog_9_method_1_code
def yX7_init : MethodName := ⟨RX7, "<init>", "()V"⟩
abbrev cX7_clear : ByteArray := prog_9_method_2_code
def yX7_clear : MethodName := ⟨RX7, "clear", "()V"⟩
abbrev cX7_copyFrom : ByteArray := prog_9_method_3_code
def yX7_copyFrom : MethodName := ⟨RX7, "copyFrom", "(LBoneEstate$Plan;)V"⟩
abbrev cX7_needOfRow : ByteArray := prog_9_method_4_code
def yX7_needOfRow : MethodName := ⟨RX7, "needOfRow", "()I"⟩
abbrev cX7_seedOfNumbers : ByteArray := prog_9_method_5_code
def yX7_seedOfNumbers : MethodName := ⟨RX7, "seedOfNumbers", "()I"⟩
abbrev cX7_knots : ByteArray := prog_9_method_6_code
def yX7_knots : MethodName := ⟨RX7, "knots", "()I"⟩
abbrev cX7_pieceCalled : ByteArray := prog_9_method_7_code
def yX7_pieceCalled : MethodName := ⟨RX7, "pieceCalled", "(I)I"⟩
abbrev cX7_heirCalled : ByteArray := prog_9_method_8_code
def yX7_heirCalled : MethodName := ⟨RX7, "heirCalled", "(I)I"⟩
abbrev cX7_placeIn : ByteArray := prog_9_method_9_code
def yX7_placeIn : MethodName := ⟨RX7, "placeIn", "([III)I"⟩
abbrev cX7_sharedPieces : ByteArray := prog_9_method_10_code
def yX7_sharedPieces : MethodName := ⟨RX7, "sharedPieces", "()I"⟩
abbrev cX7_apart : ByteArray := prog_9_method_11_code
def yX7_apart : MethodName := ⟨RX7, "apart", "(I)I"⟩
abbrev cX7_worthOf : ByteArray := prog_9_method_12_code
def yX7_worthOf : MethodName := ⟨RX7, "worthOf", "(I)I"⟩
abbrev cX7_doublesOf : ByteArray := prog_9_method_13_code
def yX7_doublesOf : MethodName := ⟨RX7, "doublesOf", "(I)I"⟩
abbrev cX7_oddEnds : ByteArray := prog_9_method_14_code
def yX7_oddEnds : MethodName := ⟨RX7, "oddEnds", "(I)I"⟩
abbrev cX7_hangingParts : ByteArray := prog_9_method_15_code
def yX7_hangingParts : MethodName := ⟨RX7, "hangingParts", "(I)I"⟩
abbrev cX7_hangingWith : ByteArray := prog_9_method_16_code
def yX7_hangingWith : MethodName := ⟨RX7, "hangingWith", "(II)I"⟩
def RX8 : String := "BoneEstate$PlanReader"
def TX8 : u_T := fun k => match k with
  | 0 => ("BoneEstate$PlanReader", "tape", "LBoneEstate$Tape;", true)
  | 1 => ("BoneEstate$PlanReader", "lawReader", "LBoneEstate$LawReader;", true)
  | 2 => ("BoneEstate$PlanReader", "draft", "LBoneEstate$Plan;", true)
  | _ => ("BoneEstate$PlanReader", "lines", "I", false)
def tyX8 : Nat → FieldType := fun k => match k with
  | 0 => .object "BoneEstate$Tape"
  | 1 => .object "BoneEstate$LawReader"
  | 2 => .object "BoneEstate$Plan"
  | _ => .int
abbrev wsX80 : List Cond := u_ws RX8 TX8 4
theorem nmX8 : ∀ a, a < 4 → ∀ b, b < 4 → a ≠ b → (TX8 a).2.1 ≠ (TX8 b).2.1 := by decide +kernel
theorem tyX8_ok : ∀ k, k < 4 → parseFieldDescriptor (TX8 k).2.2.1 = some (tyX8 k) := by decide +kernel
abbrev cX8_init : ByteArray := prog_10_method_1_code
def yX8_init : MethodName := ⟨RX8, "<init>", "(LBoneEstate$Tape;)V"⟩
abbrev cX8_read : ByteArray := prog_10_method_2_code
def yX8_read : MethodName := ⟨RX8, "read", "(I)I"⟩
abbrev cX8_readLine : ByteArray := prog_10_method_3_code
def yX8_readLine : MethodName := ⟨RX8, "readLine", "()I"⟩
abbrev cX8_readPiece : ByteArray := prog_10_method_4_code
def yX8_readPiece : MethodName := ⟨RX8, "readPiece", "()I"⟩
abbrev cX8_readHeir : ByteArray := prog_10_method_5_code
def yX8_readHeir : MethodName := ⟨RX8, "readHeir", "()I"⟩
abbrev cX8_readShare : ByteArray := prog_10_method_6_code
def yX8_readShare : MethodName := ⟨RX8, "readShare", "()I"⟩
abbrev cX8_readTrade : ByteArray := prog_10_method_7_code
def yX8_readTrade : MethodName := ⟨RX8, "readTrade", "()I"⟩
abbrev cX8_readDraw : ByteArray := prog_10_method_8_code
def yX8_readDraw : MethodName := ⟨RX8, "readDraw", "()I"⟩
abbrev cX8_readNeed : ByteArray := prog_10_method_9_code
def yX8_readNeed : MethodName := ⟨RX8, "readNeed", "()I"⟩
abbrev cX8_readSeed : ByteArray := prog_10_method_10_code
def yX8_readSeed : MethodName := ⟨RX8, "readSeed", "()I"⟩
abbrev cX8_readLaw : ByteArray := prog_10_method_11_code
def yX8_readLaw : MethodName := ⟨RX8, "readLaw", "()I"⟩
abbrev cX8_readNewName : ByteArray := prog_10_method_12_code
def yX8_readNewName : MethodName := ⟨RX8, "readNewName", "([IIZ)I"⟩
abbrev cX8_readToldPiece : ByteArray := prog_10_method_13_code
def yX8_readToldPiece : MethodName := ⟨RX8, "readToldPiece", "()I"⟩
abbrev cX8_readToldHeir : ByteArray := prog_10_method_14_code
def yX8_readToldHeir : MethodName := ⟨RX8, "readToldHeir", "()I"⟩
abbrev cX8_readNumber : ByteArray := prog_10_method_15_code
def yX8_readNumber : MethodName := ⟨RX8, "readNumber", "([III)I"⟩
def RX9 : String := "BoneEstate$RowTable"
def TX9 : u_T := fun k => match k with
  | 0 => ("BoneEstate$RowTable", "plan", "LBoneEstate$Plan;", true)
  | 1 => ("BoneEstate$RowTable", "reach", "[J", true)
  | 2 => ("BoneEstate$RowTable", "stamp", "[I", true)
  | 3 => ("BoneEstate$RowTable", "into", "[J", true)
  | 4 => ("BoneEstate$RowTable", "ways", "[J", true)
  | 5 => ("BoneEstate$RowTable", "few", "[I", true)
  | 6 => ("BoneEstate$RowTable", "joining", "J", false)
  | _ => ("BoneEstate$RowTable", "version", "I", false)
def tyX9 : Nat → FieldType := fun k => match k with
  | 0 => .object "BoneEstate$Plan"
  | 1 => .array .long
  | 2 => .array .int
  | 3 => .array .long
  | 4 => .array .long
  | 5 => .array .int
  | 6 => .long
  | _ => .int
abbrev wsX90 : List Cond := u_ws RX9 TX9 8
theorem nmX9 : ∀ a, a < 8 → ∀ b, b < 8 → a ≠ b → (TX9 a).2.1 ≠ (TX9 b).2.1 := by decide +kernel
theorem tyX9_ok : ∀ k, k < 8 → parseFieldDescriptor (TX9 k).2.2.1 = some (tyX9 k) := by decide +kernel
abbrev cX9_init : ByteArray := prog_11_method_1_code
def yX9_init : MethodName := ⟨RX9, "<init>", "(LBoneEstate$Plan;)V"⟩
abbrev cX9_forget : ByteArray := prog_11_method_2_code
def yX9_forget : MethodName := ⟨RX9, "forget", "()V"⟩
abbrev cX9_use : ByteArray := prog_11_method_3_code
def yX9_use : MethodName := ⟨RX9, "use", "(J)V"⟩
abbrev cX9_meets : ByteArray := prog_11_method_4_code
def yX9_meets : MethodName := ⟨RX9, "meets", "(II)Z"⟩
abbrev cX9_isRow : ByteArray := prog_11_method_5_code
def yX9_isRow : MethodName := ⟨RX9, "isRow", "(I)Z"⟩
abbrev cX9_reachOf : ByteArray := prog_11_method_6_code
def yX9_reachOf : MethodName := ⟨RX9, "reachOf", "(I)J"⟩
abbrev cX9_endsOf : ByteArray := prog_11_method_7_code
def yX9_endsOf : MethodName := ⟨RX9, "endsOf", "(I)J"⟩
abbrev cX9_firstsOf : ByteArray := prog_11_method_8_code
def yX9_firstsOf : MethodName := ⟨RX9, "firstsOf", "(J)J"⟩
abbrev cX9_allRows : ByteArray := prog_11_method_9_code
def yX9_allRows : MethodName := ⟨RX9, "allRows", "(I)J"⟩
abbrev cX9_closedRows : ByteArray := prog_11_method_10_code
def yX9_closedRows : MethodName := ⟨RX9, "closedRows", "(I)J"⟩
abbrev cX9_countWays : ByteArray := prog_11_method_11_code
def yX9_countWays : MethodName := ⟨RX9, "countWays", "(II)V"⟩
abbrev cX9_countWaysOf : ByteArray := prog_11_method_12_code
def yX9_countWaysOf : MethodName := ⟨RX9, "countWaysOf", "(II)V"⟩
abbrev cX9_waysBefore : ByteArray := prog_11_method_13_code
def yX9_waysBefore : MethodName := ⟨RX9, "waysBefore", "(III)J"⟩
abbrev cX9_placeInFirst : ByteArray := prog_11_method_14_code
def yX9_placeInFirst : MethodName := ⟨RX9, "placeInFirst", "(II)I"⟩
abbrev cX9_firstBehind : ByteArray := prog_11_method_15_code
def yX9_firstBehind : MethodName := ⟨RX9, "firstBehind", "(II)I"⟩
abbrev cX9_fits : ByteArray := prog_11_method_16_code
def yX9_fits : MethodName := ⟨RX9, "fits", "(IIII)Z"⟩
abbrev cX9_fewestRows : ByteArray := prog_11_method_17_code
def yX9_fewestRows : MethodName := ⟨RX9, "fewestRows", "(I)I"⟩
abbrev cX9_fewestOf : ByteArray := prog_11_method_18_code
def yX9_fewestOf : MethodName := ⟨RX9, "fewestOf", "(I)I"⟩
abbrev cX9_setsThatMakeRow : ByteArray := prog_11_method_19_code
def yX9_setsThatMakeRow : MethodName := ⟨RX9, "setsThatMakeRow", "(III)I"⟩
def RX10 : String := "BoneEstate$Tape"
def TX10 : u_T := fun k => match k with
  | 0 => ("BoneEstate$Tape", "bytes", "[I", true)
  | 1 => ("BoneEstate$Tape", "language", "[I", true)
  | 2 => ("BoneEstate$Tape", "length", "I", false)
  | 3 => ("BoneEstate$Tape", "end", "I", false)
  | 4 => ("BoneEstate$Tape", "next", "I", false)
  | 5 => ("BoneEstate$Tape", "token", "I", false)
  | 6 => ("BoneEstate$Tape", "at", "I", false)
  | _ => ("BoneEstate$Tape", "value", "I", false)
def tyX10 : Nat → FieldType := fun k => match k with
  | 0 => .array .int
  | 1 => .array .int
  | 2 => .int
  | 3 => .int
  | 4 => .int
  | 5 => .int
  | 6 => .int
  | _ => .int
abbrev wsX100 : List Cond := u_ws RX10 TX10 8
theorem nmX10 : ∀ a, a < 8 → ∀ b, b < 8 → a ≠ b → (TX10 a).2.1 ≠ (TX10 b).2.1 := by decide +kernel
theorem tyX10_ok : ∀ k, k < 8 → parseFieldDescriptor (TX10 k).2.2.1 = some (tyX10 k) := by decide +kernel
abbrev cX10_init : ByteArray := prog_12_method_1_code
def yX10_init : MethodName := ⟨RX10, "<init>", "()V"⟩
abbrev cX10_padded : ByteArray := prog_12_method_2_code
def yX10_padded : MethodName := ⟨RX10, "padded", "(I)I"⟩
abbrev cX10_append : ByteArray := prog_12_method_3_code
def yX10_append : MethodName := ⟨RX10, "append", "(I)V"⟩
abbrev cX10_rewind : ByteArray := prog_12_method_4_code
def yX10_rewind : MethodName := ⟨RX10, "rewind", "(I)V"⟩
abbrev cX10_byteAt : ByteArray := prog_12_method_5_code
def yX10_byteAt : MethodName := ⟨RX10, "byteAt", "(I)I"⟩
abbrev cX10_advance : ByteArray := prog_12_method_6_code
def yX10_advance : MethodName := ⟨RX10, "advance", "()V"⟩
abbrev cX10_isLetter : ByteArray := prog_12_method_7_code
def yX10_isLetter : MethodName := ⟨RX10, "isLetter", "(I)Z"⟩
abbrev cX10_isDigit : ByteArray := prog_12_method_8_code
def yX10_isDigit : MethodName := ⟨RX10, "isDigit", "(I)Z"⟩
abbrev cX10_readWord : ByteArray := prog_12_method_9_code
def yX10_readWord : MethodName := ⟨RX10, "readWord", "()V"⟩
abbrev cX10_wordToken : ByteArray := prog_12_method_10_code
def yX10_wordToken : MethodName := ⟨RX10, "wordToken", "()I"⟩
abbrev cX10_readNumber : ByteArray := prog_12_method_11_code
def yX10_readNumber : MethodName := ⟨RX10, "readNumber", "()V"⟩
abbrev cX10_readSign : ByteArray := prog_12_method_12_code
def yX10_readSign : MethodName := ⟨RX10, "readSign", "()V"⟩
abbrev cX10_signToken : ByteArray := prog_12_method_13_code
def yX10_signToken : MethodName := ⟨RX10, "signToken", "(I)I"⟩
def RX11 : String := "BoneEstate"
def TX11 : u_T := fun k => match k with
  | 0 => ("BoneEstate", "tape", "LBoneEstate$Tape;", true)
  | 1 => ("BoneEstate", "plan", "LBoneEstate$Plan;", true)
  | 2 => ("BoneEstate", "reader", "LBoneEstate$PlanReader;", true)
  | 3 => ("BoneEstate", "rowTable", "LBoneEstate$RowTable;", true)
  | 4 => ("BoneEstate", "judge", "LBoneEstate$Judge;", true)
  | 5 => ("BoneEstate", "course", "LBoneEstate$Course;", true)
  | 6 => ("BoneEstate", "table", "LBoneEstate$Game;", true)
  | 7 => ("BoneEstate", "notes", "LBoneEstate$Notebook;", true)
  | 8 => ("BoneEstate", "now", "LBoneEstate$Estate;", true)
  | 9 => ("BoneEstate", "trial", "LBoneEstate$Estate;", true)
  | 10 => ("BoneEstate", "image", "LBoneEstate$Estate;", true)
  | 11 => ("BoneEstate", "past", "[LBoneEstate$Estate;", true)
  | 12 => ("BoneEstate", "pastEnd", "I", false)
  | 13 => ("BoneEstate", "pastSize", "I", false)
  | 14 => ("BoneEstate", "hasImage", "Z", false)
  | 15 => ("BoneEstate", "faultFound", "I", false)
  | _ => ("BoneEstate", "faultPlace", "I", false)
def tyX11 : Nat → FieldType := fun k => match k with
  | 0 => .object "BoneEstate$Tape"
  | 1 => .object "BoneEstate$Plan"
  | 2 => .object "BoneEstate$PlanReader"
  | 3 => .object "BoneEstate$RowTable"
  | 4 => .object "BoneEstate$Judge"
  | 5 => .object "BoneEstate$Course"
  | 6 => .object "BoneEstate$Game"
  | 7 => .object "BoneEstate$Notebook"
  | 8 => .object "BoneEstate$Estate"
  | 9 => .object "BoneEstate$Estate"
  | 10 => .object "BoneEstate$Estate"
  | 11 => .array (.object "BoneEstate$Estate")
  | 12 => .int
  | 13 => .int
  | 14 => .boolean
  | 15 => .int
  | _ => .int
abbrev wsX110 : List Cond := u_ws RX11 TX11 17
theorem nmX11 : ∀ a, a < 17 → ∀ b, b < 17 → a ≠ b → (TX11 a).2.1 ≠ (TX11 b).2.1 := by decide +kernel
theorem tyX11_ok : ∀ k, k < 17 → parseFieldDescriptor (TX11 k).2.2.1 = some (tyX11 k) := by decide +kernel
abbrev cX11_init : ByteArray := prog_1_method_1_code
def yX11_init : MethodName := ⟨RX11, "<init>", "()V"⟩
abbrev cX11_feed : ByteArray := prog_1_method_2_code
def yX11_feed : MethodName := ⟨RX11, "feed", "(IIIII)I"⟩
abbrev cX11_text : ByteArray := prog_1_method_3_code
def yX11_text : MethodName := ⟨RX11, "text", "(I)I"⟩
abbrev cX11_fault : ByteArray := prog_1_method_4_code
def yX11_fault : MethodName := ⟨RX11, "fault", "(I)I"⟩
abbrev cX11_named : ByteArray := prog_1_method_5_code
def yX11_named : MethodName := ⟨RX11, "named", "(II)I"⟩
abbrev cX11_piece : ByteArray := prog_1_method_6_code
def yX11_piece : MethodName := ⟨RX11, "piece", "(II)I"⟩
abbrev cX11_heir : ByteArray := prog_1_method_7_code
def yX11_heir : MethodName := ⟨RX11, "heir", "(II)I"⟩
abbrev cX11_joins : ByteArray := prog_1_method_8_code
def yX11_joins : MethodName := ⟨RX11, "joins", "(II)I"⟩
abbrev cX11_law : ByteArray := prog_1_method_9_code
def yX11_law : MethodName := ⟨RX11, "law", "(III)J"⟩
abbrev cX11_give : ByteArray := prog_1_method_10_code
def yX11_give : MethodName := ⟨RX11, "give", "(II)Z"⟩
abbrev cX11_trade : ByteArray := prog_1_method_11_code
def yX11_trade : MethodName := ⟨RX11, "trade", "(II)Z"⟩
abbrev cX11_lay : ByteArray := prog_1_method_12_code
def yX11_lay : MethodName := ⟨RX11, "lay", "(I)I"⟩
abbrev cX11_go : ByteArray := prog_1_method_13_code
def yX11_go : MethodName := ⟨RX11, "go", "(I)I"⟩
abbrev cX11_ahead : ByteArray := prog_1_method_14_code
def yX11_ahead : MethodName := ⟨RX11, "ahead", "(III)I"⟩
abbrev cX11_lays : ByteArray := prog_1_method_15_code
def yX11_lays : MethodName := ⟨RX11, "lays", "(I)I"⟩
abbrev cX11_rows : ByteArray := prog_1_method_16_code
def yX11_rows : MethodName := ⟨RX11, "rows", "(I)J"⟩
abbrev cX11_firstRow : ByteArray := prog_1_method_17_code
def yX11_firstRow : MethodName := ⟨RX11, "firstRow", "(II)I"⟩
abbrev cX11_dearest : ByteArray := prog_1_method_18_code
def yX11_dearest : MethodName := ⟨RX11, "dearest", "(II)I"⟩
abbrev cX11_closed : ByteArray := prog_1_method_19_code
def yX11_closed : MethodName := ⟨RX11, "closed", "(I)J"⟩
abbrev cX11_fewest : ByteArray := prog_1_method_20_code
def yX11_fewest : MethodName := ⟨RX11, "fewest", "(I)I"⟩
abbrev cX11_shape : ByteArray := prog_1_method_21_code
def yX11_shape : MethodName := ⟨RX11, "shape", "(II)I"⟩
abbrev cX11_swaps : ByteArray := prog_1_method_22_code
def yX11_swaps : MethodName := ⟨RX11, "swaps", "(I)I"⟩
abbrev cX11_lacks : ByteArray := prog_1_method_23_code
def yX11_lacks : MethodName := ⟨RX11, "lacks", "(I)I"⟩
abbrev cX11_tooMany : ByteArray := prog_1_method_24_code
def yX11_tooMany : MethodName := ⟨RX11, "tooMany", "(I)I"⟩
abbrev cX11_deal : ByteArray := prog_1_method_25_code
def yX11_deal : MethodName := ⟨RX11, "deal", "()I"⟩
abbrev cX11_game : ByteArray := prog_1_method_26_code
def yX11_game : MethodName := ⟨RX11, "game", "(III)I"⟩
abbrev cX11_likely : ByteArray := prog_1_method_27_code
def yX11_likely : MethodName := ⟨RX11, "likely", "(III)I"⟩
abbrev cX11_note : ByteArray := prog_1_method_28_code
def yX11_note : MethodName := ⟨RX11, "note", "(IIIZ)I"⟩
abbrev cX11_see : ByteArray := prog_1_method_29_code
def yX11_see : MethodName := ⟨RX11, "see", "(IIIZ)I"⟩
abbrev cX11_strike : ByteArray := prog_1_method_30_code
def yX11_strike : MethodName := ⟨RX11, "strike", "(I)I"⟩
abbrev cX11_known : ByteArray := prog_1_method_31_code
def yX11_known : MethodName := ⟨RX11, "known", "(I)Z"⟩
abbrev cX11_missing : ByteArray := prog_1_method_32_code
def yX11_missing : MethodName := ⟨RX11, "missing", "(I)I"⟩
abbrev cX11_ask : ByteArray := prog_1_method_33_code
def yX11_ask : MethodName := ⟨RX11, "ask", "(I)I"⟩
abbrev cX11_needs : ByteArray := prog_1_method_34_code
def yX11_needs : MethodName := ⟨RX11, "needs", "()I"⟩
abbrev cX11_chance : ByteArray := prog_1_method_35_code
def yX11_chance : MethodName := ⟨RX11, "chance", "(IIII)I"⟩
abbrev cX11_tried : ByteArray := prog_1_method_36_code
def yX11_tried : MethodName := ⟨RX11, "tried", "(III)I"⟩
abbrev cX11_undo : ByteArray := prog_1_method_37_code
def yX11_undo : MethodName := ⟨RX11, "undo", "()I"⟩
abbrev cX11_keep : ByteArray := prog_1_method_38_code
def yX11_keep : MethodName := ⟨RX11, "keep", "()I"⟩
abbrev cX11_back : ByteArray := prog_1_method_39_code
def yX11_back : MethodName := ⟨RX11, "back", "()I"⟩
abbrev cX11_count : ByteArray := prog_1_method_40_code
def yX11_count : MethodName := ⟨RX11, "count", "(I)I"⟩
abbrev cX11_isPiece : ByteArray := prog_1_method_41_code
def yX11_isPiece : MethodName := ⟨RX11, "isPiece", "(I)Z"⟩
abbrev cX11_isHeir : ByteArray := prog_1_method_42_code
def yX11_isHeir : MethodName := ⟨RX11, "isHeir", "(I)Z"⟩
abbrev cX11_isEnd : ByteArray := prog_1_method_43_code
def yX11_isEnd : MethodName := ⟨RX11, "isEnd", "(I)Z"⟩
abbrev cX11_isSpan : ByteArray := prog_1_method_44_code
def yX11_isSpan : MethodName := ⟨RX11, "isSpan", "(I)Z"⟩
abbrev cX11_isGold : ByteArray := prog_1_method_45_code
def yX11_isGold : MethodName := ⟨RX11, "isGold", "(I)Z"⟩
abbrev cX11_joinAsNow : ByteArray := prog_1_method_46_code
def yX11_joinAsNow : MethodName := ⟨RX11, "joinAsNow", "()V"⟩
abbrev cX11_remember : ByteArray := prog_1_method_47_code
def yX11_remember : MethodName := ⟨RX11, "remember", "()V"⟩
abbrev cX11_setsOf : ByteArray := prog_1_method_48_code
def yX11_setsOf : MethodName := ⟨RX11, "setsOf", "(II)I"⟩
abbrev cX11_commonDivisor : ByteArray := prog_1_method_49_code
def yX11_commonDivisor : MethodName := ⟨RX11, "commonDivisor", "(II)I"⟩
abbrev cX11_pairsWith : ByteArray := prog_1_method_50_code
def yX11_pairsWith : MethodName := ⟨RX11, "pairsWith", "(I)J"⟩
def RX12 : String := "BoneEstateModel"
def TX12 : u_T := fun k => match k with
  | 0 => ("BoneEstateModel", "tape", "[I", true)
  | 1 => ("BoneEstateModel", "tapeSize", "I", false)
  | 2 => ("BoneEstateModel", "thrown", "I", false)
  | 3 => ("BoneEstateModel", "words", "[I", true)
  | 4 => ("BoneEstateModel", "fault", "I", false)
  | 5 => ("BoneEstateModel", "faultPlace", "I", false)
  | 6 => ("BoneEstateModel", "stop", "I", false)
  | 7 => ("BoneEstateModel", "next", "I", false)
  | 8 => ("BoneEstateModel", "kind", "I", false)
  | 9 => ("BoneEstateModel", "which", "I", false)
  | 10 => ("BoneEstateModel", "at", "I", false)
  | 11 => ("BoneEstateModel", "got", "I", false)
  | 12 => ("BoneEstateModel", "pieces", "I", false)
  | 13 => ("BoneEstateModel", "heirs", "I", false)
  | 14 => ("BoneEstateModel", "trades", "I", false)
  | 15 => ("BoneEstateModel", "draws1", "I", false)
  | 16 => ("BoneEstateModel", "knots", "I", false)
  | 17 => ("BoneEstateModel", "piecesRead", "I", false)
  | 18 => ("BoneEstateModel", "heirsRead", "I", false)
  | 19 => ("BoneEstateModel", "tradesRead", "I", false)
  | 20 => ("BoneEstateModel", "drawsRead", "I", false)
  | 21 => ("BoneEstateModel", "knotsRead", "I", false)
  | 22 => ("BoneEstateModel", "onceTold", "[Z", true)
  | 23 => ("BoneEstateModel", "once", "[I", true)
  | 24 => ("BoneEstateModel", "pieceName", "[I", true)
  | 25 => ("BoneEstateModel", "pieceOne", "[I", true)
  | 26 => ("BoneEstateModel", "pieceOther", "[I", true)
  | 27 => ("BoneEstateModel", "pieceWorth", "[I", true)
  | 28 => ("BoneEstateModel", "pieceOf", "[I", true)
  | 29 => ("BoneEstateModel", "heirName", "[I", true)
  | 30 => ("BoneEstateModel", "tradeOne", "[I", true)
  | 31 => ("BoneEstateModel", "tradeOther", "[I", true)
  | 32 => ("BoneEstateModel", "tradeAt", "[I", true)
  | 33 => ("BoneEstateModel", "drawWho", "[I", true)
  | 34 => ("BoneEstateModel", "drawAt", "[I", true)
  | 35 => ("BoneEstateModel", "lawTold", "[Z", true)
  | 36 => ("BoneEstateModel", "first", "[I", true)
  | 37 => ("BoneEstateModel", "last", "[I", true)
  | 38 => ("BoneEstateModel", "knot", "[I", true)
  | 39 => ("BoneEstateModel", "part", "[I", true)
  | 40 => ("BoneEstateModel", "other", "[I", true)
  | 41 => ("BoneEstateModel", "wait", "[I", true)
  | 42 => ("BoneEstateModel", "held", "[I", true)
  | 43 => ("BoneEstateModel", "waits", "I", false)
  | 44 => ("BoneEstateModel", "helds", "I", false)
  | 45 => ("BoneEstateModel", "brackets", "I", false)
  | 46 => ("BoneEstateModel", "counted", "I", false)
  | 47 => ("BoneEstateModel", "wants", "Z", false)
  | 48 => ("BoneEstateModel", "mayNot", "Z", false)
  | 49 => ("BoneEstateModel", "names", "[J", true)
  | 50 => ("BoneEstateModel", "value", "[J", true)
  | 51 => ("BoneEstateModel", "isError", "Z", false)
  | 52 => ("BoneEstateModel", "holder", "[I", true)
  | 53 => ("BoneEstateModel", "gold", "[I", true)
  | 54 => ("BoneEstateModel", "laid", "[I", true)
  | 55 => ("BoneEstateModel", "refused", "[I", true)
  | 56 => ("BoneEstateModel", "day", "[I", true)
  | 57 => ("BoneEstateModel", "drawn", "J", false)
  | 58 => ("BoneEstateModel", "draws", "Z", false)
  | 59 => ("BoneEstateModel", "noTrades", "Z", false)
  | 60 => ("BoneEstateModel", "allJoin", "Z", false)
  | 61 => ("BoneEstateModel", "allMay", "Z", false)
  | 62 => ("BoneEstateModel", "idle", "I", false)
  | 63 => ("BoneEstateModel", "needBy", "I", false)
  | 64 => ("BoneEstateModel", "layers", "I", false)
  | 65 => ("BoneEstateModel", "joined", "[I", true)
  | 66 => ("BoneEstateModel", "lasts", "[I", true)
  | 67 => ("BoneEstateModel", "laidBy", "[I", true)
  | 68 => ("BoneEstateModel", "areLaid", "Z", false)
  | 69 => ("BoneEstateModel", "dear", "I", false)
  | 70 => ("BoneEstateModel", "dearFirst", "I", false)
  | 71 => ("BoneEstateModel", "dearLast", "I", false)
  | 72 => ("BoneEstateModel", "ways", "[J", true)
  | 73 => ("BoneEstateModel", "parts", "[I", true)
  | 74 => ("BoneEstateModel", "ending", "[I", true)
  | 75 => ("BoneEstateModel", "notedMany", "I", false)
  | 76 => ("BoneEstateModel", "knownTold", "I", false)
  | 77 => ("BoneEstateModel", "noted1", "[I", true)
  | 78 => ("BoneEstateModel", "counts", "[Z", true)
  | 79 => ("BoneEstateModel", "undos", "I", false)
  | 80 => ("BoneEstateModel", "undo", "[I", true)
  | 81 => ("BoneEstateModel", "hasImage", "Z", false)
  | 82 => ("BoneEstateModel", "image", "[I", true)
  | 83 => ("BoneEstateModel", "imageRefused", "I", false)
  | 84 => ("BoneEstateModel", "imageDay", "I", false)
  | _ => ("BoneEstateModel", "imageDrawn", "J", false)
def tyX12 : Nat → FieldType := fun k => match k with
  | 0 => .array .int
  | 1 => .int
  | 2 => .int
  | 3 => .array .int
  | 4 => .int
  | 5 => .int
  | 6 => .int
  | 7 => .int
  | 8 => .int
  | 9 => .int
  | 10 => .int
  | 11 => .int
  | 12 => .int
  | 13 => .int
  | 14 => .int
  | 15 => .int
  | 16 => .int
  | 17 => .int
  | 18 => .int
  | 19 => .int
  | 20 => .int
  | 21 => .int
  | 22 => .array .boolean
  | 23 => .array .int
  | 24 => .array .int
  | 25 => .array .int
  | 26 => .array .int
  | 27 => .array .int
  | 28 => .array .int
  | 29 => .array .int
  | 30 => .array .int
  | 31 => .array .int
  | 32 => .array .int
  | 33 => .array .int
  | 34 => .array .int
  | 35 => .array .boolean
  | 36 => .array .int
  | 37 => .array .int
  | 38 => .array .int
  | 39 => .array .int
  | 40 => .array .int
  | 41 => .array .int
  | 42 => .array .int
  | 43 => .int
  | 44 => .int
  | 45 => .int
  | 46 => .int
  | 47 => .boolean
  | 48 => .boolean
  | 49 => .array .long
  | 50 => .array .long
  | 51 => .boolean
  | 52 => .array .int
  | 53 => .array .int
  | 54 => .array .int
  | 55 => .array .int
  | 56 => .array .int
  | 57 => .long
  | 58 => .boolean
  | 59 => .boolean
  | 60 => .boolean
  | 61 => .boolean
  | 62 => .int
  | 63 => .int
  | 64 => .int
  | 65 => .array .int
  | 66 => .array .int
  | 67 => .array .int
  | 68 => .boolean
  | 69 => .int
  | 70 => .int
  | 71 => .int
  | 72 => .array .long
  | 73 => .array .int
  | 74 => .array .int
  | 75 => .int
  | 76 => .int
  | 77 => .array .int
  | 78 => .array .boolean
  | 79 => .int
  | 80 => .array .int
  | 81 => .boolean
  | 82 => .array .int
  | 83 => .int
  | 84 => .int
  | _ => .long
abbrev wsX120 : List Cond := u_ws RX12 TX12 86
theorem nmX12 : ∀ a, a < 86 → ∀ b, b < 86 → a ≠ b → (TX12 a).2.1 ≠ (TX12 b).2.1 := by decide +kernel
theorem tyX12_ok : ∀ k, k < 86 → parseFieldDescriptor (TX12 k).2.2.1 = some (tyX12 k) := by decide +kernel
abbrev cX12_init : ByteArray := prog_14_method_1_code
def yX12_init : MethodName := ⟨RX12, "<init>", "()V"⟩
abbrev cX12_thrown : ByteArray := prog_14_method_2_code
def yX12_thrown : MethodName := ⟨RX12, "thrown", "()I"⟩
abbrev cX12_feed : ByteArray := prog_14_method_3_code
def yX12_feed : MethodName := ⟨RX12, "feed", "(IIIII)I"⟩
abbrev cX12_isIn : ByteArray := prog_14_method_4_code
def yX12_isIn : MethodName := ⟨RX12, "isIn", "(III)Z"⟩
abbrev cX12_isOf : ByteArray := prog_14_method_5_code
def yX12_isOf : MethodName := ⟨RX12, "isOf", "(II)Z"⟩
abbrev cX12_wrong : ByteArray := prog_14_method_6_code
def yX12_wrong : MethodName := ⟨RX12, "wrong", "(I)Z"⟩
abbrev cX12_wordAt : ByteArray := prog_14_method_7_code
def yX12_wordAt : MethodName := ⟨RX12, "wordAt", "(II)I"⟩
abbrev cX12_isSmall : ByteArray := prog_14_method_8_code
def yX12_isSmall : MethodName := ⟨RX12, "isSmall", "(I)Z"⟩
abbrev cX12_isDigit : ByteArray := prog_14_method_9_code
def yX12_isDigit : MethodName := ⟨RX12, "isDigit", "(I)Z"⟩
abbrev cX12_token : ByteArray := prog_14_method_10_code
def yX12_token : MethodName := ⟨RX12, "token", "()V"⟩
abbrev cX12_signToken : ByteArray := prog_14_method_11_code
def yX12_signToken : MethodName := ⟨RX12, "signToken", "()V"⟩
abbrev cX12_packed : ByteArray := prog_14_method_12_code
def yX12_packed : MethodName := ⟨RX12, "packed", "(II)I"⟩
abbrev cX12_isKey : ByteArray := prog_14_method_13_code
def yX12_isKey : MethodName := ⟨RX12, "isKey", "(I)Z"⟩
abbrev cX12_isSign : ByteArray := prog_14_method_14_code
def yX12_isSign : MethodName := ⟨RX12, "isSign", "(I)Z"⟩
abbrev cX12_number : ByteArray := prog_14_method_15_code
def yX12_number : MethodName := ⟨RX12, "number", "(II)Z"⟩
abbrev cX12_plain : ByteArray := prog_14_method_17_code
def yX12_plain : MethodName := ⟨RX12, "plain", "()V"⟩
abbrev cX12_copies : ByteArray := prog_14_method_18_code
def yX12_copies : MethodName := ⟨RX12, "copies", "([II)V"⟩
abbrev cX12_keepText : ByteArray := prog_14_method_19_code
def yX12_keepText : MethodName := ⟨RX12, "keepText", "()V"⟩
abbrev cX12_find : ByteArray := prog_14_method_20_code
def yX12_find : MethodName := ⟨RX12, "find", "([IIII)I"⟩
abbrev cX12_newName : ByteArray := prog_14_method_21_code
def yX12_newName : MethodName := ⟨RX12, "newName", "([III)Z"⟩
abbrev cX12_thereIn : ByteArray := prog_14_method_22_code
def yX12_thereIn : MethodName := ⟨RX12, "thereIn", "([III)Z"⟩
abbrev cX12_pieceLine : ByteArray := prog_14_method_23_code
def yX12_pieceLine : MethodName := ⟨RX12, "pieceLine", "()Z"⟩
abbrev cX12_heirLine : ByteArray := prog_14_method_24_code
def yX12_heirLine : MethodName := ⟨RX12, "heirLine", "()Z"⟩
abbrev cX12_shareLine : ByteArray := prog_14_method_25_code
def yX12_shareLine : MethodName := ⟨RX12, "shareLine", "()Z"⟩
abbrev cX12_tradeLine : ByteArray := prog_14_method_26_code
def yX12_tradeLine : MethodName := ⟨RX12, "tradeLine", "()Z"⟩
abbrev cX12_drawLine : ByteArray := prog_14_method_27_code
def yX12_drawLine : MethodName := ⟨RX12, "drawLine", "()Z"⟩
abbrev cX12_onceLine : ByteArray := prog_14_method_28_code
def yX12_onceLine : MethodName := ⟨RX12, "onceLine", "(III)Z"⟩
abbrev cX12_lineRead : ByteArray := prog_14_method_29_code
def yX12_lineRead : MethodName := ⟨RX12, "lineRead", "()Z"⟩
abbrev cX12_text : ByteArray := prog_14_method_30_code
def yX12_text : MethodName := ⟨RX12, "text", "(I)I"⟩
abbrev cX12_fault : ByteArray := prog_14_method_31_code
def yX12_fault : MethodName := ⟨RX12, "fault", "(I)I"⟩
abbrev cX12_named : ByteArray := prog_14_method_32_code
def yX12_named : MethodName := ⟨RX12, "named", "(II)I"⟩
abbrev cX12_rank : ByteArray := prog_14_method_33_code
def yX12_rank : MethodName := ⟨RX12, "rank", "(I)I"⟩
abbrev cX12_grown : ByteArray := prog_14_method_34_code
def yX12_grown : MethodName := ⟨RX12, "grown", "(III)V"⟩
abbrev cX12_dropHeld : ByteArray := prog_14_method_35_code
def yX12_dropHeld : MethodName := ⟨RX12, "dropHeld", "()I"⟩
abbrev cX12_bind : ByteArray := prog_14_method_36_code
def yX12_bind : MethodName := ⟨RX12, "bind", "(I)V"⟩
abbrev cX12_isCounted : ByteArray := prog_14_method_37_code
def yX12_isCounted : MethodName := ⟨RX12, "isCounted", "()Z"⟩
abbrev cX12_waitsFor : ByteArray := prog_14_method_38_code
def yX12_waitsFor : MethodName := ⟨RX12, "waitsFor", "(I)V"⟩
abbrev cX12_nameMet : ByteArray := prog_14_method_39_code
def yX12_nameMet : MethodName := ⟨RX12, "nameMet", "()I"⟩
abbrev cX12_leafRead : ByteArray := prog_14_method_40_code
def yX12_leafRead : MethodName := ⟨RX12, "leafRead", "()Z"⟩
abbrev cX12_signs : ByteArray := prog_14_method_41_code
def yX12_signs : MethodName := ⟨RX12, "signs", "()Z"⟩
abbrev cX12_sumRead : ByteArray := prog_14_method_42_code
def yX12_sumRead : MethodName := ⟨RX12, "sumRead", "()Z"⟩
abbrev cX12_bounded : ByteArray := prog_14_method_43_code
def yX12_bounded : MethodName := ⟨RX12, "bounded", "(J)J"⟩
abbrev cX12_compares : ByteArray := prog_14_method_44_code
def yX12_compares : MethodName := ⟨RX12, "compares", "(IJJ)Z"⟩
abbrev cX12_times : ByteArray := prog_14_method_45_code
def yX12_times : MethodName := ⟨RX12, "times", "(JJ)J"⟩
abbrev cX12_valueOf : ByteArray := prog_14_method_46_code
def yX12_valueOf : MethodName := ⟨RX12, "valueOf", "(I)J"⟩
abbrev cX12_begin : ByteArray := prog_14_method_47_code
def yX12_begin : MethodName := ⟨RX12, "begin", "()V"⟩
abbrev cX12_atFirst : ByteArray := prog_14_method_48_code
def yX12_atFirst : MethodName := ⟨RX12, "atFirst", "(I)V"⟩
abbrev cX12_plainTried : ByteArray := prog_14_method_49_code
def yX12_plainTried : MethodName := ⟨RX12, "plainTried", "()V"⟩
abbrev cX12_layTried : ByteArray := prog_14_method_50_code
def yX12_layTried : MethodName := ⟨RX12, "layTried", "()V"⟩
abbrev cX12_isPiece : ByteArray := prog_14_method_51_code
def yX12_isPiece : MethodName := ⟨RX12, "isPiece", "(I)Z"⟩
abbrev cX12_isHeir : ByteArray := prog_14_method_52_code
def yX12_isHeir : MethodName := ⟨RX12, "isHeir", "(I)Z"⟩
abbrev cX12_isEnd : ByteArray := prog_14_method_53_code
def yX12_isEnd : MethodName := ⟨RX12, "isEnd", "(I)Z"⟩
abbrev cX12_manyOf : ByteArray := prog_14_method_54_code
def yX12_manyOf : MethodName := ⟨RX12, "manyOf", "(I)I"⟩
abbrev cX12_heldBy : ByteArray := prog_14_method_55_code
def yX12_heldBy : MethodName := ⟨RX12, "heldBy", "(II)I"⟩
abbrev cX12_layNames : ByteArray := prog_14_method_56_code
def yX12_layNames : MethodName := ⟨RX12, "layNames", "(IIII)V"⟩
abbrev cX12_layHeir : ByteArray := prog_14_method_57_code
def yX12_layHeir : MethodName := ⟨RX12, "layHeir", "(II)V"⟩
abbrev cX12_lawOf : ByteArray := prog_14_method_58_code
def yX12_lawOf : MethodName := ⟨RX12, "lawOf", "(I)J"⟩
abbrev cX12_apartOf : ByteArray := prog_14_method_59_code
def yX12_apartOf : MethodName := ⟨RX12, "apartOf", "(II)I"⟩
abbrev cX12_layJoins : ByteArray := prog_14_method_60_code
def yX12_layJoins : MethodName := ⟨RX12, "layJoins", "(I)V"⟩
abbrev cX12_behind : ByteArray := prog_14_method_61_code
def yX12_behind : MethodName := ⟨RX12, "behind", "(II)I"⟩
abbrev cX12_lastsOf : ByteArray := prog_14_method_62_code
def yX12_lastsOf : MethodName := ⟨RX12, "lastsOf", "(II)I"⟩
abbrev cX12_layRows : ByteArray := prog_14_method_63_code
def yX12_layRows : MethodName := ⟨RX12, "layRows", "(I)V"⟩
abbrev cX12_isRow : ByteArray := prog_14_method_64_code
def yX12_isRow : MethodName := ⟨RX12, "isRow", "(I)Z"⟩
abbrev cX12_isDear : ByteArray := prog_14_method_65_code
def yX12_isDear : MethodName := ⟨RX12, "isDear", "(II)Z"⟩
abbrev cX12_may : ByteArray := prog_14_method_66_code
def yX12_may : MethodName := ⟨RX12, "may", "(III)Z"⟩
abbrev cX12_number1 : ByteArray := prog_14_method_67_code
def yX12_number1 : MethodName := ⟨RX12, "number1", "(I)I"⟩
abbrev cX12_tradesOne : ByteArray := prog_14_method_68_code
def yX12_tradesOne : MethodName := ⟨RX12, "tradesOne", "(III)Z"⟩
abbrev cX12_drawsOne : ByteArray := prog_14_method_69_code
def yX12_drawsOne : MethodName := ⟨RX12, "drawsOne", "(II)Z"⟩
abbrev cX12_spends : ByteArray := prog_14_method_70_code
def yX12_spends : MethodName := ⟨RX12, "spends", "(II)V"⟩
abbrev cX12_dayGoes : ByteArray := prog_14_method_71_code
def yX12_dayGoes : MethodName := ⟨RX12, "dayGoes", "(I)V"⟩
abbrev cX12_goMany : ByteArray := prog_14_method_72_code
def yX12_goMany : MethodName := ⟨RX12, "goMany", "(I)V"⟩
abbrev cX12_goldAll : ByteArray := prog_14_method_73_code
def yX12_goldAll : MethodName := ⟨RX12, "goldAll", "(I)I"⟩
abbrev cX12_laidAll : ByteArray := prog_14_method_74_code
def yX12_laidAll : MethodName := ⟨RX12, "laidAll", "(I)I"⟩
abbrev cX12_fails : ByteArray := prog_14_method_75_code
def yX12_fails : MethodName := ⟨RX12, "fails", "(I)I"⟩
abbrev cX12_piece : ByteArray := prog_14_method_76_code
def yX12_piece : MethodName := ⟨RX12, "piece", "(II)I"⟩
abbrev cX12_heir : ByteArray := prog_14_method_77_code
def yX12_heir : MethodName := ⟨RX12, "heir", "(II)I"⟩
abbrev cX12_joins : ByteArray := prog_14_method_78_code
def yX12_joins : MethodName := ⟨RX12, "joins", "(II)I"⟩
abbrev cX12_law : ByteArray := prog_14_method_79_code
def yX12_law : MethodName := ⟨RX12, "law", "(III)J"⟩
abbrev cX12_give : ByteArray := prog_14_method_80_code
def yX12_give : MethodName := ⟨RX12, "give", "(II)Z"⟩
abbrev cX12_trade : ByteArray := prog_14_method_81_code
def yX12_trade : MethodName := ⟨RX12, "trade", "(II)Z"⟩
abbrev cX12_lay : ByteArray := prog_14_method_82_code
def yX12_lay : MethodName := ⟨RX12, "lay", "(I)I"⟩
abbrev cX12_go : ByteArray := prog_14_method_83_code
def yX12_go : MethodName := ⟨RX12, "go", "(I)I"⟩
abbrev cX12_ahead : ByteArray := prog_14_method_84_code
def yX12_ahead : MethodName := ⟨RX12, "ahead", "(III)I"⟩
abbrev cX12_lays : ByteArray := prog_14_method_85_code
def yX12_lays : MethodName := ⟨RX12, "lays", "(I)I"⟩
abbrev cX12_waysWith : ByteArray := prog_14_method_86_code
def yX12_waysWith : MethodName := ⟨RX12, "waysWith", "(I)I"⟩
abbrev cX12_layWays : ByteArray := prog_14_method_87_code
def yX12_layWays : MethodName := ⟨RX12, "layWays", "(I)V"⟩
abbrev cX12_rowsOf : ByteArray := prog_14_method_88_code
def yX12_rowsOf : MethodName := ⟨RX12, "rowsOf", "(II)J"⟩
abbrev cX12_rows : ByteArray := prog_14_method_89_code
def yX12_rows : MethodName := ⟨RX12, "rows", "(I)J"⟩
abbrev cX12_closed : ByteArray := prog_14_method_90_code
def yX12_closed : MethodName := ⟨RX12, "closed", "(I)J"⟩
abbrev cX12_firstRow : ByteArray := prog_14_method_91_code
def yX12_firstRow : MethodName := ⟨RX12, "firstRow", "(II)I"⟩
abbrev cX12_dearest : ByteArray := prog_14_method_92_code
def yX12_dearest : MethodName := ⟨RX12, "dearest", "(II)I"⟩
abbrev cX12_fewest : ByteArray := prog_14_method_93_code
def yX12_fewest : MethodName := ⟨RX12, "fewest", "(I)I"⟩
abbrev cX12_shape : ByteArray := prog_14_method_94_code
def yX12_shape : MethodName := ⟨RX12, "shape", "(II)I"⟩
abbrev cX12_isSwap : ByteArray := prog_14_method_95_code
def yX12_isSwap : MethodName := ⟨RX12, "isSwap", "(III)Z"⟩
abbrev cX12_swaps : ByteArray := prog_14_method_96_code
def yX12_swaps : MethodName := ⟨RX12, "swaps", "(I)I"⟩
abbrev cX12_lacks : ByteArray := prog_14_method_97_code
def yX12_lacks : MethodName := ⟨RX12, "lacks", "(I)I"⟩
abbrev cX12_tooMany : ByteArray := prog_14_method_98_code
def yX12_tooMany : MethodName := ⟨RX12, "tooMany", "(I)I"⟩
abbrev cX12_deal : ByteArray := prog_14_method_99_code
def yX12_deal : MethodName := ⟨RX12, "deal", "()I"⟩
abbrev cX12_stateOf : ByteArray := prog_14_method_100_code
def yX12_stateOf : MethodName := ⟨RX12, "stateOf", "(III)I"⟩
abbrev cX12_endsBy : ByteArray := prog_14_method_101_code
def yX12_endsBy : MethodName := ⟨RX12, "endsBy", "(IIII)I"⟩
abbrev cX12_better : ByteArray := prog_14_method_102_code
def yX12_better : MethodName := ⟨RX12, "better", "(II)I"⟩
abbrev cX12_layGame : ByteArray := prog_14_method_103_code
def yX12_layGame : MethodName := ⟨RX12, "layGame", "(II)V"⟩
abbrev cX12_game : ByteArray := prog_14_method_104_code
def yX12_game : MethodName := ⟨RX12, "game", "(III)I"⟩
abbrev cX12_common : ByteArray := prog_14_method_105_code
def yX12_common : MethodName := ⟨RX12, "common", "(II)I"⟩
abbrev cX12_likely : ByteArray := prog_14_method_106_code
def yX12_likely : MethodName := ⟨RX12, "likely", "(III)I"⟩
abbrev cX12_notes1 : ByteArray := prog_14_method_107_code
def yX12_notes1 : MethodName := ⟨RX12, "notes1", "(IIIII)I"⟩
abbrev cX12_note : ByteArray := prog_14_method_108_code
def yX12_note : MethodName := ⟨RX12, "note", "(IIIZ)I"⟩
abbrev cX12_see : ByteArray := prog_14_method_109_code
def yX12_see : MethodName := ⟨RX12, "see", "(IIIZ)I"⟩
abbrev cX12_strike : ByteArray := prog_14_method_110_code
def yX12_strike : MethodName := ⟨RX12, "strike", "(I)I"⟩
abbrev cX12_known : ByteArray := prog_14_method_111_code
def yX12_known : MethodName := ⟨RX12, "known", "(I)Z"⟩
abbrev cX12_knownBy : ByteArray := prog_14_method_112_code
def yX12_knownBy : MethodName := ⟨RX12, "knownBy", "()I"⟩
abbrev cX12_layCounts : ByteArray := prog_14_method_113_code
def yX12_layCounts : MethodName := ⟨RX12, "layCounts", "()V"⟩
abbrev cX12_isTold : ByteArray := prog_14_method_114_code
def yX12_isTold : MethodName := ⟨RX12, "isTold", "(II)Z"⟩
abbrev cX12_isBetween : ByteArray := prog_14_method_115_code
def yX12_isBetween : MethodName := ⟨RX12, "isBetween", "(IIII)Z"⟩
abbrev cX12_isNoted : ByteArray := prog_14_method_116_code
def yX12_isNoted : MethodName := ⟨RX12, "isNoted", "(II)Z"⟩
abbrev cX12_missing : ByteArray := prog_14_method_117_code
def yX12_missing : MethodName := ⟨RX12, "missing", "(I)I"⟩
abbrev cX12_ask : ByteArray := prog_14_method_118_code
def yX12_ask : MethodName := ⟨RX12, "ask", "(I)I"⟩
abbrev cX12_isSo : ByteArray := prog_14_method_119_code
def yX12_isSo : MethodName := ⟨RX12, "isSo", "(I)Z"⟩
abbrev cX12_fits : ByteArray := prog_14_method_120_code
def yX12_fits : MethodName := ⟨RX12, "fits", "(I)Z"⟩
abbrev cX12_needs : ByteArray := prog_14_method_121_code
def yX12_needs : MethodName := ⟨RX12, "needs", "()I"⟩
abbrev cX12_chance : ByteArray := prog_14_method_122_code
def yX12_chance : MethodName := ⟨RX12, "chance", "(IIII)I"⟩
abbrev cX12_tried : ByteArray := prog_14_method_123_code
def yX12_tried : MethodName := ⟨RX12, "tried", "(III)I"⟩
abbrev cX12_put : ByteArray := prog_14_method_124_code
def yX12_put : MethodName := ⟨RX12, "put", "([II)V"⟩
abbrev cX12_take : ByteArray := prog_14_method_125_code
def yX12_take : MethodName := ⟨RX12, "take", "([II)V"⟩
abbrev cX12_remember : ByteArray := prog_14_method_126_code
def yX12_remember : MethodName := ⟨RX12, "remember", "()V"⟩
abbrev cX12_undo : ByteArray := prog_14_method_127_code
def yX12_undo : MethodName := ⟨RX12, "undo", "()I"⟩
abbrev cX12_keep : ByteArray := prog_14_method_128_code
def yX12_keep : MethodName := ⟨RX12, "keep", "()I"⟩
abbrev cX12_back : ByteArray := prog_14_method_129_code
def yX12_back : MethodName := ⟨RX12, "back", "()I"⟩
abbrev cX12_count : ByteArray := prog_14_method_130_code
def yX12_count : MethodName := ⟨RX12, "count", "(I)I"⟩
def RJx145de : String := "java/io/Serializable"
def TJx145de : u_T := fun k => match k with
  | _ => ("", "", "", false)
def tyJx145de : Nat → FieldType := fun k => match k with
  | _ => .int
abbrev wsJx145de0 : List Cond := u_ws RJx145de TJx145de 0
theorem nmJx145de : ∀ a, a < 0 → ∀ b, b < 0 → a ≠ b → (TJx145de a).2.1 ≠ (TJx145de b).2.1 := by decide +kernel
theorem tyJx145de_ok : ∀ k, k < 0 → parseFieldDescriptor (TJx145de k).2.2.1 = some (tyJx145de k) := by decide +kernel
def RJx9f9b0 : String := "java/lang/CharSequence"
def TJx9f9b0 : u_T := fun k => match k with
  | _ => ("", "", "", false)
def tyJx9f9b0 : Nat → FieldType := fun k => match k with
  | _ => .int
abbrev wsJx9f9b00 : List Cond := u_ws RJx9f9b0 TJx9f9b0 0
theorem nmJx9f9b0 : ∀ a, a < 0 → ∀ b, b < 0 → a ≠ b → (TJx9f9b0 a).2.1 ≠ (TJx9f9b0 b).2.1 := by decide +kernel
theorem tyJx9f9b0_ok : ∀ k, k < 0 → parseFieldDescriptor (TJx9f9b0 k).2.2.1 = some (tyJx9f9b0 k) := by decide +kernel
def RJxb160c : String := "java/lang/Comparable"
def TJxb160c : u_T := fun k => match k with
  | _ => ("", "", "", false)
def tyJxb160c : Nat → FieldType := fun k => match k with
  | _ => .int
abbrev wsJxb160c0 : List Cond := u_ws RJxb160c TJxb160c 0
theorem nmJxb160c : ∀ a, a < 0 → ∀ b, b < 0 → a ≠ b → (TJxb160c a).2.1 ≠ (TJxb160c b).2.1 := by decide +kernel
theorem tyJxb160c_ok : ∀ k, k < 0 → parseFieldDescriptor (TJxb160c k).2.2.1 = some (tyJxb160c k) := by decide +kernel
def RJ6 : String := "java/lang/Integer"
def TJ6 : u_T := fun k => match k with
  | _ => ("", "", "", false)
def tyJ6 : Nat → FieldType := fun k => match k with
  | _ => .int
abbrev wsJ60 : List Cond := u_ws RJ6 TJ6 0
theorem nmJ6 : ∀ a, a < 0 → ∀ b, b < 0 → a ≠ b → (TJ6 a).2.1 ≠ (TJ6 b).2.1 := by decide +kernel
theorem tyJ6_ok : ∀ k, k < 0 → parseFieldDescriptor (TJ6 k).2.2.1 = some (tyJ6 k) := by decide +kernel
abbrev cJ6_numberOfTrailingZeros_0f7a4 : ByteArray := prog_20_method_48_code
def yJ6_numberOfTrailingZeros_0f7a4 : MethodName := ⟨RJ6, "numberOfTrailingZeros", "(I)I"⟩
abbrev cJ6_bitCount_0f7a4 : ByteArray := prog_20_method_49_code
def yJ6_bitCount_0f7a4 : MethodName := ⟨RJ6, "bitCount", "(I)I"⟩
def RJ13 : String := "java/lang/Long"
def TJ13 : u_T := fun k => match k with
  | _ => ("", "", "", false)
def tyJ13 : Nat → FieldType := fun k => match k with
  | _ => .int
abbrev wsJ130 : List Cond := u_ws RJ13 TJ13 0
theorem nmJ13 : ∀ a, a < 0 → ∀ b, b < 0 → a ≠ b → (TJ13 a).2.1 ≠ (TJ13 b).2.1 := by decide +kernel
theorem tyJ13_ok : ∀ k, k < 0 → parseFieldDescriptor (TJ13 k).2.2.1 = some (tyJ13 k) := by decide +kernel
abbrev cJ13_numberOfTrailingZeros_95d88 : ByteArray := prog_21_method_49_code
def yJ13_numberOfTrailingZeros_95d88 : MethodName := ⟨RJ13, "numberOfTrailingZeros", "(J)I"⟩
abbrev cJ13_bitCount_95d88 : ByteArray := prog_21_method_50_code
def yJ13_bitCount_95d88 : MethodName := ⟨RJ13, "bitCount", "(J)I"⟩
def RJ9 : String := "java/lang/Math"
def TJ9 : u_T := fun k => match k with
  | _ => ("", "", "", false)
def tyJ9 : Nat → FieldType := fun k => match k with
  | _ => .int
abbrev wsJ90 : List Cond := u_ws RJ9 TJ9 0
theorem nmJ9 : ∀ a, a < 0 → ∀ b, b < 0 → a ≠ b → (TJ9 a).2.1 ≠ (TJ9 b).2.1 := by decide +kernel
theorem tyJ9_ok : ∀ k, k < 0 → parseFieldDescriptor (TJ9 k).2.2.1 = some (tyJ9 k) := by decide +kernel
abbrev cJ9_abs_0f7a4 : ByteArray := prog_22_method_59_code
def yJ9_abs_0f7a4 : MethodName := ⟨RJ9, "abs", "(I)I"⟩
abbrev cJ9_max_7cf53 : ByteArray := prog_22_method_65_code
def yJ9_max_7cf53 : MethodName := ⟨RJ9, "max", "(II)I"⟩
abbrev cJ9_max_f86c9 : ByteArray := prog_22_method_66_code
def yJ9_max_f86c9 : MethodName := ⟨RJ9, "max", "(JJ)J"⟩
abbrev cJ9_min_7cf53 : ByteArray := prog_22_method_69_code
def yJ9_min_7cf53 : MethodName := ⟨RJ9, "min", "(II)I"⟩
abbrev cJ9_min_f86c9 : ByteArray := prog_22_method_70_code
def yJ9_min_f86c9 : MethodName := ⟨RJ9, "min", "(JJ)J"⟩
def RJxd2413 : String := "java/lang/Number"
def TJxd2413 : u_T := fun k => match k with
  | _ => ("", "", "", false)
def tyJxd2413 : Nat → FieldType := fun k => match k with
  | _ => .int
abbrev wsJxd24130 : List Cond := u_ws RJxd2413 TJxd2413 0
theorem nmJxd2413 : ∀ a, a < 0 → ∀ b, b < 0 → a ≠ b → (TJxd2413 a).2.1 ≠ (TJxd2413 b).2.1 := by decide +kernel
theorem tyJxd2413_ok : ∀ k, k < 0 → parseFieldDescriptor (TJxd2413 k).2.2.1 = some (tyJxd2413 k) := by decide +kernel
def RJ0 : String := "java/lang/String"
def TJ0 : u_T := fun k => match k with
  | _ => ("", "", "", false)
def tyJ0 : Nat → FieldType := fun k => match k with
  | _ => .int
abbrev wsJ00 : List Cond := u_ws RJ0 TJ0 0
theorem nmJ0 : ∀ a, a < 0 → ∀ b, b < 0 → a ≠ b → (TJ0 a).2.1 ≠ (TJ0 b).2.1 := by decide +kernel
theorem tyJ0_ok : ∀ k, k < 0 → parseFieldDescriptor (TJ0 k).2.2.1 = some (tyJ0 k) := by decide +kernel
abbrev cJ0_length_8abf5 : ByteArray := prog_25_method_54_code
def yJ0_length_8abf5 : MethodName := ⟨RJ0, "length", "()I"⟩
abbrev cJ0_charAt_5068e : ByteArray := prog_25_method_56_code
def yJ0_charAt_5068e : MethodName := ⟨RJ0, "charAt", "(I)C"⟩
abbrev cJ0_coder_7d493 : ByteArray := prog_25_method_152_code
def yJ0_coder_7d493 : MethodName := ⟨RJ0, "coder", "()B"⟩
abbrev cJ0_isLatin1_aae02 : ByteArray := prog_25_method_154_code
def yJ0_isLatin1_aae02 : MethodName := ⟨RJ0, "isLatin1", "()Z"⟩
abbrev cJ0_checkIndex_df160 : ByteArray := prog_25_method_155_code
def yJ0_checkIndex_df160 : MethodName := ⟨RJ0, "checkIndex", "(II)V"⟩
def RJ1 : String := "java/lang/StringLatin1"
def TJ1 : u_T := fun k => match k with
  | _ => ("", "", "", false)
def tyJ1 : Nat → FieldType := fun k => match k with
  | _ => .int
abbrev wsJ10 : List Cond := u_ws RJ1 TJ1 0
theorem nmJ1 : ∀ a, a < 0 → ∀ b, b < 0 → a ≠ b → (TJ1 a).2.1 ≠ (TJ1 b).2.1 := by decide +kernel
theorem tyJ1_ok : ∀ k, k < 0 → parseFieldDescriptor (TJ1 k).2.2.1 = some (tyJ1 k) := by decide +kernel
abbrev cJ1_charAt_3b067 : ByteArray := prog_26_method_2_code
def yJ1_charAt_3b067 : MethodName := ⟨RJ1, "charAt", "([BI)C"⟩
def RJ2 : String := "java/lang/StringUTF16"
def TJ2 : u_T := fun k => match k with
  | _ => ("", "", "", false)
def tyJ2 : Nat → FieldType := fun k => match k with
  | _ => .int
abbrev wsJ20 : List Cond := u_ws RJ2 TJ2 0
theorem nmJ2 : ∀ a, a < 0 → ∀ b, b < 0 → a ≠ b → (TJ2 a).2.1 ≠ (TJ2 b).2.1 := by decide +kernel
theorem tyJ2_ok : ∀ k, k < 0 → parseFieldDescriptor (TJ2 k).2.2.1 = some (tyJ2 k) := by decide +kernel
abbrev cJ2_getChar_3b067 : ByteArray := prog_27_method_5_code
def yJ2_getChar_3b067 : MethodName := ⟨RJ2, "getChar", "([BI)C"⟩
abbrev cJ2_length_9d52b : ByteArray := prog_27_method_6_code
def yJ2_length_9d52b : MethodName := ⟨RJ2, "length", "([B)I"⟩
abbrev cJ2_charAt_3b067 : ByteArray := prog_27_method_83_code
def yJ2_charAt_3b067 : MethodName := ⟨RJ2, "charAt", "([BI)C"⟩
abbrev cJ2_checkIndex_2214a : ByteArray := prog_27_method_91_code
def yJ2_checkIndex_2214a : MethodName := ⟨RJ2, "checkIndex", "(I[B)V"⟩
def RJ10 : String := "java/lang/System"
def TJ10 : u_T := fun k => match k with
  | _ => ("", "", "", false)
def tyJ10 : Nat → FieldType := fun k => match k with
  | _ => .int
abbrev wsJ100 : List Cond := u_ws RJ10 TJ10 0
theorem nmJ10 : ∀ a, a < 0 → ∀ b, b < 0 → a ≠ b → (TJ10 a).2.1 ≠ (TJ10 b).2.1 := by decide +kernel
theorem tyJ10_ok : ∀ k, k < 0 → parseFieldDescriptor (TJ10 k).2.2.1 = some (tyJ10 k) := by decide +kernel
def RJxfd54e : String := "java/lang/constant/Constable"
def TJxfd54e : u_T := fun k => match k with
  | _ => ("", "", "", false)
def tyJxfd54e : Nat → FieldType := fun k => match k with
  | _ => .int
abbrev wsJxfd54e0 : List Cond := u_ws RJxfd54e TJxfd54e 0
theorem nmJxfd54e : ∀ a, a < 0 → ∀ b, b < 0 → a ≠ b → (TJxfd54e a).2.1 ≠ (TJxfd54e b).2.1 := by decide +kernel
theorem tyJxfd54e_ok : ∀ k, k < 0 → parseFieldDescriptor (TJxfd54e k).2.2.1 = some (tyJxfd54e k) := by decide +kernel
def RJx3cf43 : String := "java/lang/constant/ConstantDesc"
def TJx3cf43 : u_T := fun k => match k with
  | _ => ("", "", "", false)
def tyJx3cf43 : Nat → FieldType := fun k => match k with
  | _ => .int
abbrev wsJx3cf430 : List Cond := u_ws RJx3cf43 TJx3cf43 0
theorem nmJx3cf43 : ∀ a, a < 0 → ∀ b, b < 0 → a ≠ b → (TJx3cf43 a).2.1 ≠ (TJx3cf43 b).2.1 := by decide +kernel
theorem tyJx3cf43_ok : ∀ k, k < 0 → parseFieldDescriptor (TJx3cf43 k).2.2.1 = some (tyJx3cf43 k) := by decide +kernel
def RJ7 : String := "java/util/Arrays"
def TJ7 : u_T := fun k => match k with
  | _ => ("", "", "", false)
def tyJ7 : Nat → FieldType := fun k => match k with
  | _ => .int
abbrev wsJ70 : List Cond := u_ws RJ7 TJ7 0
theorem nmJ7 : ∀ a, a < 0 → ∀ b, b < 0 → a ≠ b → (TJ7 a).2.1 ≠ (TJ7 b).2.1 := by decide +kernel
theorem tyJ7_ok : ∀ k, k < 0 → parseFieldDescriptor (TJ7 k).2.2.1 = some (tyJ7 k) := by decide +kernel
abbrev cJ7_fill_53178 : ByteArray := prog_32_method_103_code
def yJ7_fill_53178 : MethodName := ⟨RJ7, "fill", "([II)V"⟩
def RJ3 : String := "jdk/internal/util/Preconditions"
def TJ3 : u_T := fun k => match k with
  | _ => ("", "", "", false)
def tyJ3 : Nat → FieldType := fun k => match k with
  | _ => .int
abbrev wsJ30 : List Cond := u_ws RJ3 TJ3 0
theorem nmJ3 : ∀ a, a < 0 → ∀ b, b < 0 → a ≠ b → (TJ3 a).2.1 ≠ (TJ3 b).2.1 := by decide +kernel
theorem tyJ3_ok : ∀ k, k < 0 → parseFieldDescriptor (TJ3 k).2.2.1 = some (tyJ3 k) := by decide +kernel
abbrev cJ3_checkIndex_8e157 : ByteArray := prog_34_method_11_code
def yJ3_checkIndex_8e157 : MethodName := ⟨RJ3, "checkIndex", "(IILjava/util/function/BiFunction;)I"⟩
def RL : String := "BoneEstateLaw"
abbrev cL_piece : ByteArray := method_3_code
def yL_piece : MethodName := ⟨RL, "piece", "(LBoneEstate;II[J)I"⟩
abbrev cL_law : ByteArray := code
def yL_law : MethodName := ⟨RL, "law", "([I)Z"⟩
abbrev vwCl : List vw_C := [(RX0, TX0, 6), (RX1, TX1, 8), (RX2, TX2, 6), (RX3, TX3, 11), (RX4, TX4, 5), (RX5, TX5, 7), (RX6, TX6, 7), (RX7, TX7, 18), (RX8, TX8, 4), (RX9, TX9, 8), (RX10, TX10, 8), (RX11, TX11, 17), (RX12, TX12, 86)]
