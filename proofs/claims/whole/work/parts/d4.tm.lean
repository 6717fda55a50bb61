/-! ===== words for the constructors that are left ===== -/
theorem CL_X11_11 : Cond.classLink RX11 11 RX10 ∈ ab_T := ab_T_in (tb_c_in 1 _ (List.mem_of_getElem? (i := 37) (rfl : (tb_c 1)[37]? = some (Cond.classLink RX11 11 RX10)))) rfl
theorem CL_X11_18 : Cond.classLink RX11 18 RX7 ∈ ab_T := ab_T_in (tb_c_in 1 _ (List.mem_of_getElem? (i := 129) (rfl : (tb_c 1)[129]? = some (Cond.classLink RX11 18 RX7)))) rfl
theorem CL_X11_25 : Cond.classLink RX11 25 RX8 ∈ ab_T := ab_T_in (tb_c_in 2 _ (List.mem_of_getElem? (i := 25) (rfl : (tb_c 2)[25]? = some (Cond.classLink RX11 25 RX8)))) rfl
theorem CL_X11_34 : Cond.classLink RX11 34 RX9 ∈ ab_T := ab_T_in (tb_c_in 2 _ (List.mem_of_getElem? (i := 78) (rfl : (tb_c 2)[78]? = some (Cond.classLink RX11 34 RX9)))) rfl
theorem CL_X11_43 : Cond.classLink RX11 43 RX3 ∈ ab_T := ab_T_in (tb_c_in 2 _ (List.mem_of_getElem? (i := 109) (rfl : (tb_c 2)[109]? = some (Cond.classLink RX11 43 RX3)))) rfl
theorem CL_X11_52 : Cond.classLink RX11 52 RX0 ∈ ab_T := ab_T_in (tb_c_in 2 _ (List.mem_of_getElem? (i := 160) (rfl : (tb_c 2)[160]? = some (Cond.classLink RX11 52 RX0)))) rfl
theorem CL_X11_61 : Cond.classLink RX11 61 RX2 ∈ ab_T := ab_T_in (tb_c_in 2 _ (List.mem_of_getElem? (i := 189) (rfl : (tb_c 2)[189]? = some (Cond.classLink RX11 61 RX2)))) rfl
theorem CL_X11_68 : Cond.classLink RX11 68 RX6 ∈ ab_T := ab_T_in (tb_c_in 2 _ (List.mem_of_getElem? (i := 216) (rfl : (tb_c 2)[216]? = some (Cond.classLink RX11 68 RX6)))) rfl
theorem CL_X11_75 : Cond.classLink RX11 75 RX1 ∈ ab_T := ab_T_in (tb_c_in 3 _ (List.mem_of_getElem? (i := 7) (rfl : (tb_c 3)[7]? = some (Cond.classLink RX11 75 RX1)))) rfl
theorem CL_L_8 : Cond.classLink RL 8 RX11 ∈ ab_T := ab_T_in (tb_c_in 1 _ (List.mem_of_getElem? (i := 29) (rfl : (tb_c 1)[29]? = some (Cond.classLink RL 8 RX11)))) rfl
theorem CL_L_18 : Cond.classLink RL 18 RX12 ∈ ab_T := ab_T_in (tb_c_in 6 _ (List.mem_of_getElem? (i := 221) (rfl : (tb_c 6)[221]? = some (Cond.classLink RL 18 RX12)))) rfl
theorem IS_X11 : Cond.instantiable RX11 17 ∈ ab_T := ab_T_in (tb_c_in 1 _ (List.mem_of_getElem? (i := 30) (rfl : (tb_c 1)[30]? = some (Cond.instantiable RX11 17)))) rfl
theorem IS_X10 : Cond.instantiable RX10 8 ∈ ab_T := ab_T_in (tb_c_in 1 _ (List.mem_of_getElem? (i := 38) (rfl : (tb_c 1)[38]? = some (Cond.instantiable RX10 8)))) rfl
theorem IS_X8 : Cond.instantiable RX8 4 ∈ ab_T := ab_T_in (tb_c_in 2 _ (List.mem_of_getElem? (i := 26) (rfl : (tb_c 2)[26]? = some (Cond.instantiable RX8 4)))) rfl
theorem IS_X9 : Cond.instantiable RX9 8 ∈ ab_T := ab_T_in (tb_c_in 2 _ (List.mem_of_getElem? (i := 79) (rfl : (tb_c 2)[79]? = some (Cond.instantiable RX9 8)))) rfl
theorem IS_X3 : Cond.instantiable RX3 11 ∈ ab_T := ab_T_in (tb_c_in 2 _ (List.mem_of_getElem? (i := 110) (rfl : (tb_c 2)[110]? = some (Cond.instantiable RX3 11)))) rfl
theorem IS_X0 : Cond.instantiable RX0 6 ∈ ab_T := ab_T_in (tb_c_in 2 _ (List.mem_of_getElem? (i := 161) (rfl : (tb_c 2)[161]? = some (Cond.instantiable RX0 6)))) rfl
theorem IS_X2 : Cond.instantiable RX2 6 ∈ ab_T := ab_T_in (tb_c_in 2 _ (List.mem_of_getElem? (i := 190) (rfl : (tb_c 2)[190]? = some (Cond.instantiable RX2 6)))) rfl
theorem IS_X6 : Cond.instantiable RX6 7 ∈ ab_T := ab_T_in (tb_c_in 2 _ (List.mem_of_getElem? (i := 217) (rfl : (tb_c 2)[217]? = some (Cond.instantiable RX6 7)))) rfl
theorem IS_X1 : Cond.instantiable RX1 8 ∈ ab_T := ab_T_in (tb_c_in 3 _ (List.mem_of_getElem? (i := 8) (rfl : (tb_c 3)[8]? = some (Cond.instantiable RX1 8)))) rfl
theorem IS_X12 : Cond.instantiable RX12 86 ∈ ab_T := ab_T_in (tb_c_in 6 _ (List.mem_of_getElem? (i := 222) (rfl : (tb_c 6)[222]? = some (Cond.instantiable RX12 86)))) rfl
theorem OI_X10 : Cond.methodLink RX10 3 Lib.objectInit ∈ ab_T := ab_T_in (tb_c_in 1 _ (List.mem_of_getElem? (i := 42) (rfl : (tb_c 1)[42]? = some (Cond.methodLink RX10 3 Lib.objectInit)))) rfl
theorem OI_X11 : Cond.methodLink RX11 5 Lib.objectInit ∈ ab_T := ab_T_in (tb_c_in 1 _ (List.mem_of_getElem? (i := 34) (rfl : (tb_c 1)[34]? = some (Cond.methodLink RX11 5 Lib.objectInit)))) rfl
theorem OI_X12 : Cond.methodLink RX12 1 Lib.objectInit ∈ ab_T := ab_T_in (tb_c_in 6 _ (List.mem_of_getElem? (i := 226) (rfl : (tb_c 6)[226]? = some (Cond.methodLink RX12 1 Lib.objectInit)))) rfl

