/-! ===== straight constructors (printed by wip/tools/mkcw.py) ===== -/
theorem OI_X4 : Cond.methodLink RX4 3 Lib.objectInit ∈ ab_T := ab_T_in (tb_c_in 1 _ (List.mem_of_getElem? (i := 141) (rfl : (tb_c 1)[141]? = some (Cond.methodLink RX4 3 Lib.objectInit)))) rfl
theorem k_X4 {G : ab_G} {a : Nat} {h : ab_H} (he : h[a]? = some (.inr (4, ab_df 4 5))) : ab_CT G 1 M_X4_init true [.ref a] h 3 136 (fun r h' => r = none ∧ h' = h.set a (.inr (4, (((ab_df 4 5).set 0 (.ref (h.length + 0))).set 1 (.ref (h.length + 1))).set 2 (.ref (h.length + 2)))) ++ [aIn 64, aLg 64, aLg 8]) := by
  refine ab_ct o_X4_init (Nat.le_of_ble_eq_true rfl) (fun p e s m args below meth c C hr hl => ?_)
  have e0 : h = h.set a (.inr (4, ab_df 4 5)) ++ [] := by rw [List.append_nil]; exact (pc_set he).symm
  refine ab_step C rfl ?_
  refine ab_obj C rfl OI_X4 OI_1 OI_2 (Nat.le_of_ble_eq_true rfl) ⟨by decide, by decide⟩ ?_
  suffices key : ab_R G M_X4_init true h.length p e (ab_rm 1 3 136) s m args below meth c (MQ below (ab_Q G true (h.length + 3) (fun r h' => r = none ∧ h' = h.set a (.inr (4, (((ab_df 4 5).set 0 (.ref (h.length + 0))).set 1 (.ref (h.length + 1))).set 2 (.ref (h.length + 2)))) ++ [aIn 64, aLg 64, aLg 8])) args s 3 136 (ab_A G)) 0 0 4 (ab_pad 1 (ab_exp [.ref a])) [] (h.set a (.inr (4, ab_df 4 5)) ++ []) by
    rw [← e0] at key
    exact key
  refine ab_step C rfl ?_
  refine ab_step C rfl ?_
  refine nw_i (N := 64) C rfl (by decide) (by decide) (by decide) ⟨Nat.le_of_ble_eq_true rfl, Nat.le_of_ble_eq_true rfl⟩ ?_
  refine nw_put C rfl he rfl trivial ?_
  refine ab_step C rfl ?_
  refine ab_step C rfl ?_
  refine nw_l (N := 64) C rfl (by decide) (by decide) (by decide) ⟨Nat.le_of_ble_eq_true rfl, Nat.le_of_ble_eq_true rfl⟩ ?_
  refine nw_put C rfl he rfl trivial ?_
  refine ab_step C rfl ?_
  refine ab_step C rfl ?_
  refine nw_l (N := 8) C rfl (by decide) (by decide) (by decide) ⟨Nat.le_of_ble_eq_true rfl, Nat.le_of_ble_eq_true rfl⟩ ?_
  refine nw_put C rfl he rfl trivial ?_
  exact ab_retV C hr hl rfl rfl ⟨rfl, rfl⟩
theorem OI_X6 : Cond.methodLink RX6 3 Lib.objectInit ∈ ab_T := ab_T_in (tb_c_in 2 _ (List.mem_of_getElem? (i := 221) (rfl : (tb_c 2)[221]? = some (Cond.methodLink RX6 3 Lib.objectInit)))) rfl
theorem k_X6 {G : ab_G} {a : Nat} {h : ab_H} (he : h[a]? = some (.inr (6, ab_df 6 7))) : ab_CT G 1 M_X6_init true [.ref a] h 5 120 (fun r h' => r = none ∧ h' = h.set a (.inr (6, ((((((ab_df 6 7).set 0 (.ref (h.length + 0))).set 1 (.ref (h.length + 1))).set 2 (.ref (h.length + 2))).set 3 (.ref (h.length + 3))).set 4 (.ref (h.length + 4))).set 6 (.int (-1)))) ++ [aIn 24, aIn 24, aIn 24, aIn 24, aBo 24]) := by
  refine ab_ct o_X6_init (Nat.le_of_ble_eq_true rfl) (fun p e s m args below meth c C hr hl => ?_)
  have e0 : h = h.set a (.inr (6, ab_df 6 7)) ++ [] := by rw [List.append_nil]; exact (pc_set he).symm
  refine ab_step C rfl ?_
  refine ab_obj C rfl OI_X6 OI_1 OI_2 (Nat.le_of_ble_eq_true rfl) ⟨by decide, by decide⟩ ?_
  suffices key : ab_R G M_X6_init true h.length p e (ab_rm 1 5 120) s m args below meth c (MQ below (ab_Q G true (h.length + 5) (fun r h' => r = none ∧ h' = h.set a (.inr (6, ((((((ab_df 6 7).set 0 (.ref (h.length + 0))).set 1 (.ref (h.length + 1))).set 2 (.ref (h.length + 2))).set 3 (.ref (h.length + 3))).set 4 (.ref (h.length + 4))).set 6 (.int (-1)))) ++ [aIn 24, aIn 24, aIn 24, aIn 24, aBo 24])) args s 5 120 (ab_A G)) 0 0 4 (ab_pad 1 (ab_exp [.ref a])) [] (h.set a (.inr (6, ab_df 6 7)) ++ []) by
    rw [← e0] at key
    exact key
  refine ab_step C rfl ?_
  refine ab_step C rfl ?_
  refine nw_i (N := 24) C rfl (by decide) (by decide) (by decide) ⟨Nat.le_of_ble_eq_true rfl, Nat.le_of_ble_eq_true rfl⟩ ?_
  refine nw_put C rfl he rfl trivial ?_
  refine ab_step C rfl ?_
  refine ab_step C rfl ?_
  refine nw_i (N := 24) C rfl (by decide) (by decide) (by decide) ⟨Nat.le_of_ble_eq_true rfl, Nat.le_of_ble_eq_true rfl⟩ ?_
  refine nw_put C rfl he rfl trivial ?_
  refine ab_step C rfl ?_
  refine ab_step C rfl ?_
  refine nw_i (N := 24) C rfl (by decide) (by decide) (by decide) ⟨Nat.le_of_ble_eq_true rfl, Nat.le_of_ble_eq_true rfl⟩ ?_
  refine nw_put C rfl he rfl trivial ?_
  refine ab_step C rfl ?_
  refine ab_step C rfl ?_
  refine nw_i (N := 24) C rfl (by decide) (by decide) (by decide) ⟨Nat.le_of_ble_eq_true rfl, Nat.le_of_ble_eq_true rfl⟩ ?_
  refine nw_put C rfl he rfl trivial ?_
  refine ab_step C rfl ?_
  refine ab_step C rfl ?_
  refine nw_z (N := 24) C rfl (by decide) (by decide) (by decide) ⟨Nat.le_of_ble_eq_true rfl, Nat.le_of_ble_eq_true rfl⟩ ?_
  refine nw_put C rfl he rfl trivial ?_
  refine ab_step C rfl ?_
  refine ab_step C rfl ?_
  refine nw_put C rfl he rfl trivial ?_
  exact ab_retV C hr hl rfl rfl ⟨rfl, rfl⟩
theorem OI_X2 : Cond.methodLink RX2 3 Lib.objectInit ∈ ab_T := ab_T_in (tb_c_in 2 _ (List.mem_of_getElem? (i := 194) (rfl : (tb_c 2)[194]? = some (Cond.methodLink RX2 3 Lib.objectInit)))) rfl
theorem k_X2 {G : ab_G} {a b1 b2 : Nat} {h : ab_H} (he : h[a]? = some (.inr (2, ab_df 2 6))) : ab_CT G 1 M_X2_init true [.ref a, .ref b1, .ref b2] h 2 3586 (fun r h' => r = none ∧ h' = h.set a (.inr (2, ((((ab_df 2 6).set 2 (.ref (h.length + 0))).set 3 (.ref (h.length + 1))).set 0 (.ref b1)).set 1 (.ref b2))) ++ [aIn 2, aIn 3584]) := by
  refine ab_ct o_X2_init (Nat.le_of_ble_eq_true rfl) (fun p e s m args below meth c C hr hl => ?_)
  have e0 : h = h.set a (.inr (2, ab_df 2 6)) ++ [] := by rw [List.append_nil]; exact (pc_set he).symm
  refine ab_step C rfl ?_
  refine ab_obj C rfl OI_X2 OI_1 OI_2 (Nat.le_of_ble_eq_true rfl) ⟨by decide, by decide⟩ ?_
  suffices key : ab_R G M_X2_init true h.length p e (ab_rm 1 2 3586) s m args below meth c (MQ below (ab_Q G true (h.length + 2) (fun r h' => r = none ∧ h' = h.set a (.inr (2, ((((ab_df 2 6).set 2 (.ref (h.length + 0))).set 3 (.ref (h.length + 1))).set 0 (.ref b1)).set 1 (.ref b2))) ++ [aIn 2, aIn 3584])) args s 2 3586 (ab_A G)) 0 0 4 (ab_pad 3 (ab_exp [.ref a, .ref b1, .ref b2])) [] (h.set a (.inr (2, ab_df 2 6)) ++ []) by
    rw [← e0] at key
    exact key
  refine ab_step C rfl ?_
  refine ab_step C rfl ?_
  refine nw_i (N := 2) C rfl (by decide) (by decide) (by decide) ⟨Nat.le_of_ble_eq_true rfl, Nat.le_of_ble_eq_true rfl⟩ ?_
  refine nw_put C rfl he rfl trivial ?_
  refine ab_step C rfl ?_
  refine ab_step C rfl ?_
  refine nw_i (N := 3584) C rfl (by decide) (by decide) (by decide) ⟨Nat.le_of_ble_eq_true rfl, Nat.le_of_ble_eq_true rfl⟩ ?_
  refine nw_put C rfl he rfl trivial ?_
  refine ab_step C rfl ?_
  refine ab_step C rfl ?_
  refine nw_put C rfl he rfl trivial ?_
  refine ab_step C rfl ?_
  refine ab_step C rfl ?_
  refine nw_put C rfl he rfl trivial ?_
  exact ab_retV C hr hl rfl rfl ⟨rfl, rfl⟩
theorem OI_X0 : Cond.methodLink RX0 3 Lib.objectInit ∈ ab_T := ab_T_in (tb_c_in 2 _ (List.mem_of_getElem? (i := 165) (rfl : (tb_c 2)[165]? = some (Cond.methodLink RX0 3 Lib.objectInit)))) rfl
theorem k_X0 {G : ab_G} {a b1 b2 : Nat} {h : ab_H} (he : h[a]? = some (.inr (0, ab_df 0 6))) : ab_CT G 1 M_X0_init true [.ref a, .ref b1, .ref b2] h 0 0 (fun r h' => r = none ∧ h' = h.set a (.inr (0, ((((ab_df 0 6).set 4 (.int (-1))).set 5 (.int 2)).set 0 (.ref b1)).set 1 (.ref b2))) ++ []) := by
  refine ab_ct o_X0_init (Nat.le_of_ble_eq_true rfl) (fun p e s m args below meth c C hr hl => ?_)
  have e0 : h = h.set a (.inr (0, ab_df 0 6)) ++ [] := by rw [List.append_nil]; exact (pc_set he).symm
  refine ab_step C rfl ?_
  refine ab_obj C rfl OI_X0 OI_1 OI_2 (Nat.le_of_ble_eq_true rfl) ⟨by decide, by decide⟩ ?_
  suffices key : ab_R G M_X0_init true h.length p e (ab_rm 1 0 0) s m args below meth c (MQ below (ab_Q G true (h.length + 0) (fun r h' => r = none ∧ h' = h.set a (.inr (0, ((((ab_df 0 6).set 4 (.int (-1))).set 5 (.int 2)).set 0 (.ref b1)).set 1 (.ref b2))) ++ [])) args s 0 0 (ab_A G)) 0 0 4 (ab_pad 3 (ab_exp [.ref a, .ref b1, .ref b2])) [] (h.set a (.inr (0, ab_df 0 6)) ++ []) by
    rw [← e0] at key
    exact key
  refine ab_step C rfl ?_
  refine ab_step C rfl ?_
  refine nw_put C rfl he rfl trivial ?_
  refine ab_step C rfl ?_
  refine ab_step C rfl ?_
  refine nw_put C rfl he rfl trivial ?_
  refine ab_step C rfl ?_
  refine ab_step C rfl ?_
  refine nw_put C rfl he rfl trivial ?_
  refine ab_step C rfl ?_
  refine ab_step C rfl ?_
  refine nw_put C rfl he rfl trivial ?_
  exact ab_retV C hr hl rfl rfl ⟨rfl, rfl⟩
theorem OI_X9 : Cond.methodLink RX9 3 Lib.objectInit ∈ ab_T := ab_T_in (tb_c_in 2 _ (List.mem_of_getElem? (i := 83) (rfl : (tb_c 2)[83]? = some (Cond.methodLink RX9 3 Lib.objectInit)))) rfl
theorem k_X9 {G : ab_G} {a b1 : Nat} {h : ab_H} (he : h[a]? = some (.inr (9, ab_df 9 8))) : ab_CT G 1 M_X9_init true [.ref a, .ref b1] h 5 5127 (fun r h' => r = none ∧ h' = h.set a (.inr (9, (((((((ab_df 9 8).set 1 (.ref (h.length + 0))).set 2 (.ref (h.length + 1))).set 3 (.ref (h.length + 2))).set 4 (.ref (h.length + 3))).set 5 (.ref (h.length + 4))).set 7 (.int 1)).set 0 (.ref b1))) ++ [aLg 512, aIn 512, aLg 7, aLg 3584, aIn 512]) := by
  refine ab_ct o_X9_init (Nat.le_of_ble_eq_true rfl) (fun p e s m args below meth c C hr hl => ?_)
  have e0 : h = h.set a (.inr (9, ab_df 9 8)) ++ [] := by rw [List.append_nil]; exact (pc_set he).symm
  refine ab_step C rfl ?_
  refine ab_obj C rfl OI_X9 OI_1 OI_2 (Nat.le_of_ble_eq_true rfl) ⟨by decide, by decide⟩ ?_
  suffices key : ab_R G M_X9_init true h.length p e (ab_rm 1 5 5127) s m args below meth c (MQ below (ab_Q G true (h.length + 5) (fun r h' => r = none ∧ h' = h.set a (.inr (9, (((((((ab_df 9 8).set 1 (.ref (h.length + 0))).set 2 (.ref (h.length + 1))).set 3 (.ref (h.length + 2))).set 4 (.ref (h.length + 3))).set 5 (.ref (h.length + 4))).set 7 (.int 1)).set 0 (.ref b1))) ++ [aLg 512, aIn 512, aLg 7, aLg 3584, aIn 512])) args s 5 5127 (ab_A G)) 0 0 4 (ab_pad 2 (ab_exp [.ref a, .ref b1])) [] (h.set a (.inr (9, ab_df 9 8)) ++ []) by
    rw [← e0] at key
    exact key
  refine ab_step C rfl ?_
  refine ab_step C rfl ?_
  refine nw_l (N := 512) C rfl (by decide) (by decide) (by decide) ⟨Nat.le_of_ble_eq_true rfl, Nat.le_of_ble_eq_true rfl⟩ ?_
  refine nw_put C rfl he rfl trivial ?_
  refine ab_step C rfl ?_
  refine ab_step C rfl ?_
  refine nw_i (N := 512) C rfl (by decide) (by decide) (by decide) ⟨Nat.le_of_ble_eq_true rfl, Nat.le_of_ble_eq_true rfl⟩ ?_
  refine nw_put C rfl he rfl trivial ?_
  refine ab_step C rfl ?_
  refine ab_step C rfl ?_
  refine nw_l (N := 7) C rfl (by decide) (by decide) (by decide) ⟨Nat.le_of_ble_eq_true rfl, Nat.le_of_ble_eq_true rfl⟩ ?_
  refine nw_put C rfl he rfl trivial ?_
  refine ab_step C rfl ?_
  refine ab_step C rfl ?_
  refine nw_l (N := 3584) C rfl (by decide) (by decide) (by decide) ⟨Nat.le_of_ble_eq_true rfl, Nat.le_of_ble_eq_true rfl⟩ ?_
  refine nw_put C rfl he rfl trivial ?_
  refine ab_step C rfl ?_
  refine ab_step C rfl ?_
  refine nw_i (N := 512) C rfl (by decide) (by decide) (by decide) ⟨Nat.le_of_ble_eq_true rfl, Nat.le_of_ble_eq_true rfl⟩ ?_
  refine nw_put C rfl he rfl trivial ?_
  refine ab_step C rfl ?_
  refine ab_step C rfl ?_
  refine nw_put C rfl he rfl trivial ?_
  refine ab_step C rfl ?_
  refine ab_step C rfl ?_
  refine nw_put C rfl he rfl trivial ?_
  exact ab_retV C hr hl rfl rfl ⟨rfl, rfl⟩

