/-! ===== a plan's constructor (printed by wip/tools/mkcy.py) ===== -/
theorem OI_X7 : Cond.methodLink RX7 3 Lib.objectInit ∈ ab_T := ab_T_in (tb_c_in 1 _ (List.mem_of_getElem? (i := 134) (rfl : (tb_c 1)[134]? = some (Cond.methodLink RX7 3 Lib.objectInit)))) rfl
theorem CL_7_45 : Cond.classLink RX7 45 RX4 ∈ ab_T := ab_T_in (tb_c_in 1 _ (List.mem_of_getElem? (i := 135) (rfl : (tb_c 1)[135]? = some (Cond.classLink RX7 45 RX4)))) rfl
theorem IS_4 : Cond.instantiable RX4 5 ∈ ab_T := ab_T_in (tb_c_in 1 _ (List.mem_of_getElem? (i := 137) (rfl : (tb_c 1)[137]? = some (Cond.instantiable RX4 5)))) rfl
def kPf (n : Nat) : List Value := (((((((((((((ab_df 7 18).set 0 (.ref (n + 0))).set 1 (.ref (n + 1))).set 2 (.ref (n + 2))).set 3 (.ref (n + 3))).set 4 (.ref (n + 4))).set 5 (.ref (n + 5))).set 6 (.ref (n + 6))).set 7 (.ref (n + 7))).set 8 (.ref (n + 8))).set 9 (.ref (n + 9))).set 10 (.ref (n + 10))).set 11 (.ref (n + 11))).set 17 (.int (-1))
def kPt (n : Nat) : ab_H := [aIn 9, aIn 9, aIn 9, aIn 9, aIn 5, aIn 5, aIn 8, aIn 8, aIn 8, aIn 10, aIn 10, .inl (3, 3, .inr (.inr (.inr (.inr (va_up (va_up (va_up (fun _ => none) 0 (some (n + 12))) 1 (some (n + 16))) 2 (some (n + 20))))))), .inr (4, (((ab_df 4 5).set 0 (.ref (n + 13))).set 1 (.ref (n + 14))).set 2 (.ref (n + 15))), aIn 64, aLg 64, aLg 8, .inr (4, (((ab_df 4 5).set 0 (.ref (n + 17))).set 1 (.ref (n + 18))).set 2 (.ref (n + 19))), aIn 64, aLg 64, aLg 8, .inr (4, (((ab_df 4 5).set 0 (.ref (n + 21))).set 1 (.ref (n + 22))).set 2 (.ref (n + 23))), aIn 64, aLg 64, aLg 8]
theorem k_X7 {G : ab_G} {a : Nat} {h : ab_H} (he : h[a]? = some (.inr (7, ab_df 7 18))) : ab_CT G 2 M_X7_init true [.ref a] h 24 516 (fun r h' => r = none ∧ h' = h.set a (.inr (7, kPf h.length)) ++ kPt h.length) := by
  refine ab_ct o_X7_init (Nat.le_of_ble_eq_true rfl) (fun p e s m args below meth c C hr hl => ?_)
  have e0 : h = h.set a (.inr (7, ab_df 7 18)) ++ [] := by rw [List.append_nil]; exact (pc_set he).symm
  refine ab_step C rfl ?_
  refine ab_obj C rfl OI_X7 OI_1 OI_2 (Nat.le_of_ble_eq_true rfl) ⟨by decide, by decide⟩ ?_
  suffices key : ab_R G M_X7_init true h.length p e (ab_rm 2 24 516) s m args below meth c (MQ below (ab_Q G true (h.length + 24) (fun r h' => r = none ∧ h' = h.set a (.inr (7, kPf h.length)) ++ kPt h.length)) args s 24 516 (ab_A G)) 0 0 4 (ab_pad 1 (ab_exp [.ref a])) [] (h.set a (.inr (7, ab_df 7 18)) ++ []) by
    rw [← e0] at key
    exact key
  refine ab_step C rfl ?_
  refine ab_step C rfl ?_
  refine nw_i (N := 9) C rfl (by decide) (by decide) (by decide) ⟨Nat.le_of_ble_eq_true rfl, Nat.le_of_ble_eq_true rfl⟩ ?_
  refine nw_put C rfl he rfl trivial ?_
  refine ab_step C rfl ?_
  refine ab_step C rfl ?_
  refine nw_i (N := 9) C rfl (by decide) (by decide) (by decide) ⟨Nat.le_of_ble_eq_true rfl, Nat.le_of_ble_eq_true rfl⟩ ?_
  refine nw_put C rfl he rfl trivial ?_
  refine ab_step C rfl ?_
  refine ab_step C rfl ?_
  refine nw_i (N := 9) C rfl (by decide) (by decide) (by decide) ⟨Nat.le_of_ble_eq_true rfl, Nat.le_of_ble_eq_true rfl⟩ ?_
  refine nw_put C rfl he rfl trivial ?_
  refine ab_step C rfl ?_
  refine ab_step C rfl ?_
  refine nw_i (N := 9) C rfl (by decide) (by decide) (by decide) ⟨Nat.le_of_ble_eq_true rfl, Nat.le_of_ble_eq_true rfl⟩ ?_
  refine nw_put C rfl he rfl trivial ?_
  refine ab_step C rfl ?_
  refine ab_step C rfl ?_
  refine nw_i (N := 5) C rfl (by decide) (by decide) (by decide) ⟨Nat.le_of_ble_eq_true rfl, Nat.le_of_ble_eq_true rfl⟩ ?_
  refine nw_put C rfl he rfl trivial ?_
  refine ab_step C rfl ?_
  refine ab_step C rfl ?_
  refine nw_i (N := 5) C rfl (by decide) (by decide) (by decide) ⟨Nat.le_of_ble_eq_true rfl, Nat.le_of_ble_eq_true rfl⟩ ?_
  refine nw_put C rfl he rfl trivial ?_
  refine ab_step C rfl ?_
  refine ab_step C rfl ?_
  refine nw_i (N := 8) C rfl (by decide) (by decide) (by decide) ⟨Nat.le_of_ble_eq_true rfl, Nat.le_of_ble_eq_true rfl⟩ ?_
  refine nw_put C rfl he rfl trivial ?_
  refine ab_step C rfl ?_
  refine ab_step C rfl ?_
  refine nw_i (N := 8) C rfl (by decide) (by decide) (by decide) ⟨Nat.le_of_ble_eq_true rfl, Nat.le_of_ble_eq_true rfl⟩ ?_
  refine nw_put C rfl he rfl trivial ?_
  refine ab_step C rfl ?_
  refine ab_step C rfl ?_
  refine nw_i (N := 8) C rfl (by decide) (by decide) (by decide) ⟨Nat.le_of_ble_eq_true rfl, Nat.le_of_ble_eq_true rfl⟩ ?_
  refine nw_put C rfl he rfl trivial ?_
  refine ab_step C rfl ?_
  refine ab_step C rfl ?_
  refine nw_i (N := 10) C rfl (by decide) (by decide) (by decide) ⟨Nat.le_of_ble_eq_true rfl, Nat.le_of_ble_eq_true rfl⟩ ?_
  refine nw_put C rfl he rfl trivial ?_
  refine ab_step C rfl ?_
  refine ab_step C rfl ?_
  refine nw_i (N := 10) C rfl (by decide) (by decide) (by decide) ⟨Nat.le_of_ble_eq_true rfl, Nat.le_of_ble_eq_true rfl⟩ ?_
  refine nw_put C rfl he rfl trivial ?_
  refine ab_step C rfl ?_
  refine ab_step C rfl ?_
  refine nw_aq (kd := 3) (N := 3) C rfl CL_7_45 C.2.2.2.2.2.2.1.2.2.1 rfl (by decide) (by decide) (by decide) ⟨Nat.le_of_ble_eq_true rfl, Nat.le_of_ble_eq_true rfl⟩ ?_
  refine ab_step C rfl ?_
  refine ab_step C rfl ?_
  refine nw_new (ci := 4) (q := (RX4, TX4, 5)) C rfl rfl CL_7_45 IS_4 IN_X4 ⟨Nat.le_of_ble_eq_true rfl, Nat.le_of_ble_eq_true rfl⟩ ?_
  refine ab_step C rfl ?_
  refine nw_law (i := 12) (host := "BoneEstate") C rfl (by simp [ab_nq]; decide) rfl (Nat.le_of_ble_eq_true rfl) ⟨by decide, by decide, Nat.le_of_ble_eq_true rfl, Nat.le_of_ble_eq_true rfl⟩ ?_
  refine nw_ast (i := 11) (j := 12) (kd := 3) (ci := 4) (N := 3) (r := (RX4, TX4, 5)) C rfl rfl rfl rfl rfl (by unfold vp_in; decide) ?_
  refine ab_step C rfl ?_
  refine ab_step C rfl ?_
  refine nw_new (ci := 4) (q := (RX4, TX4, 5)) C rfl rfl CL_7_45 IS_4 IN_X4 ⟨Nat.le_of_ble_eq_true rfl, Nat.le_of_ble_eq_true rfl⟩ ?_
  refine ab_step C rfl ?_
  refine nw_law (i := 16) (host := "BoneEstate") C rfl (by simp [ab_nq]; decide) rfl (Nat.le_of_ble_eq_true rfl) ⟨by decide, by decide, Nat.le_of_ble_eq_true rfl, Nat.le_of_ble_eq_true rfl⟩ ?_
  refine nw_ast (i := 11) (j := 16) (kd := 3) (ci := 4) (N := 3) (r := (RX4, TX4, 5)) C rfl rfl rfl rfl rfl (by unfold vp_in; decide) ?_
  refine ab_step C rfl ?_
  refine ab_step C rfl ?_
  refine nw_new (ci := 4) (q := (RX4, TX4, 5)) C rfl rfl CL_7_45 IS_4 IN_X4 ⟨Nat.le_of_ble_eq_true rfl, Nat.le_of_ble_eq_true rfl⟩ ?_
  refine ab_step C rfl ?_
  refine nw_law (i := 20) (host := "BoneEstate") C rfl (by simp [ab_nq]; decide) rfl (Nat.le_of_ble_eq_true rfl) ⟨by decide, by decide, Nat.le_of_ble_eq_true rfl, Nat.le_of_ble_eq_true rfl⟩ ?_
  refine nw_ast (i := 11) (j := 20) (kd := 3) (ci := 4) (N := 3) (r := (RX4, TX4, 5)) C rfl rfl rfl rfl rfl (by unfold vp_in; decide) ?_
  refine nw_put C rfl he rfl trivial ?_
  refine ab_step C rfl ?_
  refine ab_step C rfl ?_
  refine nw_put C rfl he rfl trivial ?_
  exact ab_retV C hr hl rfl rfl ⟨rfl, rfl⟩

