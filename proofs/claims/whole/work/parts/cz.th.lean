/-! ===== a law reader's constructor ===== -/
theorem OI_X5 : Cond.methodLink RX5 3 Lib.objectInit ∈ ab_T := ab_T_in (tb_c_in 2 _ (List.mem_of_getElem? (i := 38) (rfl : (tb_c 2)[38]? = some (Cond.methodLink RX5 3 Lib.objectInit)))) rfl
theorem CL_5_15 : Cond.classLink RX5 15 RX4 ∈ ab_T := ab_T_in (tb_c_in 2 _ (List.mem_of_getElem? (i := 39) (rfl : (tb_c 2)[39]? = some (Cond.classLink RX5 15 RX4)))) rfl
def kLt (n : Nat) : ab_H := [aIn 72, .inr (4, (((ab_df 4 5).set 0 (.ref (n + 2))).set 1 (.ref (n + 3))).set 2 (.ref (n + 4))), aIn 64, aLg 64, aLg 8]
def kLf (n b1 : Nat) : List Value := (((ab_df 5 7).set 1 (.ref (n + 0))).set 6 (.ref (n + 1))).set 0 (.ref b1)
theorem k_X5 {G : ab_G} {a b1 : Nat} {h : ab_H} (he : h[a]? = some (.inr (5, ab_df 5 7))) : ab_CT G 2 M_X5_init true [.ref a, .ref b1] h 5 213 (fun r h' => r = none ∧ h' = h.set a (.inr (5, kLf h.length b1)) ++ kLt h.length) := by
  refine ab_ct o_X5_init (Nat.le_of_ble_eq_true rfl) (fun p e s m args below meth c C hr hl => ?_)
  have e0 : h = h.set a (.inr (5, ab_df 5 7)) ++ [] := by rw [List.append_nil]; exact (pc_set he).symm
  refine ab_step C rfl ?_
  refine ab_obj C rfl OI_X5 OI_1 OI_2 (Nat.le_of_ble_eq_true rfl) ⟨by decide, by decide⟩ ?_
  suffices key : ab_R G M_X5_init true h.length p e (ab_rm 2 5 213) s m args below meth c (MQ below (ab_Q G true (h.length + 5) (fun r h' => r = none ∧ h' = h.set a (.inr (5, kLf h.length b1)) ++ kLt h.length)) args s 5 213 (ab_A G)) 0 0 4 (ab_pad 2 (ab_exp [.ref a, .ref b1])) [] (h.set a (.inr (5, ab_df 5 7)) ++ []) by
    rw [← e0] at key
    exact key
  iterate 2 refine ab_step C rfl ?_
  refine nw_i (N := 72) C rfl (by decide) (by decide) (by decide) ⟨Nat.le_of_ble_eq_true rfl, Nat.le_of_ble_eq_true rfl⟩ ?_
  refine nw_put C rfl he rfl trivial ?_
  refine ab_step C rfl ?_
  refine nw_new (ci := 4) (q := (RX4, TX4, 5)) C rfl rfl CL_5_15 IS_4 IN_X4 ⟨Nat.le_of_ble_eq_true rfl, Nat.le_of_ble_eq_true rfl⟩ ?_
  refine ab_step C rfl ?_
  refine nw_law (i := 1) (host := "BoneEstate") C rfl (by simp [ab_nq]; decide) rfl (Nat.le_of_ble_eq_true rfl) ⟨by decide, by decide, Nat.le_of_ble_eq_true rfl, Nat.le_of_ble_eq_true rfl⟩ ?_
  refine nw_put C rfl he rfl trivial ?_
  iterate 2 refine ab_step C rfl ?_
  refine nw_put C rfl he rfl trivial ?_
  exact ab_retV C hr hl rfl rfl ⟨rfl, rfl⟩

