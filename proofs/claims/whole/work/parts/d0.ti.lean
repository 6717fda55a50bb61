/-! ===== a plan reader's constructor ===== -/
theorem OI_X8 : Cond.methodLink RX8 3 Lib.objectInit ∈ ab_T := ab_T_in (tb_c_in 2 _ (List.mem_of_getElem? (i := 30) (rfl : (tb_c 2)[30]? = some (Cond.methodLink RX8 3 Lib.objectInit)))) rfl
theorem CL_8_9 : Cond.classLink RX8 9 RX7 ∈ ab_T := ab_T_in (tb_c_in 2 _ (List.mem_of_getElem? (i := 31) (rfl : (tb_c 2)[31]? = some (Cond.classLink RX8 9 RX7)))) rfl
theorem CL_8_22 : Cond.classLink RX8 22 RX5 ∈ ab_T := ab_T_in (tb_c_in 2 _ (List.mem_of_getElem? (i := 33) (rfl : (tb_c 2)[33]? = some (Cond.classLink RX8 22 RX5)))) rfl
theorem IS_7 : Cond.instantiable RX7 18 ∈ ab_T := ab_T_in (tb_c_in 1 _ (List.mem_of_getElem? (i := 130) (rfl : (tb_c 1)[130]? = some (Cond.instantiable RX7 18)))) rfl
theorem IS_5 : Cond.instantiable RX5 7 ∈ ab_T := ab_T_in (tb_c_in 2 _ (List.mem_of_getElem? (i := 34) (rfl : (tb_c 2)[34]? = some (Cond.instantiable RX5 7)))) rfl
section NW4
variable {G : ab_G} {M : ab_MD} {n0 : Nat} {p : Program} {e : Env} {R : Room} {s : State} {m : MethodId} {args : Array Value} {below : List Frame} {meth : Method} {c : Code} {Q : State → Prop} {cells slots pc : Nat} {L : List (Option Value)} {st : List Value} {h t : ab_H}
theorem nw_plan {a i idx : Nat} {y : ab_E} {host : String} (C : ab_C G M p s m args meth c) (row : ab_lk M.2.2.2.2.2.2 pc = some (.invokespecial idx, 3)) (hm : (M.1.1, idx, M_X7_init.2.1, host) ∈ ab_nq) (hi : t[i]? = some (.inr (7, ab_df 7 18))) (hsum : (st.map fun v => v.category).sum ≤ 8) (hR : 3 ≤ R.frames ∧ 192 ≤ R.locals ∧ cells + 24 ≤ R.cells ∧ slots + 516 ≤ R.slots)
    (k : ab_R G M true n0 p e R s m args below meth c Q (cells + 24) (slots + 516) (pc + 3) L st (h.set a y ++ (t.set i (.inr (7, kPf (h.length + t.length))) ++ kPt (h.length + t.length)))) : ab_R G M true n0 p e R s m args below meth c Q cells slots pc L (.ref (h.length + i) :: st) (h.set a y ++ t) := by
  refine ab_callN (M' := M_X7_init) (as := []) (rest := st) C row hm o_X7_init i_X7_init rfl rfl (k_X7 (nw_getT.trans hi)) rfl rfl hsum ⟨hR.1, hR.2.1, hR.2.2.1, hR.2.2.2⟩ ?_
  rintro r h' ⟨rfl, rfl⟩
  rw [nw_setT, List.append_assoc, nw_len]
  exact k
theorem nw_lrd {a b1 i idx : Nat} {y : ab_E} (C : ab_C G M p s m args meth c) (row : ab_lk M.2.2.2.2.2.2 pc = some (.invokespecial idx, 3)) (hm : ab_lk M.1.2.2.2.1 idx = some M_X5_init.2.1) (hi : t[i]? = some (.inr (5, ab_df 5 7))) (hsum : (st.map fun v => v.category).sum ≤ 8) (hR : 3 ≤ R.frames ∧ 192 ≤ R.locals ∧ cells + 5 ≤ R.cells ∧ slots + 213 ≤ R.slots)
    (k : ab_R G M true n0 p e R s m args below meth c Q (cells + 5) (slots + 213) (pc + 3) L st (h.set a y ++ (t.set i (.inr (5, kLf (h.length + t.length) b1)) ++ kLt (h.length + t.length)))) : ab_R G M true n0 p e R s m args below meth c Q cells slots pc L (.ref b1 :: .ref (h.length + i) :: st) (h.set a y ++ t) := by
  refine ab_callI (M' := M_X5_init) (as := [.ref b1]) (rest := st) C row hm o_X5_init i_X5_init rfl rfl (k_X5 (nw_getT.trans hi)) rfl rfl hsum ⟨hR.1, hR.2.1, hR.2.2.1, hR.2.2.2⟩ ?_
  rintro r h' ⟨rfl, rfl⟩
  rw [nw_setT, List.append_assoc, nw_len]
  exact k
end NW4
def kRt (n b1 : Nat) : ab_H := ((.inr (7, kPf (n + 1)) :: kPt (n + 1)) ++ [.inr (5, kLf (n + 26) b1)]) ++ kLt (n + 26)
def kRf (n b1 : Nat) : List Value := (((ab_df 8 4).set 2 (.ref (n + 0))).set 0 (.ref b1)).set 1 (.ref (n + 25))
theorem k_X8 {G : ab_G} {a b1 : Nat} {h : ab_H} (he : h[a]? = some (.inr (8, ab_df 8 4))) : ab_CT G 3 M_X8_init true [.ref a, .ref b1] h 31 754 (fun r h' => r = none ∧ h' = h.set a (.inr (8, kRf h.length b1)) ++ kRt h.length b1) := by
  refine ab_ct o_X8_init (Nat.le_of_ble_eq_true rfl) (fun p e s m args below meth c C hr hl => ?_)
  have e0 : h = h.set a (.inr (8, ab_df 8 4)) ++ [] := by rw [List.append_nil]; exact (pc_set he).symm
  refine ab_step C rfl ?_
  refine ab_obj C rfl OI_X8 OI_1 OI_2 (Nat.le_of_ble_eq_true rfl) ⟨by decide, by decide⟩ ?_
  suffices key : ab_R G M_X8_init true h.length p e (ab_rm 3 31 754) s m args below meth c (MQ below (ab_Q G true (h.length + 31) (fun r h' => r = none ∧ h' = h.set a (.inr (8, kRf h.length b1)) ++ kRt h.length b1)) args s 31 754 (ab_A G)) 0 0 4 (ab_pad 2 (ab_exp [.ref a, .ref b1])) [] (h.set a (.inr (8, ab_df 8 4)) ++ []) by
    rw [← e0] at key
    exact key
  refine ab_step C rfl ?_
  refine nw_new (ci := 7) (q := (RX7, TX7, 18)) C rfl rfl CL_8_9 IS_7 IN_X7 ⟨Nat.le_of_ble_eq_true rfl, Nat.le_of_ble_eq_true rfl⟩ ?_
  refine ab_step C rfl ?_
  refine nw_plan (i := 0) (host := "BoneEstate") C rfl (by simp [ab_nq]; decide) rfl (Nat.le_of_ble_eq_true rfl) ⟨by decide, by decide, Nat.le_of_ble_eq_true rfl, Nat.le_of_ble_eq_true rfl⟩ ?_
  refine nw_put C rfl he rfl trivial ?_
  iterate 2 refine ab_step C rfl ?_
  refine nw_put C rfl he rfl trivial ?_
  refine ab_step C rfl ?_
  refine nw_new (ci := 5) (q := (RX5, TX5, 7)) C rfl rfl CL_8_22 IS_5 IN_X5 ⟨Nat.le_of_ble_eq_true rfl, Nat.le_of_ble_eq_true rfl⟩ ?_
  iterate 2 refine ab_step C rfl ?_
  refine nw_lrd (i := 25) C rfl rfl rfl (Nat.le_of_ble_eq_true rfl) ⟨by decide, by decide, Nat.le_of_ble_eq_true rfl, Nat.le_of_ble_eq_true rfl⟩ ?_
  refine nw_put C rfl he rfl trivial ?_
  exact ab_retV C hr hl rfl rfl ⟨rfl, rfl⟩

