/-! ===== a judge's constructor ===== -/
theorem OI_X3 : Cond.methodLink RX3 3 Lib.objectInit ∈ ab_T := ab_T_in (tb_c_in 2 _ (List.mem_of_getElem? (i := 114) (rfl : (tb_c 2)[114]? = some (Cond.methodLink RX3 3 Lib.objectInit)))) rfl
theorem nw_gf {G : ab_G} {M : ab_MD} {fr : Bool} {n0 : Nat} {p : Program} {e : Env} {R : Room} {s : State} {m : MethodId} {args : Array Value} {below : List Frame} {meth : Method} {c : Code} {Q : State → Prop} {cells slots pc : Nat} {L : List (Option Value)} {st : List Value} {h t : ab_H} {a i ci : Nat} {x : ab_E} {v : Value} {fs : List Value} (C : ab_C G M p s m args meth c) (row : ab_lk M.2.2.2.2.2.2 pc = some (.getfield i, 3)) (he : h[a]? = some x)
    (hf : ab_gf (ab_lk M.1.2.2.1 i) (some (.inr (ci, fs))) (pc + 3) L st (h.set a (.inr (ci, fs)) ++ t) = some (True, pc + 3, L, v :: st, h.set a (.inr (ci, fs)) ++ t))
    (k : ab_R G M fr n0 p e R s m args below meth c Q cells slots (pc + 3) L (v :: st) (h.set a (.inr (ci, fs)) ++ t)) : ab_R G M fr n0 p e R s m args below meth c Q cells slots pc L (.ref a :: st) (h.set a (.inr (ci, fs)) ++ t) := by
  refine ab_stepG (g := True) (pc' := pc + 3) (L' := L) (st' := v :: st) (h' := h.set a (.inr (ci, fs)) ++ t) C ?_ trivial k
  unfold ab_st
  rw [row]
  show ab_gf (ab_lk M.1.2.2.1 i) (h.set a (.inr (ci, fs)) ++ t)[a]? (pc + 3) L st (h.set a (.inr (ci, fs)) ++ t) = _
  rw [nw_get he]
  exact hf
def kJf (n b1 b2 : Nat) : List Value := ((((((ab_df 3 11).set 2 (.ref (n + 0))).set 3 (.ref (n + 1))).set 4 (.ref (n + 2))).set 5 (.ref (n + 3))).set 0 (.ref b1)).set 1 (.ref b2)
def kJt : ab_H := [aLg 128, .inl (0, 128, .inl (fun j => if j < 128 then -1 else 0)), aIn 9, aIn 512]
theorem k_X3 {G : ab_G} {a b1 b2 : Nat} {h : ab_H} (he : h[a]? = some (.inr (3, ab_df 3 11))) : ab_CT G 2 M_X3_init true [.ref a, .ref b1, .ref b2] h 4 777 (fun r h' => r = none ∧ h' = h.set a (.inr (3, kJf h.length b1 b2)) ++ kJt) := by
  refine ab_ct o_X3_init (Nat.le_of_ble_eq_true rfl) (fun p e s m args below meth c C hr hl => ?_)
  have e0 : h = h.set a (.inr (3, ab_df 3 11)) ++ [] := by rw [List.append_nil]; exact (pc_set he).symm
  refine ab_step C rfl ?_
  refine ab_obj C rfl OI_X3 OI_1 OI_2 (Nat.le_of_ble_eq_true rfl) ⟨by decide, by decide⟩ ?_
  suffices key : ab_R G M_X3_init true h.length p e (ab_rm 2 4 777) s m args below meth c (MQ below (ab_Q G true (h.length + 4) (fun r h' => r = none ∧ h' = h.set a (.inr (3, kJf h.length b1 b2)) ++ kJt)) args s 4 777 (ab_A G)) 0 0 4 (ab_pad 3 (ab_exp [.ref a, .ref b1, .ref b2])) [] (h.set a (.inr (3, ab_df 3 11)) ++ []) by
    rw [← e0] at key
    exact key
  iterate 2 refine ab_step C rfl ?_
  refine nw_l (N := 128) C rfl (by decide) (by decide) (by decide) ⟨Nat.le_of_ble_eq_true rfl, Nat.le_of_ble_eq_true rfl⟩ ?_
  refine nw_put C rfl he rfl trivial ?_
  iterate 2 refine ab_step C rfl ?_
  refine nw_i (N := 128) C rfl (by decide) (by decide) (by decide) ⟨Nat.le_of_ble_eq_true rfl, Nat.le_of_ble_eq_true rfl⟩ ?_
  refine nw_put C rfl he rfl trivial ?_
  iterate 2 refine ab_step C rfl ?_
  refine nw_i (N := 9) C rfl (by decide) (by decide) (by decide) ⟨Nat.le_of_ble_eq_true rfl, Nat.le_of_ble_eq_true rfl⟩ ?_
  refine nw_put C rfl he rfl trivial ?_
  iterate 2 refine ab_step C rfl ?_
  refine nw_i (N := 512) C rfl (by decide) (by decide) (by decide) ⟨Nat.le_of_ble_eq_true rfl, Nat.le_of_ble_eq_true rfl⟩ ?_
  refine nw_put C rfl he rfl trivial ?_
  iterate 2 refine ab_step C rfl ?_
  refine nw_put C rfl he rfl trivial ?_
  iterate 2 refine ab_step C rfl ?_
  refine nw_put C rfl he rfl trivial ?_
  refine ab_step C rfl ?_
  refine nw_gf (v := .ref (h.length + 1)) C rfl he rfl ?_
  refine ab_step C rfl ?_
  refine ab_callS (M' := M_J7_fill) (as := [.ref (h.length + 1), .int (-1)]) (rest := []) C rfl rfl o_J7_fill s_J7_fill (k_fill (N := 128) (by decide) (nw_getT (i := 1))) rfl rfl (Nat.le_of_ble_eq_true rfl) ⟨by decide, by decide, Nat.le_of_ble_eq_true rfl, Nat.le_of_ble_eq_true rfl⟩ ?_
  rintro r h' ⟨rfl, rfl⟩
  unfold flH
  rw [nw_setT (i := 1)]
  exact ab_retV C hr hl rfl rfl ⟨rfl, rfl⟩

