/-! ===== constructors: new arrays; the estate's ===== -/
theorem AC_i : Cond.arrayClass .int ∈ ab_T := ab_T_in (tb_c_in 1 _ (List.mem_of_getElem? (i := 127) (rfl : (tb_c 1)[127]? = some (Cond.arrayClass .int)))) rfl
theorem AC_l : Cond.arrayClass .long ∈ ab_T := ab_T_in (tb_c_in 1 _ (List.mem_of_getElem? (i := 160) (rfl : (tb_c 1)[160]? = some (Cond.arrayClass .long)))) rfl
theorem AC_z : Cond.arrayClass .boolean ∈ ab_T := ab_T_in (tb_c_in 3 _ (List.mem_of_getElem? (i := 6) (rfl : (tb_c 3)[6]? = some (Cond.arrayClass .boolean)))) rfl
theorem OI_1 : Cond.instanceMethod Lib.objectInit ∈ ab_T := ab_T_in (tb_c_in 1 _ (List.mem_of_getElem? (i := 35) (rfl : (tb_c 1)[35]? = some (Cond.instanceMethod Lib.objectInit)))) rfl
theorem OI_2 : Cond.code Lib.objectInit ⟨#[0xb1]⟩ 1 none ∈ ab_T := ab_T_in (tb_c_in 1 _ (List.mem_of_getElem? (i := 36) (rfl : (tb_c 1)[36]? = some (Cond.code Lib.objectInit ⟨#[0xb1]⟩ 1 none)))) rfl
theorem OI_X1 : Cond.methodLink RX1 3 Lib.objectInit ∈ ab_T := ab_T_in (tb_c_in 3 _ (List.mem_of_getElem? (i := 12) (rfl : (tb_c 3)[12]? = some (Cond.methodLink RX1 3 Lib.objectInit)))) rfl
abbrev aIn (N : Nat) : ab_E := .inl (0, N, .inl (fun _ => 0))
abbrev aLg (N : Nat) : ab_E := .inl (1, N, .inr (.inl (fun _ => 0)))
abbrev aBo (N : Nat) : ab_E := .inl (2, N, .inl (fun _ => 0))
section NW2
variable {G : ab_G} {M : ab_MD} {n0 : Nat} {p : Program} {e : Env} {R : Room} {s : State} {m : MethodId} {args : Array Value} {below : List Frame} {meth : Method} {c : Code} {Q : State → Prop} {cells slots pc : Nat} {L : List (Option Value)} {st : List Value} {h t : ab_H}
theorem nw_len {a : Nat} {y : ab_E} : (h.set a y ++ t).length = h.length + t.length := by rw [List.length_append, List.length_set]
theorem nw_i {a N : Nat} {y : ab_E} {x : Int32} (C : ab_C G M p s m args meth c) (row : ab_lk M.2.2.2.2.2.2 pc = some (.newarray .int, 2)) (hn : ¬ x < 0) (hN : x.toNatClampNeg = N) (hb : N * 4 ≤ 536870912) (hR : cells + 1 ≤ R.cells ∧ slots + N ≤ R.slots)
    (k : ab_R G M true n0 p e R s m args below meth c Q (cells + 1) (slots + N) (pc + 2) L (.ref (h.length + t.length) :: st) (h.set a y ++ (t ++ [aIn N]))) : ab_R G M true n0 p e R s m args below meth c Q cells slots pc L (.int x :: st) (h.set a y ++ t) := by
  refine ab_newa (kd := 0) (a0 := (N, .inl (fun _ => 0))) C rfl row AC_i rfl (fun cA => rfl) hn hN hb rfl hR ?_
  rw [nw_len, List.append_assoc]
  exact k
theorem nw_l {a N : Nat} {y : ab_E} {x : Int32} (C : ab_C G M p s m args meth c) (row : ab_lk M.2.2.2.2.2.2 pc = some (.newarray .long, 2)) (hn : ¬ x < 0) (hN : x.toNatClampNeg = N) (hb : N * 8 ≤ 536870912) (hR : cells + 1 ≤ R.cells ∧ slots + N ≤ R.slots)
    (k : ab_R G M true n0 p e R s m args below meth c Q (cells + 1) (slots + N) (pc + 2) L (.ref (h.length + t.length) :: st) (h.set a y ++ (t ++ [aLg N]))) : ab_R G M true n0 p e R s m args below meth c Q cells slots pc L (.int x :: st) (h.set a y ++ t) := by
  refine ab_newa (kd := 1) (a0 := (N, .inr (.inl (fun _ => 0)))) C rfl row AC_l rfl (fun cA => rfl) hn hN hb rfl hR ?_
  rw [nw_len, List.append_assoc]
  exact k
theorem nw_z {a N : Nat} {y : ab_E} {x : Int32} (C : ab_C G M p s m args meth c) (row : ab_lk M.2.2.2.2.2.2 pc = some (.newarray .boolean, 2)) (hn : ¬ x < 0) (hN : x.toNatClampNeg = N) (hb : N * 1 ≤ 536870912) (hR : cells + 1 ≤ R.cells ∧ slots + N ≤ R.slots)
    (k : ab_R G M true n0 p e R s m args below meth c Q (cells + 1) (slots + N) (pc + 2) L (.ref (h.length + t.length) :: st) (h.set a y ++ (t ++ [aBo N]))) : ab_R G M true n0 p e R s m args below meth c Q cells slots pc L (.int x :: st) (h.set a y ++ t) := by
  refine ab_newa (kd := 2) (a0 := (N, .inl (fun _ => 0))) C rfl row AC_z rfl (fun cA => rfl) hn hN hb rfl hR ?_
  rw [nw_len, List.append_assoc]
  exact k
end NW2
/-- an estate's constructor -/
theorem k_X1 {G : ab_G} {a : Nat} {h : ab_H} (he : h[a]? = some (.inr (1, ab_df 1 8))) : ab_CT G 1 M_X1_init true [.ref a] h 3 15 (fun r h' => r = none ∧ h' = h.set a (.inr (1, [.ref h.length, .ref (h.length + 1), .ref (h.length + 2), .int 0, .int 0, .int 0, .int 0, .int 0])) ++ [aIn 5, aIn 5, aIn 5]) := by
  refine ab_ct o_X1_init (Nat.le_of_ble_eq_true rfl) (fun p e s m args below meth c C hr hl => ?_)
  have e0 : h = h.set a (.inr (1, ab_df 1 8)) ++ [] := by rw [List.append_nil]; exact (pc_set he).symm
  refine ab_step C rfl ?_
  refine ab_obj C rfl OI_X1 OI_1 OI_2 (Nat.le_of_ble_eq_true rfl) ⟨by decide, by decide⟩ ?_
  suffices key : ab_R G M_X1_init true h.length p e (ab_rm 1 3 15) s m args below meth c (MQ below (ab_Q G true (h.length + 3) (fun r h' => r = none ∧ h' = h.set a (.inr (1, [.ref h.length, .ref (h.length + 1), .ref (h.length + 2), .int 0, .int 0, .int 0, .int 0, .int 0])) ++ [aIn 5, aIn 5, aIn 5])) args s 3 15 (ab_A G)) 0 0 4 (ab_pad 1 (ab_exp [.ref a])) [] (h.set a (.inr (1, ab_df 1 8)) ++ []) by
    rw [← e0] at key
    exact key
  iterate 2 refine ab_step C rfl ?_
  refine nw_i (N := 5) C rfl (by decide) (by decide) (by decide) ⟨by decide, by decide⟩ ?_
  refine nw_put C rfl he rfl trivial ?_
  iterate 2 refine ab_step C rfl ?_
  refine nw_i (N := 5) C rfl (by decide) (by decide) (by decide) ⟨by decide, by decide⟩ ?_
  refine nw_put C rfl he rfl trivial ?_
  iterate 2 refine ab_step C rfl ?_
  refine nw_i (N := 5) C rfl (by decide) (by decide) (by decide) ⟨by decide, by decide⟩ ?_
  refine nw_put C rfl he rfl trivial ?_
  exact ab_retV C hr hl rfl rfl ⟨rfl, rfl⟩

