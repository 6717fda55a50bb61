/-! ===== constructors: objects and arrays of references among what is new ===== -/
theorem nw_getT {h t : ab_H} {a i : Nat} {y : ab_E} : (h.set a y ++ t)[h.length + i]? = t[i]? := by
  rw [List.getElem?_append_right (by rw [List.length_set]; omega), List.length_set, show h.length + i - h.length = i by omega]
theorem nw_setT {h t : ab_H} {a i : Nat} {y z : ab_E} : (h.set a y ++ t).set (h.length + i) z = h.set a y ++ t.set i z := by
  rw [List.set_append_right _ _ (by rw [List.length_set]; omega), List.length_set, show h.length + i - h.length = i by omega]
section NW3
variable {G : ab_G} {M : ab_MD} {n0 : Nat} {p : Program} {e : Env} {R : Room} {s : State} {m : MethodId} {args : Array Value} {below : List Frame} {meth : Method} {c : Code} {Q : State → Prop} {cells slots pc : Nat} {L : List (Option Value)} {st : List Value} {h t : ab_H}
theorem nw_new {a idx ci : Nat} {y : ab_E} {q : vw_C} (C : ab_C G M p s m args meth c) (row : ab_lk M.2.2.2.2.2.2 pc = some (.new idx, 3)) (hq : vwCl[ci]? = some q) (w1 : Cond.classLink M.1.1 idx q.1 ∈ ab_T) (w2 : Cond.instantiable q.1 q.2.2 ∈ ab_T) (w3 : Cond.initialized q.1 ∈ ab_T) (hR : cells + 1 ≤ R.cells ∧ slots + q.2.2 ≤ R.slots)
    (k : ab_R G M true n0 p e R s m args below meth c Q (cells + 1) (slots + q.2.2) (pc + 3) L (.ref (h.length + t.length) :: st) (h.set a y ++ (t ++ [.inr (ci, ab_df ci q.2.2)]))) : ab_R G M true n0 p e R s m args below meth c Q cells slots pc L st (h.set a y ++ t) := by
  refine ab_new C rfl row hq (cl_all ci q hq) w1 w2 w3 hR ?_
  rw [nw_len, List.append_assoc]
  exact k
theorem nw_aq {a kd idx N : Nat} {y : ab_E} {x : Int32} {Cn : String} (C : ab_C G M p s m args meth c) (row : ab_lk M.2.2.2.2.2.2 pc = some (.anewarray idx, 3)) (w1 : Cond.classLink M.1.1 idx Cn ∈ ab_T) (hao : va_AO Cn s) (hk : (ab_tys G.2.2.1)[kd]? = some (G.2.2.1 kd, .object Cn)) (hn : ¬ x < 0) (hN : x.toNatClampNeg = N) (hb : N * 4 ≤ 536870912) (hR : cells + 1 ≤ R.cells ∧ slots + N ≤ R.slots)
    (k : ab_R G M true n0 p e R s m args below meth c Q (cells + 1) (slots + N) (pc + 3) L (.ref (h.length + t.length) :: st) (h.set a y ++ (t ++ [.inl (kd, N, .inr (.inr (.inr (.inr (fun _ => none)))))]))) : ab_R G M true n0 p e R s m args below meth c Q cells slots pc L (.int x :: st) (h.set a y ++ t) := by
  refine ab_newq C rfl row w1 hao hk hn hN hb hR ?_
  rw [nw_len, List.append_assoc]
  exact k
theorem nw_ast {a kd ci N i j : Nat} {y : ab_E} {x : Int32} {r : vw_C} {vs : List Value} {f : Nat → Option Nat} (C : ab_C G M p s m args meth c) (row : ab_lk M.2.2.2.2.2.2 pc = some (.aastore, 1)) (hi : t[i]? = some (.inl (kd, N, .inr (.inr (.inr (.inr f)))))) (hj : t[j]? = some (.inr (ci, vs))) (hr : vwCl[ci]? = some r) (hk : (ab_tys G.2.2.1)[kd]? = some (G.2.2.1 kd, .object r.1)) (hin : vp_in x N)
    (k : ab_R G M true n0 p e R s m args below meth c Q cells slots (pc + 1) L st (h.set a y ++ t.set i (.inl (kd, N, .inr (.inr (.inr (.inr (va_up f x.toNatClampNeg (some (h.length + j))))))))) ) : ab_R G M true n0 p e R s m args below meth c Q cells slots pc L (.ref (h.length + j) :: .int x :: .ref (h.length + i) :: st) (h.set a y ++ t) := by
  refine ab_astq (kd := kd) (ci := ci) (N := N) (r := r) (vs := vs) (f := f) C row (nw_getT.trans hi) (nw_getT.trans hj) hr hk hin ?_
  rw [nw_setT]
  exact k
/-- a law's constructor, called on a new object -/
theorem nw_law {a i idx : Nat} {y : ab_E} {host : String} (C : ab_C G M p s m args meth c) (row : ab_lk M.2.2.2.2.2.2 pc = some (.invokespecial idx, 3)) (hm : (M.1.1, idx, M_X4_init.2.1, host) ∈ ab_nq) (hi : t[i]? = some (.inr (4, ab_df 4 5))) (hsum : (st.map fun v => v.category).sum ≤ 8) (hR : 2 ≤ R.frames ∧ 128 ≤ R.locals ∧ cells + 3 ≤ R.cells ∧ slots + 136 ≤ R.slots)
    (k : ab_R G M true n0 p e R s m args below meth c Q (cells + 3) (slots + 136) (pc + 3) L st (h.set a y ++ (t.set i (.inr (4, (((ab_df 4 5).set 0 (.ref (h.length + t.length))).set 1 (.ref (h.length + (t.length + 1)))).set 2 (.ref (h.length + (t.length + 2))))) ++ [aIn 64, aLg 64, aLg 8]))) : ab_R G M true n0 p e R s m args below meth c Q cells slots pc L (.ref (h.length + i) :: st) (h.set a y ++ t) := by
  refine ab_callN (M' := M_X4_init) (as := []) (rest := st) C row hm o_X4_init i_X4_init rfl rfl (k_X4 (nw_getT.trans hi)) rfl rfl hsum ⟨hR.1, hR.2.1, hR.2.2.1, hR.2.2.2⟩ ?_
  rintro r h' ⟨rfl, rfl⟩
  rw [nw_setT, List.append_assoc, nw_len]
  exact k
end NW3

