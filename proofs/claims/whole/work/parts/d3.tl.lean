/-! ===== a constructor called on what is new, whatever its class ===== -/
section NW5
variable {G : ab_G} {M : ab_MD} {n0 : Nat} {p : Program} {e : Env} {R : Room} {s : State} {m : MethodId} {args : Array Value} {below : List Frame} {meth : Method} {c : Code} {Q : State → Prop} {cells slots pc : Nat} {L : List (Option Value)} {st : List Value} {h t : ab_H}
theorem nw_cI {M' : ab_MD} {n d mc ms idx a i : Nat} {y : ab_E} {as rest : List Value} (z : Nat → ab_E) (w : Nat → ab_H) (C : ab_C G M p s m args meth c) (row : ab_lk M.2.2.2.2.2.2 pc = some (.invokespecial idx, 3)) (hm : ab_lk M.1.2.2.2.1 idx = some M'.2.1) (ok : ab_OK M' n) (hk : Cond.instanceMethod M'.2.1 ∈ ab_T) (hini : M'.2.1.name = "<init>") (hret : M'.2.2.2.2.1 = none)
    (ct : ab_CT G d M' true (.ref (h.length + i) :: as) (h.set a y ++ t) mc ms (fun r h' => r = none ∧ h' = (h.set a y ++ t).set (h.length + i) (z (h.set a y ++ t).length) ++ w (h.set a y ++ t).length)) (hst : st = as.reverse ++ .ref (h.length + i) :: rest) (hn : as.length = n) (hsum : (rest.map fun v => v.category).sum ≤ 8) (hR : d + 1 ≤ R.frames ∧ 64 * d + 64 ≤ R.locals ∧ cells + mc ≤ R.cells ∧ slots + ms ≤ R.slots)
    (k : ab_R G M true n0 p e R s m args below meth c Q (cells + mc) (slots + ms) (pc + 3) L rest (h.set a y ++ (t.set i (z (h.length + t.length)) ++ w (h.length + t.length)))) : ab_R G M true n0 p e R s m args below meth c Q cells slots pc L st (h.set a y ++ t) := by
  refine ab_callI C row hm ok hk hini hret ct hst hn hsum hR ?_
  rintro r h' ⟨rfl, rfl⟩
  rw [nw_setT, List.append_assoc, nw_len]
  exact k
theorem nw_cN {M' : ab_MD} {n d mc ms idx a i : Nat} {y : ab_E} {host : String} {as rest : List Value} (z : Nat → ab_E) (w : Nat → ab_H) (C : ab_C G M p s m args meth c) (row : ab_lk M.2.2.2.2.2.2 pc = some (.invokespecial idx, 3)) (hm : (M.1.1, idx, M'.2.1, host) ∈ ab_nq) (ok : ab_OK M' n) (hk : Cond.instanceMethod M'.2.1 ∈ ab_T) (hini : M'.2.1.name = "<init>") (hret : M'.2.2.2.2.1 = none)
    (ct : ab_CT G d M' true (.ref (h.length + i) :: as) (h.set a y ++ t) mc ms (fun r h' => r = none ∧ h' = (h.set a y ++ t).set (h.length + i) (z (h.set a y ++ t).length) ++ w (h.set a y ++ t).length)) (hst : st = as.reverse ++ .ref (h.length + i) :: rest) (hn : as.length = n) (hsum : (rest.map fun v => v.category).sum ≤ 8) (hR : d + 1 ≤ R.frames ∧ 64 * d + 64 ≤ R.locals ∧ cells + mc ≤ R.cells ∧ slots + ms ≤ R.slots)
    (k : ab_R G M true n0 p e R s m args below meth c Q (cells + mc) (slots + ms) (pc + 3) L rest (h.set a y ++ (t.set i (z (h.length + t.length)) ++ w (h.length + t.length)))) : ab_R G M true n0 p e R s m args below meth c Q cells slots pc L st (h.set a y ++ t) := by
  refine ab_callN C row hm ok hk hini hret ct hst hn hsum hR ?_
  rintro r h' ⟨rfl, rfl⟩
  rw [nw_setT, List.append_assoc, nw_len]
  exact k
end NW5

