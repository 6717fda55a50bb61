/-! ===== constructors: steps over a world that grows behind ===== -/
section NW
variable {G : ab_G} {M : ab_MD} {fr : Bool} {n0 : Nat} {p : Program} {e : Env} {R : Room} {s : State} {m : MethodId} {args : Array Value} {below : List Frame} {meth : Method} {c : Code} {Q : State → Prop} {cells slots pc : Nat} {L : List (Option Value)} {st : List Value} {h t : ab_H}
theorem nw_get {a : Nat} {x y : ab_E} (he : h[a]? = some x) : (h.set a y ++ t)[a]? = some y := by
  have hl : a < h.length := (List.getElem?_eq_some_iff.mp he).1
  rw [List.getElem?_append_left (by rw [List.length_set]; exact hl), List.getElem?_set_self hl]
theorem nw_set {a : Nat} {x y z : ab_E} (he : h[a]? = some x) : (h.set a y ++ t).set a z = h.set a z ++ t := by
  have hl : a < h.length := (List.getElem?_eq_some_iff.mp he).1
  rw [List.set_append_left _ _ (by rw [List.length_set]; exact hl), List.set_set]
/-- a field of the object that is being made -/
theorem nw_put {a i ci : Nat} {x : ab_E} {v : Value} {fs fs' : List Value} {g : Prop} (C : ab_C G M p s m args meth c) (row : ab_lk M.2.2.2.2.2.2 pc = some (.putfield i, 3)) (he : h[a]? = some x)
    (hf : ab_pf M.1.2.1 M.2.2.2.2.2.1 (ab_lk M.1.2.2.1 i) a v (some (.inr (ci, fs))) (pc + 3) L st (h.set a (.inr (ci, fs)) ++ t) = some (g, pc + 3, L, st, (h.set a (.inr (ci, fs)) ++ t).set a (.inr (ci, fs')))) (hg : g)
    (k : ab_R G M fr n0 p e R s m args below meth c Q cells slots (pc + 3) L st (h.set a (.inr (ci, fs')) ++ t)) : ab_R G M fr n0 p e R s m args below meth c Q cells slots pc L (v :: .ref a :: st) (h.set a (.inr (ci, fs)) ++ t) := by
  refine ab_stepG (pc' := pc + 3) (L' := L) (st' := st) (h' := (h.set a (.inr (ci, fs)) ++ t).set a (.inr (ci, fs'))) C ?_ hg (by rw [nw_set he]; exact k)
  unfold ab_st
  rw [row]
  show ab_pf M.1.2.1 M.2.2.2.2.2.1 (ab_lk M.1.2.2.1 i) a v (h.set a (.inr (ci, fs)) ++ t)[a]? (pc + 3) L st (h.set a (.inr (ci, fs)) ++ t) = _
  rw [nw_get he]
  exact hf
end NW

