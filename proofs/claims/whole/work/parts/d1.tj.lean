/-! ===== java.util.Arrays.fill over any world ===== -/
def flH (h : ab_H) (q N : Nat) (v : Int32) (f : Nat → Int32) (i : Nat) : ab_H := h.set q (.inl (0, N, .inl (fun j => if j < i then v else f j)))
theorem fl_get {h : ab_H} {q N i : Nat} {v : Int32} {f : Nat → Int32} {x : ab_E} (he : h[q]? = some x) : (flH h q N v f i)[q]? = some (.inl (0, N, .inl (fun j => if j < i then v else f j))) := by
  unfold flH
  rw [List.getElem?_set_self (List.getElem?_eq_some_iff.mp he).1]
theorem st_len {M : ab_MD} {pc q N : Nat} {L : List (Option Value)} {st : List Value} {h : ab_H} {f : Nat → Int32} (row : ab_lk M.2.2.2.2.2.2 pc = some (.arraylength, 1)) (he : h[q]? = some (.inl (0, N, .inl f))) : ab_st M pc L (.ref q :: st) h = some (True, pc + 1, L, .int (nI N) :: st, h) := by
  unfold ab_st
  rw [row]
  show ab_mv M 1 pc L h .arraylength (.ref q :: st) = _
  simp only [ab_mv, he]
theorem st_ias {M : ab_MD} {pc q N : Nat} {L : List (Option Value)} {st : List Value} {h : ab_H} {f : Nat → Int32} {i x : Int32} (row : ab_lk M.2.2.2.2.2.2 pc = some (.iastore, 1)) (he : h[q]? = some (.inl (0, N, .inl f))) : ab_st M pc L (.int x :: .int i :: .ref q :: st) h = some (vp_in i N, pc + 1, L, st, h.set q (.inl (0, N, .inl (upd f i.toNatClampNeg x)))) := by
  unfold ab_st
  rw [row]
  show ab_mv M 1 pc L h .iastore (.int x :: .int i :: .ref q :: st) = _
  simp only [ab_mv, he]
theorem fl_up {v : Int32} {f : Nat → Int32} {i : Nat} (hi : i < 2 ^ 30) : upd (fun j => if j < i then v else f j) (nI i).toNatClampNeg v = fun j => if j < i + 1 then v else f j := by
  rw [show (nI i).toNatClampNeg = i from nI_clamp (by omega)]
  funext j
  unfold upd
  by_cases h1 : j = i
  · rw [if_pos h1, if_pos (by omega)]
  · rw [if_neg h1]
    show (if j < i then v else f j) = _
    by_cases h2 : j < i
    · rw [if_pos h2, if_pos (by omega)]
    · rw [if_neg h2, if_neg (by omega)]
theorem k_fill {G : ab_G} {fr : Bool} {q N : Nat} {v : Int32} {f : Nat → Int32} {h : ab_H} (hN : N < 2 ^ 30) (he : h[q]? = some (.inl (0, N, .inl f))) : ab_CT G 1 M_J7_fill fr [.ref q, .int v] h 0 0 (fun r h' => r = none ∧ h' = flH h q N v f N) := by
  refine wp_ct o_J7_fill (Nat.le_of_ble_eq_true rfl) ?_
  have e0 : h = flH h q N v f 0 := by
    unfold flH
    exact (pc_set (by rw [he]; rfl)).symm
  generalize h.length = n0
  iterate 3 refine wp_s rfl ?_
  refine wp_s (st_len rfl he) ?_
  refine wp_s rfl ?_
  suffices key : wp G 1 M_J7_fill fr n0 (fun r h' => r = none ∧ h' = flH h q N v f N) 5 [some (.ref q), some (.int v), some (.int (nI 0)), some (.int (nI N))] [] (flH h q N v f 0) by
    rw [← e0] at key
    exact key
  refine wp_down N (fun i => [some (.ref q), some (.int v), some (.int (nI i)), some (.int (nI N))]) (fun i => flH h q N v f i) ?_ ?_
  · iterate 3 refine wp_s rfl ?_
    refine wp_ite (fun _ => ?_) (fun z => absurd (nI_le (Nat.le_refl N) (by omega)) z)
    exact wp_rv rfl rfl ⟨rfl, rfl⟩
  · intro i hi k
    iterate 3 refine wp_s rfl ?_
    refine wp_ite (fun z => absurd z (nI_ge hi (by omega))) (fun _ => ?_)
    iterate 3 refine wp_s rfl ?_
    refine wp_g (st_ias rfl (fl_get he)) (vp_in_nI hi (by omega)) ?_
    iterate 2 refine wp_s rfl ?_
    rw [show (flH h q N v f i).set q (.inl (0, N, .inl (upd (fun j => if j < i then v else f j) (nI i).toNatClampNeg v))) = flH h q N v f (i + 1) by rw [fl_up (by omega)]; unfold flH; rw [List.set_set]]
    refine wp_eqL ?_ k
    show [some (Value.ref q), some (Value.int v), some (Value.int (nI (i + 1))), some (Value.int (nI N))] = [some (Value.ref q), some (Value.int v), some (Value.int (nI i + 1)), some (Value.int (nI N))]
    rw [nI_succ]

