/-! ===== the law's case of piece ===== -/
theorem SS_L : Cond.static yL_piece ∈ ab_T := ab_T_in (tb_c_in 6 _ (List.mem_of_getElem? (i := 131) (rfl : (tb_c 6)[131]? = some (Cond.static yL_piece)))) rfl
theorem st_lal {M : ab_MD} {pc q N : Nat} {L : List (Option Value)} {st : List Value} {h : ab_H} {f : Nat → Int64} {i : Int32} (row : ab_lk M.2.2.2.2.2.2 pc = some (.laload, 1)) (he : h[q]? = some (.inl (1, N, .inr (.inl f)))) : ab_st M pc L (.int i :: .ref q :: st) h = some (vp_in i N, pc + 1, L, .long (f i.toNatClampNeg) :: st, h) := by
  unfold ab_st
  rw [row]
  show ab_mv M 1 pc L h .laload (.int i :: .ref q :: st) = _
  simp only [ab_mv, he]
theorem mo_get (Sm : ms_S) (x : ab_E) : (mT Sm ++ [x])[41]? = some x := by
  rw [List.getElem?_append_right (by rw [mT_len]; exact Nat.le_refl _), mT_len]
  rfl
theorem mo_set (Sm : ms_S) (x y : ab_E) : (mT Sm ++ [x]).set 41 y = mT Sm ++ [y] := by
  rw [List.set_append_right _ _ (by rw [mT_len]; exact Nat.le_refl _), mT_len]
  rfl
theorem mo_at (S Sm : ms_S) (x : ab_E) : (hLy lB S (mT Sm ++ [x]))[216]? = some x := by
  show (ms_h S 0 lB ++ (mT Sm ++ [x]))[216]? = _
  rw [List.getElem?_append_right (by rw [hB_len]; decide), hB_len]
  exact mo_get Sm x
section LCP
variable {G : ab_G} {n0 : Nat} {p : Program} {e : Env} {R : Room} {s : State} {m : MethodId} {args : Array Value} {below : List Frame} {meth : Method} {c : Code} {Q : State → Prop} {cells slots : Nat} {b Lx : Nat} {xs : Nat → Int32} {i : Nat} {l5 l6 : Option Value} {S Sm : ms_S} {g : tSG} {o : Nat → Option tDQ} {V : Nat} {f : Nat → Int64}
set_option maxRecDepth 100000 in
set_option maxHeartbeats 4000000 in
theorem l_c4 (E : lpC G p s m args meth c b Lx xs) (hR : lpR R cells slots) (hR2 : lpR R (cells + 1) (slots + 6)) (hi : i + 6 ≤ Lx) (hfl : G.1.flags = pinnedFlags ++ [noTraceFlag]) (hWl : pc_Wl s) (hA : ∀ q, ab_A G q → ∃ k, k < 217 ∧ q = ab_ad G k) (hns : ∀ (q : Nat) (cell : Cell), ab_A G q → s.heap[q]? = some cell → cell.vm.isStatics = false) (hI : lpI S Sm g o V)
    (k : ∀ S' Sm' f' l5' l6', lpI S' Sm' g o (V + 5000) → ab_R G M_L_law false n0 p e R s m args below meth c Q (cells + 1) (slots + 6) 1577 (lpL i l5' l6') [] (lpH S' Sm' f')) : ab_R G M_L_law false n0 p e R s m args below meth c Q cells slots 372 (lpL i l5 l6) [] (lpH S Sm f) := by
  obtain ⟨hQ, hM9, hB⟩ := hI
  refine ab_step E.1 rfl ?_
  refine l_arg 1 E rfl rfl rfl rfl rfl rfl (by omega) ?_
  refine l_arg 2 E rfl rfl rfl rfl rfl rfl (by omega) ?_
  refine ab_step E.1 rfl ?_
  have hlen : (hLy lB S (mT Sm ++ [.inl (1, 1, .inr (.inl f))])).length = 217 := by
    show (ms_h S 0 lB ++ (mT Sm ++ ([.inl (1, 1, .inr (.inl f))] : ab_H))).length = _
    rw [List.length_append, List.length_append, hB_len, mT_len]
    rfl
  refine pc_call (idx := 39) (as := [.ref 0, .int (xs (i + 1)), .int (xs (i + 2)), .ref (175 + 41)]) (rest := []) E.1 rfl rfl SS_L hWl hns (d_Lpiece hfl (fun q hq => by rw [hlen]; exact hA q hq) hQ (xs (i + 1)) (xs (i + 2)) (mo_get Sm _)) rfl rfl (Nat.le_of_ble_eq_true rfl) ⟨by have := hR.1; omega, by have := hR.2.1; omega, hR.2.2.1, hR.2.2.2⟩ ?_
  rintro r9 h9 ⟨rfl, S', f', q1, e9, q3⟩
  rw [mo_set] at e9
  subst e9
  refine ab_step E.1 rfl ?_
  refine ab_step E.1 rfl ?_
  suffices KK : ∀ l5' : Option Value, l5' = some (.int (nI (A_piece g.1 (xs (i + 1)) (xs (i + 2))).2)) → ab_R G M_L_law false n0 p e R s m args below meth c Q (cells + 1) (slots + 6) 392 (lpL i l5' l6) [.ref 175] (lpH S' Sm f') from KK _ rfl
  intro l5' hl5
  refine l_arg 1 E rfl rfl rfl rfl rfl rfl (by omega) ?_
  refine l_arg 2 E rfl rfl rfl rfl rfl rfl (by omega) ?_
  subst hl5
  obtain ⟨fs9, e9⟩ := hB_m S' Sm [.inl (1, 1, .inr (.inl f'))]
  refine l_cV (M' := M_X12_piece) E hR2 (by decide) rfl rfl o_X12_piece v_X12_piece (trI (as' := [.ref 0, .int (xs (i + 1)), .int (xs (i + 2))]) rfl (fun G' => rf_piece hM9 (xs (i + 1)) (xs (i + 2)))) e9 (as := [.int (xs (i + 1)), .int (xs (i + 2))]) (rest := []) rfl rfl (Nat.le_of_ble_eq_true rfl) ?_
  rintro r9 h9 ⟨v, T, rfl, rfl, q2, rfl⟩
  refine ab_step E.1 rfl ?_
  refine ab_step E.1 rfl ?_
  obtain ⟨fs8, e8⟩ := hB_m S' T [.inl (1, 1, .inr (.inl f'))]
  refine l_cV (M' := M_X12_thrown) E hR2 (by decide) rfl rfl o_X12_thrown v_X12_thrown (trI (as' := [.ref 0]) rfl (fun G' => rf_thrown)) e8 (as := []) (rest := []) rfl rfl (Nat.le_of_ble_eq_true rfl) ?_
  rintro r9 h9 ⟨v, T2, rfl, rfl, rfl, ev⟩
  have ev : v = nI (A_piece g.1 (xs (i + 1)) (xs (i + 2))).2 := ev.trans q2.2
  have hlp : lpI S' T2 g o (V + 5000) := ⟨q1, q2.1, lb_m hB⟩
  refine ab_step E.1 rfl ?_
  refine ab_step E.1 rfl ?_
  refine ab_ite (fun _ => ?_) (fun z => absurd ev z)
  refine ab_step E.1 rfl ?_
  refine ab_step E.1 rfl ?_
  refine ab_ite (fun z => ?_) (fun z => ?_)
  · refine ab_step E.1 rfl ?_
    refine ab_step E.1 rfl ?_
    refine ab_stepG E.1 (st_lal rfl (mo_at S' T2 _)) (by unfold vp_in; decide) ?_
    refine ab_step E.1 rfl ?_
    refine ab_step E.1 rfl ?_
    refine ab_step E.1 rfl ?_
    refine ab_step E.1 rfl ?_
    have h0 : (A_piece g.1 (xs (i + 1)) (xs (i + 2))).2 = 0 := by
      rcases pc_le2 g.1 (xs (i + 1)) (xs (i + 2)) with h | h | h
      · exact h
      · rw [h] at z; exact absurd z (by decide)
      · rw [h] at z; exact absurd z (by decide)
    refine ab_ite (fun _ => ?_) (fun y => absurd ?_ y)
    · refine ab_step E.1 rfl ?_
      exact k S' T2 f' _ _ hlp
    · show lg_cmp (f' 0) (A_piece g.1 (xs (i + 1)) (xs (i + 2))).1.toInt64 = 0
      rw [q3 h0]
      exact l_cmp _
  · refine ab_step E.1 rfl ?_
    exact k S' T2 f' _ _ hlp
end LCP

