/-! ===== the law's cases 13 to 25 (printed by wip/tools/mkdj.py) ===== -/
section LCS
variable {G : ab_G} {n0 : Nat} {p : Program} {e : Env} {R : Room} {s : State} {m : MethodId} {args : Array Value} {below : List Frame} {meth : Method} {c : Code} {Q : State → Prop} {cells slots : Nat} {b Lx : Nat} {xs : Nat → Int32} {i : Nat} {l5 l6 : Option Value} {S Sm : ms_S} {g : tSG} {o : Nat → Option tDQ} {V : Nat} {f : Nat → Int64}
set_option maxRecDepth 100000 in
set_option maxHeartbeats 2000000 in
theorem l_c13 (E : lpC G p s m args meth c b Lx xs) (hR : lpR R cells slots) (hi : i + 6 ≤ Lx) (hV : V + 5000 < 2 ^ 30) (hI : lpI S Sm g o V) (k : ∀ S' Sm' g' o', lpI S' Sm' g' o' (V + 5000) → ab_R G M_L_law false n0 p e R s m args below meth c Q cells slots 1577 (lpL i l5 l6) [] (lpH S' Sm' f)) : ab_R G M_L_law false n0 p e R s m args below meth c Q cells slots 737 (lpL i l5 l6) [] (lpH S Sm f) := by
  obtain ⟨hQ, hM9, hB⟩ := hI
  refine ab_step E.1 rfl ?_
  refine l_arg 1 E rfl rfl rfl rfl rfl rfl (by omega) ?_
  refine l_cV (M' := M_X11_lays) E hR (by decide) rfl rfl o_X11_lays v_X11_lays (d_lays hQ hV hB.1 (xs (i + 1))) rfl (as := [.int (xs (i + 1))]) (rest := []) rfl rfl (Nat.le_of_ble_eq_true rfl) ?_
  rintro r9 h9 ⟨v, S', rfl, rfl, q1, rfl⟩
  refine ab_step E.1 rfl ?_
  refine l_arg 1 E rfl rfl rfl rfl rfl rfl (by omega) ?_
  obtain ⟨fs9, e9⟩ := hB_m S' Sm [.inl (1, 1, .inr (.inl f))]
  refine l_cV (M' := M_X12_lays) E hR (by decide) rfl rfl o_X12_lays v_X12_lays (trI (as' := [.ref 0, .int (xs (i + 1))]) rfl (fun G' => rf_Q hM9 (c_lays G' false Sm [] g.1 hM9.1 (xs (i + 1))))) e9 (as := [.int (xs (i + 1))]) (rest := [.int _]) rfl rfl (Nat.le_of_ble_eq_true rfl) ?_
  rintro r9 h9 ⟨v, T, rfl, rfl, q2, rfl⟩
  refine ab_step E.1 rfl ?_
  refine ab_ite (fun _ => ?_) (fun z => absurd rfl z)
  exact k S' T _ _ ⟨q1, q2.1, lb_m hB⟩
set_option maxRecDepth 100000 in
set_option maxHeartbeats 2000000 in
theorem l_c14 (E : lpC G p s m args meth c b Lx xs) (hR : lpR R cells slots) (hi : i + 6 ≤ Lx) (hV : V + 5000 < 2 ^ 30) (hI : lpI S Sm g o V) (k : ∀ S' Sm' g' o', lpI S' Sm' g' o' (V + 5000) → ab_R G M_L_law false n0 p e R s m args below meth c Q cells slots 1577 (lpL i l5 l6) [] (lpH S' Sm' f)) : ab_R G M_L_law false n0 p e R s m args below meth c Q cells slots 762 (lpL i l5 l6) [] (lpH S Sm f) := by
  obtain ⟨hQ, hM9, hB⟩ := hI
  refine ab_step E.1 rfl ?_
  refine l_arg 1 E rfl rfl rfl rfl rfl rfl (by omega) ?_
  refine l_cV (M' := M_X11_rows) E hR (by decide) rfl rfl o_X11_rows v_X11_rows (d_rows hQ hV (xs (i + 1))) rfl (as := [.int (xs (i + 1))]) (rest := []) rfl rfl (Nat.le_of_ble_eq_true rfl) ?_
  rintro r9 h9 ⟨v, S', rfl, rfl, q1, rfl⟩
  refine ab_step E.1 rfl ?_
  refine l_arg 1 E rfl rfl rfl rfl rfl rfl (by omega) ?_
  obtain ⟨fs9, e9⟩ := hB_m S' Sm [.inl (1, 1, .inr (.inl f))]
  refine l_cV (M' := M_X12_rows) E hR (by decide) rfl rfl o_X12_rows v_X12_rows (trL (as' := [.ref 0, .int (xs (i + 1))]) rfl (fun G' => c_rows G' false Sm [] g hM9 (xs (i + 1)))) e9 (as := [.int (xs (i + 1))]) (rest := [.long _]) rfl rfl (Nat.le_of_ble_eq_true rfl) ?_
  rintro r9 h9 ⟨v, T, rfl, rfl, q2, rfl⟩
  refine ab_step E.1 rfl ?_
  refine ab_step E.1 rfl ?_
  refine ab_ite (fun _ => ?_) (fun z => absurd (l_cmp _) z)
  exact k S' T _ _ ⟨q1, q2.1, lb_m hB⟩
set_option maxRecDepth 100000 in
set_option maxHeartbeats 2000000 in
theorem l_c15 (E : lpC G p s m args meth c b Lx xs) (hR : lpR R cells slots) (hi : i + 6 ≤ Lx) (hV : V + 5000 < 2 ^ 30) (hI : lpI S Sm g o V) (k : ∀ S' Sm' g' o', lpI S' Sm' g' o' (V + 5000) → ab_R G M_L_law false n0 p e R s m args below meth c Q cells slots 1577 (lpL i l5 l6) [] (lpH S' Sm' f)) : ab_R G M_L_law false n0 p e R s m args below meth c Q cells slots 788 (lpL i l5 l6) [] (lpH S Sm f) := by
  obtain ⟨hQ, hM9, hB⟩ := hI
  refine ab_step E.1 rfl ?_
  refine l_arg 1 E rfl rfl rfl rfl rfl rfl (by omega) ?_
  refine l_arg 2 E rfl rfl rfl rfl rfl rfl (by omega) ?_
  refine l_cV (M' := M_X11_firstRow) E hR (by decide) rfl rfl o_X11_firstRow v_X11_firstRow (d_firstRow hQ hV (xs (i + 1)) (xs (i + 2))) rfl (as := [.int (xs (i + 1)), .int (xs (i + 2))]) (rest := []) rfl rfl (Nat.le_of_ble_eq_true rfl) ?_
  rintro r9 h9 ⟨v, S', rfl, rfl, q1, rfl⟩
  refine ab_step E.1 rfl ?_
  refine l_arg 1 E rfl rfl rfl rfl rfl rfl (by omega) ?_
  refine l_arg 2 E rfl rfl rfl rfl rfl rfl (by omega) ?_
  obtain ⟨fs9, e9⟩ := hB_m S' Sm [.inl (1, 1, .inr (.inl f))]
  refine l_cV (M' := M_X12_firstRow) E hR (by decide) rfl rfl o_X12_firstRow v_X12_firstRow (trI (as' := [.ref 0, .int (xs (i + 1)), .int (xs (i + 2))]) rfl (fun G' => c_firstRow G' false Sm [] g hM9 (xs (i + 1)) (xs (i + 2)))) e9 (as := [.int (xs (i + 1)), .int (xs (i + 2))]) (rest := [.int _]) rfl rfl (Nat.le_of_ble_eq_true rfl) ?_
  rintro r9 h9 ⟨v, T, rfl, rfl, q2, rfl⟩
  refine ab_step E.1 rfl ?_
  refine ab_ite (fun _ => ?_) (fun z => absurd rfl z)
  exact k S' T _ _ ⟨q1, q2.1, lb_m hB⟩
set_option maxRecDepth 100000 in
set_option maxHeartbeats 2000000 in
theorem l_c16 (E : lpC G p s m args meth c b Lx xs) (hR : lpR R cells slots) (hi : i + 6 ≤ Lx) (hV : V + 5000 < 2 ^ 30) (hI : lpI S Sm g o V) (k : ∀ S' Sm' g' o', lpI S' Sm' g' o' (V + 5000) → ab_R G M_L_law false n0 p e R s m args below meth c Q cells slots 1577 (lpL i l5 l6) [] (lpH S' Sm' f)) : ab_R G M_L_law false n0 p e R s m args below meth c Q cells slots 825 (lpL i l5 l6) [] (lpH S Sm f) := by
  obtain ⟨hQ, hM9, hB⟩ := hI
  refine ab_step E.1 rfl ?_
  refine l_arg 1 E rfl rfl rfl rfl rfl rfl (by omega) ?_
  refine l_arg 2 E rfl rfl rfl rfl rfl rfl (by omega) ?_
  refine l_cV (M' := M_X11_dearest) E hR (by decide) rfl rfl o_X11_dearest v_X11_dearest (d_dearest hQ hV (xs (i + 1)) (xs (i + 2))) rfl (as := [.int (xs (i + 1)), .int (xs (i + 2))]) (rest := []) rfl rfl (Nat.le_of_ble_eq_true rfl) ?_
  rintro r9 h9 ⟨v, S', rfl, rfl, q1, rfl⟩
  refine ab_step E.1 rfl ?_
  refine l_arg 1 E rfl rfl rfl rfl rfl rfl (by omega) ?_
  refine l_arg 2 E rfl rfl rfl rfl rfl rfl (by omega) ?_
  obtain ⟨fs9, e9⟩ := hB_m S' Sm [.inl (1, 1, .inr (.inl f))]
  refine l_cV (M' := M_X12_dearest) E hR (by decide) rfl rfl o_X12_dearest v_X12_dearest (trI (as' := [.ref 0, .int (xs (i + 1)), .int (xs (i + 2))]) rfl (fun G' => rf_Q hM9 (c_dearest G' false Sm [] g.1 hM9.1 (xs (i + 1)) (xs (i + 2))))) e9 (as := [.int (xs (i + 1)), .int (xs (i + 2))]) (rest := [.int _]) rfl rfl (Nat.le_of_ble_eq_true rfl) ?_
  rintro r9 h9 ⟨v, T, rfl, rfl, q2, rfl⟩
  refine ab_step E.1 rfl ?_
  refine ab_ite (fun _ => ?_) (fun z => absurd rfl z)
  exact k S' T _ _ ⟨q1, q2.1, lb_m hB⟩
set_option maxRecDepth 100000 in
set_option maxHeartbeats 2000000 in
theorem l_c17 (E : lpC G p s m args meth c b Lx xs) (hR : lpR R cells slots) (hi : i + 6 ≤ Lx) (hV : V + 5000 < 2 ^ 30) (hI : lpI S Sm g o V) (k : ∀ S' Sm' g' o', lpI S' Sm' g' o' (V + 5000) → ab_R G M_L_law false n0 p e R s m args below meth c Q cells slots 1577 (lpL i l5 l6) [] (lpH S' Sm' f)) : ab_R G M_L_law false n0 p e R s m args below meth c Q cells slots 862 (lpL i l5 l6) [] (lpH S Sm f) := by
  obtain ⟨hQ, hM9, hB⟩ := hI
  refine ab_step E.1 rfl ?_
  refine l_arg 1 E rfl rfl rfl rfl rfl rfl (by omega) ?_
  refine l_cV (M' := M_X11_closed) E hR (by decide) rfl rfl o_X11_closed v_X11_closed (d_closed hQ hV (xs (i + 1))) rfl (as := [.int (xs (i + 1))]) (rest := []) rfl rfl (Nat.le_of_ble_eq_true rfl) ?_
  rintro r9 h9 ⟨v, S', rfl, rfl, q1, rfl⟩
  refine ab_step E.1 rfl ?_
  refine l_arg 1 E rfl rfl rfl rfl rfl rfl (by omega) ?_
  obtain ⟨fs9, e9⟩ := hB_m S' Sm [.inl (1, 1, .inr (.inl f))]
  refine l_cV (M' := M_X12_closed) E hR (by decide) rfl rfl o_X12_closed v_X12_closed (trL (as' := [.ref 0, .int (xs (i + 1))]) rfl (fun G' => c_closed G' false Sm [] g hM9 (xs (i + 1)))) e9 (as := [.int (xs (i + 1))]) (rest := [.long _]) rfl rfl (Nat.le_of_ble_eq_true rfl) ?_
  rintro r9 h9 ⟨v, T, rfl, rfl, q2, rfl⟩
  refine ab_step E.1 rfl ?_
  refine ab_step E.1 rfl ?_
  refine ab_ite (fun _ => ?_) (fun z => absurd (l_cmp _) z)
  exact k S' T _ _ ⟨q1, q2.1, lb_m hB⟩
set_option maxRecDepth 100000 in
set_option maxHeartbeats 2000000 in
theorem l_c18 (E : lpC G p s m args meth c b Lx xs) (hR : lpR R cells slots) (hi : i + 6 ≤ Lx) (hV : V + 5000 < 2 ^ 30) (hI : lpI S Sm g o V) (k : ∀ S' Sm' g' o', lpI S' Sm' g' o' (V + 5000) → ab_R G M_L_law false n0 p e R s m args below meth c Q cells slots 1577 (lpL i l5 l6) [] (lpH S' Sm' f)) : ab_R G M_L_law false n0 p e R s m args below meth c Q cells slots 888 (lpL i l5 l6) [] (lpH S Sm f) := by
  obtain ⟨hQ, hM9, hB⟩ := hI
  refine ab_step E.1 rfl ?_
  refine l_arg 1 E rfl rfl rfl rfl rfl rfl (by omega) ?_
  refine l_cV (M' := M_X11_fewest) E hR (by decide) rfl rfl o_X11_fewest v_X11_fewest (d_fewest hQ hV (xs (i + 1))) rfl (as := [.int (xs (i + 1))]) (rest := []) rfl rfl (Nat.le_of_ble_eq_true rfl) ?_
  rintro r9 h9 ⟨v, S', rfl, rfl, q1, rfl⟩
  refine ab_step E.1 rfl ?_
  refine l_arg 1 E rfl rfl rfl rfl rfl rfl (by omega) ?_
  obtain ⟨fs9, e9⟩ := hB_m S' Sm [.inl (1, 1, .inr (.inl f))]
  refine l_cV (M' := M_X12_fewest) E hR (by decide) rfl rfl o_X12_fewest v_X12_fewest (trI (as' := [.ref 0, .int (xs (i + 1))]) rfl (fun G' => c_fewest G' false Sm [] g hM9 (xs (i + 1)))) e9 (as := [.int (xs (i + 1))]) (rest := [.int _]) rfl rfl (Nat.le_of_ble_eq_true rfl) ?_
  rintro r9 h9 ⟨v, T, rfl, rfl, q2, rfl⟩
  refine ab_step E.1 rfl ?_
  refine ab_ite (fun _ => ?_) (fun z => absurd rfl z)
  exact k S' T _ _ ⟨q1, q2.1, lb_m hB⟩
set_option maxRecDepth 100000 in
set_option maxHeartbeats 2000000 in
theorem l_c19 (E : lpC G p s m args meth c b Lx xs) (hR : lpR R cells slots) (hi : i + 6 ≤ Lx) (hV : V + 5000 < 2 ^ 30) (hI : lpI S Sm g o V) (k : ∀ S' Sm' g' o', lpI S' Sm' g' o' (V + 5000) → ab_R G M_L_law false n0 p e R s m args below meth c Q cells slots 1577 (lpL i l5 l6) [] (lpH S' Sm' f)) : ab_R G M_L_law false n0 p e R s m args below meth c Q cells slots 913 (lpL i l5 l6) [] (lpH S Sm f) := by
  obtain ⟨hQ, hM9, hB⟩ := hI
  refine ab_step E.1 rfl ?_
  refine l_arg 1 E rfl rfl rfl rfl rfl rfl (by omega) ?_
  refine l_arg 2 E rfl rfl rfl rfl rfl rfl (by omega) ?_
  refine l_cV (M' := M_X11_shape) E hR (by decide) rfl rfl o_X11_shape v_X11_shape (d_shape hQ (xs (i + 1)) (xs (i + 2))) rfl (as := [.int (xs (i + 1)), .int (xs (i + 2))]) (rest := []) rfl rfl (Nat.le_of_ble_eq_true rfl) ?_
  rintro r9 h9 ⟨v, S', rfl, rfl, q1, rfl⟩
  refine ab_step E.1 rfl ?_
  refine l_arg 1 E rfl rfl rfl rfl rfl rfl (by omega) ?_
  refine l_arg 2 E rfl rfl rfl rfl rfl rfl (by omega) ?_
  obtain ⟨fs9, e9⟩ := hB_m S' Sm [.inl (1, 1, .inr (.inl f))]
  refine l_cV (M' := M_X12_shape) E hR (by decide) rfl rfl o_X12_shape v_X12_shape (trI (as' := [.ref 0, .int (xs (i + 1)), .int (xs (i + 2))]) rfl (fun G' => c_shape G' false Sm [] g hM9 (xs (i + 1)) (xs (i + 2)))) e9 (as := [.int (xs (i + 1)), .int (xs (i + 2))]) (rest := [.int _]) rfl rfl (Nat.le_of_ble_eq_true rfl) ?_
  rintro r9 h9 ⟨v, T, rfl, rfl, q2, rfl⟩
  refine ab_step E.1 rfl ?_
  refine ab_ite (fun _ => ?_) (fun z => absurd rfl z)
  exact k S' T _ _ ⟨q1, q2.1, lb_m hB⟩
set_option maxRecDepth 100000 in
set_option maxHeartbeats 2000000 in
theorem l_c20 (E : lpC G p s m args meth c b Lx xs) (hR : lpR R cells slots) (hi : i + 6 ≤ Lx) (hV : V + 5000 < 2 ^ 30) (hI : lpI S Sm g o V) (k : ∀ S' Sm' g' o', lpI S' Sm' g' o' (V + 5000) → ab_R G M_L_law false n0 p e R s m args below meth c Q cells slots 1577 (lpL i l5 l6) [] (lpH S' Sm' f)) : ab_R G M_L_law false n0 p e R s m args below meth c Q cells slots 950 (lpL i l5 l6) [] (lpH S Sm f) := by
  obtain ⟨hQ, hM9, hB⟩ := hI
  refine ab_step E.1 rfl ?_
  refine l_arg 1 E rfl rfl rfl rfl rfl rfl (by omega) ?_
  refine l_cV (M' := M_X11_swaps) E hR (by decide) rfl rfl o_X11_swaps v_X11_swaps (d_swaps hQ hV (xs (i + 1))) rfl (as := [.int (xs (i + 1))]) (rest := []) rfl rfl (Nat.le_of_ble_eq_true rfl) ?_
  rintro r9 h9 ⟨v, S', rfl, rfl, q1, rfl⟩
  refine ab_step E.1 rfl ?_
  refine l_arg 1 E rfl rfl rfl rfl rfl rfl (by omega) ?_
  obtain ⟨fs9, e9⟩ := hB_m S' Sm [.inl (1, 1, .inr (.inl f))]
  refine l_cV (M' := M_X12_swaps) E hR (by decide) rfl rfl o_X12_swaps v_X12_swaps (trI (as' := [.ref 0, .int (xs (i + 1))]) rfl (fun G' => c_swaps G' false Sm [] g hM9 (xs (i + 1)))) e9 (as := [.int (xs (i + 1))]) (rest := [.int _]) rfl rfl (Nat.le_of_ble_eq_true rfl) ?_
  rintro r9 h9 ⟨v, T, rfl, rfl, q2, rfl⟩
  refine ab_step E.1 rfl ?_
  refine ab_ite (fun _ => ?_) (fun z => absurd rfl z)
  exact k S' T _ _ ⟨q1, q2.1, lb_m hB⟩
set_option maxRecDepth 100000 in
set_option maxHeartbeats 2000000 in
theorem l_c21 (E : lpC G p s m args meth c b Lx xs) (hR : lpR R cells slots) (hi : i + 6 ≤ Lx) (hV : V + 5000 < 2 ^ 30) (hI : lpI S Sm g o V) (k : ∀ S' Sm' g' o', lpI S' Sm' g' o' (V + 5000) → ab_R G M_L_law false n0 p e R s m args below meth c Q cells slots 1577 (lpL i l5 l6) [] (lpH S' Sm' f)) : ab_R G M_L_law false n0 p e R s m args below meth c Q cells slots 975 (lpL i l5 l6) [] (lpH S Sm f) := by
  obtain ⟨hQ, hM9, hB⟩ := hI
  refine ab_step E.1 rfl ?_
  refine l_arg 1 E rfl rfl rfl rfl rfl rfl (by omega) ?_
  refine l_cV (M' := M_X11_lacks) E hR (by decide) rfl rfl o_X11_lacks v_X11_lacks (d_lacks hQ hV (xs (i + 1))) rfl (as := [.int (xs (i + 1))]) (rest := []) rfl rfl (Nat.le_of_ble_eq_true rfl) ?_
  rintro r9 h9 ⟨v, S', rfl, rfl, q1, rfl⟩
  refine ab_step E.1 rfl ?_
  refine l_arg 1 E rfl rfl rfl rfl rfl rfl (by omega) ?_
  obtain ⟨fs9, e9⟩ := hB_m S' Sm [.inl (1, 1, .inr (.inl f))]
  refine l_cV (M' := M_X12_lacks) E hR (by decide) rfl rfl o_X12_lacks v_X12_lacks (trI (as' := [.ref 0, .int (xs (i + 1))]) rfl (fun G' => c_lacks G' false Sm [] g hM9 (xs (i + 1)))) e9 (as := [.int (xs (i + 1))]) (rest := [.int _]) rfl rfl (Nat.le_of_ble_eq_true rfl) ?_
  rintro r9 h9 ⟨v, T, rfl, rfl, q2, rfl⟩
  refine ab_step E.1 rfl ?_
  refine ab_ite (fun _ => ?_) (fun z => absurd rfl z)
  exact k S' T _ _ ⟨q1, q2.1, lb_m hB⟩
set_option maxRecDepth 100000 in
set_option maxHeartbeats 2000000 in
theorem l_c22 (E : lpC G p s m args meth c b Lx xs) (hR : lpR R cells slots) (hi : i + 6 ≤ Lx) (hV : V + 5000 < 2 ^ 30) (hI : lpI S Sm g o V) (k : ∀ S' Sm' g' o', lpI S' Sm' g' o' (V + 5000) → ab_R G M_L_law false n0 p e R s m args below meth c Q cells slots 1577 (lpL i l5 l6) [] (lpH S' Sm' f)) : ab_R G M_L_law false n0 p e R s m args below meth c Q cells slots 1000 (lpL i l5 l6) [] (lpH S Sm f) := by
  obtain ⟨hQ, hM9, hB⟩ := hI
  refine ab_step E.1 rfl ?_
  refine l_arg 1 E rfl rfl rfl rfl rfl rfl (by omega) ?_
  refine l_cV (M' := M_X11_tooMany) E hR (by decide) rfl rfl o_X11_tooMany v_X11_tooMany (d_tooMany hQ hV (xs (i + 1))) rfl (as := [.int (xs (i + 1))]) (rest := []) rfl rfl (Nat.le_of_ble_eq_true rfl) ?_
  rintro r9 h9 ⟨v, S', rfl, rfl, q1, rfl⟩
  refine ab_step E.1 rfl ?_
  refine l_arg 1 E rfl rfl rfl rfl rfl rfl (by omega) ?_
  obtain ⟨fs9, e9⟩ := hB_m S' Sm [.inl (1, 1, .inr (.inl f))]
  refine l_cV (M' := M_X12_tooMany) E hR (by decide) rfl rfl o_X12_tooMany v_X12_tooMany (trI (as' := [.ref 0, .int (xs (i + 1))]) rfl (fun G' => c_tooMany G' false Sm [] g hM9 (xs (i + 1)))) e9 (as := [.int (xs (i + 1))]) (rest := [.int _]) rfl rfl (Nat.le_of_ble_eq_true rfl) ?_
  rintro r9 h9 ⟨v, T, rfl, rfl, q2, rfl⟩
  refine ab_step E.1 rfl ?_
  refine ab_ite (fun _ => ?_) (fun z => absurd rfl z)
  exact k S' T _ _ ⟨q1, q2.1, lb_m hB⟩
set_option maxRecDepth 100000 in
set_option maxHeartbeats 2000000 in
theorem l_c23 (E : lpC G p s m args meth c b Lx xs) (hR : lpR R cells slots) (hi : i + 6 ≤ Lx) (hV : V + 5000 < 2 ^ 30) (hI : lpI S Sm g o V) (k : ∀ S' Sm' g' o', lpI S' Sm' g' o' (V + 5000) → ab_R G M_L_law false n0 p e R s m args below meth c Q cells slots 1577 (lpL i l5 l6) [] (lpH S' Sm' f)) : ab_R G M_L_law false n0 p e R s m args below meth c Q cells slots 1025 (lpL i l5 l6) [] (lpH S Sm f) := by
  obtain ⟨hQ, hM9, hB⟩ := hI
  refine ab_step E.1 rfl ?_
  refine l_cV (M' := M_X11_deal) E hR (by decide) rfl rfl o_X11_deal v_X11_deal (d_deal hQ hV) rfl (as := []) (rest := []) rfl rfl (Nat.le_of_ble_eq_true rfl) ?_
  rintro r9 h9 ⟨v, S', rfl, rfl, q1, rfl⟩
  refine ab_step E.1 rfl ?_
  obtain ⟨fs9, e9⟩ := hB_m S' Sm [.inl (1, 1, .inr (.inl f))]
  refine l_cV (M' := M_X12_deal) E hR (by decide) rfl rfl o_X12_deal v_X12_deal (trI (as' := [.ref 0]) rfl (fun G' => c_deal G' false Sm [] g hM9)) e9 (as := []) (rest := [.int _]) rfl rfl (Nat.le_of_ble_eq_true rfl) ?_
  rintro r9 h9 ⟨v, T, rfl, rfl, q2, rfl⟩
  refine ab_step E.1 rfl ?_
  refine ab_ite (fun _ => ?_) (fun z => absurd rfl z)
  exact k S' T _ _ ⟨q1, q2.1, lb_m hB⟩
set_option maxRecDepth 100000 in
set_option maxHeartbeats 2000000 in
theorem l_c24 (E : lpC G p s m args meth c b Lx xs) (hR : lpR R cells slots) (hi : i + 6 ≤ Lx) (hV : V + 5000 < 2 ^ 30) (hI : lpI S Sm g o V) (k : ∀ S' Sm' g' o', lpI S' Sm' g' o' (V + 5000) → ab_R G M_L_law false n0 p e R s m args below meth c Q cells slots 1577 (lpL i l5 l6) [] (lpH S' Sm' f)) : ab_R G M_L_law false n0 p e R s m args below meth c Q cells slots 1038 (lpL i l5 l6) [] (lpH S Sm f) := by
  obtain ⟨hQ, hM9, hB⟩ := hI
  refine ab_step E.1 rfl ?_
  refine l_arg 1 E rfl rfl rfl rfl rfl rfl (by omega) ?_
  refine l_arg 2 E rfl rfl rfl rfl rfl rfl (by omega) ?_
  refine l_arg 3 E rfl rfl rfl rfl rfl rfl (by omega) ?_
  refine l_cV (M' := M_X11_game) E hR (by decide) rfl rfl o_X11_game v_X11_game (d_game hQ hV (xs (i + 1)) (xs (i + 2)) (xs (i + 3))) rfl (as := [.int (xs (i + 1)), .int (xs (i + 2)), .int (xs (i + 3))]) (rest := []) rfl rfl (Nat.le_of_ble_eq_true rfl) ?_
  rintro r9 h9 ⟨v, S', rfl, rfl, q1, rfl⟩
  refine ab_step E.1 rfl ?_
  refine l_arg 1 E rfl rfl rfl rfl rfl rfl (by omega) ?_
  refine l_arg 2 E rfl rfl rfl rfl rfl rfl (by omega) ?_
  refine l_arg 3 E rfl rfl rfl rfl rfl rfl (by omega) ?_
  obtain ⟨fs9, e9⟩ := hB_m S' Sm [.inl (1, 1, .inr (.inl f))]
  refine l_cV (M' := M_X12_game) E hR (by decide) rfl rfl o_X12_game v_X12_game (trI (as' := [.ref 0, .int (xs (i + 1)), .int (xs (i + 2)), .int (xs (i + 3))]) rfl (fun G' => c_game G' false Sm [] g hM9 (xs (i + 1)) (xs (i + 2)) (xs (i + 3)))) e9 (as := [.int (xs (i + 1)), .int (xs (i + 2)), .int (xs (i + 3))]) (rest := [.int _]) rfl rfl (Nat.le_of_ble_eq_true rfl) ?_
  rintro r9 h9 ⟨v, T, rfl, rfl, q2, rfl⟩
  refine ab_step E.1 rfl ?_
  refine ab_ite (fun _ => ?_) (fun z => absurd rfl z)
  exact k S' T _ _ ⟨q1, q2.1, lb_m hB⟩
set_option maxRecDepth 100000 in
set_option maxHeartbeats 2000000 in
theorem l_c25 (E : lpC G p s m args meth c b Lx xs) (hR : lpR R cells slots) (hi : i + 6 ≤ Lx) (hV : V + 5000 < 2 ^ 30) (hI : lpI S Sm g o V) (k : ∀ S' Sm' g' o', lpI S' Sm' g' o' (V + 5000) → ab_R G M_L_law false n0 p e R s m args below meth c Q cells slots 1577 (lpL i l5 l6) [] (lpH S' Sm' f)) : ab_R G M_L_law false n0 p e R s m args below meth c Q cells slots 1087 (lpL i l5 l6) [] (lpH S Sm f) := by
  obtain ⟨hQ, hM9, hB⟩ := hI
  refine ab_step E.1 rfl ?_
  refine l_arg 1 E rfl rfl rfl rfl rfl rfl (by omega) ?_
  refine l_arg 2 E rfl rfl rfl rfl rfl rfl (by omega) ?_
  refine l_arg 3 E rfl rfl rfl rfl rfl rfl (by omega) ?_
  refine l_cV (M' := M_X11_likely) E hR (by decide) rfl rfl o_X11_likely v_X11_likely (d_likely hQ hV (xs (i + 1)) (xs (i + 2)) (xs (i + 3))) rfl (as := [.int (xs (i + 1)), .int (xs (i + 2)), .int (xs (i + 3))]) (rest := []) rfl rfl (Nat.le_of_ble_eq_true rfl) ?_
  rintro r9 h9 ⟨v, S', rfl, rfl, q1, rfl⟩
  refine ab_step E.1 rfl ?_
  refine l_arg 1 E rfl rfl rfl rfl rfl rfl (by omega) ?_
  refine l_arg 2 E rfl rfl rfl rfl rfl rfl (by omega) ?_
  refine l_arg 3 E rfl rfl rfl rfl rfl rfl (by omega) ?_
  obtain ⟨fs9, e9⟩ := hB_m S' Sm [.inl (1, 1, .inr (.inl f))]
  refine l_cV (M' := M_X12_likely) E hR (by decide) rfl rfl o_X12_likely v_X12_likely (trI (as' := [.ref 0, .int (xs (i + 1)), .int (xs (i + 2)), .int (xs (i + 3))]) rfl (fun G' => c_likely G' false Sm [] g hM9 (xs (i + 1)) (xs (i + 2)) (xs (i + 3)))) e9 (as := [.int (xs (i + 1)), .int (xs (i + 2)), .int (xs (i + 3))]) (rest := [.int _]) rfl rfl (Nat.le_of_ble_eq_true rfl) ?_
  rintro r9 h9 ⟨v, T, rfl, rfl, q2, rfl⟩
  refine ab_step E.1 rfl ?_
  refine ab_ite (fun _ => ?_) (fun z => absurd rfl z)
  exact k S' T _ _ ⟨q1, q2.1, lb_m hB⟩
end LCS

