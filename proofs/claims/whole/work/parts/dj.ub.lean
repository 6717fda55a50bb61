/-! ===== the law's cases 0 to 12 (printed by wip/tools/mkdj.py) ===== -/
section LCS
variable {G : ab_G} {n0 : Nat} {p : Program} {e : Env} {R : Room} {s : State} {m : MethodId} {args : Array Value} {below : List Frame} {meth : Method} {c : Code} {Q : State → Prop} {cells slots : Nat} {b Lx : Nat} {xs : Nat → Int32} {i : Nat} {l5 l6 : Option Value} {S Sm : ms_S} {g : tSG} {o : Nat → Option tDQ} {V : Nat} {f : Nat → Int64}
set_option maxRecDepth 100000 in
set_option maxHeartbeats 2000000 in
theorem l_c0 (E : lpC G p s m args meth c b Lx xs) (hR : lpR R cells slots) (hi : i + 6 ≤ Lx) (hV : V + 5000 < 2 ^ 30) (hI : lpI S Sm g o V) (k : ∀ S' Sm' g' o', lpI S' Sm' g' o' (V + 5000) → ab_R G M_L_law false n0 p e R s m args below meth c Q cells slots 1577 (lpL i l5 l6) [] (lpH S' Sm' f)) : ab_R G M_L_law false n0 p e R s m args below meth c Q cells slots 212 (lpL i l5 l6) [] (lpH S Sm f) := by
  obtain ⟨hQ, hM9, hB⟩ := hI
  refine ab_step E.1 rfl ?_
  refine l_arg 1 E rfl rfl rfl rfl rfl rfl (by omega) ?_
  refine l_arg 2 E rfl rfl rfl rfl rfl rfl (by omega) ?_
  refine l_arg 3 E rfl rfl rfl rfl rfl rfl (by omega) ?_
  refine l_arg 4 E rfl rfl rfl rfl rfl rfl (by omega) ?_
  refine l_arg 5 E rfl rfl rfl rfl rfl rfl (by omega) ?_
  refine l_cV (M' := M_X11_feed) E hR (by decide) rfl rfl o_X11_feed v_X11_feed (d_feed hQ (xs (i + 1)) (xs (i + 2)) (xs (i + 3)) (xs (i + 4)) (xs (i + 5))) rfl (as := [.int (xs (i + 1)), .int (xs (i + 2)), .int (xs (i + 3)), .int (xs (i + 4)), .int (xs (i + 5))]) (rest := []) rfl rfl (Nat.le_of_ble_eq_true rfl) ?_
  rintro r9 h9 ⟨v, S', rfl, rfl, q1, rfl⟩
  refine ab_step E.1 rfl ?_
  refine l_arg 1 E rfl rfl rfl rfl rfl rfl (by omega) ?_
  refine l_arg 2 E rfl rfl rfl rfl rfl rfl (by omega) ?_
  refine l_arg 3 E rfl rfl rfl rfl rfl rfl (by omega) ?_
  refine l_arg 4 E rfl rfl rfl rfl rfl rfl (by omega) ?_
  refine l_arg 5 E rfl rfl rfl rfl rfl rfl (by omega) ?_
  obtain ⟨fs9, e9⟩ := hB_m S' Sm [.inl (1, 1, .inr (.inl f))]
  refine l_cV (M' := M_X12_feed) E hR (by decide) rfl rfl o_X12_feed v_X12_feed (trI (as' := [.ref 0, .int (xs (i + 1)), .int (xs (i + 2)), .int (xs (i + 3)), .int (xs (i + 4)), .int (xs (i + 5))]) rfl (fun G' => c_feed G' false Sm [] g hM9 (xs (i + 1)) (xs (i + 2)) (xs (i + 3)) (xs (i + 4)) (xs (i + 5)))) e9 (as := [.int (xs (i + 1)), .int (xs (i + 2)), .int (xs (i + 3)), .int (xs (i + 4)), .int (xs (i + 5))]) (rest := [.int _]) rfl rfl (Nat.le_of_ble_eq_true rfl) ?_
  rintro r9 h9 ⟨v, T, rfl, rfl, q2, rfl⟩
  refine ab_step E.1 rfl ?_
  refine ab_ite (fun _ => ?_) (fun z => absurd rfl z)
  exact k S' T _ _ ⟨q1, q2.1, lb_feed hB (xs (i + 1)) (xs (i + 2)) (xs (i + 3)) (xs (i + 4)) (xs (i + 5))⟩
set_option maxRecDepth 100000 in
set_option maxHeartbeats 2000000 in
theorem l_c1 (E : lpC G p s m args meth c b Lx xs) (hR : lpR R cells slots) (hi : i + 6 ≤ Lx) (hV : V + 5000 < 2 ^ 30) (hI : lpI S Sm g o V) (k : ∀ S' Sm' g' o', lpI S' Sm' g' o' (V + 5000) → ab_R G M_L_law false n0 p e R s m args below meth c Q cells slots 1577 (lpL i l5 l6) [] (lpH S' Sm' f)) : ab_R G M_L_law false n0 p e R s m args below meth c Q cells slots 285 (lpL i l5 l6) [] (lpH S Sm f) := by
  obtain ⟨hQ, hM9, hB⟩ := hI
  refine ab_step E.1 rfl ?_
  refine l_arg 1 E rfl rfl rfl rfl rfl rfl (by omega) ?_
  refine l_cV (M' := M_X11_text) E hR (by decide) rfl rfl o_X11_text v_X11_text (d_text hQ hV (xs (i + 1))) rfl (as := [.int (xs (i + 1))]) (rest := []) rfl rfl (Nat.le_of_ble_eq_true rfl) ?_
  rintro r9 h9 ⟨v, S', rfl, rfl, ⟨o', q1⟩, rfl⟩
  refine ab_step E.1 rfl ?_
  refine l_arg 1 E rfl rfl rfl rfl rfl rfl (by omega) ?_
  obtain ⟨fs9, e9⟩ := hB_m S' Sm [.inl (1, 1, .inr (.inl f))]
  refine l_cV (M' := M_X12_text) E hR (by decide) rfl rfl o_X12_text v_X12_text (trI (as' := [.ref 0, .int (xs (i + 1))]) rfl (fun G' => c_text G' false Sm [] g hM9 (xs (i + 1)))) e9 (as := [.int (xs (i + 1))]) (rest := [.int _]) rfl rfl (Nat.le_of_ble_eq_true rfl) ?_
  rintro r9 h9 ⟨v, T, rfl, rfl, q2, rfl⟩
  refine ab_step E.1 rfl ?_
  refine ab_ite (fun _ => ?_) (fun z => absurd rfl z)
  exact k S' T _ _ ⟨q1, q2.1, lb_text hB (xs (i + 1))⟩
set_option maxRecDepth 100000 in
set_option maxHeartbeats 2000000 in
theorem l_c2 (E : lpC G p s m args meth c b Lx xs) (hR : lpR R cells slots) (hi : i + 6 ≤ Lx) (hV : V + 5000 < 2 ^ 30) (hI : lpI S Sm g o V) (k : ∀ S' Sm' g' o', lpI S' Sm' g' o' (V + 5000) → ab_R G M_L_law false n0 p e R s m args below meth c Q cells slots 1577 (lpL i l5 l6) [] (lpH S' Sm' f)) : ab_R G M_L_law false n0 p e R s m args below meth c Q cells slots 310 (lpL i l5 l6) [] (lpH S Sm f) := by
  obtain ⟨hQ, hM9, hB⟩ := hI
  refine ab_step E.1 rfl ?_
  refine l_arg 1 E rfl rfl rfl rfl rfl rfl (by omega) ?_
  refine l_cV (M' := M_X11_fault) E hR (by decide) rfl rfl o_X11_fault v_X11_fault (d_fault hQ (xs (i + 1))) rfl (as := [.int (xs (i + 1))]) (rest := []) rfl rfl (Nat.le_of_ble_eq_true rfl) ?_
  rintro r9 h9 ⟨v, S', rfl, rfl, q1, rfl⟩
  refine ab_step E.1 rfl ?_
  refine l_arg 1 E rfl rfl rfl rfl rfl rfl (by omega) ?_
  obtain ⟨fs9, e9⟩ := hB_m S' Sm [.inl (1, 1, .inr (.inl f))]
  refine l_cV (M' := M_X12_fault) E hR (by decide) rfl rfl o_X12_fault v_X12_fault (trI (as' := [.ref 0, .int (xs (i + 1))]) rfl (fun G' => c_fault G' false Sm [] g hM9 (xs (i + 1)))) e9 (as := [.int (xs (i + 1))]) (rest := [.int _]) rfl rfl (Nat.le_of_ble_eq_true rfl) ?_
  rintro r9 h9 ⟨v, T, rfl, rfl, q2, rfl⟩
  refine ab_step E.1 rfl ?_
  refine ab_ite (fun _ => ?_) (fun z => absurd rfl z)
  exact k S' T _ _ ⟨q1, q2.1, lb_m hB⟩
set_option maxRecDepth 100000 in
set_option maxHeartbeats 2000000 in
theorem l_c3 (E : lpC G p s m args meth c b Lx xs) (hR : lpR R cells slots) (hi : i + 6 ≤ Lx) (hV : V + 5000 < 2 ^ 30) (hI : lpI S Sm g o V) (k : ∀ S' Sm' g' o', lpI S' Sm' g' o' (V + 5000) → ab_R G M_L_law false n0 p e R s m args below meth c Q cells slots 1577 (lpL i l5 l6) [] (lpH S' Sm' f)) : ab_R G M_L_law false n0 p e R s m args below meth c Q cells slots 335 (lpL i l5 l6) [] (lpH S Sm f) := by
  obtain ⟨hQ, hM9, hB⟩ := hI
  refine ab_step E.1 rfl ?_
  refine l_arg 1 E rfl rfl rfl rfl rfl rfl (by omega) ?_
  refine l_arg 2 E rfl rfl rfl rfl rfl rfl (by omega) ?_
  refine l_cV (M' := M_X11_named) E hR (by decide) rfl rfl o_X11_named v_X11_named (d_named hQ (xs (i + 1)) (xs (i + 2))) rfl (as := [.int (xs (i + 1)), .int (xs (i + 2))]) (rest := []) rfl rfl (Nat.le_of_ble_eq_true rfl) ?_
  rintro r9 h9 ⟨v, S', rfl, rfl, q1, rfl⟩
  refine ab_step E.1 rfl ?_
  refine l_arg 1 E rfl rfl rfl rfl rfl rfl (by omega) ?_
  refine l_arg 2 E rfl rfl rfl rfl rfl rfl (by omega) ?_
  obtain ⟨fs9, e9⟩ := hB_m S' Sm [.inl (1, 1, .inr (.inl f))]
  refine l_cV (M' := M_X12_named) E hR (by decide) rfl rfl o_X12_named v_X12_named (trI (as' := [.ref 0, .int (xs (i + 1)), .int (xs (i + 2))]) rfl (fun G' => c_named G' false Sm [] g hM9 (xs (i + 1)) (xs (i + 2)))) e9 (as := [.int (xs (i + 1)), .int (xs (i + 2))]) (rest := [.int _]) rfl rfl (Nat.le_of_ble_eq_true rfl) ?_
  rintro r9 h9 ⟨v, T, rfl, rfl, q2, rfl⟩
  refine ab_step E.1 rfl ?_
  refine ab_ite (fun _ => ?_) (fun z => absurd rfl z)
  exact k S' T _ _ ⟨q1, q2.1, lb_m hB⟩
set_option maxRecDepth 100000 in
set_option maxHeartbeats 2000000 in
theorem l_c5 (E : lpC G p s m args meth c b Lx xs) (hR : lpR R cells slots) (hi : i + 6 ≤ Lx) (hV : V + 5000 < 2 ^ 30) (hI : lpI S Sm g o V) (k : ∀ S' Sm' g' o', lpI S' Sm' g' o' (V + 5000) → ab_R G M_L_law false n0 p e R s m args below meth c Q cells slots 1577 (lpL i l5 l6) [] (lpH S' Sm' f)) : ab_R G M_L_law false n0 p e R s m args below meth c Q cells slots 440 (lpL i l5 l6) [] (lpH S Sm f) := by
  obtain ⟨hQ, hM9, hB⟩ := hI
  refine ab_step E.1 rfl ?_
  refine l_arg 1 E rfl rfl rfl rfl rfl rfl (by omega) ?_
  refine l_arg 2 E rfl rfl rfl rfl rfl rfl (by omega) ?_
  refine l_cV (M' := M_X11_heir) E hR (by decide) rfl rfl o_X11_heir v_X11_heir (d_heir hQ (xs (i + 1)) (xs (i + 2))) rfl (as := [.int (xs (i + 1)), .int (xs (i + 2))]) (rest := []) rfl rfl (Nat.le_of_ble_eq_true rfl) ?_
  rintro r9 h9 ⟨v, S', rfl, rfl, q1, rfl⟩
  refine ab_step E.1 rfl ?_
  refine l_arg 1 E rfl rfl rfl rfl rfl rfl (by omega) ?_
  refine l_arg 2 E rfl rfl rfl rfl rfl rfl (by omega) ?_
  obtain ⟨fs9, e9⟩ := hB_m S' Sm [.inl (1, 1, .inr (.inl f))]
  refine l_cV (M' := M_X12_heir) E hR (by decide) rfl rfl o_X12_heir v_X12_heir (trI (as' := [.ref 0, .int (xs (i + 1)), .int (xs (i + 2))]) rfl (fun G' => rf_Q hM9 (c_heir G' false Sm [] g.1 hM9.1 (xs (i + 1)) (xs (i + 2))))) e9 (as := [.int (xs (i + 1)), .int (xs (i + 2))]) (rest := [.int _]) rfl rfl (Nat.le_of_ble_eq_true rfl) ?_
  rintro r9 h9 ⟨v, T, rfl, rfl, q2, rfl⟩
  refine ab_step E.1 rfl ?_
  refine ab_ite (fun _ => ?_) (fun z => absurd rfl z)
  exact k S' T _ _ ⟨q1, q2.1, lb_m hB⟩
set_option maxRecDepth 100000 in
set_option maxHeartbeats 2000000 in
theorem l_c6 (E : lpC G p s m args meth c b Lx xs) (hR : lpR R cells slots) (hi : i + 6 ≤ Lx) (hV : V + 5000 < 2 ^ 30) (hI : lpI S Sm g o V) (k : ∀ S' Sm' g' o', lpI S' Sm' g' o' (V + 5000) → ab_R G M_L_law false n0 p e R s m args below meth c Q cells slots 1577 (lpL i l5 l6) [] (lpH S' Sm' f)) : ab_R G M_L_law false n0 p e R s m args below meth c Q cells slots 477 (lpL i l5 l6) [] (lpH S Sm f) := by
  obtain ⟨hQ, hM9, hB⟩ := hI
  refine ab_step E.1 rfl ?_
  refine l_arg 1 E rfl rfl rfl rfl rfl rfl (by omega) ?_
  refine l_arg 2 E rfl rfl rfl rfl rfl rfl (by omega) ?_
  refine l_cV (M' := M_X11_joins) E hR (by decide) rfl rfl o_X11_joins v_X11_joins (d_joins hQ (xs (i + 1)) (xs (i + 2))) rfl (as := [.int (xs (i + 1)), .int (xs (i + 2))]) (rest := []) rfl rfl (Nat.le_of_ble_eq_true rfl) ?_
  rintro r9 h9 ⟨v, S', rfl, rfl, q1, rfl⟩
  refine ab_step E.1 rfl ?_
  refine l_arg 1 E rfl rfl rfl rfl rfl rfl (by omega) ?_
  refine l_arg 2 E rfl rfl rfl rfl rfl rfl (by omega) ?_
  obtain ⟨fs9, e9⟩ := hB_m S' Sm [.inl (1, 1, .inr (.inl f))]
  refine l_cV (M' := M_X12_joins) E hR (by decide) rfl rfl o_X12_joins v_X12_joins (trI (as' := [.ref 0, .int (xs (i + 1)), .int (xs (i + 2))]) rfl (fun G' => rf_Q hM9 (c_joins G' false Sm [] g.1 hM9.1 (xs (i + 1)) (xs (i + 2))))) e9 (as := [.int (xs (i + 1)), .int (xs (i + 2))]) (rest := [.int _]) rfl rfl (Nat.le_of_ble_eq_true rfl) ?_
  rintro r9 h9 ⟨v, T, rfl, rfl, q2, rfl⟩
  refine ab_step E.1 rfl ?_
  refine ab_ite (fun _ => ?_) (fun z => absurd rfl z)
  exact k S' T _ _ ⟨q1, q2.1, lb_m hB⟩
set_option maxRecDepth 100000 in
set_option maxHeartbeats 2000000 in
theorem l_c7 (E : lpC G p s m args meth c b Lx xs) (hR : lpR R cells slots) (hi : i + 6 ≤ Lx) (hV : V + 5000 < 2 ^ 30) (hI : lpI S Sm g o V) (k : ∀ S' Sm' g' o', lpI S' Sm' g' o' (V + 5000) → ab_R G M_L_law false n0 p e R s m args below meth c Q cells slots 1577 (lpL i l5 l6) [] (lpH S' Sm' f)) : ab_R G M_L_law false n0 p e R s m args below meth c Q cells slots 514 (lpL i l5 l6) [] (lpH S Sm f) := by
  obtain ⟨hQ, hM9, hB⟩ := hI
  refine ab_step E.1 rfl ?_
  refine l_arg 1 E rfl rfl rfl rfl rfl rfl (by omega) ?_
  refine l_arg 2 E rfl rfl rfl rfl rfl rfl (by omega) ?_
  refine l_arg 3 E rfl rfl rfl rfl rfl rfl (by omega) ?_
  refine l_cV (M' := M_X11_law) E hR (by decide) rfl rfl o_X11_law v_X11_law (d_law hQ (xs (i + 1)) (xs (i + 2)) (xs (i + 3))) rfl (as := [.int (xs (i + 1)), .int (xs (i + 2)), .int (xs (i + 3))]) (rest := []) rfl rfl (Nat.le_of_ble_eq_true rfl) ?_
  rintro r9 h9 ⟨v, S', rfl, rfl, q1, rfl⟩
  refine ab_step E.1 rfl ?_
  refine l_arg 1 E rfl rfl rfl rfl rfl rfl (by omega) ?_
  refine l_arg 2 E rfl rfl rfl rfl rfl rfl (by omega) ?_
  refine l_arg 3 E rfl rfl rfl rfl rfl rfl (by omega) ?_
  obtain ⟨fs9, e9⟩ := hB_m S' Sm [.inl (1, 1, .inr (.inl f))]
  refine l_cV (M' := M_X12_law) E hR (by decide) rfl rfl o_X12_law v_X12_law (trL (as' := [.ref 0, .int (xs (i + 1)), .int (xs (i + 2)), .int (xs (i + 3))]) rfl (fun G' => rf_L hM9 (c_lawQ G' false Sm [] g.1 hM9.1 (xs (i + 1)) (xs (i + 2)) (xs (i + 3))))) e9 (as := [.int (xs (i + 1)), .int (xs (i + 2)), .int (xs (i + 3))]) (rest := [.long _]) rfl rfl (Nat.le_of_ble_eq_true rfl) ?_
  rintro r9 h9 ⟨v, T, rfl, rfl, q2, rfl⟩
  refine ab_step E.1 rfl ?_
  refine ab_step E.1 rfl ?_
  refine ab_ite (fun _ => ?_) (fun z => absurd (l_cmp _) z)
  exact k S' T _ _ ⟨q1, q2.1, lb_m hB⟩
set_option maxRecDepth 100000 in
set_option maxHeartbeats 2000000 in
theorem l_c8 (E : lpC G p s m args meth c b Lx xs) (hR : lpR R cells slots) (hi : i + 6 ≤ Lx) (hV : V + 5000 < 2 ^ 30) (hI : lpI S Sm g o V) (k : ∀ S' Sm' g' o', lpI S' Sm' g' o' (V + 5000) → ab_R G M_L_law false n0 p e R s m args below meth c Q cells slots 1577 (lpL i l5 l6) [] (lpH S' Sm' f)) : ab_R G M_L_law false n0 p e R s m args below meth c Q cells slots 564 (lpL i l5 l6) [] (lpH S Sm f) := by
  obtain ⟨hQ, hM9, hB⟩ := hI
  refine ab_step E.1 rfl ?_
  refine l_arg 1 E rfl rfl rfl rfl rfl rfl (by omega) ?_
  refine l_arg 2 E rfl rfl rfl rfl rfl rfl (by omega) ?_
  refine l_cV (M' := M_X11_give) E hR (by decide) rfl rfl o_X11_give v_X11_give (d_give hQ (xs (i + 1)) (xs (i + 2))) rfl (as := [.int (xs (i + 1)), .int (xs (i + 2))]) (rest := []) rfl rfl (Nat.le_of_ble_eq_true rfl) ?_
  rintro r9 h9 ⟨v, S', rfl, rfl, q1, rfl⟩
  refine ab_step E.1 rfl ?_
  refine l_arg 1 E rfl rfl rfl rfl rfl rfl (by omega) ?_
  refine l_arg 2 E rfl rfl rfl rfl rfl rfl (by omega) ?_
  obtain ⟨fs9, e9⟩ := hB_m S' Sm [.inl (1, 1, .inr (.inl f))]
  refine l_cV (M' := M_X12_give) E hR (by decide) rfl rfl o_X12_give v_X12_give (trI (as' := [.ref 0, .int (xs (i + 1)), .int (xs (i + 2))]) rfl (fun G' => rf_A (c_give G' false Sm [] g hM9 (xs (i + 1)) (xs (i + 2))))) e9 (as := [.int (xs (i + 1)), .int (xs (i + 2))]) (rest := [.int _]) rfl rfl (Nat.le_of_ble_eq_true rfl) ?_
  rintro r9 h9 ⟨v, T, rfl, rfl, q2, rfl⟩
  refine ab_step E.1 rfl ?_
  refine ab_ite (fun _ => ?_) (fun z => absurd rfl z)
  exact k S' T _ _ ⟨q1, q2.1, lb_give hB (xs (i + 1)) (xs (i + 2))⟩
set_option maxRecDepth 100000 in
set_option maxHeartbeats 2000000 in
theorem l_c9 (E : lpC G p s m args meth c b Lx xs) (hR : lpR R cells slots) (hi : i + 6 ≤ Lx) (hV : V + 5000 < 2 ^ 30) (hI : lpI S Sm g o V) (k : ∀ S' Sm' g' o', lpI S' Sm' g' o' (V + 5000) → ab_R G M_L_law false n0 p e R s m args below meth c Q cells slots 1577 (lpL i l5 l6) [] (lpH S' Sm' f)) : ab_R G M_L_law false n0 p e R s m args below meth c Q cells slots 601 (lpL i l5 l6) [] (lpH S Sm f) := by
  obtain ⟨hQ, hM9, hB⟩ := hI
  refine ab_step E.1 rfl ?_
  refine l_arg 1 E rfl rfl rfl rfl rfl rfl (by omega) ?_
  refine l_arg 2 E rfl rfl rfl rfl rfl rfl (by omega) ?_
  refine l_cV (M' := M_X11_trade) E hR (by decide) rfl rfl o_X11_trade v_X11_trade (d_trade hQ (xs (i + 1)) (xs (i + 2))) rfl (as := [.int (xs (i + 1)), .int (xs (i + 2))]) (rest := []) rfl rfl (Nat.le_of_ble_eq_true rfl) ?_
  rintro r9 h9 ⟨v, S', rfl, rfl, q1, rfl⟩
  refine ab_step E.1 rfl ?_
  refine l_arg 1 E rfl rfl rfl rfl rfl rfl (by omega) ?_
  refine l_arg 2 E rfl rfl rfl rfl rfl rfl (by omega) ?_
  obtain ⟨fs9, e9⟩ := hB_m S' Sm [.inl (1, 1, .inr (.inl f))]
  refine l_cV (M' := M_X12_trade) E hR (by decide) rfl rfl o_X12_trade v_X12_trade (trI (as' := [.ref 0, .int (xs (i + 1)), .int (xs (i + 2))]) rfl (fun G' => rf_A (c_trade G' false Sm [] g hM9 (xs (i + 1)) (xs (i + 2))))) e9 (as := [.int (xs (i + 1)), .int (xs (i + 2))]) (rest := [.int _]) rfl rfl (Nat.le_of_ble_eq_true rfl) ?_
  rintro r9 h9 ⟨v, T, rfl, rfl, q2, rfl⟩
  refine ab_step E.1 rfl ?_
  refine ab_ite (fun _ => ?_) (fun z => absurd rfl z)
  exact k S' T _ _ ⟨q1, q2.1, lb_trade hB (xs (i + 1)) (xs (i + 2))⟩
set_option maxRecDepth 100000 in
set_option maxHeartbeats 2000000 in
theorem l_c10 (E : lpC G p s m args meth c b Lx xs) (hR : lpR R cells slots) (hi : i + 6 ≤ Lx) (hV : V + 5000 < 2 ^ 30) (hI : lpI S Sm g o V) (k : ∀ S' Sm' g' o', lpI S' Sm' g' o' (V + 5000) → ab_R G M_L_law false n0 p e R s m args below meth c Q cells slots 1577 (lpL i l5 l6) [] (lpH S' Sm' f)) : ab_R G M_L_law false n0 p e R s m args below meth c Q cells slots 638 (lpL i l5 l6) [] (lpH S Sm f) := by
  obtain ⟨hQ, hM9, hB⟩ := hI
  refine ab_step E.1 rfl ?_
  refine l_arg 1 E rfl rfl rfl rfl rfl rfl (by omega) ?_
  refine l_cV (M' := M_X11_lay) E hR (by decide) rfl rfl o_X11_lay v_X11_lay (d_lay hQ hV (xs (i + 1))) rfl (as := [.int (xs (i + 1))]) (rest := []) rfl rfl (Nat.le_of_ble_eq_true rfl) ?_
  rintro r9 h9 ⟨v, S', rfl, rfl, q1, rfl⟩
  refine ab_step E.1 rfl ?_
  refine l_arg 1 E rfl rfl rfl rfl rfl rfl (by omega) ?_
  obtain ⟨fs9, e9⟩ := hB_m S' Sm [.inl (1, 1, .inr (.inl f))]
  refine l_cV (M' := M_X12_lay) E hR (by decide) rfl rfl o_X12_lay v_X12_lay (trI (as' := [.ref 0, .int (xs (i + 1))]) rfl (fun G' => rf_A (c_lay G' false Sm [] g hM9 (xs (i + 1))))) e9 (as := [.int (xs (i + 1))]) (rest := [.int _]) rfl rfl (Nat.le_of_ble_eq_true rfl) ?_
  rintro r9 h9 ⟨v, T, rfl, rfl, q2, rfl⟩
  refine ab_step E.1 rfl ?_
  refine ab_ite (fun _ => ?_) (fun z => absurd rfl z)
  exact k S' T _ _ ⟨q1, q2.1, lb_lay hB (xs (i + 1))⟩
set_option maxRecDepth 100000 in
set_option maxHeartbeats 2000000 in
theorem l_c11 (E : lpC G p s m args meth c b Lx xs) (hR : lpR R cells slots) (hi : i + 6 ≤ Lx) (hV : V + 5000 < 2 ^ 30) (hI : lpI S Sm g o V) (k : ∀ S' Sm' g' o', lpI S' Sm' g' o' (V + 5000) → ab_R G M_L_law false n0 p e R s m args below meth c Q cells slots 1577 (lpL i l5 l6) [] (lpH S' Sm' f)) : ab_R G M_L_law false n0 p e R s m args below meth c Q cells slots 663 (lpL i l5 l6) [] (lpH S Sm f) := by
  obtain ⟨hQ, hM9, hB⟩ := hI
  refine ab_step E.1 rfl ?_
  refine l_arg 1 E rfl rfl rfl rfl rfl rfl (by omega) ?_
  refine l_cV (M' := M_X11_go) E hR (by decide) rfl rfl o_X11_go v_X11_go (d_go hQ hV (xs (i + 1))) rfl (as := [.int (xs (i + 1))]) (rest := []) rfl rfl (Nat.le_of_ble_eq_true rfl) ?_
  rintro r9 h9 ⟨v, S', rfl, rfl, q1, rfl⟩
  refine ab_step E.1 rfl ?_
  refine l_arg 1 E rfl rfl rfl rfl rfl rfl (by omega) ?_
  obtain ⟨fs9, e9⟩ := hB_m S' Sm [.inl (1, 1, .inr (.inl f))]
  refine l_cV (M' := M_X12_go) E hR (by decide) rfl rfl o_X12_go v_X12_go (trI (as' := [.ref 0, .int (xs (i + 1))]) rfl (fun G' => rf_A (c_go G' false Sm [] g hM9 (xs (i + 1))))) e9 (as := [.int (xs (i + 1))]) (rest := [.int _]) rfl rfl (Nat.le_of_ble_eq_true rfl) ?_
  rintro r9 h9 ⟨v, T, rfl, rfl, q2, rfl⟩
  refine ab_step E.1 rfl ?_
  refine ab_ite (fun _ => ?_) (fun z => absurd rfl z)
  exact k S' T _ _ ⟨q1, q2.1, lb_go hB (xs (i + 1))⟩
set_option maxRecDepth 100000 in
set_option maxHeartbeats 2000000 in
theorem l_c12 (E : lpC G p s m args meth c b Lx xs) (hR : lpR R cells slots) (hi : i + 6 ≤ Lx) (hV : V + 5000 < 2 ^ 30) (hI : lpI S Sm g o V) (k : ∀ S' Sm' g' o', lpI S' Sm' g' o' (V + 5000) → ab_R G M_L_law false n0 p e R s m args below meth c Q cells slots 1577 (lpL i l5 l6) [] (lpH S' Sm' f)) : ab_R G M_L_law false n0 p e R s m args below meth c Q cells slots 688 (lpL i l5 l6) [] (lpH S Sm f) := by
  obtain ⟨hQ, hM9, hB⟩ := hI
  refine ab_step E.1 rfl ?_
  refine l_arg 1 E rfl rfl rfl rfl rfl rfl (by omega) ?_
  refine l_arg 2 E rfl rfl rfl rfl rfl rfl (by omega) ?_
  refine l_arg 3 E rfl rfl rfl rfl rfl rfl (by omega) ?_
  refine l_cV (M' := M_X11_ahead) E hR (by decide) rfl rfl o_X11_ahead v_X11_ahead (d_ahead hQ hV (xs (i + 1)) (xs (i + 2)) (xs (i + 3))) rfl (as := [.int (xs (i + 1)), .int (xs (i + 2)), .int (xs (i + 3))]) (rest := []) rfl rfl (Nat.le_of_ble_eq_true rfl) ?_
  rintro r9 h9 ⟨v, S', rfl, rfl, q1, rfl⟩
  refine ab_step E.1 rfl ?_
  refine l_arg 1 E rfl rfl rfl rfl rfl rfl (by omega) ?_
  refine l_arg 2 E rfl rfl rfl rfl rfl rfl (by omega) ?_
  refine l_arg 3 E rfl rfl rfl rfl rfl rfl (by omega) ?_
  obtain ⟨fs9, e9⟩ := hB_m S' Sm [.inl (1, 1, .inr (.inl f))]
  refine l_cV (M' := M_X12_ahead) E hR (by decide) rfl rfl o_X12_ahead v_X12_ahead (trI (as' := [.ref 0, .int (xs (i + 1)), .int (xs (i + 2)), .int (xs (i + 3))]) rfl (fun G' => rf_Q hM9 (c_ahead G' false Sm [] g.1 hM9.1 (xs (i + 1)) (xs (i + 2)) (xs (i + 3))))) e9 (as := [.int (xs (i + 1)), .int (xs (i + 2)), .int (xs (i + 3))]) (rest := [.int _]) rfl rfl (Nat.le_of_ble_eq_true rfl) ?_
  rintro r9 h9 ⟨v, T, rfl, rfl, q2, rfl⟩
  refine ab_step E.1 rfl ?_
  refine ab_ite (fun _ => ?_) (fun z => absurd rfl z)
  exact k S' T _ _ ⟨q1, q2.1, lb_m hB⟩
end LCS

