/-! ===== the law's cases 26 to 38 (printed by wip/tools/mkdj.py) ===== -/
section LCS
variable {G : ab_G} {n0 : Nat} {p : Program} {e : Env} {R : Room} {s : State} {m : MethodId} {args : Array Value} {below : List Frame} {meth : Method} {c : Code} {Q : State → Prop} {cells slots : Nat} {b Lx : Nat} {xs : Nat → Int32} {i : Nat} {l5 l6 : Option Value} {S Sm : ms_S} {g : tSG} {o : Nat → Option tDQ} {V : Nat} {f : Nat → Int64}
set_option maxRecDepth 100000 in
set_option maxHeartbeats 2000000 in
theorem l_c26 (E : lpC G p s m args meth c b Lx xs) (hR : lpR R cells slots) (hi : i + 6 ≤ Lx) (hV : V + 5000 < 2 ^ 30) (hI : lpI S Sm g o V) (k : ∀ S' Sm' g' o', lpI S' Sm' g' o' (V + 5000) → ab_R G M_L_law false n0 p e R s m args below meth c Q cells slots 1577 (lpL i l5 l6) [] (lpH S' Sm' f)) : ab_R G M_L_law false n0 p e R s m args below meth c Q cells slots 1136 (lpL i l5 l6) [] (lpH S Sm f) := by
  obtain ⟨hQ, hM9, hB⟩ := hI
  obtain ⟨b9, hb9, eb⟩ : ∃ b9 : Int32, (b9 = 0 ∨ b9 = nI 1) ∧ b9 = if xs (i + 4) = 0 then 0 else nI 1 := ⟨_, by split <;> simp, rfl⟩
  refine ab_step E.1 rfl ?_
  refine l_arg 1 E rfl rfl rfl rfl rfl rfl (by omega) ?_
  refine l_arg 2 E rfl rfl rfl rfl rfl rfl (by omega) ?_
  refine l_arg 3 E rfl rfl rfl rfl rfl rfl (by omega) ?_
  refine l_arg 4 E rfl rfl rfl rfl rfl rfl (by omega) ?_
  have KB1161 : ab_R G M_L_law false n0 p e R s m args below meth c Q cells slots 1169 (lpL i l5 l6) (.int b9 :: [.int (xs (i + 3)), .int (xs (i + 2)), .int (xs (i + 1)), .ref 0]) (lpH S Sm f) → ab_R G M_L_law false n0 p e R s m args below meth c Q cells slots 1161 (lpL i l5 l6) (.int (xs (i + 4)) :: [.int (xs (i + 3)), .int (xs (i + 2)), .int (xs (i + 1)), .ref 0]) (lpH S Sm f) := by
    intro kk
    refine ab_step E.1 rfl ?_
    refine ab_ite (fun z => ?_) (fun z => ?_)
    · rw [if_pos z] at eb
      refine ab_step E.1 rfl ?_
      rw [eb] at kk
      exact kk
    · rw [if_neg z] at eb
      iterate 2 refine ab_step E.1 rfl ?_
      rw [eb] at kk
      exact kk
  refine KB1161 ?_
  refine l_cV (M' := M_X11_note) E hR (by decide) rfl rfl o_X11_note v_X11_note (d_note hQ (xs (i + 1)) (xs (i + 2)) (xs (i + 3)) b9 hb9) rfl (as := [.int (xs (i + 1)), .int (xs (i + 2)), .int (xs (i + 3)), .int b9]) (rest := []) rfl rfl (Nat.le_of_ble_eq_true rfl) ?_
  rintro r9 h9 ⟨v, S', rfl, rfl, q1, rfl⟩
  refine ab_step E.1 rfl ?_
  refine l_arg 1 E rfl rfl rfl rfl rfl rfl (by omega) ?_
  refine l_arg 2 E rfl rfl rfl rfl rfl rfl (by omega) ?_
  refine l_arg 3 E rfl rfl rfl rfl rfl rfl (by omega) ?_
  refine l_arg 4 E rfl rfl rfl rfl rfl rfl (by omega) ?_
  have KB1197 : ab_R G M_L_law false n0 p e R s m args below meth c Q cells slots 1205 (lpL i l5 l6) (.int b9 :: [.int (xs (i + 3)), .int (xs (i + 2)), .int (xs (i + 1)), .ref 175, .int (A_note g (xs (i + 1)) (xs (i + 2)) (xs (i + 3)))]) (lpH S' Sm f) → ab_R G M_L_law false n0 p e R s m args below meth c Q cells slots 1197 (lpL i l5 l6) (.int (xs (i + 4)) :: [.int (xs (i + 3)), .int (xs (i + 2)), .int (xs (i + 1)), .ref 175, .int (A_note g (xs (i + 1)) (xs (i + 2)) (xs (i + 3)))]) (lpH S' Sm f) := by
    intro kk
    refine ab_step E.1 rfl ?_
    refine ab_ite (fun z => ?_) (fun z => ?_)
    · rw [if_pos z] at eb
      refine ab_step E.1 rfl ?_
      rw [eb] at kk
      exact kk
    · rw [if_neg z] at eb
      iterate 2 refine ab_step E.1 rfl ?_
      rw [eb] at kk
      exact kk
  refine KB1197 ?_
  obtain ⟨fs9, e9⟩ := hB_m S' Sm [.inl (1, 1, .inr (.inl f))]
  refine l_cV (M' := M_X12_note) E hR (by decide) rfl rfl o_X12_note v_X12_note (trI (as' := [.ref 0, .int (xs (i + 1)), .int (xs (i + 2)), .int (xs (i + 3)), .int b9]) rfl (fun G' => rf_A (c_note G' false Sm [] g hM9 (xs (i + 1)) (xs (i + 2)) (xs (i + 3)) b9))) e9 (as := [.int (xs (i + 1)), .int (xs (i + 2)), .int (xs (i + 3)), .int b9]) (rest := [.int _]) rfl rfl (Nat.le_of_ble_eq_true rfl) ?_
  rintro r9 h9 ⟨v, T, rfl, rfl, q2, rfl⟩
  refine ab_step E.1 rfl ?_
  refine ab_ite (fun _ => ?_) (fun z => absurd rfl z)
  exact k S' T _ _ ⟨q1, q2.1, lb_note hB (xs (i + 1)) (xs (i + 2)) (xs (i + 3)) b9⟩
set_option maxRecDepth 100000 in
set_option maxHeartbeats 2000000 in
theorem l_c27 (E : lpC G p s m args meth c b Lx xs) (hR : lpR R cells slots) (hi : i + 6 ≤ Lx) (hV : V + 5000 < 2 ^ 30) (hI : lpI S Sm g o V) (k : ∀ S' Sm' g' o', lpI S' Sm' g' o' (V + 5000) → ab_R G M_L_law false n0 p e R s m args below meth c Q cells slots 1577 (lpL i l5 l6) [] (lpH S' Sm' f)) : ab_R G M_L_law false n0 p e R s m args below meth c Q cells slots 1213 (lpL i l5 l6) [] (lpH S Sm f) := by
  obtain ⟨hQ, hM9, hB⟩ := hI
  obtain ⟨b9, hb9, eb⟩ : ∃ b9 : Int32, (b9 = 0 ∨ b9 = nI 1) ∧ b9 = if xs (i + 4) = 0 then 0 else nI 1 := ⟨_, by split <;> simp, rfl⟩
  refine ab_step E.1 rfl ?_
  refine l_arg 1 E rfl rfl rfl rfl rfl rfl (by omega) ?_
  refine l_arg 2 E rfl rfl rfl rfl rfl rfl (by omega) ?_
  refine l_arg 3 E rfl rfl rfl rfl rfl rfl (by omega) ?_
  refine l_arg 4 E rfl rfl rfl rfl rfl rfl (by omega) ?_
  have KB1238 : ab_R G M_L_law false n0 p e R s m args below meth c Q cells slots 1246 (lpL i l5 l6) (.int b9 :: [.int (xs (i + 3)), .int (xs (i + 2)), .int (xs (i + 1)), .ref 0]) (lpH S Sm f) → ab_R G M_L_law false n0 p e R s m args below meth c Q cells slots 1238 (lpL i l5 l6) (.int (xs (i + 4)) :: [.int (xs (i + 3)), .int (xs (i + 2)), .int (xs (i + 1)), .ref 0]) (lpH S Sm f) := by
    intro kk
    refine ab_step E.1 rfl ?_
    refine ab_ite (fun z => ?_) (fun z => ?_)
    · rw [if_pos z] at eb
      refine ab_step E.1 rfl ?_
      rw [eb] at kk
      exact kk
    · rw [if_neg z] at eb
      iterate 2 refine ab_step E.1 rfl ?_
      rw [eb] at kk
      exact kk
  refine KB1238 ?_
  refine l_cV (M' := M_X11_see) E hR (by decide) rfl rfl o_X11_see v_X11_see (d_see hQ (xs (i + 1)) (xs (i + 2)) (xs (i + 3)) b9 hb9) rfl (as := [.int (xs (i + 1)), .int (xs (i + 2)), .int (xs (i + 3)), .int b9]) (rest := []) rfl rfl (Nat.le_of_ble_eq_true rfl) ?_
  rintro r9 h9 ⟨v, S', rfl, rfl, q1, rfl⟩
  refine ab_step E.1 rfl ?_
  refine l_arg 1 E rfl rfl rfl rfl rfl rfl (by omega) ?_
  refine l_arg 2 E rfl rfl rfl rfl rfl rfl (by omega) ?_
  refine l_arg 3 E rfl rfl rfl rfl rfl rfl (by omega) ?_
  refine l_arg 4 E rfl rfl rfl rfl rfl rfl (by omega) ?_
  have KB1274 : ab_R G M_L_law false n0 p e R s m args below meth c Q cells slots 1282 (lpL i l5 l6) (.int b9 :: [.int (xs (i + 3)), .int (xs (i + 2)), .int (xs (i + 1)), .ref 175, .int (A_see g (xs (i + 1)) (xs (i + 2)) (xs (i + 3)))]) (lpH S' Sm f) → ab_R G M_L_law false n0 p e R s m args below meth c Q cells slots 1274 (lpL i l5 l6) (.int (xs (i + 4)) :: [.int (xs (i + 3)), .int (xs (i + 2)), .int (xs (i + 1)), .ref 175, .int (A_see g (xs (i + 1)) (xs (i + 2)) (xs (i + 3)))]) (lpH S' Sm f) := by
    intro kk
    refine ab_step E.1 rfl ?_
    refine ab_ite (fun z => ?_) (fun z => ?_)
    · rw [if_pos z] at eb
      refine ab_step E.1 rfl ?_
      rw [eb] at kk
      exact kk
    · rw [if_neg z] at eb
      iterate 2 refine ab_step E.1 rfl ?_
      rw [eb] at kk
      exact kk
  refine KB1274 ?_
  obtain ⟨fs9, e9⟩ := hB_m S' Sm [.inl (1, 1, .inr (.inl f))]
  refine l_cV (M' := M_X12_see) E hR (by decide) rfl rfl o_X12_see v_X12_see (trI (as' := [.ref 0, .int (xs (i + 1)), .int (xs (i + 2)), .int (xs (i + 3)), .int b9]) rfl (fun G' => rf_A (c_see G' false Sm [] g hM9 (xs (i + 1)) (xs (i + 2)) (xs (i + 3)) b9))) e9 (as := [.int (xs (i + 1)), .int (xs (i + 2)), .int (xs (i + 3)), .int b9]) (rest := [.int _]) rfl rfl (Nat.le_of_ble_eq_true rfl) ?_
  rintro r9 h9 ⟨v, T, rfl, rfl, q2, rfl⟩
  refine ab_step E.1 rfl ?_
  refine ab_ite (fun _ => ?_) (fun z => absurd rfl z)
  exact k S' T _ _ ⟨q1, q2.1, lb_see hB (xs (i + 1)) (xs (i + 2)) (xs (i + 3)) b9⟩
set_option maxRecDepth 100000 in
set_option maxHeartbeats 2000000 in
theorem l_c28 (E : lpC G p s m args meth c b Lx xs) (hR : lpR R cells slots) (hi : i + 6 ≤ Lx) (hV : V + 5000 < 2 ^ 30) (hI : lpI S Sm g o V) (k : ∀ S' Sm' g' o', lpI S' Sm' g' o' (V + 5000) → ab_R G M_L_law false n0 p e R s m args below meth c Q cells slots 1577 (lpL i l5 l6) [] (lpH S' Sm' f)) : ab_R G M_L_law false n0 p e R s m args below meth c Q cells slots 1290 (lpL i l5 l6) [] (lpH S Sm f) := by
  obtain ⟨hQ, hM9, hB⟩ := hI
  refine ab_step E.1 rfl ?_
  refine l_arg 1 E rfl rfl rfl rfl rfl rfl (by omega) ?_
  refine l_cV (M' := M_X11_strike) E hR (by decide) rfl rfl o_X11_strike v_X11_strike (d_strike hQ (xs (i + 1))) rfl (as := [.int (xs (i + 1))]) (rest := []) rfl rfl (Nat.le_of_ble_eq_true rfl) ?_
  rintro r9 h9 ⟨v, S', rfl, rfl, q1, rfl⟩
  refine ab_step E.1 rfl ?_
  refine l_arg 1 E rfl rfl rfl rfl rfl rfl (by omega) ?_
  obtain ⟨fs9, e9⟩ := hB_m S' Sm [.inl (1, 1, .inr (.inl f))]
  refine l_cV (M' := M_X12_strike) E hR (by decide) rfl rfl o_X12_strike v_X12_strike (trI (as' := [.ref 0, .int (xs (i + 1))]) rfl (fun G' => rf_A (c_strike G' false Sm [] g hM9 (xs (i + 1))))) e9 (as := [.int (xs (i + 1))]) (rest := [.int _]) rfl rfl (Nat.le_of_ble_eq_true rfl) ?_
  rintro r9 h9 ⟨v, T, rfl, rfl, q2, rfl⟩
  refine ab_step E.1 rfl ?_
  refine ab_ite (fun _ => ?_) (fun z => absurd rfl z)
  exact k S' T _ _ ⟨q1, q2.1, lb_strike hB (xs (i + 1))⟩
set_option maxRecDepth 100000 in
set_option maxHeartbeats 2000000 in
theorem l_c29 (E : lpC G p s m args meth c b Lx xs) (hR : lpR R cells slots) (hi : i + 6 ≤ Lx) (hV : V + 5000 < 2 ^ 30) (hI : lpI S Sm g o V) (k : ∀ S' Sm' g' o', lpI S' Sm' g' o' (V + 5000) → ab_R G M_L_law false n0 p e R s m args below meth c Q cells slots 1577 (lpL i l5 l6) [] (lpH S' Sm' f)) : ab_R G M_L_law false n0 p e R s m args below meth c Q cells slots 1315 (lpL i l5 l6) [] (lpH S Sm f) := by
  obtain ⟨hQ, hM9, hB⟩ := hI
  refine ab_step E.1 rfl ?_
  refine l_arg 1 E rfl rfl rfl rfl rfl rfl (by omega) ?_
  refine l_cV (M' := M_X11_known) E hR (by decide) rfl rfl o_X11_known v_X11_known (d_known hQ (xs (i + 1))) rfl (as := [.int (xs (i + 1))]) (rest := []) rfl rfl (Nat.le_of_ble_eq_true rfl) ?_
  rintro r9 h9 ⟨v, S', rfl, rfl, q1, rfl⟩
  refine ab_step E.1 rfl ?_
  refine l_arg 1 E rfl rfl rfl rfl rfl rfl (by omega) ?_
  obtain ⟨fs9, e9⟩ := hB_m S' Sm [.inl (1, 1, .inr (.inl f))]
  refine l_cV (M' := M_X12_known) E hR (by decide) rfl rfl o_X12_known v_X12_known (trI (as' := [.ref 0, .int (xs (i + 1))]) rfl (fun G' => rf_A (c_known G' false Sm [] g hM9 (xs (i + 1))))) e9 (as := [.int (xs (i + 1))]) (rest := [.int _]) rfl rfl (Nat.le_of_ble_eq_true rfl) ?_
  rintro r9 h9 ⟨v, T, rfl, rfl, q2, rfl⟩
  refine ab_step E.1 rfl ?_
  refine ab_ite (fun _ => ?_) (fun z => absurd rfl z)
  exact k S' T _ _ ⟨q1, q2.1, lb_known hB (xs (i + 1))⟩
set_option maxRecDepth 100000 in
set_option maxHeartbeats 2000000 in
theorem l_c30 (E : lpC G p s m args meth c b Lx xs) (hR : lpR R cells slots) (hi : i + 6 ≤ Lx) (hV : V + 5000 < 2 ^ 30) (hI : lpI S Sm g o V) (k : ∀ S' Sm' g' o', lpI S' Sm' g' o' (V + 5000) → ab_R G M_L_law false n0 p e R s m args below meth c Q cells slots 1577 (lpL i l5 l6) [] (lpH S' Sm' f)) : ab_R G M_L_law false n0 p e R s m args below meth c Q cells slots 1340 (lpL i l5 l6) [] (lpH S Sm f) := by
  obtain ⟨hQ, hM9, hB⟩ := hI
  refine ab_step E.1 rfl ?_
  refine l_arg 1 E rfl rfl rfl rfl rfl rfl (by omega) ?_
  refine l_cV (M' := M_X11_missing) E hR (by decide) rfl rfl o_X11_missing v_X11_missing (d_missing hQ (xs (i + 1))) rfl (as := [.int (xs (i + 1))]) (rest := []) rfl rfl (Nat.le_of_ble_eq_true rfl) ?_
  rintro r9 h9 ⟨v, S', rfl, rfl, q1, rfl⟩
  refine ab_step E.1 rfl ?_
  refine l_arg 1 E rfl rfl rfl rfl rfl rfl (by omega) ?_
  obtain ⟨fs9, e9⟩ := hB_m S' Sm [.inl (1, 1, .inr (.inl f))]
  refine l_cV (M' := M_X12_missing) E hR (by decide) rfl rfl o_X12_missing v_X12_missing (trI (as' := [.ref 0, .int (xs (i + 1))]) rfl (fun G' => c_missing G' false Sm [] g hM9 (xs (i + 1)))) e9 (as := [.int (xs (i + 1))]) (rest := [.int _]) rfl rfl (Nat.le_of_ble_eq_true rfl) ?_
  rintro r9 h9 ⟨v, T, rfl, rfl, q2, rfl⟩
  refine ab_step E.1 rfl ?_
  refine ab_ite (fun _ => ?_) (fun z => absurd rfl z)
  exact k S' T _ _ ⟨q1, q2.1, lb_m hB⟩
set_option maxRecDepth 100000 in
set_option maxHeartbeats 2000000 in
theorem l_c31 (E : lpC G p s m args meth c b Lx xs) (hR : lpR R cells slots) (hi : i + 6 ≤ Lx) (hV : V + 5000 < 2 ^ 30) (hI : lpI S Sm g o V) (k : ∀ S' Sm' g' o', lpI S' Sm' g' o' (V + 5000) → ab_R G M_L_law false n0 p e R s m args below meth c Q cells slots 1577 (lpL i l5 l6) [] (lpH S' Sm' f)) : ab_R G M_L_law false n0 p e R s m args below meth c Q cells slots 1365 (lpL i l5 l6) [] (lpH S Sm f) := by
  obtain ⟨hQ, hM9, hB⟩ := hI
  refine ab_step E.1 rfl ?_
  refine l_arg 1 E rfl rfl rfl rfl rfl rfl (by omega) ?_
  refine l_cV (M' := M_X11_ask) E hR (by decide) rfl rfl o_X11_ask v_X11_ask (d_ask hQ (xs (i + 1))) rfl (as := [.int (xs (i + 1))]) (rest := []) rfl rfl (Nat.le_of_ble_eq_true rfl) ?_
  rintro r9 h9 ⟨v, S', rfl, rfl, q1, rfl⟩
  refine ab_step E.1 rfl ?_
  refine l_arg 1 E rfl rfl rfl rfl rfl rfl (by omega) ?_
  obtain ⟨fs9, e9⟩ := hB_m S' Sm [.inl (1, 1, .inr (.inl f))]
  refine l_cV (M' := M_X12_ask) E hR (by decide) rfl rfl o_X12_ask v_X12_ask (trI (as' := [.ref 0, .int (xs (i + 1))]) rfl (fun G' => c_ask G' false Sm [] g hM9 (xs (i + 1)))) e9 (as := [.int (xs (i + 1))]) (rest := [.int _]) rfl rfl (Nat.le_of_ble_eq_true rfl) ?_
  rintro r9 h9 ⟨v, T, rfl, rfl, q2, rfl⟩
  refine ab_step E.1 rfl ?_
  refine ab_ite (fun _ => ?_) (fun z => absurd rfl z)
  exact k S' T _ _ ⟨q1, q2.1, lb_m hB⟩
set_option maxRecDepth 100000 in
set_option maxHeartbeats 2000000 in
theorem l_c32 (E : lpC G p s m args meth c b Lx xs) (hR : lpR R cells slots) (hi : i + 6 ≤ Lx) (hV : V + 5000 < 2 ^ 30) (hI : lpI S Sm g o V) (k : ∀ S' Sm' g' o', lpI S' Sm' g' o' (V + 5000) → ab_R G M_L_law false n0 p e R s m args below meth c Q cells slots 1577 (lpL i l5 l6) [] (lpH S' Sm' f)) : ab_R G M_L_law false n0 p e R s m args below meth c Q cells slots 1390 (lpL i l5 l6) [] (lpH S Sm f) := by
  obtain ⟨hQ, hM9, hB⟩ := hI
  refine ab_step E.1 rfl ?_
  refine l_cV (M' := M_X11_needs) E hR (by decide) rfl rfl o_X11_needs v_X11_needs (d_needs hQ hV) rfl (as := []) (rest := []) rfl rfl (Nat.le_of_ble_eq_true rfl) ?_
  rintro r9 h9 ⟨v, S', rfl, rfl, q1, rfl⟩
  refine ab_step E.1 rfl ?_
  obtain ⟨fs9, e9⟩ := hB_m S' Sm [.inl (1, 1, .inr (.inl f))]
  refine l_cV (M' := M_X12_needs) E hR (by decide) rfl rfl o_X12_needs v_X12_needs (trI (as' := [.ref 0]) rfl (fun G' => c_needs G' false Sm [] g hM9)) e9 (as := []) (rest := [.int _]) rfl rfl (Nat.le_of_ble_eq_true rfl) ?_
  rintro r9 h9 ⟨v, T, rfl, rfl, q2, rfl⟩
  refine ab_step E.1 rfl ?_
  refine ab_ite (fun _ => ?_) (fun z => absurd rfl z)
  exact k S' T _ _ ⟨q1, q2.1, lb_m hB⟩
set_option maxRecDepth 100000 in
set_option maxHeartbeats 2000000 in
theorem l_c33 (E : lpC G p s m args meth c b Lx xs) (hR : lpR R cells slots) (hi : i + 6 ≤ Lx) (hV : V + 5000 < 2 ^ 30) (hI : lpI S Sm g o V) (k : ∀ S' Sm' g' o', lpI S' Sm' g' o' (V + 5000) → ab_R G M_L_law false n0 p e R s m args below meth c Q cells slots 1577 (lpL i l5 l6) [] (lpH S' Sm' f)) : ab_R G M_L_law false n0 p e R s m args below meth c Q cells slots 1403 (lpL i l5 l6) [] (lpH S Sm f) := by
  obtain ⟨hQ, hM9, hB⟩ := hI
  refine ab_step E.1 rfl ?_
  refine l_arg 1 E rfl rfl rfl rfl rfl rfl (by omega) ?_
  refine l_arg 2 E rfl rfl rfl rfl rfl rfl (by omega) ?_
  refine l_arg 3 E rfl rfl rfl rfl rfl rfl (by omega) ?_
  refine l_arg 4 E rfl rfl rfl rfl rfl rfl (by omega) ?_
  refine l_cV (M' := M_X11_chance) E hR (by decide) rfl rfl o_X11_chance v_X11_chance (d_chance hQ hV (xs (i + 1)) (xs (i + 2)) (xs (i + 3)) (xs (i + 4))) rfl (as := [.int (xs (i + 1)), .int (xs (i + 2)), .int (xs (i + 3)), .int (xs (i + 4))]) (rest := []) rfl rfl (Nat.le_of_ble_eq_true rfl) ?_
  rintro r9 h9 ⟨v, S', rfl, rfl, q1, rfl⟩
  refine ab_step E.1 rfl ?_
  refine l_arg 1 E rfl rfl rfl rfl rfl rfl (by omega) ?_
  refine l_arg 2 E rfl rfl rfl rfl rfl rfl (by omega) ?_
  refine l_arg 3 E rfl rfl rfl rfl rfl rfl (by omega) ?_
  refine l_arg 4 E rfl rfl rfl rfl rfl rfl (by omega) ?_
  obtain ⟨fs9, e9⟩ := hB_m S' Sm [.inl (1, 1, .inr (.inl f))]
  refine l_cV (M' := M_X12_chance) E hR (by decide) rfl rfl o_X12_chance v_X12_chance (trI (as' := [.ref 0, .int (xs (i + 1)), .int (xs (i + 2)), .int (xs (i + 3)), .int (xs (i + 4))]) rfl (fun G' => rf_Q hM9 (c_chance G' false Sm [] g.1 hM9.1 (xs (i + 1)) (xs (i + 2)) (xs (i + 3)) (xs (i + 4))))) e9 (as := [.int (xs (i + 1)), .int (xs (i + 2)), .int (xs (i + 3)), .int (xs (i + 4))]) (rest := [.int _]) rfl rfl (Nat.le_of_ble_eq_true rfl) ?_
  rintro r9 h9 ⟨v, T, rfl, rfl, q2, rfl⟩
  refine ab_step E.1 rfl ?_
  refine ab_ite (fun _ => ?_) (fun z => absurd rfl z)
  exact k S' T _ _ ⟨q1, q2.1, lb_m hB⟩
set_option maxRecDepth 100000 in
set_option maxHeartbeats 2000000 in
theorem l_c34 (E : lpC G p s m args meth c b Lx xs) (hR : lpR R cells slots) (hi : i + 6 ≤ Lx) (hV : V + 5000 < 2 ^ 30) (hI : lpI S Sm g o V) (k : ∀ S' Sm' g' o', lpI S' Sm' g' o' (V + 5000) → ab_R G M_L_law false n0 p e R s m args below meth c Q cells slots 1577 (lpL i l5 l6) [] (lpH S' Sm' f)) : ab_R G M_L_law false n0 p e R s m args below meth c Q cells slots 1464 (lpL i l5 l6) [] (lpH S Sm f) := by
  obtain ⟨hQ, hM9, hB⟩ := hI
  refine ab_step E.1 rfl ?_
  refine l_arg 1 E rfl rfl rfl rfl rfl rfl (by omega) ?_
  refine l_arg 2 E rfl rfl rfl rfl rfl rfl (by omega) ?_
  refine l_arg 3 E rfl rfl rfl rfl rfl rfl (by omega) ?_
  refine l_cV (M' := M_X11_tried) E hR (by decide) rfl rfl o_X11_tried v_X11_tried (d_tried hQ hV (xs (i + 1)) (xs (i + 2)) (xs (i + 3))) rfl (as := [.int (xs (i + 1)), .int (xs (i + 2)), .int (xs (i + 3))]) (rest := []) rfl rfl (Nat.le_of_ble_eq_true rfl) ?_
  rintro r9 h9 ⟨v, S', rfl, rfl, q1, rfl⟩
  refine ab_step E.1 rfl ?_
  refine l_arg 1 E rfl rfl rfl rfl rfl rfl (by omega) ?_
  refine l_arg 2 E rfl rfl rfl rfl rfl rfl (by omega) ?_
  refine l_arg 3 E rfl rfl rfl rfl rfl rfl (by omega) ?_
  obtain ⟨fs9, e9⟩ := hB_m S' Sm [.inl (1, 1, .inr (.inl f))]
  refine l_cV (M' := M_X12_tried) E hR (by decide) rfl rfl o_X12_tried v_X12_tried (trI (as' := [.ref 0, .int (xs (i + 1)), .int (xs (i + 2)), .int (xs (i + 3))]) rfl (fun G' => rf_Q hM9 (c_tried G' false Sm [] g.1 hM9.1 (xs (i + 1)) (xs (i + 2)) (xs (i + 3))))) e9 (as := [.int (xs (i + 1)), .int (xs (i + 2)), .int (xs (i + 3))]) (rest := [.int _]) rfl rfl (Nat.le_of_ble_eq_true rfl) ?_
  rintro r9 h9 ⟨v, T, rfl, rfl, q2, rfl⟩
  refine ab_step E.1 rfl ?_
  refine ab_ite (fun _ => ?_) (fun z => absurd rfl z)
  exact k S' T _ _ ⟨q1, q2.1, lb_m hB⟩
set_option maxRecDepth 100000 in
set_option maxHeartbeats 2000000 in
theorem l_c35 (E : lpC G p s m args meth c b Lx xs) (hR : lpR R cells slots) (hi : i + 6 ≤ Lx) (hV : V + 5000 < 2 ^ 30) (hI : lpI S Sm g o V) (k : ∀ S' Sm' g' o', lpI S' Sm' g' o' (V + 5000) → ab_R G M_L_law false n0 p e R s m args below meth c Q cells slots 1577 (lpL i l5 l6) [] (lpH S' Sm' f)) : ab_R G M_L_law false n0 p e R s m args below meth c Q cells slots 1513 (lpL i l5 l6) [] (lpH S Sm f) := by
  obtain ⟨hQ, hM9, hB⟩ := hI
  refine ab_step E.1 rfl ?_
  refine l_cV (M' := M_X11_undo) E hR (by decide) rfl rfl o_X11_undo v_X11_undo (d_undo hQ) rfl (as := []) (rest := []) rfl rfl (Nat.le_of_ble_eq_true rfl) ?_
  rintro r9 h9 ⟨v, S', rfl, rfl, q1, rfl⟩
  refine ab_step E.1 rfl ?_
  obtain ⟨fs9, e9⟩ := hB_m S' Sm [.inl (1, 1, .inr (.inl f))]
  refine l_cV (M' := M_X12_undo) E hR (by decide) rfl rfl o_X12_undo v_X12_undo (trI (as' := [.ref 0]) rfl (fun G' => rf_A (c_undo G' false Sm [] g hM9))) e9 (as := []) (rest := [.int _]) rfl rfl (Nat.le_of_ble_eq_true rfl) ?_
  rintro r9 h9 ⟨v, T, rfl, rfl, q2, rfl⟩
  refine ab_step E.1 rfl ?_
  refine ab_ite (fun _ => ?_) (fun z => absurd rfl z)
  exact k S' T _ _ ⟨q1, q2.1, lb_undo hB⟩
set_option maxRecDepth 100000 in
set_option maxHeartbeats 2000000 in
theorem l_c36 (E : lpC G p s m args meth c b Lx xs) (hR : lpR R cells slots) (hi : i + 6 ≤ Lx) (hV : V + 5000 < 2 ^ 30) (hI : lpI S Sm g o V) (k : ∀ S' Sm' g' o', lpI S' Sm' g' o' (V + 5000) → ab_R G M_L_law false n0 p e R s m args below meth c Q cells slots 1577 (lpL i l5 l6) [] (lpH S' Sm' f)) : ab_R G M_L_law false n0 p e R s m args below meth c Q cells slots 1526 (lpL i l5 l6) [] (lpH S Sm f) := by
  obtain ⟨hQ, hM9, hB⟩ := hI
  refine ab_step E.1 rfl ?_
  refine l_cV (M' := M_X11_keep) E hR (by decide) rfl rfl o_X11_keep v_X11_keep (d_keep hQ) rfl (as := []) (rest := []) rfl rfl (Nat.le_of_ble_eq_true rfl) ?_
  rintro r9 h9 ⟨v, S', rfl, rfl, q1, rfl⟩
  refine ab_step E.1 rfl ?_
  obtain ⟨fs9, e9⟩ := hB_m S' Sm [.inl (1, 1, .inr (.inl f))]
  refine l_cV (M' := M_X12_keep) E hR (by decide) rfl rfl o_X12_keep v_X12_keep (trI (as' := [.ref 0]) rfl (fun G' => rf_A (c_keep G' false Sm [] g hM9))) e9 (as := []) (rest := [.int _]) rfl rfl (Nat.le_of_ble_eq_true rfl) ?_
  rintro r9 h9 ⟨v, T, rfl, rfl, q2, rfl⟩
  refine ab_step E.1 rfl ?_
  refine ab_ite (fun _ => ?_) (fun z => absurd rfl z)
  exact k S' T _ _ ⟨q1, q2.1, lb_keep hB⟩
set_option maxRecDepth 100000 in
set_option maxHeartbeats 2000000 in
theorem l_c37 (E : lpC G p s m args meth c b Lx xs) (hR : lpR R cells slots) (hi : i + 6 ≤ Lx) (hV : V + 5000 < 2 ^ 30) (hI : lpI S Sm g o V) (k : ∀ S' Sm' g' o', lpI S' Sm' g' o' (V + 5000) → ab_R G M_L_law false n0 p e R s m args below meth c Q cells slots 1577 (lpL i l5 l6) [] (lpH S' Sm' f)) : ab_R G M_L_law false n0 p e R s m args below meth c Q cells slots 1539 (lpL i l5 l6) [] (lpH S Sm f) := by
  obtain ⟨hQ, hM9, hB⟩ := hI
  refine ab_step E.1 rfl ?_
  refine l_cV (M' := M_X11_back) E hR (by decide) rfl rfl o_X11_back v_X11_back (d_back hQ) rfl (as := []) (rest := []) rfl rfl (Nat.le_of_ble_eq_true rfl) ?_
  rintro r9 h9 ⟨v, S', rfl, rfl, q1, rfl⟩
  refine ab_step E.1 rfl ?_
  obtain ⟨fs9, e9⟩ := hB_m S' Sm [.inl (1, 1, .inr (.inl f))]
  refine l_cV (M' := M_X12_back) E hR (by decide) rfl rfl o_X12_back v_X12_back (trI (as' := [.ref 0]) rfl (fun G' => rf_A (c_back G' false Sm [] g hM9))) e9 (as := []) (rest := [.int _]) rfl rfl (Nat.le_of_ble_eq_true rfl) ?_
  rintro r9 h9 ⟨v, T, rfl, rfl, q2, rfl⟩
  refine ab_step E.1 rfl ?_
  refine ab_ite (fun _ => ?_) (fun z => absurd rfl z)
  exact k S' T _ _ ⟨q1, q2.1, lb_back hB⟩
set_option maxRecDepth 100000 in
set_option maxHeartbeats 2000000 in
theorem l_c38 (E : lpC G p s m args meth c b Lx xs) (hR : lpR R cells slots) (hi : i + 6 ≤ Lx) (hV : V + 5000 < 2 ^ 30) (hI : lpI S Sm g o V) (k : ∀ S' Sm' g' o', lpI S' Sm' g' o' (V + 5000) → ab_R G M_L_law false n0 p e R s m args below meth c Q cells slots 1577 (lpL i l5 l6) [] (lpH S' Sm' f)) : ab_R G M_L_law false n0 p e R s m args below meth c Q cells slots 1552 (lpL i l5 l6) [] (lpH S Sm f) := by
  obtain ⟨hQ, hM9, hB⟩ := hI
  refine ab_step E.1 rfl ?_
  refine l_arg 1 E rfl rfl rfl rfl rfl rfl (by omega) ?_
  refine l_cV (M' := M_X11_count) E hR (by decide) rfl rfl o_X11_count v_X11_count (d_count hQ (xs (i + 1))) rfl (as := [.int (xs (i + 1))]) (rest := []) rfl rfl (Nat.le_of_ble_eq_true rfl) ?_
  rintro r9 h9 ⟨v, S', rfl, rfl, q1, rfl⟩
  refine ab_step E.1 rfl ?_
  refine l_arg 1 E rfl rfl rfl rfl rfl rfl (by omega) ?_
  obtain ⟨fs9, e9⟩ := hB_m S' Sm [.inl (1, 1, .inr (.inl f))]
  refine l_cV (M' := M_X12_count) E hR (by decide) rfl rfl o_X12_count v_X12_count (trI (as' := [.ref 0, .int (xs (i + 1))]) rfl (fun G' => c_count G' false Sm [] g hM9 (xs (i + 1)))) e9 (as := [.int (xs (i + 1))]) (rest := [.int _]) rfl rfl (Nat.le_of_ble_eq_true rfl) ?_
  rintro r9 h9 ⟨v, T, rfl, rfl, q2, rfl⟩
  refine ab_step E.1 rfl ?_
  refine ab_ite (fun _ => ?_) (fun z => absurd rfl z)
  exact k S' T _ _ ⟨q1, q2.1, lb_m hB⟩
end LCS

