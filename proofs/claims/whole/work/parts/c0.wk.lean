/-! ===== the program: its methods, walks ===== -/
theorem vp_sp20 {i : Int32} (h : vp_in i 20) (q0 : ¬ i = nI 0) (q1 : ¬ i = nI 1) (q2 : ¬ i = nI 2) (q3 : ¬ i = nI 3) (q4 : ¬ i = nI 4) (q5 : ¬ i = nI 5) (q6 : ¬ i = nI 6) (q7 : ¬ i = nI 7) (q8 : ¬ i = nI 8) (q9 : ¬ i = nI 9) (q10 : ¬ i = nI 10) (q11 : ¬ i = nI 11) (q12 : ¬ i = nI 12) (q13 : ¬ i = nI 13) (q14 : ¬ i = nI 14) (q15 : ¬ i = nI 15) (q16 : ¬ i = nI 16) (q17 : ¬ i = nI 17) (q18 : ¬ i = nI 18) (q19 : ¬ i = nI 19) : False := by
  obtain ⟨j, h1, rfl⟩ := vp_ix (by decide) h
  rcases (show j = 0 ∨ j = 1 ∨ j = 2 ∨ j = 3 ∨ j = 4 ∨ j = 5 ∨ j = 6 ∨ j = 7 ∨ j = 8 ∨ j = 9 ∨ j = 10 ∨ j = 11 ∨ j = 12 ∨ j = 13 ∨ j = 14 ∨ j = 15 ∨ j = 16 ∨ j = 17 ∨ j = 18 ∨ j = 19 by omega) with rfl | rfl | rfl | rfl | rfl | rfl | rfl | rfl | rfl | rfl | rfl | rfl | rfl | rfl | rfl | rfl | rfl | rfl | rfl | rfl
  · exact q0 rfl
  · exact q1 rfl
  · exact q2 rfl
  · exact q3 rfl
  · exact q4 rfl
  · exact q5 rfl
  · exact q6 rfl
  · exact q7 rfl
  · exact q8 rfl
  · exact q9 rfl
  · exact q10 rfl
  · exact q11 rfl
  · exact q12 rfl
  · exact q13 rfl
  · exact q14 rfl
  · exact q15 rfl
  · exact q16 rfl
  · exact q17 rfl
  · exact q18 rfl
  · exact q19 rfl
set_option maxRecDepth 100000 in
set_option maxHeartbeats 4000000 in
theorem m_X11_isPiece {G : ab_G} {fr : Bool} {tl : ab_H} {K : Int32 → ms_S → Prop} {S : ms_S} {i1 : Int32}
    (h : ∀ n0 : Nat, (i1 < 0 → (K (nI 0) S)) ∧ (¬ i1 < 0 → (((S.1 4 12) ≤ i1 → (K (nI 0) S)) ∧ (¬ (S.1 4 12) ≤ i1 → (K (nI 1) S))))) :
    ctI G 1 M_X11_isPiece fr [.ref 0, .int i1] lB S tl K := by
  refine wp_ct o_X11_isPiece (Nat.le_of_ble_eq_true rfl) ?_
  replace h := h (hLy lB S tl).length
  revert h
  generalize (hLy lB S tl).length = n0
  intro h
  iterate 2 refine ws_b rfl ?_
  refine wp_ite (fun q => ?_) (fun q => ?_)
  · replace h := h.1 q
    refine ws_b rfl ?_
    exact wp_ri rfl rfl rfl ⟨_, _, rfl, rfl, h⟩
  · replace h := h.2 q
    iterate 5 refine ws_b rfl ?_
    refine wp_ite (fun q => ?_) (fun q => ?_)
    · replace h := h.1 q
      refine ws_b rfl ?_
      exact wp_ri rfl rfl rfl ⟨_, _, rfl, rfl, h⟩
    · replace h := h.2 q
      iterate 2 refine ws_b rfl ?_
      exact wp_ri rfl rfl rfl ⟨_, _, rfl, rfl, h⟩
set_option maxRecDepth 100000 in
set_option maxHeartbeats 4000000 in
theorem m_X11_isHeir {G : ab_G} {fr : Bool} {tl : ab_H} {K : Int32 → ms_S → Prop} {S : ms_S} {i1 : Int32}
    (h : ∀ n0 : Nat, (i1 < 0 → (K (nI 0) S)) ∧ (¬ i1 < 0 → (((S.1 4 13) ≤ i1 → (K (nI 0) S)) ∧ (¬ (S.1 4 13) ≤ i1 → (K (nI 1) S))))) :
    ctI G 1 M_X11_isHeir fr [.ref 0, .int i1] lB S tl K := by
  refine wp_ct o_X11_isHeir (Nat.le_of_ble_eq_true rfl) ?_
  replace h := h (hLy lB S tl).length
  revert h
  generalize (hLy lB S tl).length = n0
  intro h
  iterate 2 refine ws_b rfl ?_
  refine wp_ite (fun q => ?_) (fun q => ?_)
  · replace h := h.1 q
    refine ws_b rfl ?_
    exact wp_ri rfl rfl rfl ⟨_, _, rfl, rfl, h⟩
  · replace h := h.2 q
    iterate 5 refine ws_b rfl ?_
    refine wp_ite (fun q => ?_) (fun q => ?_)
    · replace h := h.1 q
      refine ws_b rfl ?_
      exact wp_ri rfl rfl rfl ⟨_, _, rfl, rfl, h⟩
    · replace h := h.2 q
      iterate 2 refine ws_b rfl ?_
      exact wp_ri rfl rfl rfl ⟨_, _, rfl, rfl, h⟩
set_option maxRecDepth 100000 in
set_option maxHeartbeats 4000000 in
theorem m_X11_joinAsNow {G : ab_G} {fr : Bool} {tl : ab_H} {K : ms_S → Prop} {S : ms_S} 
    (h : ∀ n0 : Nat, ctL G 4 M_X3_joinsOn fr [.ref 67, .int (S.1 82 3)] lB S tl (fun v1 S1 => ctU G 1 M_X9_use fr [.ref 61, .long v1] lB S1 tl (fun S2 => K S2))) :
    ctU G 5 M_X11_joinAsNow fr [.ref 0] lB S tl K := by
  refine wp_ct o_X11_joinAsNow (Nat.le_of_ble_eq_true rfl) ?_
  replace h := h (hLy lB S tl).length
  revert h
  generalize (hLy lB S tl).length = n0
  intro h
  iterate 7 refine ws_b rfl ?_
  refine wp_cV rfl rfl o_X3_joinsOn v_X3_joinsOn h rfl rfl rfl (Nat.le_of_ble_eq_true rfl) (by decide) ?_
  clear h
  rintro r9 h9 ⟨v1, S1, rfl, rfl, h⟩
  refine wp_cV rfl rfl o_X9_use v_X9_use h rfl rfl rfl (Nat.le_of_ble_eq_true rfl) (by decide) ?_
  clear h
  rintro r9 h9 ⟨S2, rfl, rfl, h⟩
  exact wp_rv rfl rfl ⟨_, rfl, rfl, h⟩
set_option maxRecDepth 100000 in
set_option maxHeartbeats 4000000 in
theorem m_X11_heir {G : ab_G} {fr : Bool} {tl : ab_H} {K : Int32 → ms_S → Prop} {S : ms_S} {i1 : Int32} {i2 : Int32}
    (h : ∀ n0 : Nat, ctI G 1 M_X11_isHeir fr [.ref 0, .int i1] lB S tl (fun v1 S1 => (v1 = 0 → (K (-(nI 1)) S1)) ∧ (¬ v1 = 0 → ((i2 = nI 0 → (vp_in i1 5 ∧ (K (S1.2.2.2.1 84 i1.toNatClampNeg) S1))) ∧ (i2 = nI 1 → (vp_in i1 5 ∧ (K (S1.2.2.2.1 83 i1.toNatClampNeg) S1))) ∧ (i2 = nI 2 → (vp_in i1 5 ∧ (K (S1.2.2.2.1 85 i1.toNatClampNeg) S1))) ∧ (¬ i2 = nI 0 → ¬ i2 = nI 1 → ¬ i2 = nI 2 → (K (-(nI 1)) S1)))))) :
    ctI G 2 M_X11_heir fr [.ref 0, .int i1, .int i2] lB S tl K := by
  refine wp_ct o_X11_heir (Nat.le_of_ble_eq_true rfl) ?_
  replace h := h (hLy lB S tl).length
  revert h
  generalize (hLy lB S tl).length = n0
  intro h
  iterate 2 refine ws_b rfl ?_
  refine wp_cV rfl rfl o_X11_isHeir v_X11_isHeir h rfl rfl rfl (Nat.le_of_ble_eq_true rfl) (by decide) ?_
  clear h
  rintro r9 h9 ⟨v1, S1, rfl, rfl, h⟩
  refine ws_b rfl ?_
  refine wp_ite (fun q => ?_) (fun q => ?_)
  · replace h := h.1 q
    refine ws_b rfl ?_
    exact wp_ri rfl rfl rfl ⟨_, _, rfl, rfl, h⟩
  · replace h := h.2 q
    refine ws_b rfl ?_
    by_cases q0 : i2 = nI 0
    · refine wp_tswN (nI 0) 36 (25) rfl q0 rfl rfl rfl rfl ?_
      replace h := h.1 q0
      iterate 4 refine ws_b rfl ?_
      refine ws_g rfl h.1 ?_
      replace h := h.2
      exact wp_ri rfl rfl rfl ⟨_, _, rfl, rfl, h⟩
    replace h := h.2
    by_cases q1 : i2 = nI 1
    · refine wp_tswN (nI 1) 46 (35) rfl q1 rfl rfl rfl rfl ?_
      replace h := h.1 q1
      iterate 4 refine ws_b rfl ?_
      refine ws_g rfl h.1 ?_
      replace h := h.2
      exact wp_ri rfl rfl rfl ⟨_, _, rfl, rfl, h⟩
    replace h := h.2
    by_cases q2 : i2 = nI 2
    · refine wp_tswN (nI 2) 56 (45) rfl q2 rfl rfl rfl rfl ?_
      replace h := h.1 q2
      iterate 4 refine ws_b rfl ?_
      refine ws_g rfl h.1 ?_
      replace h := h.2
      exact wp_ri rfl rfl rfl ⟨_, _, rfl, rfl, h⟩
    replace h := h.2
    refine wp_tswD 66 [nI 0, nI 1, nI 2] rfl (by decide) (by intro k9 hk9; rcases List.mem_cons.mp hk9 with rfl | hk9; exact q0; rcases List.mem_cons.mp hk9 with rfl | hk9; exact q1; rcases List.mem_cons.mp hk9 with rfl | hk9; exact q2; exact nomatch hk9) rfl ?_
    replace h := h q0 q1 q2
    refine ws_b rfl ?_
    exact wp_ri rfl rfl rfl ⟨_, _, rfl, rfl, h⟩
def L_X11_joins_14 (G : ab_G) (fr : Bool) (n0 : Nat) (tl : ab_H) (K : Int32 → ms_S → Prop) (S : ms_S)  : Prop := wp G 5 M_X11_joins fr n0 (poI lB tl K) 14 [none, none, none] [] (hLy lB S tl)
set_option maxRecDepth 100000 in
set_option maxHeartbeats 4000000 in
theorem b_X11_joins_14 {G : ab_G} {fr : Bool} {n0 : Nat} {tl : ab_H} {K : Int32 → ms_S → Prop} {S : ms_S} 
    (h : K (-(nI 1)) S) :
    L_X11_joins_14 G fr n0 tl K S  := by
  unfold L_X11_joins_14
  refine ws_b rfl ?_
  exact wp_ri rfl rfl rfl ⟨_, _, rfl, rfl, h⟩
set_option maxRecDepth 100000 in
set_option maxHeartbeats 4000000 in
theorem m_X11_joins {G : ab_G} {fr : Bool} {tl : ab_H} {K : Int32 → ms_S → Prop} {S : ms_S} {i1 : Int32} {i2 : Int32}
    (h : ∀ n0 : Nat, ctI G 1 M_X11_isEnd fr [.int i1] lB S tl (fun v1 S1 => (v1 = 0 → (L_X11_joins_14 G fr n0 tl K S1 )) ∧ (¬ v1 = 0 → (ctI G 1 M_X11_isEnd fr [.int i2] lB S1 tl (fun v2 S2 => (v2 = 0 → (L_X11_joins_14 G fr n0 tl K S2 )) ∧ (¬ v2 = 0 → (ctL G 4 M_X3_joinsOn fr [.ref 67, .int (S2.1 82 3)] lB S2 tl (fun v3 S3 => K ((((v3.toUInt64 >>> (((i1 * (nI 8)) + i2).toInt64.toUInt64 &&& Int64.toUInt64 63)).toInt64) &&& (lN 1)).toInt32) S3)))))))) :
    ctI G 5 M_X11_joins fr [.ref 0, .int i1, .int i2] lB S tl K := by
  refine wp_ct o_X11_joins (Nat.le_of_ble_eq_true rfl) ?_
  replace h := h (hLy lB S tl).length
  revert h
  generalize (hLy lB S tl).length = n0
  intro h
  refine ws_b rfl ?_
  refine wp_cS rfl rfl o_X11_isEnd s_X11_isEnd h rfl rfl (Nat.le_of_ble_eq_true rfl) (by decide) ?_
  clear h
  rintro r9 h9 ⟨v1, S1, rfl, rfl, h⟩
  refine ws_b rfl ?_
  refine wp_ite (fun q => ?_) (fun q => ?_)
  · replace h := h.1 q
    exact wp_weak (wk_n (wk_n (wk_n wk_0))) h
  · replace h := h.2 q
    refine ws_b rfl ?_
    refine wp_cS rfl rfl o_X11_isEnd s_X11_isEnd h rfl rfl (Nat.le_of_ble_eq_true rfl) (by decide) ?_
    clear h
    rintro r9 h9 ⟨v2, S2, rfl, rfl, h⟩
    refine ws_b rfl ?_
    refine wp_ite (fun q => ?_) (fun q => ?_)
    · replace h := h.1 q
      exact wp_weak (wk_n (wk_n (wk_n wk_0))) h
    · replace h := h.2 q
      iterate 5 refine ws_b rfl ?_
      refine wp_cV rfl rfl o_X3_joinsOn v_X3_joinsOn h rfl rfl rfl (Nat.le_of_ble_eq_true rfl) (by decide) ?_
      clear h
      rintro r9 h9 ⟨v3, S3, rfl, rfl, h⟩
      iterate 9 refine ws_b rfl ?_
      exact wp_ri rfl rfl rfl ⟨_, _, rfl, rfl, h⟩
def L_X11_law_61 (G : ab_G) (fr : Bool) (n0 : Nat) (tl : ab_H) (K : Int64 → ms_S → Prop) (S : ms_S)  : Prop := wp G 5 M_X11_law fr n0 (poL lB tl K) 61 [none, none, none, none] [] (hLy lB S tl)
def L_X11_law_64 (G : ab_G) (fr : Bool) (n0 : Nat) (tl : ab_H) (K : Int64 → ms_S → Prop) (S : ms_S) (w0 : Int64) : Prop := wp G 5 M_X11_law fr n0 (poL lB tl K) 64 [none, none, none, none] [.long w0] (hLy lB S tl)
def L_X11_law_97 (G : ab_G) (fr : Bool) (n0 : Nat) (tl : ab_H) (K : Int64 → ms_S → Prop) (S : ms_S)  : Prop := wp G 5 M_X11_law fr n0 (poL lB tl K) 97 [none, none, none, none] [] (hLy lB S tl)
def L_X11_law_100 (G : ab_G) (fr : Bool) (n0 : Nat) (tl : ab_H) (K : Int64 → ms_S → Prop) (S : ms_S) (w0 : Int64) : Prop := wp G 5 M_X11_law fr n0 (poL lB tl K) 100 [none, none, none, none] [.long w0] (hLy lB S tl)
def L_X11_law_133 (G : ab_G) (fr : Bool) (n0 : Nat) (tl : ab_H) (K : Int64 → ms_S → Prop) (S : ms_S)  : Prop := wp G 5 M_X11_law fr n0 (poL lB tl K) 133 [none, none, none, none] [] (hLy lB S tl)
def L_X11_law_136 (G : ab_G) (fr : Bool) (n0 : Nat) (tl : ab_H) (K : Int64 → ms_S → Prop) (S : ms_S) (w0 : Int64) : Prop := wp G 5 M_X11_law fr n0 (poL lB tl K) 136 [none, none, none, none] [.long w0] (hLy lB S tl)
set_option maxRecDepth 100000 in
set_option maxHeartbeats 4000000 in
theorem b_X11_law_61 {G : ab_G} {fr : Bool} {n0 : Nat} {tl : ab_H} {K : Int64 → ms_S → Prop} {S : ms_S} 
    (h : L_X11_law_64 G fr n0 tl K S ((-9223372036854775808 : Int64))) :
    L_X11_law_61 G fr n0 tl K S  := by
  unfold L_X11_law_61
  refine ws_b rfl ?_
  exact wp_weak (wk_s (wk_s (wk_s (wk_s wk_0)))) h
set_option maxRecDepth 100000 in
set_option maxHeartbeats 4000000 in
theorem b_X11_law_64 {G : ab_G} {fr : Bool} {n0 : Nat} {tl : ab_H} {K : Int64 → ms_S → Prop} {S : ms_S} {w0 : Int64}
    (h : K w0 S) :
    L_X11_law_64 G fr n0 tl K S w0 := by
  unfold L_X11_law_64
  exact wp_rl rfl rfl ⟨_, _, rfl, rfl, h⟩
set_option maxRecDepth 100000 in
set_option maxHeartbeats 4000000 in
theorem b_X11_law_97 {G : ab_G} {fr : Bool} {n0 : Nat} {tl : ab_H} {K : Int64 → ms_S → Prop} {S : ms_S} 
    (h : L_X11_law_100 G fr n0 tl K S ((-9223372036854775808 : Int64))) :
    L_X11_law_97 G fr n0 tl K S  := by
  unfold L_X11_law_97
  refine ws_b rfl ?_
  exact wp_weak (wk_s (wk_s (wk_s (wk_s wk_0)))) h
set_option maxRecDepth 100000 in
set_option maxHeartbeats 4000000 in
theorem b_X11_law_100 {G : ab_G} {fr : Bool} {n0 : Nat} {tl : ab_H} {K : Int64 → ms_S → Prop} {S : ms_S} {w0 : Int64}
    (h : K w0 S) :
    L_X11_law_100 G fr n0 tl K S w0 := by
  unfold L_X11_law_100
  exact wp_rl rfl rfl ⟨_, _, rfl, rfl, h⟩
set_option maxRecDepth 100000 in
set_option maxHeartbeats 4000000 in
theorem b_X11_law_133 {G : ab_G} {fr : Bool} {n0 : Nat} {tl : ab_H} {K : Int64 → ms_S → Prop} {S : ms_S} 
    (h : L_X11_law_136 G fr n0 tl K S ((-9223372036854775808 : Int64))) :
    L_X11_law_133 G fr n0 tl K S  := by
  unfold L_X11_law_133
  refine ws_b rfl ?_
  exact wp_weak (wk_s (wk_s (wk_s (wk_s wk_0)))) h
set_option maxRecDepth 100000 in
set_option maxHeartbeats 4000000 in
theorem b_X11_law_136 {G : ab_G} {fr : Bool} {n0 : Nat} {tl : ab_H} {K : Int64 → ms_S → Prop} {S : ms_S} {w0 : Int64}
    (h : K w0 S) :
    L_X11_law_136 G fr n0 tl K S w0 := by
  unfold L_X11_law_136
  exact wp_rl rfl rfl ⟨_, _, rfl, rfl, h⟩
set_option maxRecDepth 100000 in
set_option maxHeartbeats 4000000 in
theorem m_X11_law {G : ab_G} {fr : Bool} {tl : ab_H} {K : Int64 → ms_S → Prop} {S : ms_S} {i1 : Int32} {i2 : Int32} {i3 : Int32}
    (h : ∀ n0 : Nat, (i1 = nI 0 → (ctI G 1 M_X11_isEnd fr [.int i2] lB S tl (fun v1 S1 => (v1 = 0 → (L_X11_law_61 G fr n0 tl K S1 )) ∧ (¬ v1 = 0 → (ctI G 1 M_X11_isEnd fr [.int i3] lB S1 tl (fun v2 S2 => (v2 = 0 → (L_X11_law_61 G fr n0 tl K S2 )) ∧ (¬ v2 = 0 → (ctL G 4 M_X3_joinValue fr [.ref 67, .int (S2.1 82 3), .int i2, .int i3] lB S2 tl (fun v3 S3 => L_X11_law_64 G fr n0 tl K S3 v3))))))))) ∧ (i1 = nI 1 → (ctI G 1 M_X11_isPiece fr [.ref 0, .int i2] lB S tl (fun v4 S4 => (v4 = 0 → (L_X11_law_97 G fr n0 tl K S4 )) ∧ (¬ v4 = 0 → (ctI G 1 M_X11_isHeir fr [.ref 0, .int i3] lB S4 tl (fun v5 S5 => (v5 = 0 → (L_X11_law_97 G fr n0 tl K S5 )) ∧ (¬ v5 = 0 → (ctL G 4 M_X3_mayValue fr [.ref 67, .ref 82, .int i2, .int i3] lB S5 tl (fun v6 S6 => L_X11_law_100 G fr n0 tl K S6 v6))))))))) ∧ (i1 = nI 2 → (ctI G 1 M_X11_isPiece fr [.ref 0, .int i2] lB S tl (fun v7 S7 => (v7 = 0 → (L_X11_law_133 G fr n0 tl K S7 )) ∧ (¬ v7 = 0 → (ctI G 1 M_X11_isHeir fr [.ref 0, .int i3] lB S7 tl (fun v8 S8 => (v8 = 0 → (L_X11_law_133 G fr n0 tl K S8 )) ∧ (¬ v8 = 0 → (ctL G 4 M_X3_goldValue fr [.ref 67, .ref 82, .int i2, .int i3] lB S8 tl (fun v9 S9 => L_X11_law_136 G fr n0 tl K S9 v9))))))))) ∧ (¬ i1 = nI 0 → ¬ i1 = nI 1 → ¬ i1 = nI 2 → (K ((-9223372036854775808 : Int64)) S))) :
    ctL G 5 M_X11_law fr [.ref 0, .int i1, .int i2, .int i3] lB S tl K := by
  refine wp_ct o_X11_law (Nat.le_of_ble_eq_true rfl) ?_
  replace h := h (hLy lB S tl).length
  revert h
  generalize (hLy lB S tl).length = n0
  intro h
  refine ws_b rfl ?_
  by_cases q0 : i1 = nI 0
  · refine wp_tswN (nI 0) 28 (27) rfl q0 rfl rfl rfl rfl ?_
    replace h := h.1 q0
    refine ws_b rfl ?_
    refine wp_cS rfl rfl o_X11_isEnd s_X11_isEnd h rfl rfl (Nat.le_of_ble_eq_true rfl) (by decide) ?_
    clear h
    rintro r9 h9 ⟨v1, S1, rfl, rfl, h⟩
    refine ws_b rfl ?_
    refine wp_ite (fun q => ?_) (fun q => ?_)
    · replace h := h.1 q
      exact wp_weak (wk_n (wk_n (wk_n (wk_n wk_0)))) h
    · replace h := h.2 q
      refine ws_b rfl ?_
      refine wp_cS rfl rfl o_X11_isEnd s_X11_isEnd h rfl rfl (Nat.le_of_ble_eq_true rfl) (by decide) ?_
      clear h
      rintro r9 h9 ⟨v2, S2, rfl, rfl, h⟩
      refine ws_b rfl ?_
      refine wp_ite (fun q => ?_) (fun q => ?_)
      · replace h := h.1 q
        exact wp_weak (wk_n (wk_n (wk_n (wk_n wk_0)))) h
      · replace h := h.2 q
        iterate 7 refine ws_b rfl ?_
        refine wp_cV rfl rfl o_X3_joinValue v_X3_joinValue h rfl rfl rfl (Nat.le_of_ble_eq_true rfl) (by decide) ?_
        clear h
        rintro r9 h9 ⟨v3, S3, rfl, rfl, h⟩
        refine ws_b rfl ?_
        exact wp_weak (wk_n (wk_n (wk_n (wk_n wk_0)))) h
  replace h := h.2
  by_cases q1 : i1 = nI 1
  · refine wp_tswN (nI 1) 65 (64) rfl q1 rfl rfl rfl rfl ?_
    replace h := h.1 q1
    iterate 2 refine ws_b rfl ?_
    refine wp_cV rfl rfl o_X11_isPiece v_X11_isPiece h rfl rfl rfl (Nat.le_of_ble_eq_true rfl) (by decide) ?_
    clear h
    rintro r9 h9 ⟨v4, S4, rfl, rfl, h⟩
    refine ws_b rfl ?_
    refine wp_ite (fun q => ?_) (fun q => ?_)
    · replace h := h.1 q
      exact wp_weak (wk_n (wk_n (wk_n (wk_n wk_0)))) h
    · replace h := h.2 q
      iterate 2 refine ws_b rfl ?_
      refine wp_cV rfl rfl o_X11_isHeir v_X11_isHeir h rfl rfl rfl (Nat.le_of_ble_eq_true rfl) (by decide) ?_
      clear h
      rintro r9 h9 ⟨v5, S5, rfl, rfl, h⟩
      refine ws_b rfl ?_
      refine wp_ite (fun q => ?_) (fun q => ?_)
      · replace h := h.1 q
        exact wp_weak (wk_n (wk_n (wk_n (wk_n wk_0)))) h
      · replace h := h.2 q
        iterate 6 refine ws_b rfl ?_
        refine wp_cV rfl rfl o_X3_mayValue v_X3_mayValue h rfl rfl rfl (Nat.le_of_ble_eq_true rfl) (by decide) ?_
        clear h
        rintro r9 h9 ⟨v6, S6, rfl, rfl, h⟩
        refine ws_b rfl ?_
        exact wp_weak (wk_n (wk_n (wk_n (wk_n wk_0)))) h
  replace h := h.2
  by_cases q2 : i1 = nI 2
  · refine wp_tswN (nI 2) 101 (100) rfl q2 rfl rfl rfl rfl ?_
    replace h := h.1 q2
    iterate 2 refine ws_b rfl ?_
    refine wp_cV rfl rfl o_X11_isPiece v_X11_isPiece h rfl rfl rfl (Nat.le_of_ble_eq_true rfl) (by decide) ?_
    clear h
    rintro r9 h9 ⟨v7, S7, rfl, rfl, h⟩
    refine ws_b rfl ?_
    refine wp_ite (fun q => ?_) (fun q => ?_)
    · replace h := h.1 q
      exact wp_weak (wk_n (wk_n (wk_n (wk_n wk_0)))) h
    · replace h := h.2 q
      iterate 2 refine ws_b rfl ?_
      refine wp_cV rfl rfl o_X11_isHeir v_X11_isHeir h rfl rfl rfl (Nat.le_of_ble_eq_true rfl) (by decide) ?_
      clear h
      rintro r9 h9 ⟨v8, S8, rfl, rfl, h⟩
      refine ws_b rfl ?_
      refine wp_ite (fun q => ?_) (fun q => ?_)
      · replace h := h.1 q
        exact wp_weak (wk_n (wk_n (wk_n (wk_n wk_0)))) h
      · replace h := h.2 q
        iterate 6 refine ws_b rfl ?_
        refine wp_cV rfl rfl o_X3_goldValue v_X3_goldValue h rfl rfl rfl (Nat.le_of_ble_eq_true rfl) (by decide) ?_
        clear h
        rintro r9 h9 ⟨v9, S9, rfl, rfl, h⟩
        refine ws_b rfl ?_
        exact wp_weak (wk_n (wk_n (wk_n (wk_n wk_0)))) h
  replace h := h.2
  refine wp_tswD 137 [nI 0, nI 1, nI 2] rfl (by decide) (by intro k9 hk9; rcases List.mem_cons.mp hk9 with rfl | hk9; exact q0; rcases List.mem_cons.mp hk9 with rfl | hk9; exact q1; rcases List.mem_cons.mp hk9 with rfl | hk9; exact q2; exact nomatch hk9) rfl ?_
  replace h := h q0 q1 q2
  refine ws_b rfl ?_
  exact wp_rl rfl rfl ⟨_, _, rfl, rfl, h⟩
def L_X11_give_21 (G : ab_G) (fr : Bool) (n0 : Nat) (tl : ab_H) (K : Int32 → ms_S → Prop) (S : ms_S)  : Prop := wp G 6 M_X11_give fr n0 (poI lB tl K) 21 [none, none, none, none, none] [] (hLy lB S tl)
def L_X11_give_23 (G : ab_G) (fr : Bool) (n0 : Nat) (tl : ab_H) (K : Int32 → ms_S → Prop) (S : ms_S) (i1 : Int32) (i2 : Int32) : Prop := wp G 6 M_X11_give fr n0 (poI lB tl K) 23 [some (.ref 0), some (.int i1), some (.int i2), none, none] [] (hLy lB S tl)
def L_X11_give_43 (G : ab_G) (fr : Bool) (n0 : Nat) (tl : ab_H) (K : Int32 → ms_S → Prop) (S : ms_S) (i1 : Int32) (i3 : Int32) (t0 : Int32) : Prop := wp G 6 M_X11_give fr n0 (poI lB tl K) 43 [some (.ref 0), some (.int i1), none, some (.int i3), none] [.int t0] (hLy lB S tl)
def L_X11_give_57 (G : ab_G) (fr : Bool) (n0 : Nat) (tl : ab_H) (K : Int32 → ms_S → Prop) (S : ms_S)  : Prop := wp G 6 M_X11_give fr n0 (poI lB tl K) 57 [none, none, none, none, none] [] (hLy lB S tl)
def L_X11_give_85 (G : ab_G) (fr : Bool) (n0 : Nat) (tl : ab_H) (K : Int32 → ms_S → Prop) (S : ms_S) (i1 : Int32) (i3 : Int32) (i4 : Int32) : Prop := wp G 6 M_X11_give fr n0 (poI lB tl K) 85 [some (.ref 0), some (.int i1), none, some (.int i3), some (.int i4)] [] (hLy lB S tl)
set_option maxRecDepth 100000 in
set_option maxHeartbeats 4000000 in
theorem b_X11_give_21 {G : ab_G} {fr : Bool} {n0 : Nat} {tl : ab_H} {K : Int32 → ms_S → Prop} {S : ms_S} 
    (h : K (nI 0) S) :
    L_X11_give_21 G fr n0 tl K S  := by
  unfold L_X11_give_21
  refine ws_b rfl ?_
  exact wp_ri rfl rfl rfl ⟨_, _, rfl, rfl, h⟩
set_option maxRecDepth 100000 in
set_option maxHeartbeats 4000000 in
theorem b_X11_give_23 {G : ab_G} {fr : Bool} {n0 : Nat} {tl : ab_H} {K : Int32 → ms_S → Prop} {S : ms_S} {i1 : Int32} {i2 : Int32}
    (h : ctI G 1 M_X1_holderOf fr [.ref 82, .int i1] lB S tl (fun v1 S1 => (i2 = (-(nI 1)) → (L_X11_give_43 G fr n0 tl K S1 i1 v1 (-(nI 2)))) ∧ (¬ i2 = (-(nI 1)) → (L_X11_give_43 G fr n0 tl K S1 i1 v1 i2)))) :
    L_X11_give_23 G fr n0 tl K S i1 i2 := by
  unfold L_X11_give_23
  iterate 3 refine ws_b rfl ?_
  refine wp_cV rfl rfl o_X1_holderOf v_X1_holderOf h rfl rfl rfl (Nat.le_of_ble_eq_true rfl) (by decide) ?_
  clear h
  rintro r9 h9 ⟨v1, S1, rfl, rfl, h⟩
  iterate 4 refine ws_b rfl ?_
  refine wp_ite (fun q => ?_) (fun q => ?_)
  · replace h := h.1 q
    iterate 2 refine ws_b rfl ?_
    exact wp_weak (wk_s (wk_s (wk_n (wk_s (wk_s wk_0))))) h
  · replace h := h.2 q
    refine ws_b rfl ?_
    exact wp_weak (wk_s (wk_s (wk_n (wk_s (wk_s wk_0))))) h
set_option maxRecDepth 100000 in
set_option maxHeartbeats 4000000 in
theorem b_X11_give_43 {G : ab_G} {fr : Bool} {n0 : Nat} {tl : ab_H} {K : Int32 → ms_S → Prop} {S : ms_S} {i1 : Int32} {i3 : Int32} {t0 : Int32}
    (h : (i3 = (-(nI 3)) → (L_X11_give_57 G fr n0 tl K S )) ∧ (¬ i3 = (-(nI 3)) → ((i3 = t0 → (L_X11_give_57 G fr n0 tl K S )) ∧ (¬ i3 = t0 → ((t0 = (-(nI 2)) → (L_X11_give_85 G fr n0 tl K S i1 i3 t0)) ∧ (¬ t0 = (-(nI 2)) → (ctI G 5 M_X3_mayHold fr [.ref 67, .ref 82, .int i1, .int t0] lB S tl (fun v1 S1 => (v1 = 0 → (K (nI 0) S1)) ∧ (¬ v1 = 0 → (L_X11_give_85 G fr n0 tl K S1 i1 i3 t0)))))))))) :
    L_X11_give_43 G fr n0 tl K S i1 i3 t0 := by
  unfold L_X11_give_43
  iterate 4 refine ws_b rfl ?_
  refine wp_ite (fun q => ?_) (fun q => ?_)
  · replace h := h.1 q
    exact wp_weak (wk_n (wk_n (wk_s (wk_n (wk_n wk_0))))) h
  · replace h := h.2 q
    iterate 3 refine ws_b rfl ?_
    refine wp_ite (fun q => ?_) (fun q => ?_)
    · replace h := h.1 q
      exact wp_weak (wk_n (wk_n (wk_s (wk_n (wk_n wk_0))))) h
    · replace h := h.2 q
      iterate 3 refine ws_b rfl ?_
      refine wp_ite (fun q => ?_) (fun q => ?_)
      · replace h := h.1 q
        exact wp_weak (wk_s (wk_s (wk_s (wk_s (wk_s wk_0))))) h
      · replace h := h.2 q
        iterate 6 refine ws_b rfl ?_
        refine wp_cV rfl rfl o_X3_mayHold v_X3_mayHold h rfl rfl rfl (Nat.le_of_ble_eq_true rfl) (by decide) ?_
        clear h
        rintro r9 h9 ⟨v1, S1, rfl, rfl, h⟩
        refine ws_b rfl ?_
        refine wp_ite (fun q => ?_) (fun q => ?_)
        · replace h := h.1 q
          refine ws_b rfl ?_
          exact wp_ri rfl rfl rfl ⟨_, _, rfl, rfl, h⟩
        · replace h := h.2 q
          exact wp_weak (wk_s (wk_s (wk_s (wk_s (wk_s wk_0))))) h
set_option maxRecDepth 100000 in
set_option maxHeartbeats 4000000 in
theorem b_X11_give_57 {G : ab_G} {fr : Bool} {n0 : Nat} {tl : ab_H} {K : Int32 → ms_S → Prop} {S : ms_S} 
    (h : K (nI 0) S) :
    L_X11_give_57 G fr n0 tl K S  := by
  unfold L_X11_give_57
  refine ws_b rfl ?_
  exact wp_ri rfl rfl rfl ⟨_, _, rfl, rfl, h⟩
set_option maxRecDepth 100000 in
set_option maxHeartbeats 4000000 in
theorem b_X11_give_85 {G : ab_G} {fr : Bool} {n0 : Nat} {tl : ab_H} {K : Int32 → ms_S → Prop} {S : ms_S} {i1 : Int32} {i3 : Int32} {i4 : Int32}
    (h : ctU G 2 M_X11_remember fr [.ref 0] lB S tl (fun S1 => ctU G 1 M_X1_move fr [.ref 82, .int i1, .int i3, .int i4] lB S1 tl (fun S2 => K (nI 1) S2))) :
    L_X11_give_85 G fr n0 tl K S i1 i3 i4 := by
  unfold L_X11_give_85
  refine ws_b rfl ?_
  refine wp_cV rfl rfl o_X11_remember v_X11_remember h rfl rfl rfl (Nat.le_of_ble_eq_true rfl) (by decide) ?_
  clear h
  rintro r9 h9 ⟨S1, rfl, rfl, h⟩
  iterate 5 refine ws_b rfl ?_
  refine wp_cV rfl rfl o_X1_move v_X1_move h rfl rfl rfl (Nat.le_of_ble_eq_true rfl) (by decide) ?_
  clear h
  rintro r9 h9 ⟨S2, rfl, rfl, h⟩
  refine ws_b rfl ?_
  exact wp_ri rfl rfl rfl ⟨_, _, rfl, rfl, h⟩
set_option maxRecDepth 100000 in
set_option maxHeartbeats 4000000 in
theorem m_X11_give {G : ab_G} {fr : Bool} {tl : ab_H} {K : Int32 → ms_S → Prop} {S : ms_S} {i1 : Int32} {i2 : Int32}
    (h : ∀ n0 : Nat, ctI G 1 M_X11_isPiece fr [.ref 0, .int i1] lB S tl (fun v1 S1 => (v1 = 0 → (L_X11_give_21 G fr n0 tl K S1 )) ∧ (¬ v1 = 0 → ((i2 = (-(nI 1)) → (L_X11_give_23 G fr n0 tl K S1 i1 i2)) ∧ (¬ i2 = (-(nI 1)) → (ctI G 1 M_X11_isHeir fr [.ref 0, .int i2] lB S1 tl (fun v2 S2 => (v2 = 0 → (L_X11_give_21 G fr n0 tl K S2 )) ∧ (¬ v2 = 0 → (L_X11_give_23 G fr n0 tl K S2 i1 i2))))))))) :
    ctI G 6 M_X11_give fr [.ref 0, .int i1, .int i2] lB S tl K := by
  refine wp_ct o_X11_give (Nat.le_of_ble_eq_true rfl) ?_
  replace h := h (hLy lB S tl).length
  revert h
  generalize (hLy lB S tl).length = n0
  intro h
  iterate 2 refine ws_b rfl ?_
  refine wp_cV rfl rfl o_X11_isPiece v_X11_isPiece h rfl rfl rfl (Nat.le_of_ble_eq_true rfl) (by decide) ?_
  clear h
  rintro r9 h9 ⟨v1, S1, rfl, rfl, h⟩
  refine ws_b rfl ?_
  refine wp_ite (fun q => ?_) (fun q => ?_)
  · replace h := h.1 q
    exact wp_weak (wk_n (wk_n (wk_n (wk_s (wk_s wk_0))))) h
  · replace h := h.2 q
    iterate 3 refine ws_b rfl ?_
    refine wp_ite (fun q => ?_) (fun q => ?_)
    · replace h := h.1 q
      exact wp_weak (wk_s (wk_s (wk_s (wk_s (wk_s wk_0))))) h
    · replace h := h.2 q
      iterate 2 refine ws_b rfl ?_
      refine wp_cV rfl rfl o_X11_isHeir v_X11_isHeir h rfl rfl rfl (Nat.le_of_ble_eq_true rfl) (by decide) ?_
      clear h
      rintro r9 h9 ⟨v2, S2, rfl, rfl, h⟩
      refine ws_b rfl ?_
      refine wp_ite (fun q => ?_) (fun q => ?_)
      · replace h := h.1 q
        exact wp_weak (wk_n (wk_n (wk_n (wk_s (wk_s wk_0))))) h
      · replace h := h.2 q
        exact wp_weak (wk_s (wk_s (wk_s (wk_s (wk_s wk_0))))) h
def L_X11_trade_32 (G : ab_G) (fr : Bool) (n0 : Nat) (tl : ab_H) (K : Int32 → ms_S → Prop) (S : ms_S)  : Prop := wp G 7 M_X11_trade fr n0 (poI lB tl K) 32 [none, none, none] [] (hLy lB S tl)
set_option maxRecDepth 100000 in
set_option maxHeartbeats 4000000 in
theorem b_X11_trade_32 {G : ab_G} {fr : Bool} {n0 : Nat} {tl : ab_H} {K : Int32 → ms_S → Prop} {S : ms_S} 
    (h : K (nI 0) S) :
    L_X11_trade_32 G fr n0 tl K S  := by
  unfold L_X11_trade_32
  refine ws_b rfl ?_
  exact wp_ri rfl rfl rfl ⟨_, _, rfl, rfl, h⟩
set_option maxRecDepth 100000 in
set_option maxHeartbeats 4000000 in
theorem m_X11_trade {G : ab_G} {fr : Bool} {tl : ab_H} {K : Int32 → ms_S → Prop} {S : ms_S} {i1 : Int32} {i2 : Int32}
    (h : ∀ n0 : Nat, ctI G 1 M_X11_isPiece fr [.ref 0, .int i1] lB S tl (fun v1 S1 => (v1 = 0 → (L_X11_trade_32 G fr n0 tl K S1 )) ∧ (¬ v1 = 0 → (ctI G 1 M_X11_isPiece fr [.ref 0, .int i2] lB S1 tl (fun v2 S2 => (v2 = 0 → (L_X11_trade_32 G fr n0 tl K S2 )) ∧ (¬ v2 = 0 → (ctI G 6 M_X0_canTrade fr [.ref 72, .ref 82, .int i1, .int i2] lB S2 tl (fun v3 S3 => (v3 = 0 → (L_X11_trade_32 G fr n0 tl K S3 )) ∧ (¬ v3 = 0 → (ctU G 2 M_X11_remember fr [.ref 0] lB S3 tl (fun S4 => ctU G 2 M_X1_change fr [.ref 82, .int i1, .int i2] lB S4 tl (fun S5 => K (nI 1) S5)))))))))))) :
    ctI G 7 M_X11_trade fr [.ref 0, .int i1, .int i2] lB S tl K := by
  refine wp_ct o_X11_trade (Nat.le_of_ble_eq_true rfl) ?_
  replace h := h (hLy lB S tl).length
  revert h
  generalize (hLy lB S tl).length = n0
  intro h
  iterate 2 refine ws_b rfl ?_
  refine wp_cV rfl rfl o_X11_isPiece v_X11_isPiece h rfl rfl rfl (Nat.le_of_ble_eq_true rfl) (by decide) ?_
  clear h
  rintro r9 h9 ⟨v1, S1, rfl, rfl, h⟩
  refine ws_b rfl ?_
  refine wp_ite (fun q => ?_) (fun q => ?_)
  · replace h := h.1 q
    exact wp_weak (wk_n (wk_n (wk_n wk_0))) h
  · replace h := h.2 q
    iterate 2 refine ws_b rfl ?_
    refine wp_cV rfl rfl o_X11_isPiece v_X11_isPiece h rfl rfl rfl (Nat.le_of_ble_eq_true rfl) (by decide) ?_
    clear h
    rintro r9 h9 ⟨v2, S2, rfl, rfl, h⟩
    refine ws_b rfl ?_
    refine wp_ite (fun q => ?_) (fun q => ?_)
    · replace h := h.1 q
      exact wp_weak (wk_n (wk_n (wk_n wk_0))) h
    · replace h := h.2 q
      iterate 6 refine ws_b rfl ?_
      refine wp_cV rfl rfl o_X0_canTrade v_X0_canTrade h rfl rfl rfl (Nat.le_of_ble_eq_true rfl) (by decide) ?_
      clear h
      rintro r9 h9 ⟨v3, S3, rfl, rfl, h⟩
      refine ws_b rfl ?_
      refine wp_ite (fun q => ?_) (fun q => ?_)
      · replace h := h.1 q
        exact wp_weak (wk_n (wk_n (wk_n wk_0))) h
      · replace h := h.2 q
        refine ws_b rfl ?_
        refine wp_cV rfl rfl o_X11_remember v_X11_remember h rfl rfl rfl (Nat.le_of_ble_eq_true rfl) (by decide) ?_
        clear h
        rintro r9 h9 ⟨S4, rfl, rfl, h⟩
        iterate 4 refine ws_b rfl ?_
        refine wp_cV rfl rfl o_X1_change v_X1_change h rfl rfl rfl (Nat.le_of_ble_eq_true rfl) (by decide) ?_
        clear h
        rintro r9 h9 ⟨S5, rfl, rfl, h⟩
        refine ws_b rfl ?_
        exact wp_ri rfl rfl rfl ⟨_, _, rfl, rfl, h⟩
def L_X11_lay_62 (G : ab_G) (fr : Bool) (n0 : Nat) (tl : ab_H) (K : Int32 → ms_S → Prop) (S : ms_S) (i2 : Int32) : Prop := wp G 7 M_X11_lay fr n0 (poI lB tl K) 62 [none, none, some (.int i2)] [] (hLy lB S tl)
set_option maxRecDepth 100000 in
set_option maxHeartbeats 4000000 in
theorem b_X11_lay_62 {G : ab_G} {fr : Bool} {n0 : Nat} {tl : ab_H} {K : Int32 → ms_S → Prop} {S : ms_S} {i2 : Int32}
    (h : K i2 S) :
    L_X11_lay_62 G fr n0 tl K S i2 := by
  unfold L_X11_lay_62
  refine ws_b rfl ?_
  exact wp_ri rfl rfl rfl ⟨_, _, rfl, rfl, h⟩
set_option maxRecDepth 100000 in
set_option maxHeartbeats 4000000 in
theorem m_X11_lay {G : ab_G} {fr : Bool} {tl : ab_H} {K : Int32 → ms_S → Prop} {S : ms_S} {i1 : Int32}
    (h : ∀ n0 : Nat, ctI G 1 M_X11_isHeir fr [.ref 0, .int i1] lB S tl (fun v1 S1 => (v1 = 0 → (K (-(nI 1)) S1)) ∧ (¬ v1 = 0 → (ctU G 2 M_X0_asTold fr [.ref 72] lB S1 tl (fun S2 => ctU G 1 M_X1_copyFrom fr [.ref 86, .ref 82] lB S2 tl (fun S3 => ctI G 6 M_X0_layRow fr [.ref 72, .ref 86, .int i1] lB S3 tl (fun v4 S4 => (v4 = (-(nI 2)) → (L_X11_lay_62 G fr n0 tl K S4 v4)) ∧ (¬ v4 = (-(nI 2)) → (ctU G 2 M_X11_remember fr [.ref 0] lB S4 tl (fun S5 => ctU G 1 M_X1_copyFrom fr [.ref 82, .ref 86] lB S5 tl (fun S6 => L_X11_lay_62 G fr n0 tl K S6 v4))))))))))) :
    ctI G 7 M_X11_lay fr [.ref 0, .int i1] lB S tl K := by
  refine wp_ct o_X11_lay (Nat.le_of_ble_eq_true rfl) ?_
  replace h := h (hLy lB S tl).length
  revert h
  generalize (hLy lB S tl).length = n0
  intro h
  iterate 2 refine ws_b rfl ?_
  refine wp_cV rfl rfl o_X11_isHeir v_X11_isHeir h rfl rfl rfl (Nat.le_of_ble_eq_true rfl) (by decide) ?_
  clear h
  rintro r9 h9 ⟨v1, S1, rfl, rfl, h⟩
  refine ws_b rfl ?_
  refine wp_ite (fun q => ?_) (fun q => ?_)
  · replace h := h.1 q
    refine ws_b rfl ?_
    exact wp_ri rfl rfl rfl ⟨_, _, rfl, rfl, h⟩
  · replace h := h.2 q
    iterate 2 refine ws_b rfl ?_
    refine wp_cV rfl rfl o_X0_asTold v_X0_asTold h rfl rfl rfl (Nat.le_of_ble_eq_true rfl) (by decide) ?_
    clear h
    rintro r9 h9 ⟨S2, rfl, rfl, h⟩
    iterate 4 refine ws_b rfl ?_
    refine wp_cV rfl rfl o_X1_copyFrom v_X1_copyFrom h rfl rfl rfl (Nat.le_of_ble_eq_true rfl) (by decide) ?_
    clear h
    rintro r9 h9 ⟨S3, rfl, rfl, h⟩
    iterate 5 refine ws_b rfl ?_
    refine wp_cV rfl rfl o_X0_layRow v_X0_layRow h rfl rfl rfl (Nat.le_of_ble_eq_true rfl) (by decide) ?_
    clear h
    rintro r9 h9 ⟨v4, S4, rfl, rfl, h⟩
    iterate 4 refine ws_b rfl ?_
    refine wp_ite (fun q => ?_) (fun q => ?_)
    · replace h := h.1 q
      exact wp_weak (wk_n (wk_n (wk_s wk_0))) h
    · replace h := h.2 q
      refine ws_b rfl ?_
      refine wp_cV rfl rfl o_X11_remember v_X11_remember h rfl rfl rfl (Nat.le_of_ble_eq_true rfl) (by decide) ?_
      clear h
      rintro r9 h9 ⟨S5, rfl, rfl, h⟩
      iterate 4 refine ws_b rfl ?_
      refine wp_cV rfl rfl o_X1_copyFrom v_X1_copyFrom h rfl rfl rfl (Nat.le_of_ble_eq_true rfl) (by decide) ?_
      clear h
      rintro r9 h9 ⟨S6, rfl, rfl, h⟩
      exact wp_weak (wk_n (wk_n (wk_s wk_0))) h
def L_X11_go_22 (G : ab_G) (fr : Bool) (n0 : Nat) (tl : ab_H) (K : Int32 → ms_S → Prop) (S : ms_S)  : Prop := wp G 8 M_X11_go fr n0 (poI lB tl K) 22 [none, none] [] (hLy lB S tl)
def L_X11_go_33 (G : ab_G) (fr : Bool) (n0 : Nat) (tl : ab_H) (K : Int32 → ms_S → Prop) (S : ms_S) (i1 : Int32) : Prop := wp G 8 M_X11_go fr n0 (poI lB tl K) 33 [some (.ref 0), some (.int i1)] [] (hLy lB S tl)
set_option maxRecDepth 100000 in
set_option maxHeartbeats 4000000 in
theorem b_X11_go_22 {G : ab_G} {fr : Bool} {n0 : Nat} {tl : ab_H} {K : Int32 → ms_S → Prop} {S : ms_S} 
    (h : K (-(nI 1)) S) :
    L_X11_go_22 G fr n0 tl K S  := by
  unfold L_X11_go_22
  refine ws_b rfl ?_
  exact wp_ri rfl rfl rfl ⟨_, _, rfl, rfl, h⟩
set_option maxRecDepth 100000 in
set_option maxHeartbeats 4000000 in
theorem b_X11_go_33 {G : ab_G} {fr : Bool} {n0 : Nat} {tl : ab_H} {K : Int32 → ms_S → Prop} {S : ms_S} {i1 : Int32}
    (h : ctU G 2 M_X0_asTold fr [.ref 72] lB S tl (fun S1 => ctU G 7 M_X0_goOn fr [.ref 72, .ref 82, .int i1] lB (sVa S1 72 2 (nI 1)) tl (fun S2 => ctU G 2 M_X0_asTold fr [.ref 72] lB S2 tl (fun S3 => K (S3.1 82 3) S3)))) :
    L_X11_go_33 G fr n0 tl K S i1 := by
  unfold L_X11_go_33
  iterate 2 refine ws_b rfl ?_
  refine wp_cV rfl rfl o_X0_asTold v_X0_asTold h rfl rfl rfl (Nat.le_of_ble_eq_true rfl) (by decide) ?_
  clear h
  rintro r9 h9 ⟨S1, rfl, rfl, h⟩
  iterate 3 refine ws_b rfl ?_
  refine ws_g rfl (Or.inr rfl) ?_
  iterate 5 refine ws_b rfl ?_
  refine wp_cV rfl rfl o_X0_goOn v_X0_goOn h rfl rfl rfl (Nat.le_of_ble_eq_true rfl) (by decide) ?_
  clear h
  rintro r9 h9 ⟨S2, rfl, rfl, h⟩
  iterate 2 refine ws_b rfl ?_
  refine wp_cV rfl rfl o_X0_asTold v_X0_asTold h rfl rfl rfl (Nat.le_of_ble_eq_true rfl) (by decide) ?_
  clear h
  rintro r9 h9 ⟨S3, rfl, rfl, h⟩
  iterate 3 refine ws_b rfl ?_
  exact wp_ri rfl rfl rfl ⟨_, _, rfl, rfl, h⟩
set_option maxRecDepth 100000 in
set_option maxHeartbeats 4000000 in
theorem m_X11_go {G : ab_G} {fr : Bool} {tl : ab_H} {K : Int32 → ms_S → Prop} {S : ms_S} {i1 : Int32}
    (h : ∀ n0 : Nat, ctI G 1 M_X11_isSpan fr [.int i1] lB S tl (fun v1 S1 => (v1 = 0 → (L_X11_go_22 G fr n0 tl K S1 )) ∧ (¬ v1 = 0 → ((((S1.1 82 3) + i1) ≤ (nI 9000) → ((i1 ≤ 0 → (L_X11_go_33 G fr n0 tl K S1 i1)) ∧ (¬ i1 ≤ 0 → (L_X11_go_33 G fr n0 tl K (sV S1 13 (nI 0)) i1)))) ∧ (¬ ((S1.1 82 3) + i1) ≤ (nI 9000) → (L_X11_go_22 G fr n0 tl K S1 )))))) :
    ctI G 8 M_X11_go fr [.ref 0, .int i1] lB S tl K := by
  refine wp_ct o_X11_go (Nat.le_of_ble_eq_true rfl) ?_
  replace h := h (hLy lB S tl).length
  revert h
  generalize (hLy lB S tl).length = n0
  intro h
  refine ws_b rfl ?_
  refine wp_cS rfl rfl o_X11_isSpan s_X11_isSpan h rfl rfl (Nat.le_of_ble_eq_true rfl) (by decide) ?_
  clear h
  rintro r9 h9 ⟨v1, S1, rfl, rfl, h⟩
  refine ws_b rfl ?_
  refine wp_ite (fun q => ?_) (fun q => ?_)
  · replace h := h.1 q
    exact wp_weak (wk_n (wk_n wk_0)) h
  · replace h := h.2 q
    iterate 7 refine ws_b rfl ?_
    refine wp_ite (fun q => ?_) (fun q => ?_)
    · replace h := h.1 q
      iterate 2 refine ws_b rfl ?_
      refine wp_ite (fun q => ?_) (fun q => ?_)
      · replace h := h.1 q
        exact wp_weak (wk_s (wk_s wk_0)) h
      · replace h := h.2 q
        iterate 3 refine ws_b rfl ?_
        exact wp_weak (wk_s (wk_s wk_0)) h
    · replace h := h.2 q
      exact wp_weak (wk_n (wk_n wk_0)) h
def L_X11_ahead_29 (G : ab_G) (fr : Bool) (n0 : Nat) (tl : ab_H) (K : Int32 → ms_S → Prop) (S : ms_S)  : Prop := wp G 8 M_X11_ahead fr n0 (poI lB tl K) 29 [none, none, none, none] [] (hLy lB S tl)
def L_X11_ahead_31 (G : ab_G) (fr : Bool) (n0 : Nat) (tl : ab_H) (K : Int32 → ms_S → Prop) (S : ms_S) (i1 : Int32) (i2 : Int32) (i3 : Int32) : Prop := wp G 8 M_X11_ahead fr n0 (poI lB tl K) 31 [some (.ref 0), some (.int i1), some (.int i2), some (.int i3)] [] (hLy lB S tl)
set_option maxRecDepth 100000 in
set_option maxHeartbeats 4000000 in
theorem b_X11_ahead_29 {G : ab_G} {fr : Bool} {n0 : Nat} {tl : ab_H} {K : Int32 → ms_S → Prop} {S : ms_S} 
    (h : K (-(nI 1)) S) :
    L_X11_ahead_29 G fr n0 tl K S  := by
  unfold L_X11_ahead_29
  refine ws_b rfl ?_
  exact wp_ri rfl rfl rfl ⟨_, _, rfl, rfl, h⟩
set_option maxRecDepth 100000 in
set_option maxHeartbeats 4000000 in
theorem b_X11_ahead_31 {G : ab_G} {fr : Bool} {n0 : Nat} {tl : ab_H} {K : Int32 → ms_S → Prop} {S : ms_S} {i1 : Int32} {i2 : Int32} {i3 : Int32}
    (h : ctU G 2 M_X0_asTold fr [.ref 72] lB S tl (fun S1 => ctU G 1 M_X1_copyFrom fr [.ref 86, .ref 82] lB S1 tl (fun S2 => ctU G 7 M_X0_goOn fr [.ref 72, .ref 86, .int i1] lB S2 tl (fun S3 => (i2 = nI 0 → (vp_in i3 5 ∧ (K (S3.2.2.2.1 88 i3.toNatClampNeg) S3))) ∧ (i2 = nI 1 → (vp_in i3 5 ∧ (ctI G 1 M_J6_bitCount fr [.int (S3.2.2.2.1 87 i3.toNatClampNeg)] lB S3 tl (fun v4 S4 => K v4 S4)))) ∧ (i2 = nI 2 → (ctI G 1 M_X1_laidByAll fr [.ref 86] lB S3 tl (fun v5 S5 => ctI G 1 M_X1_laidByAll fr [.ref 82] lB S5 tl (fun v6 S6 => K (v5 - v6) S6)))) ∧ (i2 = nI 3 → (K ((S3.1 86 6) - (S3.1 82 6)) S3)) ∧ (¬ i2 = nI 0 → ¬ i2 = nI 1 → ¬ i2 = nI 2 → ¬ i2 = nI 3 → (ctI G 1 M_J6_bitCount fr [.int (S3.1 86 4)] lB S3 tl (fun v7 S7 => K v7 S7))))))) :
    L_X11_ahead_31 G fr n0 tl K S i1 i2 i3 := by
  unfold L_X11_ahead_31
  iterate 2 refine ws_b rfl ?_
  refine wp_cV rfl rfl o_X0_asTold v_X0_asTold h rfl rfl rfl (Nat.le_of_ble_eq_true rfl) (by decide) ?_
  clear h
  rintro r9 h9 ⟨S1, rfl, rfl, h⟩
  iterate 4 refine ws_b rfl ?_
  refine wp_cV rfl rfl o_X1_copyFrom v_X1_copyFrom h rfl rfl rfl (Nat.le_of_ble_eq_true rfl) (by decide) ?_
  clear h
  rintro r9 h9 ⟨S2, rfl, rfl, h⟩
  iterate 5 refine ws_b rfl ?_
  refine wp_cV rfl rfl o_X0_goOn v_X0_goOn h rfl rfl rfl (Nat.le_of_ble_eq_true rfl) (by decide) ?_
  clear h
  rintro r9 h9 ⟨S3, rfl, rfl, h⟩
  refine ws_b rfl ?_
  by_cases q0 : i2 = nI 0
  · refine wp_tswN (nI 0) 92 (30) rfl q0 rfl rfl rfl rfl ?_
    replace h := h.1 q0
    iterate 4 refine ws_b rfl ?_
    refine ws_g rfl h.1 ?_
    replace h := h.2
    exact wp_ri rfl rfl rfl ⟨_, _, rfl, rfl, h⟩
  replace h := h.2
  by_cases q1 : i2 = nI 1
  · refine wp_tswN (nI 1) 102 (40) rfl q1 rfl rfl rfl rfl ?_
    replace h := h.1 q1
    iterate 4 refine ws_b rfl ?_
    refine ws_g rfl h.1 ?_
    replace h := h.2
    refine wp_cS rfl rfl o_J6_bitCount s_J6_bitCount h rfl rfl (Nat.le_of_ble_eq_true rfl) (by decide) ?_
    clear h
    rintro r9 h9 ⟨v4, S4, rfl, rfl, h⟩
    exact wp_ri rfl rfl rfl ⟨_, _, rfl, rfl, h⟩
  replace h := h.2
  by_cases q2 : i2 = nI 2
  · refine wp_tswN (nI 2) 115 (53) rfl q2 rfl rfl rfl rfl ?_
    replace h := h.1 q2
    iterate 2 refine ws_b rfl ?_
    refine wp_cV rfl rfl o_X1_laidByAll v_X1_laidByAll h rfl rfl rfl (Nat.le_of_ble_eq_true rfl) (by decide) ?_
    clear h
    rintro r9 h9 ⟨v5, S5, rfl, rfl, h⟩
    iterate 2 refine ws_b rfl ?_
    refine wp_cV rfl rfl o_X1_laidByAll v_X1_laidByAll h rfl rfl rfl (Nat.le_of_ble_eq_true rfl) (by decide) ?_
    clear h
    rintro r9 h9 ⟨v6, S6, rfl, rfl, h⟩
    refine ws_b rfl ?_
    exact wp_ri rfl rfl rfl ⟨_, _, rfl, rfl, h⟩
  replace h := h.2
  by_cases q3 : i2 = nI 3
  · refine wp_tswN (nI 3) 131 (69) rfl q3 rfl rfl rfl rfl ?_
    replace h := h.1 q3
    iterate 7 refine ws_b rfl ?_
    exact wp_ri rfl rfl rfl ⟨_, _, rfl, rfl, h⟩
  replace h := h.2
  refine wp_tswD 147 [nI 0, nI 1, nI 2, nI 3] rfl (by decide) (by intro k9 hk9; rcases List.mem_cons.mp hk9 with rfl | hk9; exact q0; rcases List.mem_cons.mp hk9 with rfl | hk9; exact q1; rcases List.mem_cons.mp hk9 with rfl | hk9; exact q2; rcases List.mem_cons.mp hk9 with rfl | hk9; exact q3; exact nomatch hk9) rfl ?_
  replace h := h q0 q1 q2 q3
  iterate 3 refine ws_b rfl ?_
  refine wp_cS rfl rfl o_J6_bitCount s_J6_bitCount h rfl rfl (Nat.le_of_ble_eq_true rfl) (by decide) ?_
  clear h
  rintro r9 h9 ⟨v7, S7, rfl, rfl, h⟩
  exact wp_ri rfl rfl rfl ⟨_, _, rfl, rfl, h⟩
set_option maxRecDepth 100000 in
set_option maxHeartbeats 4000000 in
theorem m_X11_ahead {G : ab_G} {fr : Bool} {tl : ab_H} {K : Int32 → ms_S → Prop} {S : ms_S} {i1 : Int32} {i2 : Int32} {i3 : Int32}
    (h : ∀ n0 : Nat, ctI G 1 M_X11_isSpan fr [.int i1] lB S tl (fun v1 S1 => (v1 = 0 → (L_X11_ahead_29 G fr n0 tl K S1 )) ∧ (¬ v1 = 0 → ((i2 < 0 → (L_X11_ahead_29 G fr n0 tl K S1 )) ∧ (¬ i2 < 0 → (((nI 4) < i2 → (L_X11_ahead_29 G fr n0 tl K S1 )) ∧ (¬ (nI 4) < i2 → (((nI 2) ≤ i2 → (L_X11_ahead_31 G fr n0 tl K S1 i1 i2 i3)) ∧ (¬ (nI 2) ≤ i2 → (ctI G 1 M_X11_isHeir fr [.ref 0, .int i3] lB S1 tl (fun v2 S2 => (v2 = 0 → (L_X11_ahead_29 G fr n0 tl K S2 )) ∧ (¬ v2 = 0 → (L_X11_ahead_31 G fr n0 tl K S2 i1 i2 i3))))))))))))) :
    ctI G 8 M_X11_ahead fr [.ref 0, .int i1, .int i2, .int i3] lB S tl K := by
  refine wp_ct o_X11_ahead (Nat.le_of_ble_eq_true rfl) ?_
  replace h := h (hLy lB S tl).length
  revert h
  generalize (hLy lB S tl).length = n0
  intro h
  refine ws_b rfl ?_
  refine wp_cS rfl rfl o_X11_isSpan s_X11_isSpan h rfl rfl (Nat.le_of_ble_eq_true rfl) (by decide) ?_
  clear h
  rintro r9 h9 ⟨v1, S1, rfl, rfl, h⟩
  refine ws_b rfl ?_
  refine wp_ite (fun q => ?_) (fun q => ?_)
  · replace h := h.1 q
    exact wp_weak (wk_n (wk_n (wk_n (wk_n wk_0)))) h
  · replace h := h.2 q
    iterate 2 refine ws_b rfl ?_
    refine wp_ite (fun q => ?_) (fun q => ?_)
    · replace h := h.1 q
      exact wp_weak (wk_n (wk_n (wk_n (wk_n wk_0)))) h
    · replace h := h.2 q
      iterate 3 refine ws_b rfl ?_
      refine wp_ite (fun q => ?_) (fun q => ?_)
      · replace h := h.1 q
        exact wp_weak (wk_n (wk_n (wk_n (wk_n wk_0)))) h
      · replace h := h.2 q
        iterate 3 refine ws_b rfl ?_
        refine wp_ite (fun q => ?_) (fun q => ?_)
        · replace h := h.1 q
          exact wp_weak (wk_s (wk_s (wk_s (wk_s wk_0)))) h
        · replace h := h.2 q
          iterate 2 refine ws_b rfl ?_
          refine wp_cV rfl rfl o_X11_isHeir v_X11_isHeir h rfl rfl rfl (Nat.le_of_ble_eq_true rfl) (by decide) ?_
          clear h
          rintro r9 h9 ⟨v2, S2, rfl, rfl, h⟩
          refine ws_b rfl ?_
          refine wp_ite (fun q => ?_) (fun q => ?_)
          · replace h := h.1 q
            exact wp_weak (wk_n (wk_n (wk_n (wk_n wk_0)))) h
          · replace h := h.2 q
            exact wp_weak (wk_s (wk_s (wk_s (wk_s wk_0)))) h
def L_X11_lays_30 (G : ab_G) (fr : Bool) (n0 : Nat) (tl : ab_H) (K : Int32 → ms_S → Prop) (S : ms_S) (i1 : Int32) (i2 : Int32) : Prop := wp G 8 M_X11_lays fr n0 (poI lB tl K) 30 [some (.ref 0), some (.int i1), some (.int i2)] [] (hLy lB S tl)
set_option maxRecDepth 100000 in
set_option maxHeartbeats 4000000 in
theorem b_X11_lays_30 {G : ab_G} {fr : Bool} {n0 : Nat} {tl : ab_H} {K : Int32 → ms_S → Prop} {S : ms_S} {i1 : Int32} {i2 : Int32}
    (h : ((nI 99) < i2 → (K (-(nI 2)) S)) ∧ (¬ (nI 99) < i2 → (ctU G 7 M_X0_goOn fr [.ref 72, .ref 86, .int (nI 1)] lB S tl (fun S1 => vp_in i1 5 ∧ (vp_in i1 5 ∧ (((S1.2.2.2.1 89 i1.toNatClampNeg) ≤ (S1.2.2.2.1 85 i1.toNatClampNeg) → (L_X11_lays_30 G fr n0 tl K S1 i1 (i2 + nI 1))) ∧ (¬ (S1.2.2.2.1 89 i1.toNatClampNeg) ≤ (S1.2.2.2.1 85 i1.toNatClampNeg) → (K i2 S1)))))))) :
    L_X11_lays_30 G fr n0 tl K S i1 i2 := by
  unfold L_X11_lays_30
  iterate 3 refine ws_b rfl ?_
  refine wp_ite (fun q => ?_) (fun q => ?_)
  · replace h := h.1 q
    refine ws_b rfl ?_
    exact wp_ri rfl rfl rfl ⟨_, _, rfl, rfl, h⟩
  · replace h := h.2 q
    iterate 5 refine ws_b rfl ?_
    refine wp_cV rfl rfl o_X0_goOn v_X0_goOn h rfl rfl rfl (Nat.le_of_ble_eq_true rfl) (by decide) ?_
    clear h
    rintro r9 h9 ⟨S1, rfl, rfl, h⟩
    iterate 4 refine ws_b rfl ?_
    refine ws_g rfl h.1 ?_
    replace h := h.2
    iterate 4 refine ws_b rfl ?_
    refine ws_g rfl h.1 ?_
    replace h := h.2
    refine ws_b rfl ?_
    refine wp_ite (fun q => ?_) (fun q => ?_)
    · replace h := h.1 q
      iterate 2 refine ws_b rfl ?_
      exact wp_weak (wk_s (wk_s (wk_s wk_0))) h
    · replace h := h.2 q
      refine ws_b rfl ?_
      exact wp_ri rfl rfl rfl ⟨_, _, rfl, rfl, h⟩
set_option maxRecDepth 100000 in
set_option maxHeartbeats 4000000 in
theorem m_X11_lays {G : ab_G} {fr : Bool} {tl : ab_H} {K : Int32 → ms_S → Prop} {S : ms_S} {i1 : Int32}
    (h : ∀ n0 : Nat, ctI G 1 M_X11_isHeir fr [.ref 0, .int i1] lB S tl (fun v1 S1 => (v1 = 0 → (K (-(nI 1)) S1)) ∧ (¬ v1 = 0 → (ctU G 2 M_X0_asTold fr [.ref 72] lB S1 tl (fun S2 => ctU G 1 M_X1_copyFrom fr [.ref 86, .ref 82] lB S2 tl (fun S3 => L_X11_lays_30 G fr n0 tl K S3 i1 (nI 1))))))) :
    ctI G 8 M_X11_lays fr [.ref 0, .int i1] lB S tl K := by
  refine wp_ct o_X11_lays (Nat.le_of_ble_eq_true rfl) ?_
  replace h := h (hLy lB S tl).length
  revert h
  generalize (hLy lB S tl).length = n0
  intro h
  iterate 2 refine ws_b rfl ?_
  refine wp_cV rfl rfl o_X11_isHeir v_X11_isHeir h rfl rfl rfl (Nat.le_of_ble_eq_true rfl) (by decide) ?_
  clear h
  rintro r9 h9 ⟨v1, S1, rfl, rfl, h⟩
  refine ws_b rfl ?_
  refine wp_ite (fun q => ?_) (fun q => ?_)
  · replace h := h.1 q
    refine ws_b rfl ?_
    exact wp_ri rfl rfl rfl ⟨_, _, rfl, rfl, h⟩
  · replace h := h.2 q
    iterate 2 refine ws_b rfl ?_
    refine wp_cV rfl rfl o_X0_asTold v_X0_asTold h rfl rfl rfl (Nat.le_of_ble_eq_true rfl) (by decide) ?_
    clear h
    rintro r9 h9 ⟨S2, rfl, rfl, h⟩
    iterate 4 refine ws_b rfl ?_
    refine wp_cV rfl rfl o_X1_copyFrom v_X1_copyFrom h rfl rfl rfl (Nat.le_of_ble_eq_true rfl) (by decide) ?_
    clear h
    rintro r9 h9 ⟨S3, rfl, rfl, h⟩
    iterate 2 refine ws_b rfl ?_
    exact wp_weak (wk_s (wk_s (wk_s wk_0))) h
set_option maxRecDepth 100000 in
set_option maxHeartbeats 4000000 in
theorem m_X11_rows {G : ab_G} {fr : Bool} {tl : ab_H} {K : Int64 → ms_S → Prop} {S : ms_S} {i1 : Int32}
    (h : ∀ n0 : Nat, ctI G 1 M_X11_isHeir fr [.ref 0, .int i1] lB S tl (fun v1 S1 => (v1 = 0 → (K ((-1 : Int64)) S1)) ∧ (¬ v1 = 0 → (ctU G 5 M_X11_joinAsNow fr [.ref 0] lB S1 tl (fun S2 => vp_in i1 5 ∧ (ctL G 5 M_X9_allRows fr [.ref 61, .int (S2.2.2.2.1 83 i1.toNatClampNeg)] lB S2 tl (fun v3 S3 => K v3 S3))))))) :
    ctL G 6 M_X11_rows fr [.ref 0, .int i1] lB S tl K := by
  refine wp_ct o_X11_rows (Nat.le_of_ble_eq_true rfl) ?_
  replace h := h (hLy lB S tl).length
  revert h
  generalize (hLy lB S tl).length = n0
  intro h
  iterate 2 refine ws_b rfl ?_
  refine wp_cV rfl rfl o_X11_isHeir v_X11_isHeir h rfl rfl rfl (Nat.le_of_ble_eq_true rfl) (by decide) ?_
  clear h
  rintro r9 h9 ⟨v1, S1, rfl, rfl, h⟩
  refine ws_b rfl ?_
  refine wp_ite (fun q => ?_) (fun q => ?_)
  · replace h := h.1 q
    refine ws_b rfl ?_
    exact wp_rl rfl rfl ⟨_, _, rfl, rfl, h⟩
  · replace h := h.2 q
    refine ws_b rfl ?_
    refine wp_cV rfl rfl o_X11_joinAsNow v_X11_joinAsNow h rfl rfl rfl (Nat.le_of_ble_eq_true rfl) (by decide) ?_
    clear h
    rintro r9 h9 ⟨S2, rfl, rfl, h⟩
    iterate 6 refine ws_b rfl ?_
    refine ws_g rfl h.1 ?_
    replace h := h.2
    refine wp_cV rfl rfl o_X9_allRows v_X9_allRows h rfl rfl rfl (Nat.le_of_ble_eq_true rfl) (by decide) ?_
    clear h
    rintro r9 h9 ⟨v3, S3, rfl, rfl, h⟩
    exact wp_rl rfl rfl ⟨_, _, rfl, rfl, h⟩
def L_X11_firstRow_18 (G : ab_G) (fr : Bool) (n0 : Nat) (tl : ab_H) (K : Int32 → ms_S → Prop) (S : ms_S)  : Prop := wp G 7 M_X11_firstRow fr n0 (poI lB tl K) 18 [none, none, none] [] (hLy lB S tl)
set_option maxRecDepth 100000 in
set_option maxHeartbeats 4000000 in
theorem b_X11_firstRow_18 {G : ab_G} {fr : Bool} {n0 : Nat} {tl : ab_H} {K : Int32 → ms_S → Prop} {S : ms_S} 
    (h : K (-(nI 1)) S) :
    L_X11_firstRow_18 G fr n0 tl K S  := by
  unfold L_X11_firstRow_18
  refine ws_b rfl ?_
  exact wp_ri rfl rfl rfl ⟨_, _, rfl, rfl, h⟩
set_option maxRecDepth 100000 in
set_option maxHeartbeats 4000000 in
theorem m_X11_firstRow {G : ab_G} {fr : Bool} {tl : ab_H} {K : Int32 → ms_S → Prop} {S : ms_S} {i1 : Int32} {i2 : Int32}
    (h : ∀ n0 : Nat, ctI G 1 M_X11_isHeir fr [.ref 0, .int i1] lB S tl (fun v1 S1 => (v1 = 0 → (L_X11_firstRow_18 G fr n0 tl K S1 )) ∧ (¬ v1 = 0 → ((i2 < 0 → (L_X11_firstRow_18 G fr n0 tl K S1 )) ∧ (¬ i2 < 0 → ((i2 < (nI 9) → (ctU G 5 M_X11_joinAsNow fr [.ref 0] lB S1 tl (fun S2 => vp_in i1 5 ∧ (ctI G 6 M_X9_placeInFirst fr [.ref 61, .int (S2.2.2.2.1 83 i1.toNatClampNeg), .int i2] lB S2 tl (fun v3 S3 => K v3 S3))))) ∧ (¬ i2 < (nI 9) → (L_X11_firstRow_18 G fr n0 tl K S1 )))))))) :
    ctI G 7 M_X11_firstRow fr [.ref 0, .int i1, .int i2] lB S tl K := by
  refine wp_ct o_X11_firstRow (Nat.le_of_ble_eq_true rfl) ?_
  replace h := h (hLy lB S tl).length
  revert h
  generalize (hLy lB S tl).length = n0
  intro h
  iterate 2 refine ws_b rfl ?_
  refine wp_cV rfl rfl o_X11_isHeir v_X11_isHeir h rfl rfl rfl (Nat.le_of_ble_eq_true rfl) (by decide) ?_
  clear h
  rintro r9 h9 ⟨v1, S1, rfl, rfl, h⟩
  refine ws_b rfl ?_
  refine wp_ite (fun q => ?_) (fun q => ?_)
  · replace h := h.1 q
    exact wp_weak (wk_n (wk_n (wk_n wk_0))) h
  · replace h := h.2 q
    iterate 2 refine ws_b rfl ?_
    refine wp_ite (fun q => ?_) (fun q => ?_)
    · replace h := h.1 q
      exact wp_weak (wk_n (wk_n (wk_n wk_0))) h
    · replace h := h.2 q
      iterate 3 refine ws_b rfl ?_
      refine wp_ite (fun q => ?_) (fun q => ?_)
      · replace h := h.1 q
        refine ws_b rfl ?_
        refine wp_cV rfl rfl o_X11_joinAsNow v_X11_joinAsNow h rfl rfl rfl (Nat.le_of_ble_eq_true rfl) (by decide) ?_
        clear h
        rintro r9 h9 ⟨S2, rfl, rfl, h⟩
        iterate 6 refine ws_b rfl ?_
        refine ws_g rfl h.1 ?_
        replace h := h.2
        refine ws_b rfl ?_
        refine wp_cV rfl rfl o_X9_placeInFirst v_X9_placeInFirst h rfl rfl rfl (Nat.le_of_ble_eq_true rfl) (by decide) ?_
        clear h
        rintro r9 h9 ⟨v3, S3, rfl, rfl, h⟩
        exact wp_ri rfl rfl rfl ⟨_, _, rfl, rfl, h⟩
      · replace h := h.2 q
        exact wp_weak (wk_n (wk_n (wk_n wk_0))) h
def L_X11_dearest_17 (G : ab_G) (fr : Bool) (n0 : Nat) (tl : ab_H) (K : Int32 → ms_S → Prop) (S : ms_S)  : Prop := wp G 6 M_X11_dearest fr n0 (poI lB tl K) 17 [none, none, none] [] (hLy lB S tl)
set_option maxRecDepth 100000 in
set_option maxHeartbeats 4000000 in
theorem b_X11_dearest_17 {G : ab_G} {fr : Bool} {n0 : Nat} {tl : ab_H} {K : Int32 → ms_S → Prop} {S : ms_S} 
    (h : K (-(nI 1)) S) :
    L_X11_dearest_17 G fr n0 tl K S  := by
  unfold L_X11_dearest_17
  refine ws_b rfl ?_
  exact wp_ri rfl rfl rfl ⟨_, _, rfl, rfl, h⟩
set_option maxRecDepth 100000 in
set_option maxHeartbeats 4000000 in
theorem m_X11_dearest {G : ab_G} {fr : Bool} {tl : ab_H} {K : Int32 → ms_S → Prop} {S : ms_S} {i1 : Int32} {i2 : Int32}
    (h : ∀ n0 : Nat, ctI G 1 M_X11_isHeir fr [.ref 0, .int i1] lB S tl (fun v1 S1 => (v1 = 0 → (L_X11_dearest_17 G fr n0 tl K S1 )) ∧ (¬ v1 = 0 → ((i2 < 0 → (L_X11_dearest_17 G fr n0 tl K S1 )) ∧ (¬ i2 < 0 → ((i2 ≤ (nI 2) → (ctI G 5 M_X3_findDearest fr [.ref 67, .ref 82, .int i1] lB S1 tl (fun v2 S2 => (v2 = 0 → (K (-(nI 2)) S2)) ∧ (¬ v2 = 0 → ((i2 = nI 0 → (K (S2.1 67 8) S2)) ∧ (i2 = nI 1 → (K (S2.1 67 9) S2)) ∧ (¬ i2 = nI 0 → ¬ i2 = nI 1 → (K (S2.1 67 10) S2))))))) ∧ (¬ i2 ≤ (nI 2) → (L_X11_dearest_17 G fr n0 tl K S1 )))))))) :
    ctI G 6 M_X11_dearest fr [.ref 0, .int i1, .int i2] lB S tl K := by
  refine wp_ct o_X11_dearest (Nat.le_of_ble_eq_true rfl) ?_
  replace h := h (hLy lB S tl).length
  revert h
  generalize (hLy lB S tl).length = n0
  intro h
  iterate 2 refine ws_b rfl ?_
  refine wp_cV rfl rfl o_X11_isHeir v_X11_isHeir h rfl rfl rfl (Nat.le_of_ble_eq_true rfl) (by decide) ?_
  clear h
  rintro r9 h9 ⟨v1, S1, rfl, rfl, h⟩
  refine ws_b rfl ?_
  refine wp_ite (fun q => ?_) (fun q => ?_)
  · replace h := h.1 q
    exact wp_weak (wk_n (wk_n (wk_n wk_0))) h
  · replace h := h.2 q
    iterate 2 refine ws_b rfl ?_
    refine wp_ite (fun q => ?_) (fun q => ?_)
    · replace h := h.1 q
      exact wp_weak (wk_n (wk_n (wk_n wk_0))) h
    · replace h := h.2 q
      iterate 3 refine ws_b rfl ?_
      refine wp_ite (fun q => ?_) (fun q => ?_)
      · replace h := h.1 q
        iterate 5 refine ws_b rfl ?_
        refine wp_cV rfl rfl o_X3_findDearest v_X3_findDearest h rfl rfl rfl (Nat.le_of_ble_eq_true rfl) (by decide) ?_
        clear h
        rintro r9 h9 ⟨v2, S2, rfl, rfl, h⟩
        refine ws_b rfl ?_
        refine wp_ite (fun q => ?_) (fun q => ?_)
        · replace h := h.1 q
          refine ws_b rfl ?_
          exact wp_ri rfl rfl rfl ⟨_, _, rfl, rfl, h⟩
        · replace h := h.2 q
          refine ws_b rfl ?_
          by_cases q0 : i2 = nI 0
          · refine wp_lswN (nI 0) 64 (26) rfl q0 rfl rfl rfl ?_
            replace h := h.1 q0
            iterate 3 refine ws_b rfl ?_
            exact wp_ri rfl rfl rfl ⟨_, _, rfl, rfl, h⟩
          replace h := h.2
          by_cases q1 : i2 = nI 1
          · refine wp_lswN (nI 1) 72 (34) rfl q1 rfl rfl rfl ?_
            replace h := h.1 q1
            iterate 3 refine ws_b rfl ?_
            exact wp_ri rfl rfl rfl ⟨_, _, rfl, rfl, h⟩
          replace h := h.2
          refine wp_lswD 80 [nI 0, nI 1] rfl rfl (by decide) (by intro k9 hk9; rcases List.mem_cons.mp hk9 with rfl | hk9; exact q0; rcases List.mem_cons.mp hk9 with rfl | hk9; exact q1; exact nomatch hk9) rfl ?_
          replace h := h q0 q1
          iterate 3 refine ws_b rfl ?_
          exact wp_ri rfl rfl rfl ⟨_, _, rfl, rfl, h⟩
      · replace h := h.2 q
        exact wp_weak (wk_n (wk_n (wk_n wk_0))) h
set_option maxRecDepth 100000 in
set_option maxHeartbeats 4000000 in
theorem m_X11_closed {G : ab_G} {fr : Bool} {tl : ab_H} {K : Int64 → ms_S → Prop} {S : ms_S} {i1 : Int32}
    (h : ∀ n0 : Nat, ctI G 1 M_X11_isHeir fr [.ref 0, .int i1] lB S tl (fun v1 S1 => (v1 = 0 → (K ((-1 : Int64)) S1)) ∧ (¬ v1 = 0 → (ctU G 5 M_X11_joinAsNow fr [.ref 0] lB S1 tl (fun S2 => vp_in i1 5 ∧ (ctL G 4 M_X9_closedRows fr [.ref 61, .int (S2.2.2.2.1 83 i1.toNatClampNeg)] lB S2 tl (fun v3 S3 => K v3 S3))))))) :
    ctL G 6 M_X11_closed fr [.ref 0, .int i1] lB S tl K := by
  refine wp_ct o_X11_closed (Nat.le_of_ble_eq_true rfl) ?_
  replace h := h (hLy lB S tl).length
  revert h
  generalize (hLy lB S tl).length = n0
  intro h
  iterate 2 refine ws_b rfl ?_
  refine wp_cV rfl rfl o_X11_isHeir v_X11_isHeir h rfl rfl rfl (Nat.le_of_ble_eq_true rfl) (by decide) ?_
  clear h
  rintro r9 h9 ⟨v1, S1, rfl, rfl, h⟩
  refine ws_b rfl ?_
  refine wp_ite (fun q => ?_) (fun q => ?_)
  · replace h := h.1 q
    refine ws_b rfl ?_
    exact wp_rl rfl rfl ⟨_, _, rfl, rfl, h⟩
  · replace h := h.2 q
    refine ws_b rfl ?_
    refine wp_cV rfl rfl o_X11_joinAsNow v_X11_joinAsNow h rfl rfl rfl (Nat.le_of_ble_eq_true rfl) (by decide) ?_
    clear h
    rintro r9 h9 ⟨S2, rfl, rfl, h⟩
    iterate 6 refine ws_b rfl ?_
    refine ws_g rfl h.1 ?_
    replace h := h.2
    refine wp_cV rfl rfl o_X9_closedRows v_X9_closedRows h rfl rfl rfl (Nat.le_of_ble_eq_true rfl) (by decide) ?_
    clear h
    rintro r9 h9 ⟨v3, S3, rfl, rfl, h⟩
    exact wp_rl rfl rfl ⟨_, _, rfl, rfl, h⟩
set_option maxRecDepth 100000 in
set_option maxHeartbeats 4000000 in
theorem m_X11_fewest {G : ab_G} {fr : Bool} {tl : ab_H} {K : Int32 → ms_S → Prop} {S : ms_S} {i1 : Int32}
    (h : ∀ n0 : Nat, ctI G 1 M_X11_isHeir fr [.ref 0, .int i1] lB S tl (fun v1 S1 => (v1 = 0 → (K (-(nI 1)) S1)) ∧ (¬ v1 = 0 → (ctU G 5 M_X11_joinAsNow fr [.ref 0] lB S1 tl (fun S2 => vp_in i1 5 ∧ (ctI G 4 M_X9_fewestRows fr [.ref 61, .int (S2.2.2.2.1 83 i1.toNatClampNeg)] lB S2 tl (fun v3 S3 => K v3 S3))))))) :
    ctI G 6 M_X11_fewest fr [.ref 0, .int i1] lB S tl K := by
  refine wp_ct o_X11_fewest (Nat.le_of_ble_eq_true rfl) ?_
  replace h := h (hLy lB S tl).length
  revert h
  generalize (hLy lB S tl).length = n0
  intro h
  iterate 2 refine ws_b rfl ?_
  refine wp_cV rfl rfl o_X11_isHeir v_X11_isHeir h rfl rfl rfl (Nat.le_of_ble_eq_true rfl) (by decide) ?_
  clear h
  rintro r9 h9 ⟨v1, S1, rfl, rfl, h⟩
  refine ws_b rfl ?_
  refine wp_ite (fun q => ?_) (fun q => ?_)
  · replace h := h.1 q
    refine ws_b rfl ?_
    exact wp_ri rfl rfl rfl ⟨_, _, rfl, rfl, h⟩
  · replace h := h.2 q
    refine ws_b rfl ?_
    refine wp_cV rfl rfl o_X11_joinAsNow v_X11_joinAsNow h rfl rfl rfl (Nat.le_of_ble_eq_true rfl) (by decide) ?_
    clear h
    rintro r9 h9 ⟨S2, rfl, rfl, h⟩
    iterate 6 refine ws_b rfl ?_
    refine ws_g rfl h.1 ?_
    replace h := h.2
    refine wp_cV rfl rfl o_X9_fewestRows v_X9_fewestRows h rfl rfl rfl (Nat.le_of_ble_eq_true rfl) (by decide) ?_
    clear h
    rintro r9 h9 ⟨v3, S3, rfl, rfl, h⟩
    exact wp_ri rfl rfl rfl ⟨_, _, rfl, rfl, h⟩
set_option maxRecDepth 100000 in
set_option maxHeartbeats 4000000 in
theorem m_X11_shape {G : ab_G} {fr : Bool} {tl : ab_H} {K : Int32 → ms_S → Prop} {S : ms_S} {i1 : Int32} {i2 : Int32}
    (h : ∀ n0 : Nat, ctI G 1 M_X11_isHeir fr [.ref 0, .int i1] lB S tl (fun v1 S1 => (v1 = 0 → (K (-(nI 1)) S1)) ∧ (¬ v1 = 0 → ((i2 = nI 0 → (vp_in i1 5 ∧ (ctI G 2 M_X7_oddEnds fr [.ref 4, .int (S1.2.2.2.1 83 i1.toNatClampNeg)] lB S1 tl (fun v2 S2 => K v2 S2)))) ∧ (i2 = nI 1 → (vp_in i1 5 ∧ (ctI G 2 M_X7_hangingParts fr [.ref 4, .int (S1.2.2.2.1 83 i1.toNatClampNeg)] lB S1 tl (fun v3 S3 => K v3 S3)))) ∧ (¬ i2 = nI 0 → ¬ i2 = nI 1 → (K (-(nI 1)) S1)))))) :
    ctI G 3 M_X11_shape fr [.ref 0, .int i1, .int i2] lB S tl K := by
  refine wp_ct o_X11_shape (Nat.le_of_ble_eq_true rfl) ?_
  replace h := h (hLy lB S tl).length
  revert h
  generalize (hLy lB S tl).length = n0
  intro h
  iterate 2 refine ws_b rfl ?_
  refine wp_cV rfl rfl o_X11_isHeir v_X11_isHeir h rfl rfl rfl (Nat.le_of_ble_eq_true rfl) (by decide) ?_
  clear h
  rintro r9 h9 ⟨v1, S1, rfl, rfl, h⟩
  refine ws_b rfl ?_
  refine wp_ite (fun q => ?_) (fun q => ?_)
  · replace h := h.1 q
    refine ws_b rfl ?_
    exact wp_ri rfl rfl rfl ⟨_, _, rfl, rfl, h⟩
  · replace h := h.2 q
    refine ws_b rfl ?_
    by_cases q0 : i2 = nI 0
    · refine wp_lswN (nI 0) 36 (25) rfl q0 rfl rfl rfl ?_
      replace h := h.1 q0
      iterate 6 refine ws_b rfl ?_
      refine ws_g rfl h.1 ?_
      replace h := h.2
      refine wp_cV rfl rfl o_X7_oddEnds v_X7_oddEnds h rfl rfl rfl (Nat.le_of_ble_eq_true rfl) (by decide) ?_
      clear h
      rintro r9 h9 ⟨v2, S2, rfl, rfl, h⟩
      exact wp_ri rfl rfl rfl ⟨_, _, rfl, rfl, h⟩
    replace h := h.2
    by_cases q1 : i2 = nI 1
    · refine wp_lswN (nI 1) 53 (42) rfl q1 rfl rfl rfl ?_
      replace h := h.1 q1
      iterate 6 refine ws_b rfl ?_
      refine ws_g rfl h.1 ?_
      replace h := h.2
      refine wp_cV rfl rfl o_X7_hangingParts v_X7_hangingParts h rfl rfl rfl (Nat.le_of_ble_eq_true rfl) (by decide) ?_
      clear h
      rintro r9 h9 ⟨v3, S3, rfl, rfl, h⟩
      exact wp_ri rfl rfl rfl ⟨_, _, rfl, rfl, h⟩
    replace h := h.2
    refine wp_lswD 70 [nI 0, nI 1] rfl rfl (by decide) (by intro k9 hk9; rcases List.mem_cons.mp hk9 with rfl | hk9; exact q0; rcases List.mem_cons.mp hk9 with rfl | hk9; exact q1; exact nomatch hk9) rfl ?_
    replace h := h q0 q1
    refine ws_b rfl ?_
    exact wp_ri rfl rfl rfl ⟨_, _, rfl, rfl, h⟩
def L_X11_swaps_86 (G : ab_G) (fr : Bool) (n0 : Nat) (tl : ab_H) (K : Int32 → ms_S → Prop) (S : ms_S) (t0 : Int32) : Prop := wp G 7 M_X11_swaps fr n0 (poI lB tl K) 86 [none, none, none] [.int t0] (hLy lB S tl)
set_option maxRecDepth 100000 in
set_option maxHeartbeats 4000000 in
theorem b_X11_swaps_86 {G : ab_G} {fr : Bool} {n0 : Nat} {tl : ab_H} {K : Int32 → ms_S → Prop} {S : ms_S} {t0 : Int32}
    (h : K t0 S) :
    L_X11_swaps_86 G fr n0 tl K S t0 := by
  unfold L_X11_swaps_86
  exact wp_ri rfl rfl rfl ⟨_, _, rfl, rfl, h⟩
set_option maxRecDepth 100000 in
set_option maxHeartbeats 4000000 in
theorem m_X11_swaps {G : ab_G} {fr : Bool} {tl : ab_H} {K : Int32 → ms_S → Prop} {S : ms_S} {i1 : Int32}
    (h : ∀ n0 : Nat, ctI G 1 M_X11_isHeir fr [.ref 0, .int i1] lB S tl (fun v1 S1 => (v1 = 0 → (K (-(nI 1)) S1)) ∧ (¬ v1 = 0 → (vp_in i1 5 ∧ (((S1.2.2.2.1 83 i1.toNatClampNeg) = 0 → (K (-(nI 2)) S1)) ∧ (¬ (S1.2.2.2.1 83 i1.toNatClampNeg) = 0 → (ctU G 5 M_X11_joinAsNow fr [.ref 0] lB S1 tl (fun S2 => ctI G 4 M_X9_isRow fr [.ref 61, .int (S1.2.2.2.1 83 i1.toNatClampNeg)] lB S2 tl (fun v3 S3 => (v3 = 0 → (ctU G 6 M_X3_findExchanges fr [.ref 67, .ref 82, .int i1] lB S3 tl (fun S4 => ctI G 6 M_X3_oneExchangeMakesRow fr [.ref 67, .int (S1.2.2.2.1 83 i1.toNatClampNeg)] lB S4 tl (fun v5 S5 => (v5 = 0 → (ctI G 6 M_X3_twoExchangesMakeRow fr [.ref 67, .int (S1.2.2.2.1 83 i1.toNatClampNeg)] lB S5 tl (fun v6 S6 => (v6 = 0 → (L_X11_swaps_86 G fr n0 tl K S6 (-(nI 2)))) ∧ (¬ v6 = 0 → (L_X11_swaps_86 G fr n0 tl K S6 (nI 2)))))) ∧ (¬ v5 = 0 → (K (nI 1) S5)))))) ∧ (¬ v3 = 0 → (K (nI 0) S3))))))))))) :
    ctI G 7 M_X11_swaps fr [.ref 0, .int i1] lB S tl K := by
  refine wp_ct o_X11_swaps (Nat.le_of_ble_eq_true rfl) ?_
  replace h := h (hLy lB S tl).length
  revert h
  generalize (hLy lB S tl).length = n0
  intro h
  iterate 2 refine ws_b rfl ?_
  refine wp_cV rfl rfl o_X11_isHeir v_X11_isHeir h rfl rfl rfl (Nat.le_of_ble_eq_true rfl) (by decide) ?_
  clear h
  rintro r9 h9 ⟨v1, S1, rfl, rfl, h⟩
  refine ws_b rfl ?_
  refine wp_ite (fun q => ?_) (fun q => ?_)
  · replace h := h.1 q
    refine ws_b rfl ?_
    exact wp_ri rfl rfl rfl ⟨_, _, rfl, rfl, h⟩
  · replace h := h.2 q
    iterate 4 refine ws_b rfl ?_
    refine ws_g rfl h.1 ?_
    replace h := h.2
    iterate 3 refine ws_b rfl ?_
    refine wp_ite (fun q => ?_) (fun q => ?_)
    · replace h := h.1 q
      refine ws_b rfl ?_
      exact wp_ri rfl rfl rfl ⟨_, _, rfl, rfl, h⟩
    · replace h := h.2 q
      refine ws_b rfl ?_
      refine wp_cV rfl rfl o_X11_joinAsNow v_X11_joinAsNow h rfl rfl rfl (Nat.le_of_ble_eq_true rfl) (by decide) ?_
      clear h
      rintro r9 h9 ⟨S2, rfl, rfl, h⟩
      iterate 3 refine ws_b rfl ?_
      refine wp_cV rfl rfl o_X9_isRow v_X9_isRow h rfl rfl rfl (Nat.le_of_ble_eq_true rfl) (by decide) ?_
      clear h
      rintro r9 h9 ⟨v3, S3, rfl, rfl, h⟩
      refine ws_b rfl ?_
      refine wp_ite (fun q => ?_) (fun q => ?_)
      · replace h := h.1 q
        iterate 5 refine ws_b rfl ?_
        refine wp_cV rfl rfl o_X3_findExchanges v_X3_findExchanges h rfl rfl rfl (Nat.le_of_ble_eq_true rfl) (by decide) ?_
        clear h
        rintro r9 h9 ⟨S4, rfl, rfl, h⟩
        iterate 3 refine ws_b rfl ?_
        refine wp_cV rfl rfl o_X3_oneExchangeMakesRow v_X3_oneExchangeMakesRow h rfl rfl rfl (Nat.le_of_ble_eq_true rfl) (by decide) ?_
        clear h
        rintro r9 h9 ⟨v5, S5, rfl, rfl, h⟩
        refine ws_b rfl ?_
        refine wp_ite (fun q => ?_) (fun q => ?_)
        · replace h := h.1 q
          iterate 3 refine ws_b rfl ?_
          refine wp_cV rfl rfl o_X3_twoExchangesMakeRow v_X3_twoExchangesMakeRow h rfl rfl rfl (Nat.le_of_ble_eq_true rfl) (by decide) ?_
          clear h
          rintro r9 h9 ⟨v6, S6, rfl, rfl, h⟩
          refine ws_b rfl ?_
          refine wp_ite (fun q => ?_) (fun q => ?_)
          · replace h := h.1 q
            refine ws_b rfl ?_
            exact wp_weak (wk_n (wk_n (wk_n wk_0))) h
          · replace h := h.2 q
            iterate 2 refine ws_b rfl ?_
            exact wp_weak (wk_n (wk_n (wk_n wk_0))) h
        · replace h := h.2 q
          refine ws_b rfl ?_
          exact wp_ri rfl rfl rfl ⟨_, _, rfl, rfl, h⟩
      · replace h := h.2 q
        refine ws_b rfl ?_
        exact wp_ri rfl rfl rfl ⟨_, _, rfl, rfl, h⟩
def L_X11_lacks_29 (G : ab_G) (fr : Bool) (n0 : Nat) (tl : ab_H) (K : Int32 → ms_S → Prop) (S : ms_S) (i1 : Int32) (i2 : Int32) (i3 : Int32) (i4 : Int32) : Prop := wp G 6 M_X11_lacks fr n0 (poI lB tl K) 29 [some (.ref 0), some (.int i1), some (.int i2), some (.int i3), some (.int i4), none] [] (hLy lB S tl)
def L_X11_lacks_98 (G : ab_G) (fr : Bool) (n0 : Nat) (tl : ab_H) (K : Int32 → ms_S → Prop) (S : ms_S) (i1 : Int32) (i2 : Int32) (i3 : Int32) (i4 : Int32) : Prop := wp G 6 M_X11_lacks fr n0 (poI lB tl K) 98 [some (.ref 0), some (.int i1), some (.int i2), some (.int i3), some (.int i4), none] [] (hLy lB S tl)
set_option maxRecDepth 100000 in
set_option maxHeartbeats 4000000 in
theorem b_X11_lacks_29 {G : ab_G} {fr : Bool} {n0 : Nat} {tl : ab_H} {K : Int32 → ms_S → Prop} {S : ms_S} {i1 : Int32} {i2 : Int32} {i3 : Int32} {i4 : Int32}
    (h : ((S.1 4 12) ≤ i4 → (K i3 S)) ∧ (¬ (S.1 4 12) ≤ i4 → ((((i2 ||| (S.1 82 5)) &&& ((nI 1) <<< (i4 &&& 31))) = 0 → (ctI G 4 M_X9_isRow fr [.ref 61, .int (i2 ||| ((nI 1) <<< (i4 &&& 31)))] lB S tl (fun v1 S1 => (v1 = 0 → (L_X11_lacks_98 G fr n0 tl K S1 i1 i2 i3 i4)) ∧ (¬ v1 = 0 → (ctI G 5 M_X3_mayHold fr [.ref 67, .ref 82, .int i4, .int i1] lB S1 tl (fun v2 S2 => (v2 = 0 → (L_X11_lacks_98 G fr n0 tl K S2 i1 i2 i3 i4)) ∧ (¬ v2 = 0 → (L_X11_lacks_98 G fr n0 tl K S2 i1 i2 (i3 ||| ((nI 1) <<< (i4 &&& 31))) i4)))))))) ∧ (¬ ((i2 ||| (S.1 82 5)) &&& ((nI 1) <<< (i4 &&& 31))) = 0 → (L_X11_lacks_98 G fr n0 tl K S i1 i2 i3 i4))))) :
    L_X11_lacks_29 G fr n0 tl K S i1 i2 i3 i4 := by
  unfold L_X11_lacks_29
  iterate 5 refine ws_b rfl ?_
  refine wp_ite (fun q => ?_) (fun q => ?_)
  · replace h := h.1 q
    refine ws_b rfl ?_
    exact wp_ri rfl rfl rfl ⟨_, _, rfl, rfl, h⟩
  · replace h := h.2 q
    iterate 12 refine ws_b rfl ?_
    refine wp_ite (fun q => ?_) (fun q => ?_)
    · replace h := h.1 q
      iterate 5 refine ws_b rfl ?_
      refine wp_cV rfl rfl o_X9_isRow v_X9_isRow h rfl rfl rfl (Nat.le_of_ble_eq_true rfl) (by decide) ?_
      clear h
      rintro r9 h9 ⟨v1, S1, rfl, rfl, h⟩
      refine ws_b rfl ?_
      refine wp_ite (fun q => ?_) (fun q => ?_)
      · replace h := h.1 q
        exact wp_weak (wk_s (wk_s (wk_s (wk_s (wk_s (wk_n wk_0)))))) h
      · replace h := h.2 q
        iterate 6 refine ws_b rfl ?_
        refine wp_cV rfl rfl o_X3_mayHold v_X3_mayHold h rfl rfl rfl (Nat.le_of_ble_eq_true rfl) (by decide) ?_
        clear h
        rintro r9 h9 ⟨v2, S2, rfl, rfl, h⟩
        refine ws_b rfl ?_
        refine wp_ite (fun q => ?_) (fun q => ?_)
        · replace h := h.1 q
          exact wp_weak (wk_s (wk_s (wk_s (wk_s (wk_s (wk_n wk_0)))))) h
        · replace h := h.2 q
          iterate 4 refine ws_b rfl ?_
          exact wp_weak (wk_s (wk_s (wk_s (wk_s (wk_s (wk_n wk_0)))))) h
    · replace h := h.2 q
      exact wp_weak (wk_s (wk_s (wk_s (wk_s (wk_s (wk_n wk_0)))))) h
set_option maxRecDepth 100000 in
set_option maxHeartbeats 4000000 in
theorem b_X11_lacks_98 {G : ab_G} {fr : Bool} {n0 : Nat} {tl : ab_H} {K : Int32 → ms_S → Prop} {S : ms_S} {i1 : Int32} {i2 : Int32} {i3 : Int32} {i4 : Int32}
    (h : L_X11_lacks_29 G fr n0 tl K S i1 i2 i3 (i4 + nI 1)) :
    L_X11_lacks_98 G fr n0 tl K S i1 i2 i3 i4 := by
  unfold L_X11_lacks_98
  iterate 2 refine ws_b rfl ?_
  exact wp_weak (wk_s (wk_s (wk_s (wk_s (wk_s (wk_s wk_0)))))) h
set_option maxRecDepth 100000 in
set_option maxHeartbeats 4000000 in
theorem m_X11_lacks {G : ab_G} {fr : Bool} {tl : ab_H} {K : Int32 → ms_S → Prop} {S : ms_S} {i1 : Int32}
    (h : ∀ n0 : Nat, ctI G 1 M_X11_isHeir fr [.ref 0, .int i1] lB S tl (fun v1 S1 => (v1 = 0 → (K (-(nI 1)) S1)) ∧ (¬ v1 = 0 → (ctU G 5 M_X11_joinAsNow fr [.ref 0] lB S1 tl (fun S2 => vp_in i1 5 ∧ (L_X11_lacks_29 G fr n0 tl K S2 i1 (S2.2.2.2.1 83 i1.toNatClampNeg) (nI 0) (nI 0))))))) :
    ctI G 6 M_X11_lacks fr [.ref 0, .int i1] lB S tl K := by
  refine wp_ct o_X11_lacks (Nat.le_of_ble_eq_true rfl) ?_
  replace h := h (hLy lB S tl).length
  revert h
  generalize (hLy lB S tl).length = n0
  intro h
  iterate 2 refine ws_b rfl ?_
  refine wp_cV rfl rfl o_X11_isHeir v_X11_isHeir h rfl rfl rfl (Nat.le_of_ble_eq_true rfl) (by decide) ?_
  clear h
  rintro r9 h9 ⟨v1, S1, rfl, rfl, h⟩
  refine ws_b rfl ?_
  refine wp_ite (fun q => ?_) (fun q => ?_)
  · replace h := h.1 q
    refine ws_b rfl ?_
    exact wp_ri rfl rfl rfl ⟨_, _, rfl, rfl, h⟩
  · replace h := h.2 q
    refine ws_b rfl ?_
    refine wp_cV rfl rfl o_X11_joinAsNow v_X11_joinAsNow h rfl rfl rfl (Nat.le_of_ble_eq_true rfl) (by decide) ?_
    clear h
    rintro r9 h9 ⟨S2, rfl, rfl, h⟩
    iterate 4 refine ws_b rfl ?_
    refine ws_g rfl h.1 ?_
    replace h := h.2
    iterate 5 refine ws_b rfl ?_
    exact wp_weak (wk_s (wk_s (wk_s (wk_s (wk_s (wk_s wk_0)))))) h
def L_X11_tooMany_29 (G : ab_G) (fr : Bool) (n0 : Nat) (tl : ab_H) (K : Int32 → ms_S → Prop) (S : ms_S) (i2 : Int32) (i3 : Int32) (i4 : Int32) : Prop := wp G 6 M_X11_tooMany fr n0 (poI lB tl K) 29 [some (.ref 0), none, some (.int i2), some (.int i3), some (.int i4), none] [] (hLy lB S tl)
def L_X11_tooMany_75 (G : ab_G) (fr : Bool) (n0 : Nat) (tl : ab_H) (K : Int32 → ms_S → Prop) (S : ms_S) (i2 : Int32) (i3 : Int32) (i4 : Int32) : Prop := wp G 6 M_X11_tooMany fr n0 (poI lB tl K) 75 [some (.ref 0), none, some (.int i2), some (.int i3), some (.int i4), none] [] (hLy lB S tl)
set_option maxRecDepth 100000 in
set_option maxHeartbeats 4000000 in
theorem b_X11_tooMany_29 {G : ab_G} {fr : Bool} {n0 : Nat} {tl : ab_H} {K : Int32 → ms_S → Prop} {S : ms_S} {i2 : Int32} {i3 : Int32} {i4 : Int32}
    (h : ((S.1 4 12) ≤ i4 → (K i3 S)) ∧ (¬ (S.1 4 12) ≤ i4 → (((i2 &&& ((nI 1) <<< (i4 &&& 31))) = 0 → (L_X11_tooMany_75 G fr n0 tl K S i2 i3 i4)) ∧ (¬ (i2 &&& ((nI 1) <<< (i4 &&& 31))) = 0 → (ctI G 4 M_X9_isRow fr [.ref 61, .int (i2 &&& (((nI 1) <<< (i4 &&& 31)) ^^^ (-(nI 1))))] lB S tl (fun v1 S1 => (v1 = 0 → (L_X11_tooMany_75 G fr n0 tl K S1 i2 i3 i4)) ∧ (¬ v1 = 0 → (L_X11_tooMany_75 G fr n0 tl K S1 i2 (i3 ||| ((nI 1) <<< (i4 &&& 31))) i4)))))))) :
    L_X11_tooMany_29 G fr n0 tl K S i2 i3 i4 := by
  unfold L_X11_tooMany_29
  iterate 5 refine ws_b rfl ?_
  refine wp_ite (fun q => ?_) (fun q => ?_)
  · replace h := h.1 q
    refine ws_b rfl ?_
    exact wp_ri rfl rfl rfl ⟨_, _, rfl, rfl, h⟩
  · replace h := h.2 q
    iterate 8 refine ws_b rfl ?_
    refine wp_ite (fun q => ?_) (fun q => ?_)
    · replace h := h.1 q
      exact wp_weak (wk_s (wk_s (wk_s (wk_s (wk_s (wk_n wk_0)))))) h
    · replace h := h.2 q
      iterate 7 refine ws_b rfl ?_
      refine wp_cV rfl rfl o_X9_isRow v_X9_isRow h rfl rfl rfl (Nat.le_of_ble_eq_true rfl) (by decide) ?_
      clear h
      rintro r9 h9 ⟨v1, S1, rfl, rfl, h⟩
      refine ws_b rfl ?_
      refine wp_ite (fun q => ?_) (fun q => ?_)
      · replace h := h.1 q
        exact wp_weak (wk_s (wk_s (wk_s (wk_s (wk_s (wk_n wk_0)))))) h
      · replace h := h.2 q
        iterate 4 refine ws_b rfl ?_
        exact wp_weak (wk_s (wk_s (wk_s (wk_s (wk_s (wk_n wk_0)))))) h
set_option maxRecDepth 100000 in
set_option maxHeartbeats 4000000 in
theorem b_X11_tooMany_75 {G : ab_G} {fr : Bool} {n0 : Nat} {tl : ab_H} {K : Int32 → ms_S → Prop} {S : ms_S} {i2 : Int32} {i3 : Int32} {i4 : Int32}
    (h : L_X11_tooMany_29 G fr n0 tl K S i2 i3 (i4 + nI 1)) :
    L_X11_tooMany_75 G fr n0 tl K S i2 i3 i4 := by
  unfold L_X11_tooMany_75
  iterate 2 refine ws_b rfl ?_
  exact wp_weak (wk_s (wk_s (wk_s (wk_s (wk_s (wk_s wk_0)))))) h
set_option maxRecDepth 100000 in
set_option maxHeartbeats 4000000 in
theorem m_X11_tooMany {G : ab_G} {fr : Bool} {tl : ab_H} {K : Int32 → ms_S → Prop} {S : ms_S} {i1 : Int32}
    (h : ∀ n0 : Nat, ctI G 1 M_X11_isHeir fr [.ref 0, .int i1] lB S tl (fun v1 S1 => (v1 = 0 → (K (-(nI 1)) S1)) ∧ (¬ v1 = 0 → (ctU G 5 M_X11_joinAsNow fr [.ref 0] lB S1 tl (fun S2 => vp_in i1 5 ∧ (L_X11_tooMany_29 G fr n0 tl K S2 (S2.2.2.2.1 83 i1.toNatClampNeg) (nI 0) (nI 0))))))) :
    ctI G 6 M_X11_tooMany fr [.ref 0, .int i1] lB S tl K := by
  refine wp_ct o_X11_tooMany (Nat.le_of_ble_eq_true rfl) ?_
  replace h := h (hLy lB S tl).length
  revert h
  generalize (hLy lB S tl).length = n0
  intro h
  iterate 2 refine ws_b rfl ?_
  refine wp_cV rfl rfl o_X11_isHeir v_X11_isHeir h rfl rfl rfl (Nat.le_of_ble_eq_true rfl) (by decide) ?_
  clear h
  rintro r9 h9 ⟨v1, S1, rfl, rfl, h⟩
  refine ws_b rfl ?_
  refine wp_ite (fun q => ?_) (fun q => ?_)
  · replace h := h.1 q
    refine ws_b rfl ?_
    exact wp_ri rfl rfl rfl ⟨_, _, rfl, rfl, h⟩
  · replace h := h.2 q
    refine ws_b rfl ?_
    refine wp_cV rfl rfl o_X11_joinAsNow v_X11_joinAsNow h rfl rfl rfl (Nat.le_of_ble_eq_true rfl) (by decide) ?_
    clear h
    rintro r9 h9 ⟨S2, rfl, rfl, h⟩
    iterate 4 refine ws_b rfl ?_
    refine ws_g rfl h.1 ?_
    replace h := h.2
    iterate 5 refine ws_b rfl ?_
    exact wp_weak (wk_s (wk_n (wk_s (wk_s (wk_s (wk_s wk_0)))))) h
set_option maxRecDepth 100000 in
set_option maxHeartbeats 4000000 in
theorem m_X11_deal {G : ab_G} {fr : Bool} {tl : ab_H} {K : Int32 → ms_S → Prop} {S : ms_S} 
    (h : ∀ n0 : Nat, ctU G 5 M_X11_joinAsNow fr [.ref 0] lB S tl (fun S1 => ctI G 7 M_X3_mostRowsByBox fr [.ref 67, .ref 82] lB S1 tl (fun v2 S2 => K v2 S2))) :
    ctI G 8 M_X11_deal fr [.ref 0] lB S tl K := by
  refine wp_ct o_X11_deal (Nat.le_of_ble_eq_true rfl) ?_
  replace h := h (hLy lB S tl).length
  revert h
  generalize (hLy lB S tl).length = n0
  intro h
  refine ws_b rfl ?_
  refine wp_cV rfl rfl o_X11_joinAsNow v_X11_joinAsNow h rfl rfl rfl (Nat.le_of_ble_eq_true rfl) (by decide) ?_
  clear h
  rintro r9 h9 ⟨S1, rfl, rfl, h⟩
  iterate 4 refine ws_b rfl ?_
  refine wp_cV rfl rfl o_X3_mostRowsByBox v_X3_mostRowsByBox h rfl rfl rfl (Nat.le_of_ble_eq_true rfl) (by decide) ?_
  clear h
  rintro r9 h9 ⟨v2, S2, rfl, rfl, h⟩
  exact wp_ri rfl rfl rfl ⟨_, _, rfl, rfl, h⟩
def L_X11_game_30 (G : ab_G) (fr : Bool) (n0 : Nat) (tl : ab_H) (K : Int32 → ms_S → Prop) (S : ms_S)  : Prop := wp G 12 M_X11_game fr n0 (poI lB tl K) 30 [none, none, none, none] [] (hLy lB S tl)
def L_X11_game_106 (G : ab_G) (fr : Bool) (n0 : Nat) (tl : ab_H) (K : Int32 → ms_S → Prop) (S : ms_S) (t0 : Int32) : Prop := wp G 12 M_X11_game fr n0 (poI lB tl K) 106 [none, none, none, none] [.int t0] (hLy lB S tl)
set_option maxRecDepth 100000 in
set_option maxHeartbeats 4000000 in
theorem b_X11_game_30 {G : ab_G} {fr : Bool} {n0 : Nat} {tl : ab_H} {K : Int32 → ms_S → Prop} {S : ms_S} 
    (h : K (-(nI 1)) S) :
    L_X11_game_30 G fr n0 tl K S  := by
  unfold L_X11_game_30
  refine ws_b rfl ?_
  exact wp_ri rfl rfl rfl ⟨_, _, rfl, rfl, h⟩
set_option maxRecDepth 100000 in
set_option maxHeartbeats 4000000 in
theorem b_X11_game_106 {G : ab_G} {fr : Bool} {n0 : Nat} {tl : ab_H} {K : Int32 → ms_S → Prop} {S : ms_S} {t0 : Int32}
    (h : K t0 S) :
    L_X11_game_106 G fr n0 tl K S t0 := by
  unfold L_X11_game_106
  exact wp_ri rfl rfl rfl ⟨_, _, rfl, rfl, h⟩
set_option maxRecDepth 100000 in
set_option maxHeartbeats 4000000 in
theorem m_X11_game {G : ab_G} {fr : Bool} {tl : ab_H} {K : Int32 → ms_S → Prop} {S : ms_S} {i1 : Int32} {i2 : Int32} {i3 : Int32}
    (h : ∀ n0 : Nat, ctI G 1 M_X11_isHeir fr [.ref 0, .int i1] lB S tl (fun v1 S1 => (v1 = 0 → (L_X11_game_30 G fr n0 tl K S1 )) ∧ (¬ v1 = 0 → (ctI G 1 M_X11_isHeir fr [.ref 0, .int i2] lB S1 tl (fun v2 S2 => (v2 = 0 → (L_X11_game_30 G fr n0 tl K S2 )) ∧ (¬ v2 = 0 → ((i1 = i2 → (L_X11_game_30 G fr n0 tl K S2 )) ∧ (¬ i1 = i2 → ((i3 < 0 → (L_X11_game_30 G fr n0 tl K S2 )) ∧ (¬ i3 < 0 → ((i3 ≤ (nI 2) → (ctU G 5 M_X11_joinAsNow fr [.ref 0] lB S2 tl (fun S3 => vp_in i1 5 ∧ (vp_in i2 5 ∧ (ctU G 11 M_X2_playOut fr [.ref 73, .int (S3.2.2.2.1 83 i1.toNatClampNeg), .int (S3.2.2.2.1 83 i2.toNatClampNeg)] lB S3 tl (fun S4 => (i3 = nI 0 → (¬ (nI 2) = 0 ∧ ((((S4.1 73 4) - (S4.1 73 4) / (nI 2) * (nI 2)) = (nI 1) → (L_X11_game_106 G fr n0 tl K S4 (nI 0))) ∧ (¬ ((S4.1 73 4) - (S4.1 73 4) / (nI 2) * (nI 2)) = (nI 1) → (L_X11_game_106 G fr n0 tl K S4 (nI 1)))))) ∧ (i3 = nI 1 → (K (S4.1 73 4) S4)) ∧ (¬ i3 = nI 0 → ¬ i3 = nI 1 → (K (S4.1 73 5) S4)))))))) ∧ (¬ i3 ≤ (nI 2) → (L_X11_game_30 G fr n0 tl K S2 ))))))))))))) :
    ctI G 12 M_X11_game fr [.ref 0, .int i1, .int i2, .int i3] lB S tl K := by
  refine wp_ct o_X11_game (Nat.le_of_ble_eq_true rfl) ?_
  replace h := h (hLy lB S tl).length
  revert h
  generalize (hLy lB S tl).length = n0
  intro h
  iterate 2 refine ws_b rfl ?_
  refine wp_cV rfl rfl o_X11_isHeir v_X11_isHeir h rfl rfl rfl (Nat.le_of_ble_eq_true rfl) (by decide) ?_
  clear h
  rintro r9 h9 ⟨v1, S1, rfl, rfl, h⟩
  refine ws_b rfl ?_
  refine wp_ite (fun q => ?_) (fun q => ?_)
  · replace h := h.1 q
    exact wp_weak (wk_n (wk_n (wk_n (wk_n wk_0)))) h
  · replace h := h.2 q
    iterate 2 refine ws_b rfl ?_
    refine wp_cV rfl rfl o_X11_isHeir v_X11_isHeir h rfl rfl rfl (Nat.le_of_ble_eq_true rfl) (by decide) ?_
    clear h
    rintro r9 h9 ⟨v2, S2, rfl, rfl, h⟩
    refine ws_b rfl ?_
    refine wp_ite (fun q => ?_) (fun q => ?_)
    · replace h := h.1 q
      exact wp_weak (wk_n (wk_n (wk_n (wk_n wk_0)))) h
    · replace h := h.2 q
      iterate 3 refine ws_b rfl ?_
      refine wp_ite (fun q => ?_) (fun q => ?_)
      · replace h := h.1 q
        exact wp_weak (wk_n (wk_n (wk_n (wk_n wk_0)))) h
      · replace h := h.2 q
        iterate 2 refine ws_b rfl ?_
        refine wp_ite (fun q => ?_) (fun q => ?_)
        · replace h := h.1 q
          exact wp_weak (wk_n (wk_n (wk_n (wk_n wk_0)))) h
        · replace h := h.2 q
          iterate 3 refine ws_b rfl ?_
          refine wp_ite (fun q => ?_) (fun q => ?_)
          · replace h := h.1 q
            refine ws_b rfl ?_
            refine wp_cV rfl rfl o_X11_joinAsNow v_X11_joinAsNow h rfl rfl rfl (Nat.le_of_ble_eq_true rfl) (by decide) ?_
            clear h
            rintro r9 h9 ⟨S3, rfl, rfl, h⟩
            iterate 6 refine ws_b rfl ?_
            refine ws_g rfl h.1 ?_
            replace h := h.2
            iterate 4 refine ws_b rfl ?_
            refine ws_g rfl h.1 ?_
            replace h := h.2
            refine wp_cV rfl rfl o_X2_playOut v_X2_playOut h rfl rfl rfl (Nat.le_of_ble_eq_true rfl) (by decide) ?_
            clear h
            rintro r9 h9 ⟨S4, rfl, rfl, h⟩
            refine ws_b rfl ?_
            by_cases q0 : i3 = nI 0
            · refine wp_lswN (nI 0) 88 (26) rfl q0 rfl rfl rfl ?_
              replace h := h.1 q0
              iterate 4 refine ws_b rfl ?_
              refine ws_g rfl h.1 ?_
              replace h := h.2
              iterate 2 refine ws_b rfl ?_
              refine wp_ite (fun q => ?_) (fun q => ?_)
              · replace h := h.1 q
                iterate 2 refine ws_b rfl ?_
                exact wp_weak (wk_n (wk_n (wk_n (wk_n wk_0)))) h
              · replace h := h.2 q
                refine ws_b rfl ?_
                exact wp_weak (wk_n (wk_n (wk_n (wk_n wk_0)))) h
            replace h := h.2
            by_cases q1 : i3 = nI 1
            · refine wp_lswN (nI 1) 107 (45) rfl q1 rfl rfl rfl ?_
              replace h := h.1 q1
              iterate 3 refine ws_b rfl ?_
              exact wp_ri rfl rfl rfl ⟨_, _, rfl, rfl, h⟩
            replace h := h.2
            refine wp_lswD 115 [nI 0, nI 1] rfl rfl (by decide) (by intro k9 hk9; rcases List.mem_cons.mp hk9 with rfl | hk9; exact q0; rcases List.mem_cons.mp hk9 with rfl | hk9; exact q1; exact nomatch hk9) rfl ?_
            replace h := h q0 q1
            iterate 3 refine ws_b rfl ?_
            exact wp_ri rfl rfl rfl ⟨_, _, rfl, rfl, h⟩
          · replace h := h.2 q
            exact wp_weak (wk_n (wk_n (wk_n (wk_n wk_0)))) h
def L_X11_likely_27 (G : ab_G) (fr : Bool) (n0 : Nat) (tl : ab_H) (K : Int32 → ms_S → Prop) (S : ms_S)  : Prop := wp G 6 M_X11_likely fr n0 (poI lB tl K) 27 [none, none, none, none, none, none, none] [] (hLy lB S tl)
def L_X11_likely_127 (G : ab_G) (fr : Bool) (n0 : Nat) (tl : ab_H) (K : Int32 → ms_S → Prop) (S : ms_S) (t0 : Int32) : Prop := wp G 6 M_X11_likely fr n0 (poI lB tl K) 127 [none, none, none, none, none, none, none] [.int t0] (hLy lB S tl)
set_option maxRecDepth 100000 in
set_option maxHeartbeats 4000000 in
theorem b_X11_likely_27 {G : ab_G} {fr : Bool} {n0 : Nat} {tl : ab_H} {K : Int32 → ms_S → Prop} {S : ms_S} 
    (h : K (-(nI 1)) S) :
    L_X11_likely_27 G fr n0 tl K S  := by
  unfold L_X11_likely_27
  refine ws_b rfl ?_
  exact wp_ri rfl rfl rfl ⟨_, _, rfl, rfl, h⟩
set_option maxRecDepth 100000 in
set_option maxHeartbeats 4000000 in
theorem b_X11_likely_127 {G : ab_G} {fr : Bool} {n0 : Nat} {tl : ab_H} {K : Int32 → ms_S → Prop} {S : ms_S} {t0 : Int32}
    (h : K t0 S) :
    L_X11_likely_127 G fr n0 tl K S t0 := by
  unfold L_X11_likely_127
  exact wp_ri rfl rfl rfl ⟨_, _, rfl, rfl, h⟩
set_option maxRecDepth 100000 in
set_option maxHeartbeats 4000000 in
theorem m_X11_likely {G : ab_G} {fr : Bool} {tl : ab_H} {K : Int32 → ms_S → Prop} {S : ms_S} {i1 : Int32} {i2 : Int32} {i3 : Int32}
    (h : ∀ n0 : Nat, ctI G 1 M_X11_isHeir fr [.ref 0, .int i1] lB S tl (fun v1 S1 => (v1 = 0 → (L_X11_likely_27 G fr n0 tl K S1 )) ∧ (¬ v1 = 0 → ((i2 < 0 → (L_X11_likely_27 G fr n0 tl K S1 )) ∧ (¬ i2 < 0 → (((nI 9) < i2 → (L_X11_likely_27 G fr n0 tl K S1 )) ∧ (¬ (nI 9) < i2 → ((i3 < 0 → (L_X11_likely_27 G fr n0 tl K S1 )) ∧ (¬ i3 < 0 → ((i3 ≤ (nI 1) → (ctI G 1 M_J6_bitCount fr [.int (S1.1 82 4)] lB S1 tl (fun v2 S2 => (i2 ≤ v2 → (ctU G 5 M_X11_joinAsNow fr [.ref 0] lB S2 tl (fun S3 => vp_in i1 5 ∧ (ctI G 5 M_X9_setsThatMakeRow fr [.ref 61, .int (S3.2.2.2.1 83 i1.toNatClampNeg), .int (S3.1 82 4), .int i2] lB S3 tl (fun v4 S4 => ctI G 1 M_J6_bitCount fr [.int (S4.1 82 4)] lB S4 tl (fun v5 S5 => ctI G 1 M_X11_setsOf fr [.int v5, .int i2] lB S5 tl (fun v6 S6 => ctI G 1 M_X11_commonDivisor fr [.int v4, .int v6] lB S6 tl (fun v7 S7 => ((nI 1) ≤ v7 → ((i3 = 0 → (¬ v7 = 0 ∧ (L_X11_likely_127 G fr n0 tl K S7 (v4 / v7)))) ∧ (¬ i3 = 0 → (¬ v7 = 0 ∧ (L_X11_likely_127 G fr n0 tl K S7 (v6 / v7)))))) ∧ (¬ (nI 1) ≤ v7 → (K (-(nI 2)) S7)))))))))) ∧ (¬ i2 ≤ v2 → (K (-(nI 2)) S2))))) ∧ (¬ i3 ≤ (nI 1) → (L_X11_likely_27 G fr n0 tl K S1 )))))))))))) :
    ctI G 6 M_X11_likely fr [.ref 0, .int i1, .int i2, .int i3] lB S tl K := by
  refine wp_ct o_X11_likely (Nat.le_of_ble_eq_true rfl) ?_
  replace h := h (hLy lB S tl).length
  revert h
  generalize (hLy lB S tl).length = n0
  intro h
  iterate 2 refine ws_b rfl ?_
  refine wp_cV rfl rfl o_X11_isHeir v_X11_isHeir h rfl rfl rfl (Nat.le_of_ble_eq_true rfl) (by decide) ?_
  clear h
  rintro r9 h9 ⟨v1, S1, rfl, rfl, h⟩
  refine ws_b rfl ?_
  refine wp_ite (fun q => ?_) (fun q => ?_)
  · replace h := h.1 q
    exact wp_weak (wk_n (wk_n (wk_n (wk_n (wk_s (wk_s (wk_s wk_0))))))) h
  · replace h := h.2 q
    iterate 2 refine ws_b rfl ?_
    refine wp_ite (fun q => ?_) (fun q => ?_)
    · replace h := h.1 q
      exact wp_weak (wk_n (wk_n (wk_n (wk_n (wk_s (wk_s (wk_s wk_0))))))) h
    · replace h := h.2 q
      iterate 3 refine ws_b rfl ?_
      refine wp_ite (fun q => ?_) (fun q => ?_)
      · replace h := h.1 q
        exact wp_weak (wk_n (wk_n (wk_n (wk_n (wk_s (wk_s (wk_s wk_0))))))) h
      · replace h := h.2 q
        iterate 2 refine ws_b rfl ?_
        refine wp_ite (fun q => ?_) (fun q => ?_)
        · replace h := h.1 q
          exact wp_weak (wk_n (wk_n (wk_n (wk_n (wk_s (wk_s (wk_s wk_0))))))) h
        · replace h := h.2 q
          iterate 3 refine ws_b rfl ?_
          refine wp_ite (fun q => ?_) (fun q => ?_)
          · replace h := h.1 q
            iterate 4 refine ws_b rfl ?_
            refine wp_cS rfl rfl o_J6_bitCount s_J6_bitCount h rfl rfl (Nat.le_of_ble_eq_true rfl) (by decide) ?_
            clear h
            rintro r9 h9 ⟨v2, S2, rfl, rfl, h⟩
            refine ws_b rfl ?_
            refine wp_ite (fun q => ?_) (fun q => ?_)
            · replace h := h.1 q
              refine ws_b rfl ?_
              refine wp_cV rfl rfl o_X11_joinAsNow v_X11_joinAsNow h rfl rfl rfl (Nat.le_of_ble_eq_true rfl) (by decide) ?_
              clear h
              rintro r9 h9 ⟨S3, rfl, rfl, h⟩
              iterate 6 refine ws_b rfl ?_
              refine ws_g rfl h.1 ?_
              replace h := h.2
              iterate 4 refine ws_b rfl ?_
              refine wp_cV rfl rfl o_X9_setsThatMakeRow v_X9_setsThatMakeRow h rfl rfl rfl (Nat.le_of_ble_eq_true rfl) (by decide) ?_
              clear h
              rintro r9 h9 ⟨v4, S4, rfl, rfl, h⟩
              iterate 4 refine ws_b rfl ?_
              refine wp_cS rfl rfl o_J6_bitCount s_J6_bitCount h rfl rfl (Nat.le_of_ble_eq_true rfl) (by decide) ?_
              clear h
              rintro r9 h9 ⟨v5, S5, rfl, rfl, h⟩
              refine ws_b rfl ?_
              refine wp_cS rfl rfl o_X11_setsOf s_X11_setsOf h rfl rfl (Nat.le_of_ble_eq_true rfl) (by decide) ?_
              clear h
              rintro r9 h9 ⟨v6, S6, rfl, rfl, h⟩
              iterate 3 refine ws_b rfl ?_
              refine wp_cS rfl rfl o_X11_commonDivisor s_X11_commonDivisor h rfl rfl (Nat.le_of_ble_eq_true rfl) (by decide) ?_
              clear h
              rintro r9 h9 ⟨v7, S7, rfl, rfl, h⟩
              iterate 4 refine ws_b rfl ?_
              refine wp_ite (fun q => ?_) (fun q => ?_)
              · replace h := h.1 q
                iterate 2 refine ws_b rfl ?_
                refine wp_ite (fun q => ?_) (fun q => ?_)
                · replace h := h.1 q
                  iterate 2 refine ws_b rfl ?_
                  refine ws_g rfl h.1 ?_
                  replace h := h.2
                  refine ws_b rfl ?_
                  exact wp_weak (wk_n (wk_n (wk_n (wk_n (wk_n (wk_n (wk_n wk_0))))))) h
                · replace h := h.2 q
                  iterate 2 refine ws_b rfl ?_
                  refine ws_g rfl h.1 ?_
                  replace h := h.2
                  exact wp_weak (wk_n (wk_n (wk_n (wk_n (wk_n (wk_n (wk_n wk_0))))))) h
              · replace h := h.2 q
                refine ws_b rfl ?_
                exact wp_ri rfl rfl rfl ⟨_, _, rfl, rfl, h⟩
            · replace h := h.2 q
              refine ws_b rfl ?_
              exact wp_ri rfl rfl rfl ⟨_, _, rfl, rfl, h⟩
          · replace h := h.2 q
            exact wp_weak (wk_n (wk_n (wk_n (wk_n (wk_s (wk_s (wk_s wk_0))))))) h
def L_X11_note_9 (G : ab_G) (fr : Bool) (n0 : Nat) (tl : ab_H) (K : Int32 → ms_S → Prop) (S : ms_S) (i1 : Int32) (i2 : Int32) (i3 : Int32) (i4 : Int32) : Prop := wp G 2 M_X11_note fr n0 (poI lB tl K) 9 [some (.ref 0), some (.int i1), some (.int i2), some (.int i3), some (.int i4)] [] (hLy lB S tl)
def L_X11_note_28 (G : ab_G) (fr : Bool) (n0 : Nat) (tl : ab_H) (K : Int32 → ms_S → Prop) (S : ms_S)  : Prop := wp G 2 M_X11_note fr n0 (poI lB tl K) 28 [none, none, none, none, none] [] (hLy lB S tl)
def L_X11_note_30 (G : ab_G) (fr : Bool) (n0 : Nat) (tl : ab_H) (K : Int32 → ms_S → Prop) (S : ms_S) (i1 : Int32) (i2 : Int32) (i3 : Int32) (i4 : Int32) : Prop := wp G 2 M_X11_note fr n0 (poI lB tl K) 30 [some (.ref 0), some (.int i1), some (.int i2), some (.int i3), some (.int i4)] [] (hLy lB S tl)
set_option maxRecDepth 100000 in
set_option maxHeartbeats 4000000 in
theorem b_X11_note_9 {G : ab_G} {fr : Bool} {n0 : Nat} {tl : ab_H} {K : Int32 → ms_S → Prop} {S : ms_S} {i1 : Int32} {i2 : Int32} {i3 : Int32} {i4 : Int32}
    (h : ctI G 1 M_X11_isEnd fr [.int i2] lB S tl (fun v1 S1 => (v1 = 0 → (L_X11_note_28 G fr n0 tl K S1 )) ∧ (¬ v1 = 0 → ((i1 = (nI 1) → (ctI G 1 M_X11_isEnd fr [.int i3] lB S1 tl (fun v2 S2 => (v2 = 0 → (L_X11_note_28 G fr n0 tl K S2 )) ∧ (¬ v2 = 0 → (L_X11_note_30 G fr n0 tl K S2 i1 i2 i3 i4))))) ∧ (¬ i1 = (nI 1) → (L_X11_note_30 G fr n0 tl K S1 i1 i2 i3 i4)))))) :
    L_X11_note_9 G fr n0 tl K S i1 i2 i3 i4 := by
  unfold L_X11_note_9
  refine ws_b rfl ?_
  refine wp_cS rfl rfl o_X11_isEnd s_X11_isEnd h rfl rfl (Nat.le_of_ble_eq_true rfl) (by decide) ?_
  clear h
  rintro r9 h9 ⟨v1, S1, rfl, rfl, h⟩
  refine ws_b rfl ?_
  refine wp_ite (fun q => ?_) (fun q => ?_)
  · replace h := h.1 q
    exact wp_weak (wk_n (wk_n (wk_n (wk_n (wk_n wk_0))))) h
  · replace h := h.2 q
    iterate 3 refine ws_b rfl ?_
    refine wp_ite (fun q => ?_) (fun q => ?_)
    · replace h := h.1 q
      refine ws_b rfl ?_
      refine wp_cS rfl rfl o_X11_isEnd s_X11_isEnd h rfl rfl (Nat.le_of_ble_eq_true rfl) (by decide) ?_
      clear h
      rintro r9 h9 ⟨v2, S2, rfl, rfl, h⟩
      refine ws_b rfl ?_
      refine wp_ite (fun q => ?_) (fun q => ?_)
      · replace h := h.1 q
        exact wp_weak (wk_n (wk_n (wk_n (wk_n (wk_n wk_0))))) h
      · replace h := h.2 q
        exact wp_weak (wk_s (wk_s (wk_s (wk_s (wk_s wk_0))))) h
    · replace h := h.2 q
      exact wp_weak (wk_s (wk_s (wk_s (wk_s (wk_s wk_0))))) h
set_option maxRecDepth 100000 in
set_option maxHeartbeats 4000000 in
theorem b_X11_note_28 {G : ab_G} {fr : Bool} {n0 : Nat} {tl : ab_H} {K : Int32 → ms_S → Prop} {S : ms_S} 
    (h : K (-(nI 1)) S) :
    L_X11_note_28 G fr n0 tl K S  := by
  unfold L_X11_note_28
  refine ws_b rfl ?_
  exact wp_ri rfl rfl rfl ⟨_, _, rfl, rfl, h⟩
set_option maxRecDepth 100000 in
set_option maxHeartbeats 4000000 in
theorem b_X11_note_30 {G : ab_G} {fr : Bool} {n0 : Nat} {tl : ab_H} {K : Int32 → ms_S → Prop} {S : ms_S} {i1 : Int32} {i2 : Int32} {i3 : Int32} {i4 : Int32}
    (h : ctI G 1 M_X6_write fr [.ref 76, .int i1, .int i2, .int i3, .int (nI 0), .int i4] lB S tl (fun v1 S1 => K v1 S1)) :
    L_X11_note_30 G fr n0 tl K S i1 i2 i3 i4 := by
  unfold L_X11_note_30
  iterate 7 refine ws_b rfl ?_
  refine wp_cV rfl rfl o_X6_write v_X6_write h rfl rfl rfl (Nat.le_of_ble_eq_true rfl) (by decide) ?_
  clear h
  rintro r9 h9 ⟨v1, S1, rfl, rfl, h⟩
  exact wp_ri rfl rfl rfl ⟨_, _, rfl, rfl, h⟩
set_option maxRecDepth 100000 in
set_option maxHeartbeats 4000000 in
theorem m_X11_note {G : ab_G} {fr : Bool} {tl : ab_H} {K : Int32 → ms_S → Prop} {S : ms_S} {i1 : Int32} {i2 : Int32} {i3 : Int32} {i4 : Int32}
    (h : ∀ n0 : Nat, (i1 = 0 → (L_X11_note_9 G fr n0 tl K S i1 i2 i3 i4)) ∧ (¬ i1 = 0 → ((i1 = (nI 1) → (L_X11_note_9 G fr n0 tl K S i1 i2 i3 i4)) ∧ (¬ i1 = (nI 1) → (L_X11_note_28 G fr n0 tl K S ))))) :
    ctI G 2 M_X11_note fr [.ref 0, .int i1, .int i2, .int i3, .int i4] lB S tl K := by
  refine wp_ct o_X11_note (Nat.le_of_ble_eq_true rfl) ?_
  replace h := h (hLy lB S tl).length
  revert h
  generalize (hLy lB S tl).length = n0
  intro h
  iterate 2 refine ws_b rfl ?_
  refine wp_ite (fun q => ?_) (fun q => ?_)
  · replace h := h.1 q
    exact wp_weak (wk_s (wk_s (wk_s (wk_s (wk_s wk_0))))) h
  · replace h := h.2 q
    iterate 3 refine ws_b rfl ?_
    refine wp_ite (fun q => ?_) (fun q => ?_)
    · replace h := h.1 q
      exact wp_weak (wk_s (wk_s (wk_s (wk_s (wk_s wk_0))))) h
    · replace h := h.2 q
      exact wp_weak (wk_n (wk_n (wk_n (wk_n (wk_n wk_0))))) h
def L_X11_see_26 (G : ab_G) (fr : Bool) (n0 : Nat) (tl : ab_H) (K : Int32 → ms_S → Prop) (S : ms_S)  : Prop := wp G 2 M_X11_see fr n0 (poI lB tl K) 26 [none, none, none, none, none] [] (hLy lB S tl)
set_option maxRecDepth 100000 in
set_option maxHeartbeats 4000000 in
theorem b_X11_see_26 {G : ab_G} {fr : Bool} {n0 : Nat} {tl : ab_H} {K : Int32 → ms_S → Prop} {S : ms_S} 
    (h : K (-(nI 1)) S) :
    L_X11_see_26 G fr n0 tl K S  := by
  unfold L_X11_see_26
  refine ws_b rfl ?_
  exact wp_ri rfl rfl rfl ⟨_, _, rfl, rfl, h⟩
set_option maxRecDepth 100000 in
set_option maxHeartbeats 4000000 in
theorem m_X11_see {G : ab_G} {fr : Bool} {tl : ab_H} {K : Int32 → ms_S → Prop} {S : ms_S} {i1 : Int32} {i2 : Int32} {i3 : Int32} {i4 : Int32}
    (h : ∀ n0 : Nat, (i1 < (nI 1) → (L_X11_see_26 G fr n0 tl K S )) ∧ (¬ i1 < (nI 1) → (((nI 60) < i1 → (L_X11_see_26 G fr n0 tl K S )) ∧ (¬ (nI 60) < i1 → (ctI G 1 M_X11_isHeir fr [.ref 0, .int i2] lB S tl (fun v1 S1 => (v1 = 0 → (L_X11_see_26 G fr n0 tl K S1 )) ∧ (¬ v1 = 0 → (ctI G 1 M_X11_isGold fr [.int i3] lB S1 tl (fun v2 S2 => (v2 = 0 → (L_X11_see_26 G fr n0 tl K S2 )) ∧ (¬ v2 = 0 → (ctI G 1 M_X6_write fr [.ref 76, .int (nI 2), .int i1, .int i2, .int i3, .int i4] lB S2 tl (fun v3 S3 => K v3 S3)))))))))))) :
    ctI G 2 M_X11_see fr [.ref 0, .int i1, .int i2, .int i3, .int i4] lB S tl K := by
  refine wp_ct o_X11_see (Nat.le_of_ble_eq_true rfl) ?_
  replace h := h (hLy lB S tl).length
  revert h
  generalize (hLy lB S tl).length = n0
  intro h
  iterate 3 refine ws_b rfl ?_
  refine wp_ite (fun q => ?_) (fun q => ?_)
  · replace h := h.1 q
    exact wp_weak (wk_n (wk_n (wk_n (wk_n (wk_n wk_0))))) h
  · replace h := h.2 q
    iterate 3 refine ws_b rfl ?_
    refine wp_ite (fun q => ?_) (fun q => ?_)
    · replace h := h.1 q
      exact wp_weak (wk_n (wk_n (wk_n (wk_n (wk_n wk_0))))) h
    · replace h := h.2 q
      iterate 2 refine ws_b rfl ?_
      refine wp_cV rfl rfl o_X11_isHeir v_X11_isHeir h rfl rfl rfl (Nat.le_of_ble_eq_true rfl) (by decide) ?_
      clear h
      rintro r9 h9 ⟨v1, S1, rfl, rfl, h⟩
      refine ws_b rfl ?_
      refine wp_ite (fun q => ?_) (fun q => ?_)
      · replace h := h.1 q
        exact wp_weak (wk_n (wk_n (wk_n (wk_n (wk_n wk_0))))) h
      · replace h := h.2 q
        refine ws_b rfl ?_
        refine wp_cS rfl rfl o_X11_isGold s_X11_isGold h rfl rfl (Nat.le_of_ble_eq_true rfl) (by decide) ?_
        clear h
        rintro r9 h9 ⟨v2, S2, rfl, rfl, h⟩
        refine ws_b rfl ?_
        refine wp_ite (fun q => ?_) (fun q => ?_)
        · replace h := h.1 q
          exact wp_weak (wk_n (wk_n (wk_n (wk_n (wk_n wk_0))))) h
        · replace h := h.2 q
          iterate 7 refine ws_b rfl ?_
          refine wp_cV rfl rfl o_X6_write v_X6_write h rfl rfl rfl (Nat.le_of_ble_eq_true rfl) (by decide) ?_
          clear h
          rintro r9 h9 ⟨v3, S3, rfl, rfl, h⟩
          exact wp_ri rfl rfl rfl ⟨_, _, rfl, rfl, h⟩
def L_X11_strike_15 (G : ab_G) (fr : Bool) (n0 : Nat) (tl : ab_H) (K : Int32 → ms_S → Prop) (S : ms_S)  : Prop := wp G 2 M_X11_strike fr n0 (poI lB tl K) 15 [none, none] [] (hLy lB S tl)
set_option maxRecDepth 100000 in
set_option maxHeartbeats 4000000 in
theorem b_X11_strike_15 {G : ab_G} {fr : Bool} {n0 : Nat} {tl : ab_H} {K : Int32 → ms_S → Prop} {S : ms_S} 
    (h : K (-(nI 1)) S) :
    L_X11_strike_15 G fr n0 tl K S  := by
  unfold L_X11_strike_15
  refine ws_b rfl ?_
  exact wp_ri rfl rfl rfl ⟨_, _, rfl, rfl, h⟩
set_option maxRecDepth 100000 in
set_option maxHeartbeats 4000000 in
theorem m_X11_strike {G : ab_G} {fr : Bool} {tl : ab_H} {K : Int32 → ms_S → Prop} {S : ms_S} {i1 : Int32}
    (h : ∀ n0 : Nat, (i1 < 0 → (L_X11_strike_15 G fr n0 tl K S )) ∧ (¬ i1 < 0 → ((i1 < (S.1 76 5) → (ctI G 1 M_X6_write fr [.ref 76, .int (nI 3), .int i1, .int (nI 0), .int (nI 0), .int (nI 1)] lB S tl (fun v1 S1 => K v1 S1))) ∧ (¬ i1 < (S.1 76 5) → (L_X11_strike_15 G fr n0 tl K S ))))) :
    ctI G 2 M_X11_strike fr [.ref 0, .int i1] lB S tl K := by
  refine wp_ct o_X11_strike (Nat.le_of_ble_eq_true rfl) ?_
  replace h := h (hLy lB S tl).length
  revert h
  generalize (hLy lB S tl).length = n0
  intro h
  iterate 2 refine ws_b rfl ?_
  refine wp_ite (fun q => ?_) (fun q => ?_)
  · replace h := h.1 q
    exact wp_weak (wk_n (wk_n wk_0)) h
  · replace h := h.2 q
    iterate 5 refine ws_b rfl ?_
    refine wp_ite (fun q => ?_) (fun q => ?_)
    · replace h := h.1 q
      iterate 7 refine ws_b rfl ?_
      refine wp_cV rfl rfl o_X6_write v_X6_write h rfl rfl rfl (Nat.le_of_ble_eq_true rfl) (by decide) ?_
      clear h
      rintro r9 h9 ⟨v1, S1, rfl, rfl, h⟩
      exact wp_ri rfl rfl rfl ⟨_, _, rfl, rfl, h⟩
    · replace h := h.2 q
      exact wp_weak (wk_n (wk_n wk_0)) h
def L_X11_known_16 (G : ab_G) (fr : Bool) (n0 : Nat) (tl : ab_H) (K : Int32 → ms_S → Prop) (S : ms_S)  : Prop := wp G 1 M_X11_known fr n0 (poI lB tl K) 16 [none, none] [] (hLy lB S tl)
set_option maxRecDepth 100000 in
set_option maxHeartbeats 4000000 in
theorem b_X11_known_16 {G : ab_G} {fr : Bool} {n0 : Nat} {tl : ab_H} {K : Int32 → ms_S → Prop} {S : ms_S} 
    (h : K (nI 0) S) :
    L_X11_known_16 G fr n0 tl K S  := by
  unfold L_X11_known_16
  refine ws_b rfl ?_
  exact wp_ri rfl rfl rfl ⟨_, _, rfl, rfl, h⟩
set_option maxRecDepth 100000 in
set_option maxHeartbeats 4000000 in
theorem m_X11_known {G : ab_G} {fr : Bool} {tl : ab_H} {K : Int32 → ms_S → Prop} {S : ms_S} {i1 : Int32}
    (h : ∀ n0 : Nat, (i1 < (-(nI 1)) → (L_X11_known_16 G fr n0 tl K S )) ∧ (¬ i1 < (-(nI 1)) → ((i1 ≤ (S.1 76 5) → (K (nI 1) (sVa S 76 6 i1))) ∧ (¬ i1 ≤ (S.1 76 5) → (L_X11_known_16 G fr n0 tl K S ))))) :
    ctI G 1 M_X11_known fr [.ref 0, .int i1] lB S tl K := by
  refine wp_ct o_X11_known (Nat.le_of_ble_eq_true rfl) ?_
  replace h := h (hLy lB S tl).length
  revert h
  generalize (hLy lB S tl).length = n0
  intro h
  iterate 3 refine ws_b rfl ?_
  refine wp_ite (fun q => ?_) (fun q => ?_)
  · replace h := h.1 q
    exact wp_weak (wk_n (wk_n wk_0)) h
  · replace h := h.2 q
    iterate 5 refine ws_b rfl ?_
    refine wp_ite (fun q => ?_) (fun q => ?_)
    · replace h := h.1 q
      iterate 5 refine ws_b rfl ?_
      exact wp_ri rfl rfl rfl ⟨_, _, rfl, rfl, h⟩
    · replace h := h.2 q
      exact wp_weak (wk_n (wk_n wk_0)) h
def L_X11_missing_9 (G : ab_G) (fr : Bool) (n0 : Nat) (tl : ab_H) (K : Int32 → ms_S → Prop) (S : ms_S)  : Prop := wp G 5 M_X11_missing fr n0 (poI lB tl K) 9 [none, none, none, none, none] [] (hLy lB S tl)
def L_X11_missing_77 (G : ab_G) (fr : Bool) (n0 : Nat) (tl : ab_H) (K : Int32 → ms_S → Prop) (S : ms_S) (t0 : Int32) : Prop := wp G 5 M_X11_missing fr n0 (poI lB tl K) 77 [none, none, none, none, none] [.int t0] (hLy lB S tl)
set_option maxRecDepth 100000 in
set_option maxHeartbeats 4000000 in
theorem b_X11_missing_9 {G : ab_G} {fr : Bool} {n0 : Nat} {tl : ab_H} {K : Int32 → ms_S → Prop} {S : ms_S} 
    (h : K (-(nI 1)) S) :
    L_X11_missing_9 G fr n0 tl K S  := by
  unfold L_X11_missing_9
  refine ws_b rfl ?_
  exact wp_ri rfl rfl rfl ⟨_, _, rfl, rfl, h⟩
set_option maxRecDepth 100000 in
set_option maxHeartbeats 4000000 in
theorem b_X11_missing_77 {G : ab_G} {fr : Bool} {n0 : Nat} {tl : ab_H} {K : Int32 → ms_S → Prop} {S : ms_S} {t0 : Int32}
    (h : K t0 S) :
    L_X11_missing_77 G fr n0 tl K S t0 := by
  unfold L_X11_missing_77
  exact wp_ri rfl rfl rfl ⟨_, _, rfl, rfl, h⟩
set_option maxRecDepth 100000 in
set_option maxHeartbeats 4000000 in
theorem m_X11_missing {G : ab_G} {fr : Bool} {tl : ab_H} {K : Int32 → ms_S → Prop} {S : ms_S} {i1 : Int32}
    (h : ∀ n0 : Nat, (i1 < 0 → (L_X11_missing_9 G fr n0 tl K S )) ∧ (¬ i1 < 0 → ((i1 ≤ (nI 1) → (ctL G 4 M_X3_joinsOn fr [.ref 67, .int (S.1 82 3)] lB S tl (fun v1 S1 => ctL G 3 M_X6_pairsLeft fr [.ref 76, .ref 4, .long v1] lB S1 tl (fun v2 S2 => (i1 = 0 → (ctI G 1 M_J13_bitCount_l fr [.long v2] lB S2 tl (fun v3 S3 => K v3 S3))) ∧ (¬ i1 = 0 → (ctI G 2 M_J13_numberOfTrailingZeros_l fr [.long v2] lB S2 tl (fun v4 S4 => ((lg_cmp v2 (lN 0)) = 0 → (L_X11_missing_77 G fr n0 tl K S4 (-(nI 2)))) ∧ (¬ (lg_cmp v2 (lN 0)) = 0 → (¬ (nI 8) = 0 ∧ (¬ (nI 8) = 0 ∧ (L_X11_missing_77 G fr n0 tl K S4 (((v4 / (nI 8)) * (nI 10)) + (v4 - v4 / (nI 8) * (nI 8)))))))))))))) ∧ (¬ i1 ≤ (nI 1) → (L_X11_missing_9 G fr n0 tl K S ))))) :
    ctI G 5 M_X11_missing fr [.ref 0, .int i1] lB S tl K := by
  refine wp_ct o_X11_missing (Nat.le_of_ble_eq_true rfl) ?_
  replace h := h (hLy lB S tl).length
  revert h
  generalize (hLy lB S tl).length = n0
  intro h
  iterate 2 refine ws_b rfl ?_
  refine wp_ite (fun q => ?_) (fun q => ?_)
  · replace h := h.1 q
    exact wp_weak (wk_n (wk_n (wk_s (wk_s (wk_s wk_0))))) h
  · replace h := h.2 q
    iterate 3 refine ws_b rfl ?_
    refine wp_ite (fun q => ?_) (fun q => ?_)
    · replace h := h.1 q
      iterate 9 refine ws_b rfl ?_
      refine wp_cV rfl rfl o_X3_joinsOn v_X3_joinsOn h rfl rfl rfl (Nat.le_of_ble_eq_true rfl) (by decide) ?_
      clear h
      rintro r9 h9 ⟨v1, S1, rfl, rfl, h⟩
      refine wp_cV rfl rfl o_X6_pairsLeft v_X6_pairsLeft h rfl rfl rfl (Nat.le_of_ble_eq_true rfl) (by decide) ?_
      clear h
      rintro r9 h9 ⟨v2, S2, rfl, rfl, h⟩
      iterate 3 refine ws_b rfl ?_
      refine wp_ite (fun q => ?_) (fun q => ?_)
      · replace h := h.1 q
        refine ws_b rfl ?_
        refine wp_cS rfl rfl o_J13_bitCount_l s_J13_bitCount_l h rfl rfl (Nat.le_of_ble_eq_true rfl) (by decide) ?_
        clear h
        rintro r9 h9 ⟨v3, S3, rfl, rfl, h⟩
        exact wp_ri rfl rfl rfl ⟨_, _, rfl, rfl, h⟩
      · replace h := h.2 q
        refine ws_b rfl ?_
        refine wp_cS rfl rfl o_J13_numberOfTrailingZeros_l s_J13_numberOfTrailingZeros_l h rfl rfl (Nat.le_of_ble_eq_true rfl) (by decide) ?_
        clear h
        rintro r9 h9 ⟨v4, S4, rfl, rfl, h⟩
        iterate 5 refine ws_b rfl ?_
        refine wp_ite (fun q => ?_) (fun q => ?_)
        · replace h := h.1 q
          iterate 2 refine ws_b rfl ?_
          exact wp_weak (wk_n (wk_n (wk_n (wk_s (wk_n wk_0))))) h
        · replace h := h.2 q
          iterate 2 refine ws_b rfl ?_
          refine ws_g rfl h.1 ?_
          replace h := h.2
          iterate 4 refine ws_b rfl ?_
          refine ws_g rfl h.1 ?_
          replace h := h.2
          refine ws_b rfl ?_
          exact wp_weak (wk_n (wk_n (wk_n (wk_s (wk_n wk_0))))) h
    · replace h := h.2 q
      exact wp_weak (wk_n (wk_n (wk_s (wk_s (wk_s wk_0))))) h
def L_X11_ask_9 (G : ab_G) (fr : Bool) (n0 : Nat) (tl : ab_H) (K : Int32 → ms_S → Prop) (S : ms_S)  : Prop := wp G 5 M_X11_ask fr n0 (poI lB tl K) 9 [none, none, none, none, none, none, none, none, none] [] (hLy lB S tl)
def L_X11_ask_47 (G : ab_G) (fr : Bool) (n0 : Nat) (tl : ab_H) (K : Int32 → ms_S → Prop) (S : ms_S) (i1 : Int32) (l2 : Int64) (i4 : Int32) (i5 : Int32) (i6 : Int32) : Prop := wp G 5 M_X11_ask fr n0 (poI lB tl K) 47 [none, some (.int i1), some (.long l2), none, some (.int i4), some (.int i5), some (.int i6), none, none] [] (hLy lB S tl)
def L_X11_ask_95 (G : ab_G) (fr : Bool) (n0 : Nat) (tl : ab_H) (K : Int32 → ms_S → Prop) (S : ms_S) (i1 : Int32) (l2 : Int64) (i4 : Int32) (i5 : Int32) (i6 : Int32) : Prop := wp G 5 M_X11_ask fr n0 (poI lB tl K) 95 [none, some (.int i1), some (.long l2), none, some (.int i4), some (.int i5), some (.int i6), none, none] [] (hLy lB S tl)
def L_X11_ask_112 (G : ab_G) (fr : Bool) (n0 : Nat) (tl : ab_H) (K : Int32 → ms_S → Prop) (S : ms_S) (t0 : Int32) : Prop := wp G 5 M_X11_ask fr n0 (poI lB tl K) 112 [none, none, none, none, none, none, none, none, none] [.int t0] (hLy lB S tl)
set_option maxRecDepth 100000 in
set_option maxHeartbeats 4000000 in
theorem b_X11_ask_9 {G : ab_G} {fr : Bool} {n0 : Nat} {tl : ab_H} {K : Int32 → ms_S → Prop} {S : ms_S} 
    (h : K (-(nI 1)) S) :
    L_X11_ask_9 G fr n0 tl K S  := by
  unfold L_X11_ask_9
  refine ws_b rfl ?_
  exact wp_ri rfl rfl rfl ⟨_, _, rfl, rfl, h⟩
set_option maxRecDepth 100000 in
set_option maxHeartbeats 4000000 in
theorem b_X11_ask_47 {G : ab_G} {fr : Bool} {n0 : Nat} {tl : ab_H} {K : Int32 → ms_S → Prop} {S : ms_S} {i1 : Int32} {l2 : Int64} {i4 : Int32} {i5 : Int32} {i6 : Int32}
    (h : ((nI 7) ≤ i6 → ((i1 = 0 → (L_X11_ask_112 G fr n0 tl K S i4)) ∧ (¬ i1 = 0 → (L_X11_ask_112 G fr n0 tl K S i5)))) ∧ (¬ (nI 7) ≤ i6 → (ctL G 2 M_X11_pairsWith fr [.int i6] lB S tl (fun v1 S1 => ctI G 1 M_J13_bitCount_l fr [.long (l2 &&& v1)] lB S1 tl (fun v2 S2 => ctI G 1 M_J13_bitCount_l fr [.long l2] lB S2 tl (fun v3 S3 => (i5 ≤ (if v2 < (v3 - v2) then (v3 - v2) else v2) → (L_X11_ask_95 G fr n0 tl K S3 i1 l2 i4 i5 i6)) ∧ (¬ i5 ≤ (if v2 < (v3 - v2) then (v3 - v2) else v2) → (L_X11_ask_95 G fr n0 tl K S3 i1 l2 i6 (if v2 < (v3 - v2) then (v3 - v2) else v2) i6)))))))) :
    L_X11_ask_47 G fr n0 tl K S i1 l2 i4 i5 i6 := by
  unfold L_X11_ask_47
  iterate 3 refine ws_b rfl ?_
  refine wp_ite (fun q => ?_) (fun q => ?_)
  · replace h := h.1 q
    iterate 2 refine ws_b rfl ?_
    refine wp_ite (fun q => ?_) (fun q => ?_)
    · replace h := h.1 q
      iterate 2 refine ws_b rfl ?_
      exact wp_weak (wk_s (wk_n (wk_n (wk_s (wk_n (wk_n (wk_n (wk_s (wk_s wk_0))))))))) h
    · replace h := h.2 q
      refine ws_b rfl ?_
      exact wp_weak (wk_s (wk_n (wk_n (wk_s (wk_n (wk_n (wk_n (wk_s (wk_s wk_0))))))))) h
  · replace h := h.2 q
    iterate 2 refine ws_b rfl ?_
    refine wp_cS rfl rfl o_X11_pairsWith s_X11_pairsWith h rfl rfl (Nat.le_of_ble_eq_true rfl) (by decide) ?_
    clear h
    rintro r9 h9 ⟨v1, S1, rfl, rfl, h⟩
    refine ws_b rfl ?_
    refine wp_cS rfl rfl o_J13_bitCount_l s_J13_bitCount_l h rfl rfl (Nat.le_of_ble_eq_true rfl) (by decide) ?_
    clear h
    rintro r9 h9 ⟨v2, S2, rfl, rfl, h⟩
    iterate 3 refine ws_b rfl ?_
    refine wp_cS rfl rfl o_J13_bitCount_l s_J13_bitCount_l h rfl rfl (Nat.le_of_ble_eq_true rfl) (by decide) ?_
    clear h
    rintro r9 h9 ⟨v3, S3, rfl, rfl, h⟩
    iterate 2 refine ws_b rfl ?_
    refine wp_max rfl rfl (Nat.le_of_ble_eq_true rfl) (by decide) ?_
    iterate 4 refine ws_b rfl ?_
    refine wp_ite (fun q => ?_) (fun q => ?_)
    · replace h := h.1 q
      exact wp_weak (wk_s (wk_s (wk_s (wk_s (wk_s (wk_s (wk_s (wk_n (wk_n wk_0))))))))) h
    · replace h := h.2 q
      iterate 4 refine ws_b rfl ?_
      exact wp_weak (wk_s (wk_s (wk_s (wk_s (wk_s (wk_s (wk_s (wk_n (wk_n wk_0))))))))) h
set_option maxRecDepth 100000 in
set_option maxHeartbeats 4000000 in
theorem b_X11_ask_95 {G : ab_G} {fr : Bool} {n0 : Nat} {tl : ab_H} {K : Int32 → ms_S → Prop} {S : ms_S} {i1 : Int32} {l2 : Int64} {i4 : Int32} {i5 : Int32} {i6 : Int32}
    (h : L_X11_ask_47 G fr n0 tl K S i1 l2 i4 i5 (i6 + nI 1)) :
    L_X11_ask_95 G fr n0 tl K S i1 l2 i4 i5 i6 := by
  unfold L_X11_ask_95
  iterate 2 refine ws_b rfl ?_
  exact wp_weak (wk_s (wk_s (wk_s (wk_s (wk_s (wk_s (wk_s (wk_s (wk_s wk_0))))))))) h
set_option maxRecDepth 100000 in
set_option maxHeartbeats 4000000 in
theorem b_X11_ask_112 {G : ab_G} {fr : Bool} {n0 : Nat} {tl : ab_H} {K : Int32 → ms_S → Prop} {S : ms_S} {t0 : Int32}
    (h : K t0 S) :
    L_X11_ask_112 G fr n0 tl K S t0 := by
  unfold L_X11_ask_112
  exact wp_ri rfl rfl rfl ⟨_, _, rfl, rfl, h⟩
set_option maxRecDepth 100000 in
set_option maxHeartbeats 4000000 in
theorem m_X11_ask {G : ab_G} {fr : Bool} {tl : ab_H} {K : Int32 → ms_S → Prop} {S : ms_S} {i1 : Int32}
    (h : ∀ n0 : Nat, (i1 < 0 → (L_X11_ask_9 G fr n0 tl K S )) ∧ (¬ i1 < 0 → ((i1 ≤ (nI 1) → (ctL G 4 M_X3_joinsOn fr [.ref 67, .int (S.1 82 3)] lB S tl (fun v1 S1 => ctL G 3 M_X6_pairsLeft fr [.ref 76, .ref 4, .long v1] lB S1 tl (fun v2 S2 => L_X11_ask_47 G fr n0 tl K S2 i1 v2 (nI 0) (nI 64) (nI 0))))) ∧ (¬ i1 ≤ (nI 1) → (L_X11_ask_9 G fr n0 tl K S ))))) :
    ctI G 5 M_X11_ask fr [.ref 0, .int i1] lB S tl K := by
  refine wp_ct o_X11_ask (Nat.le_of_ble_eq_true rfl) ?_
  replace h := h (hLy lB S tl).length
  revert h
  generalize (hLy lB S tl).length = n0
  intro h
  iterate 2 refine ws_b rfl ?_
  refine wp_ite (fun q => ?_) (fun q => ?_)
  · replace h := h.1 q
    exact wp_weak (wk_n (wk_n (wk_s (wk_s (wk_s (wk_s (wk_s (wk_s (wk_s wk_0))))))))) h
  · replace h := h.2 q
    iterate 3 refine ws_b rfl ?_
    refine wp_ite (fun q => ?_) (fun q => ?_)
    · replace h := h.1 q
      iterate 9 refine ws_b rfl ?_
      refine wp_cV rfl rfl o_X3_joinsOn v_X3_joinsOn h rfl rfl rfl (Nat.le_of_ble_eq_true rfl) (by decide) ?_
      clear h
      rintro r9 h9 ⟨v1, S1, rfl, rfl, h⟩
      refine wp_cV rfl rfl o_X6_pairsLeft v_X6_pairsLeft h rfl rfl rfl (Nat.le_of_ble_eq_true rfl) (by decide) ?_
      clear h
      rintro r9 h9 ⟨v2, S2, rfl, rfl, h⟩
      iterate 7 refine ws_b rfl ?_
      exact wp_weak (wk_n (wk_s (wk_s (wk_s (wk_s (wk_s (wk_s (wk_s (wk_s wk_0))))))))) h
    · replace h := h.2 q
      exact wp_weak (wk_n (wk_n (wk_s (wk_s (wk_s (wk_s (wk_s (wk_s (wk_s wk_0))))))))) h
def L_X11_needs_29 (G : ab_G) (fr : Bool) (n0 : Nat) (tl : ab_H) (K : Int32 → ms_S → Prop) (S : ms_S) (i1 : Int32) (i2 : Int32) (i3 : Int32) (i4 : Int32) : Prop := wp G 8 M_X11_needs fr n0 (poI lB tl K) 29 [some (.ref 0), some (.int i1), some (.int i2), some (.int i3), some (.int i4), none, none] [] (hLy lB S tl)
def L_X11_needs_62 (G : ab_G) (fr : Bool) (n0 : Nat) (tl : ab_H) (K : Int32 → ms_S → Prop) (S : ms_S) (i1 : Int32) (i2 : Int32) (i3 : Int32) (i4 : Int32) (i5 : Int32) (i6 : Int32) : Prop := wp G 8 M_X11_needs fr n0 (poI lB tl K) 62 [some (.ref 0), some (.int i1), some (.int i2), some (.int i3), some (.int i4), some (.int i5), some (.int i6)] [] (hLy lB S tl)
def L_X11_needs_107 (G : ab_G) (fr : Bool) (n0 : Nat) (tl : ab_H) (K : Int32 → ms_S → Prop) (S : ms_S) (i1 : Int32) (i2 : Int32) (i3 : Int32) (i4 : Int32) (i5 : Int32) : Prop := wp G 8 M_X11_needs fr n0 (poI lB tl K) 107 [some (.ref 0), some (.int i1), some (.int i2), some (.int i3), some (.int i4), some (.int i5), none] [] (hLy lB S tl)
def L_X11_needs_121 (G : ab_G) (fr : Bool) (n0 : Nat) (tl : ab_H) (K : Int32 → ms_S → Prop) (S : ms_S) (i1 : Int32) (i2 : Int32) (i3 : Int32) (i4 : Int32) : Prop := wp G 8 M_X11_needs fr n0 (poI lB tl K) 121 [some (.ref 0), some (.int i1), some (.int i2), some (.int i3), some (.int i4), none, none] [] (hLy lB S tl)
set_option maxRecDepth 100000 in
set_option maxHeartbeats 4000000 in
theorem b_X11_needs_29 {G : ab_G} {fr : Bool} {n0 : Nat} {tl : ab_H} {K : Int32 → ms_S → Prop} {S : ms_S} {i1 : Int32} {i2 : Int32} {i3 : Int32} {i4 : Int32}
    (h : ((nI 9) < i4 → (ctU G 2 M_X0_asTold fr [.ref 72] lB S tl (fun S1 => K i3 S1))) ∧ (¬ (nI 9) < i4 → (ctU G 2 M_X1_begin fr [.ref 86, .ref 4] lB (sVa S 72 5 i4) tl (fun S2 => L_X11_needs_62 G fr n0 tl K S2 i1 i2 i3 i4 (nI 1) (nI 1))))) :
    L_X11_needs_29 G fr n0 tl K S i1 i2 i3 i4 := by
  unfold L_X11_needs_29
  iterate 3 refine ws_b rfl ?_
  refine wp_ite (fun q => ?_) (fun q => ?_)
  · replace h := h.1 q
    iterate 2 refine ws_b rfl ?_
    refine wp_cV rfl rfl o_X0_asTold v_X0_asTold h rfl rfl rfl (Nat.le_of_ble_eq_true rfl) (by decide) ?_
    clear h
    rintro r9 h9 ⟨S1, rfl, rfl, h⟩
    refine ws_b rfl ?_
    exact wp_ri rfl rfl rfl ⟨_, _, rfl, rfl, h⟩
  · replace h := h.2 q
    iterate 8 refine ws_b rfl ?_
    refine wp_cV rfl rfl o_X1_begin v_X1_begin h rfl rfl rfl (Nat.le_of_ble_eq_true rfl) (by decide) ?_
    clear h
    rintro r9 h9 ⟨S2, rfl, rfl, h⟩
    iterate 4 refine ws_b rfl ?_
    exact wp_weak (wk_s (wk_s (wk_s (wk_s (wk_s (wk_s (wk_s wk_0))))))) h
set_option maxRecDepth 100000 in
set_option maxHeartbeats 4000000 in
theorem b_X11_needs_62 {G : ab_G} {fr : Bool} {n0 : Nat} {tl : ab_H} {K : Int32 → ms_S → Prop} {S : ms_S} {i1 : Int32} {i2 : Int32} {i3 : Int32} {i4 : Int32} {i5 : Int32} {i6 : Int32}
    (h : (i2 < i6 → (L_X11_needs_107 G fr n0 tl K S i1 i2 i3 i4 i5)) ∧ (¬ i2 < i6 → ((i5 = 0 → (L_X11_needs_107 G fr n0 tl K S i1 i2 i3 i4 i5)) ∧ (¬ i5 = 0 → (ctU G 7 M_X0_goOn fr [.ref 72, .ref 86, .int (nI 1)] lB S tl (fun S1 => ctI G 1 M_X6_sightsAgree fr [.ref 76, .int i1, .int i6, .ref 86] lB S1 tl (fun v2 S2 => L_X11_needs_62 G fr n0 tl K S2 i1 i2 i3 i4 v2 (i6 + nI 1)))))))) :
    L_X11_needs_62 G fr n0 tl K S i1 i2 i3 i4 i5 i6 := by
  unfold L_X11_needs_62
  iterate 3 refine ws_b rfl ?_
  refine wp_ite (fun q => ?_) (fun q => ?_)
  · replace h := h.1 q
    exact wp_weak (wk_s (wk_s (wk_s (wk_s (wk_s (wk_s (wk_n wk_0))))))) h
  · replace h := h.2 q
    iterate 2 refine ws_b rfl ?_
    refine wp_ite (fun q => ?_) (fun q => ?_)
    · replace h := h.1 q
      exact wp_weak (wk_s (wk_s (wk_s (wk_s (wk_s (wk_s (wk_n wk_0))))))) h
    · replace h := h.2 q
      iterate 5 refine ws_b rfl ?_
      refine wp_cV rfl rfl o_X0_goOn v_X0_goOn h rfl rfl rfl (Nat.le_of_ble_eq_true rfl) (by decide) ?_
      clear h
      rintro r9 h9 ⟨S1, rfl, rfl, h⟩
      iterate 6 refine ws_b rfl ?_
      refine wp_cV rfl rfl o_X6_sightsAgree v_X6_sightsAgree h rfl rfl rfl (Nat.le_of_ble_eq_true rfl) (by decide) ?_
      clear h
      rintro r9 h9 ⟨v2, S2, rfl, rfl, h⟩
      iterate 3 refine ws_b rfl ?_
      exact wp_weak (wk_s (wk_s (wk_s (wk_s (wk_s (wk_s (wk_s wk_0))))))) h
set_option maxRecDepth 100000 in
set_option maxHeartbeats 4000000 in
theorem b_X11_needs_107 {G : ab_G} {fr : Bool} {n0 : Nat} {tl : ab_H} {K : Int32 → ms_S → Prop} {S : ms_S} {i1 : Int32} {i2 : Int32} {i3 : Int32} {i4 : Int32} {i5 : Int32}
    (h : (i5 = 0 → (L_X11_needs_121 G fr n0 tl K S i1 i2 i3 i4)) ∧ (¬ i5 = 0 → (L_X11_needs_121 G fr n0 tl K S i1 i2 (i3 ||| ((nI 1) <<< ((i4 - (nI 1)) &&& 31))) i4))) :
    L_X11_needs_107 G fr n0 tl K S i1 i2 i3 i4 i5 := by
  unfold L_X11_needs_107
  iterate 2 refine ws_b rfl ?_
  refine wp_ite (fun q => ?_) (fun q => ?_)
  · replace h := h.1 q
    exact wp_weak (wk_s (wk_s (wk_s (wk_s (wk_s (wk_n (wk_s wk_0))))))) h
  · replace h := h.2 q
    iterate 8 refine ws_b rfl ?_
    exact wp_weak (wk_s (wk_s (wk_s (wk_s (wk_s (wk_n (wk_s wk_0))))))) h
set_option maxRecDepth 100000 in
set_option maxHeartbeats 4000000 in
theorem b_X11_needs_121 {G : ab_G} {fr : Bool} {n0 : Nat} {tl : ab_H} {K : Int32 → ms_S → Prop} {S : ms_S} {i1 : Int32} {i2 : Int32} {i3 : Int32} {i4 : Int32}
    (h : L_X11_needs_29 G fr n0 tl K S i1 i2 i3 (i4 + nI 1)) :
    L_X11_needs_121 G fr n0 tl K S i1 i2 i3 i4 := by
  unfold L_X11_needs_121
  iterate 2 refine ws_b rfl ?_
  exact wp_weak (wk_s (wk_s (wk_s (wk_s (wk_s (wk_s (wk_s wk_0))))))) h
set_option maxRecDepth 100000 in
set_option maxHeartbeats 4000000 in
theorem m_X11_needs {G : ab_G} {fr : Bool} {tl : ab_H} {K : Int32 → ms_S → Prop} {S : ms_S} 
    (h : ∀ n0 : Nat, ctI G 2 M_X6_standing fr [.ref 76] lB S tl (fun v1 S1 => ctI G 2 M_X6_lastSight fr [.ref 76, .int v1] lB S1 tl (fun v2 S2 => ctU G 2 M_X0_asTold fr [.ref 72] lB S2 tl (fun S3 => L_X11_needs_29 G fr n0 tl K S3 v1 v2 (nI 0) (nI 1))))) :
    ctI G 8 M_X11_needs fr [.ref 0] lB S tl K := by
  refine wp_ct o_X11_needs (Nat.le_of_ble_eq_true rfl) ?_
  replace h := h (hLy lB S tl).length
  revert h
  generalize (hLy lB S tl).length = n0
  intro h
  iterate 2 refine ws_b rfl ?_
  refine wp_cV rfl rfl o_X6_standing v_X6_standing h rfl rfl rfl (Nat.le_of_ble_eq_true rfl) (by decide) ?_
  clear h
  rintro r9 h9 ⟨v1, S1, rfl, rfl, h⟩
  iterate 4 refine ws_b rfl ?_
  refine wp_cV rfl rfl o_X6_lastSight v_X6_lastSight h rfl rfl rfl (Nat.le_of_ble_eq_true rfl) (by decide) ?_
  clear h
  rintro r9 h9 ⟨v2, S2, rfl, rfl, h⟩
  iterate 5 refine ws_b rfl ?_
  refine wp_cV rfl rfl o_X0_asTold v_X0_asTold h rfl rfl rfl (Nat.le_of_ble_eq_true rfl) (by decide) ?_
  clear h
  rintro r9 h9 ⟨S3, rfl, rfl, h⟩
  iterate 2 refine ws_b rfl ?_
  exact wp_weak (wk_s (wk_s (wk_s (wk_s (wk_s (wk_s (wk_s wk_0))))))) h
def L_X11_chance_31 (G : ab_G) (fr : Bool) (n0 : Nat) (tl : ab_H) (K : Int32 → ms_S → Prop) (S : ms_S)  : Prop := wp G 8 M_X11_chance fr n0 (poI lB tl K) 31 [none, none, none, none, none, none, none, none] [] (hLy lB S tl)
def L_X11_chance_57 (G : ab_G) (fr : Bool) (n0 : Nat) (tl : ab_H) (K : Int32 → ms_S → Prop) (S : ms_S) (i2 : Int32) (i3 : Int32) (i4 : Int32) (i5 : Int32) (i6 : Int32) (i7 : Int32) : Prop := wp G 8 M_X11_chance fr n0 (poI lB tl K) 57 [some (.ref 0), none, some (.int i2), some (.int i3), some (.int i4), some (.int i5), some (.int i6), some (.int i7)] [] (hLy lB S tl)
def L_X11_chance_122 (G : ab_G) (fr : Bool) (n0 : Nat) (tl : ab_H) (K : Int32 → ms_S → Prop) (S : ms_S) (i2 : Int32) (i3 : Int32) (i4 : Int32) (i5 : Int32) (i6 : Int32) (i7 : Int32) : Prop := wp G 8 M_X11_chance fr n0 (poI lB tl K) 122 [some (.ref 0), none, some (.int i2), some (.int i3), some (.int i4), some (.int i5), some (.int i6), some (.int i7)] [] (hLy lB S tl)
set_option maxRecDepth 100000 in
set_option maxHeartbeats 4000000 in
theorem b_X11_chance_31 {G : ab_G} {fr : Bool} {n0 : Nat} {tl : ab_H} {K : Int32 → ms_S → Prop} {S : ms_S} 
    (h : K (-(nI 1)) S) :
    L_X11_chance_31 G fr n0 tl K S  := by
  unfold L_X11_chance_31
  refine ws_b rfl ?_
  exact wp_ri rfl rfl rfl ⟨_, _, rfl, rfl, h⟩
set_option maxRecDepth 100000 in
set_option maxHeartbeats 4000000 in
theorem b_X11_chance_57 {G : ab_G} {fr : Bool} {n0 : Nat} {tl : ab_H} {K : Int32 → ms_S → Prop} {S : ms_S} {i2 : Int32} {i3 : Int32} {i4 : Int32} {i5 : Int32} {i6 : Int32} {i7 : Int32}
    (h : ((nI 10) ≤ i7 → (ctU G 2 M_X0_asTold fr [.ref 72] lB S tl (fun S1 => K i6 S1))) ∧ (¬ (nI 10) ≤ i7 → (ctU G 1 M_X1_copyFrom fr [.ref 86, .ref 82] lB S tl (fun S2 => ctU G 7 M_X0_goOn fr [.ref 72, .ref 86, .int i2] lB (sVa S2 86 7 i5) tl (fun S3 => vp_in i3 5 ∧ (((S3.2.2.2.1 88 i3.toNatClampNeg) < i4 → (L_X11_chance_122 G fr n0 tl K S3 i2 i3 i4 (S3.1 86 7) i6 i7)) ∧ (¬ (S3.2.2.2.1 88 i3.toNatClampNeg) < i4 → (L_X11_chance_122 G fr n0 tl K S3 i2 i3 i4 (S3.1 86 7) (i6 + nI 1) i7)))))))) :
    L_X11_chance_57 G fr n0 tl K S i2 i3 i4 i5 i6 i7 := by
  unfold L_X11_chance_57
  iterate 3 refine ws_b rfl ?_
  refine wp_ite (fun q => ?_) (fun q => ?_)
  · replace h := h.1 q
    iterate 2 refine ws_b rfl ?_
    refine wp_cV rfl rfl o_X0_asTold v_X0_asTold h rfl rfl rfl (Nat.le_of_ble_eq_true rfl) (by decide) ?_
    clear h
    rintro r9 h9 ⟨S1, rfl, rfl, h⟩
    refine ws_b rfl ?_
    exact wp_ri rfl rfl rfl ⟨_, _, rfl, rfl, h⟩
  · replace h := h.2 q
    iterate 4 refine ws_b rfl ?_
    refine wp_cV rfl rfl o_X1_copyFrom v_X1_copyFrom h rfl rfl rfl (Nat.le_of_ble_eq_true rfl) (by decide) ?_
    clear h
    rintro r9 h9 ⟨S2, rfl, rfl, h⟩
    iterate 9 refine ws_b rfl ?_
    refine wp_cV rfl rfl o_X0_goOn v_X0_goOn h rfl rfl rfl (Nat.le_of_ble_eq_true rfl) (by decide) ?_
    clear h
    rintro r9 h9 ⟨S3, rfl, rfl, h⟩
    iterate 8 refine ws_b rfl ?_
    refine ws_g rfl h.1 ?_
    replace h := h.2
    iterate 2 refine ws_b rfl ?_
    refine wp_ite (fun q => ?_) (fun q => ?_)
    · replace h := h.1 q
      exact wp_weak (wk_s (wk_s (wk_s (wk_s (wk_s (wk_s (wk_s (wk_s wk_0)))))))) h
    · replace h := h.2 q
      refine ws_b rfl ?_
      exact wp_weak (wk_s (wk_s (wk_s (wk_s (wk_s (wk_s (wk_s (wk_s wk_0)))))))) h
set_option maxRecDepth 100000 in
set_option maxHeartbeats 4000000 in
theorem b_X11_chance_122 {G : ab_G} {fr : Bool} {n0 : Nat} {tl : ab_H} {K : Int32 → ms_S → Prop} {S : ms_S} {i2 : Int32} {i3 : Int32} {i4 : Int32} {i5 : Int32} {i6 : Int32} {i7 : Int32}
    (h : L_X11_chance_57 G fr n0 tl K S i2 i3 i4 i5 i6 (i7 + nI 1)) :
    L_X11_chance_122 G fr n0 tl K S i2 i3 i4 i5 i6 i7 := by
  unfold L_X11_chance_122
  iterate 2 refine ws_b rfl ?_
  exact wp_weak (wk_s (wk_s (wk_s (wk_s (wk_s (wk_s (wk_s (wk_s wk_0)))))))) h
set_option maxRecDepth 100000 in
set_option maxHeartbeats 4000000 in
theorem m_X11_chance {G : ab_G} {fr : Bool} {tl : ab_H} {K : Int32 → ms_S → Prop} {S : ms_S} {i1 : Int32} {i2 : Int32} {i3 : Int32} {i4 : Int32}
    (h : ∀ n0 : Nat, (i1 < 0 → (L_X11_chance_31 G fr n0 tl K S )) ∧ (¬ i1 < 0 → ((i2 < (nI 1) → (L_X11_chance_31 G fr n0 tl K S )) ∧ (¬ i2 < (nI 1) → (((nI 99) < i2 → (L_X11_chance_31 G fr n0 tl K S )) ∧ (¬ (nI 99) < i2 → (ctI G 1 M_X11_isHeir fr [.ref 0, .int i3] lB S tl (fun v1 S1 => (v1 = 0 → (L_X11_chance_31 G fr n0 tl K S1 )) ∧ (¬ v1 = 0 → (ctI G 1 M_X11_isGold fr [.int i4] lB S1 tl (fun v2 S2 => (v2 = 0 → (L_X11_chance_31 G fr n0 tl K S2 )) ∧ (¬ v2 = 0 → (ctU G 2 M_X0_asTold fr [.ref 72] lB S2 tl (fun S3 => L_X11_chance_57 G fr n0 tl K (sVa S3 72 2 (nI 1)) i2 i3 i4 i1 (nI 0) (nI 0))))))))))))))) :
    ctI G 8 M_X11_chance fr [.ref 0, .int i1, .int i2, .int i3, .int i4] lB S tl K := by
  refine wp_ct o_X11_chance (Nat.le_of_ble_eq_true rfl) ?_
  replace h := h (hLy lB S tl).length
  revert h
  generalize (hLy lB S tl).length = n0
  intro h
  iterate 2 refine ws_b rfl ?_
  refine wp_ite (fun q => ?_) (fun q => ?_)
  · replace h := h.1 q
    exact wp_weak (wk_n (wk_n (wk_n (wk_n (wk_n (wk_s (wk_s (wk_s wk_0)))))))) h
  · replace h := h.2 q
    iterate 3 refine ws_b rfl ?_
    refine wp_ite (fun q => ?_) (fun q => ?_)
    · replace h := h.1 q
      exact wp_weak (wk_n (wk_n (wk_n (wk_n (wk_n (wk_s (wk_s (wk_s wk_0)))))))) h
    · replace h := h.2 q
      iterate 3 refine ws_b rfl ?_
      refine wp_ite (fun q => ?_) (fun q => ?_)
      · replace h := h.1 q
        exact wp_weak (wk_n (wk_n (wk_n (wk_n (wk_n (wk_s (wk_s (wk_s wk_0)))))))) h
      · replace h := h.2 q
        iterate 2 refine ws_b rfl ?_
        refine wp_cV rfl rfl o_X11_isHeir v_X11_isHeir h rfl rfl rfl (Nat.le_of_ble_eq_true rfl) (by decide) ?_
        clear h
        rintro r9 h9 ⟨v1, S1, rfl, rfl, h⟩
        refine ws_b rfl ?_
        refine wp_ite (fun q => ?_) (fun q => ?_)
        · replace h := h.1 q
          exact wp_weak (wk_n (wk_n (wk_n (wk_n (wk_n (wk_s (wk_s (wk_s wk_0)))))))) h
        · replace h := h.2 q
          refine ws_b rfl ?_
          refine wp_cS rfl rfl o_X11_isGold s_X11_isGold h rfl rfl (Nat.le_of_ble_eq_true rfl) (by decide) ?_
          clear h
          rintro r9 h9 ⟨v2, S2, rfl, rfl, h⟩
          refine ws_b rfl ?_
          refine wp_ite (fun q => ?_) (fun q => ?_)
          · replace h := h.1 q
            exact wp_weak (wk_n (wk_n (wk_n (wk_n (wk_n (wk_s (wk_s (wk_s wk_0)))))))) h
          · replace h := h.2 q
            iterate 2 refine ws_b rfl ?_
            refine wp_cV rfl rfl o_X0_asTold v_X0_asTold h rfl rfl rfl (Nat.le_of_ble_eq_true rfl) (by decide) ?_
            clear h
            rintro r9 h9 ⟨S3, rfl, rfl, h⟩
            iterate 3 refine ws_b rfl ?_
            refine ws_g rfl (Or.inr rfl) ?_
            iterate 6 refine ws_b rfl ?_
            exact wp_weak (wk_s (wk_n (wk_s (wk_s (wk_s (wk_s (wk_s (wk_s wk_0)))))))) h
def L_X11_tried_36 (G : ab_G) (fr : Bool) (n0 : Nat) (tl : ab_H) (K : Int32 → ms_S → Prop) (S : ms_S)  : Prop := wp G 8 M_X11_tried fr n0 (poI lB tl K) 36 [none, none, none, none] [] (hLy lB S tl)
def L_X11_tried_38 (G : ab_G) (fr : Bool) (n0 : Nat) (tl : ab_H) (K : Int32 → ms_S → Prop) (S : ms_S) (i1 : Int32) (i2 : Int32) (i3 : Int32) : Prop := wp G 8 M_X11_tried fr n0 (poI lB tl K) 38 [some (.ref 0), some (.int i1), some (.int i2), some (.int i3)] [] (hLy lB S tl)
def L_X11_tried_58 (G : ab_G) (fr : Bool) (n0 : Nat) (tl : ab_H) (K : Int32 → ms_S → Prop) (S : ms_S) (i1 : Int32) (i2 : Int32) (i3 : Int32) (t0 : Int32) : Prop := wp G 8 M_X11_tried fr n0 (poI lB tl K) 58 [some (.ref 0), some (.int i1), some (.int i2), some (.int i3)] [.int t0, .ref 72] (hLy lB S tl)
def L_X11_tried_75 (G : ab_G) (fr : Bool) (n0 : Nat) (tl : ab_H) (K : Int32 → ms_S → Prop) (S : ms_S) (i1 : Int32) (i2 : Int32) (i3 : Int32) (t0 : Int32) : Prop := wp G 8 M_X11_tried fr n0 (poI lB tl K) 75 [some (.ref 0), some (.int i1), some (.int i2), some (.int i3)] [.int t0, .ref 67] (hLy lB S tl)
def L_X11_tried_92 (G : ab_G) (fr : Bool) (n0 : Nat) (tl : ab_H) (K : Int32 → ms_S → Prop) (S : ms_S) (i1 : Int32) (i3 : Int32) (t0 : Int32) : Prop := wp G 8 M_X11_tried fr n0 (poI lB tl K) 92 [some (.ref 0), some (.int i1), none, some (.int i3)] [.int t0, .ref 72] (hLy lB S tl)
def L_X11_tried_115 (G : ab_G) (fr : Bool) (n0 : Nat) (tl : ab_H) (K : Int32 → ms_S → Prop) (S : ms_S) (i1 : Int32) (i3 : Int32) (t0 : Int32) : Prop := wp G 8 M_X11_tried fr n0 (poI lB tl K) 115 [some (.ref 0), some (.int i1), none, some (.int i3)] [.int t0, .ref 72] (hLy lB S tl)
def L_X11_tried_132 (G : ab_G) (fr : Bool) (n0 : Nat) (tl : ab_H) (K : Int32 → ms_S → Prop) (S : ms_S) (i3 : Int32) (t0 : Int32) : Prop := wp G 8 M_X11_tried fr n0 (poI lB tl K) 132 [some (.ref 0), none, none, some (.int i3)] [.int t0, .ref 67] (hLy lB S tl)
set_option maxRecDepth 100000 in
set_option maxHeartbeats 4000000 in
theorem b_X11_tried_36 {G : ab_G} {fr : Bool} {n0 : Nat} {tl : ab_H} {K : Int32 → ms_S → Prop} {S : ms_S} 
    (h : K (-(nI 1)) S) :
    L_X11_tried_36 G fr n0 tl K S  := by
  unfold L_X11_tried_36
  refine ws_b rfl ?_
  exact wp_ri rfl rfl rfl ⟨_, _, rfl, rfl, h⟩
set_option maxRecDepth 100000 in
set_option maxHeartbeats 4000000 in
theorem b_X11_tried_38 {G : ab_G} {fr : Bool} {n0 : Nat} {tl : ab_H} {K : Int32 → ms_S → Prop} {S : ms_S} {i1 : Int32} {i2 : Int32} {i3 : Int32}
    (h : ctU G 2 M_X0_asTold fr [.ref 72] lB S tl (fun S1 => (i1 = 0 → (L_X11_tried_58 G fr n0 tl K S1 i1 i2 i3 (nI 1))) ∧ (¬ i1 = 0 → (L_X11_tried_58 G fr n0 tl K S1 i1 i2 i3 (nI 0))))) :
    L_X11_tried_38 G fr n0 tl K S i1 i2 i3 := by
  unfold L_X11_tried_38
  iterate 2 refine ws_b rfl ?_
  refine wp_cV rfl rfl o_X0_asTold v_X0_asTold h rfl rfl rfl (Nat.le_of_ble_eq_true rfl) (by decide) ?_
  clear h
  rintro r9 h9 ⟨S1, rfl, rfl, h⟩
  iterate 4 refine ws_b rfl ?_
  refine wp_ite (fun q => ?_) (fun q => ?_)
  · replace h := h.1 q
    iterate 2 refine ws_b rfl ?_
    exact wp_weak (wk_s (wk_s (wk_s (wk_s wk_0)))) h
  · replace h := h.2 q
    refine ws_b rfl ?_
    exact wp_weak (wk_s (wk_s (wk_s (wk_s wk_0)))) h
set_option maxRecDepth 100000 in
set_option maxHeartbeats 4000000 in
theorem b_X11_tried_58 {G : ab_G} {fr : Bool} {n0 : Nat} {tl : ab_H} {K : Int32 → ms_S → Prop} {S : ms_S} {i1 : Int32} {i2 : Int32} {i3 : Int32} {t0 : Int32}
    (h : (t0 = 0 ∨ t0 = 1) ∧ ((i1 = (nI 1) → (L_X11_tried_75 G fr n0 tl K (sVa S 72 3 t0) i1 i2 i3 (nI 1))) ∧ (¬ i1 = (nI 1) → (L_X11_tried_75 G fr n0 tl K (sVa S 72 3 t0) i1 i2 i3 (nI 0))))) :
    L_X11_tried_58 G fr n0 tl K S i1 i2 i3 t0 := by
  unfold L_X11_tried_58
  refine ws_g rfl h.1 ?_
  replace h := h.2
  iterate 5 refine ws_b rfl ?_
  refine wp_ite (fun q => ?_) (fun q => ?_)
  · replace h := h.1 q
    iterate 2 refine ws_b rfl ?_
    exact wp_weak (wk_s (wk_s (wk_s (wk_s wk_0)))) h
  · replace h := h.2 q
    refine ws_b rfl ?_
    exact wp_weak (wk_s (wk_s (wk_s (wk_s wk_0)))) h
set_option maxRecDepth 100000 in
set_option maxHeartbeats 4000000 in
theorem b_X11_tried_75 {G : ab_G} {fr : Bool} {n0 : Nat} {tl : ab_H} {K : Int32 → ms_S → Prop} {S : ms_S} {i1 : Int32} {i2 : Int32} {i3 : Int32} {t0 : Int32}
    (h : (t0 = 0 ∨ t0 = 1) ∧ ((i1 = (nI 2) → (L_X11_tried_92 G fr n0 tl K (sVa S 67 6 t0) i1 i3 i2)) ∧ (¬ i1 = (nI 2) → (L_X11_tried_92 G fr n0 tl K (sVa S 67 6 t0) i1 i3 (-(nI 1)))))) :
    L_X11_tried_75 G fr n0 tl K S i1 i2 i3 t0 := by
  unfold L_X11_tried_75
  refine ws_g rfl h.1 ?_
  replace h := h.2
  iterate 5 refine ws_b rfl ?_
  refine wp_ite (fun q => ?_) (fun q => ?_)
  · replace h := h.1 q
    iterate 2 refine ws_b rfl ?_
    exact wp_weak (wk_s (wk_s (wk_n (wk_s wk_0)))) h
  · replace h := h.2 q
    refine ws_b rfl ?_
    exact wp_weak (wk_s (wk_s (wk_n (wk_s wk_0)))) h
set_option maxRecDepth 100000 in
set_option maxHeartbeats 4000000 in
theorem b_X11_tried_92 {G : ab_G} {fr : Bool} {n0 : Nat} {tl : ab_H} {K : Int32 → ms_S → Prop} {S : ms_S} {i1 : Int32} {i3 : Int32} {t0 : Int32}
    (h : (i1 = (nI 3) → (L_X11_tried_115 G fr n0 tl K (sVa S 72 4 t0) i1 i3 (nI 1))) ∧ (¬ i1 = (nI 3) → (L_X11_tried_115 G fr n0 tl K (sVa S 72 4 t0) i1 i3 (S.1 72 5)))) :
    L_X11_tried_92 G fr n0 tl K S i1 i3 t0 := by
  unfold L_X11_tried_92
  iterate 6 refine ws_b rfl ?_
  refine wp_ite (fun q => ?_) (fun q => ?_)
  · replace h := h.1 q
    iterate 2 refine ws_b rfl ?_
    exact wp_weak (wk_s (wk_s (wk_s (wk_s wk_0)))) h
  · replace h := h.2 q
    iterate 3 refine ws_b rfl ?_
    exact wp_weak (wk_s (wk_s (wk_s (wk_s wk_0)))) h
set_option maxRecDepth 100000 in
set_option maxHeartbeats 4000000 in
theorem b_X11_tried_115 {G : ab_G} {fr : Bool} {n0 : Nat} {tl : ab_H} {K : Int32 → ms_S → Prop} {S : ms_S} {i1 : Int32} {i3 : Int32} {t0 : Int32}
    (h : (i1 = (nI 4) → (L_X11_tried_132 G fr n0 tl K (sVa S 72 5 t0) i3 (nI 1))) ∧ (¬ i1 = (nI 4) → (L_X11_tried_132 G fr n0 tl K (sVa S 72 5 t0) i3 (nI 0)))) :
    L_X11_tried_115 G fr n0 tl K S i1 i3 t0 := by
  unfold L_X11_tried_115
  iterate 6 refine ws_b rfl ?_
  refine wp_ite (fun q => ?_) (fun q => ?_)
  · replace h := h.1 q
    iterate 2 refine ws_b rfl ?_
    exact wp_weak (wk_s (wk_n (wk_s (wk_s wk_0)))) h
  · replace h := h.2 q
    refine ws_b rfl ?_
    exact wp_weak (wk_s (wk_n (wk_s (wk_s wk_0)))) h
set_option maxRecDepth 100000 in
set_option maxHeartbeats 4000000 in
theorem b_X11_tried_132 {G : ab_G} {fr : Bool} {n0 : Nat} {tl : ab_H} {K : Int32 → ms_S → Prop} {S : ms_S} {i3 : Int32} {t0 : Int32}
    (h : (t0 = 0 ∨ t0 = 1) ∧ (ctU G 1 M_X1_copyFrom fr [.ref 86, .ref 82] lB (sVa S 67 7 t0) tl (fun S1 => ctU G 7 M_X0_goOn fr [.ref 72, .ref 86, .int i3] lB S1 tl (fun S2 => ctU G 2 M_X0_asTold fr [.ref 72] lB S2 tl (fun S3 => ctI G 1 M_X1_goldOfAll fr [.ref 86] lB S3 tl (fun v4 S4 => ctI G 1 M_X1_goldOfAll fr [.ref 82] lB S4 tl (fun v5 S5 => K (v4 - v5) S5))))))) :
    L_X11_tried_132 G fr n0 tl K S i3 t0 := by
  unfold L_X11_tried_132
  refine ws_g rfl h.1 ?_
  replace h := h.2
  iterate 4 refine ws_b rfl ?_
  refine wp_cV rfl rfl o_X1_copyFrom v_X1_copyFrom h rfl rfl rfl (Nat.le_of_ble_eq_true rfl) (by decide) ?_
  clear h
  rintro r9 h9 ⟨S1, rfl, rfl, h⟩
  iterate 5 refine ws_b rfl ?_
  refine wp_cV rfl rfl o_X0_goOn v_X0_goOn h rfl rfl rfl (Nat.le_of_ble_eq_true rfl) (by decide) ?_
  clear h
  rintro r9 h9 ⟨S2, rfl, rfl, h⟩
  iterate 2 refine ws_b rfl ?_
  refine wp_cV rfl rfl o_X0_asTold v_X0_asTold h rfl rfl rfl (Nat.le_of_ble_eq_true rfl) (by decide) ?_
  clear h
  rintro r9 h9 ⟨S3, rfl, rfl, h⟩
  iterate 2 refine ws_b rfl ?_
  refine wp_cV rfl rfl o_X1_goldOfAll v_X1_goldOfAll h rfl rfl rfl (Nat.le_of_ble_eq_true rfl) (by decide) ?_
  clear h
  rintro r9 h9 ⟨v4, S4, rfl, rfl, h⟩
  iterate 2 refine ws_b rfl ?_
  refine wp_cV rfl rfl o_X1_goldOfAll v_X1_goldOfAll h rfl rfl rfl (Nat.le_of_ble_eq_true rfl) (by decide) ?_
  clear h
  rintro r9 h9 ⟨v5, S5, rfl, rfl, h⟩
  refine ws_b rfl ?_
  exact wp_ri rfl rfl rfl ⟨_, _, rfl, rfl, h⟩
set_option maxRecDepth 100000 in
set_option maxHeartbeats 4000000 in
theorem m_X11_tried {G : ab_G} {fr : Bool} {tl : ab_H} {K : Int32 → ms_S → Prop} {S : ms_S} {i1 : Int32} {i2 : Int32} {i3 : Int32}
    (h : ∀ n0 : Nat, (i1 < 0 → (L_X11_tried_36 G fr n0 tl K S )) ∧ (¬ i1 < 0 → (((nI 4) < i1 → (L_X11_tried_36 G fr n0 tl K S )) ∧ (¬ (nI 4) < i1 → (ctI G 1 M_X11_isSpan fr [.int i3] lB S tl (fun v1 S1 => (v1 = 0 → (L_X11_tried_36 G fr n0 tl K S1 )) ∧ (¬ v1 = 0 → ((i1 = (nI 2) → (ctI G 1 M_X11_isHeir fr [.ref 0, .int i2] lB S1 tl (fun v2 S2 => (v2 = 0 → (L_X11_tried_36 G fr n0 tl K S2 )) ∧ (¬ v2 = 0 → (L_X11_tried_38 G fr n0 tl K S2 i1 i2 i3))))) ∧ (¬ i1 = (nI 2) → ((i2 = 0 → (L_X11_tried_38 G fr n0 tl K S1 i1 i2 i3)) ∧ (¬ i2 = 0 → (L_X11_tried_36 G fr n0 tl K S1 )))))))))))) :
    ctI G 8 M_X11_tried fr [.ref 0, .int i1, .int i2, .int i3] lB S tl K := by
  refine wp_ct o_X11_tried (Nat.le_of_ble_eq_true rfl) ?_
  replace h := h (hLy lB S tl).length
  revert h
  generalize (hLy lB S tl).length = n0
  intro h
  iterate 2 refine ws_b rfl ?_
  refine wp_ite (fun q => ?_) (fun q => ?_)
  · replace h := h.1 q
    exact wp_weak (wk_n (wk_n (wk_n (wk_n wk_0)))) h
  · replace h := h.2 q
    iterate 3 refine ws_b rfl ?_
    refine wp_ite (fun q => ?_) (fun q => ?_)
    · replace h := h.1 q
      exact wp_weak (wk_n (wk_n (wk_n (wk_n wk_0)))) h
    · replace h := h.2 q
      refine ws_b rfl ?_
      refine wp_cS rfl rfl o_X11_isSpan s_X11_isSpan h rfl rfl (Nat.le_of_ble_eq_true rfl) (by decide) ?_
      clear h
      rintro r9 h9 ⟨v1, S1, rfl, rfl, h⟩
      refine ws_b rfl ?_
      refine wp_ite (fun q => ?_) (fun q => ?_)
      · replace h := h.1 q
        exact wp_weak (wk_n (wk_n (wk_n (wk_n wk_0)))) h
      · replace h := h.2 q
        iterate 3 refine ws_b rfl ?_
        refine wp_ite (fun q => ?_) (fun q => ?_)
        · replace h := h.1 q
          iterate 2 refine ws_b rfl ?_
          refine wp_cV rfl rfl o_X11_isHeir v_X11_isHeir h rfl rfl rfl (Nat.le_of_ble_eq_true rfl) (by decide) ?_
          clear h
          rintro r9 h9 ⟨v2, S2, rfl, rfl, h⟩
          refine ws_b rfl ?_
          refine wp_ite (fun q => ?_) (fun q => ?_)
          · replace h := h.1 q
            refine ws_b rfl ?_
            exact wp_weak (wk_n (wk_n (wk_n (wk_n wk_0)))) h
          · replace h := h.2 q
            exact wp_weak (wk_s (wk_s (wk_s (wk_s wk_0)))) h
        · replace h := h.2 q
          iterate 2 refine ws_b rfl ?_
          refine wp_ite (fun q => ?_) (fun q => ?_)
          · replace h := h.1 q
            exact wp_weak (wk_s (wk_s (wk_s (wk_s wk_0)))) h
          · replace h := h.2 q
            exact wp_weak (wk_n (wk_n (wk_n (wk_n wk_0)))) h
set_option maxRecDepth 100000 in
set_option maxHeartbeats 4000000 in
theorem m_X11_keep {G : ab_G} {fr : Bool} {tl : ab_H} {K : Int32 → ms_S → Prop} {S : ms_S} 
    (h : ∀ n0 : Nat, ctU G 1 M_X1_copyFrom fr [.ref 90, .ref 82] lB S tl (fun S1 => K (S1.1 82 3) (sV S1 14 (nI 1)))) :
    ctI G 2 M_X11_keep fr [.ref 0] lB S tl K := by
  refine wp_ct o_X11_keep (Nat.le_of_ble_eq_true rfl) ?_
  replace h := h (hLy lB S tl).length
  revert h
  generalize (hLy lB S tl).length = n0
  intro h
  iterate 4 refine ws_b rfl ?_
  refine wp_cV rfl rfl o_X1_copyFrom v_X1_copyFrom h rfl rfl rfl (Nat.le_of_ble_eq_true rfl) (by decide) ?_
  clear h
  rintro r9 h9 ⟨S1, rfl, rfl, h⟩
  iterate 2 refine ws_b rfl ?_
  refine ws_g rfl (Or.inr rfl) ?_
  iterate 3 refine ws_b rfl ?_
  exact wp_ri rfl rfl rfl ⟨_, _, rfl, rfl, h⟩
set_option maxRecDepth 100000 in
set_option maxHeartbeats 4000000 in
theorem m_X11_back {G : ab_G} {fr : Bool} {tl : ab_H} {K : Int32 → ms_S → Prop} {S : ms_S} 
    (h : ∀ n0 : Nat, ((S.1 0 14) = 0 → (K (-(nI 1)) S)) ∧ (¬ (S.1 0 14) = 0 → (ctU G 1 M_X1_copyFrom fr [.ref 82, .ref 90] lB S tl (fun S1 => K (S1.1 82 3) (sV S1 13 (nI 0)))))) :
    ctI G 2 M_X11_back fr [.ref 0] lB S tl K := by
  refine wp_ct o_X11_back (Nat.le_of_ble_eq_true rfl) ?_
  replace h := h (hLy lB S tl).length
  revert h
  generalize (hLy lB S tl).length = n0
  intro h
  iterate 3 refine ws_b rfl ?_
  refine wp_ite (fun q => ?_) (fun q => ?_)
  · replace h := h.1 q
    refine ws_b rfl ?_
    exact wp_ri rfl rfl rfl ⟨_, _, rfl, rfl, h⟩
  · replace h := h.2 q
    iterate 4 refine ws_b rfl ?_
    refine wp_cV rfl rfl o_X1_copyFrom v_X1_copyFrom h rfl rfl rfl (Nat.le_of_ble_eq_true rfl) (by decide) ?_
    clear h
    rintro r9 h9 ⟨S1, rfl, rfl, h⟩
    iterate 6 refine ws_b rfl ?_
    exact wp_ri rfl rfl rfl ⟨_, _, rfl, rfl, h⟩
set_option maxRecDepth 100000 in
set_option maxHeartbeats 4000000 in
theorem m_X11_count {G : ab_G} {fr : Bool} {tl : ab_H} {K : Int32 → ms_S → Prop} {S : ms_S} {i1 : Int32}
    (h : ∀ n0 : Nat, (i1 = nI 0 → (K (S.1 4 12) S)) ∧ (i1 = nI 1 → (K (S.1 4 13) S)) ∧ (i1 = nI 2 → (ctI G 1 M_X7_knots fr [.ref 4] lB S tl (fun v1 S1 => K v1 S1))) ∧ (i1 = nI 3 → (K (S.1 82 3) S)) ∧ (i1 = nI 4 → (ctI G 1 M_J6_bitCount fr [.int (S.1 82 4)] lB S tl (fun v2 S2 => K v2 S2))) ∧ (i1 = nI 5 → (ctI G 1 M_J6_bitCount fr [.int (S.1 82 5)] lB S tl (fun v3 S3 => K v3 S3))) ∧ (i1 = nI 6 → (ctI G 1 M_X1_goldOfAll fr [.ref 82] lB S tl (fun v4 S4 => K v4 S4))) ∧ (i1 = nI 7 → (ctI G 1 M_X1_laidByAll fr [.ref 82] lB S tl (fun v5 S5 => K v5 S5))) ∧ (i1 = nI 8 → (K (S.1 82 6) S)) ∧ (i1 = nI 9 → (K (S.1 76 5) S)) ∧ (i1 = nI 10 → (ctI G 1 M_X6_knownSize fr [.ref 76] lB S tl (fun v6 S6 => K v6 S6))) ∧ (i1 = nI 11 → (K (S.1 0 13) S)) ∧ (¬ i1 = nI 0 → ¬ i1 = nI 1 → ¬ i1 = nI 2 → ¬ i1 = nI 3 → ¬ i1 = nI 4 → ¬ i1 = nI 5 → ¬ i1 = nI 6 → ¬ i1 = nI 7 → ¬ i1 = nI 8 → ¬ i1 = nI 9 → ¬ i1 = nI 10 → ¬ i1 = nI 11 → (K (-(nI 1)) S))) :
    ctI G 2 M_X11_count fr [.ref 0, .int i1] lB S tl K := by
  refine wp_ct o_X11_count (Nat.le_of_ble_eq_true rfl) ?_
  replace h := h (hLy lB S tl).length
  revert h
  generalize (hLy lB S tl).length = n0
  intro h
  refine ws_b rfl ?_
  by_cases q0 : i1 = nI 0
  · refine wp_tswN (nI 0) 64 (63) rfl q0 rfl rfl rfl rfl ?_
    replace h := h.1 q0
    iterate 3 refine ws_b rfl ?_
    exact wp_ri rfl rfl rfl ⟨_, _, rfl, rfl, h⟩
  replace h := h.2
  by_cases q1 : i1 = nI 1
  · refine wp_tswN (nI 1) 72 (71) rfl q1 rfl rfl rfl rfl ?_
    replace h := h.1 q1
    iterate 3 refine ws_b rfl ?_
    exact wp_ri rfl rfl rfl ⟨_, _, rfl, rfl, h⟩
  replace h := h.2
  by_cases q2 : i1 = nI 2
  · refine wp_tswN (nI 2) 80 (79) rfl q2 rfl rfl rfl rfl ?_
    replace h := h.1 q2
    iterate 2 refine ws_b rfl ?_
    refine wp_cV rfl rfl o_X7_knots v_X7_knots h rfl rfl rfl (Nat.le_of_ble_eq_true rfl) (by decide) ?_
    clear h
    rintro r9 h9 ⟨v1, S1, rfl, rfl, h⟩
    exact wp_ri rfl rfl rfl ⟨_, _, rfl, rfl, h⟩
  replace h := h.2
  by_cases q3 : i1 = nI 3
  · refine wp_tswN (nI 3) 88 (87) rfl q3 rfl rfl rfl rfl ?_
    replace h := h.1 q3
    iterate 3 refine ws_b rfl ?_
    exact wp_ri rfl rfl rfl ⟨_, _, rfl, rfl, h⟩
  replace h := h.2
  by_cases q4 : i1 = nI 4
  · refine wp_tswN (nI 4) 96 (95) rfl q4 rfl rfl rfl rfl ?_
    replace h := h.1 q4
    iterate 3 refine ws_b rfl ?_
    refine wp_cS rfl rfl o_J6_bitCount s_J6_bitCount h rfl rfl (Nat.le_of_ble_eq_true rfl) (by decide) ?_
    clear h
    rintro r9 h9 ⟨v2, S2, rfl, rfl, h⟩
    exact wp_ri rfl rfl rfl ⟨_, _, rfl, rfl, h⟩
  replace h := h.2
  by_cases q5 : i1 = nI 5
  · refine wp_tswN (nI 5) 107 (106) rfl q5 rfl rfl rfl rfl ?_
    replace h := h.1 q5
    iterate 3 refine ws_b rfl ?_
    refine wp_cS rfl rfl o_J6_bitCount s_J6_bitCount h rfl rfl (Nat.le_of_ble_eq_true rfl) (by decide) ?_
    clear h
    rintro r9 h9 ⟨v3, S3, rfl, rfl, h⟩
    exact wp_ri rfl rfl rfl ⟨_, _, rfl, rfl, h⟩
  replace h := h.2
  by_cases q6 : i1 = nI 6
  · refine wp_tswN (nI 6) 118 (117) rfl q6 rfl rfl rfl rfl ?_
    replace h := h.1 q6
    iterate 2 refine ws_b rfl ?_
    refine wp_cV rfl rfl o_X1_goldOfAll v_X1_goldOfAll h rfl rfl rfl (Nat.le_of_ble_eq_true rfl) (by decide) ?_
    clear h
    rintro r9 h9 ⟨v4, S4, rfl, rfl, h⟩
    exact wp_ri rfl rfl rfl ⟨_, _, rfl, rfl, h⟩
  replace h := h.2
  by_cases q7 : i1 = nI 7
  · refine wp_tswN (nI 7) 126 (125) rfl q7 rfl rfl rfl rfl ?_
    replace h := h.1 q7
    iterate 2 refine ws_b rfl ?_
    refine wp_cV rfl rfl o_X1_laidByAll v_X1_laidByAll h rfl rfl rfl (Nat.le_of_ble_eq_true rfl) (by decide) ?_
    clear h
    rintro r9 h9 ⟨v5, S5, rfl, rfl, h⟩
    exact wp_ri rfl rfl rfl ⟨_, _, rfl, rfl, h⟩
  replace h := h.2
  by_cases q8 : i1 = nI 8
  · refine wp_tswN (nI 8) 134 (133) rfl q8 rfl rfl rfl rfl ?_
    replace h := h.1 q8
    iterate 3 refine ws_b rfl ?_
    exact wp_ri rfl rfl rfl ⟨_, _, rfl, rfl, h⟩
  replace h := h.2
  by_cases q9 : i1 = nI 9
  · refine wp_tswN (nI 9) 142 (141) rfl q9 rfl rfl rfl rfl ?_
    replace h := h.1 q9
    iterate 3 refine ws_b rfl ?_
    exact wp_ri rfl rfl rfl ⟨_, _, rfl, rfl, h⟩
  replace h := h.2
  by_cases q10 : i1 = nI 10
  · refine wp_tswN (nI 10) 150 (149) rfl q10 rfl rfl rfl rfl ?_
    replace h := h.1 q10
    iterate 2 refine ws_b rfl ?_
    refine wp_cV rfl rfl o_X6_knownSize v_X6_knownSize h rfl rfl rfl (Nat.le_of_ble_eq_true rfl) (by decide) ?_
    clear h
    rintro r9 h9 ⟨v6, S6, rfl, rfl, h⟩
    exact wp_ri rfl rfl rfl ⟨_, _, rfl, rfl, h⟩
  replace h := h.2
  by_cases q11 : i1 = nI 11
  · refine wp_tswN (nI 11) 158 (157) rfl q11 rfl rfl rfl rfl ?_
    replace h := h.1 q11
    iterate 2 refine ws_b rfl ?_
    exact wp_ri rfl rfl rfl ⟨_, _, rfl, rfl, h⟩
  replace h := h.2
  refine wp_tswD 163 [nI 0, nI 1, nI 2, nI 3, nI 4, nI 5, nI 6, nI 7, nI 8, nI 9, nI 10, nI 11] rfl (by decide) (by intro k9 hk9; rcases List.mem_cons.mp hk9 with rfl | hk9; exact q0; rcases List.mem_cons.mp hk9 with rfl | hk9; exact q1; rcases List.mem_cons.mp hk9 with rfl | hk9; exact q2; rcases List.mem_cons.mp hk9 with rfl | hk9; exact q3; rcases List.mem_cons.mp hk9 with rfl | hk9; exact q4; rcases List.mem_cons.mp hk9 with rfl | hk9; exact q5; rcases List.mem_cons.mp hk9 with rfl | hk9; exact q6; rcases List.mem_cons.mp hk9 with rfl | hk9; exact q7; rcases List.mem_cons.mp hk9 with rfl | hk9; exact q8; rcases List.mem_cons.mp hk9 with rfl | hk9; exact q9; rcases List.mem_cons.mp hk9 with rfl | hk9; exact q10; rcases List.mem_cons.mp hk9 with rfl | hk9; exact q11; exact nomatch hk9) rfl ?_
  replace h := h q0 q1 q2 q3 q4 q5 q6 q7 q8 q9 q10 q11
  refine ws_b rfl ?_
  exact wp_ri rfl rfl rfl ⟨_, _, rfl, rfl, h⟩
set_option maxRecDepth 100000 in
set_option maxHeartbeats 4000000 in
theorem m_X11_fault {G : ab_G} {fr : Bool} {tl : ab_H} {K : Int32 → ms_S → Prop} {S : ms_S} {i1 : Int32}
    (h : ∀ n0 : Nat, (i1 = nI 0 → (K (S.1 0 15) S)) ∧ (i1 = nI 1 → (K (S.1 0 16) S)) ∧ (¬ i1 = nI 0 → ¬ i1 = nI 1 → (K (-(nI 1)) S))) :
    ctI G 1 M_X11_fault fr [.ref 0, .int i1] lB S tl K := by
  refine wp_ct o_X11_fault (Nat.le_of_ble_eq_true rfl) ?_
  replace h := h (hLy lB S tl).length
  revert h
  generalize (hLy lB S tl).length = n0
  intro h
  refine ws_b rfl ?_
  by_cases q0 : i1 = nI 0
  · refine wp_lswN (nI 0) 28 (27) rfl q0 rfl rfl rfl ?_
    replace h := h.1 q0
    iterate 2 refine ws_b rfl ?_
    exact wp_ri rfl rfl rfl ⟨_, _, rfl, rfl, h⟩
  replace h := h.2
  by_cases q1 : i1 = nI 1
  · refine wp_lswN (nI 1) 33 (32) rfl q1 rfl rfl rfl ?_
    replace h := h.1 q1
    iterate 2 refine ws_b rfl ?_
    exact wp_ri rfl rfl rfl ⟨_, _, rfl, rfl, h⟩
  replace h := h.2
  refine wp_lswD 38 [nI 0, nI 1] rfl rfl (by decide) (by intro k9 hk9; rcases List.mem_cons.mp hk9 with rfl | hk9; exact q0; rcases List.mem_cons.mp hk9 with rfl | hk9; exact q1; exact nomatch hk9) rfl ?_
  replace h := h q0 q1
  refine ws_b rfl ?_
  exact wp_ri rfl rfl rfl ⟨_, _, rfl, rfl, h⟩
set_option maxRecDepth 100000 in
set_option maxHeartbeats 4000000 in
theorem m_X11_named {G : ab_G} {fr : Bool} {tl : ab_H} {K : Int32 → ms_S → Prop} {S : ms_S} {i1 : Int32} {i2 : Int32}
    (h : ∀ n0 : Nat, (i1 = nI 0 → (ctI G 2 M_X7_pieceCalled fr [.ref 4, .int i2] lB S tl (fun v1 S1 => K v1 S1))) ∧ (i1 = nI 1 → (ctI G 2 M_X7_heirCalled fr [.ref 4, .int i2] lB S tl (fun v2 S2 => K v2 S2))) ∧ (¬ i1 = nI 0 → ¬ i1 = nI 1 → (K (-(nI 1)) S))) :
    ctI G 3 M_X11_named fr [.ref 0, .int i1, .int i2] lB S tl K := by
  refine wp_ct o_X11_named (Nat.le_of_ble_eq_true rfl) ?_
  replace h := h (hLy lB S tl).length
  revert h
  generalize (hLy lB S tl).length = n0
  intro h
  refine ws_b rfl ?_
  by_cases q0 : i1 = nI 0
  · refine wp_lswN (nI 0) 28 (27) rfl q0 rfl rfl rfl ?_
    replace h := h.1 q0
    iterate 3 refine ws_b rfl ?_
    refine wp_cV rfl rfl o_X7_pieceCalled v_X7_pieceCalled h rfl rfl rfl (Nat.le_of_ble_eq_true rfl) (by decide) ?_
    clear h
    rintro r9 h9 ⟨v1, S1, rfl, rfl, h⟩
    exact wp_ri rfl rfl rfl ⟨_, _, rfl, rfl, h⟩
  replace h := h.2
  by_cases q1 : i1 = nI 1
  · refine wp_lswN (nI 1) 37 (36) rfl q1 rfl rfl rfl ?_
    replace h := h.1 q1
    iterate 3 refine ws_b rfl ?_
    refine wp_cV rfl rfl o_X7_heirCalled v_X7_heirCalled h rfl rfl rfl (Nat.le_of_ble_eq_true rfl) (by decide) ?_
    clear h
    rintro r9 h9 ⟨v2, S2, rfl, rfl, h⟩
    exact wp_ri rfl rfl rfl ⟨_, _, rfl, rfl, h⟩
  replace h := h.2
  refine wp_lswD 46 [nI 0, nI 1] rfl rfl (by decide) (by intro k9 hk9; rcases List.mem_cons.mp hk9 with rfl | hk9; exact q0; rcases List.mem_cons.mp hk9 with rfl | hk9; exact q1; exact nomatch hk9) rfl ?_
  replace h := h q0 q1
  refine ws_b rfl ?_
  exact wp_ri rfl rfl rfl ⟨_, _, rfl, rfl, h⟩
set_option maxRecDepth 100000 in
set_option maxHeartbeats 4000000 in
theorem m_X11_remember {G : ab_G} {fr : Bool} {tl : ab_H} {K : ms_S → Prop} {S : ms_S} 
    (h : ∀ n0 : Nat, vp_in (S.1 0 12) 20 ∧ ((S.1 0 12) = nI 0 → (ctU G 1 M_X1_copyFrom fr [.ref 95, .ref 82] lB S tl (fun S1 => ¬ (nI 20) = 0 ∧ (K (sV (sV S1 12 (((S1.1 0 12) + (nI 1)) - ((S1.1 0 12) + (nI 1)) / (nI 20) * (nI 20))) 13 (if (nI 20) < ((S1.1 0 13) + (nI 1)) then (nI 20) else ((S1.1 0 13) + (nI 1)))))))) ∧ ((S.1 0 12) = nI 1 → (ctU G 1 M_X1_copyFrom fr [.ref 99, .ref 82] lB S tl (fun S2 => ¬ (nI 20) = 0 ∧ (K (sV (sV S2 12 (((S2.1 0 12) + (nI 1)) - ((S2.1 0 12) + (nI 1)) / (nI 20) * (nI 20))) 13 (if (nI 20) < ((S2.1 0 13) + (nI 1)) then (nI 20) else ((S2.1 0 13) + (nI 1)))))))) ∧ ((S.1 0 12) = nI 2 → (ctU G 1 M_X1_copyFrom fr [.ref 103, .ref 82] lB S tl (fun S3 => ¬ (nI 20) = 0 ∧ (K (sV (sV S3 12 (((S3.1 0 12) + (nI 1)) - ((S3.1 0 12) + (nI 1)) / (nI 20) * (nI 20))) 13 (if (nI 20) < ((S3.1 0 13) + (nI 1)) then (nI 20) else ((S3.1 0 13) + (nI 1)))))))) ∧ ((S.1 0 12) = nI 3 → (ctU G 1 M_X1_copyFrom fr [.ref 107, .ref 82] lB S tl (fun S4 => ¬ (nI 20) = 0 ∧ (K (sV (sV S4 12 (((S4.1 0 12) + (nI 1)) - ((S4.1 0 12) + (nI 1)) / (nI 20) * (nI 20))) 13 (if (nI 20) < ((S4.1 0 13) + (nI 1)) then (nI 20) else ((S4.1 0 13) + (nI 1)))))))) ∧ ((S.1 0 12) = nI 4 → (ctU G 1 M_X1_copyFrom fr [.ref 111, .ref 82] lB S tl (fun S5 => ¬ (nI 20) = 0 ∧ (K (sV (sV S5 12 (((S5.1 0 12) + (nI 1)) - ((S5.1 0 12) + (nI 1)) / (nI 20) * (nI 20))) 13 (if (nI 20) < ((S5.1 0 13) + (nI 1)) then (nI 20) else ((S5.1 0 13) + (nI 1)))))))) ∧ ((S.1 0 12) = nI 5 → (ctU G 1 M_X1_copyFrom fr [.ref 115, .ref 82] lB S tl (fun S6 => ¬ (nI 20) = 0 ∧ (K (sV (sV S6 12 (((S6.1 0 12) + (nI 1)) - ((S6.1 0 12) + (nI 1)) / (nI 20) * (nI 20))) 13 (if (nI 20) < ((S6.1 0 13) + (nI 1)) then (nI 20) else ((S6.1 0 13) + (nI 1)))))))) ∧ ((S.1 0 12) = nI 6 → (ctU G 1 M_X1_copyFrom fr [.ref 119, .ref 82] lB S tl (fun S7 => ¬ (nI 20) = 0 ∧ (K (sV (sV S7 12 (((S7.1 0 12) + (nI 1)) - ((S7.1 0 12) + (nI 1)) / (nI 20) * (nI 20))) 13 (if (nI 20) < ((S7.1 0 13) + (nI 1)) then (nI 20) else ((S7.1 0 13) + (nI 1)))))))) ∧ ((S.1 0 12) = nI 7 → (ctU G 1 M_X1_copyFrom fr [.ref 123, .ref 82] lB S tl (fun S8 => ¬ (nI 20) = 0 ∧ (K (sV (sV S8 12 (((S8.1 0 12) + (nI 1)) - ((S8.1 0 12) + (nI 1)) / (nI 20) * (nI 20))) 13 (if (nI 20) < ((S8.1 0 13) + (nI 1)) then (nI 20) else ((S8.1 0 13) + (nI 1)))))))) ∧ ((S.1 0 12) = nI 8 → (ctU G 1 M_X1_copyFrom fr [.ref 127, .ref 82] lB S tl (fun S9 => ¬ (nI 20) = 0 ∧ (K (sV (sV S9 12 (((S9.1 0 12) + (nI 1)) - ((S9.1 0 12) + (nI 1)) / (nI 20) * (nI 20))) 13 (if (nI 20) < ((S9.1 0 13) + (nI 1)) then (nI 20) else ((S9.1 0 13) + (nI 1)))))))) ∧ ((S.1 0 12) = nI 9 → (ctU G 1 M_X1_copyFrom fr [.ref 131, .ref 82] lB S tl (fun S10 => ¬ (nI 20) = 0 ∧ (K (sV (sV S10 12 (((S10.1 0 12) + (nI 1)) - ((S10.1 0 12) + (nI 1)) / (nI 20) * (nI 20))) 13 (if (nI 20) < ((S10.1 0 13) + (nI 1)) then (nI 20) else ((S10.1 0 13) + (nI 1)))))))) ∧ ((S.1 0 12) = nI 10 → (ctU G 1 M_X1_copyFrom fr [.ref 135, .ref 82] lB S tl (fun S11 => ¬ (nI 20) = 0 ∧ (K (sV (sV S11 12 (((S11.1 0 12) + (nI 1)) - ((S11.1 0 12) + (nI 1)) / (nI 20) * (nI 20))) 13 (if (nI 20) < ((S11.1 0 13) + (nI 1)) then (nI 20) else ((S11.1 0 13) + (nI 1)))))))) ∧ ((S.1 0 12) = nI 11 → (ctU G 1 M_X1_copyFrom fr [.ref 139, .ref 82] lB S tl (fun S12 => ¬ (nI 20) = 0 ∧ (K (sV (sV S12 12 (((S12.1 0 12) + (nI 1)) - ((S12.1 0 12) + (nI 1)) / (nI 20) * (nI 20))) 13 (if (nI 20) < ((S12.1 0 13) + (nI 1)) then (nI 20) else ((S12.1 0 13) + (nI 1)))))))) ∧ ((S.1 0 12) = nI 12 → (ctU G 1 M_X1_copyFrom fr [.ref 143, .ref 82] lB S tl (fun S13 => ¬ (nI 20) = 0 ∧ (K (sV (sV S13 12 (((S13.1 0 12) + (nI 1)) - ((S13.1 0 12) + (nI 1)) / (nI 20) * (nI 20))) 13 (if (nI 20) < ((S13.1 0 13) + (nI 1)) then (nI 20) else ((S13.1 0 13) + (nI 1)))))))) ∧ ((S.1 0 12) = nI 13 → (ctU G 1 M_X1_copyFrom fr [.ref 147, .ref 82] lB S tl (fun S14 => ¬ (nI 20) = 0 ∧ (K (sV (sV S14 12 (((S14.1 0 12) + (nI 1)) - ((S14.1 0 12) + (nI 1)) / (nI 20) * (nI 20))) 13 (if (nI 20) < ((S14.1 0 13) + (nI 1)) then (nI 20) else ((S14.1 0 13) + (nI 1)))))))) ∧ ((S.1 0 12) = nI 14 → (ctU G 1 M_X1_copyFrom fr [.ref 151, .ref 82] lB S tl (fun S15 => ¬ (nI 20) = 0 ∧ (K (sV (sV S15 12 (((S15.1 0 12) + (nI 1)) - ((S15.1 0 12) + (nI 1)) / (nI 20) * (nI 20))) 13 (if (nI 20) < ((S15.1 0 13) + (nI 1)) then (nI 20) else ((S15.1 0 13) + (nI 1)))))))) ∧ ((S.1 0 12) = nI 15 → (ctU G 1 M_X1_copyFrom fr [.ref 155, .ref 82] lB S tl (fun S16 => ¬ (nI 20) = 0 ∧ (K (sV (sV S16 12 (((S16.1 0 12) + (nI 1)) - ((S16.1 0 12) + (nI 1)) / (nI 20) * (nI 20))) 13 (if (nI 20) < ((S16.1 0 13) + (nI 1)) then (nI 20) else ((S16.1 0 13) + (nI 1)))))))) ∧ ((S.1 0 12) = nI 16 → (ctU G 1 M_X1_copyFrom fr [.ref 159, .ref 82] lB S tl (fun S17 => ¬ (nI 20) = 0 ∧ (K (sV (sV S17 12 (((S17.1 0 12) + (nI 1)) - ((S17.1 0 12) + (nI 1)) / (nI 20) * (nI 20))) 13 (if (nI 20) < ((S17.1 0 13) + (nI 1)) then (nI 20) else ((S17.1 0 13) + (nI 1)))))))) ∧ ((S.1 0 12) = nI 17 → (ctU G 1 M_X1_copyFrom fr [.ref 163, .ref 82] lB S tl (fun S18 => ¬ (nI 20) = 0 ∧ (K (sV (sV S18 12 (((S18.1 0 12) + (nI 1)) - ((S18.1 0 12) + (nI 1)) / (nI 20) * (nI 20))) 13 (if (nI 20) < ((S18.1 0 13) + (nI 1)) then (nI 20) else ((S18.1 0 13) + (nI 1)))))))) ∧ ((S.1 0 12) = nI 18 → (ctU G 1 M_X1_copyFrom fr [.ref 167, .ref 82] lB S tl (fun S19 => ¬ (nI 20) = 0 ∧ (K (sV (sV S19 12 (((S19.1 0 12) + (nI 1)) - ((S19.1 0 12) + (nI 1)) / (nI 20) * (nI 20))) 13 (if (nI 20) < ((S19.1 0 13) + (nI 1)) then (nI 20) else ((S19.1 0 13) + (nI 1)))))))) ∧ ((S.1 0 12) = nI 19 → (ctU G 1 M_X1_copyFrom fr [.ref 171, .ref 82] lB S tl (fun S20 => ¬ (nI 20) = 0 ∧ (K (sV (sV S20 12 (((S20.1 0 12) + (nI 1)) - ((S20.1 0 12) + (nI 1)) / (nI 20) * (nI 20))) 13 (if (nI 20) < ((S20.1 0 13) + (nI 1)) then (nI 20) else ((S20.1 0 13) + (nI 1))))))))) :
    ctU G 2 M_X11_remember fr [.ref 0] lB S tl K := by
  refine wp_ct o_X11_remember (Nat.le_of_ble_eq_true rfl) ?_
  replace h := h (hLy lB S tl).length
  revert h
  generalize (hLy lB S tl).length = n0
  intro h
  iterate 4 refine ws_b rfl ?_
  by_cases q0 : (S.1 0 12) = nI 0
  · refine ws_aal rfl rfl (Or.inr rfl) h.1 (by rw [q0]; rfl) ?_
    replace h := h.2.1 q0
    iterate 2 refine ws_b rfl ?_
    refine wp_cV rfl rfl o_X1_copyFrom v_X1_copyFrom h rfl rfl rfl (Nat.le_of_ble_eq_true rfl) (by decide) ?_
    clear h
    rintro r9 h9 ⟨S1, rfl, rfl, h⟩
    iterate 6 refine ws_b rfl ?_
    refine ws_g rfl h.1 ?_
    replace h := h.2
    iterate 7 refine ws_b rfl ?_
    refine wp_min rfl rfl (Nat.le_of_ble_eq_true rfl) (by decide) ?_
    refine ws_b rfl ?_
    exact wp_rv rfl rfl ⟨_, rfl, rfl, h⟩
  by_cases q1 : (S.1 0 12) = nI 1
  · refine ws_aal rfl rfl (Or.inr rfl) h.1 (by rw [q1]; rfl) ?_
    replace h := h.2.2.1 q1
    iterate 2 refine ws_b rfl ?_
    refine wp_cV rfl rfl o_X1_copyFrom v_X1_copyFrom h rfl rfl rfl (Nat.le_of_ble_eq_true rfl) (by decide) ?_
    clear h
    rintro r9 h9 ⟨S2, rfl, rfl, h⟩
    iterate 6 refine ws_b rfl ?_
    refine ws_g rfl h.1 ?_
    replace h := h.2
    iterate 7 refine ws_b rfl ?_
    refine wp_min rfl rfl (Nat.le_of_ble_eq_true rfl) (by decide) ?_
    refine ws_b rfl ?_
    exact wp_rv rfl rfl ⟨_, rfl, rfl, h⟩
  by_cases q2 : (S.1 0 12) = nI 2
  · refine ws_aal rfl rfl (Or.inr rfl) h.1 (by rw [q2]; rfl) ?_
    replace h := h.2.2.2.1 q2
    iterate 2 refine ws_b rfl ?_
    refine wp_cV rfl rfl o_X1_copyFrom v_X1_copyFrom h rfl rfl rfl (Nat.le_of_ble_eq_true rfl) (by decide) ?_
    clear h
    rintro r9 h9 ⟨S3, rfl, rfl, h⟩
    iterate 6 refine ws_b rfl ?_
    refine ws_g rfl h.1 ?_
    replace h := h.2
    iterate 7 refine ws_b rfl ?_
    refine wp_min rfl rfl (Nat.le_of_ble_eq_true rfl) (by decide) ?_
    refine ws_b rfl ?_
    exact wp_rv rfl rfl ⟨_, rfl, rfl, h⟩
  by_cases q3 : (S.1 0 12) = nI 3
  · refine ws_aal rfl rfl (Or.inr rfl) h.1 (by rw [q3]; rfl) ?_
    replace h := h.2.2.2.2.1 q3
    iterate 2 refine ws_b rfl ?_
    refine wp_cV rfl rfl o_X1_copyFrom v_X1_copyFrom h rfl rfl rfl (Nat.le_of_ble_eq_true rfl) (by decide) ?_
    clear h
    rintro r9 h9 ⟨S4, rfl, rfl, h⟩
    iterate 6 refine ws_b rfl ?_
    refine ws_g rfl h.1 ?_
    replace h := h.2
    iterate 7 refine ws_b rfl ?_
    refine wp_min rfl rfl (Nat.le_of_ble_eq_true rfl) (by decide) ?_
    refine ws_b rfl ?_
    exact wp_rv rfl rfl ⟨_, rfl, rfl, h⟩
  by_cases q4 : (S.1 0 12) = nI 4
  · refine ws_aal rfl rfl (Or.inr rfl) h.1 (by rw [q4]; rfl) ?_
    replace h := h.2.2.2.2.2.1 q4
    iterate 2 refine ws_b rfl ?_
    refine wp_cV rfl rfl o_X1_copyFrom v_X1_copyFrom h rfl rfl rfl (Nat.le_of_ble_eq_true rfl) (by decide) ?_
    clear h
    rintro r9 h9 ⟨S5, rfl, rfl, h⟩
    iterate 6 refine ws_b rfl ?_
    refine ws_g rfl h.1 ?_
    replace h := h.2
    iterate 7 refine ws_b rfl ?_
    refine wp_min rfl rfl (Nat.le_of_ble_eq_true rfl) (by decide) ?_
    refine ws_b rfl ?_
    exact wp_rv rfl rfl ⟨_, rfl, rfl, h⟩
  by_cases q5 : (S.1 0 12) = nI 5
  · refine ws_aal rfl rfl (Or.inr rfl) h.1 (by rw [q5]; rfl) ?_
    replace h := h.2.2.2.2.2.2.1 q5
    iterate 2 refine ws_b rfl ?_
    refine wp_cV rfl rfl o_X1_copyFrom v_X1_copyFrom h rfl rfl rfl (Nat.le_of_ble_eq_true rfl) (by decide) ?_
    clear h
    rintro r9 h9 ⟨S6, rfl, rfl, h⟩
    iterate 6 refine ws_b rfl ?_
    refine ws_g rfl h.1 ?_
    replace h := h.2
    iterate 7 refine ws_b rfl ?_
    refine wp_min rfl rfl (Nat.le_of_ble_eq_true rfl) (by decide) ?_
    refine ws_b rfl ?_
    exact wp_rv rfl rfl ⟨_, rfl, rfl, h⟩
  by_cases q6 : (S.1 0 12) = nI 6
  · refine ws_aal rfl rfl (Or.inr rfl) h.1 (by rw [q6]; rfl) ?_
    replace h := h.2.2.2.2.2.2.2.1 q6
    iterate 2 refine ws_b rfl ?_
    refine wp_cV rfl rfl o_X1_copyFrom v_X1_copyFrom h rfl rfl rfl (Nat.le_of_ble_eq_true rfl) (by decide) ?_
    clear h
    rintro r9 h9 ⟨S7, rfl, rfl, h⟩
    iterate 6 refine ws_b rfl ?_
    refine ws_g rfl h.1 ?_
    replace h := h.2
    iterate 7 refine ws_b rfl ?_
    refine wp_min rfl rfl (Nat.le_of_ble_eq_true rfl) (by decide) ?_
    refine ws_b rfl ?_
    exact wp_rv rfl rfl ⟨_, rfl, rfl, h⟩
  by_cases q7 : (S.1 0 12) = nI 7
  · refine ws_aal rfl rfl (Or.inr rfl) h.1 (by rw [q7]; rfl) ?_
    replace h := h.2.2.2.2.2.2.2.2.1 q7
    iterate 2 refine ws_b rfl ?_
    refine wp_cV rfl rfl o_X1_copyFrom v_X1_copyFrom h rfl rfl rfl (Nat.le_of_ble_eq_true rfl) (by decide) ?_
    clear h
    rintro r9 h9 ⟨S8, rfl, rfl, h⟩
    iterate 6 refine ws_b rfl ?_
    refine ws_g rfl h.1 ?_
    replace h := h.2
    iterate 7 refine ws_b rfl ?_
    refine wp_min rfl rfl (Nat.le_of_ble_eq_true rfl) (by decide) ?_
    refine ws_b rfl ?_
    exact wp_rv rfl rfl ⟨_, rfl, rfl, h⟩
  by_cases q8 : (S.1 0 12) = nI 8
  · refine ws_aal rfl rfl (Or.inr rfl) h.1 (by rw [q8]; rfl) ?_
    replace h := h.2.2.2.2.2.2.2.2.2.1 q8
    iterate 2 refine ws_b rfl ?_
    refine wp_cV rfl rfl o_X1_copyFrom v_X1_copyFrom h rfl rfl rfl (Nat.le_of_ble_eq_true rfl) (by decide) ?_
    clear h
    rintro r9 h9 ⟨S9, rfl, rfl, h⟩
    iterate 6 refine ws_b rfl ?_
    refine ws_g rfl h.1 ?_
    replace h := h.2
    iterate 7 refine ws_b rfl ?_
    refine wp_min rfl rfl (Nat.le_of_ble_eq_true rfl) (by decide) ?_
    refine ws_b rfl ?_
    exact wp_rv rfl rfl ⟨_, rfl, rfl, h⟩
  by_cases q9 : (S.1 0 12) = nI 9
  · refine ws_aal rfl rfl (Or.inr rfl) h.1 (by rw [q9]; rfl) ?_
    replace h := h.2.2.2.2.2.2.2.2.2.2.1 q9
    iterate 2 refine ws_b rfl ?_
    refine wp_cV rfl rfl o_X1_copyFrom v_X1_copyFrom h rfl rfl rfl (Nat.le_of_ble_eq_true rfl) (by decide) ?_
    clear h
    rintro r9 h9 ⟨S10, rfl, rfl, h⟩
    iterate 6 refine ws_b rfl ?_
    refine ws_g rfl h.1 ?_
    replace h := h.2
    iterate 7 refine ws_b rfl ?_
    refine wp_min rfl rfl (Nat.le_of_ble_eq_true rfl) (by decide) ?_
    refine ws_b rfl ?_
    exact wp_rv rfl rfl ⟨_, rfl, rfl, h⟩
  by_cases q10 : (S.1 0 12) = nI 10
  · refine ws_aal rfl rfl (Or.inr rfl) h.1 (by rw [q10]; rfl) ?_
    replace h := h.2.2.2.2.2.2.2.2.2.2.2.1 q10
    iterate 2 refine ws_b rfl ?_
    refine wp_cV rfl rfl o_X1_copyFrom v_X1_copyFrom h rfl rfl rfl (Nat.le_of_ble_eq_true rfl) (by decide) ?_
    clear h
    rintro r9 h9 ⟨S11, rfl, rfl, h⟩
    iterate 6 refine ws_b rfl ?_
    refine ws_g rfl h.1 ?_
    replace h := h.2
    iterate 7 refine ws_b rfl ?_
    refine wp_min rfl rfl (Nat.le_of_ble_eq_true rfl) (by decide) ?_
    refine ws_b rfl ?_
    exact wp_rv rfl rfl ⟨_, rfl, rfl, h⟩
  by_cases q11 : (S.1 0 12) = nI 11
  · refine ws_aal rfl rfl (Or.inr rfl) h.1 (by rw [q11]; rfl) ?_
    replace h := h.2.2.2.2.2.2.2.2.2.2.2.2.1 q11
    iterate 2 refine ws_b rfl ?_
    refine wp_cV rfl rfl o_X1_copyFrom v_X1_copyFrom h rfl rfl rfl (Nat.le_of_ble_eq_true rfl) (by decide) ?_
    clear h
    rintro r9 h9 ⟨S12, rfl, rfl, h⟩
    iterate 6 refine ws_b rfl ?_
    refine ws_g rfl h.1 ?_
    replace h := h.2
    iterate 7 refine ws_b rfl ?_
    refine wp_min rfl rfl (Nat.le_of_ble_eq_true rfl) (by decide) ?_
    refine ws_b rfl ?_
    exact wp_rv rfl rfl ⟨_, rfl, rfl, h⟩
  by_cases q12 : (S.1 0 12) = nI 12
  · refine ws_aal rfl rfl (Or.inr rfl) h.1 (by rw [q12]; rfl) ?_
    replace h := h.2.2.2.2.2.2.2.2.2.2.2.2.2.1 q12
    iterate 2 refine ws_b rfl ?_
    refine wp_cV rfl rfl o_X1_copyFrom v_X1_copyFrom h rfl rfl rfl (Nat.le_of_ble_eq_true rfl) (by decide) ?_
    clear h
    rintro r9 h9 ⟨S13, rfl, rfl, h⟩
    iterate 6 refine ws_b rfl ?_
    refine ws_g rfl h.1 ?_
    replace h := h.2
    iterate 7 refine ws_b rfl ?_
    refine wp_min rfl rfl (Nat.le_of_ble_eq_true rfl) (by decide) ?_
    refine ws_b rfl ?_
    exact wp_rv rfl rfl ⟨_, rfl, rfl, h⟩
  by_cases q13 : (S.1 0 12) = nI 13
  · refine ws_aal rfl rfl (Or.inr rfl) h.1 (by rw [q13]; rfl) ?_
    replace h := h.2.2.2.2.2.2.2.2.2.2.2.2.2.2.1 q13
    iterate 2 refine ws_b rfl ?_
    refine wp_cV rfl rfl o_X1_copyFrom v_X1_copyFrom h rfl rfl rfl (Nat.le_of_ble_eq_true rfl) (by decide) ?_
    clear h
    rintro r9 h9 ⟨S14, rfl, rfl, h⟩
    iterate 6 refine ws_b rfl ?_
    refine ws_g rfl h.1 ?_
    replace h := h.2
    iterate 7 refine ws_b rfl ?_
    refine wp_min rfl rfl (Nat.le_of_ble_eq_true rfl) (by decide) ?_
    refine ws_b rfl ?_
    exact wp_rv rfl rfl ⟨_, rfl, rfl, h⟩
  by_cases q14 : (S.1 0 12) = nI 14
  · refine ws_aal rfl rfl (Or.inr rfl) h.1 (by rw [q14]; rfl) ?_
    replace h := h.2.2.2.2.2.2.2.2.2.2.2.2.2.2.2.1 q14
    iterate 2 refine ws_b rfl ?_
    refine wp_cV rfl rfl o_X1_copyFrom v_X1_copyFrom h rfl rfl rfl (Nat.le_of_ble_eq_true rfl) (by decide) ?_
    clear h
    rintro r9 h9 ⟨S15, rfl, rfl, h⟩
    iterate 6 refine ws_b rfl ?_
    refine ws_g rfl h.1 ?_
    replace h := h.2
    iterate 7 refine ws_b rfl ?_
    refine wp_min rfl rfl (Nat.le_of_ble_eq_true rfl) (by decide) ?_
    refine ws_b rfl ?_
    exact wp_rv rfl rfl ⟨_, rfl, rfl, h⟩
  by_cases q15 : (S.1 0 12) = nI 15
  · refine ws_aal rfl rfl (Or.inr rfl) h.1 (by rw [q15]; rfl) ?_
    replace h := h.2.2.2.2.2.2.2.2.2.2.2.2.2.2.2.2.1 q15
    iterate 2 refine ws_b rfl ?_
    refine wp_cV rfl rfl o_X1_copyFrom v_X1_copyFrom h rfl rfl rfl (Nat.le_of_ble_eq_true rfl) (by decide) ?_
    clear h
    rintro r9 h9 ⟨S16, rfl, rfl, h⟩
    iterate 6 refine ws_b rfl ?_
    refine ws_g rfl h.1 ?_
    replace h := h.2
    iterate 7 refine ws_b rfl ?_
    refine wp_min rfl rfl (Nat.le_of_ble_eq_true rfl) (by decide) ?_
    refine ws_b rfl ?_
    exact wp_rv rfl rfl ⟨_, rfl, rfl, h⟩
  by_cases q16 : (S.1 0 12) = nI 16
  · refine ws_aal rfl rfl (Or.inr rfl) h.1 (by rw [q16]; rfl) ?_
    replace h := h.2.2.2.2.2.2.2.2.2.2.2.2.2.2.2.2.2.1 q16
    iterate 2 refine ws_b rfl ?_
    refine wp_cV rfl rfl o_X1_copyFrom v_X1_copyFrom h rfl rfl rfl (Nat.le_of_ble_eq_true rfl) (by decide) ?_
    clear h
    rintro r9 h9 ⟨S17, rfl, rfl, h⟩
    iterate 6 refine ws_b rfl ?_
    refine ws_g rfl h.1 ?_
    replace h := h.2
    iterate 7 refine ws_b rfl ?_
    refine wp_min rfl rfl (Nat.le_of_ble_eq_true rfl) (by decide) ?_
    refine ws_b rfl ?_
    exact wp_rv rfl rfl ⟨_, rfl, rfl, h⟩
  by_cases q17 : (S.1 0 12) = nI 17
  · refine ws_aal rfl rfl (Or.inr rfl) h.1 (by rw [q17]; rfl) ?_
    replace h := h.2.2.2.2.2.2.2.2.2.2.2.2.2.2.2.2.2.2.1 q17
    iterate 2 refine ws_b rfl ?_
    refine wp_cV rfl rfl o_X1_copyFrom v_X1_copyFrom h rfl rfl rfl (Nat.le_of_ble_eq_true rfl) (by decide) ?_
    clear h
    rintro r9 h9 ⟨S18, rfl, rfl, h⟩
    iterate 6 refine ws_b rfl ?_
    refine ws_g rfl h.1 ?_
    replace h := h.2
    iterate 7 refine ws_b rfl ?_
    refine wp_min rfl rfl (Nat.le_of_ble_eq_true rfl) (by decide) ?_
    refine ws_b rfl ?_
    exact wp_rv rfl rfl ⟨_, rfl, rfl, h⟩
  by_cases q18 : (S.1 0 12) = nI 18
  · refine ws_aal rfl rfl (Or.inr rfl) h.1 (by rw [q18]; rfl) ?_
    replace h := h.2.2.2.2.2.2.2.2.2.2.2.2.2.2.2.2.2.2.2.1 q18
    iterate 2 refine ws_b rfl ?_
    refine wp_cV rfl rfl o_X1_copyFrom v_X1_copyFrom h rfl rfl rfl (Nat.le_of_ble_eq_true rfl) (by decide) ?_
    clear h
    rintro r9 h9 ⟨S19, rfl, rfl, h⟩
    iterate 6 refine ws_b rfl ?_
    refine ws_g rfl h.1 ?_
    replace h := h.2
    iterate 7 refine ws_b rfl ?_
    refine wp_min rfl rfl (Nat.le_of_ble_eq_true rfl) (by decide) ?_
    refine ws_b rfl ?_
    exact wp_rv rfl rfl ⟨_, rfl, rfl, h⟩
  by_cases q19 : (S.1 0 12) = nI 19
  · refine ws_aal rfl rfl (Or.inr rfl) h.1 (by rw [q19]; rfl) ?_
    replace h := h.2.2.2.2.2.2.2.2.2.2.2.2.2.2.2.2.2.2.2.2 q19
    iterate 2 refine ws_b rfl ?_
    refine wp_cV rfl rfl o_X1_copyFrom v_X1_copyFrom h rfl rfl rfl (Nat.le_of_ble_eq_true rfl) (by decide) ?_
    clear h
    rintro r9 h9 ⟨S20, rfl, rfl, h⟩
    iterate 6 refine ws_b rfl ?_
    refine ws_g rfl h.1 ?_
    replace h := h.2
    iterate 7 refine ws_b rfl ?_
    refine wp_min rfl rfl (Nat.le_of_ble_eq_true rfl) (by decide) ?_
    refine ws_b rfl ?_
    exact wp_rv rfl rfl ⟨_, rfl, rfl, h⟩
  exact (vp_sp20 h.1 q0 q1 q2 q3 q4 q5 q6 q7 q8 q9 q10 q11 q12 q13 q14 q15 q16 q17 q18 q19).elim
set_option maxRecDepth 100000 in
set_option maxHeartbeats 4000000 in
theorem m_X11_undo {G : ab_G} {fr : Bool} {tl : ab_H} {K : Int32 → ms_S → Prop} {S : ms_S} 
    (h : ∀ n0 : Nat, ((S.1 0 13) = 0 → (K (-(nI 1)) S)) ∧ (¬ (S.1 0 13) = 0 → (¬ (nI 20) = 0 ∧ (vp_in ((((S.1 0 12) + (nI 20)) - (nI 1)) - (((S.1 0 12) + (nI 20)) - (nI 1)) / (nI 20) * (nI 20)) 20 ∧ (((((S.1 0 12) + (nI 20)) - (nI 1)) - (((S.1 0 12) + (nI 20)) - (nI 1)) / (nI 20) * (nI 20)) = nI 0 → (ctU G 1 M_X1_copyFrom fr [.ref 82, .ref 95] lB (sV (sV S 12 ((((S.1 0 12) + (nI 20)) - (nI 1)) - (((S.1 0 12) + (nI 20)) - (nI 1)) / (nI 20) * (nI 20))) 13 ((S.1 0 13) - (nI 1))) tl (fun S1 => K (S1.1 0 13) S1))) ∧ (((((S.1 0 12) + (nI 20)) - (nI 1)) - (((S.1 0 12) + (nI 20)) - (nI 1)) / (nI 20) * (nI 20)) = nI 1 → (ctU G 1 M_X1_copyFrom fr [.ref 82, .ref 99] lB (sV (sV S 12 ((((S.1 0 12) + (nI 20)) - (nI 1)) - (((S.1 0 12) + (nI 20)) - (nI 1)) / (nI 20) * (nI 20))) 13 ((S.1 0 13) - (nI 1))) tl (fun S2 => K (S2.1 0 13) S2))) ∧ (((((S.1 0 12) + (nI 20)) - (nI 1)) - (((S.1 0 12) + (nI 20)) - (nI 1)) / (nI 20) * (nI 20)) = nI 2 → (ctU G 1 M_X1_copyFrom fr [.ref 82, .ref 103] lB (sV (sV S 12 ((((S.1 0 12) + (nI 20)) - (nI 1)) - (((S.1 0 12) + (nI 20)) - (nI 1)) / (nI 20) * (nI 20))) 13 ((S.1 0 13) - (nI 1))) tl (fun S3 => K (S3.1 0 13) S3))) ∧ (((((S.1 0 12) + (nI 20)) - (nI 1)) - (((S.1 0 12) + (nI 20)) - (nI 1)) / (nI 20) * (nI 20)) = nI 3 → (ctU G 1 M_X1_copyFrom fr [.ref 82, .ref 107] lB (sV (sV S 12 ((((S.1 0 12) + (nI 20)) - (nI 1)) - (((S.1 0 12) + (nI 20)) - (nI 1)) / (nI 20) * (nI 20))) 13 ((S.1 0 13) - (nI 1))) tl (fun S4 => K (S4.1 0 13) S4))) ∧ (((((S.1 0 12) + (nI 20)) - (nI 1)) - (((S.1 0 12) + (nI 20)) - (nI 1)) / (nI 20) * (nI 20)) = nI 4 → (ctU G 1 M_X1_copyFrom fr [.ref 82, .ref 111] lB (sV (sV S 12 ((((S.1 0 12) + (nI 20)) - (nI 1)) - (((S.1 0 12) + (nI 20)) - (nI 1)) / (nI 20) * (nI 20))) 13 ((S.1 0 13) - (nI 1))) tl (fun S5 => K (S5.1 0 13) S5))) ∧ (((((S.1 0 12) + (nI 20)) - (nI 1)) - (((S.1 0 12) + (nI 20)) - (nI 1)) / (nI 20) * (nI 20)) = nI 5 → (ctU G 1 M_X1_copyFrom fr [.ref 82, .ref 115] lB (sV (sV S 12 ((((S.1 0 12) + (nI 20)) - (nI 1)) - (((S.1 0 12) + (nI 20)) - (nI 1)) / (nI 20) * (nI 20))) 13 ((S.1 0 13) - (nI 1))) tl (fun S6 => K (S6.1 0 13) S6))) ∧ (((((S.1 0 12) + (nI 20)) - (nI 1)) - (((S.1 0 12) + (nI 20)) - (nI 1)) / (nI 20) * (nI 20)) = nI 6 → (ctU G 1 M_X1_copyFrom fr [.ref 82, .ref 119] lB (sV (sV S 12 ((((S.1 0 12) + (nI 20)) - (nI 1)) - (((S.1 0 12) + (nI 20)) - (nI 1)) / (nI 20) * (nI 20))) 13 ((S.1 0 13) - (nI 1))) tl (fun S7 => K (S7.1 0 13) S7))) ∧ (((((S.1 0 12) + (nI 20)) - (nI 1)) - (((S.1 0 12) + (nI 20)) - (nI 1)) / (nI 20) * (nI 20)) = nI 7 → (ctU G 1 M_X1_copyFrom fr [.ref 82, .ref 123] lB (sV (sV S 12 ((((S.1 0 12) + (nI 20)) - (nI 1)) - (((S.1 0 12) + (nI 20)) - (nI 1)) / (nI 20) * (nI 20))) 13 ((S.1 0 13) - (nI 1))) tl (fun S8 => K (S8.1 0 13) S8))) ∧ (((((S.1 0 12) + (nI 20)) - (nI 1)) - (((S.1 0 12) + (nI 20)) - (nI 1)) / (nI 20) * (nI 20)) = nI 8 → (ctU G 1 M_X1_copyFrom fr [.ref 82, .ref 127] lB (sV (sV S 12 ((((S.1 0 12) + (nI 20)) - (nI 1)) - (((S.1 0 12) + (nI 20)) - (nI 1)) / (nI 20) * (nI 20))) 13 ((S.1 0 13) - (nI 1))) tl (fun S9 => K (S9.1 0 13) S9))) ∧ (((((S.1 0 12) + (nI 20)) - (nI 1)) - (((S.1 0 12) + (nI 20)) - (nI 1)) / (nI 20) * (nI 20)) = nI 9 → (ctU G 1 M_X1_copyFrom fr [.ref 82, .ref 131] lB (sV (sV S 12 ((((S.1 0 12) + (nI 20)) - (nI 1)) - (((S.1 0 12) + (nI 20)) - (nI 1)) / (nI 20) * (nI 20))) 13 ((S.1 0 13) - (nI 1))) tl (fun S10 => K (S10.1 0 13) S10))) ∧ (((((S.1 0 12) + (nI 20)) - (nI 1)) - (((S.1 0 12) + (nI 20)) - (nI 1)) / (nI 20) * (nI 20)) = nI 10 → (ctU G 1 M_X1_copyFrom fr [.ref 82, .ref 135] lB (sV (sV S 12 ((((S.1 0 12) + (nI 20)) - (nI 1)) - (((S.1 0 12) + (nI 20)) - (nI 1)) / (nI 20) * (nI 20))) 13 ((S.1 0 13) - (nI 1))) tl (fun S11 => K (S11.1 0 13) S11))) ∧ (((((S.1 0 12) + (nI 20)) - (nI 1)) - (((S.1 0 12) + (nI 20)) - (nI 1)) / (nI 20) * (nI 20)) = nI 11 → (ctU G 1 M_X1_copyFrom fr [.ref 82, .ref 139] lB (sV (sV S 12 ((((S.1 0 12) + (nI 20)) - (nI 1)) - (((S.1 0 12) + (nI 20)) - (nI 1)) / (nI 20) * (nI 20))) 13 ((S.1 0 13) - (nI 1))) tl (fun S12 => K (S12.1 0 13) S12))) ∧ (((((S.1 0 12) + (nI 20)) - (nI 1)) - (((S.1 0 12) + (nI 20)) - (nI 1)) / (nI 20) * (nI 20)) = nI 12 → (ctU G 1 M_X1_copyFrom fr [.ref 82, .ref 143] lB (sV (sV S 12 ((((S.1 0 12) + (nI 20)) - (nI 1)) - (((S.1 0 12) + (nI 20)) - (nI 1)) / (nI 20) * (nI 20))) 13 ((S.1 0 13) - (nI 1))) tl (fun S13 => K (S13.1 0 13) S13))) ∧ (((((S.1 0 12) + (nI 20)) - (nI 1)) - (((S.1 0 12) + (nI 20)) - (nI 1)) / (nI 20) * (nI 20)) = nI 13 → (ctU G 1 M_X1_copyFrom fr [.ref 82, .ref 147] lB (sV (sV S 12 ((((S.1 0 12) + (nI 20)) - (nI 1)) - (((S.1 0 12) + (nI 20)) - (nI 1)) / (nI 20) * (nI 20))) 13 ((S.1 0 13) - (nI 1))) tl (fun S14 => K (S14.1 0 13) S14))) ∧ (((((S.1 0 12) + (nI 20)) - (nI 1)) - (((S.1 0 12) + (nI 20)) - (nI 1)) / (nI 20) * (nI 20)) = nI 14 → (ctU G 1 M_X1_copyFrom fr [.ref 82, .ref 151] lB (sV (sV S 12 ((((S.1 0 12) + (nI 20)) - (nI 1)) - (((S.1 0 12) + (nI 20)) - (nI 1)) / (nI 20) * (nI 20))) 13 ((S.1 0 13) - (nI 1))) tl (fun S15 => K (S15.1 0 13) S15))) ∧ (((((S.1 0 12) + (nI 20)) - (nI 1)) - (((S.1 0 12) + (nI 20)) - (nI 1)) / (nI 20) * (nI 20)) = nI 15 → (ctU G 1 M_X1_copyFrom fr [.ref 82, .ref 155] lB (sV (sV S 12 ((((S.1 0 12) + (nI 20)) - (nI 1)) - (((S.1 0 12) + (nI 20)) - (nI 1)) / (nI 20) * (nI 20))) 13 ((S.1 0 13) - (nI 1))) tl (fun S16 => K (S16.1 0 13) S16))) ∧ (((((S.1 0 12) + (nI 20)) - (nI 1)) - (((S.1 0 12) + (nI 20)) - (nI 1)) / (nI 20) * (nI 20)) = nI 16 → (ctU G 1 M_X1_copyFrom fr [.ref 82, .ref 159] lB (sV (sV S 12 ((((S.1 0 12) + (nI 20)) - (nI 1)) - (((S.1 0 12) + (nI 20)) - (nI 1)) / (nI 20) * (nI 20))) 13 ((S.1 0 13) - (nI 1))) tl (fun S17 => K (S17.1 0 13) S17))) ∧ (((((S.1 0 12) + (nI 20)) - (nI 1)) - (((S.1 0 12) + (nI 20)) - (nI 1)) / (nI 20) * (nI 20)) = nI 17 → (ctU G 1 M_X1_copyFrom fr [.ref 82, .ref 163] lB (sV (sV S 12 ((((S.1 0 12) + (nI 20)) - (nI 1)) - (((S.1 0 12) + (nI 20)) - (nI 1)) / (nI 20) * (nI 20))) 13 ((S.1 0 13) - (nI 1))) tl (fun S18 => K (S18.1 0 13) S18))) ∧ (((((S.1 0 12) + (nI 20)) - (nI 1)) - (((S.1 0 12) + (nI 20)) - (nI 1)) / (nI 20) * (nI 20)) = nI 18 → (ctU G 1 M_X1_copyFrom fr [.ref 82, .ref 167] lB (sV (sV S 12 ((((S.1 0 12) + (nI 20)) - (nI 1)) - (((S.1 0 12) + (nI 20)) - (nI 1)) / (nI 20) * (nI 20))) 13 ((S.1 0 13) - (nI 1))) tl (fun S19 => K (S19.1 0 13) S19))) ∧ (((((S.1 0 12) + (nI 20)) - (nI 1)) - (((S.1 0 12) + (nI 20)) - (nI 1)) / (nI 20) * (nI 20)) = nI 19 → (ctU G 1 M_X1_copyFrom fr [.ref 82, .ref 171] lB (sV (sV S 12 ((((S.1 0 12) + (nI 20)) - (nI 1)) - (((S.1 0 12) + (nI 20)) - (nI 1)) / (nI 20) * (nI 20))) 13 ((S.1 0 13) - (nI 1))) tl (fun S20 => K (S20.1 0 13) S20))))))) :
    ctI G 2 M_X11_undo fr [.ref 0] lB S tl K := by
  refine wp_ct o_X11_undo (Nat.le_of_ble_eq_true rfl) ?_
  replace h := h (hLy lB S tl).length
  revert h
  generalize (hLy lB S tl).length = n0
  intro h
  iterate 3 refine ws_b rfl ?_
  refine wp_ite (fun q => ?_) (fun q => ?_)
  · replace h := h.1 q
    refine ws_b rfl ?_
    exact wp_ri rfl rfl rfl ⟨_, _, rfl, rfl, h⟩
  · replace h := h.2 q
    iterate 8 refine ws_b rfl ?_
    refine ws_g rfl h.1 ?_
    replace h := h.2
    iterate 13 refine ws_b rfl ?_
    by_cases q0 : ((((S.1 0 12) + (nI 20)) - (nI 1)) - (((S.1 0 12) + (nI 20)) - (nI 1)) / (nI 20) * (nI 20)) = nI 0
    · refine ws_aal rfl rfl (Or.inr rfl) h.1 (by rw [q0]; rfl) ?_
      replace h := h.2.1 q0
      refine wp_cV rfl rfl o_X1_copyFrom v_X1_copyFrom h rfl rfl rfl (Nat.le_of_ble_eq_true rfl) (by decide) ?_
      clear h
      rintro r9 h9 ⟨S1, rfl, rfl, h⟩
      iterate 2 refine ws_b rfl ?_
      exact wp_ri rfl rfl rfl ⟨_, _, rfl, rfl, h⟩
    by_cases q1 : ((((S.1 0 12) + (nI 20)) - (nI 1)) - (((S.1 0 12) + (nI 20)) - (nI 1)) / (nI 20) * (nI 20)) = nI 1
    · refine ws_aal rfl rfl (Or.inr rfl) h.1 (by rw [q1]; rfl) ?_
      replace h := h.2.2.1 q1
      refine wp_cV rfl rfl o_X1_copyFrom v_X1_copyFrom h rfl rfl rfl (Nat.le_of_ble_eq_true rfl) (by decide) ?_
      clear h
      rintro r9 h9 ⟨S2, rfl, rfl, h⟩
      iterate 2 refine ws_b rfl ?_
      exact wp_ri rfl rfl rfl ⟨_, _, rfl, rfl, h⟩
    by_cases q2 : ((((S.1 0 12) + (nI 20)) - (nI 1)) - (((S.1 0 12) + (nI 20)) - (nI 1)) / (nI 20) * (nI 20)) = nI 2
    · refine ws_aal rfl rfl (Or.inr rfl) h.1 (by rw [q2]; rfl) ?_
      replace h := h.2.2.2.1 q2
      refine wp_cV rfl rfl o_X1_copyFrom v_X1_copyFrom h rfl rfl rfl (Nat.le_of_ble_eq_true rfl) (by decide) ?_
      clear h
      rintro r9 h9 ⟨S3, rfl, rfl, h⟩
      iterate 2 refine ws_b rfl ?_
      exact wp_ri rfl rfl rfl ⟨_, _, rfl, rfl, h⟩
    by_cases q3 : ((((S.1 0 12) + (nI 20)) - (nI 1)) - (((S.1 0 12) + (nI 20)) - (nI 1)) / (nI 20) * (nI 20)) = nI 3
    · refine ws_aal rfl rfl (Or.inr rfl) h.1 (by rw [q3]; rfl) ?_
      replace h := h.2.2.2.2.1 q3
      refine wp_cV rfl rfl o_X1_copyFrom v_X1_copyFrom h rfl rfl rfl (Nat.le_of_ble_eq_true rfl) (by decide) ?_
      clear h
      rintro r9 h9 ⟨S4, rfl, rfl, h⟩
      iterate 2 refine ws_b rfl ?_
      exact wp_ri rfl rfl rfl ⟨_, _, rfl, rfl, h⟩
    by_cases q4 : ((((S.1 0 12) + (nI 20)) - (nI 1)) - (((S.1 0 12) + (nI 20)) - (nI 1)) / (nI 20) * (nI 20)) = nI 4
    · refine ws_aal rfl rfl (Or.inr rfl) h.1 (by rw [q4]; rfl) ?_
      replace h := h.2.2.2.2.2.1 q4
      refine wp_cV rfl rfl o_X1_copyFrom v_X1_copyFrom h rfl rfl rfl (Nat.le_of_ble_eq_true rfl) (by decide) ?_
      clear h
      rintro r9 h9 ⟨S5, rfl, rfl, h⟩
      iterate 2 refine ws_b rfl ?_
      exact wp_ri rfl rfl rfl ⟨_, _, rfl, rfl, h⟩
    by_cases q5 : ((((S.1 0 12) + (nI 20)) - (nI 1)) - (((S.1 0 12) + (nI 20)) - (nI 1)) / (nI 20) * (nI 20)) = nI 5
    · refine ws_aal rfl rfl (Or.inr rfl) h.1 (by rw [q5]; rfl) ?_
      replace h := h.2.2.2.2.2.2.1 q5
      refine wp_cV rfl rfl o_X1_copyFrom v_X1_copyFrom h rfl rfl rfl (Nat.le_of_ble_eq_true rfl) (by decide) ?_
      clear h
      rintro r9 h9 ⟨S6, rfl, rfl, h⟩
      iterate 2 refine ws_b rfl ?_
      exact wp_ri rfl rfl rfl ⟨_, _, rfl, rfl, h⟩
    by_cases q6 : ((((S.1 0 12) + (nI 20)) - (nI 1)) - (((S.1 0 12) + (nI 20)) - (nI 1)) / (nI 20) * (nI 20)) = nI 6
    · refine ws_aal rfl rfl (Or.inr rfl) h.1 (by rw [q6]; rfl) ?_
      replace h := h.2.2.2.2.2.2.2.1 q6
      refine wp_cV rfl rfl o_X1_copyFrom v_X1_copyFrom h rfl rfl rfl (Nat.le_of_ble_eq_true rfl) (by decide) ?_
      clear h
      rintro r9 h9 ⟨S7, rfl, rfl, h⟩
      iterate 2 refine ws_b rfl ?_
      exact wp_ri rfl rfl rfl ⟨_, _, rfl, rfl, h⟩
    by_cases q7 : ((((S.1 0 12) + (nI 20)) - (nI 1)) - (((S.1 0 12) + (nI 20)) - (nI 1)) / (nI 20) * (nI 20)) = nI 7
    · refine ws_aal rfl rfl (Or.inr rfl) h.1 (by rw [q7]; rfl) ?_
      replace h := h.2.2.2.2.2.2.2.2.1 q7
      refine wp_cV rfl rfl o_X1_copyFrom v_X1_copyFrom h rfl rfl rfl (Nat.le_of_ble_eq_true rfl) (by decide) ?_
      clear h
      rintro r9 h9 ⟨S8, rfl, rfl, h⟩
      iterate 2 refine ws_b rfl ?_
      exact wp_ri rfl rfl rfl ⟨_, _, rfl, rfl, h⟩
    by_cases q8 : ((((S.1 0 12) + (nI 20)) - (nI 1)) - (((S.1 0 12) + (nI 20)) - (nI 1)) / (nI 20) * (nI 20)) = nI 8
    · refine ws_aal rfl rfl (Or.inr rfl) h.1 (by rw [q8]; rfl) ?_
      replace h := h.2.2.2.2.2.2.2.2.2.1 q8
      refine wp_cV rfl rfl o_X1_copyFrom v_X1_copyFrom h rfl rfl rfl (Nat.le_of_ble_eq_true rfl) (by decide) ?_
      clear h
      rintro r9 h9 ⟨S9, rfl, rfl, h⟩
      iterate 2 refine ws_b rfl ?_
      exact wp_ri rfl rfl rfl ⟨_, _, rfl, rfl, h⟩
    by_cases q9 : ((((S.1 0 12) + (nI 20)) - (nI 1)) - (((S.1 0 12) + (nI 20)) - (nI 1)) / (nI 20) * (nI 20)) = nI 9
    · refine ws_aal rfl rfl (Or.inr rfl) h.1 (by rw [q9]; rfl) ?_
      replace h := h.2.2.2.2.2.2.2.2.2.2.1 q9
      refine wp_cV rfl rfl o_X1_copyFrom v_X1_copyFrom h rfl rfl rfl (Nat.le_of_ble_eq_true rfl) (by decide) ?_
      clear h
      rintro r9 h9 ⟨S10, rfl, rfl, h⟩
      iterate 2 refine ws_b rfl ?_
      exact wp_ri rfl rfl rfl ⟨_, _, rfl, rfl, h⟩
    by_cases q10 : ((((S.1 0 12) + (nI 20)) - (nI 1)) - (((S.1 0 12) + (nI 20)) - (nI 1)) / (nI 20) * (nI 20)) = nI 10
    · refine ws_aal rfl rfl (Or.inr rfl) h.1 (by rw [q10]; rfl) ?_
      replace h := h.2.2.2.2.2.2.2.2.2.2.2.1 q10
      refine wp_cV rfl rfl o_X1_copyFrom v_X1_copyFrom h rfl rfl rfl (Nat.le_of_ble_eq_true rfl) (by decide) ?_
      clear h
      rintro r9 h9 ⟨S11, rfl, rfl, h⟩
      iterate 2 refine ws_b rfl ?_
      exact wp_ri rfl rfl rfl ⟨_, _, rfl, rfl, h⟩
    by_cases q11 : ((((S.1 0 12) + (nI 20)) - (nI 1)) - (((S.1 0 12) + (nI 20)) - (nI 1)) / (nI 20) * (nI 20)) = nI 11
    · refine ws_aal rfl rfl (Or.inr rfl) h.1 (by rw [q11]; rfl) ?_
      replace h := h.2.2.2.2.2.2.2.2.2.2.2.2.1 q11
      refine wp_cV rfl rfl o_X1_copyFrom v_X1_copyFrom h rfl rfl rfl (Nat.le_of_ble_eq_true rfl) (by decide) ?_
      clear h
      rintro r9 h9 ⟨S12, rfl, rfl, h⟩
      iterate 2 refine ws_b rfl ?_
      exact wp_ri rfl rfl rfl ⟨_, _, rfl, rfl, h⟩
    by_cases q12 : ((((S.1 0 12) + (nI 20)) - (nI 1)) - (((S.1 0 12) + (nI 20)) - (nI 1)) / (nI 20) * (nI 20)) = nI 12
    · refine ws_aal rfl rfl (Or.inr rfl) h.1 (by rw [q12]; rfl) ?_
      replace h := h.2.2.2.2.2.2.2.2.2.2.2.2.2.1 q12
      refine wp_cV rfl rfl o_X1_copyFrom v_X1_copyFrom h rfl rfl rfl (Nat.le_of_ble_eq_true rfl) (by decide) ?_
      clear h
      rintro r9 h9 ⟨S13, rfl, rfl, h⟩
      iterate 2 refine ws_b rfl ?_
      exact wp_ri rfl rfl rfl ⟨_, _, rfl, rfl, h⟩
    by_cases q13 : ((((S.1 0 12) + (nI 20)) - (nI 1)) - (((S.1 0 12) + (nI 20)) - (nI 1)) / (nI 20) * (nI 20)) = nI 13
    · refine ws_aal rfl rfl (Or.inr rfl) h.1 (by rw [q13]; rfl) ?_
      replace h := h.2.2.2.2.2.2.2.2.2.2.2.2.2.2.1 q13
      refine wp_cV rfl rfl o_X1_copyFrom v_X1_copyFrom h rfl rfl rfl (Nat.le_of_ble_eq_true rfl) (by decide) ?_
      clear h
      rintro r9 h9 ⟨S14, rfl, rfl, h⟩
      iterate 2 refine ws_b rfl ?_
      exact wp_ri rfl rfl rfl ⟨_, _, rfl, rfl, h⟩
    by_cases q14 : ((((S.1 0 12) + (nI 20)) - (nI 1)) - (((S.1 0 12) + (nI 20)) - (nI 1)) / (nI 20) * (nI 20)) = nI 14
    · refine ws_aal rfl rfl (Or.inr rfl) h.1 (by rw [q14]; rfl) ?_
      replace h := h.2.2.2.2.2.2.2.2.2.2.2.2.2.2.2.1 q14
      refine wp_cV rfl rfl o_X1_copyFrom v_X1_copyFrom h rfl rfl rfl (Nat.le_of_ble_eq_true rfl) (by decide) ?_
      clear h
      rintro r9 h9 ⟨S15, rfl, rfl, h⟩
      iterate 2 refine ws_b rfl ?_
      exact wp_ri rfl rfl rfl ⟨_, _, rfl, rfl, h⟩
    by_cases q15 : ((((S.1 0 12) + (nI 20)) - (nI 1)) - (((S.1 0 12) + (nI 20)) - (nI 1)) / (nI 20) * (nI 20)) = nI 15
    · refine ws_aal rfl rfl (Or.inr rfl) h.1 (by rw [q15]; rfl) ?_
      replace h := h.2.2.2.2.2.2.2.2.2.2.2.2.2.2.2.2.1 q15
      refine wp_cV rfl rfl o_X1_copyFrom v_X1_copyFrom h rfl rfl rfl (Nat.le_of_ble_eq_true rfl) (by decide) ?_
      clear h
      rintro r9 h9 ⟨S16, rfl, rfl, h⟩
      iterate 2 refine ws_b rfl ?_
      exact wp_ri rfl rfl rfl ⟨_, _, rfl, rfl, h⟩
    by_cases q16 : ((((S.1 0 12) + (nI 20)) - (nI 1)) - (((S.1 0 12) + (nI 20)) - (nI 1)) / (nI 20) * (nI 20)) = nI 16
    · refine ws_aal rfl rfl (Or.inr rfl) h.1 (by rw [q16]; rfl) ?_
      replace h := h.2.2.2.2.2.2.2.2.2.2.2.2.2.2.2.2.2.1 q16
      refine wp_cV rfl rfl o_X1_copyFrom v_X1_copyFrom h rfl rfl rfl (Nat.le_of_ble_eq_true rfl) (by decide) ?_
      clear h
      rintro r9 h9 ⟨S17, rfl, rfl, h⟩
      iterate 2 refine ws_b rfl ?_
      exact wp_ri rfl rfl rfl ⟨_, _, rfl, rfl, h⟩
    by_cases q17 : ((((S.1 0 12) + (nI 20)) - (nI 1)) - (((S.1 0 12) + (nI 20)) - (nI 1)) / (nI 20) * (nI 20)) = nI 17
    · refine ws_aal rfl rfl (Or.inr rfl) h.1 (by rw [q17]; rfl) ?_
      replace h := h.2.2.2.2.2.2.2.2.2.2.2.2.2.2.2.2.2.2.1 q17
      refine wp_cV rfl rfl o_X1_copyFrom v_X1_copyFrom h rfl rfl rfl (Nat.le_of_ble_eq_true rfl) (by decide) ?_
      clear h
      rintro r9 h9 ⟨S18, rfl, rfl, h⟩
      iterate 2 refine ws_b rfl ?_
      exact wp_ri rfl rfl rfl ⟨_, _, rfl, rfl, h⟩
    by_cases q18 : ((((S.1 0 12) + (nI 20)) - (nI 1)) - (((S.1 0 12) + (nI 20)) - (nI 1)) / (nI 20) * (nI 20)) = nI 18
    · refine ws_aal rfl rfl (Or.inr rfl) h.1 (by rw [q18]; rfl) ?_
      replace h := h.2.2.2.2.2.2.2.2.2.2.2.2.2.2.2.2.2.2.2.1 q18
      refine wp_cV rfl rfl o_X1_copyFrom v_X1_copyFrom h rfl rfl rfl (Nat.le_of_ble_eq_true rfl) (by decide) ?_
      clear h
      rintro r9 h9 ⟨S19, rfl, rfl, h⟩
      iterate 2 refine ws_b rfl ?_
      exact wp_ri rfl rfl rfl ⟨_, _, rfl, rfl, h⟩
    by_cases q19 : ((((S.1 0 12) + (nI 20)) - (nI 1)) - (((S.1 0 12) + (nI 20)) - (nI 1)) / (nI 20) * (nI 20)) = nI 19
    · refine ws_aal rfl rfl (Or.inr rfl) h.1 (by rw [q19]; rfl) ?_
      replace h := h.2.2.2.2.2.2.2.2.2.2.2.2.2.2.2.2.2.2.2.2 q19
      refine wp_cV rfl rfl o_X1_copyFrom v_X1_copyFrom h rfl rfl rfl (Nat.le_of_ble_eq_true rfl) (by decide) ?_
      clear h
      rintro r9 h9 ⟨S20, rfl, rfl, h⟩
      iterate 2 refine ws_b rfl ?_
      exact wp_ri rfl rfl rfl ⟨_, _, rfl, rfl, h⟩
    exact (vp_sp20 h.1 q0 q1 q2 q3 q4 q5 q6 q7 q8 q9 q10 q11 q12 q13 q14 q15 q16 q17 q18 q19).elim
set_option maxRecDepth 100000 in
set_option maxHeartbeats 4000000 in
theorem m_X11_feed {G : ab_G} {fr : Bool} {tl : ab_H} {K : Int32 → ms_S → Prop} {S : ms_S} {i1 : Int32} {i2 : Int32} {i3 : Int32} {i4 : Int32} {i5 : Int32}
    (h : ∀ n0 : Nat, (((S.1 1 2) + (nI 20)) ≤ (nI 700) → (ctU G 1 M_X10_append fr [.ref 1, .int i1] lB S tl (fun S1 => ctU G 1 M_X10_append fr [.ref 1, .int i2] lB S1 tl (fun S2 => ctU G 1 M_X10_append fr [.ref 1, .int i3] lB S2 tl (fun S3 => ctU G 1 M_X10_append fr [.ref 1, .int i4] lB S3 tl (fun S4 => ctU G 1 M_X10_append fr [.ref 1, .int i5] lB S4 tl (fun S5 => K (S5.1 1 2) S5))))))) ∧ (¬ ((S.1 1 2) + (nI 20)) ≤ (nI 700) → (K (-(nI 1)) S))) :
    ctI G 2 M_X11_feed fr [.ref 0, .int i1, .int i2, .int i3, .int i4, .int i5] lB S tl K := by
  refine wp_ct o_X11_feed (Nat.le_of_ble_eq_true rfl) ?_
  replace h := h (hLy lB S tl).length
  revert h
  generalize (hLy lB S tl).length = n0
  intro h
  iterate 7 refine ws_b rfl ?_
  refine wp_ite (fun q => ?_) (fun q => ?_)
  · replace h := h.1 q
    iterate 3 refine ws_b rfl ?_
    refine wp_cV rfl rfl o_X10_append v_X10_append h rfl rfl rfl (Nat.le_of_ble_eq_true rfl) (by decide) ?_
    clear h
    rintro r9 h9 ⟨S1, rfl, rfl, h⟩
    iterate 3 refine ws_b rfl ?_
    refine wp_cV rfl rfl o_X10_append v_X10_append h rfl rfl rfl (Nat.le_of_ble_eq_true rfl) (by decide) ?_
    clear h
    rintro r9 h9 ⟨S2, rfl, rfl, h⟩
    iterate 3 refine ws_b rfl ?_
    refine wp_cV rfl rfl o_X10_append v_X10_append h rfl rfl rfl (Nat.le_of_ble_eq_true rfl) (by decide) ?_
    clear h
    rintro r9 h9 ⟨S3, rfl, rfl, h⟩
    iterate 3 refine ws_b rfl ?_
    refine wp_cV rfl rfl o_X10_append v_X10_append h rfl rfl rfl (Nat.le_of_ble_eq_true rfl) (by decide) ?_
    clear h
    rintro r9 h9 ⟨S4, rfl, rfl, h⟩
    iterate 3 refine ws_b rfl ?_
    refine wp_cV rfl rfl o_X10_append v_X10_append h rfl rfl rfl (Nat.le_of_ble_eq_true rfl) (by decide) ?_
    clear h
    rintro r9 h9 ⟨S5, rfl, rfl, h⟩
    iterate 3 refine ws_b rfl ?_
    exact wp_ri rfl rfl rfl ⟨_, _, rfl, rfl, h⟩
  · replace h := h.2 q
    refine ws_b rfl ?_
    exact wp_ri rfl rfl rfl ⟨_, _, rfl, rfl, h⟩

