/-! ===== the program: plan and estate, walks ===== -/
def L_X7_placeInP_2 (G : ab_G) (fr : Bool) (n0 : Nat) (tl : ab_H) (K : Int32 → ms_S → Prop) (S : ms_S) (i1 : Int32) (i2 : Int32) (i3 : Int32) : Prop := wp G 1 M_X7_placeIn fr n0 (poI lPl tl K) 2 [some (.ref 1), some (.int i1), some (.int i2), some (.int i3)] [] (hLy lPl S tl)
set_option maxRecDepth 100000 in
set_option maxHeartbeats 4000000 in
theorem b_X7_placeInP_2 {G : ab_G} {fr : Bool} {n0 : Nat} {tl : ab_H} {K : Int32 → ms_S → Prop} {S : ms_S} {i1 : Int32} {i2 : Int32} {i3 : Int32}
    (h : (i1 ≤ i3 → (K (-(nI 1)) S)) ∧ (¬ i1 ≤ i3 → (((nI 9) ≤ i3 → (K (-(nI 1)) S)) ∧ (¬ (nI 9) ≤ i3 → (vp_in i3 9 ∧ (((S.2.2.2.1 1 i3.toNatClampNeg) = i2 → (K i3 S)) ∧ (¬ (S.2.2.2.1 1 i3.toNatClampNeg) = i2 → (L_X7_placeInP_2 G fr n0 tl K S i1 i2 (i3 + nI 1))))))))) :
    L_X7_placeInP_2 G fr n0 tl K S i1 i2 i3 := by
  unfold L_X7_placeInP_2
  iterate 3 refine ws_b rfl ?_
  refine wp_ite (fun q => ?_) (fun q => ?_)
  · replace h := h.1 q
    refine ws_b rfl ?_
    exact wp_ri rfl rfl rfl ⟨_, _, rfl, rfl, h⟩
  · replace h := h.2 q
    iterate 4 refine ws_b rfl ?_
    refine wp_ite (fun q => ?_) (fun q => ?_)
    · replace h := h.1 q
      refine ws_b rfl ?_
      exact wp_ri rfl rfl rfl ⟨_, _, rfl, rfl, h⟩
    · replace h := h.2 q
      iterate 2 refine ws_b rfl ?_
      refine ws_g rfl h.1 ?_
      replace h := h.2
      iterate 2 refine ws_b rfl ?_
      refine wp_ite (fun q => ?_) (fun q => ?_)
      · replace h := h.1 q
        refine ws_b rfl ?_
        exact wp_ri rfl rfl rfl ⟨_, _, rfl, rfl, h⟩
      · replace h := h.2 q
        iterate 2 refine ws_b rfl ?_
        exact wp_weak (wk_s (wk_s (wk_s (wk_s wk_0)))) h
set_option maxRecDepth 100000 in
set_option maxHeartbeats 4000000 in
theorem m_X7_placeInP {G : ab_G} {fr : Bool} {tl : ab_H} {K : Int32 → ms_S → Prop} {S : ms_S} {i1 : Int32} {i2 : Int32}
    (h : ∀ n0 : Nat, L_X7_placeInP_2 G fr n0 tl K S i1 i2 (nI 0)) :
    ctI G 1 M_X7_placeIn fr [.ref 1, .int i1, .int i2] lPl S tl K := by
  refine wp_ct o_X7_placeIn (Nat.le_of_ble_eq_true rfl) ?_
  replace h := h (hLy lPl S tl).length
  revert h
  generalize (hLy lPl S tl).length = n0
  intro h
  iterate 2 refine ws_b rfl ?_
  exact wp_weak (wk_s (wk_s (wk_s (wk_s wk_0)))) h
def L_X7_placeInH_2 (G : ab_G) (fr : Bool) (n0 : Nat) (tl : ab_H) (K : Int32 → ms_S → Prop) (S : ms_S) (i1 : Int32) (i2 : Int32) (i3 : Int32) : Prop := wp G 1 M_X7_placeIn fr n0 (poI lPl tl K) 2 [some (.ref 5), some (.int i1), some (.int i2), some (.int i3)] [] (hLy lPl S tl)
set_option maxRecDepth 100000 in
set_option maxHeartbeats 4000000 in
theorem b_X7_placeInH_2 {G : ab_G} {fr : Bool} {n0 : Nat} {tl : ab_H} {K : Int32 → ms_S → Prop} {S : ms_S} {i1 : Int32} {i2 : Int32} {i3 : Int32}
    (h : (i1 ≤ i3 → (K (-(nI 1)) S)) ∧ (¬ i1 ≤ i3 → (((nI 5) ≤ i3 → (K (-(nI 1)) S)) ∧ (¬ (nI 5) ≤ i3 → (vp_in i3 5 ∧ (((S.2.2.2.1 5 i3.toNatClampNeg) = i2 → (K i3 S)) ∧ (¬ (S.2.2.2.1 5 i3.toNatClampNeg) = i2 → (L_X7_placeInH_2 G fr n0 tl K S i1 i2 (i3 + nI 1))))))))) :
    L_X7_placeInH_2 G fr n0 tl K S i1 i2 i3 := by
  unfold L_X7_placeInH_2
  iterate 3 refine ws_b rfl ?_
  refine wp_ite (fun q => ?_) (fun q => ?_)
  · replace h := h.1 q
    refine ws_b rfl ?_
    exact wp_ri rfl rfl rfl ⟨_, _, rfl, rfl, h⟩
  · replace h := h.2 q
    iterate 4 refine ws_b rfl ?_
    refine wp_ite (fun q => ?_) (fun q => ?_)
    · replace h := h.1 q
      refine ws_b rfl ?_
      exact wp_ri rfl rfl rfl ⟨_, _, rfl, rfl, h⟩
    · replace h := h.2 q
      iterate 2 refine ws_b rfl ?_
      refine ws_g rfl h.1 ?_
      replace h := h.2
      iterate 2 refine ws_b rfl ?_
      refine wp_ite (fun q => ?_) (fun q => ?_)
      · replace h := h.1 q
        refine ws_b rfl ?_
        exact wp_ri rfl rfl rfl ⟨_, _, rfl, rfl, h⟩
      · replace h := h.2 q
        iterate 2 refine ws_b rfl ?_
        exact wp_weak (wk_s (wk_s (wk_s (wk_s wk_0)))) h
set_option maxRecDepth 100000 in
set_option maxHeartbeats 4000000 in
theorem m_X7_placeInH {G : ab_G} {fr : Bool} {tl : ab_H} {K : Int32 → ms_S → Prop} {S : ms_S} {i1 : Int32} {i2 : Int32}
    (h : ∀ n0 : Nat, L_X7_placeInH_2 G fr n0 tl K S i1 i2 (nI 0)) :
    ctI G 1 M_X7_placeIn fr [.ref 5, .int i1, .int i2] lPl S tl K := by
  refine wp_ct o_X7_placeIn (Nat.le_of_ble_eq_true rfl) ?_
  replace h := h (hLy lPl S tl).length
  revert h
  generalize (hLy lPl S tl).length = n0
  intro h
  iterate 2 refine ws_b rfl ?_
  exact wp_weak (wk_s (wk_s (wk_s (wk_s wk_0)))) h
set_option maxRecDepth 100000 in
set_option maxHeartbeats 4000000 in
theorem m_X7_pieceCalled {G : ab_G} {fr : Bool} {tl : ab_H} {K : Int32 → ms_S → Prop} {S : ms_S} {i1 : Int32}
    (h : ∀ n0 : Nat, ctI G 1 M_X7_placeIn fr [.ref 1, .int (S.1 0 12), .int i1] lPl S tl (fun v1 S1 => K v1 S1)) :
    ctI G 2 M_X7_pieceCalled fr [.ref 0, .int i1] lPl S tl K := by
  refine wp_ct o_X7_pieceCalled (Nat.le_of_ble_eq_true rfl) ?_
  replace h := h (hLy lPl S tl).length
  revert h
  generalize (hLy lPl S tl).length = n0
  intro h
  iterate 5 refine ws_b rfl ?_
  refine wp_cS rfl rfl o_X7_placeIn s_X7_placeIn h rfl rfl (Nat.le_of_ble_eq_true rfl) (by decide) ?_
  clear h
  rintro r9 h9 ⟨v1, S1, rfl, rfl, h⟩
  exact wp_ri rfl rfl rfl ⟨_, _, rfl, rfl, h⟩
set_option maxRecDepth 100000 in
set_option maxHeartbeats 4000000 in
theorem m_X7_heirCalled {G : ab_G} {fr : Bool} {tl : ab_H} {K : Int32 → ms_S → Prop} {S : ms_S} {i1 : Int32}
    (h : ∀ n0 : Nat, ctI G 1 M_X7_placeIn fr [.ref 5, .int (S.1 0 13), .int i1] lPl S tl (fun v1 S1 => K v1 S1)) :
    ctI G 2 M_X7_heirCalled fr [.ref 0, .int i1] lPl S tl K := by
  refine wp_ct o_X7_heirCalled (Nat.le_of_ble_eq_true rfl) ?_
  replace h := h (hLy lPl S tl).length
  revert h
  generalize (hLy lPl S tl).length = n0
  intro h
  iterate 5 refine ws_b rfl ?_
  refine wp_cS rfl rfl o_X7_placeIn s_X7_placeIn h rfl rfl (Nat.le_of_ble_eq_true rfl) (by decide) ?_
  clear h
  rintro r9 h9 ⟨v1, S1, rfl, rfl, h⟩
  exact wp_ri rfl rfl rfl ⟨_, _, rfl, rfl, h⟩
set_option maxRecDepth 100000 in
set_option maxHeartbeats 4000000 in
theorem m_X7_knots {G : ab_G} {fr : Bool} {tl : ab_H} {K : Int32 → ms_S → Prop} {S : ms_S} 
    (h : ∀ n0 : Nat, K (((S.1 13 3) + (S.1 17 3)) + (S.1 21 3)) S) :
    ctI G 1 M_X7_knots fr [.ref 0] lPl S tl K := by
  refine wp_ct o_X7_knots (Nat.le_of_ble_eq_true rfl) ?_
  replace h := h (hLy lPl S tl).length
  revert h
  generalize (hLy lPl S tl).length = n0
  intro h
  iterate 3 refine ws_b rfl ?_
  refine ws_aal rfl rfl (Or.inl rfl) ((x_vp (by decide)).mpr (by decide)) rfl ?_
  iterate 4 refine ws_b rfl ?_
  refine ws_aal rfl rfl (Or.inl rfl) ((x_vp (by decide)).mpr (by decide)) rfl ?_
  iterate 5 refine ws_b rfl ?_
  refine ws_aal rfl rfl (Or.inl rfl) ((x_vp (by decide)).mpr (by decide)) rfl ?_
  iterate 2 refine ws_b rfl ?_
  exact wp_ri rfl rfl rfl ⟨_, _, rfl, rfl, h⟩
def L_X7_sharedPieces_4 (G : ab_G) (fr : Bool) (n0 : Nat) (tl : ab_H) (K : Int32 → ms_S → Prop) (S : ms_S) (i1 : Int32) (i2 : Int32) : Prop := wp G 1 M_X7_sharedPieces fr n0 (poI lPl tl K) 4 [some (.ref 0), some (.int i1), some (.int i2)] [] (hLy lPl S tl)
set_option maxRecDepth 100000 in
set_option maxHeartbeats 4000000 in
theorem b_X7_sharedPieces_4 {G : ab_G} {fr : Bool} {n0 : Nat} {tl : ab_H} {K : Int32 → ms_S → Prop} {S : ms_S} {i1 : Int32} {i2 : Int32}
    (h : ((S.1 0 13) ≤ i2 → (K i1 S)) ∧ (¬ (S.1 0 13) ≤ i2 → (vp_in i2 5 ∧ (L_X7_sharedPieces_4 G fr n0 tl K S (i1 ||| (S.2.2.2.1 6 i2.toNatClampNeg)) (i2 + nI 1))))) :
    L_X7_sharedPieces_4 G fr n0 tl K S i1 i2 := by
  unfold L_X7_sharedPieces_4
  iterate 4 refine ws_b rfl ?_
  refine wp_ite (fun q => ?_) (fun q => ?_)
  · replace h := h.1 q
    refine ws_b rfl ?_
    exact wp_ri rfl rfl rfl ⟨_, _, rfl, rfl, h⟩
  · replace h := h.2 q
    iterate 4 refine ws_b rfl ?_
    refine ws_g rfl h.1 ?_
    replace h := h.2
    iterate 4 refine ws_b rfl ?_
    exact wp_weak (wk_s (wk_s (wk_s wk_0))) h
set_option maxRecDepth 100000 in
set_option maxHeartbeats 4000000 in
theorem m_X7_sharedPieces {G : ab_G} {fr : Bool} {tl : ab_H} {K : Int32 → ms_S → Prop} {S : ms_S} 
    (h : ∀ n0 : Nat, L_X7_sharedPieces_4 G fr n0 tl K S (nI 0) (nI 0)) :
    ctI G 1 M_X7_sharedPieces fr [.ref 0] lPl S tl K := by
  refine wp_ct o_X7_sharedPieces (Nat.le_of_ble_eq_true rfl) ?_
  replace h := h (hLy lPl S tl).length
  revert h
  generalize (hLy lPl S tl).length = n0
  intro h
  iterate 4 refine ws_b rfl ?_
  exact wp_weak (wk_s (wk_s (wk_s wk_0))) h
set_option maxRecDepth 100000 in
set_option maxHeartbeats 4000000 in
theorem m_X7_needOfRow {G : ab_G} {fr : Bool} {tl : ab_H} {K : Int32 → ms_S → Prop} {S : ms_S} 
    (h : ∀ n0 : Nat, ((S.1 0 16) = 0 → (K (nI 2) S)) ∧ (¬ (S.1 0 16) = 0 → (K (S.1 0 16) S))) :
    ctI G 1 M_X7_needOfRow fr [.ref 0] lC S tl K := by
  refine wp_ct o_X7_needOfRow (Nat.le_of_ble_eq_true rfl) ?_
  replace h := h (hLy lC S tl).length
  revert h
  generalize (hLy lC S tl).length = n0
  intro h
  iterate 3 refine ws_b rfl ?_
  refine wp_ite (fun q => ?_) (fun q => ?_)
  · replace h := h.1 q
    iterate 2 refine ws_b rfl ?_
    exact wp_ri rfl rfl rfl ⟨_, _, rfl, rfl, h⟩
  · replace h := h.2 q
    iterate 2 refine ws_b rfl ?_
    exact wp_ri rfl rfl rfl ⟨_, _, rfl, rfl, h⟩
set_option maxRecDepth 100000 in
set_option maxHeartbeats 4000000 in
theorem m_X7_seedOfNumbers {G : ab_G} {fr : Bool} {tl : ab_H} {K : Int32 → ms_S → Prop} {S : ms_S} 
    (h : ∀ n0 : Nat, ((S.1 0 17) = (-(nI 1)) → (K (nI 0) S)) ∧ (¬ (S.1 0 17) = (-(nI 1)) → (K (S.1 0 17) S))) :
    ctI G 1 M_X7_seedOfNumbers fr [.ref 0] lC S tl K := by
  refine wp_ct o_X7_seedOfNumbers (Nat.le_of_ble_eq_true rfl) ?_
  replace h := h (hLy lC S tl).length
  revert h
  generalize (hLy lC S tl).length = n0
  intro h
  iterate 4 refine ws_b rfl ?_
  refine wp_ite (fun q => ?_) (fun q => ?_)
  · replace h := h.1 q
    iterate 2 refine ws_b rfl ?_
    exact wp_ri rfl rfl rfl ⟨_, _, rfl, rfl, h⟩
  · replace h := h.2 q
    iterate 2 refine ws_b rfl ?_
    exact wp_ri rfl rfl rfl ⟨_, _, rfl, rfl, h⟩
set_option maxRecDepth 100000 in
set_option maxHeartbeats 4000000 in
theorem m_X7_apart {G : ab_G} {fr : Bool} {tl : ab_H} {K : Int32 → ms_S → Prop} {S : ms_S} {i1 : Int32}
    (h : ∀ n0 : Nat, vp_in i1 9 ∧ (vp_in i1 9 ∧ (K (if 0 ≤ ((S.2.2.2.1 2 i1.toNatClampNeg) - (S.2.2.2.1 3 i1.toNatClampNeg)) then ((S.2.2.2.1 2 i1.toNatClampNeg) - (S.2.2.2.1 3 i1.toNatClampNeg)) else 0 - ((S.2.2.2.1 2 i1.toNatClampNeg) - (S.2.2.2.1 3 i1.toNatClampNeg))) S))) :
    ctI G 2 M_X7_apart fr [.ref 0, .int i1] lC S tl K := by
  refine wp_ct o_X7_apart (Nat.le_of_ble_eq_true rfl) ?_
  replace h := h (hLy lC S tl).length
  revert h
  generalize (hLy lC S tl).length = n0
  intro h
  iterate 3 refine ws_b rfl ?_
  refine ws_g rfl h.1 ?_
  replace h := h.2
  iterate 3 refine ws_b rfl ?_
  refine ws_g rfl h.1 ?_
  replace h := h.2
  refine ws_b rfl ?_
  refine wp_abs rfl rfl (Nat.le_of_ble_eq_true rfl) (by decide) ?_
  exact wp_ri rfl rfl rfl ⟨_, _, rfl, rfl, h⟩
def L_X7_worthOf_4 (G : ab_G) (fr : Bool) (n0 : Nat) (tl : ab_H) (K : Int32 → ms_S → Prop) (S : ms_S) (i1 : Int32) (i2 : Int32) (i3 : Int32) : Prop := wp G 1 M_X7_worthOf fr n0 (poI lC tl K) 4 [some (.ref 0), some (.int i1), some (.int i2), some (.int i3)] [] (hLy lC S tl)
set_option maxRecDepth 100000 in
set_option maxHeartbeats 4000000 in
theorem b_X7_worthOf_4 {G : ab_G} {fr : Bool} {n0 : Nat} {tl : ab_H} {K : Int32 → ms_S → Prop} {S : ms_S} {i1 : Int32} {i2 : Int32} {i3 : Int32}
    (h : ((S.1 0 12) ≤ i3 → (K i2 S)) ∧ (¬ (S.1 0 12) ≤ i3 → (vp_in i3 9 ∧ (L_X7_worthOf_4 G fr n0 tl K S i1 (i2 + ((((i1.toUInt32 >>> (i3.toUInt32 &&& Int32.toUInt32 31)).toInt32) &&& (nI 1)) * (S.2.2.2.1 4 i3.toNatClampNeg))) (i3 + nI 1))))) :
    L_X7_worthOf_4 G fr n0 tl K S i1 i2 i3 := by
  unfold L_X7_worthOf_4
  iterate 4 refine ws_b rfl ?_
  refine wp_ite (fun q => ?_) (fun q => ?_)
  · replace h := h.1 q
    refine ws_b rfl ?_
    exact wp_ri rfl rfl rfl ⟨_, _, rfl, rfl, h⟩
  · replace h := h.2 q
    iterate 9 refine ws_b rfl ?_
    refine ws_g rfl h.1 ?_
    replace h := h.2
    iterate 5 refine ws_b rfl ?_
    exact wp_weak (wk_s (wk_s (wk_s (wk_s wk_0)))) h
set_option maxRecDepth 100000 in
set_option maxHeartbeats 4000000 in
theorem m_X7_worthOf {G : ab_G} {fr : Bool} {tl : ab_H} {K : Int32 → ms_S → Prop} {S : ms_S} {i1 : Int32}
    (h : ∀ n0 : Nat, L_X7_worthOf_4 G fr n0 tl K S i1 (nI 0) (nI 0)) :
    ctI G 1 M_X7_worthOf fr [.ref 0, .int i1] lC S tl K := by
  refine wp_ct o_X7_worthOf (Nat.le_of_ble_eq_true rfl) ?_
  replace h := h (hLy lC S tl).length
  revert h
  generalize (hLy lC S tl).length = n0
  intro h
  iterate 4 refine ws_b rfl ?_
  exact wp_weak (wk_s (wk_s (wk_s (wk_s wk_0)))) h
def L_X7_doublesOf_4 (G : ab_G) (fr : Bool) (n0 : Nat) (tl : ab_H) (K : Int32 → ms_S → Prop) (S : ms_S) (i1 : Int32) (i2 : Int32) (i3 : Int32) : Prop := wp G 1 M_X7_doublesOf fr n0 (poI lC tl K) 4 [some (.ref 0), some (.int i1), some (.int i2), some (.int i3)] [] (hLy lC S tl)
set_option maxRecDepth 100000 in
set_option maxHeartbeats 4000000 in
theorem b_X7_doublesOf_4 {G : ab_G} {fr : Bool} {n0 : Nat} {tl : ab_H} {K : Int32 → ms_S → Prop} {S : ms_S} {i1 : Int32} {i2 : Int32} {i3 : Int32}
    (h : ((S.1 0 12) ≤ i3 → (K i2 S)) ∧ (¬ (S.1 0 12) ≤ i3 → (((((i1.toUInt32 >>> (i3.toUInt32 &&& Int32.toUInt32 31)).toInt32) &&& (nI 1)) = (nI 1) → (vp_in i3 9 ∧ (vp_in i3 9 ∧ (((S.2.2.2.1 2 i3.toNatClampNeg) = (S.2.2.2.1 3 i3.toNatClampNeg) → (L_X7_doublesOf_4 G fr n0 tl K S i1 (i2 + nI 1) (i3 + nI 1))) ∧ (¬ (S.2.2.2.1 2 i3.toNatClampNeg) = (S.2.2.2.1 3 i3.toNatClampNeg) → (L_X7_doublesOf_4 G fr n0 tl K S i1 i2 (i3 + nI 1))))))) ∧ (¬ (((i1.toUInt32 >>> (i3.toUInt32 &&& Int32.toUInt32 31)).toInt32) &&& (nI 1)) = (nI 1) → (L_X7_doublesOf_4 G fr n0 tl K S i1 i2 (i3 + nI 1)))))) :
    L_X7_doublesOf_4 G fr n0 tl K S i1 i2 i3 := by
  unfold L_X7_doublesOf_4
  iterate 4 refine ws_b rfl ?_
  refine wp_ite (fun q => ?_) (fun q => ?_)
  · replace h := h.1 q
    refine ws_b rfl ?_
    exact wp_ri rfl rfl rfl ⟨_, _, rfl, rfl, h⟩
  · replace h := h.2 q
    iterate 7 refine ws_b rfl ?_
    refine wp_ite (fun q => ?_) (fun q => ?_)
    · replace h := h.1 q
      iterate 3 refine ws_b rfl ?_
      refine ws_g rfl h.1 ?_
      replace h := h.2
      iterate 3 refine ws_b rfl ?_
      refine ws_g rfl h.1 ?_
      replace h := h.2
      refine ws_b rfl ?_
      refine wp_ite (fun q => ?_) (fun q => ?_)
      · replace h := h.1 q
        iterate 3 refine ws_b rfl ?_
        exact wp_weak (wk_s (wk_s (wk_s (wk_s wk_0)))) h
      · replace h := h.2 q
        iterate 2 refine ws_b rfl ?_
        exact wp_weak (wk_s (wk_s (wk_s (wk_s wk_0)))) h
    · replace h := h.2 q
      iterate 2 refine ws_b rfl ?_
      exact wp_weak (wk_s (wk_s (wk_s (wk_s wk_0)))) h
set_option maxRecDepth 100000 in
set_option maxHeartbeats 4000000 in
theorem m_X7_doublesOf {G : ab_G} {fr : Bool} {tl : ab_H} {K : Int32 → ms_S → Prop} {S : ms_S} {i1 : Int32}
    (h : ∀ n0 : Nat, L_X7_doublesOf_4 G fr n0 tl K S i1 (nI 0) (nI 0)) :
    ctI G 1 M_X7_doublesOf fr [.ref 0, .int i1] lC S tl K := by
  refine wp_ct o_X7_doublesOf (Nat.le_of_ble_eq_true rfl) ?_
  replace h := h (hLy lC S tl).length
  revert h
  generalize (hLy lC S tl).length = n0
  intro h
  iterate 4 refine ws_b rfl ?_
  exact wp_weak (wk_s (wk_s (wk_s (wk_s wk_0)))) h
def L_X7_oddEnds_4 (G : ab_G) (fr : Bool) (n0 : Nat) (tl : ab_H) (K : Int32 → ms_S → Prop) (S : ms_S) (i1 : Int32) (i2 : Int32) (i3 : Int32) : Prop := wp G 2 M_X7_oddEnds fr n0 (poI lC tl K) 4 [some (.ref 0), some (.int i1), some (.int i2), some (.int i3)] [] (hLy lC S tl)
set_option maxRecDepth 100000 in
set_option maxHeartbeats 4000000 in
theorem b_X7_oddEnds_4 {G : ab_G} {fr : Bool} {n0 : Nat} {tl : ab_H} {K : Int32 → ms_S → Prop} {S : ms_S} {i1 : Int32} {i2 : Int32} {i3 : Int32}
    (h : ((S.1 0 12) ≤ i3 → (ctI G 1 M_J6_bitCount fr [.int i2] lC S tl (fun v1 S1 => K v1 S1))) ∧ (¬ (S.1 0 12) ≤ i3 → (((((i1.toUInt32 >>> (i3.toUInt32 &&& Int32.toUInt32 31)).toInt32) &&& (nI 1)) = (nI 1) → (vp_in i3 9 ∧ (vp_in i3 9 ∧ (L_X7_oddEnds_4 G fr n0 tl K S i1 (i2 ^^^ (((nI 1) <<< ((S.2.2.2.1 2 i3.toNatClampNeg) &&& 31)) ^^^ ((nI 1) <<< ((S.2.2.2.1 3 i3.toNatClampNeg) &&& 31)))) (i3 + nI 1))))) ∧ (¬ (((i1.toUInt32 >>> (i3.toUInt32 &&& Int32.toUInt32 31)).toInt32) &&& (nI 1)) = (nI 1) → (L_X7_oddEnds_4 G fr n0 tl K S i1 i2 (i3 + nI 1)))))) :
    L_X7_oddEnds_4 G fr n0 tl K S i1 i2 i3 := by
  unfold L_X7_oddEnds_4
  iterate 4 refine ws_b rfl ?_
  refine wp_ite (fun q => ?_) (fun q => ?_)
  · replace h := h.1 q
    refine ws_b rfl ?_
    refine wp_cS rfl rfl o_J6_bitCount s_J6_bitCount h rfl rfl (Nat.le_of_ble_eq_true rfl) (by decide) ?_
    clear h
    rintro r9 h9 ⟨v1, S1, rfl, rfl, h⟩
    exact wp_ri rfl rfl rfl ⟨_, _, rfl, rfl, h⟩
  · replace h := h.2 q
    iterate 7 refine ws_b rfl ?_
    refine wp_ite (fun q => ?_) (fun q => ?_)
    · replace h := h.1 q
      iterate 5 refine ws_b rfl ?_
      refine ws_g rfl h.1 ?_
      replace h := h.2
      iterate 5 refine ws_b rfl ?_
      refine ws_g rfl h.1 ?_
      replace h := h.2
      iterate 6 refine ws_b rfl ?_
      exact wp_weak (wk_s (wk_s (wk_s (wk_s wk_0)))) h
    · replace h := h.2 q
      iterate 2 refine ws_b rfl ?_
      exact wp_weak (wk_s (wk_s (wk_s (wk_s wk_0)))) h
set_option maxRecDepth 100000 in
set_option maxHeartbeats 4000000 in
theorem m_X7_oddEnds {G : ab_G} {fr : Bool} {tl : ab_H} {K : Int32 → ms_S → Prop} {S : ms_S} {i1 : Int32}
    (h : ∀ n0 : Nat, L_X7_oddEnds_4 G fr n0 tl K S i1 (nI 0) (nI 0)) :
    ctI G 2 M_X7_oddEnds fr [.ref 0, .int i1] lC S tl K := by
  refine wp_ct o_X7_oddEnds (Nat.le_of_ble_eq_true rfl) ?_
  replace h := h (hLy lC S tl).length
  revert h
  generalize (hLy lC S tl).length = n0
  intro h
  iterate 4 refine ws_b rfl ?_
  exact wp_weak (wk_s (wk_s (wk_s (wk_s wk_0)))) h
def L_X7_hangingParts_7 (G : ab_G) (fr : Bool) (n0 : Nat) (tl : ab_H) (K : Int32 → ms_S → Prop) (S : ms_S) (i2 : Int32) (i3 : Int32) (i4 : Int32) : Prop := wp G 2 M_X7_hangingParts fr n0 (poI lC tl K) 7 [some (.ref 0), none, some (.int i2), some (.int i3), some (.int i4)] [] (hLy lC S tl)
set_option maxRecDepth 100000 in
set_option maxHeartbeats 4000000 in
theorem b_X7_hangingParts_7 {G : ab_G} {fr : Bool} {n0 : Nat} {tl : ab_H} {K : Int32 → ms_S → Prop} {S : ms_S} {i2 : Int32} {i3 : Int32} {i4 : Int32}
    (h : ((nI 9) ≤ i4 → (K i3 S)) ∧ (¬ (nI 9) ≤ i4 → ((i2 = 0 → (K i3 S)) ∧ (¬ i2 = 0 → (ctI G 1 M_X7_hangingWith fr [.ref 0, .int i2, .int (i2 &&& (-i2))] lC S tl (fun v1 S1 => L_X7_hangingParts_7 G fr n0 tl K S1 (i2 &&& (v1 ^^^ (-(nI 1)))) (i3 + nI 1) (i4 + nI 1))))))) :
    L_X7_hangingParts_7 G fr n0 tl K S i2 i3 i4 := by
  unfold L_X7_hangingParts_7
  iterate 3 refine ws_b rfl ?_
  refine wp_ite (fun q => ?_) (fun q => ?_)
  · replace h := h.1 q
    refine ws_b rfl ?_
    exact wp_ri rfl rfl rfl ⟨_, _, rfl, rfl, h⟩
  · replace h := h.2 q
    iterate 2 refine ws_b rfl ?_
    refine wp_ite (fun q => ?_) (fun q => ?_)
    · replace h := h.1 q
      refine ws_b rfl ?_
      exact wp_ri rfl rfl rfl ⟨_, _, rfl, rfl, h⟩
    · replace h := h.2 q
      iterate 7 refine ws_b rfl ?_
      refine wp_cV rfl rfl o_X7_hangingWith v_X7_hangingWith h rfl rfl rfl (Nat.le_of_ble_eq_true rfl) (by decide) ?_
      clear h
      rintro r9 h9 ⟨v1, S1, rfl, rfl, h⟩
      iterate 7 refine ws_b rfl ?_
      exact wp_weak (wk_s (wk_s (wk_s (wk_s (wk_s wk_0))))) h
set_option maxRecDepth 100000 in
set_option maxHeartbeats 4000000 in
theorem m_X7_hangingParts {G : ab_G} {fr : Bool} {tl : ab_H} {K : Int32 → ms_S → Prop} {S : ms_S} {i1 : Int32}
    (h : ∀ n0 : Nat, L_X7_hangingParts_7 G fr n0 tl K S i1 (nI 0) (nI 0)) :
    ctI G 2 M_X7_hangingParts fr [.ref 0, .int i1] lC S tl K := by
  refine wp_ct o_X7_hangingParts (Nat.le_of_ble_eq_true rfl) ?_
  replace h := h (hLy lC S tl).length
  revert h
  generalize (hLy lC S tl).length = n0
  intro h
  iterate 6 refine ws_b rfl ?_
  exact wp_weak (wk_s (wk_n (wk_s (wk_s (wk_s wk_0))))) h
def L_X7_hangingWith_8 (G : ab_G) (fr : Bool) (n0 : Nat) (tl : ab_H) (K : Int32 → ms_S → Prop) (S : ms_S) (i1 : Int32) (i3 : Int32) (i4 : Int32) (i5 : Int32) : Prop := wp G 1 M_X7_hangingWith fr n0 (poI lC tl K) 8 [some (.ref 0), some (.int i1), none, some (.int i3), some (.int i4), some (.int i5), none, none] [] (hLy lC S tl)
def L_X7_hangingWith_18 (G : ab_G) (fr : Bool) (n0 : Nat) (tl : ab_H) (K : Int32 → ms_S → Prop) (S : ms_S) (i1 : Int32) (i3 : Int32) (i4 : Int32) (i5 : Int32) (i6 : Int32) : Prop := wp G 1 M_X7_hangingWith fr n0 (poI lC tl K) 18 [some (.ref 0), some (.int i1), none, some (.int i3), some (.int i4), some (.int i5), some (.int i6), none] [] (hLy lC S tl)
def L_X7_hangingWith_76 (G : ab_G) (fr : Bool) (n0 : Nat) (tl : ab_H) (K : Int32 → ms_S → Prop) (S : ms_S) (i1 : Int32) (i3 : Int32) (i4 : Int32) (i5 : Int32) (i6 : Int32) (i7 : Int32) : Prop := wp G 1 M_X7_hangingWith fr n0 (poI lC tl K) 76 [some (.ref 0), some (.int i1), none, some (.int i3), some (.int i4), some (.int i5), some (.int i6), some (.int i7)] [] (hLy lC S tl)
def L_X7_hangingWith_90 (G : ab_G) (fr : Bool) (n0 : Nat) (tl : ab_H) (K : Int32 → ms_S → Prop) (S : ms_S) (i1 : Int32) (i3 : Int32) (i4 : Int32) (i5 : Int32) (i6 : Int32) : Prop := wp G 1 M_X7_hangingWith fr n0 (poI lC tl K) 90 [some (.ref 0), some (.int i1), none, some (.int i3), some (.int i4), some (.int i5), some (.int i6), none] [] (hLy lC S tl)
set_option maxRecDepth 100000 in
set_option maxHeartbeats 4000000 in
theorem b_X7_hangingWith_8 {G : ab_G} {fr : Bool} {n0 : Nat} {tl : ab_H} {K : Int32 → ms_S → Prop} {S : ms_S} {i1 : Int32} {i3 : Int32} {i4 : Int32} {i5 : Int32}
    (h : ((nI 9) ≤ i5 → (K i3 S)) ∧ (¬ (nI 9) ≤ i5 → (L_X7_hangingWith_18 G fr n0 tl K S i1 i3 i4 i5 (nI 0)))) :
    L_X7_hangingWith_8 G fr n0 tl K S i1 i3 i4 i5 := by
  unfold L_X7_hangingWith_8
  iterate 3 refine ws_b rfl ?_
  refine wp_ite (fun q => ?_) (fun q => ?_)
  · replace h := h.1 q
    refine ws_b rfl ?_
    exact wp_ri rfl rfl rfl ⟨_, _, rfl, rfl, h⟩
  · replace h := h.2 q
    iterate 2 refine ws_b rfl ?_
    exact wp_weak (wk_s (wk_s (wk_s (wk_s (wk_s (wk_s (wk_s (wk_s wk_0)))))))) h
set_option maxRecDepth 100000 in
set_option maxHeartbeats 4000000 in
theorem b_X7_hangingWith_18 {G : ab_G} {fr : Bool} {n0 : Nat} {tl : ab_H} {K : Int32 → ms_S → Prop} {S : ms_S} {i1 : Int32} {i3 : Int32} {i4 : Int32} {i5 : Int32} {i6 : Int32}
    (h : ((S.1 0 12) ≤ i6 → (L_X7_hangingWith_8 G fr n0 tl K S i1 i3 i4 (i5 + nI 1))) ∧ (¬ (S.1 0 12) ≤ i6 → (vp_in i6 9 ∧ (vp_in i6 9 ∧ (((((i1.toUInt32 >>> (i6.toUInt32 &&& Int32.toUInt32 31)).toInt32) &&& (nI 1)) = (nI 1) → (((((i3.toUInt32 >>> (i6.toUInt32 &&& Int32.toUInt32 31)).toInt32) &&& (nI 1)) = (nI 1) → (L_X7_hangingWith_76 G fr n0 tl K S i1 i3 i4 i5 i6 (((nI 1) <<< ((S.2.2.2.1 2 i6.toNatClampNeg) &&& 31)) ||| ((nI 1) <<< ((S.2.2.2.1 3 i6.toNatClampNeg) &&& 31))))) ∧ (¬ (((i3.toUInt32 >>> (i6.toUInt32 &&& Int32.toUInt32 31)).toInt32) &&& (nI 1)) = (nI 1) → (((i4 &&& (((nI 1) <<< ((S.2.2.2.1 2 i6.toNatClampNeg) &&& 31)) ||| ((nI 1) <<< ((S.2.2.2.1 3 i6.toNatClampNeg) &&& 31)))) = 0 → (L_X7_hangingWith_90 G fr n0 tl K S i1 i3 i4 i5 i6)) ∧ (¬ (i4 &&& (((nI 1) <<< ((S.2.2.2.1 2 i6.toNatClampNeg) &&& 31)) ||| ((nI 1) <<< ((S.2.2.2.1 3 i6.toNatClampNeg) &&& 31)))) = 0 → (L_X7_hangingWith_76 G fr n0 tl K S i1 i3 i4 i5 i6 (((nI 1) <<< ((S.2.2.2.1 2 i6.toNatClampNeg) &&& 31)) ||| ((nI 1) <<< ((S.2.2.2.1 3 i6.toNatClampNeg) &&& 31))))))))) ∧ (¬ (((i1.toUInt32 >>> (i6.toUInt32 &&& Int32.toUInt32 31)).toInt32) &&& (nI 1)) = (nI 1) → (L_X7_hangingWith_90 G fr n0 tl K S i1 i3 i4 i5 i6))))))) :
    L_X7_hangingWith_18 G fr n0 tl K S i1 i3 i4 i5 i6 := by
  unfold L_X7_hangingWith_18
  iterate 4 refine ws_b rfl ?_
  refine wp_ite (fun q => ?_) (fun q => ?_)
  · replace h := h.1 q
    iterate 2 refine ws_b rfl ?_
    exact wp_weak (wk_s (wk_s (wk_s (wk_s (wk_s (wk_s (wk_n (wk_s wk_0)))))))) h
  · replace h := h.2 q
    iterate 4 refine ws_b rfl ?_
    refine ws_g rfl h.1 ?_
    replace h := h.2
    iterate 5 refine ws_b rfl ?_
    refine ws_g rfl h.1 ?_
    replace h := h.2
    iterate 10 refine ws_b rfl ?_
    refine wp_ite (fun q => ?_) (fun q => ?_)
    · replace h := h.1 q
      iterate 7 refine ws_b rfl ?_
      refine wp_ite (fun q => ?_) (fun q => ?_)
      · replace h := h.1 q
        exact wp_weak (wk_s (wk_s (wk_s (wk_s (wk_s (wk_s (wk_s (wk_s wk_0)))))))) h
      · replace h := h.2 q
        iterate 4 refine ws_b rfl ?_
        refine wp_ite (fun q => ?_) (fun q => ?_)
        · replace h := h.1 q
          exact wp_weak (wk_s (wk_s (wk_s (wk_s (wk_s (wk_s (wk_s (wk_n wk_0)))))))) h
        · replace h := h.2 q
          exact wp_weak (wk_s (wk_s (wk_s (wk_s (wk_s (wk_s (wk_s (wk_s wk_0)))))))) h
    · replace h := h.2 q
      exact wp_weak (wk_s (wk_s (wk_s (wk_s (wk_s (wk_s (wk_s (wk_n wk_0)))))))) h
set_option maxRecDepth 100000 in
set_option maxHeartbeats 4000000 in
theorem b_X7_hangingWith_76 {G : ab_G} {fr : Bool} {n0 : Nat} {tl : ab_H} {K : Int32 → ms_S → Prop} {S : ms_S} {i1 : Int32} {i3 : Int32} {i4 : Int32} {i5 : Int32} {i6 : Int32} {i7 : Int32}
    (h : L_X7_hangingWith_90 G fr n0 tl K S i1 (i3 ||| ((nI 1) <<< (i6 &&& 31))) (i4 ||| i7) i5 i6) :
    L_X7_hangingWith_76 G fr n0 tl K S i1 i3 i4 i5 i6 i7 := by
  unfold L_X7_hangingWith_76
  iterate 10 refine ws_b rfl ?_
  exact wp_weak (wk_s (wk_s (wk_s (wk_s (wk_s (wk_s (wk_s (wk_n wk_0)))))))) h
set_option maxRecDepth 100000 in
set_option maxHeartbeats 4000000 in
theorem b_X7_hangingWith_90 {G : ab_G} {fr : Bool} {n0 : Nat} {tl : ab_H} {K : Int32 → ms_S → Prop} {S : ms_S} {i1 : Int32} {i3 : Int32} {i4 : Int32} {i5 : Int32} {i6 : Int32}
    (h : L_X7_hangingWith_18 G fr n0 tl K S i1 i3 i4 i5 (i6 + nI 1)) :
    L_X7_hangingWith_90 G fr n0 tl K S i1 i3 i4 i5 i6 := by
  unfold L_X7_hangingWith_90
  iterate 2 refine ws_b rfl ?_
  exact wp_weak (wk_s (wk_s (wk_s (wk_s (wk_s (wk_s (wk_s (wk_s wk_0)))))))) h
set_option maxRecDepth 100000 in
set_option maxHeartbeats 4000000 in
theorem m_X7_hangingWith {G : ab_G} {fr : Bool} {tl : ab_H} {K : Int32 → ms_S → Prop} {S : ms_S} {i1 : Int32} {i2 : Int32}
    (h : ∀ n0 : Nat, L_X7_hangingWith_8 G fr n0 tl K S i1 i2 (nI 0) (nI 0)) :
    ctI G 1 M_X7_hangingWith fr [.ref 0, .int i1, .int i2] lC S tl K := by
  refine wp_ct o_X7_hangingWith (Nat.le_of_ble_eq_true rfl) ?_
  replace h := h (hLy lC S tl).length
  revert h
  generalize (hLy lC S tl).length = n0
  intro h
  iterate 6 refine ws_b rfl ?_
  exact wp_weak (wk_s (wk_s (wk_n (wk_s (wk_s (wk_s (wk_s (wk_s wk_0)))))))) h
def L_X1_begin_2 (G : ab_G) (fr : Bool) (n0 : Nat) (tl : ab_H) (K : ms_S → Prop) (S : ms_S) (i2 : Int32) : Prop := wp G 2 M_X1_begin fr n0 (poU lC tl K) 2 [some (.ref 46), some (.ref 0), some (.int i2)] [] (hLy lC S tl)
set_option maxRecDepth 100000 in
set_option maxHeartbeats 4000000 in
theorem b_X1_begin_2 {G : ab_G} {fr : Bool} {n0 : Nat} {tl : ab_H} {K : ms_S → Prop} {S : ms_S} {i2 : Int32}
    (h : ((nI 5) ≤ i2 → (ctI G 1 M_X7_sharedPieces fr [.ref 0] lC (sVa S 46 3 (nI 0)) tl (fun v1 S1 => ctI G 1 M_X7_seedOfNumbers fr [.ref 0] lC (sVa (sVa (sVa S1 46 4 ((((nI 1) <<< ((S.1 0 12) &&& 31)) - (nI 1)) &&& (v1 ^^^ (-(nI 1))))) 46 5 (nI 0)) 46 6 (nI 0)) tl (fun v2 S2 => K (sVa S2 46 7 v2))))) ∧ (¬ (nI 5) ≤ i2 → (vp_in i2 5 ∧ (vp_in i2 5 ∧ (vp_in i2 5 ∧ (vp_in i2 5 ∧ (L_X1_begin_2 G fr n0 tl K (sA (sA (sA S 47 i2.toNatClampNeg (S.2.2.2.1 6 i2.toNatClampNeg)) 48 i2.toNatClampNeg (nI 0)) 49 i2.toNatClampNeg (nI 0)) (i2 + nI 1)))))))) :
    L_X1_begin_2 G fr n0 tl K S i2 := by
  unfold L_X1_begin_2
  iterate 3 refine ws_b rfl ?_
  refine wp_ite (fun q => ?_) (fun q => ?_)
  · replace h := h.1 q
    iterate 11 refine ws_b rfl ?_
    refine wp_cV rfl rfl o_X7_sharedPieces v_X7_sharedPieces h rfl rfl rfl (Nat.le_of_ble_eq_true rfl) (by decide) ?_
    clear h
    rintro r9 h9 ⟨v1, S1, rfl, rfl, h⟩
    iterate 12 refine ws_b rfl ?_
    refine wp_cV rfl rfl o_X7_seedOfNumbers v_X7_seedOfNumbers h rfl rfl rfl (Nat.le_of_ble_eq_true rfl) (by decide) ?_
    clear h
    rintro r9 h9 ⟨v2, S2, rfl, rfl, h⟩
    refine ws_b rfl ?_
    exact wp_rv rfl rfl ⟨_, rfl, rfl, h⟩
  · replace h := h.2 q
    iterate 6 refine ws_b rfl ?_
    refine ws_g rfl h.1 ?_
    replace h := h.2
    refine ws_g rfl h.1 ?_
    replace h := h.2
    iterate 4 refine ws_b rfl ?_
    refine ws_g rfl h.1 ?_
    replace h := h.2
    iterate 4 refine ws_b rfl ?_
    refine ws_g rfl h.1 ?_
    replace h := h.2
    iterate 2 refine ws_b rfl ?_
    exact wp_weak (wk_s (wk_s (wk_s wk_0))) h
set_option maxRecDepth 100000 in
set_option maxHeartbeats 4000000 in
theorem m_X1_begin {G : ab_G} {fr : Bool} {tl : ab_H} {K : ms_S → Prop} {S : ms_S} 
    (h : ∀ n0 : Nat, L_X1_begin_2 G fr n0 tl K S (nI 0)) :
    ctU G 2 M_X1_begin fr [.ref 46, .ref 0] lC S tl K := by
  refine wp_ct o_X1_begin (Nat.le_of_ble_eq_true rfl) ?_
  replace h := h (hLy lC S tl).length
  revert h
  generalize (hLy lC S tl).length = n0
  intro h
  iterate 2 refine ws_b rfl ?_
  exact wp_weak (wk_s (wk_s (wk_s wk_0))) h
def L_X1_holderOf_2 (G : ab_G) (fr : Bool) (n0 : Nat) (tl : ab_H) (K : Int32 → ms_S → Prop) (S : ms_S) (i1 : Int32) (i2 : Int32) : Prop := wp G 1 M_X1_holderOf fr n0 (poI lC tl K) 2 [some (.ref 46), some (.int i1), some (.int i2)] [] (hLy lC S tl)
set_option maxRecDepth 100000 in
set_option maxHeartbeats 4000000 in
theorem b_X1_holderOf_2 {G : ab_G} {fr : Bool} {n0 : Nat} {tl : ab_H} {K : Int32 → ms_S → Prop} {S : ms_S} {i1 : Int32} {i2 : Int32}
    (h : ((nI 5) ≤ i2 → ((((((S.1 46 4).toUInt32 >>> (i1.toUInt32 &&& Int32.toUInt32 31)).toInt32) &&& (nI 1)) = (nI 1) → (K (-(nI 2)) S)) ∧ (¬ ((((S.1 46 4).toUInt32 >>> (i1.toUInt32 &&& Int32.toUInt32 31)).toInt32) &&& (nI 1)) = (nI 1) → (K (-(nI 3)) S)))) ∧ (¬ (nI 5) ≤ i2 → (vp_in i2 5 ∧ ((((((S.2.2.2.1 47 i2.toNatClampNeg).toUInt32 >>> (i1.toUInt32 &&& Int32.toUInt32 31)).toInt32) &&& (nI 1)) = (nI 1) → (K i2 S)) ∧ (¬ ((((S.2.2.2.1 47 i2.toNatClampNeg).toUInt32 >>> (i1.toUInt32 &&& Int32.toUInt32 31)).toInt32) &&& (nI 1)) = (nI 1) → (L_X1_holderOf_2 G fr n0 tl K S i1 (i2 + nI 1))))))) :
    L_X1_holderOf_2 G fr n0 tl K S i1 i2 := by
  unfold L_X1_holderOf_2
  iterate 3 refine ws_b rfl ?_
  refine wp_ite (fun q => ?_) (fun q => ?_)
  · replace h := h.1 q
    iterate 8 refine ws_b rfl ?_
    refine wp_ite (fun q => ?_) (fun q => ?_)
    · replace h := h.1 q
      iterate 2 refine ws_b rfl ?_
      exact wp_ri rfl rfl rfl ⟨_, _, rfl, rfl, h⟩
    · replace h := h.2 q
      refine ws_b rfl ?_
      exact wp_ri rfl rfl rfl ⟨_, _, rfl, rfl, h⟩
  · replace h := h.2 q
    iterate 3 refine ws_b rfl ?_
    refine ws_g rfl h.1 ?_
    replace h := h.2
    iterate 6 refine ws_b rfl ?_
    refine wp_ite (fun q => ?_) (fun q => ?_)
    · replace h := h.1 q
      refine ws_b rfl ?_
      exact wp_ri rfl rfl rfl ⟨_, _, rfl, rfl, h⟩
    · replace h := h.2 q
      iterate 2 refine ws_b rfl ?_
      exact wp_weak (wk_s (wk_s (wk_s wk_0))) h
set_option maxRecDepth 100000 in
set_option maxHeartbeats 4000000 in
theorem m_X1_holderOf {G : ab_G} {fr : Bool} {tl : ab_H} {K : Int32 → ms_S → Prop} {S : ms_S} {i1 : Int32}
    (h : ∀ n0 : Nat, L_X1_holderOf_2 G fr n0 tl K S i1 (nI 0)) :
    ctI G 1 M_X1_holderOf fr [.ref 46, .int i1] lC S tl K := by
  refine wp_ct o_X1_holderOf (Nat.le_of_ble_eq_true rfl) ?_
  replace h := h (hLy lC S tl).length
  revert h
  generalize (hLy lC S tl).length = n0
  intro h
  iterate 2 refine ws_b rfl ?_
  exact wp_weak (wk_s (wk_s (wk_s wk_0))) h
def L_X1_move_30 (G : ab_G) (fr : Bool) (n0 : Nat) (tl : ab_H) (K : ms_S → Prop) (S : ms_S) (i3 : Int32) (i4 : Int32) : Prop := wp G 1 M_X1_move fr n0 (poU lC tl K) 30 [some (.ref 46), none, none, some (.int i3), some (.int i4)] [] (hLy lC S tl)
def L_X1_move_43 (G : ab_G) (fr : Bool) (n0 : Nat) (tl : ab_H) (K : ms_S → Prop) (S : ms_S) (i3 : Int32) (i4 : Int32) : Prop := wp G 1 M_X1_move fr n0 (poU lC tl K) 43 [some (.ref 46), none, none, some (.int i3), some (.int i4)] [] (hLy lC S tl)
def L_X1_move_66 (G : ab_G) (fr : Bool) (n0 : Nat) (tl : ab_H) (K : ms_S → Prop) (S : ms_S) (i4 : Int32) : Prop := wp G 1 M_X1_move fr n0 (poU lC tl K) 66 [some (.ref 46), none, none, none, some (.int i4)] [] (hLy lC S tl)
def L_X1_move_77 (G : ab_G) (fr : Bool) (n0 : Nat) (tl : ab_H) (K : ms_S → Prop) (S : ms_S)  : Prop := wp G 1 M_X1_move fr n0 (poU lC tl K) 77 [none, none, none, none, none] [] (hLy lC S tl)
set_option maxRecDepth 100000 in
set_option maxHeartbeats 4000000 in
theorem b_X1_move_30 {G : ab_G} {fr : Bool} {n0 : Nat} {tl : ab_H} {K : ms_S → Prop} {S : ms_S} {i3 : Int32} {i4 : Int32}
    (h : L_X1_move_43 G fr n0 tl K (sVa S 46 4 ((S.1 46 4) &&& (i4 ^^^ (-(nI 1))))) i3 i4) :
    L_X1_move_30 G fr n0 tl K S i3 i4 := by
  unfold L_X1_move_30
  iterate 8 refine ws_b rfl ?_
  exact wp_weak (wk_s (wk_s (wk_s (wk_s (wk_s wk_0))))) h
set_option maxRecDepth 100000 in
set_option maxHeartbeats 4000000 in
theorem b_X1_move_43 {G : ab_G} {fr : Bool} {n0 : Nat} {tl : ab_H} {K : ms_S → Prop} {S : ms_S} {i3 : Int32} {i4 : Int32}
    (h : (i3 < 0 → (L_X1_move_66 G fr n0 tl K S i4)) ∧ (¬ i3 < 0 → (((nI 5) ≤ i3 → (L_X1_move_66 G fr n0 tl K S i4)) ∧ (¬ (nI 5) ≤ i3 → (vp_in i3 5 ∧ (vp_in i3 5 ∧ (L_X1_move_77 G fr n0 tl K (sA S 47 i3.toNatClampNeg ((S.2.2.2.1 47 i3.toNatClampNeg) ||| i4)) ))))))) :
    L_X1_move_43 G fr n0 tl K S i3 i4 := by
  unfold L_X1_move_43
  iterate 2 refine ws_b rfl ?_
  refine wp_ite (fun q => ?_) (fun q => ?_)
  · replace h := h.1 q
    exact wp_weak (wk_s (wk_s (wk_s (wk_n (wk_s wk_0))))) h
  · replace h := h.2 q
    iterate 3 refine ws_b rfl ?_
    refine wp_ite (fun q => ?_) (fun q => ?_)
    · replace h := h.1 q
      exact wp_weak (wk_s (wk_s (wk_s (wk_n (wk_s wk_0))))) h
    · replace h := h.2 q
      iterate 4 refine ws_b rfl ?_
      refine ws_g rfl h.1 ?_
      replace h := h.2
      iterate 2 refine ws_b rfl ?_
      refine ws_g rfl h.1 ?_
      replace h := h.2
      refine ws_b rfl ?_
      exact wp_weak (wk_n (wk_s (wk_s (wk_n (wk_n wk_0))))) h
set_option maxRecDepth 100000 in
set_option maxHeartbeats 4000000 in
theorem b_X1_move_66 {G : ab_G} {fr : Bool} {n0 : Nat} {tl : ab_H} {K : ms_S → Prop} {S : ms_S} {i4 : Int32}
    (h : L_X1_move_77 G fr n0 tl K (sVa S 46 4 ((S.1 46 4) ||| i4)) ) :
    L_X1_move_66 G fr n0 tl K S i4 := by
  unfold L_X1_move_66
  iterate 6 refine ws_b rfl ?_
  exact wp_weak (wk_n (wk_s (wk_s (wk_s (wk_n wk_0))))) h
set_option maxRecDepth 100000 in
set_option maxHeartbeats 4000000 in
theorem b_X1_move_77 {G : ab_G} {fr : Bool} {n0 : Nat} {tl : ab_H} {K : ms_S → Prop} {S : ms_S} 
    (h : K S) :
    L_X1_move_77 G fr n0 tl K S  := by
  unfold L_X1_move_77
  exact wp_rv rfl rfl ⟨_, rfl, rfl, h⟩
set_option maxRecDepth 100000 in
set_option maxHeartbeats 4000000 in
theorem m_X1_move {G : ab_G} {fr : Bool} {tl : ab_H} {K : ms_S → Prop} {S : ms_S} {i1 : Int32} {i2 : Int32} {i3 : Int32}
    (h : ∀ n0 : Nat, (i2 < 0 → (L_X1_move_30 G fr n0 tl K S i3 ((nI 1) <<< (i1 &&& 31)))) ∧ (¬ i2 < 0 → (((nI 5) ≤ i2 → (L_X1_move_30 G fr n0 tl K S i3 ((nI 1) <<< (i1 &&& 31)))) ∧ (¬ (nI 5) ≤ i2 → (vp_in i2 5 ∧ (vp_in i2 5 ∧ (L_X1_move_43 G fr n0 tl K (sA S 47 i2.toNatClampNeg ((S.2.2.2.1 47 i2.toNatClampNeg) &&& (((nI 1) <<< (i1 &&& 31)) ^^^ (-(nI 1))))) i3 ((nI 1) <<< (i1 &&& 31))))))))) :
    ctU G 1 M_X1_move fr [.ref 46, .int i1, .int i2, .int i3] lC S tl K := by
  refine wp_ct o_X1_move (Nat.le_of_ble_eq_true rfl) ?_
  replace h := h (hLy lC S tl).length
  revert h
  generalize (hLy lC S tl).length = n0
  intro h
  iterate 6 refine ws_b rfl ?_
  refine wp_ite (fun q => ?_) (fun q => ?_)
  · replace h := h.1 q
    exact wp_weak (wk_s (wk_n (wk_n (wk_s (wk_s wk_0))))) h
  · replace h := h.2 q
    iterate 3 refine ws_b rfl ?_
    refine wp_ite (fun q => ?_) (fun q => ?_)
    · replace h := h.1 q
      exact wp_weak (wk_s (wk_n (wk_n (wk_s (wk_s wk_0))))) h
    · replace h := h.2 q
      iterate 4 refine ws_b rfl ?_
      refine ws_g rfl h.1 ?_
      replace h := h.2
      iterate 4 refine ws_b rfl ?_
      refine ws_g rfl h.1 ?_
      replace h := h.2
      refine ws_b rfl ?_
      exact wp_weak (wk_s (wk_n (wk_n (wk_s (wk_s wk_0))))) h
set_option maxRecDepth 100000 in
set_option maxHeartbeats 4000000 in
theorem m_X1_change {G : ab_G} {fr : Bool} {tl : ab_H} {K : ms_S → Prop} {S : ms_S} {i1 : Int32} {i2 : Int32}
    (h : ∀ n0 : Nat, ctI G 1 M_X1_holderOf fr [.ref 46, .int i1] lC S tl (fun v1 S1 => ctI G 1 M_X1_holderOf fr [.ref 46, .int i2] lC S1 tl (fun v2 S2 => ctU G 1 M_X1_move fr [.ref 46, .int i1, .int v1, .int v2] lC S2 tl (fun S3 => ctU G 1 M_X1_move fr [.ref 46, .int i2, .int v2, .int v1] lC S3 tl (fun S4 => K S4))))) :
    ctU G 2 M_X1_change fr [.ref 46, .int i1, .int i2] lC S tl K := by
  refine wp_ct o_X1_change (Nat.le_of_ble_eq_true rfl) ?_
  replace h := h (hLy lC S tl).length
  revert h
  generalize (hLy lC S tl).length = n0
  intro h
  iterate 2 refine ws_b rfl ?_
  refine wp_cV rfl rfl o_X1_holderOf v_X1_holderOf h rfl rfl rfl (Nat.le_of_ble_eq_true rfl) (by decide) ?_
  clear h
  rintro r9 h9 ⟨v1, S1, rfl, rfl, h⟩
  iterate 3 refine ws_b rfl ?_
  refine wp_cV rfl rfl o_X1_holderOf v_X1_holderOf h rfl rfl rfl (Nat.le_of_ble_eq_true rfl) (by decide) ?_
  clear h
  rintro r9 h9 ⟨v2, S2, rfl, rfl, h⟩
  iterate 5 refine ws_b rfl ?_
  refine wp_cV rfl rfl o_X1_move v_X1_move h rfl rfl rfl (Nat.le_of_ble_eq_true rfl) (by decide) ?_
  clear h
  rintro r9 h9 ⟨S3, rfl, rfl, h⟩
  iterate 4 refine ws_b rfl ?_
  refine wp_cV rfl rfl o_X1_move v_X1_move h rfl rfl rfl (Nat.le_of_ble_eq_true rfl) (by decide) ?_
  clear h
  rintro r9 h9 ⟨S4, rfl, rfl, h⟩
  exact wp_rv rfl rfl ⟨_, rfl, rfl, h⟩
set_option maxRecDepth 100000 in
set_option maxHeartbeats 4000000 in
theorem m_X1_nextNumber {G : ab_G} {fr : Bool} {tl : ab_H} {K : Int32 → ms_S → Prop} {S : ms_S} 
    (h : ∀ n0 : Nat, K ((((((S.1 46 7) * ((1103515245 : Int32))) + (nI 12345)) &&& ((2147483647 : Int32))).toUInt32 >>> ((nI 16).toUInt32 &&& Int32.toUInt32 31)).toInt32) (sVa S 46 7 ((((S.1 46 7) * ((1103515245 : Int32))) + (nI 12345)) &&& ((2147483647 : Int32))))) :
    ctI G 1 M_X1_nextNumber fr [.ref 46] lC S tl K := by
  refine wp_ct o_X1_nextNumber (Nat.le_of_ble_eq_true rfl) ?_
  replace h := h (hLy lC S tl).length
  revert h
  generalize (hLy lC S tl).length = n0
  intro h
  iterate 14 refine ws_b rfl ?_
  exact wp_ri rfl rfl rfl ⟨_, _, rfl, rfl, h⟩
def L_X1_goldOfAll_4 (G : ab_G) (fr : Bool) (n0 : Nat) (tl : ab_H) (K : Int32 → ms_S → Prop) (S : ms_S) (i1 : Int32) (i2 : Int32) : Prop := wp G 1 M_X1_goldOfAll fr n0 (poI lC tl K) 4 [some (.ref 46), some (.int i1), some (.int i2)] [] (hLy lC S tl)
set_option maxRecDepth 100000 in
set_option maxHeartbeats 4000000 in
theorem b_X1_goldOfAll_4 {G : ab_G} {fr : Bool} {n0 : Nat} {tl : ab_H} {K : Int32 → ms_S → Prop} {S : ms_S} {i1 : Int32} {i2 : Int32}
    (h : ((nI 5) ≤ i2 → (K i1 S)) ∧ (¬ (nI 5) ≤ i2 → (vp_in i2 5 ∧ (L_X1_goldOfAll_4 G fr n0 tl K S (i1 + (S.2.2.2.1 48 i2.toNatClampNeg)) (i2 + nI 1))))) :
    L_X1_goldOfAll_4 G fr n0 tl K S i1 i2 := by
  unfold L_X1_goldOfAll_4
  iterate 3 refine ws_b rfl ?_
  refine wp_ite (fun q => ?_) (fun q => ?_)
  · replace h := h.1 q
    refine ws_b rfl ?_
    exact wp_ri rfl rfl rfl ⟨_, _, rfl, rfl, h⟩
  · replace h := h.2 q
    iterate 4 refine ws_b rfl ?_
    refine ws_g rfl h.1 ?_
    replace h := h.2
    iterate 4 refine ws_b rfl ?_
    exact wp_weak (wk_s (wk_s (wk_s wk_0))) h
set_option maxRecDepth 100000 in
set_option maxHeartbeats 4000000 in
theorem m_X1_goldOfAll {G : ab_G} {fr : Bool} {tl : ab_H} {K : Int32 → ms_S → Prop} {S : ms_S} 
    (h : ∀ n0 : Nat, L_X1_goldOfAll_4 G fr n0 tl K S (nI 0) (nI 0)) :
    ctI G 1 M_X1_goldOfAll fr [.ref 46] lC S tl K := by
  refine wp_ct o_X1_goldOfAll (Nat.le_of_ble_eq_true rfl) ?_
  replace h := h (hLy lC S tl).length
  revert h
  generalize (hLy lC S tl).length = n0
  intro h
  iterate 4 refine ws_b rfl ?_
  exact wp_weak (wk_s (wk_s (wk_s wk_0))) h
def L_X1_laidByAll_4 (G : ab_G) (fr : Bool) (n0 : Nat) (tl : ab_H) (K : Int32 → ms_S → Prop) (S : ms_S) (i1 : Int32) (i2 : Int32) : Prop := wp G 1 M_X1_laidByAll fr n0 (poI lC tl K) 4 [some (.ref 46), some (.int i1), some (.int i2)] [] (hLy lC S tl)
set_option maxRecDepth 100000 in
set_option maxHeartbeats 4000000 in
theorem b_X1_laidByAll_4 {G : ab_G} {fr : Bool} {n0 : Nat} {tl : ab_H} {K : Int32 → ms_S → Prop} {S : ms_S} {i1 : Int32} {i2 : Int32}
    (h : ((nI 5) ≤ i2 → (K i1 S)) ∧ (¬ (nI 5) ≤ i2 → (vp_in i2 5 ∧ (L_X1_laidByAll_4 G fr n0 tl K S (i1 + (S.2.2.2.1 49 i2.toNatClampNeg)) (i2 + nI 1))))) :
    L_X1_laidByAll_4 G fr n0 tl K S i1 i2 := by
  unfold L_X1_laidByAll_4
  iterate 3 refine ws_b rfl ?_
  refine wp_ite (fun q => ?_) (fun q => ?_)
  · replace h := h.1 q
    refine ws_b rfl ?_
    exact wp_ri rfl rfl rfl ⟨_, _, rfl, rfl, h⟩
  · replace h := h.2 q
    iterate 4 refine ws_b rfl ?_
    refine ws_g rfl h.1 ?_
    replace h := h.2
    iterate 4 refine ws_b rfl ?_
    exact wp_weak (wk_s (wk_s (wk_s wk_0))) h
set_option maxRecDepth 100000 in
set_option maxHeartbeats 4000000 in
theorem m_X1_laidByAll {G : ab_G} {fr : Bool} {tl : ab_H} {K : Int32 → ms_S → Prop} {S : ms_S} 
    (h : ∀ n0 : Nat, L_X1_laidByAll_4 G fr n0 tl K S (nI 0) (nI 0)) :
    ctI G 1 M_X1_laidByAll fr [.ref 46] lC S tl K := by
  refine wp_ct o_X1_laidByAll (Nat.le_of_ble_eq_true rfl) ?_
  replace h := h (hLy lC S tl).length
  revert h
  generalize (hLy lC S tl).length = n0
  intro h
  iterate 4 refine ws_b rfl ?_
  exact wp_weak (wk_s (wk_s (wk_s wk_0))) h
def L_X1_copyFrom_2 (G : ab_G) (fr : Bool) (n0 : Nat) (tl : ab_H) (K : ms_S → Prop) (S : ms_S) (i2 : Int32) : Prop := wp G 1 M_X1_copyFrom fr n0 (poU lE2 tl K) 2 [some (.ref 0), some (.ref 4), some (.int i2)] [] (hLy lE2 S tl)
set_option maxRecDepth 100000 in
set_option maxHeartbeats 4000000 in
theorem b_X1_copyFrom_2 {G : ab_G} {fr : Bool} {n0 : Nat} {tl : ab_H} {K : ms_S → Prop} {S : ms_S} {i2 : Int32}
    (h : ((nI 5) ≤ i2 → (K (sV (sV (sV (sV (sV S 3 (S.1 4 3)) 4 (S.1 4 4)) 5 (S.1 4 5)) 6 (S.1 4 6)) 7 (S.1 4 7)))) ∧ (¬ (nI 5) ≤ i2 → (vp_in i2 5 ∧ (vp_in i2 5 ∧ (vp_in i2 5 ∧ (vp_in i2 5 ∧ (vp_in i2 5 ∧ (vp_in i2 5 ∧ (L_X1_copyFrom_2 G fr n0 tl K (sA (sA (sA S 1 i2.toNatClampNeg (S.2.2.2.1 5 i2.toNatClampNeg)) 2 i2.toNatClampNeg (S.2.2.2.1 6 i2.toNatClampNeg)) 3 i2.toNatClampNeg (S.2.2.2.1 7 i2.toNatClampNeg)) (i2 + nI 1)))))))))) :
    L_X1_copyFrom_2 G fr n0 tl K S i2 := by
  unfold L_X1_copyFrom_2
  iterate 3 refine ws_b rfl ?_
  refine wp_ite (fun q => ?_) (fun q => ?_)
  · replace h := h.1 q
    iterate 20 refine ws_b rfl ?_
    exact wp_rv rfl rfl ⟨_, rfl, rfl, h⟩
  · replace h := h.2 q
    iterate 6 refine ws_b rfl ?_
    refine ws_g rfl h.1 ?_
    replace h := h.2
    refine ws_g rfl h.1 ?_
    replace h := h.2
    iterate 6 refine ws_b rfl ?_
    refine ws_g rfl h.1 ?_
    replace h := h.2
    refine ws_g rfl h.1 ?_
    replace h := h.2
    iterate 6 refine ws_b rfl ?_
    refine ws_g rfl h.1 ?_
    replace h := h.2
    refine ws_g rfl h.1 ?_
    replace h := h.2
    iterate 2 refine ws_b rfl ?_
    exact wp_weak (wk_s (wk_s (wk_s wk_0))) h
set_option maxRecDepth 100000 in
set_option maxHeartbeats 4000000 in
theorem m_X1_copyFrom {G : ab_G} {fr : Bool} {tl : ab_H} {K : ms_S → Prop} {S : ms_S} 
    (h : ∀ n0 : Nat, L_X1_copyFrom_2 G fr n0 tl K S (nI 0)) :
    ctU G 1 M_X1_copyFrom fr [.ref 0, .ref 4] lE2 S tl K := by
  refine wp_ct o_X1_copyFrom (Nat.le_of_ble_eq_true rfl) ?_
  replace h := h (hLy lE2 S tl).length
  revert h
  generalize (hLy lE2 S tl).length = n0
  intro h
  iterate 2 refine ws_b rfl ?_
  exact wp_weak (wk_s (wk_s (wk_s wk_0))) h

