/-! ===== the reference: lines and laws, walks ===== -/
set_option maxRecDepth 100000 in
set_option maxHeartbeats 4000000 in
theorem m_X12_pieceLine {G : ab_G} {fr : Bool} {tl : ab_H} {K : Int32 → ms_S → Prop} {S : ms_S} 
    (h : ∀ n0 : Nat, ((S.1 0 17) = (nI 9) → (ctI G 1 M_X12_wrong fr [.ref 0, .int (nI 2)] lM S tl (fun v1 S1 => (v1 = 0 ∨ v1 = 1) ∧ K v1 S1))) ∧ (¬ (S.1 0 17) = (nI 9) → (ctU G 2 M_X12_token fr [.ref 0] lM S tl (fun S2 => ctI G 3 M_X12_newName fr [.ref 0, .ref 5, .int (nI 9), .int (S2.1 0 17)] lM S2 tl (fun v3 S3 => (v3 = 0 → (K (nI 0) S3)) ∧ (¬ v3 = 0 → (ctI G 3 M_X12_number fr [.ref 0, .int (nI 0), .int (nI 6)] lM S3 tl (fun v4 S4 => (v4 = 0 → (K (nI 0) S4)) ∧ (¬ v4 = 0 → (vp_in ((nI 9) + (S3.1 0 17)) 18 ∧ (ctI G 3 M_X12_number fr [.ref 0, .int (nI 0), .int (nI 6)] lM (sA S4 6 (((nI 9) + (S3.1 0 17)).toNatClampNeg) (S4.1 0 11)) tl (fun v5 S5 => (v5 = 0 → (K (nI 0) S5)) ∧ (¬ v5 = 0 → (vp_in ((nI 9) + (S3.1 0 17)) 18 ∧ (ctI G 3 M_X12_number fr [.ref 0, .int (nI 0), .int (nI 99)] lM (sA S5 7 (((nI 9) + (S3.1 0 17)).toNatClampNeg) (S5.1 0 11)) tl (fun v6 S6 => (v6 = 0 → (K (nI 0) S6)) ∧ (¬ v6 = 0 → (vp_in ((nI 9) + (S3.1 0 17)) 18 ∧ (K (nI 1) (sV (sA S6 8 (((nI 9) + (S3.1 0 17)).toNatClampNeg) (S6.1 0 11)) 17 ((S6.1 0 17) + (nI 1)))))))))))))))))))))) :
    ctI G 4 M_X12_pieceLine fr [.ref 0] lM S tl K := by
  refine wp_ct o_X12_pieceLine (Nat.le_of_ble_eq_true rfl) ?_
  replace h := h (hLy lM S tl).length
  revert h
  generalize (hLy lM S tl).length = n0
  intro h
  iterate 4 refine ws_b rfl ?_
  refine wp_ite (fun q => ?_) (fun q => ?_)
  · replace h := h.1 q
    iterate 2 refine ws_b rfl ?_
    refine wp_cV rfl rfl o_X12_wrong v_X12_wrong h rfl rfl rfl (Nat.le_of_ble_eq_true rfl) (by decide) ?_
    clear h
    rintro r9 h9 ⟨v1, S1, rfl, rfl, h⟩
    exact wp_ri rfl rfl (nw_b h.1) ⟨_, _, rfl, rfl, h.2⟩
  · replace h := h.2 q
    refine ws_b rfl ?_
    refine wp_cV rfl rfl o_X12_token v_X12_token h rfl rfl rfl (Nat.le_of_ble_eq_true rfl) (by decide) ?_
    clear h
    rintro r9 h9 ⟨S2, rfl, rfl, h⟩
    iterate 6 refine ws_b rfl ?_
    refine wp_cV rfl rfl o_X12_newName v_X12_newName h rfl rfl rfl (Nat.le_of_ble_eq_true rfl) (by decide) ?_
    clear h
    rintro r9 h9 ⟨v3, S3, rfl, rfl, h⟩
    refine ws_b rfl ?_
    refine wp_ite (fun q => ?_) (fun q => ?_)
    · replace h := h.1 q
      refine ws_b rfl ?_
      exact wp_ri rfl rfl rfl ⟨_, _, rfl, rfl, h⟩
    · replace h := h.2 q
      iterate 8 refine ws_b rfl ?_
      refine wp_cV rfl rfl o_X12_number v_X12_number h rfl rfl rfl (Nat.le_of_ble_eq_true rfl) (by decide) ?_
      clear h
      rintro r9 h9 ⟨v4, S4, rfl, rfl, h⟩
      refine ws_b rfl ?_
      refine wp_ite (fun q => ?_) (fun q => ?_)
      · replace h := h.1 q
        refine ws_b rfl ?_
        exact wp_ri rfl rfl rfl ⟨_, _, rfl, rfl, h⟩
      · replace h := h.2 q
        iterate 5 refine ws_b rfl ?_
        refine ws_g rfl h.1 ?_
        replace h := h.2
        iterate 3 refine ws_b rfl ?_
        refine wp_cV rfl rfl o_X12_number v_X12_number h rfl rfl rfl (Nat.le_of_ble_eq_true rfl) (by decide) ?_
        clear h
        rintro r9 h9 ⟨v5, S5, rfl, rfl, h⟩
        refine ws_b rfl ?_
        refine wp_ite (fun q => ?_) (fun q => ?_)
        · replace h := h.1 q
          refine ws_b rfl ?_
          exact wp_ri rfl rfl rfl ⟨_, _, rfl, rfl, h⟩
        · replace h := h.2 q
          iterate 5 refine ws_b rfl ?_
          refine ws_g rfl h.1 ?_
          replace h := h.2
          iterate 3 refine ws_b rfl ?_
          refine wp_cV rfl rfl o_X12_number v_X12_number h rfl rfl rfl (Nat.le_of_ble_eq_true rfl) (by decide) ?_
          clear h
          rintro r9 h9 ⟨v6, S6, rfl, rfl, h⟩
          refine ws_b rfl ?_
          refine wp_ite (fun q => ?_) (fun q => ?_)
          · replace h := h.1 q
            refine ws_b rfl ?_
            exact wp_ri rfl rfl rfl ⟨_, _, rfl, rfl, h⟩
          · replace h := h.2 q
            iterate 5 refine ws_b rfl ?_
            refine ws_g rfl h.1 ?_
            replace h := h.2
            iterate 7 refine ws_b rfl ?_
            exact wp_ri rfl rfl rfl ⟨_, _, rfl, rfl, h⟩
set_option maxRecDepth 100000 in
set_option maxHeartbeats 4000000 in
theorem m_X12_heirLine {G : ab_G} {fr : Bool} {tl : ab_H} {K : Int32 → ms_S → Prop} {S : ms_S} 
    (h : ∀ n0 : Nat, ((S.1 0 18) = (nI 5) → (ctI G 1 M_X12_wrong fr [.ref 0, .int (nI 2)] lM S tl (fun v1 S1 => (v1 = 0 ∨ v1 = 1) ∧ K v1 S1))) ∧ (¬ (S.1 0 18) = (nI 5) → (ctU G 2 M_X12_token fr [.ref 0] lM S tl (fun S2 => ctI G 3 M_X12_newName fr [.ref 0, .ref 10, .int (nI 5), .int (S2.1 0 18)] lM S2 tl (fun v3 S3 => (v3 = 0 → (K (nI 0) S3)) ∧ (¬ v3 = 0 → (K (nI 1) (sV S3 18 ((S3.1 0 18) + (nI 1)))))))))) :
    ctI G 4 M_X12_heirLine fr [.ref 0] lM S tl K := by
  refine wp_ct o_X12_heirLine (Nat.le_of_ble_eq_true rfl) ?_
  replace h := h (hLy lM S tl).length
  revert h
  generalize (hLy lM S tl).length = n0
  intro h
  iterate 4 refine ws_b rfl ?_
  refine wp_ite (fun q => ?_) (fun q => ?_)
  · replace h := h.1 q
    iterate 2 refine ws_b rfl ?_
    refine wp_cV rfl rfl o_X12_wrong v_X12_wrong h rfl rfl rfl (Nat.le_of_ble_eq_true rfl) (by decide) ?_
    clear h
    rintro r9 h9 ⟨v1, S1, rfl, rfl, h⟩
    exact wp_ri rfl rfl (nw_b h.1) ⟨_, _, rfl, rfl, h.2⟩
  · replace h := h.2 q
    refine ws_b rfl ?_
    refine wp_cV rfl rfl o_X12_token v_X12_token h rfl rfl rfl (Nat.le_of_ble_eq_true rfl) (by decide) ?_
    clear h
    rintro r9 h9 ⟨S2, rfl, rfl, h⟩
    iterate 6 refine ws_b rfl ?_
    refine wp_cV rfl rfl o_X12_newName v_X12_newName h rfl rfl rfl (Nat.le_of_ble_eq_true rfl) (by decide) ?_
    clear h
    rintro r9 h9 ⟨v3, S3, rfl, rfl, h⟩
    refine ws_b rfl ?_
    refine wp_ite (fun q => ?_) (fun q => ?_)
    · replace h := h.1 q
      refine ws_b rfl ?_
      exact wp_ri rfl rfl rfl ⟨_, _, rfl, rfl, h⟩
    · replace h := h.2 q
      iterate 7 refine ws_b rfl ?_
      exact wp_ri rfl rfl rfl ⟨_, _, rfl, rfl, h⟩
set_option maxRecDepth 100000 in
set_option maxHeartbeats 4000000 in
theorem m_X12_shareLine {G : ab_G} {fr : Bool} {tl : ab_H} {K : Int32 → ms_S → Prop} {S : ms_S} 
    (h : ∀ n0 : Nat, ctU G 2 M_X12_token fr [.ref 0] lM S tl (fun S1 => ctI G 3 M_X12_thereIn fr [.ref 0, .ref 10, .int (nI 5), .int (S1.1 0 18)] lM S1 tl (fun v2 S2 => (v2 = 0 → (K (nI 0) S2)) ∧ (¬ v2 = 0 → (ctI G 3 M_X12_thereIn fr [.ref 0, .ref 5, .int (nI 9), .int (S2.1 0 17)] lM S2 tl (fun v3 S3 => (v3 = 0 → (K (nI 0) S3)) ∧ (¬ v3 = 0 → (vp_in ((nI 9) + (S3.1 0 11)) 18 ∧ (((S3.2.2.2.1 9 (((nI 9) + (S3.1 0 11)).toNatClampNeg)) < 0 → (vp_in ((nI 9) + (S3.1 0 11)) 18 ∧ (K (nI 1) (sA S3 9 (((nI 9) + (S3.1 0 11)).toNatClampNeg) (S2.1 0 11))))) ∧ (¬ (S3.2.2.2.1 9 (((nI 9) + (S3.1 0 11)).toNatClampNeg)) < 0 → (ctI G 1 M_X12_wrong fr [.ref 0, .int (nI 3)] lM (sV S3 10 (S2.1 0 10)) tl (fun v4 S4 => (v4 = 0 ∨ v4 = 1) ∧ K v4 S4)))))))))))) :
    ctI G 4 M_X12_shareLine fr [.ref 0] lM S tl K := by
  refine wp_ct o_X12_shareLine (Nat.le_of_ble_eq_true rfl) ?_
  replace h := h (hLy lM S tl).length
  revert h
  generalize (hLy lM S tl).length = n0
  intro h
  refine ws_b rfl ?_
  refine wp_cV rfl rfl o_X12_token v_X12_token h rfl rfl rfl (Nat.le_of_ble_eq_true rfl) (by decide) ?_
  clear h
  rintro r9 h9 ⟨S1, rfl, rfl, h⟩
  iterate 6 refine ws_b rfl ?_
  refine wp_cV rfl rfl o_X12_thereIn v_X12_thereIn h rfl rfl rfl (Nat.le_of_ble_eq_true rfl) (by decide) ?_
  clear h
  rintro r9 h9 ⟨v2, S2, rfl, rfl, h⟩
  refine ws_b rfl ?_
  refine wp_ite (fun q => ?_) (fun q => ?_)
  · replace h := h.1 q
    refine ws_b rfl ?_
    exact wp_ri rfl rfl rfl ⟨_, _, rfl, rfl, h⟩
  · replace h := h.2 q
    iterate 12 refine ws_b rfl ?_
    refine wp_cV rfl rfl o_X12_thereIn v_X12_thereIn h rfl rfl rfl (Nat.le_of_ble_eq_true rfl) (by decide) ?_
    clear h
    rintro r9 h9 ⟨v3, S3, rfl, rfl, h⟩
    refine ws_b rfl ?_
    refine wp_ite (fun q => ?_) (fun q => ?_)
    · replace h := h.1 q
      refine ws_b rfl ?_
      exact wp_ri rfl rfl rfl ⟨_, _, rfl, rfl, h⟩
    · replace h := h.2 q
      iterate 6 refine ws_b rfl ?_
      refine ws_g rfl h.1 ?_
      replace h := h.2
      refine ws_b rfl ?_
      refine wp_ite (fun q => ?_) (fun q => ?_)
      · replace h := h.1 q
        iterate 7 refine ws_b rfl ?_
        refine ws_g rfl h.1 ?_
        replace h := h.2
        refine ws_b rfl ?_
        exact wp_ri rfl rfl rfl ⟨_, _, rfl, rfl, h⟩
      · replace h := h.2 q
        iterate 5 refine ws_b rfl ?_
        refine wp_cV rfl rfl o_X12_wrong v_X12_wrong h rfl rfl rfl (Nat.le_of_ble_eq_true rfl) (by decide) ?_
        clear h
        rintro r9 h9 ⟨v4, S4, rfl, rfl, h⟩
        exact wp_ri rfl rfl (nw_b h.1) ⟨_, _, rfl, rfl, h.2⟩
set_option maxRecDepth 100000 in
set_option maxHeartbeats 4000000 in
theorem m_X12_tradeLine {G : ab_G} {fr : Bool} {tl : ab_H} {K : Int32 → ms_S → Prop} {S : ms_S} 
    (h : ∀ n0 : Nat, ((S.1 0 19) = (nI 8) → (ctI G 1 M_X12_wrong fr [.ref 0, .int (nI 2)] lM S tl (fun v1 S1 => (v1 = 0 ∨ v1 = 1) ∧ K v1 S1))) ∧ (¬ (S.1 0 19) = (nI 8) → (ctU G 2 M_X12_token fr [.ref 0] lM S tl (fun S2 => ctI G 3 M_X12_thereIn fr [.ref 0, .ref 5, .int (nI 9), .int (S2.1 0 17)] lM S2 tl (fun v3 S3 => (v3 = 0 → (K (nI 0) S3)) ∧ (¬ v3 = 0 → (vp_in ((nI 8) + (S2.1 0 19)) 16 ∧ (ctI G 3 M_X12_thereIn fr [.ref 0, .ref 5, .int (nI 9), .int (S3.1 0 17)] lM (sA S3 11 (((nI 8) + (S2.1 0 19)).toNatClampNeg) (S3.1 0 11)) tl (fun v4 S4 => (v4 = 0 → (K (nI 0) S4)) ∧ (¬ v4 = 0 → (vp_in ((nI 8) + (S2.1 0 19)) 16 ∧ (((S4.1 0 11) = (S4.2.2.2.1 11 (((nI 8) + (S2.1 0 19)).toNatClampNeg)) → (ctI G 1 M_X12_wrong fr [.ref 0, .int (nI 5)] lM (sV S4 10 (S3.1 0 10)) tl (fun v5 S5 => (v5 = 0 ∨ v5 = 1) ∧ K v5 S5))) ∧ (¬ (S4.1 0 11) = (S4.2.2.2.1 11 (((nI 8) + (S2.1 0 19)).toNatClampNeg)) → (vp_in ((nI 8) + (S2.1 0 19)) 16 ∧ (ctI G 3 M_X12_number fr [.ref 0, .int (nI 0), .int (nI 99)] lM (sA S4 12 (((nI 8) + (S2.1 0 19)).toNatClampNeg) (S4.1 0 11)) tl (fun v6 S6 => (v6 = 0 → (K (nI 0) S6)) ∧ (¬ v6 = 0 → (vp_in ((nI 8) + (S2.1 0 19)) 16 ∧ (K (nI 1) (sV (sA S6 13 (((nI 8) + (S2.1 0 19)).toNatClampNeg) (S6.1 0 11)) 19 ((S6.1 0 19) + (nI 1)))))))))))))))))))))) :
    ctI G 4 M_X12_tradeLine fr [.ref 0] lM S tl K := by
  refine wp_ct o_X12_tradeLine (Nat.le_of_ble_eq_true rfl) ?_
  replace h := h (hLy lM S tl).length
  revert h
  generalize (hLy lM S tl).length = n0
  intro h
  iterate 4 refine ws_b rfl ?_
  refine wp_ite (fun q => ?_) (fun q => ?_)
  · replace h := h.1 q
    iterate 2 refine ws_b rfl ?_
    refine wp_cV rfl rfl o_X12_wrong v_X12_wrong h rfl rfl rfl (Nat.le_of_ble_eq_true rfl) (by decide) ?_
    clear h
    rintro r9 h9 ⟨v1, S1, rfl, rfl, h⟩
    exact wp_ri rfl rfl (nw_b h.1) ⟨_, _, rfl, rfl, h.2⟩
  · replace h := h.2 q
    refine ws_b rfl ?_
    refine wp_cV rfl rfl o_X12_token v_X12_token h rfl rfl rfl (Nat.le_of_ble_eq_true rfl) (by decide) ?_
    clear h
    rintro r9 h9 ⟨S2, rfl, rfl, h⟩
    iterate 11 refine ws_b rfl ?_
    refine wp_cV rfl rfl o_X12_thereIn v_X12_thereIn h rfl rfl rfl (Nat.le_of_ble_eq_true rfl) (by decide) ?_
    clear h
    rintro r9 h9 ⟨v3, S3, rfl, rfl, h⟩
    refine ws_b rfl ?_
    refine wp_ite (fun q => ?_) (fun q => ?_)
    · replace h := h.1 q
      refine ws_b rfl ?_
      exact wp_ri rfl rfl rfl ⟨_, _, rfl, rfl, h⟩
    · replace h := h.2 q
      iterate 5 refine ws_b rfl ?_
      refine ws_g rfl h.1 ?_
      replace h := h.2
      iterate 9 refine ws_b rfl ?_
      refine wp_cV rfl rfl o_X12_thereIn v_X12_thereIn h rfl rfl rfl (Nat.le_of_ble_eq_true rfl) (by decide) ?_
      clear h
      rintro r9 h9 ⟨v4, S4, rfl, rfl, h⟩
      refine ws_b rfl ?_
      refine wp_ite (fun q => ?_) (fun q => ?_)
      · replace h := h.1 q
        refine ws_b rfl ?_
        exact wp_ri rfl rfl rfl ⟨_, _, rfl, rfl, h⟩
      · replace h := h.2 q
        iterate 5 refine ws_b rfl ?_
        refine ws_g rfl h.1 ?_
        replace h := h.2
        refine ws_b rfl ?_
        refine wp_ite (fun q => ?_) (fun q => ?_)
        · replace h := h.1 q
          iterate 5 refine ws_b rfl ?_
          refine wp_cV rfl rfl o_X12_wrong v_X12_wrong h rfl rfl rfl (Nat.le_of_ble_eq_true rfl) (by decide) ?_
          clear h
          rintro r9 h9 ⟨v5, S5, rfl, rfl, h⟩
          exact wp_ri rfl rfl (nw_b h.1) ⟨_, _, rfl, rfl, h.2⟩
        · replace h := h.2 q
          iterate 5 refine ws_b rfl ?_
          refine ws_g rfl h.1 ?_
          replace h := h.2
          iterate 3 refine ws_b rfl ?_
          refine wp_cV rfl rfl o_X12_number v_X12_number h rfl rfl rfl (Nat.le_of_ble_eq_true rfl) (by decide) ?_
          clear h
          rintro r9 h9 ⟨v6, S6, rfl, rfl, h⟩
          refine ws_b rfl ?_
          refine wp_ite (fun q => ?_) (fun q => ?_)
          · replace h := h.1 q
            refine ws_b rfl ?_
            exact wp_ri rfl rfl rfl ⟨_, _, rfl, rfl, h⟩
          · replace h := h.2 q
            iterate 5 refine ws_b rfl ?_
            refine ws_g rfl h.1 ?_
            replace h := h.2
            iterate 7 refine ws_b rfl ?_
            exact wp_ri rfl rfl rfl ⟨_, _, rfl, rfl, h⟩
set_option maxRecDepth 100000 in
set_option maxHeartbeats 4000000 in
theorem m_X12_drawLine {G : ab_G} {fr : Bool} {tl : ab_H} {K : Int32 → ms_S → Prop} {S : ms_S} 
    (h : ∀ n0 : Nat, ((S.1 0 20) = (nI 10) → (ctI G 1 M_X12_wrong fr [.ref 0, .int (nI 2)] lM S tl (fun v1 S1 => (v1 = 0 ∨ v1 = 1) ∧ K v1 S1))) ∧ (¬ (S.1 0 20) = (nI 10) → (ctU G 2 M_X12_token fr [.ref 0] lM S tl (fun S2 => ctI G 3 M_X12_thereIn fr [.ref 0, .ref 10, .int (nI 5), .int (S2.1 0 18)] lM S2 tl (fun v3 S3 => (v3 = 0 → (K (nI 0) S3)) ∧ (¬ v3 = 0 → (vp_in ((nI 10) + (S3.1 0 20)) 20 ∧ (ctI G 3 M_X12_number fr [.ref 0, .int (nI 0), .int (nI 99)] lM (sA S3 14 (((nI 10) + (S3.1 0 20)).toNatClampNeg) (S3.1 0 11)) tl (fun v4 S4 => (v4 = 0 → (K (nI 0) S4)) ∧ (¬ v4 = 0 → (vp_in ((nI 10) + (S4.1 0 20)) 20 ∧ (K (nI 1) (sV (sA S4 15 (((nI 10) + (S4.1 0 20)).toNatClampNeg) (S4.1 0 11)) 20 ((S4.1 0 20) + (nI 1))))))))))))))) :
    ctI G 4 M_X12_drawLine fr [.ref 0] lM S tl K := by
  refine wp_ct o_X12_drawLine (Nat.le_of_ble_eq_true rfl) ?_
  replace h := h (hLy lM S tl).length
  revert h
  generalize (hLy lM S tl).length = n0
  intro h
  iterate 4 refine ws_b rfl ?_
  refine wp_ite (fun q => ?_) (fun q => ?_)
  · replace h := h.1 q
    iterate 2 refine ws_b rfl ?_
    refine wp_cV rfl rfl o_X12_wrong v_X12_wrong h rfl rfl rfl (Nat.le_of_ble_eq_true rfl) (by decide) ?_
    clear h
    rintro r9 h9 ⟨v1, S1, rfl, rfl, h⟩
    exact wp_ri rfl rfl (nw_b h.1) ⟨_, _, rfl, rfl, h.2⟩
  · replace h := h.2 q
    refine ws_b rfl ?_
    refine wp_cV rfl rfl o_X12_token v_X12_token h rfl rfl rfl (Nat.le_of_ble_eq_true rfl) (by decide) ?_
    clear h
    rintro r9 h9 ⟨S2, rfl, rfl, h⟩
    iterate 6 refine ws_b rfl ?_
    refine wp_cV rfl rfl o_X12_thereIn v_X12_thereIn h rfl rfl rfl (Nat.le_of_ble_eq_true rfl) (by decide) ?_
    clear h
    rintro r9 h9 ⟨v3, S3, rfl, rfl, h⟩
    refine ws_b rfl ?_
    refine wp_ite (fun q => ?_) (fun q => ?_)
    · replace h := h.1 q
      refine ws_b rfl ?_
      exact wp_ri rfl rfl rfl ⟨_, _, rfl, rfl, h⟩
    · replace h := h.2 q
      iterate 8 refine ws_b rfl ?_
      refine ws_g rfl h.1 ?_
      replace h := h.2
      iterate 3 refine ws_b rfl ?_
      refine wp_cV rfl rfl o_X12_number v_X12_number h rfl rfl rfl (Nat.le_of_ble_eq_true rfl) (by decide) ?_
      clear h
      rintro r9 h9 ⟨v4, S4, rfl, rfl, h⟩
      refine ws_b rfl ?_
      refine wp_ite (fun q => ?_) (fun q => ?_)
      · replace h := h.1 q
        refine ws_b rfl ?_
        exact wp_ri rfl rfl rfl ⟨_, _, rfl, rfl, h⟩
      · replace h := h.2 q
        iterate 8 refine ws_b rfl ?_
        refine ws_g rfl h.1 ?_
        replace h := h.2
        iterate 7 refine ws_b rfl ?_
        exact wp_ri rfl rfl rfl ⟨_, _, rfl, rfl, h⟩
set_option maxRecDepth 100000 in
set_option maxHeartbeats 4000000 in
theorem m_X12_onceLine {G : ab_G} {fr : Bool} {tl : ab_H} {K : Int32 → ms_S → Prop} {S : ms_S} {i1 : Int32} {i2 : Int32} {i3 : Int32}
    (h : ∀ n0 : Nat, vp_in i1 2 ∧ (((S.2.2.2.1 3 i1.toNatClampNeg) = 0 → (vp_in i1 2 ∧ (ctU G 2 M_X12_token fr [.ref 0] lM (sA S 3 i1.toNatClampNeg ((nI 1) &&& 1)) tl (fun S1 => ctI G 3 M_X12_number fr [.ref 0, .int i2, .int i3] lM S1 tl (fun v2 S2 => (v2 = 0 → (K (nI 0) S2)) ∧ (¬ v2 = 0 → (vp_in ((nI 2) + i1) 4 ∧ (K (nI 1) (sA S2 4 (((nI 2) + i1).toNatClampNeg) (S2.1 0 11)))))))))) ∧ (¬ (S.2.2.2.1 3 i1.toNatClampNeg) = 0 → (ctI G 1 M_X12_wrong fr [.ref 0, .int (nI 3)] lM S tl (fun v3 S3 => (v3 = 0 ∨ v3 = 1) ∧ K v3 S3))))) :
    ctI G 4 M_X12_onceLine fr [.ref 0, .int i1, .int i2, .int i3] lM S tl K := by
  refine wp_ct o_X12_onceLine (Nat.le_of_ble_eq_true rfl) ?_
  replace h := h (hLy lM S tl).length
  revert h
  generalize (hLy lM S tl).length = n0
  intro h
  iterate 3 refine ws_b rfl ?_
  refine ws_g rfl h.1 ?_
  replace h := h.2
  refine ws_b rfl ?_
  refine wp_ite (fun q => ?_) (fun q => ?_)
  · replace h := h.1 q
    iterate 4 refine ws_b rfl ?_
    refine ws_g rfl h.1 ?_
    replace h := h.2
    refine ws_b rfl ?_
    refine wp_cV rfl rfl o_X12_token v_X12_token h rfl rfl rfl (Nat.le_of_ble_eq_true rfl) (by decide) ?_
    clear h
    rintro r9 h9 ⟨S1, rfl, rfl, h⟩
    iterate 3 refine ws_b rfl ?_
    refine wp_cV rfl rfl o_X12_number v_X12_number h rfl rfl rfl (Nat.le_of_ble_eq_true rfl) (by decide) ?_
    clear h
    rintro r9 h9 ⟨v2, S2, rfl, rfl, h⟩
    refine ws_b rfl ?_
    refine wp_ite (fun q => ?_) (fun q => ?_)
    · replace h := h.1 q
      refine ws_b rfl ?_
      exact wp_ri rfl rfl rfl ⟨_, _, rfl, rfl, h⟩
    · replace h := h.2 q
      iterate 7 refine ws_b rfl ?_
      refine ws_g rfl h.1 ?_
      replace h := h.2
      refine ws_b rfl ?_
      exact wp_ri rfl rfl rfl ⟨_, _, rfl, rfl, h⟩
  · replace h := h.2 q
    iterate 2 refine ws_b rfl ?_
    refine wp_cV rfl rfl o_X12_wrong v_X12_wrong h rfl rfl rfl (Nat.le_of_ble_eq_true rfl) (by decide) ?_
    clear h
    rintro r9 h9 ⟨v3, S3, rfl, rfl, h⟩
    exact wp_ri rfl rfl (nw_b h.1) ⟨_, _, rfl, rfl, h.2⟩
def L_X12_rank_58 (G : ab_G) (fr : Bool) (n0 : Nat) (tl : ab_H) (K : Int32 → ms_S → Prop) (S : ms_S) (t0 : Int32) : Prop := wp G 1 M_X12_rank fr n0 (poI lM tl K) 58 [none] [.int t0] (hLy lM S tl)
set_option maxRecDepth 100000 in
set_option maxHeartbeats 4000000 in
theorem b_X12_rank_58 {G : ab_G} {fr : Bool} {n0 : Nat} {tl : ab_H} {K : Int32 → ms_S → Prop} {S : ms_S} {t0 : Int32}
    (h : K t0 S) :
    L_X12_rank_58 G fr n0 tl K S t0 := by
  unfold L_X12_rank_58
  exact wp_ri rfl rfl rfl ⟨_, _, rfl, rfl, h⟩
set_option maxRecDepth 100000 in
set_option maxHeartbeats 4000000 in
theorem m_X12_rank {G : ab_G} {fr : Bool} {tl : ab_H} {K : Int32 → ms_S → Prop} {S : ms_S} {i0 : Int32}
    (h : ∀ n0 : Nat, (i0 < (nI 13) → ((i0 < (nI 11) → ((i0 < (nI 5) → ((i0 = (nI 2) → (L_X12_rank_58 G fr n0 tl K S (nI 3))) ∧ (¬ i0 = (nI 2) → ((i0 = (nI 3) → (L_X12_rank_58 G fr n0 tl K S (nI 2))) ∧ (¬ i0 = (nI 3) → ((i0 = (nI 4) → (L_X12_rank_58 G fr n0 tl K S (nI 1))) ∧ (¬ i0 = (nI 4) → (L_X12_rank_58 G fr n0 tl K S (nI 0))))))))) ∧ (¬ i0 < (nI 5) → (L_X12_rank_58 G fr n0 tl K S (nI 4))))) ∧ (¬ i0 < (nI 11) → (L_X12_rank_58 G fr n0 tl K S (nI 5))))) ∧ (¬ i0 < (nI 13) → (L_X12_rank_58 G fr n0 tl K S (nI 6)))) :
    ctI G 1 M_X12_rank fr [.int i0] lM S tl K := by
  refine wp_ct o_X12_rank (Nat.le_of_ble_eq_true rfl) ?_
  replace h := h (hLy lM S tl).length
  revert h
  generalize (hLy lM S tl).length = n0
  intro h
  iterate 3 refine ws_b rfl ?_
  refine wp_ite (fun q => ?_) (fun q => ?_)
  · replace h := h.1 q
    iterate 3 refine ws_b rfl ?_
    refine wp_ite (fun q => ?_) (fun q => ?_)
    · replace h := h.1 q
      iterate 3 refine ws_b rfl ?_
      refine wp_ite (fun q => ?_) (fun q => ?_)
      · replace h := h.1 q
        iterate 3 refine ws_b rfl ?_
        refine wp_ite (fun q => ?_) (fun q => ?_)
        · replace h := h.1 q
          iterate 2 refine ws_b rfl ?_
          exact wp_weak (wk_n wk_0) h
        · replace h := h.2 q
          iterate 3 refine ws_b rfl ?_
          refine wp_ite (fun q => ?_) (fun q => ?_)
          · replace h := h.1 q
            iterate 2 refine ws_b rfl ?_
            exact wp_weak (wk_n wk_0) h
          · replace h := h.2 q
            iterate 3 refine ws_b rfl ?_
            refine wp_ite (fun q => ?_) (fun q => ?_)
            · replace h := h.1 q
              iterate 2 refine ws_b rfl ?_
              exact wp_weak (wk_n wk_0) h
            · replace h := h.2 q
              refine ws_b rfl ?_
              exact wp_weak (wk_n wk_0) h
      · replace h := h.2 q
        iterate 2 refine ws_b rfl ?_
        exact wp_weak (wk_n wk_0) h
    · replace h := h.2 q
      iterate 2 refine ws_b rfl ?_
      exact wp_weak (wk_n wk_0) h
  · replace h := h.2 q
    iterate 2 refine ws_b rfl ?_
    exact wp_weak (wk_n wk_0) h
set_option maxRecDepth 100000 in
set_option maxHeartbeats 4000000 in
theorem m_X12_grown {G : ab_G} {fr : Bool} {tl : ab_H} {K : ms_S → Prop} {S : ms_S} {i1 : Int32} {i2 : Int32} {i3 : Int32}
    (h : ∀ n0 : Nat, vp_in ((nI 64) + (S.1 0 21)) 128 ∧ (vp_in ((nI 64) + (S.1 0 21)) 128 ∧ (vp_in ((nI 64) + (S.1 0 21)) 128 ∧ (vp_in (S.1 0 44) 96 ∧ (K (sV (sV (sA (sA (sA (sA S 19 (((nI 64) + (S.1 0 21)).toNatClampNeg) i1) 20 (((nI 64) + (S.1 0 21)).toNatClampNeg) i2) 21 (((nI 64) + (S.1 0 21)).toNatClampNeg) i3) 23 ((S.1 0 44).toNatClampNeg) (S.1 0 21)) 44 ((S.1 0 44) + (nI 1))) 21 ((S.1 0 21) + (nI 1)))))))) :
    ctU G 1 M_X12_grown fr [.ref 0, .int i1, .int i2, .int i3] lM S tl K := by
  refine wp_ct o_X12_grown (Nat.le_of_ble_eq_true rfl) ?_
  replace h := h (hLy lM S tl).length
  revert h
  generalize (hLy lM S tl).length = n0
  intro h
  iterate 7 refine ws_b rfl ?_
  refine ws_g rfl h.1 ?_
  replace h := h.2
  iterate 7 refine ws_b rfl ?_
  refine ws_g rfl h.1 ?_
  replace h := h.2
  iterate 7 refine ws_b rfl ?_
  refine ws_g rfl h.1 ?_
  replace h := h.2
  iterate 6 refine ws_b rfl ?_
  refine ws_g rfl h.1 ?_
  replace h := h.2
  iterate 12 refine ws_b rfl ?_
  exact wp_rv rfl rfl ⟨_, rfl, rfl, h⟩
set_option maxRecDepth 100000 in
set_option maxHeartbeats 4000000 in
theorem m_X12_dropHeld {G : ab_G} {fr : Bool} {tl : ab_H} {K : Int32 → ms_S → Prop} {S : ms_S} 
    (h : ∀ n0 : Nat, vp_in ((S.1 0 44) - (nI 1)) 96 ∧ (K (S.2.2.2.1 23 (((S.1 0 44) - (nI 1)).toNatClampNeg)) (sV S 44 ((S.1 0 44) - (nI 1))))) :
    ctI G 1 M_X12_dropHeld fr [.ref 0] lM S tl K := by
  refine wp_ct o_X12_dropHeld (Nat.le_of_ble_eq_true rfl) ?_
  replace h := h (hLy lM S tl).length
  revert h
  generalize (hLy lM S tl).length = n0
  intro h
  iterate 10 refine ws_b rfl ?_
  refine ws_g rfl h.1 ?_
  replace h := h.2
  exact wp_ri rfl rfl rfl ⟨_, _, rfl, rfl, h⟩
def L_X12_bind_0 (G : ab_G) (fr : Bool) (n0 : Nat) (tl : ab_H) (K : ms_S → Prop) (S : ms_S) (i1 : Int32) : Prop := wp G 2 M_X12_bind fr n0 (poU lM tl K) 0 [some (.ref 0), some (.int i1), none, none, none] [] (hLy lM S tl)
def L_X12_bind_58 (G : ab_G) (fr : Bool) (n0 : Nat) (tl : ab_H) (K : ms_S → Prop) (S : ms_S) (i1 : Int32) (i2 : Int32) (t0 : Int32) : Prop := wp G 2 M_X12_bind fr n0 (poU lM tl K) 58 [some (.ref 0), some (.int i1), some (.int i2), none, none] [.int t0] (hLy lM S tl)
def L_X12_bind_76 (G : ab_G) (fr : Bool) (n0 : Nat) (tl : ab_H) (K : ms_S → Prop) (S : ms_S)  : Prop := wp G 2 M_X12_bind fr n0 (poU lM tl K) 76 [none, none, none, none, none] [] (hLy lM S tl)
set_option maxRecDepth 100000 in
set_option maxHeartbeats 4000000 in
theorem b_X12_bind_0 {G : ab_G} {fr : Bool} {n0 : Nat} {tl : ab_H} {K : ms_S → Prop} {S : ms_S} {i1 : Int32}
    (h : ((S.1 0 43) ≤ 0 → (L_X12_bind_76 G fr n0 tl K S )) ∧ (¬ (S.1 0 43) ≤ 0 → (vp_in ((S.1 0 43) - (nI 1)) 96 ∧ (ctI G 1 M_X12_rank fr [.int (S.2.2.2.1 22 (((S.1 0 43) - (nI 1)).toNatClampNeg))] lM S tl (fun v1 S1 => (v1 < i1 → (L_X12_bind_76 G fr n0 tl K S1 )) ∧ (¬ v1 < i1 → (vp_in ((S1.1 0 43) - (nI 1)) 96 ∧ (((S1.2.2.2.1 22 (((S1.1 0 43) - (nI 1)).toNatClampNeg)) = (nI 2) → (L_X12_bind_58 G fr n0 tl K (sV S1 43 ((S1.1 0 43) - (nI 1))) i1 (S1.2.2.2.1 22 (((S1.1 0 43) - (nI 1)).toNatClampNeg)) (-(nI 1)))) ∧ (¬ (S1.2.2.2.1 22 (((S1.1 0 43) - (nI 1)).toNatClampNeg)) = (nI 2) → (ctI G 1 M_X12_dropHeld fr [.ref 0] lM (sV S1 43 ((S1.1 0 43) - (nI 1))) tl (fun v2 S2 => L_X12_bind_58 G fr n0 tl K S2 i1 (S1.2.2.2.1 22 (((S1.1 0 43) - (nI 1)).toNatClampNeg)) v2))))))))))) :
    L_X12_bind_0 G fr n0 tl K S i1 := by
  unfold L_X12_bind_0
  iterate 3 refine ws_b rfl ?_
  refine wp_ite (fun q => ?_) (fun q => ?_)
  · replace h := h.1 q
    exact wp_weak (wk_n (wk_n (wk_s (wk_s (wk_s wk_0))))) h
  · replace h := h.2 q
    iterate 6 refine ws_b rfl ?_
    refine ws_g rfl h.1 ?_
    replace h := h.2
    refine wp_cS rfl rfl o_X12_rank s_X12_rank h rfl rfl (Nat.le_of_ble_eq_true rfl) (by decide) ?_
    clear h
    rintro r9 h9 ⟨v1, S1, rfl, rfl, h⟩
    iterate 2 refine ws_b rfl ?_
    refine wp_ite (fun q => ?_) (fun q => ?_)
    · replace h := h.1 q
      exact wp_weak (wk_n (wk_n (wk_s (wk_s (wk_s wk_0))))) h
    · replace h := h.2 q
      iterate 10 refine ws_b rfl ?_
      refine ws_g rfl h.1 ?_
      replace h := h.2
      iterate 4 refine ws_b rfl ?_
      refine wp_ite (fun q => ?_) (fun q => ?_)
      · replace h := h.1 q
        iterate 2 refine ws_b rfl ?_
        exact wp_weak (wk_s (wk_s (wk_s (wk_s (wk_s wk_0))))) h
      · replace h := h.2 q
        refine ws_b rfl ?_
        refine wp_cV rfl rfl o_X12_dropHeld v_X12_dropHeld h rfl rfl rfl (Nat.le_of_ble_eq_true rfl) (by decide) ?_
        clear h
        rintro r9 h9 ⟨v2, S2, rfl, rfl, h⟩
        exact wp_weak (wk_s (wk_s (wk_s (wk_s (wk_s wk_0))))) h
set_option maxRecDepth 100000 in
set_option maxHeartbeats 4000000 in
theorem b_X12_bind_58 {G : ab_G} {fr : Bool} {n0 : Nat} {tl : ab_H} {K : ms_S → Prop} {S : ms_S} {i1 : Int32} {i2 : Int32} {t0 : Int32}
    (h : ctI G 1 M_X12_dropHeld fr [.ref 0] lM S tl (fun v1 S1 => ctU G 1 M_X12_grown fr [.ref 0, .int i2, .int v1, .int t0] lM S1 tl (fun S2 => L_X12_bind_0 G fr n0 tl K S2 i1))) :
    L_X12_bind_58 G fr n0 tl K S i1 i2 t0 := by
  unfold L_X12_bind_58
  iterate 2 refine ws_b rfl ?_
  refine wp_cV rfl rfl o_X12_dropHeld v_X12_dropHeld h rfl rfl rfl (Nat.le_of_ble_eq_true rfl) (by decide) ?_
  clear h
  rintro r9 h9 ⟨v1, S1, rfl, rfl, h⟩
  iterate 5 refine ws_b rfl ?_
  refine wp_cV rfl rfl o_X12_grown v_X12_grown h rfl rfl rfl (Nat.le_of_ble_eq_true rfl) (by decide) ?_
  clear h
  rintro r9 h9 ⟨S2, rfl, rfl, h⟩
  refine ws_b rfl ?_
  exact wp_weak (wk_s (wk_s (wk_n (wk_n (wk_n wk_0))))) h
set_option maxRecDepth 100000 in
set_option maxHeartbeats 4000000 in
theorem b_X12_bind_76 {G : ab_G} {fr : Bool} {n0 : Nat} {tl : ab_H} {K : ms_S → Prop} {S : ms_S} 
    (h : K S) :
    L_X12_bind_76 G fr n0 tl K S  := by
  unfold L_X12_bind_76
  exact wp_rv rfl rfl ⟨_, rfl, rfl, h⟩
set_option maxRecDepth 100000 in
set_option maxHeartbeats 4000000 in
theorem m_X12_bind {G : ab_G} {fr : Bool} {tl : ab_H} {K : ms_S → Prop} {S : ms_S} {i1 : Int32}
    (h : ∀ n0 : Nat, L_X12_bind_0 G fr n0 tl K S i1) :
    ctU G 2 M_X12_bind fr [.ref 0, .int i1] lM S tl K := by
  refine wp_ct o_X12_bind (Nat.le_of_ble_eq_true rfl) ?_
  replace h := h (hLy lM S tl).length
  revert h
  generalize (hLy lM S tl).length = n0
  intro h
  exact wp_weak (wk_s (wk_s (wk_s (wk_s (wk_s wk_0))))) h
set_option maxRecDepth 100000 in
set_option maxHeartbeats 4000000 in
theorem m_X12_isCounted {G : ab_G} {fr : Bool} {tl : ab_H} {K : Int32 → ms_S → Prop} {S : ms_S} 
    (h : ∀ n0 : Nat, ((S.1 0 46) = (nI 64) → (ctI G 1 M_X12_wrong fr [.ref 0, .int (nI 2)] lM S tl (fun v1 S1 => (v1 = 0 ∨ v1 = 1) ∧ K v1 S1))) ∧ (¬ (S.1 0 46) = (nI 64) → (K (nI 1) (sV S 46 ((S.1 0 46) + (nI 1)))))) :
    ctI G 2 M_X12_isCounted fr [.ref 0] lM S tl K := by
  refine wp_ct o_X12_isCounted (Nat.le_of_ble_eq_true rfl) ?_
  replace h := h (hLy lM S tl).length
  revert h
  generalize (hLy lM S tl).length = n0
  intro h
  iterate 4 refine ws_b rfl ?_
  refine wp_ite (fun q => ?_) (fun q => ?_)
  · replace h := h.1 q
    iterate 2 refine ws_b rfl ?_
    refine wp_cV rfl rfl o_X12_wrong v_X12_wrong h rfl rfl rfl (Nat.le_of_ble_eq_true rfl) (by decide) ?_
    clear h
    rintro r9 h9 ⟨v1, S1, rfl, rfl, h⟩
    exact wp_ri rfl rfl (nw_b h.1) ⟨_, _, rfl, rfl, h.2⟩
  · replace h := h.2 q
    iterate 7 refine ws_b rfl ?_
    exact wp_ri rfl rfl rfl ⟨_, _, rfl, rfl, h⟩
set_option maxRecDepth 100000 in
set_option maxHeartbeats 4000000 in
theorem m_X12_waitsFor {G : ab_G} {fr : Bool} {tl : ab_H} {K : ms_S → Prop} {S : ms_S} {i1 : Int32}
    (h : ∀ n0 : Nat, vp_in (S.1 0 43) 96 ∧ (K (sV (sA S 22 ((S.1 0 43).toNatClampNeg) i1) 43 ((S.1 0 43) + (nI 1))))) :
    ctU G 1 M_X12_waitsFor fr [.ref 0, .int i1] lM S tl K := by
  refine wp_ct o_X12_waitsFor (Nat.le_of_ble_eq_true rfl) ?_
  replace h := h (hLy lM S tl).length
  revert h
  generalize (hLy lM S tl).length = n0
  intro h
  iterate 5 refine ws_b rfl ?_
  refine ws_g rfl h.1 ?_
  replace h := h.2
  iterate 6 refine ws_b rfl ?_
  exact wp_rv rfl rfl ⟨_, rfl, rfl, h⟩
set_option maxRecDepth 100000 in
set_option maxHeartbeats 4000000 in
theorem m_X12_nameMet {G : ab_G} {fr : Bool} {tl : ab_H} {K : Int32 → ms_S → Prop} {S : ms_S} 
    (h : ∀ n0 : Nat, ((S.1 0 8) = (nI 1) → (((S.1 0 9) < (nI 14) → (K (-(nI 1)) S)) ∧ (¬ (S.1 0 9) < (nI 14) → (K ((S.1 0 9) - (nI 14)) S)))) ∧ (¬ (S.1 0 8) = (nI 1) → (K (-(nI 1)) S))) :
    ctI G 1 M_X12_nameMet fr [.ref 0] lM S tl K := by
  refine wp_ct o_X12_nameMet (Nat.le_of_ble_eq_true rfl) ?_
  replace h := h (hLy lM S tl).length
  revert h
  generalize (hLy lM S tl).length = n0
  intro h
  iterate 4 refine ws_b rfl ?_
  refine wp_ite (fun q => ?_) (fun q => ?_)
  · replace h := h.1 q
    iterate 4 refine ws_b rfl ?_
    refine wp_ite (fun q => ?_) (fun q => ?_)
    · replace h := h.1 q
      refine ws_b rfl ?_
      exact wp_ri rfl rfl rfl ⟨_, _, rfl, rfl, h⟩
    · replace h := h.2 q
      iterate 5 refine ws_b rfl ?_
      exact wp_ri rfl rfl rfl ⟨_, _, rfl, rfl, h⟩
  · replace h := h.2 q
    refine ws_b rfl ?_
    exact wp_ri rfl rfl rfl ⟨_, _, rfl, rfl, h⟩
def L_X12_leafRead_86 (G : ab_G) (fr : Bool) (n0 : Nat) (tl : ab_H) (K : Int32 → ms_S → Prop) (S : ms_S)  : Prop := wp G 3 M_X12_leafRead fr n0 (poI lM tl K) 86 [some (.ref 0), none] [] (hLy lM S tl)
def L_X12_leafRead_109 (G : ab_G) (fr : Bool) (n0 : Nat) (tl : ab_H) (K : Int32 → ms_S → Prop) (S : ms_S) (i1 : Int32) : Prop := wp G 3 M_X12_leafRead fr n0 (poI lM tl K) 109 [some (.ref 0), some (.int i1)] [] (hLy lM S tl)
def L_X12_leafRead_129 (G : ab_G) (fr : Bool) (n0 : Nat) (tl : ab_H) (K : Int32 → ms_S → Prop) (S : ms_S) (i1 : Int32) : Prop := wp G 3 M_X12_leafRead fr n0 (poI lM tl K) 129 [some (.ref 0), some (.int i1)] [] (hLy lM S tl)
def L_X12_leafRead_148 (G : ab_G) (fr : Bool) (n0 : Nat) (tl : ab_H) (K : Int32 → ms_S → Prop) (S : ms_S) (i1 : Int32) (t0 : Int32) : Prop := wp G 3 M_X12_leafRead fr n0 (poI lM tl K) 148 [some (.ref 0), some (.int i1)] [.int t0, .ref 0] (hLy lM S tl)
def L_X12_leafRead_160 (G : ab_G) (fr : Bool) (n0 : Nat) (tl : ab_H) (K : Int32 → ms_S → Prop) (S : ms_S) (t0 : Int32) (t1 : Int32) : Prop := wp G 3 M_X12_leafRead fr n0 (poI lM tl K) 160 [some (.ref 0), none] [.int t0, .int t1, .ref 0] (hLy lM S tl)
set_option maxRecDepth 100000 in
set_option maxHeartbeats 4000000 in
theorem b_X12_leafRead_86 {G : ab_G} {fr : Bool} {n0 : Nat} {tl : ab_H} {K : Int32 → ms_S → Prop} {S : ms_S} 
    (h : ctI G 1 M_X12_nameMet fr [.ref 0] lM S tl (fun v1 S1 => (0 ≤ v1 → (L_X12_leafRead_109 G fr n0 tl K S1 v1)) ∧ (¬ 0 ≤ v1 → (((S1.1 0 8) = (nI 3) → (L_X12_leafRead_109 G fr n0 tl K S1 v1)) ∧ (¬ (S1.1 0 8) = (nI 3) → (ctI G 1 M_X12_wrong fr [.ref 0, .int (nI 1)] lM S1 tl (fun v2 S2 => (v2 = 0 ∨ v2 = 1) ∧ K v2 S2))))))) :
    L_X12_leafRead_86 G fr n0 tl K S  := by
  unfold L_X12_leafRead_86
  refine ws_b rfl ?_
  refine wp_cV rfl rfl o_X12_nameMet v_X12_nameMet h rfl rfl rfl (Nat.le_of_ble_eq_true rfl) (by decide) ?_
  clear h
  rintro r9 h9 ⟨v1, S1, rfl, rfl, h⟩
  iterate 3 refine ws_b rfl ?_
  refine wp_ite (fun q => ?_) (fun q => ?_)
  · replace h := h.1 q
    exact wp_weak (wk_s (wk_s wk_0)) h
  · replace h := h.2 q
    iterate 4 refine ws_b rfl ?_
    refine wp_ite (fun q => ?_) (fun q => ?_)
    · replace h := h.1 q
      exact wp_weak (wk_s (wk_s wk_0)) h
    · replace h := h.2 q
      iterate 2 refine ws_b rfl ?_
      refine wp_cV rfl rfl o_X12_wrong v_X12_wrong h rfl rfl rfl (Nat.le_of_ble_eq_true rfl) (by decide) ?_
      clear h
      rintro r9 h9 ⟨v2, S2, rfl, rfl, h⟩
      exact wp_ri rfl rfl (nw_b h.1) ⟨_, _, rfl, rfl, h.2⟩
set_option maxRecDepth 100000 in
set_option maxHeartbeats 4000000 in
theorem b_X12_leafRead_109 {G : ab_G} {fr : Bool} {n0 : Nat} {tl : ab_H} {K : Int32 → ms_S → Prop} {S : ms_S} {i1 : Int32}
    (h : (0 ≤ i1 → (L_X12_leafRead_129 G fr n0 tl K S i1)) ∧ (¬ 0 ≤ i1 → (((S.1 0 9) ≤ (nI 9999) → (L_X12_leafRead_129 G fr n0 tl K S i1)) ∧ (¬ (S.1 0 9) ≤ (nI 9999) → (ctI G 1 M_X12_wrong fr [.ref 0, .int (nI 2)] lM S tl (fun v1 S1 => (v1 = 0 ∨ v1 = 1) ∧ K v1 S1)))))) :
    L_X12_leafRead_109 G fr n0 tl K S i1 := by
  unfold L_X12_leafRead_109
  iterate 2 refine ws_b rfl ?_
  refine wp_ite (fun q => ?_) (fun q => ?_)
  · replace h := h.1 q
    exact wp_weak (wk_s (wk_s wk_0)) h
  · replace h := h.2 q
    iterate 4 refine ws_b rfl ?_
    refine wp_ite (fun q => ?_) (fun q => ?_)
    · replace h := h.1 q
      exact wp_weak (wk_s (wk_s wk_0)) h
    · replace h := h.2 q
      iterate 2 refine ws_b rfl ?_
      refine wp_cV rfl rfl o_X12_wrong v_X12_wrong h rfl rfl rfl (Nat.le_of_ble_eq_true rfl) (by decide) ?_
      clear h
      rintro r9 h9 ⟨v1, S1, rfl, rfl, h⟩
      exact wp_ri rfl rfl (nw_b h.1) ⟨_, _, rfl, rfl, h.2⟩
set_option maxRecDepth 100000 in
set_option maxHeartbeats 4000000 in
theorem b_X12_leafRead_129 {G : ab_G} {fr : Bool} {n0 : Nat} {tl : ab_H} {K : Int32 → ms_S → Prop} {S : ms_S} {i1 : Int32}
    (h : ctI G 2 M_X12_isCounted fr [.ref 0] lM S tl (fun v1 S1 => (v1 = 0 → (K (nI 0) S1)) ∧ (¬ v1 = 0 → ((i1 < 0 → (L_X12_leafRead_148 G fr n0 tl K S1 i1 (nI 0))) ∧ (¬ i1 < 0 → (L_X12_leafRead_148 G fr n0 tl K S1 i1 (nI 1))))))) :
    L_X12_leafRead_129 G fr n0 tl K S i1 := by
  unfold L_X12_leafRead_129
  refine ws_b rfl ?_
  refine wp_cV rfl rfl o_X12_isCounted v_X12_isCounted h rfl rfl rfl (Nat.le_of_ble_eq_true rfl) (by decide) ?_
  clear h
  rintro r9 h9 ⟨v1, S1, rfl, rfl, h⟩
  refine ws_b rfl ?_
  refine wp_ite (fun q => ?_) (fun q => ?_)
  · replace h := h.1 q
    refine ws_b rfl ?_
    exact wp_ri rfl rfl rfl ⟨_, _, rfl, rfl, h⟩
  · replace h := h.2 q
    iterate 3 refine ws_b rfl ?_
    refine wp_ite (fun q => ?_) (fun q => ?_)
    · replace h := h.1 q
      refine ws_b rfl ?_
      exact wp_weak (wk_s (wk_s wk_0)) h
    · replace h := h.2 q
      iterate 2 refine ws_b rfl ?_
      exact wp_weak (wk_s (wk_s wk_0)) h
set_option maxRecDepth 100000 in
set_option maxHeartbeats 4000000 in
theorem b_X12_leafRead_148 {G : ab_G} {fr : Bool} {n0 : Nat} {tl : ab_H} {K : Int32 → ms_S → Prop} {S : ms_S} {i1 : Int32} {t0 : Int32}
    (h : (i1 < 0 → (L_X12_leafRead_160 G fr n0 tl K S (S.1 0 9) t0)) ∧ (¬ i1 < 0 → (L_X12_leafRead_160 G fr n0 tl K S i1 t0))) :
    L_X12_leafRead_148 G fr n0 tl K S i1 t0 := by
  unfold L_X12_leafRead_148
  iterate 2 refine ws_b rfl ?_
  refine wp_ite (fun q => ?_) (fun q => ?_)
  · replace h := h.1 q
    iterate 2 refine ws_b rfl ?_
    exact wp_weak (wk_s (wk_n wk_0)) h
  · replace h := h.2 q
    iterate 2 refine ws_b rfl ?_
    exact wp_weak (wk_s (wk_n wk_0)) h
set_option maxRecDepth 100000 in
set_option maxHeartbeats 4000000 in
theorem b_X12_leafRead_160 {G : ab_G} {fr : Bool} {n0 : Nat} {tl : ab_H} {K : Int32 → ms_S → Prop} {S : ms_S} {t0 : Int32} {t1 : Int32}
    (h : ctU G 1 M_X12_grown fr [.ref 0, .int t1, .int t0, .int (nI 0)] lM S tl (fun S1 => ctU G 2 M_X12_token fr [.ref 0] lM (sV S1 47 (nI 0)) tl (fun S2 => K (nI 1) S2))) :
    L_X12_leafRead_160 G fr n0 tl K S t0 t1 := by
  unfold L_X12_leafRead_160
  refine ws_b rfl ?_
  refine wp_cV rfl rfl o_X12_grown v_X12_grown h rfl rfl rfl (Nat.le_of_ble_eq_true rfl) (by decide) ?_
  clear h
  rintro r9 h9 ⟨S1, rfl, rfl, h⟩
  iterate 2 refine ws_b rfl ?_
  refine ws_g rfl (Or.inl rfl) ?_
  refine ws_b rfl ?_
  refine wp_cV rfl rfl o_X12_token v_X12_token h rfl rfl rfl (Nat.le_of_ble_eq_true rfl) (by decide) ?_
  clear h
  rintro r9 h9 ⟨S2, rfl, rfl, h⟩
  refine ws_b rfl ?_
  exact wp_ri rfl rfl rfl ⟨_, _, rfl, rfl, h⟩
set_option maxRecDepth 100000 in
set_option maxHeartbeats 4000000 in
theorem m_X12_leafRead {G : ab_G} {fr : Bool} {tl : ab_H} {K : Int32 → ms_S → Prop} {S : ms_S} 
    (h : ∀ n0 : Nat, ctI G 1 M_X12_isSign fr [.ref 0, .int (nI 40)] lM S tl (fun v1 S1 => (v1 = 0 → (ctI G 1 M_X12_isKey fr [.ref 0, .int (nI 13)] lM S1 tl (fun v2 S2 => (v2 = 0 → (L_X12_leafRead_86 G fr n0 tl K S2 )) ∧ (¬ v2 = 0 → (((S2.1 0 48) = 0 → (L_X12_leafRead_86 G fr n0 tl K S2 )) ∧ (¬ (S2.1 0 48) = 0 → (ctI G 2 M_X12_isCounted fr [.ref 0] lM S2 tl (fun v3 S3 => (v3 = 0 → (K (nI 0) S3)) ∧ (¬ v3 = 0 → (ctU G 1 M_X12_waitsFor fr [.ref 0, .int (nI 2)] lM S3 tl (fun S4 => ctU G 2 M_X12_token fr [.ref 0] lM S4 tl (fun S5 => K (nI 1) S5)))))))))))) ∧ (¬ v1 = 0 → (((S1.1 0 45) = (nI 8) → (ctI G 1 M_X12_wrong fr [.ref 0, .int (nI 2)] lM S1 tl (fun v6 S6 => (v6 = 0 ∨ v6 = 1) ∧ K v6 S6))) ∧ (¬ (S1.1 0 45) = (nI 8) → (ctU G 1 M_X12_waitsFor fr [.ref 0, .int (nI 0)] lM (sV S1 45 ((S1.1 0 45) + (nI 1))) tl (fun S7 => ctU G 2 M_X12_token fr [.ref 0] lM (sV S7 48 (nI 1)) tl (fun S8 => K (nI 1) S8)))))))) :
    ctI G 3 M_X12_leafRead fr [.ref 0] lM S tl K := by
  refine wp_ct o_X12_leafRead (Nat.le_of_ble_eq_true rfl) ?_
  replace h := h (hLy lM S tl).length
  revert h
  generalize (hLy lM S tl).length = n0
  intro h
  iterate 2 refine ws_b rfl ?_
  refine wp_cV rfl rfl o_X12_isSign v_X12_isSign h rfl rfl rfl (Nat.le_of_ble_eq_true rfl) (by decide) ?_
  clear h
  rintro r9 h9 ⟨v1, S1, rfl, rfl, h⟩
  refine ws_b rfl ?_
  refine wp_ite (fun q => ?_) (fun q => ?_)
  · replace h := h.1 q
    iterate 2 refine ws_b rfl ?_
    refine wp_cV rfl rfl o_X12_isKey v_X12_isKey h rfl rfl rfl (Nat.le_of_ble_eq_true rfl) (by decide) ?_
    clear h
    rintro r9 h9 ⟨v2, S2, rfl, rfl, h⟩
    refine ws_b rfl ?_
    refine wp_ite (fun q => ?_) (fun q => ?_)
    · replace h := h.1 q
      exact wp_weak (wk_s (wk_s wk_0)) h
    · replace h := h.2 q
      iterate 3 refine ws_b rfl ?_
      refine wp_ite (fun q => ?_) (fun q => ?_)
      · replace h := h.1 q
        exact wp_weak (wk_s (wk_s wk_0)) h
      · replace h := h.2 q
        refine ws_b rfl ?_
        refine wp_cV rfl rfl o_X12_isCounted v_X12_isCounted h rfl rfl rfl (Nat.le_of_ble_eq_true rfl) (by decide) ?_
        clear h
        rintro r9 h9 ⟨v3, S3, rfl, rfl, h⟩
        refine ws_b rfl ?_
        refine wp_ite (fun q => ?_) (fun q => ?_)
        · replace h := h.1 q
          refine ws_b rfl ?_
          exact wp_ri rfl rfl rfl ⟨_, _, rfl, rfl, h⟩
        · replace h := h.2 q
          iterate 2 refine ws_b rfl ?_
          refine wp_cV rfl rfl o_X12_waitsFor v_X12_waitsFor h rfl rfl rfl (Nat.le_of_ble_eq_true rfl) (by decide) ?_
          clear h
          rintro r9 h9 ⟨S4, rfl, rfl, h⟩
          refine ws_b rfl ?_
          refine wp_cV rfl rfl o_X12_token v_X12_token h rfl rfl rfl (Nat.le_of_ble_eq_true rfl) (by decide) ?_
          clear h
          rintro r9 h9 ⟨S5, rfl, rfl, h⟩
          refine ws_b rfl ?_
          exact wp_ri rfl rfl rfl ⟨_, _, rfl, rfl, h⟩
  · replace h := h.2 q
    iterate 4 refine ws_b rfl ?_
    refine wp_ite (fun q => ?_) (fun q => ?_)
    · replace h := h.1 q
      iterate 2 refine ws_b rfl ?_
      refine wp_cV rfl rfl o_X12_wrong v_X12_wrong h rfl rfl rfl (Nat.le_of_ble_eq_true rfl) (by decide) ?_
      clear h
      rintro r9 h9 ⟨v6, S6, rfl, rfl, h⟩
      exact wp_ri rfl rfl (nw_b h.1) ⟨_, _, rfl, rfl, h.2⟩
    · replace h := h.2 q
      iterate 8 refine ws_b rfl ?_
      refine wp_cV rfl rfl o_X12_waitsFor v_X12_waitsFor h rfl rfl rfl (Nat.le_of_ble_eq_true rfl) (by decide) ?_
      clear h
      rintro r9 h9 ⟨S7, rfl, rfl, h⟩
      iterate 2 refine ws_b rfl ?_
      refine ws_g rfl (Or.inr rfl) ?_
      refine ws_b rfl ?_
      refine wp_cV rfl rfl o_X12_token v_X12_token h rfl rfl rfl (Nat.le_of_ble_eq_true rfl) (by decide) ?_
      clear h
      rintro r9 h9 ⟨S8, rfl, rfl, h⟩
      refine ws_b rfl ?_
      exact wp_ri rfl rfl rfl ⟨_, _, rfl, rfl, h⟩
def L_X12_signs_47 (G : ab_G) (fr : Bool) (n0 : Nat) (tl : ab_H) (K : Int32 → ms_S → Prop) (S : ms_S)  : Prop := wp G 3 M_X12_signs fr n0 (poI lM tl K) 47 [some (.ref 0), none] [] (hLy lM S tl)
def L_X12_signs_147 (G : ab_G) (fr : Bool) (n0 : Nat) (tl : ab_H) (K : Int32 → ms_S → Prop) (S : ms_S) (t0 : Int32) : Prop := wp G 3 M_X12_signs fr n0 (poI lM tl K) 147 [some (.ref 0), none] [.int t0] (hLy lM S tl)
def L_X12_signs_175 (G : ab_G) (fr : Bool) (n0 : Nat) (tl : ab_H) (K : Int32 → ms_S → Prop) (S : ms_S) (i1 : Int32) (t0 : Int32) : Prop := wp G 3 M_X12_signs fr n0 (poI lM tl K) 175 [some (.ref 0), some (.int i1)] [.int t0, .ref 0] (hLy lM S tl)
def L_X12_signs_217 (G : ab_G) (fr : Bool) (n0 : Nat) (tl : ab_H) (K : Int32 → ms_S → Prop) (S : ms_S) (i1 : Int32) : Prop := wp G 3 M_X12_signs fr n0 (poI lM tl K) 217 [some (.ref 0), some (.int i1)] [] (hLy lM S tl)
def L_X12_signs_250 (G : ab_G) (fr : Bool) (n0 : Nat) (tl : ab_H) (K : Int32 → ms_S → Prop) (S : ms_S) (t0 : Int32) : Prop := wp G 3 M_X12_signs fr n0 (poI lM tl K) 250 [some (.ref 0), none] [.int t0, .ref 0] (hLy lM S tl)
set_option maxRecDepth 100000 in
set_option maxHeartbeats 4000000 in
theorem b_X12_signs_47 {G : ab_G} {fr : Bool} {n0 : Nat} {tl : ab_H} {K : Int32 → ms_S → Prop} {S : ms_S} 
    (h : ctI G 1 M_X12_isKey fr [.ref 0, .int (nI 11)] lM S tl (fun v1 S1 => (v1 = 0 → (ctI G 1 M_X12_isKey fr [.ref 0, .int (nI 12)] lM S1 tl (fun v2 S2 => (v2 = 0 → (((S2.1 0 8) = (nI 5) → (L_X12_signs_147 G fr n0 tl K S2 ((nI 5) + (S2.1 0 9)))) ∧ (¬ (S2.1 0 8) = (nI 5) → (ctI G 1 M_X12_isSign fr [.ref 0, .int (nI 43)] lM S2 tl (fun v3 S3 => (v3 = 0 → (ctI G 1 M_X12_isSign fr [.ref 0, .int (nI 45)] lM S3 tl (fun v4 S4 => (v4 = 0 → (ctI G 1 M_X12_isSign fr [.ref 0, .int (nI 42)] lM S4 tl (fun v5 S5 => (v5 = 0 → (ctI G 1 M_X12_isSign fr [.ref 0, .int (nI 47)] lM S5 tl (fun v6 S6 => (v6 = 0 → (L_X12_signs_147 G fr n0 tl K S6 (nI 0))) ∧ (¬ v6 = 0 → (L_X12_signs_147 G fr n0 tl K S6 (nI 14)))))) ∧ (¬ v5 = 0 → (L_X12_signs_147 G fr n0 tl K S5 (nI 13)))))) ∧ (¬ v4 = 0 → (L_X12_signs_147 G fr n0 tl K S4 (nI 12)))))) ∧ (¬ v3 = 0 → (L_X12_signs_147 G fr n0 tl K S3 (nI 11)))))))) ∧ (¬ v2 = 0 → (L_X12_signs_147 G fr n0 tl K S2 (nI 4)))))) ∧ (¬ v1 = 0 → (L_X12_signs_147 G fr n0 tl K S1 (nI 3))))) :
    L_X12_signs_47 G fr n0 tl K S  := by
  unfold L_X12_signs_47
  iterate 2 refine ws_b rfl ?_
  refine wp_cV rfl rfl o_X12_isKey v_X12_isKey h rfl rfl rfl (Nat.le_of_ble_eq_true rfl) (by decide) ?_
  clear h
  rintro r9 h9 ⟨v1, S1, rfl, rfl, h⟩
  refine ws_b rfl ?_
  refine wp_ite (fun q => ?_) (fun q => ?_)
  · replace h := h.1 q
    iterate 2 refine ws_b rfl ?_
    refine wp_cV rfl rfl o_X12_isKey v_X12_isKey h rfl rfl rfl (Nat.le_of_ble_eq_true rfl) (by decide) ?_
    clear h
    rintro r9 h9 ⟨v2, S2, rfl, rfl, h⟩
    refine ws_b rfl ?_
    refine wp_ite (fun q => ?_) (fun q => ?_)
    · replace h := h.1 q
      iterate 4 refine ws_b rfl ?_
      refine wp_ite (fun q => ?_) (fun q => ?_)
      · replace h := h.1 q
        iterate 5 refine ws_b rfl ?_
        exact wp_weak (wk_s (wk_s wk_0)) h
      · replace h := h.2 q
        iterate 2 refine ws_b rfl ?_
        refine wp_cV rfl rfl o_X12_isSign v_X12_isSign h rfl rfl rfl (Nat.le_of_ble_eq_true rfl) (by decide) ?_
        clear h
        rintro r9 h9 ⟨v3, S3, rfl, rfl, h⟩
        refine ws_b rfl ?_
        refine wp_ite (fun q => ?_) (fun q => ?_)
        · replace h := h.1 q
          iterate 2 refine ws_b rfl ?_
          refine wp_cV rfl rfl o_X12_isSign v_X12_isSign h rfl rfl rfl (Nat.le_of_ble_eq_true rfl) (by decide) ?_
          clear h
          rintro r9 h9 ⟨v4, S4, rfl, rfl, h⟩
          refine ws_b rfl ?_
          refine wp_ite (fun q => ?_) (fun q => ?_)
          · replace h := h.1 q
            iterate 2 refine ws_b rfl ?_
            refine wp_cV rfl rfl o_X12_isSign v_X12_isSign h rfl rfl rfl (Nat.le_of_ble_eq_true rfl) (by decide) ?_
            clear h
            rintro r9 h9 ⟨v5, S5, rfl, rfl, h⟩
            refine ws_b rfl ?_
            refine wp_ite (fun q => ?_) (fun q => ?_)
            · replace h := h.1 q
              iterate 2 refine ws_b rfl ?_
              refine wp_cV rfl rfl o_X12_isSign v_X12_isSign h rfl rfl rfl (Nat.le_of_ble_eq_true rfl) (by decide) ?_
              clear h
              rintro r9 h9 ⟨v6, S6, rfl, rfl, h⟩
              refine ws_b rfl ?_
              refine wp_ite (fun q => ?_) (fun q => ?_)
              · replace h := h.1 q
                refine ws_b rfl ?_
                exact wp_weak (wk_s (wk_s wk_0)) h
              · replace h := h.2 q
                iterate 2 refine ws_b rfl ?_
                exact wp_weak (wk_s (wk_s wk_0)) h
            · replace h := h.2 q
              iterate 2 refine ws_b rfl ?_
              exact wp_weak (wk_s (wk_s wk_0)) h
          · replace h := h.2 q
            iterate 2 refine ws_b rfl ?_
            exact wp_weak (wk_s (wk_s wk_0)) h
        · replace h := h.2 q
          iterate 2 refine ws_b rfl ?_
          exact wp_weak (wk_s (wk_s wk_0)) h
    · replace h := h.2 q
      iterate 2 refine ws_b rfl ?_
      exact wp_weak (wk_s (wk_s wk_0)) h
  · replace h := h.2 q
    iterate 2 refine ws_b rfl ?_
    exact wp_weak (wk_s (wk_s wk_0)) h
set_option maxRecDepth 100000 in
set_option maxHeartbeats 4000000 in
theorem b_X12_signs_147 {G : ab_G} {fr : Bool} {n0 : Nat} {tl : ab_H} {K : Int32 → ms_S → Prop} {S : ms_S} {t0 : Int32}
    (h : (t0 = 0 → (ctI G 1 M_X12_wrong fr [.ref 0, .int (nI 1)] lM S tl (fun v1 S1 => (v1 = 0 ∨ v1 = 1) ∧ K v1 S1))) ∧ (¬ t0 = 0 → (ctI G 1 M_X12_rank fr [.int t0] lM S tl (fun v2 S2 => (v2 = (nI 4) → (L_X12_signs_175 G fr n0 tl K S2 t0 (nI 5))) ∧ (¬ v2 = (nI 4) → (ctI G 1 M_X12_rank fr [.int t0] lM S2 tl (fun v3 S3 => L_X12_signs_175 G fr n0 tl K S3 t0 v3))))))) :
    L_X12_signs_147 G fr n0 tl K S t0 := by
  unfold L_X12_signs_147
  iterate 3 refine ws_b rfl ?_
  refine wp_ite (fun q => ?_) (fun q => ?_)
  · replace h := h.1 q
    iterate 2 refine ws_b rfl ?_
    refine wp_cV rfl rfl o_X12_wrong v_X12_wrong h rfl rfl rfl (Nat.le_of_ble_eq_true rfl) (by decide) ?_
    clear h
    rintro r9 h9 ⟨v1, S1, rfl, rfl, h⟩
    exact wp_ri rfl rfl (nw_b h.1) ⟨_, _, rfl, rfl, h.2⟩
  · replace h := h.2 q
    iterate 2 refine ws_b rfl ?_
    refine wp_cS rfl rfl o_X12_rank s_X12_rank h rfl rfl (Nat.le_of_ble_eq_true rfl) (by decide) ?_
    clear h
    rintro r9 h9 ⟨v2, S2, rfl, rfl, h⟩
    iterate 2 refine ws_b rfl ?_
    refine wp_ite (fun q => ?_) (fun q => ?_)
    · replace h := h.1 q
      iterate 2 refine ws_b rfl ?_
      exact wp_weak (wk_s (wk_s wk_0)) h
    · replace h := h.2 q
      refine ws_b rfl ?_
      refine wp_cS rfl rfl o_X12_rank s_X12_rank h rfl rfl (Nat.le_of_ble_eq_true rfl) (by decide) ?_
      clear h
      rintro r9 h9 ⟨v3, S3, rfl, rfl, h⟩
      exact wp_weak (wk_s (wk_s wk_0)) h
set_option maxRecDepth 100000 in
set_option maxHeartbeats 4000000 in
theorem b_X12_signs_175 {G : ab_G} {fr : Bool} {n0 : Nat} {tl : ab_H} {K : Int32 → ms_S → Prop} {S : ms_S} {i1 : Int32} {t0 : Int32}
    (h : ctU G 2 M_X12_bind fr [.ref 0, .int t0] lM S tl (fun S1 => ctI G 1 M_X12_rank fr [.int i1] lM S1 tl (fun v2 S2 => (v2 = (nI 4) → (((S2.1 0 43) ≤ 0 → (L_X12_signs_217 G fr n0 tl K S2 i1)) ∧ (¬ (S2.1 0 43) ≤ 0 → (vp_in ((S2.1 0 43) - (nI 1)) 96 ∧ (ctI G 1 M_X12_rank fr [.int (S2.2.2.2.1 22 (((S2.1 0 43) - (nI 1)).toNatClampNeg))] lM S2 tl (fun v3 S3 => (v3 = (nI 4) → (ctI G 1 M_X12_wrong fr [.ref 0, .int (nI 1)] lM S3 tl (fun v4 S4 => (v4 = 0 ∨ v4 = 1) ∧ K v4 S4))) ∧ (¬ v3 = (nI 4) → (L_X12_signs_217 G fr n0 tl K S3 i1)))))))) ∧ (¬ v2 = (nI 4) → (L_X12_signs_217 G fr n0 tl K S2 i1))))) :
    L_X12_signs_175 G fr n0 tl K S i1 t0 := by
  unfold L_X12_signs_175
  refine wp_cV rfl rfl o_X12_bind v_X12_bind h rfl rfl rfl (Nat.le_of_ble_eq_true rfl) (by decide) ?_
  clear h
  rintro r9 h9 ⟨S1, rfl, rfl, h⟩
  refine ws_b rfl ?_
  refine wp_cS rfl rfl o_X12_rank s_X12_rank h rfl rfl (Nat.le_of_ble_eq_true rfl) (by decide) ?_
  clear h
  rintro r9 h9 ⟨v2, S2, rfl, rfl, h⟩
  iterate 2 refine ws_b rfl ?_
  refine wp_ite (fun q => ?_) (fun q => ?_)
  · replace h := h.1 q
    iterate 3 refine ws_b rfl ?_
    refine wp_ite (fun q => ?_) (fun q => ?_)
    · replace h := h.1 q
      exact wp_weak (wk_s (wk_s wk_0)) h
    · replace h := h.2 q
      iterate 6 refine ws_b rfl ?_
      refine ws_g rfl h.1 ?_
      replace h := h.2
      refine wp_cS rfl rfl o_X12_rank s_X12_rank h rfl rfl (Nat.le_of_ble_eq_true rfl) (by decide) ?_
      clear h
      rintro r9 h9 ⟨v3, S3, rfl, rfl, h⟩
      iterate 2 refine ws_b rfl ?_
      refine wp_ite (fun q => ?_) (fun q => ?_)
      · replace h := h.1 q
        iterate 2 refine ws_b rfl ?_
        refine wp_cV rfl rfl o_X12_wrong v_X12_wrong h rfl rfl rfl (Nat.le_of_ble_eq_true rfl) (by decide) ?_
        clear h
        rintro r9 h9 ⟨v4, S4, rfl, rfl, h⟩
        exact wp_ri rfl rfl (nw_b h.1) ⟨_, _, rfl, rfl, h.2⟩
      · replace h := h.2 q
        exact wp_weak (wk_s (wk_s wk_0)) h
  · replace h := h.2 q
    exact wp_weak (wk_s (wk_s wk_0)) h
set_option maxRecDepth 100000 in
set_option maxHeartbeats 4000000 in
theorem b_X12_signs_217 {G : ab_G} {fr : Bool} {n0 : Nat} {tl : ab_H} {K : Int32 → ms_S → Prop} {S : ms_S} {i1 : Int32}
    (h : ctI G 2 M_X12_isCounted fr [.ref 0] lM S tl (fun v1 S1 => (v1 = 0 → (K (nI 0) S1)) ∧ (¬ v1 = 0 → (ctU G 1 M_X12_waitsFor fr [.ref 0, .int i1] lM S1 tl (fun S2 => ctI G 1 M_X12_rank fr [.int i1] lM (sV S2 47 (nI 1)) tl (fun v3 S3 => ((nI 3) ≤ v3 → (L_X12_signs_250 G fr n0 tl K S3 (nI 0))) ∧ (¬ (nI 3) ≤ v3 → (L_X12_signs_250 G fr n0 tl K S3 (nI 1))))))))) :
    L_X12_signs_217 G fr n0 tl K S i1 := by
  unfold L_X12_signs_217
  refine ws_b rfl ?_
  refine wp_cV rfl rfl o_X12_isCounted v_X12_isCounted h rfl rfl rfl (Nat.le_of_ble_eq_true rfl) (by decide) ?_
  clear h
  rintro r9 h9 ⟨v1, S1, rfl, rfl, h⟩
  refine ws_b rfl ?_
  refine wp_ite (fun q => ?_) (fun q => ?_)
  · replace h := h.1 q
    refine ws_b rfl ?_
    exact wp_ri rfl rfl rfl ⟨_, _, rfl, rfl, h⟩
  · replace h := h.2 q
    iterate 2 refine ws_b rfl ?_
    refine wp_cV rfl rfl o_X12_waitsFor v_X12_waitsFor h rfl rfl rfl (Nat.le_of_ble_eq_true rfl) (by decide) ?_
    clear h
    rintro r9 h9 ⟨S2, rfl, rfl, h⟩
    iterate 2 refine ws_b rfl ?_
    refine ws_g rfl (Or.inr rfl) ?_
    iterate 2 refine ws_b rfl ?_
    refine wp_cS rfl rfl o_X12_rank s_X12_rank h rfl rfl (Nat.le_of_ble_eq_true rfl) (by decide) ?_
    clear h
    rintro r9 h9 ⟨v3, S3, rfl, rfl, h⟩
    iterate 2 refine ws_b rfl ?_
    refine wp_ite (fun q => ?_) (fun q => ?_)
    · replace h := h.1 q
      refine ws_b rfl ?_
      exact wp_weak (wk_s (wk_n wk_0)) h
    · replace h := h.2 q
      iterate 2 refine ws_b rfl ?_
      exact wp_weak (wk_s (wk_n wk_0)) h
set_option maxRecDepth 100000 in
set_option maxHeartbeats 4000000 in
theorem b_X12_signs_250 {G : ab_G} {fr : Bool} {n0 : Nat} {tl : ab_H} {K : Int32 → ms_S → Prop} {S : ms_S} {t0 : Int32}
    (h : (t0 = 0 ∨ t0 = 1) ∧ (ctU G 2 M_X12_token fr [.ref 0] lM (sV S 48 t0) tl (fun S1 => K (nI 1) S1))) :
    L_X12_signs_250 G fr n0 tl K S t0 := by
  unfold L_X12_signs_250
  refine ws_g rfl h.1 ?_
  replace h := h.2
  refine ws_b rfl ?_
  refine wp_cV rfl rfl o_X12_token v_X12_token h rfl rfl rfl (Nat.le_of_ble_eq_true rfl) (by decide) ?_
  clear h
  rintro r9 h9 ⟨S1, rfl, rfl, h⟩
  refine ws_b rfl ?_
  exact wp_ri rfl rfl rfl ⟨_, _, rfl, rfl, h⟩
set_option maxRecDepth 100000 in
set_option maxHeartbeats 4000000 in
theorem m_X12_signs {G : ab_G} {fr : Bool} {tl : ab_H} {K : Int32 → ms_S → Prop} {S : ms_S} 
    (h : ∀ n0 : Nat, ctI G 1 M_X12_isSign fr [.ref 0, .int (nI 41)] lM S tl (fun v1 S1 => (v1 = 0 → (L_X12_signs_47 G fr n0 tl K S1 )) ∧ (¬ v1 = 0 → (((S1.1 0 45) ≤ 0 → (L_X12_signs_47 G fr n0 tl K S1 )) ∧ (¬ (S1.1 0 45) ≤ 0 → (ctU G 2 M_X12_bind fr [.ref 0, .int (nI 1)] lM S1 tl (fun S2 => ctU G 2 M_X12_token fr [.ref 0] lM (sV (sV S2 43 ((S2.1 0 43) - (nI 1))) 45 ((S2.1 0 45) - (nI 1))) tl (fun S3 => K (nI 1) S3)))))))) :
    ctI G 3 M_X12_signs fr [.ref 0] lM S tl K := by
  refine wp_ct o_X12_signs (Nat.le_of_ble_eq_true rfl) ?_
  replace h := h (hLy lM S tl).length
  revert h
  generalize (hLy lM S tl).length = n0
  intro h
  iterate 2 refine ws_b rfl ?_
  refine wp_cV rfl rfl o_X12_isSign v_X12_isSign h rfl rfl rfl (Nat.le_of_ble_eq_true rfl) (by decide) ?_
  clear h
  rintro r9 h9 ⟨v1, S1, rfl, rfl, h⟩
  refine ws_b rfl ?_
  refine wp_ite (fun q => ?_) (fun q => ?_)
  · replace h := h.1 q
    exact wp_weak (wk_s (wk_s wk_0)) h
  · replace h := h.2 q
    iterate 3 refine ws_b rfl ?_
    refine wp_ite (fun q => ?_) (fun q => ?_)
    · replace h := h.1 q
      exact wp_weak (wk_s (wk_s wk_0)) h
    · replace h := h.2 q
      iterate 2 refine ws_b rfl ?_
      refine wp_cV rfl rfl o_X12_bind v_X12_bind h rfl rfl rfl (Nat.le_of_ble_eq_true rfl) (by decide) ?_
      clear h
      rintro r9 h9 ⟨S2, rfl, rfl, h⟩
      iterate 13 refine ws_b rfl ?_
      refine wp_cV rfl rfl o_X12_token v_X12_token h rfl rfl rfl (Nat.le_of_ble_eq_true rfl) (by decide) ?_
      clear h
      rintro r9 h9 ⟨S3, rfl, rfl, h⟩
      refine ws_b rfl ?_
      exact wp_ri rfl rfl rfl ⟨_, _, rfl, rfl, h⟩
def L_X12_sumRead_25 (G : ab_G) (fr : Bool) (n0 : Nat) (tl : ab_H) (K : Int32 → ms_S → Prop) (S : ms_S)  : Prop := wp G 4 M_X12_sumRead fr n0 (poI lM tl K) 25 [some (.ref 0)] [] (hLy lM S tl)
def L_X12_sumRead_48 (G : ab_G) (fr : Bool) (n0 : Nat) (tl : ab_H) (K : Int32 → ms_S → Prop) (S : ms_S)  : Prop := wp G 4 M_X12_sumRead fr n0 (poI lM tl K) 48 [some (.ref 0)] [] (hLy lM S tl)
def L_X12_sumRead_72 (G : ab_G) (fr : Bool) (n0 : Nat) (tl : ab_H) (K : Int32 → ms_S → Prop) (S : ms_S)  : Prop := wp G 4 M_X12_sumRead fr n0 (poI lM tl K) 72 [none] [] (hLy lM S tl)
set_option maxRecDepth 100000 in
set_option maxHeartbeats 4000000 in
theorem b_X12_sumRead_25 {G : ab_G} {fr : Bool} {n0 : Nat} {tl : ab_H} {K : Int32 → ms_S → Prop} {S : ms_S} 
    (h : ctI G 1 M_X12_isSign fr [.ref 0, .int (nI 59)] lM S tl (fun v1 S1 => (v1 = 0 → (L_X12_sumRead_48 G fr n0 tl K S1 )) ∧ (¬ v1 = 0 → (((S1.1 0 47) = 0 → (((S1.1 0 45) ≤ 0 → (ctU G 2 M_X12_bind fr [.ref 0, .int (nI 1)] lM S1 tl (fun S2 => K (nI 1) S2))) ∧ (¬ (S1.1 0 45) ≤ 0 → (L_X12_sumRead_48 G fr n0 tl K S1 )))) ∧ (¬ (S1.1 0 47) = 0 → (L_X12_sumRead_48 G fr n0 tl K S1 )))))) :
    L_X12_sumRead_25 G fr n0 tl K S  := by
  unfold L_X12_sumRead_25
  iterate 2 refine ws_b rfl ?_
  refine wp_cV rfl rfl o_X12_isSign v_X12_isSign h rfl rfl rfl (Nat.le_of_ble_eq_true rfl) (by decide) ?_
  clear h
  rintro r9 h9 ⟨v1, S1, rfl, rfl, h⟩
  refine ws_b rfl ?_
  refine wp_ite (fun q => ?_) (fun q => ?_)
  · replace h := h.1 q
    exact wp_weak (wk_s wk_0) h
  · replace h := h.2 q
    iterate 3 refine ws_b rfl ?_
    refine wp_ite (fun q => ?_) (fun q => ?_)
    · replace h := h.1 q
      iterate 3 refine ws_b rfl ?_
      refine wp_ite (fun q => ?_) (fun q => ?_)
      · replace h := h.1 q
        iterate 2 refine ws_b rfl ?_
        refine wp_cV rfl rfl o_X12_bind v_X12_bind h rfl rfl rfl (Nat.le_of_ble_eq_true rfl) (by decide) ?_
        clear h
        rintro r9 h9 ⟨S2, rfl, rfl, h⟩
        refine ws_b rfl ?_
        exact wp_ri rfl rfl rfl ⟨_, _, rfl, rfl, h⟩
      · replace h := h.2 q
        exact wp_weak (wk_s wk_0) h
    · replace h := h.2 q
      exact wp_weak (wk_s wk_0) h
set_option maxRecDepth 100000 in
set_option maxHeartbeats 4000000 in
theorem b_X12_sumRead_48 {G : ab_G} {fr : Bool} {n0 : Nat} {tl : ab_H} {K : Int32 → ms_S → Prop} {S : ms_S} 
    (h : ((S.1 0 47) = 0 → (ctI G 3 M_X12_signs fr [.ref 0] lM S tl (fun v1 S1 => (v1 = 0 → (L_X12_sumRead_72 G fr n0 tl K S1 )) ∧ (¬ v1 = 0 → (L_X12_sumRead_25 G fr n0 tl K S1 ))))) ∧ (¬ (S.1 0 47) = 0 → (ctI G 3 M_X12_leafRead fr [.ref 0] lM S tl (fun v2 S2 => (v2 = 0 → (L_X12_sumRead_72 G fr n0 tl K S2 )) ∧ (¬ v2 = 0 → (L_X12_sumRead_25 G fr n0 tl K S2 )))))) :
    L_X12_sumRead_48 G fr n0 tl K S  := by
  unfold L_X12_sumRead_48
  iterate 3 refine ws_b rfl ?_
  refine wp_ite (fun q => ?_) (fun q => ?_)
  · replace h := h.1 q
    refine ws_b rfl ?_
    refine wp_cV rfl rfl o_X12_signs v_X12_signs h rfl rfl rfl (Nat.le_of_ble_eq_true rfl) (by decide) ?_
    clear h
    rintro r9 h9 ⟨v1, S1, rfl, rfl, h⟩
    refine ws_b rfl ?_
    refine wp_ite (fun q => ?_) (fun q => ?_)
    · replace h := h.1 q
      exact wp_weak (wk_n wk_0) h
    · replace h := h.2 q
      exact wp_weak (wk_s wk_0) h
  · replace h := h.2 q
    refine ws_b rfl ?_
    refine wp_cV rfl rfl o_X12_leafRead v_X12_leafRead h rfl rfl rfl (Nat.le_of_ble_eq_true rfl) (by decide) ?_
    clear h
    rintro r9 h9 ⟨v2, S2, rfl, rfl, h⟩
    refine ws_b rfl ?_
    refine wp_ite (fun q => ?_) (fun q => ?_)
    · replace h := h.1 q
      exact wp_weak (wk_n wk_0) h
    · replace h := h.2 q
      refine ws_b rfl ?_
      exact wp_weak (wk_s wk_0) h
set_option maxRecDepth 100000 in
set_option maxHeartbeats 4000000 in
theorem b_X12_sumRead_72 {G : ab_G} {fr : Bool} {n0 : Nat} {tl : ab_H} {K : Int32 → ms_S → Prop} {S : ms_S} 
    (h : K (nI 0) S) :
    L_X12_sumRead_72 G fr n0 tl K S  := by
  unfold L_X12_sumRead_72
  refine ws_b rfl ?_
  exact wp_ri rfl rfl rfl ⟨_, _, rfl, rfl, h⟩
set_option maxRecDepth 100000 in
set_option maxHeartbeats 4000000 in
theorem m_X12_sumRead {G : ab_G} {fr : Bool} {tl : ab_H} {K : Int32 → ms_S → Prop} {S : ms_S} 
    (h : ∀ n0 : Nat, L_X12_sumRead_25 G fr n0 tl K (sV (sV (sV (sV (sV S 43 (nI 0)) 44 (nI 0)) 45 (nI 0)) 47 (nI 1)) 48 (nI 1)) ) :
    ctI G 4 M_X12_sumRead fr [.ref 0] lM S tl K := by
  refine wp_ct o_X12_sumRead (Nat.le_of_ble_eq_true rfl) ?_
  replace h := h (hLy lM S tl).length
  revert h
  generalize (hLy lM S tl).length = n0
  intro h
  iterate 11 refine ws_b rfl ?_
  refine ws_g rfl (Or.inr rfl) ?_
  iterate 2 refine ws_b rfl ?_
  refine ws_g rfl (Or.inr rfl) ?_
  exact wp_weak (wk_s wk_0) h
def L_X12_lineRead_17 (G : ab_G) (fr : Bool) (n0 : Nat) (tl : ab_H) (K : Int32 → ms_S → Prop) (S : ms_S)  : Prop := wp G 5 M_X12_lineRead fr n0 (poI lM tl K) 17 [some (.ref 0), none, none] [] (hLy lM S tl)
def L_X12_lineRead_162 (G : ab_G) (fr : Bool) (n0 : Nat) (tl : ab_H) (K : Int32 → ms_S → Prop) (S : ms_S)  : Prop := wp G 5 M_X12_lineRead fr n0 (poI lM tl K) 162 [some (.ref 0), none, none] [] (hLy lM S tl)
def L_X12_lineRead_229 (G : ab_G) (fr : Bool) (n0 : Nat) (tl : ab_H) (K : Int32 → ms_S → Prop) (S : ms_S) (i1 : Int32) : Prop := wp G 5 M_X12_lineRead fr n0 (poI lM tl K) 229 [some (.ref 0), some (.int i1), none] [] (hLy lM S tl)
set_option maxRecDepth 100000 in
set_option maxHeartbeats 4000000 in
theorem b_X12_lineRead_17 {G : ab_G} {fr : Bool} {n0 : Nat} {tl : ab_H} {K : Int32 → ms_S → Prop} {S : ms_S} 
    (h : ctI G 1 M_X12_wrong fr [.ref 0, .int (nI 1)] lM S tl (fun v1 S1 => (v1 = 0 ∨ v1 = 1) ∧ K v1 S1)) :
    L_X12_lineRead_17 G fr n0 tl K S  := by
  unfold L_X12_lineRead_17
  iterate 2 refine ws_b rfl ?_
  refine wp_cV rfl rfl o_X12_wrong v_X12_wrong h rfl rfl rfl (Nat.le_of_ble_eq_true rfl) (by decide) ?_
  clear h
  rintro r9 h9 ⟨v1, S1, rfl, rfl, h⟩
  exact wp_ri rfl rfl (nw_b h.1) ⟨_, _, rfl, rfl, h.2⟩
set_option maxRecDepth 100000 in
set_option maxHeartbeats 4000000 in
theorem b_X12_lineRead_162 {G : ab_G} {fr : Bool} {n0 : Nat} {tl : ab_H} {K : Int32 → ms_S → Prop} {S : ms_S} 
    (h : ctI G 1 M_X12_wrong fr [.ref 0, .int (nI 1)] lM S tl (fun v1 S1 => (v1 = 0 ∨ v1 = 1) ∧ K v1 S1)) :
    L_X12_lineRead_162 G fr n0 tl K S  := by
  unfold L_X12_lineRead_162
  iterate 2 refine ws_b rfl ?_
  refine wp_cV rfl rfl o_X12_wrong v_X12_wrong h rfl rfl rfl (Nat.le_of_ble_eq_true rfl) (by decide) ?_
  clear h
  rintro r9 h9 ⟨v1, S1, rfl, rfl, h⟩
  exact wp_ri rfl rfl (nw_b h.1) ⟨_, _, rfl, rfl, h.2⟩
set_option maxRecDepth 100000 in
set_option maxHeartbeats 4000000 in
theorem b_X12_lineRead_229 {G : ab_G} {fr : Bool} {n0 : Nat} {tl : ab_H} {K : Int32 → ms_S → Prop} {S : ms_S} {i1 : Int32}
    (h : (i1 = 0 → (K (nI 0) S)) ∧ (¬ i1 = 0 → (ctI G 1 M_X12_isSign fr [.ref 0, .int (nI 59)] lM S tl (fun v1 S1 => (v1 = 0 → (ctI G 1 M_X12_wrong fr [.ref 0, .int (nI 1)] lM S1 tl (fun v2 S2 => (v2 = 0 ∨ v2 = 1) ∧ K v2 S2))) ∧ (¬ v1 = 0 → (ctU G 2 M_X12_token fr [.ref 0] lM S1 tl (fun S3 => K (nI 1) S3))))))) :
    L_X12_lineRead_229 G fr n0 tl K S i1 := by
  unfold L_X12_lineRead_229
  iterate 2 refine ws_b rfl ?_
  refine wp_ite (fun q => ?_) (fun q => ?_)
  · replace h := h.1 q
    refine ws_b rfl ?_
    exact wp_ri rfl rfl rfl ⟨_, _, rfl, rfl, h⟩
  · replace h := h.2 q
    iterate 2 refine ws_b rfl ?_
    refine wp_cV rfl rfl o_X12_isSign v_X12_isSign h rfl rfl rfl (Nat.le_of_ble_eq_true rfl) (by decide) ?_
    clear h
    rintro r9 h9 ⟨v1, S1, rfl, rfl, h⟩
    refine ws_b rfl ?_
    refine wp_ite (fun q => ?_) (fun q => ?_)
    · replace h := h.1 q
      iterate 2 refine ws_b rfl ?_
      refine wp_cV rfl rfl o_X12_wrong v_X12_wrong h rfl rfl rfl (Nat.le_of_ble_eq_true rfl) (by decide) ?_
      clear h
      rintro r9 h9 ⟨v2, S2, rfl, rfl, h⟩
      exact wp_ri rfl rfl (nw_b h.1) ⟨_, _, rfl, rfl, h.2⟩
    · replace h := h.2 q
      refine ws_b rfl ?_
      refine wp_cV rfl rfl o_X12_token v_X12_token h rfl rfl rfl (Nat.le_of_ble_eq_true rfl) (by decide) ?_
      clear h
      rintro r9 h9 ⟨S3, rfl, rfl, h⟩
      refine ws_b rfl ?_
      exact wp_ri rfl rfl rfl ⟨_, _, rfl, rfl, h⟩
set_option maxRecDepth 100000 in
set_option maxHeartbeats 4000000 in
theorem m_X12_lineRead {G : ab_G} {fr : Bool} {tl : ab_H} {K : Int32 → ms_S → Prop} {S : ms_S} 
    (h : ∀ n0 : Nat, ((S.1 0 8) = (nI 1) → (((S.1 0 9) ≤ (nI 7) → (((S.1 0 9) = nI 0 → (ctI G 4 M_X12_pieceLine fr [.ref 0] lM S tl (fun v1 S1 => L_X12_lineRead_229 G fr n0 tl K S1 v1))) ∧ ((S.1 0 9) = nI 1 → (ctI G 4 M_X12_heirLine fr [.ref 0] lM S tl (fun v2 S2 => L_X12_lineRead_229 G fr n0 tl K S2 v2))) ∧ ((S.1 0 9) = nI 2 → (ctI G 4 M_X12_shareLine fr [.ref 0] lM S tl (fun v3 S3 => L_X12_lineRead_229 G fr n0 tl K S3 v3))) ∧ ((S.1 0 9) = nI 3 → (ctI G 4 M_X12_tradeLine fr [.ref 0] lM S tl (fun v4 S4 => L_X12_lineRead_229 G fr n0 tl K S4 v4))) ∧ ((S.1 0 9) = nI 4 → (ctI G 4 M_X12_drawLine fr [.ref 0] lM S tl (fun v5 S5 => L_X12_lineRead_229 G fr n0 tl K S5 v5))) ∧ ((S.1 0 9) = nI 5 → (ctI G 4 M_X12_onceLine fr [.ref 0, .int (nI 0), .int (nI 1), .int (nI 9)] lM S tl (fun v6 S6 => L_X12_lineRead_229 G fr n0 tl K S6 v6))) ∧ ((S.1 0 9) = nI 6 → (ctI G 4 M_X12_onceLine fr [.ref 0, .int (nI 1), .int (nI 0), .int ((99999 : Int32))] lM S tl (fun v7 S7 => L_X12_lineRead_229 G fr n0 tl K S7 v7))) ∧ (¬ (S.1 0 9) = nI 0 → ¬ (S.1 0 9) = nI 1 → ¬ (S.1 0 9) = nI 2 → ¬ (S.1 0 9) = nI 3 → ¬ (S.1 0 9) = nI 4 → ¬ (S.1 0 9) = nI 5 → ¬ (S.1 0 9) = nI 6 → (ctU G 2 M_X12_token fr [.ref 0] lM S tl (fun S8 => ((S8.1 0 8) = (nI 1) → (((S8.1 0 9) < (nI 8) → (L_X12_lineRead_162 G fr n0 tl K S8 )) ∧ (¬ (S8.1 0 9) < (nI 8) → (((S8.1 0 9) ≤ (nI 10) → (vp_in (((nI 3) + (S8.1 0 9)) - (nI 8)) 6 ∧ (((S8.2.2.2.1 16 ((((nI 3) + (S8.1 0 9)) - (nI 8)).toNatClampNeg)) = 0 → (vp_in (((nI 3) + (S8.1 0 9)) - (nI 8)) 6 ∧ (ctU G 2 M_X12_token fr [.ref 0] lM (sA S8 16 ((((nI 3) + (S8.1 0 9)) - (nI 8)).toNatClampNeg) ((nI 1) &&& 1)) tl (fun S9 => vp_in (((nI 3) + (S8.1 0 9)) - (nI 8)) 6 ∧ (ctI G 4 M_X12_sumRead fr [.ref 0] lM (sA S9 17 ((((nI 3) + (S8.1 0 9)) - (nI 8)).toNatClampNeg) (S9.1 0 21)) tl (fun v10 S10 => vp_in (((nI 3) + (S8.1 0 9)) - (nI 8)) 6 ∧ (L_X12_lineRead_229 G fr n0 tl K (sA S10 18 ((((nI 3) + (S8.1 0 9)) - (nI 8)).toNatClampNeg) (S10.1 0 21)) v10))))))) ∧ (¬ (S8.2.2.2.1 16 ((((nI 3) + (S8.1 0 9)) - (nI 8)).toNatClampNeg)) = 0 → (ctI G 1 M_X12_wrong fr [.ref 0, .int (nI 3)] lM S8 tl (fun v11 S11 => (v11 = 0 ∨ v11 = 1) ∧ K v11 S11)))))) ∧ (¬ (S8.1 0 9) ≤ (nI 10) → (L_X12_lineRead_162 G fr n0 tl K S8 )))))) ∧ (¬ (S8.1 0 8) = (nI 1) → (L_X12_lineRead_162 G fr n0 tl K S8 ))))))) ∧ (¬ (S.1 0 9) ≤ (nI 7) → (L_X12_lineRead_17 G fr n0 tl K S )))) ∧ (¬ (S.1 0 8) = (nI 1) → (L_X12_lineRead_17 G fr n0 tl K S ))) :
    ctI G 5 M_X12_lineRead fr [.ref 0] lM S tl K := by
  refine wp_ct o_X12_lineRead (Nat.le_of_ble_eq_true rfl) ?_
  replace h := h (hLy lM S tl).length
  revert h
  generalize (hLy lM S tl).length = n0
  intro h
  iterate 4 refine ws_b rfl ?_
  refine wp_ite (fun q => ?_) (fun q => ?_)
  · replace h := h.1 q
    iterate 4 refine ws_b rfl ?_
    refine wp_ite (fun q => ?_) (fun q => ?_)
    · replace h := h.1 q
      iterate 2 refine ws_b rfl ?_
      by_cases q0 : (S.1 0 9) = nI 0
      · refine wp_tswN (nI 0) 68 (41) rfl q0 rfl rfl rfl rfl ?_
        replace h := h.1 q0
        refine ws_b rfl ?_
        refine wp_cV rfl rfl o_X12_pieceLine v_X12_pieceLine h rfl rfl rfl (Nat.le_of_ble_eq_true rfl) (by decide) ?_
        clear h
        rintro r9 h9 ⟨v1, S1, rfl, rfl, h⟩
        iterate 2 refine ws_b rfl ?_
        exact wp_weak (wk_s (wk_s (wk_s wk_0))) h
      replace h := h.2
      by_cases q1 : (S.1 0 9) = nI 1
      · refine wp_tswN (nI 1) 76 (49) rfl q1 rfl rfl rfl rfl ?_
        replace h := h.1 q1
        refine ws_b rfl ?_
        refine wp_cV rfl rfl o_X12_heirLine v_X12_heirLine h rfl rfl rfl (Nat.le_of_ble_eq_true rfl) (by decide) ?_
        clear h
        rintro r9 h9 ⟨v2, S2, rfl, rfl, h⟩
        iterate 2 refine ws_b rfl ?_
        exact wp_weak (wk_s (wk_s (wk_s wk_0))) h
      replace h := h.2
      by_cases q2 : (S.1 0 9) = nI 2
      · refine wp_tswN (nI 2) 84 (57) rfl q2 rfl rfl rfl rfl ?_
        replace h := h.1 q2
        refine ws_b rfl ?_
        refine wp_cV rfl rfl o_X12_shareLine v_X12_shareLine h rfl rfl rfl (Nat.le_of_ble_eq_true rfl) (by decide) ?_
        clear h
        rintro r9 h9 ⟨v3, S3, rfl, rfl, h⟩
        iterate 2 refine ws_b rfl ?_
        exact wp_weak (wk_s (wk_s (wk_s wk_0))) h
      replace h := h.2
      by_cases q3 : (S.1 0 9) = nI 3
      · refine wp_tswN (nI 3) 92 (65) rfl q3 rfl rfl rfl rfl ?_
        replace h := h.1 q3
        refine ws_b rfl ?_
        refine wp_cV rfl rfl o_X12_tradeLine v_X12_tradeLine h rfl rfl rfl (Nat.le_of_ble_eq_true rfl) (by decide) ?_
        clear h
        rintro r9 h9 ⟨v4, S4, rfl, rfl, h⟩
        iterate 2 refine ws_b rfl ?_
        exact wp_weak (wk_s (wk_s (wk_s wk_0))) h
      replace h := h.2
      by_cases q4 : (S.1 0 9) = nI 4
      · refine wp_tswN (nI 4) 100 (73) rfl q4 rfl rfl rfl rfl ?_
        replace h := h.1 q4
        refine ws_b rfl ?_
        refine wp_cV rfl rfl o_X12_drawLine v_X12_drawLine h rfl rfl rfl (Nat.le_of_ble_eq_true rfl) (by decide) ?_
        clear h
        rintro r9 h9 ⟨v5, S5, rfl, rfl, h⟩
        iterate 2 refine ws_b rfl ?_
        exact wp_weak (wk_s (wk_s (wk_s wk_0))) h
      replace h := h.2
      by_cases q5 : (S.1 0 9) = nI 5
      · refine wp_tswN (nI 5) 108 (81) rfl q5 rfl rfl rfl rfl ?_
        replace h := h.1 q5
        iterate 4 refine ws_b rfl ?_
        refine wp_cV rfl rfl o_X12_onceLine v_X12_onceLine h rfl rfl rfl (Nat.le_of_ble_eq_true rfl) (by decide) ?_
        clear h
        rintro r9 h9 ⟨v6, S6, rfl, rfl, h⟩
        iterate 2 refine ws_b rfl ?_
        exact wp_weak (wk_s (wk_s (wk_s wk_0))) h
      replace h := h.2
      by_cases q6 : (S.1 0 9) = nI 6
      · refine wp_tswN (nI 6) 120 (93) rfl q6 rfl rfl rfl rfl ?_
        replace h := h.1 q6
        iterate 4 refine ws_b rfl ?_
        refine wp_cV rfl rfl o_X12_onceLine v_X12_onceLine h rfl rfl rfl (Nat.le_of_ble_eq_true rfl) (by decide) ?_
        clear h
        rintro r9 h9 ⟨v7, S7, rfl, rfl, h⟩
        iterate 2 refine ws_b rfl ?_
        exact wp_weak (wk_s (wk_s (wk_s wk_0))) h
      replace h := h.2
      refine wp_tswD 132 [nI 0, nI 1, nI 2, nI 3, nI 4, nI 5, nI 6] rfl (by decide) (by intro k9 hk9; rcases List.mem_cons.mp hk9 with rfl | hk9; exact q0; rcases List.mem_cons.mp hk9 with rfl | hk9; exact q1; rcases List.mem_cons.mp hk9 with rfl | hk9; exact q2; rcases List.mem_cons.mp hk9 with rfl | hk9; exact q3; rcases List.mem_cons.mp hk9 with rfl | hk9; exact q4; rcases List.mem_cons.mp hk9 with rfl | hk9; exact q5; rcases List.mem_cons.mp hk9 with rfl | hk9; exact q6; exact nomatch hk9) rfl ?_
      replace h := h q0 q1 q2 q3 q4 q5 q6
      refine ws_b rfl ?_
      refine wp_cV rfl rfl o_X12_token v_X12_token h rfl rfl rfl (Nat.le_of_ble_eq_true rfl) (by decide) ?_
      clear h
      rintro r9 h9 ⟨S8, rfl, rfl, h⟩
      iterate 4 refine ws_b rfl ?_
      refine wp_ite (fun q => ?_) (fun q => ?_)
      · replace h := h.1 q
        iterate 4 refine ws_b rfl ?_
        refine wp_ite (fun q => ?_) (fun q => ?_)
        · replace h := h.1 q
          exact wp_weak (wk_s (wk_s (wk_s wk_0))) h
        · replace h := h.2 q
          iterate 4 refine ws_b rfl ?_
          refine wp_ite (fun q => ?_) (fun q => ?_)
          · replace h := h.1 q
            iterate 10 refine ws_b rfl ?_
            refine ws_g rfl h.1 ?_
            replace h := h.2
            refine ws_b rfl ?_
            refine wp_ite (fun q => ?_) (fun q => ?_)
            · replace h := h.1 q
              iterate 4 refine ws_b rfl ?_
              refine ws_g rfl h.1 ?_
              replace h := h.2
              refine ws_b rfl ?_
              refine wp_cV rfl rfl o_X12_token v_X12_token h rfl rfl rfl (Nat.le_of_ble_eq_true rfl) (by decide) ?_
              clear h
              rintro r9 h9 ⟨S9, rfl, rfl, h⟩
              iterate 5 refine ws_b rfl ?_
              refine ws_g rfl h.1 ?_
              replace h := h.2
              refine ws_b rfl ?_
              refine wp_cV rfl rfl o_X12_sumRead v_X12_sumRead h rfl rfl rfl (Nat.le_of_ble_eq_true rfl) (by decide) ?_
              clear h
              rintro r9 h9 ⟨v10, S10, rfl, rfl, h⟩
              iterate 6 refine ws_b rfl ?_
              refine ws_g rfl h.1 ?_
              replace h := h.2
              exact wp_weak (wk_s (wk_s (wk_n wk_0))) h
            · replace h := h.2 q
              iterate 2 refine ws_b rfl ?_
              refine wp_cV rfl rfl o_X12_wrong v_X12_wrong h rfl rfl rfl (Nat.le_of_ble_eq_true rfl) (by decide) ?_
              clear h
              rintro r9 h9 ⟨v11, S11, rfl, rfl, h⟩
              exact wp_ri rfl rfl (nw_b h.1) ⟨_, _, rfl, rfl, h.2⟩
          · replace h := h.2 q
            exact wp_weak (wk_s (wk_s (wk_s wk_0))) h
      · replace h := h.2 q
        exact wp_weak (wk_s (wk_s (wk_s wk_0))) h
    · replace h := h.2 q
      exact wp_weak (wk_s (wk_s (wk_s wk_0))) h
  · replace h := h.2 q
    exact wp_weak (wk_s (wk_s (wk_s wk_0))) h
def L_X12_plain_32 (G : ab_G) (fr : Bool) (n0 : Nat) (tl : ab_H) (K : ms_S → Prop) (S : ms_S) (i1 : Int32) : Prop := wp G 1 M_X12_plain fr n0 (poU lM tl K) 32 [some (.ref 0), some (.int i1)] [] (hLy lM S tl)
def L_X12_plain_66 (G : ab_G) (fr : Bool) (n0 : Nat) (tl : ab_H) (K : ms_S → Prop) (S : ms_S) (i1 : Int32) : Prop := wp G 1 M_X12_plain fr n0 (poU lM tl K) 66 [some (.ref 0), some (.int i1)] [] (hLy lM S tl)
def L_X12_plain_91 (G : ab_G) (fr : Bool) (n0 : Nat) (tl : ab_H) (K : ms_S → Prop) (S : ms_S) (i1 : Int32) : Prop := wp G 1 M_X12_plain fr n0 (poU lM tl K) 91 [some (.ref 0), some (.int i1)] [] (hLy lM S tl)
set_option maxRecDepth 100000 in
set_option maxHeartbeats 4000000 in
theorem b_X12_plain_32 {G : ab_G} {fr : Bool} {n0 : Nat} {tl : ab_H} {K : ms_S → Prop} {S : ms_S} {i1 : Int32}
    (h : ((nI 2) ≤ i1 → (vp_in (nI 2) 4 ∧ (vp_in (nI 3) 4 ∧ (L_X12_plain_66 G fr n0 tl K (sA (sA S 4 ((nI 2).toNatClampNeg) (nI 2)) 4 ((nI 3).toNatClampNeg) (nI 0)) (nI 0))))) ∧ (¬ (nI 2) ≤ i1 → (vp_in i1 2 ∧ (L_X12_plain_32 G fr n0 tl K (sA S 3 i1.toNatClampNeg ((nI 0) &&& 1)) (i1 + nI 1))))) :
    L_X12_plain_32 G fr n0 tl K S i1 := by
  unfold L_X12_plain_32
  iterate 3 refine ws_b rfl ?_
  refine wp_ite (fun q => ?_) (fun q => ?_)
  · replace h := h.1 q
    iterate 4 refine ws_b rfl ?_
    refine ws_g rfl h.1 ?_
    replace h := h.2
    iterate 4 refine ws_b rfl ?_
    refine ws_g rfl h.1 ?_
    replace h := h.2
    iterate 2 refine ws_b rfl ?_
    exact wp_weak (wk_s (wk_s wk_0)) h
  · replace h := h.2 q
    iterate 4 refine ws_b rfl ?_
    refine ws_g rfl h.1 ?_
    replace h := h.2
    iterate 2 refine ws_b rfl ?_
    exact wp_weak (wk_s (wk_s wk_0)) h
set_option maxRecDepth 100000 in
set_option maxHeartbeats 4000000 in
theorem b_X12_plain_66 {G : ab_G} {fr : Bool} {n0 : Nat} {tl : ab_H} {K : ms_S → Prop} {S : ms_S} {i1 : Int32}
    (h : ((nI 9) ≤ i1 → (L_X12_plain_91 G fr n0 tl K S (nI 3))) ∧ (¬ (nI 9) ≤ i1 → (vp_in ((nI 9) + i1) 18 ∧ (L_X12_plain_66 G fr n0 tl K (sA S 9 (((nI 9) + i1).toNatClampNeg) (-(nI 2))) (i1 + nI 1))))) :
    L_X12_plain_66 G fr n0 tl K S i1 := by
  unfold L_X12_plain_66
  iterate 3 refine ws_b rfl ?_
  refine wp_ite (fun q => ?_) (fun q => ?_)
  · replace h := h.1 q
    iterate 2 refine ws_b rfl ?_
    exact wp_weak (wk_s (wk_s wk_0)) h
  · replace h := h.2 q
    iterate 6 refine ws_b rfl ?_
    refine ws_g rfl h.1 ?_
    replace h := h.2
    iterate 2 refine ws_b rfl ?_
    exact wp_weak (wk_s (wk_s wk_0)) h
set_option maxRecDepth 100000 in
set_option maxHeartbeats 4000000 in
theorem b_X12_plain_91 {G : ab_G} {fr : Bool} {n0 : Nat} {tl : ab_H} {K : ms_S → Prop} {S : ms_S} {i1 : Int32}
    (h : ((nI 6) ≤ i1 → (K S)) ∧ (¬ (nI 6) ≤ i1 → (vp_in i1 6 ∧ (L_X12_plain_91 G fr n0 tl K (sA S 16 i1.toNatClampNeg ((nI 0) &&& 1)) (i1 + nI 1))))) :
    L_X12_plain_91 G fr n0 tl K S i1 := by
  unfold L_X12_plain_91
  iterate 3 refine ws_b rfl ?_
  refine wp_ite (fun q => ?_) (fun q => ?_)
  · replace h := h.1 q
    exact wp_rv rfl rfl ⟨_, rfl, rfl, h⟩
  · replace h := h.2 q
    iterate 4 refine ws_b rfl ?_
    refine ws_g rfl h.1 ?_
    replace h := h.2
    iterate 2 refine ws_b rfl ?_
    exact wp_weak (wk_s (wk_s wk_0)) h
set_option maxRecDepth 100000 in
set_option maxHeartbeats 4000000 in
theorem m_X12_plain {G : ab_G} {fr : Bool} {tl : ab_H} {K : ms_S → Prop} {S : ms_S} 
    (h : ∀ n0 : Nat, L_X12_plain_32 G fr n0 tl K (sV (sV (sV (sV (sV (sV S 17 (nI 0)) 18 (nI 0)) 19 (nI 0)) 20 (nI 0)) 21 (nI 0)) 46 (nI 0)) (nI 0)) :
    ctU G 1 M_X12_plain fr [.ref 0] lM S tl K := by
  refine wp_ct o_X12_plain (Nat.le_of_ble_eq_true rfl) ?_
  replace h := h (hLy lM S tl).length
  revert h
  generalize (hLy lM S tl).length = n0
  intro h
  iterate 20 refine ws_b rfl ?_
  exact wp_weak (wk_s (wk_s wk_0)) h
set_option maxRecDepth 100000 in
set_option maxHeartbeats 4000000 in
theorem m_X12_begin {G : ab_G} {fr : Bool} {tl : ab_H} {K : ms_S → Prop} {S : ms_S} 
    (h : ∀ n0 : Nat, ctU G 1 M_X12_atFirst fr [.ref 0, .int (nI 0)] lM (sV S 68 (nI 0)) tl (fun S1 => vp_in (nI 1) 4 ∧ (ctU G 1 M_X12_plainTried fr [.ref 0] lM (sW S1 57 ((S1.2.2.2.1 4 ((nI 1).toNatClampNeg)).toInt64)) tl (fun S2 => K (sV (sV (sV (sV S2 75 (nI 0)) 76 (-(nI 1))) 79 (nI 0)) 81 (nI 0)))))) :
    ctU G 2 M_X12_begin fr [.ref 0] lM S tl K := by
  refine wp_ct o_X12_begin (Nat.le_of_ble_eq_true rfl) ?_
  replace h := h (hLy lM S tl).length
  revert h
  generalize (hLy lM S tl).length = n0
  intro h
  iterate 2 refine ws_b rfl ?_
  refine ws_g rfl (Or.inl rfl) ?_
  iterate 2 refine ws_b rfl ?_
  refine wp_cV rfl rfl o_X12_atFirst v_X12_atFirst h rfl rfl rfl (Nat.le_of_ble_eq_true rfl) (by decide) ?_
  clear h
  rintro r9 h9 ⟨S1, rfl, rfl, h⟩
  iterate 4 refine ws_b rfl ?_
  refine ws_g rfl h.1 ?_
  replace h := h.2
  iterate 3 refine ws_b rfl ?_
  refine wp_cV rfl rfl o_X12_plainTried v_X12_plainTried h rfl rfl rfl (Nat.le_of_ble_eq_true rfl) (by decide) ?_
  clear h
  rintro r9 h9 ⟨S2, rfl, rfl, h⟩
  iterate 11 refine ws_b rfl ?_
  refine ws_g rfl (Or.inl rfl) ?_
  exact wp_rv rfl rfl ⟨_, rfl, rfl, h⟩
def L_X12_text_55 (G : ab_G) (fr : Bool) (n0 : Nat) (tl : ab_H) (K : Int32 → ms_S → Prop) (S : ms_S) (i2 : Int32) : Prop := wp G 6 M_X12_text fr n0 (poI lM tl K) 55 [some (.ref 0), none, some (.int i2)] [] (hLy lM S tl)
set_option maxRecDepth 100000 in
set_option maxHeartbeats 4000000 in
theorem b_X12_text_55 {G : ab_G} {fr : Bool} {n0 : Nat} {tl : ab_H} {K : Int32 → ms_S → Prop} {S : ms_S} {i2 : Int32}
    (h : ((S.1 0 8) = 0 → (ctU G 3 M_X12_keepText fr [.ref 0] lM S tl (fun S1 => K i2 S1))) ∧ (¬ (S.1 0 8) = 0 → (ctI G 5 M_X12_lineRead fr [.ref 0] lM S tl (fun v2 S2 => (v2 = 0 → (K (-(nI 1)) S2)) ∧ (¬ v2 = 0 → (L_X12_text_55 G fr n0 tl K S2 (i2 + nI 1))))))) :
    L_X12_text_55 G fr n0 tl K S i2 := by
  unfold L_X12_text_55
  iterate 3 refine ws_b rfl ?_
  refine wp_ite (fun q => ?_) (fun q => ?_)
  · replace h := h.1 q
    refine ws_b rfl ?_
    refine wp_cV rfl rfl o_X12_keepText v_X12_keepText h rfl rfl rfl (Nat.le_of_ble_eq_true rfl) (by decide) ?_
    clear h
    rintro r9 h9 ⟨S1, rfl, rfl, h⟩
    refine ws_b rfl ?_
    exact wp_ri rfl rfl rfl ⟨_, _, rfl, rfl, h⟩
  · replace h := h.2 q
    refine ws_b rfl ?_
    refine wp_cV rfl rfl o_X12_lineRead v_X12_lineRead h rfl rfl rfl (Nat.le_of_ble_eq_true rfl) (by decide) ?_
    clear h
    rintro r9 h9 ⟨v2, S2, rfl, rfl, h⟩
    refine ws_b rfl ?_
    refine wp_ite (fun q => ?_) (fun q => ?_)
    · replace h := h.1 q
      refine ws_b rfl ?_
      exact wp_ri rfl rfl rfl ⟨_, _, rfl, rfl, h⟩
    · replace h := h.2 q
      iterate 2 refine ws_b rfl ?_
      exact wp_weak (wk_s (wk_s (wk_s wk_0))) h
set_option maxRecDepth 100000 in
set_option maxHeartbeats 4000000 in
theorem m_X12_text {G : ab_G} {fr : Bool} {tl : ab_H} {K : Int32 → ms_S → Prop} {S : ms_S} {i1 : Int32}
    (h : ∀ n0 : Nat, (i1 < 0 → (K (-(nI 2)) (sV S 2 (nI 0)))) ∧ (¬ i1 < 0 → ((i1 ≤ (S.1 0 1) → (ctU G 1 M_X12_plain fr [.ref 0] lM (sV (sV (sV (sV (sV (sV S 2 (nI 0)) 6 i1) 1 (nI 0)) 4 (nI 0)) 5 (-(nI 1))) 7 (nI 0)) tl (fun S1 => ctU G 2 M_X12_token fr [.ref 0] lM S1 tl (fun S2 => L_X12_text_55 G fr n0 tl K S2 (nI 0))))) ∧ (¬ i1 ≤ (S.1 0 1) → (K (-(nI 2)) (sV S 2 (nI 0))))))) :
    ctI G 6 M_X12_text fr [.ref 0, .int i1] lM S tl K := by
  refine wp_ct o_X12_text (Nat.le_of_ble_eq_true rfl) ?_
  replace h := h (hLy lM S tl).length
  revert h
  generalize (hLy lM S tl).length = n0
  intro h
  iterate 5 refine ws_b rfl ?_
  refine wp_ite (fun q => ?_) (fun q => ?_)
  · replace h := h.1 q
    refine ws_b rfl ?_
    exact wp_ri rfl rfl rfl ⟨_, _, rfl, rfl, h⟩
  · replace h := h.2 q
    iterate 4 refine ws_b rfl ?_
    refine wp_ite (fun q => ?_) (fun q => ?_)
    · replace h := h.1 q
      iterate 16 refine ws_b rfl ?_
      refine wp_cV rfl rfl o_X12_plain v_X12_plain h rfl rfl rfl (Nat.le_of_ble_eq_true rfl) (by decide) ?_
      clear h
      rintro r9 h9 ⟨S1, rfl, rfl, h⟩
      refine ws_b rfl ?_
      refine wp_cV rfl rfl o_X12_token v_X12_token h rfl rfl rfl (Nat.le_of_ble_eq_true rfl) (by decide) ?_
      clear h
      rintro r9 h9 ⟨S2, rfl, rfl, h⟩
      iterate 2 refine ws_b rfl ?_
      exact wp_weak (wk_s (wk_n (wk_s wk_0))) h
    · replace h := h.2 q
      refine ws_b rfl ?_
      exact wp_ri rfl rfl rfl ⟨_, _, rfl, rfl, h⟩
def L_X12_copies4_2 (G : ab_G) (fr : Bool) (n0 : Nat) (tl : ab_H) (K : ms_S → Prop) (S : ms_S) (i1 : Int32) (i2 : Int32) : Prop := wp G 1 M_X12_copies fr n0 (poU lM tl K) 2 [some (.ref 4), some (.int i1), some (.int i2)] [] (hLy lM S tl)
set_option maxRecDepth 100000 in
set_option maxHeartbeats 4000000 in
theorem b_X12_copies4_2 {G : ab_G} {fr : Bool} {n0 : Nat} {tl : ab_H} {K : ms_S → Prop} {S : ms_S} {i1 : Int32} {i2 : Int32}
    (h : (i1 ≤ i2 → (K S)) ∧ (¬ i1 ≤ i2 → (vp_in (i1 + i2) 4 ∧ (vp_in i2 4 ∧ (L_X12_copies4_2 G fr n0 tl K (sA S 4 i2.toNatClampNeg (S.2.2.2.1 4 ((i1 + i2).toNatClampNeg))) i1 (i2 + nI 1)))))) :
    L_X12_copies4_2 G fr n0 tl K S i1 i2 := by
  unfold L_X12_copies4_2
  iterate 3 refine ws_b rfl ?_
  refine wp_ite (fun q => ?_) (fun q => ?_)
  · replace h := h.1 q
    exact wp_rv rfl rfl ⟨_, rfl, rfl, h⟩
  · replace h := h.2 q
    iterate 6 refine ws_b rfl ?_
    refine ws_g rfl h.1 ?_
    replace h := h.2
    refine ws_g rfl h.1 ?_
    replace h := h.2
    iterate 2 refine ws_b rfl ?_
    exact wp_weak (wk_s (wk_s (wk_s wk_0))) h
set_option maxRecDepth 100000 in
set_option maxHeartbeats 4000000 in
theorem m_X12_copies4 {G : ab_G} {fr : Bool} {tl : ab_H} {K : ms_S → Prop} {S : ms_S} {i1 : Int32}
    (h : ∀ n0 : Nat, L_X12_copies4_2 G fr n0 tl K S i1 (nI 0)) :
    ctU G 1 M_X12_copies fr [.ref 4, .int i1] lM S tl K := by
  refine wp_ct o_X12_copies (Nat.le_of_ble_eq_true rfl) ?_
  replace h := h (hLy lM S tl).length
  revert h
  generalize (hLy lM S tl).length = n0
  intro h
  iterate 2 refine ws_b rfl ?_
  exact wp_weak (wk_s (wk_s (wk_s wk_0))) h
def L_X12_copies5_2 (G : ab_G) (fr : Bool) (n0 : Nat) (tl : ab_H) (K : ms_S → Prop) (S : ms_S) (i1 : Int32) (i2 : Int32) : Prop := wp G 1 M_X12_copies fr n0 (poU lM tl K) 2 [some (.ref 5), some (.int i1), some (.int i2)] [] (hLy lM S tl)
set_option maxRecDepth 100000 in
set_option maxHeartbeats 4000000 in
theorem b_X12_copies5_2 {G : ab_G} {fr : Bool} {n0 : Nat} {tl : ab_H} {K : ms_S → Prop} {S : ms_S} {i1 : Int32} {i2 : Int32}
    (h : (i1 ≤ i2 → (K S)) ∧ (¬ i1 ≤ i2 → (vp_in (i1 + i2) 18 ∧ (vp_in i2 18 ∧ (L_X12_copies5_2 G fr n0 tl K (sA S 5 i2.toNatClampNeg (S.2.2.2.1 5 ((i1 + i2).toNatClampNeg))) i1 (i2 + nI 1)))))) :
    L_X12_copies5_2 G fr n0 tl K S i1 i2 := by
  unfold L_X12_copies5_2
  iterate 3 refine ws_b rfl ?_
  refine wp_ite (fun q => ?_) (fun q => ?_)
  · replace h := h.1 q
    exact wp_rv rfl rfl ⟨_, rfl, rfl, h⟩
  · replace h := h.2 q
    iterate 6 refine ws_b rfl ?_
    refine ws_g rfl h.1 ?_
    replace h := h.2
    refine ws_g rfl h.1 ?_
    replace h := h.2
    iterate 2 refine ws_b rfl ?_
    exact wp_weak (wk_s (wk_s (wk_s wk_0))) h
set_option maxRecDepth 100000 in
set_option maxHeartbeats 4000000 in
theorem m_X12_copies5 {G : ab_G} {fr : Bool} {tl : ab_H} {K : ms_S → Prop} {S : ms_S} {i1 : Int32}
    (h : ∀ n0 : Nat, L_X12_copies5_2 G fr n0 tl K S i1 (nI 0)) :
    ctU G 1 M_X12_copies fr [.ref 5, .int i1] lM S tl K := by
  refine wp_ct o_X12_copies (Nat.le_of_ble_eq_true rfl) ?_
  replace h := h (hLy lM S tl).length
  revert h
  generalize (hLy lM S tl).length = n0
  intro h
  iterate 2 refine ws_b rfl ?_
  exact wp_weak (wk_s (wk_s (wk_s wk_0))) h
def L_X12_copies6_2 (G : ab_G) (fr : Bool) (n0 : Nat) (tl : ab_H) (K : ms_S → Prop) (S : ms_S) (i1 : Int32) (i2 : Int32) : Prop := wp G 1 M_X12_copies fr n0 (poU lM tl K) 2 [some (.ref 6), some (.int i1), some (.int i2)] [] (hLy lM S tl)
set_option maxRecDepth 100000 in
set_option maxHeartbeats 4000000 in
theorem b_X12_copies6_2 {G : ab_G} {fr : Bool} {n0 : Nat} {tl : ab_H} {K : ms_S → Prop} {S : ms_S} {i1 : Int32} {i2 : Int32}
    (h : (i1 ≤ i2 → (K S)) ∧ (¬ i1 ≤ i2 → (vp_in (i1 + i2) 18 ∧ (vp_in i2 18 ∧ (L_X12_copies6_2 G fr n0 tl K (sA S 6 i2.toNatClampNeg (S.2.2.2.1 6 ((i1 + i2).toNatClampNeg))) i1 (i2 + nI 1)))))) :
    L_X12_copies6_2 G fr n0 tl K S i1 i2 := by
  unfold L_X12_copies6_2
  iterate 3 refine ws_b rfl ?_
  refine wp_ite (fun q => ?_) (fun q => ?_)
  · replace h := h.1 q
    exact wp_rv rfl rfl ⟨_, rfl, rfl, h⟩
  · replace h := h.2 q
    iterate 6 refine ws_b rfl ?_
    refine ws_g rfl h.1 ?_
    replace h := h.2
    refine ws_g rfl h.1 ?_
    replace h := h.2
    iterate 2 refine ws_b rfl ?_
    exact wp_weak (wk_s (wk_s (wk_s wk_0))) h
set_option maxRecDepth 100000 in
set_option maxHeartbeats 4000000 in
theorem m_X12_copies6 {G : ab_G} {fr : Bool} {tl : ab_H} {K : ms_S → Prop} {S : ms_S} {i1 : Int32}
    (h : ∀ n0 : Nat, L_X12_copies6_2 G fr n0 tl K S i1 (nI 0)) :
    ctU G 1 M_X12_copies fr [.ref 6, .int i1] lM S tl K := by
  refine wp_ct o_X12_copies (Nat.le_of_ble_eq_true rfl) ?_
  replace h := h (hLy lM S tl).length
  revert h
  generalize (hLy lM S tl).length = n0
  intro h
  iterate 2 refine ws_b rfl ?_
  exact wp_weak (wk_s (wk_s (wk_s wk_0))) h
def L_X12_copies7_2 (G : ab_G) (fr : Bool) (n0 : Nat) (tl : ab_H) (K : ms_S → Prop) (S : ms_S) (i1 : Int32) (i2 : Int32) : Prop := wp G 1 M_X12_copies fr n0 (poU lM tl K) 2 [some (.ref 7), some (.int i1), some (.int i2)] [] (hLy lM S tl)
set_option maxRecDepth 100000 in
set_option maxHeartbeats 4000000 in
theorem b_X12_copies7_2 {G : ab_G} {fr : Bool} {n0 : Nat} {tl : ab_H} {K : ms_S → Prop} {S : ms_S} {i1 : Int32} {i2 : Int32}
    (h : (i1 ≤ i2 → (K S)) ∧ (¬ i1 ≤ i2 → (vp_in (i1 + i2) 18 ∧ (vp_in i2 18 ∧ (L_X12_copies7_2 G fr n0 tl K (sA S 7 i2.toNatClampNeg (S.2.2.2.1 7 ((i1 + i2).toNatClampNeg))) i1 (i2 + nI 1)))))) :
    L_X12_copies7_2 G fr n0 tl K S i1 i2 := by
  unfold L_X12_copies7_2
  iterate 3 refine ws_b rfl ?_
  refine wp_ite (fun q => ?_) (fun q => ?_)
  · replace h := h.1 q
    exact wp_rv rfl rfl ⟨_, rfl, rfl, h⟩
  · replace h := h.2 q
    iterate 6 refine ws_b rfl ?_
    refine ws_g rfl h.1 ?_
    replace h := h.2
    refine ws_g rfl h.1 ?_
    replace h := h.2
    iterate 2 refine ws_b rfl ?_
    exact wp_weak (wk_s (wk_s (wk_s wk_0))) h
set_option maxRecDepth 100000 in
set_option maxHeartbeats 4000000 in
theorem m_X12_copies7 {G : ab_G} {fr : Bool} {tl : ab_H} {K : ms_S → Prop} {S : ms_S} {i1 : Int32}
    (h : ∀ n0 : Nat, L_X12_copies7_2 G fr n0 tl K S i1 (nI 0)) :
    ctU G 1 M_X12_copies fr [.ref 7, .int i1] lM S tl K := by
  refine wp_ct o_X12_copies (Nat.le_of_ble_eq_true rfl) ?_
  replace h := h (hLy lM S tl).length
  revert h
  generalize (hLy lM S tl).length = n0
  intro h
  iterate 2 refine ws_b rfl ?_
  exact wp_weak (wk_s (wk_s (wk_s wk_0))) h
def L_X12_copies8_2 (G : ab_G) (fr : Bool) (n0 : Nat) (tl : ab_H) (K : ms_S → Prop) (S : ms_S) (i1 : Int32) (i2 : Int32) : Prop := wp G 1 M_X12_copies fr n0 (poU lM tl K) 2 [some (.ref 8), some (.int i1), some (.int i2)] [] (hLy lM S tl)
set_option maxRecDepth 100000 in
set_option maxHeartbeats 4000000 in
theorem b_X12_copies8_2 {G : ab_G} {fr : Bool} {n0 : Nat} {tl : ab_H} {K : ms_S → Prop} {S : ms_S} {i1 : Int32} {i2 : Int32}
    (h : (i1 ≤ i2 → (K S)) ∧ (¬ i1 ≤ i2 → (vp_in (i1 + i2) 18 ∧ (vp_in i2 18 ∧ (L_X12_copies8_2 G fr n0 tl K (sA S 8 i2.toNatClampNeg (S.2.2.2.1 8 ((i1 + i2).toNatClampNeg))) i1 (i2 + nI 1)))))) :
    L_X12_copies8_2 G fr n0 tl K S i1 i2 := by
  unfold L_X12_copies8_2
  iterate 3 refine ws_b rfl ?_
  refine wp_ite (fun q => ?_) (fun q => ?_)
  · replace h := h.1 q
    exact wp_rv rfl rfl ⟨_, rfl, rfl, h⟩
  · replace h := h.2 q
    iterate 6 refine ws_b rfl ?_
    refine ws_g rfl h.1 ?_
    replace h := h.2
    refine ws_g rfl h.1 ?_
    replace h := h.2
    iterate 2 refine ws_b rfl ?_
    exact wp_weak (wk_s (wk_s (wk_s wk_0))) h
set_option maxRecDepth 100000 in
set_option maxHeartbeats 4000000 in
theorem m_X12_copies8 {G : ab_G} {fr : Bool} {tl : ab_H} {K : ms_S → Prop} {S : ms_S} {i1 : Int32}
    (h : ∀ n0 : Nat, L_X12_copies8_2 G fr n0 tl K S i1 (nI 0)) :
    ctU G 1 M_X12_copies fr [.ref 8, .int i1] lM S tl K := by
  refine wp_ct o_X12_copies (Nat.le_of_ble_eq_true rfl) ?_
  replace h := h (hLy lM S tl).length
  revert h
  generalize (hLy lM S tl).length = n0
  intro h
  iterate 2 refine ws_b rfl ?_
  exact wp_weak (wk_s (wk_s (wk_s wk_0))) h
def L_X12_copies9_2 (G : ab_G) (fr : Bool) (n0 : Nat) (tl : ab_H) (K : ms_S → Prop) (S : ms_S) (i1 : Int32) (i2 : Int32) : Prop := wp G 1 M_X12_copies fr n0 (poU lM tl K) 2 [some (.ref 9), some (.int i1), some (.int i2)] [] (hLy lM S tl)
set_option maxRecDepth 100000 in
set_option maxHeartbeats 4000000 in
theorem b_X12_copies9_2 {G : ab_G} {fr : Bool} {n0 : Nat} {tl : ab_H} {K : ms_S → Prop} {S : ms_S} {i1 : Int32} {i2 : Int32}
    (h : (i1 ≤ i2 → (K S)) ∧ (¬ i1 ≤ i2 → (vp_in (i1 + i2) 18 ∧ (vp_in i2 18 ∧ (L_X12_copies9_2 G fr n0 tl K (sA S 9 i2.toNatClampNeg (S.2.2.2.1 9 ((i1 + i2).toNatClampNeg))) i1 (i2 + nI 1)))))) :
    L_X12_copies9_2 G fr n0 tl K S i1 i2 := by
  unfold L_X12_copies9_2
  iterate 3 refine ws_b rfl ?_
  refine wp_ite (fun q => ?_) (fun q => ?_)
  · replace h := h.1 q
    exact wp_rv rfl rfl ⟨_, rfl, rfl, h⟩
  · replace h := h.2 q
    iterate 6 refine ws_b rfl ?_
    refine ws_g rfl h.1 ?_
    replace h := h.2
    refine ws_g rfl h.1 ?_
    replace h := h.2
    iterate 2 refine ws_b rfl ?_
    exact wp_weak (wk_s (wk_s (wk_s wk_0))) h
set_option maxRecDepth 100000 in
set_option maxHeartbeats 4000000 in
theorem m_X12_copies9 {G : ab_G} {fr : Bool} {tl : ab_H} {K : ms_S → Prop} {S : ms_S} {i1 : Int32}
    (h : ∀ n0 : Nat, L_X12_copies9_2 G fr n0 tl K S i1 (nI 0)) :
    ctU G 1 M_X12_copies fr [.ref 9, .int i1] lM S tl K := by
  refine wp_ct o_X12_copies (Nat.le_of_ble_eq_true rfl) ?_
  replace h := h (hLy lM S tl).length
  revert h
  generalize (hLy lM S tl).length = n0
  intro h
  iterate 2 refine ws_b rfl ?_
  exact wp_weak (wk_s (wk_s (wk_s wk_0))) h
def L_X12_copies10_2 (G : ab_G) (fr : Bool) (n0 : Nat) (tl : ab_H) (K : ms_S → Prop) (S : ms_S) (i1 : Int32) (i2 : Int32) : Prop := wp G 1 M_X12_copies fr n0 (poU lM tl K) 2 [some (.ref 10), some (.int i1), some (.int i2)] [] (hLy lM S tl)
set_option maxRecDepth 100000 in
set_option maxHeartbeats 4000000 in
theorem b_X12_copies10_2 {G : ab_G} {fr : Bool} {n0 : Nat} {tl : ab_H} {K : ms_S → Prop} {S : ms_S} {i1 : Int32} {i2 : Int32}
    (h : (i1 ≤ i2 → (K S)) ∧ (¬ i1 ≤ i2 → (vp_in (i1 + i2) 10 ∧ (vp_in i2 10 ∧ (L_X12_copies10_2 G fr n0 tl K (sA S 10 i2.toNatClampNeg (S.2.2.2.1 10 ((i1 + i2).toNatClampNeg))) i1 (i2 + nI 1)))))) :
    L_X12_copies10_2 G fr n0 tl K S i1 i2 := by
  unfold L_X12_copies10_2
  iterate 3 refine ws_b rfl ?_
  refine wp_ite (fun q => ?_) (fun q => ?_)
  · replace h := h.1 q
    exact wp_rv rfl rfl ⟨_, rfl, rfl, h⟩
  · replace h := h.2 q
    iterate 6 refine ws_b rfl ?_
    refine ws_g rfl h.1 ?_
    replace h := h.2
    refine ws_g rfl h.1 ?_
    replace h := h.2
    iterate 2 refine ws_b rfl ?_
    exact wp_weak (wk_s (wk_s (wk_s wk_0))) h
set_option maxRecDepth 100000 in
set_option maxHeartbeats 4000000 in
theorem m_X12_copies10 {G : ab_G} {fr : Bool} {tl : ab_H} {K : ms_S → Prop} {S : ms_S} {i1 : Int32}
    (h : ∀ n0 : Nat, L_X12_copies10_2 G fr n0 tl K S i1 (nI 0)) :
    ctU G 1 M_X12_copies fr [.ref 10, .int i1] lM S tl K := by
  refine wp_ct o_X12_copies (Nat.le_of_ble_eq_true rfl) ?_
  replace h := h (hLy lM S tl).length
  revert h
  generalize (hLy lM S tl).length = n0
  intro h
  iterate 2 refine ws_b rfl ?_
  exact wp_weak (wk_s (wk_s (wk_s wk_0))) h
def L_X12_copies11_2 (G : ab_G) (fr : Bool) (n0 : Nat) (tl : ab_H) (K : ms_S → Prop) (S : ms_S) (i1 : Int32) (i2 : Int32) : Prop := wp G 1 M_X12_copies fr n0 (poU lM tl K) 2 [some (.ref 11), some (.int i1), some (.int i2)] [] (hLy lM S tl)
set_option maxRecDepth 100000 in
set_option maxHeartbeats 4000000 in
theorem b_X12_copies11_2 {G : ab_G} {fr : Bool} {n0 : Nat} {tl : ab_H} {K : ms_S → Prop} {S : ms_S} {i1 : Int32} {i2 : Int32}
    (h : (i1 ≤ i2 → (K S)) ∧ (¬ i1 ≤ i2 → (vp_in (i1 + i2) 16 ∧ (vp_in i2 16 ∧ (L_X12_copies11_2 G fr n0 tl K (sA S 11 i2.toNatClampNeg (S.2.2.2.1 11 ((i1 + i2).toNatClampNeg))) i1 (i2 + nI 1)))))) :
    L_X12_copies11_2 G fr n0 tl K S i1 i2 := by
  unfold L_X12_copies11_2
  iterate 3 refine ws_b rfl ?_
  refine wp_ite (fun q => ?_) (fun q => ?_)
  · replace h := h.1 q
    exact wp_rv rfl rfl ⟨_, rfl, rfl, h⟩
  · replace h := h.2 q
    iterate 6 refine ws_b rfl ?_
    refine ws_g rfl h.1 ?_
    replace h := h.2
    refine ws_g rfl h.1 ?_
    replace h := h.2
    iterate 2 refine ws_b rfl ?_
    exact wp_weak (wk_s (wk_s (wk_s wk_0))) h
set_option maxRecDepth 100000 in
set_option maxHeartbeats 4000000 in
theorem m_X12_copies11 {G : ab_G} {fr : Bool} {tl : ab_H} {K : ms_S → Prop} {S : ms_S} {i1 : Int32}
    (h : ∀ n0 : Nat, L_X12_copies11_2 G fr n0 tl K S i1 (nI 0)) :
    ctU G 1 M_X12_copies fr [.ref 11, .int i1] lM S tl K := by
  refine wp_ct o_X12_copies (Nat.le_of_ble_eq_true rfl) ?_
  replace h := h (hLy lM S tl).length
  revert h
  generalize (hLy lM S tl).length = n0
  intro h
  iterate 2 refine ws_b rfl ?_
  exact wp_weak (wk_s (wk_s (wk_s wk_0))) h
def L_X12_copies12_2 (G : ab_G) (fr : Bool) (n0 : Nat) (tl : ab_H) (K : ms_S → Prop) (S : ms_S) (i1 : Int32) (i2 : Int32) : Prop := wp G 1 M_X12_copies fr n0 (poU lM tl K) 2 [some (.ref 12), some (.int i1), some (.int i2)] [] (hLy lM S tl)
set_option maxRecDepth 100000 in
set_option maxHeartbeats 4000000 in
theorem b_X12_copies12_2 {G : ab_G} {fr : Bool} {n0 : Nat} {tl : ab_H} {K : ms_S → Prop} {S : ms_S} {i1 : Int32} {i2 : Int32}
    (h : (i1 ≤ i2 → (K S)) ∧ (¬ i1 ≤ i2 → (vp_in (i1 + i2) 16 ∧ (vp_in i2 16 ∧ (L_X12_copies12_2 G fr n0 tl K (sA S 12 i2.toNatClampNeg (S.2.2.2.1 12 ((i1 + i2).toNatClampNeg))) i1 (i2 + nI 1)))))) :
    L_X12_copies12_2 G fr n0 tl K S i1 i2 := by
  unfold L_X12_copies12_2
  iterate 3 refine ws_b rfl ?_
  refine wp_ite (fun q => ?_) (fun q => ?_)
  · replace h := h.1 q
    exact wp_rv rfl rfl ⟨_, rfl, rfl, h⟩
  · replace h := h.2 q
    iterate 6 refine ws_b rfl ?_
    refine ws_g rfl h.1 ?_
    replace h := h.2
    refine ws_g rfl h.1 ?_
    replace h := h.2
    iterate 2 refine ws_b rfl ?_
    exact wp_weak (wk_s (wk_s (wk_s wk_0))) h
set_option maxRecDepth 100000 in
set_option maxHeartbeats 4000000 in
theorem m_X12_copies12 {G : ab_G} {fr : Bool} {tl : ab_H} {K : ms_S → Prop} {S : ms_S} {i1 : Int32}
    (h : ∀ n0 : Nat, L_X12_copies12_2 G fr n0 tl K S i1 (nI 0)) :
    ctU G 1 M_X12_copies fr [.ref 12, .int i1] lM S tl K := by
  refine wp_ct o_X12_copies (Nat.le_of_ble_eq_true rfl) ?_
  replace h := h (hLy lM S tl).length
  revert h
  generalize (hLy lM S tl).length = n0
  intro h
  iterate 2 refine ws_b rfl ?_
  exact wp_weak (wk_s (wk_s (wk_s wk_0))) h
def L_X12_copies13_2 (G : ab_G) (fr : Bool) (n0 : Nat) (tl : ab_H) (K : ms_S → Prop) (S : ms_S) (i1 : Int32) (i2 : Int32) : Prop := wp G 1 M_X12_copies fr n0 (poU lM tl K) 2 [some (.ref 13), some (.int i1), some (.int i2)] [] (hLy lM S tl)
set_option maxRecDepth 100000 in
set_option maxHeartbeats 4000000 in
theorem b_X12_copies13_2 {G : ab_G} {fr : Bool} {n0 : Nat} {tl : ab_H} {K : ms_S → Prop} {S : ms_S} {i1 : Int32} {i2 : Int32}
    (h : (i1 ≤ i2 → (K S)) ∧ (¬ i1 ≤ i2 → (vp_in (i1 + i2) 16 ∧ (vp_in i2 16 ∧ (L_X12_copies13_2 G fr n0 tl K (sA S 13 i2.toNatClampNeg (S.2.2.2.1 13 ((i1 + i2).toNatClampNeg))) i1 (i2 + nI 1)))))) :
    L_X12_copies13_2 G fr n0 tl K S i1 i2 := by
  unfold L_X12_copies13_2
  iterate 3 refine ws_b rfl ?_
  refine wp_ite (fun q => ?_) (fun q => ?_)
  · replace h := h.1 q
    exact wp_rv rfl rfl ⟨_, rfl, rfl, h⟩
  · replace h := h.2 q
    iterate 6 refine ws_b rfl ?_
    refine ws_g rfl h.1 ?_
    replace h := h.2
    refine ws_g rfl h.1 ?_
    replace h := h.2
    iterate 2 refine ws_b rfl ?_
    exact wp_weak (wk_s (wk_s (wk_s wk_0))) h
set_option maxRecDepth 100000 in
set_option maxHeartbeats 4000000 in
theorem m_X12_copies13 {G : ab_G} {fr : Bool} {tl : ab_H} {K : ms_S → Prop} {S : ms_S} {i1 : Int32}
    (h : ∀ n0 : Nat, L_X12_copies13_2 G fr n0 tl K S i1 (nI 0)) :
    ctU G 1 M_X12_copies fr [.ref 13, .int i1] lM S tl K := by
  refine wp_ct o_X12_copies (Nat.le_of_ble_eq_true rfl) ?_
  replace h := h (hLy lM S tl).length
  revert h
  generalize (hLy lM S tl).length = n0
  intro h
  iterate 2 refine ws_b rfl ?_
  exact wp_weak (wk_s (wk_s (wk_s wk_0))) h
def L_X12_copies14_2 (G : ab_G) (fr : Bool) (n0 : Nat) (tl : ab_H) (K : ms_S → Prop) (S : ms_S) (i1 : Int32) (i2 : Int32) : Prop := wp G 1 M_X12_copies fr n0 (poU lM tl K) 2 [some (.ref 14), some (.int i1), some (.int i2)] [] (hLy lM S tl)
set_option maxRecDepth 100000 in
set_option maxHeartbeats 4000000 in
theorem b_X12_copies14_2 {G : ab_G} {fr : Bool} {n0 : Nat} {tl : ab_H} {K : ms_S → Prop} {S : ms_S} {i1 : Int32} {i2 : Int32}
    (h : (i1 ≤ i2 → (K S)) ∧ (¬ i1 ≤ i2 → (vp_in (i1 + i2) 20 ∧ (vp_in i2 20 ∧ (L_X12_copies14_2 G fr n0 tl K (sA S 14 i2.toNatClampNeg (S.2.2.2.1 14 ((i1 + i2).toNatClampNeg))) i1 (i2 + nI 1)))))) :
    L_X12_copies14_2 G fr n0 tl K S i1 i2 := by
  unfold L_X12_copies14_2
  iterate 3 refine ws_b rfl ?_
  refine wp_ite (fun q => ?_) (fun q => ?_)
  · replace h := h.1 q
    exact wp_rv rfl rfl ⟨_, rfl, rfl, h⟩
  · replace h := h.2 q
    iterate 6 refine ws_b rfl ?_
    refine ws_g rfl h.1 ?_
    replace h := h.2
    refine ws_g rfl h.1 ?_
    replace h := h.2
    iterate 2 refine ws_b rfl ?_
    exact wp_weak (wk_s (wk_s (wk_s wk_0))) h
set_option maxRecDepth 100000 in
set_option maxHeartbeats 4000000 in
theorem m_X12_copies14 {G : ab_G} {fr : Bool} {tl : ab_H} {K : ms_S → Prop} {S : ms_S} {i1 : Int32}
    (h : ∀ n0 : Nat, L_X12_copies14_2 G fr n0 tl K S i1 (nI 0)) :
    ctU G 1 M_X12_copies fr [.ref 14, .int i1] lM S tl K := by
  refine wp_ct o_X12_copies (Nat.le_of_ble_eq_true rfl) ?_
  replace h := h (hLy lM S tl).length
  revert h
  generalize (hLy lM S tl).length = n0
  intro h
  iterate 2 refine ws_b rfl ?_
  exact wp_weak (wk_s (wk_s (wk_s wk_0))) h
def L_X12_copies15_2 (G : ab_G) (fr : Bool) (n0 : Nat) (tl : ab_H) (K : ms_S → Prop) (S : ms_S) (i1 : Int32) (i2 : Int32) : Prop := wp G 1 M_X12_copies fr n0 (poU lM tl K) 2 [some (.ref 15), some (.int i1), some (.int i2)] [] (hLy lM S tl)
set_option maxRecDepth 100000 in
set_option maxHeartbeats 4000000 in
theorem b_X12_copies15_2 {G : ab_G} {fr : Bool} {n0 : Nat} {tl : ab_H} {K : ms_S → Prop} {S : ms_S} {i1 : Int32} {i2 : Int32}
    (h : (i1 ≤ i2 → (K S)) ∧ (¬ i1 ≤ i2 → (vp_in (i1 + i2) 20 ∧ (vp_in i2 20 ∧ (L_X12_copies15_2 G fr n0 tl K (sA S 15 i2.toNatClampNeg (S.2.2.2.1 15 ((i1 + i2).toNatClampNeg))) i1 (i2 + nI 1)))))) :
    L_X12_copies15_2 G fr n0 tl K S i1 i2 := by
  unfold L_X12_copies15_2
  iterate 3 refine ws_b rfl ?_
  refine wp_ite (fun q => ?_) (fun q => ?_)
  · replace h := h.1 q
    exact wp_rv rfl rfl ⟨_, rfl, rfl, h⟩
  · replace h := h.2 q
    iterate 6 refine ws_b rfl ?_
    refine ws_g rfl h.1 ?_
    replace h := h.2
    refine ws_g rfl h.1 ?_
    replace h := h.2
    iterate 2 refine ws_b rfl ?_
    exact wp_weak (wk_s (wk_s (wk_s wk_0))) h
set_option maxRecDepth 100000 in
set_option maxHeartbeats 4000000 in
theorem m_X12_copies15 {G : ab_G} {fr : Bool} {tl : ab_H} {K : ms_S → Prop} {S : ms_S} {i1 : Int32}
    (h : ∀ n0 : Nat, L_X12_copies15_2 G fr n0 tl K S i1 (nI 0)) :
    ctU G 1 M_X12_copies fr [.ref 15, .int i1] lM S tl K := by
  refine wp_ct o_X12_copies (Nat.le_of_ble_eq_true rfl) ?_
  replace h := h (hLy lM S tl).length
  revert h
  generalize (hLy lM S tl).length = n0
  intro h
  iterate 2 refine ws_b rfl ?_
  exact wp_weak (wk_s (wk_s (wk_s wk_0))) h
def L_X12_copies17_2 (G : ab_G) (fr : Bool) (n0 : Nat) (tl : ab_H) (K : ms_S → Prop) (S : ms_S) (i1 : Int32) (i2 : Int32) : Prop := wp G 1 M_X12_copies fr n0 (poU lM tl K) 2 [some (.ref 17), some (.int i1), some (.int i2)] [] (hLy lM S tl)
set_option maxRecDepth 100000 in
set_option maxHeartbeats 4000000 in
theorem b_X12_copies17_2 {G : ab_G} {fr : Bool} {n0 : Nat} {tl : ab_H} {K : ms_S → Prop} {S : ms_S} {i1 : Int32} {i2 : Int32}
    (h : (i1 ≤ i2 → (K S)) ∧ (¬ i1 ≤ i2 → (vp_in (i1 + i2) 6 ∧ (vp_in i2 6 ∧ (L_X12_copies17_2 G fr n0 tl K (sA S 17 i2.toNatClampNeg (S.2.2.2.1 17 ((i1 + i2).toNatClampNeg))) i1 (i2 + nI 1)))))) :
    L_X12_copies17_2 G fr n0 tl K S i1 i2 := by
  unfold L_X12_copies17_2
  iterate 3 refine ws_b rfl ?_
  refine wp_ite (fun q => ?_) (fun q => ?_)
  · replace h := h.1 q
    exact wp_rv rfl rfl ⟨_, rfl, rfl, h⟩
  · replace h := h.2 q
    iterate 6 refine ws_b rfl ?_
    refine ws_g rfl h.1 ?_
    replace h := h.2
    refine ws_g rfl h.1 ?_
    replace h := h.2
    iterate 2 refine ws_b rfl ?_
    exact wp_weak (wk_s (wk_s (wk_s wk_0))) h
set_option maxRecDepth 100000 in
set_option maxHeartbeats 4000000 in
theorem m_X12_copies17 {G : ab_G} {fr : Bool} {tl : ab_H} {K : ms_S → Prop} {S : ms_S} {i1 : Int32}
    (h : ∀ n0 : Nat, L_X12_copies17_2 G fr n0 tl K S i1 (nI 0)) :
    ctU G 1 M_X12_copies fr [.ref 17, .int i1] lM S tl K := by
  refine wp_ct o_X12_copies (Nat.le_of_ble_eq_true rfl) ?_
  replace h := h (hLy lM S tl).length
  revert h
  generalize (hLy lM S tl).length = n0
  intro h
  iterate 2 refine ws_b rfl ?_
  exact wp_weak (wk_s (wk_s (wk_s wk_0))) h
def L_X12_copies18_2 (G : ab_G) (fr : Bool) (n0 : Nat) (tl : ab_H) (K : ms_S → Prop) (S : ms_S) (i1 : Int32) (i2 : Int32) : Prop := wp G 1 M_X12_copies fr n0 (poU lM tl K) 2 [some (.ref 18), some (.int i1), some (.int i2)] [] (hLy lM S tl)
set_option maxRecDepth 100000 in
set_option maxHeartbeats 4000000 in
theorem b_X12_copies18_2 {G : ab_G} {fr : Bool} {n0 : Nat} {tl : ab_H} {K : ms_S → Prop} {S : ms_S} {i1 : Int32} {i2 : Int32}
    (h : (i1 ≤ i2 → (K S)) ∧ (¬ i1 ≤ i2 → (vp_in (i1 + i2) 6 ∧ (vp_in i2 6 ∧ (L_X12_copies18_2 G fr n0 tl K (sA S 18 i2.toNatClampNeg (S.2.2.2.1 18 ((i1 + i2).toNatClampNeg))) i1 (i2 + nI 1)))))) :
    L_X12_copies18_2 G fr n0 tl K S i1 i2 := by
  unfold L_X12_copies18_2
  iterate 3 refine ws_b rfl ?_
  refine wp_ite (fun q => ?_) (fun q => ?_)
  · replace h := h.1 q
    exact wp_rv rfl rfl ⟨_, rfl, rfl, h⟩
  · replace h := h.2 q
    iterate 6 refine ws_b rfl ?_
    refine ws_g rfl h.1 ?_
    replace h := h.2
    refine ws_g rfl h.1 ?_
    replace h := h.2
    iterate 2 refine ws_b rfl ?_
    exact wp_weak (wk_s (wk_s (wk_s wk_0))) h
set_option maxRecDepth 100000 in
set_option maxHeartbeats 4000000 in
theorem m_X12_copies18 {G : ab_G} {fr : Bool} {tl : ab_H} {K : ms_S → Prop} {S : ms_S} {i1 : Int32}
    (h : ∀ n0 : Nat, L_X12_copies18_2 G fr n0 tl K S i1 (nI 0)) :
    ctU G 1 M_X12_copies fr [.ref 18, .int i1] lM S tl K := by
  refine wp_ct o_X12_copies (Nat.le_of_ble_eq_true rfl) ?_
  replace h := h (hLy lM S tl).length
  revert h
  generalize (hLy lM S tl).length = n0
  intro h
  iterate 2 refine ws_b rfl ?_
  exact wp_weak (wk_s (wk_s (wk_s wk_0))) h
def L_X12_copies19_2 (G : ab_G) (fr : Bool) (n0 : Nat) (tl : ab_H) (K : ms_S → Prop) (S : ms_S) (i1 : Int32) (i2 : Int32) : Prop := wp G 1 M_X12_copies fr n0 (poU lM tl K) 2 [some (.ref 19), some (.int i1), some (.int i2)] [] (hLy lM S tl)
set_option maxRecDepth 100000 in
set_option maxHeartbeats 4000000 in
theorem b_X12_copies19_2 {G : ab_G} {fr : Bool} {n0 : Nat} {tl : ab_H} {K : ms_S → Prop} {S : ms_S} {i1 : Int32} {i2 : Int32}
    (h : (i1 ≤ i2 → (K S)) ∧ (¬ i1 ≤ i2 → (vp_in (i1 + i2) 128 ∧ (vp_in i2 128 ∧ (L_X12_copies19_2 G fr n0 tl K (sA S 19 i2.toNatClampNeg (S.2.2.2.1 19 ((i1 + i2).toNatClampNeg))) i1 (i2 + nI 1)))))) :
    L_X12_copies19_2 G fr n0 tl K S i1 i2 := by
  unfold L_X12_copies19_2
  iterate 3 refine ws_b rfl ?_
  refine wp_ite (fun q => ?_) (fun q => ?_)
  · replace h := h.1 q
    exact wp_rv rfl rfl ⟨_, rfl, rfl, h⟩
  · replace h := h.2 q
    iterate 6 refine ws_b rfl ?_
    refine ws_g rfl h.1 ?_
    replace h := h.2
    refine ws_g rfl h.1 ?_
    replace h := h.2
    iterate 2 refine ws_b rfl ?_
    exact wp_weak (wk_s (wk_s (wk_s wk_0))) h
set_option maxRecDepth 100000 in
set_option maxHeartbeats 4000000 in
theorem m_X12_copies19 {G : ab_G} {fr : Bool} {tl : ab_H} {K : ms_S → Prop} {S : ms_S} {i1 : Int32}
    (h : ∀ n0 : Nat, L_X12_copies19_2 G fr n0 tl K S i1 (nI 0)) :
    ctU G 1 M_X12_copies fr [.ref 19, .int i1] lM S tl K := by
  refine wp_ct o_X12_copies (Nat.le_of_ble_eq_true rfl) ?_
  replace h := h (hLy lM S tl).length
  revert h
  generalize (hLy lM S tl).length = n0
  intro h
  iterate 2 refine ws_b rfl ?_
  exact wp_weak (wk_s (wk_s (wk_s wk_0))) h
def L_X12_copies20_2 (G : ab_G) (fr : Bool) (n0 : Nat) (tl : ab_H) (K : ms_S → Prop) (S : ms_S) (i1 : Int32) (i2 : Int32) : Prop := wp G 1 M_X12_copies fr n0 (poU lM tl K) 2 [some (.ref 20), some (.int i1), some (.int i2)] [] (hLy lM S tl)
set_option maxRecDepth 100000 in
set_option maxHeartbeats 4000000 in
theorem b_X12_copies20_2 {G : ab_G} {fr : Bool} {n0 : Nat} {tl : ab_H} {K : ms_S → Prop} {S : ms_S} {i1 : Int32} {i2 : Int32}
    (h : (i1 ≤ i2 → (K S)) ∧ (¬ i1 ≤ i2 → (vp_in (i1 + i2) 128 ∧ (vp_in i2 128 ∧ (L_X12_copies20_2 G fr n0 tl K (sA S 20 i2.toNatClampNeg (S.2.2.2.1 20 ((i1 + i2).toNatClampNeg))) i1 (i2 + nI 1)))))) :
    L_X12_copies20_2 G fr n0 tl K S i1 i2 := by
  unfold L_X12_copies20_2
  iterate 3 refine ws_b rfl ?_
  refine wp_ite (fun q => ?_) (fun q => ?_)
  · replace h := h.1 q
    exact wp_rv rfl rfl ⟨_, rfl, rfl, h⟩
  · replace h := h.2 q
    iterate 6 refine ws_b rfl ?_
    refine ws_g rfl h.1 ?_
    replace h := h.2
    refine ws_g rfl h.1 ?_
    replace h := h.2
    iterate 2 refine ws_b rfl ?_
    exact wp_weak (wk_s (wk_s (wk_s wk_0))) h
set_option maxRecDepth 100000 in
set_option maxHeartbeats 4000000 in
theorem m_X12_copies20 {G : ab_G} {fr : Bool} {tl : ab_H} {K : ms_S → Prop} {S : ms_S} {i1 : Int32}
    (h : ∀ n0 : Nat, L_X12_copies20_2 G fr n0 tl K S i1 (nI 0)) :
    ctU G 1 M_X12_copies fr [.ref 20, .int i1] lM S tl K := by
  refine wp_ct o_X12_copies (Nat.le_of_ble_eq_true rfl) ?_
  replace h := h (hLy lM S tl).length
  revert h
  generalize (hLy lM S tl).length = n0
  intro h
  iterate 2 refine ws_b rfl ?_
  exact wp_weak (wk_s (wk_s (wk_s wk_0))) h
def L_X12_copies21_2 (G : ab_G) (fr : Bool) (n0 : Nat) (tl : ab_H) (K : ms_S → Prop) (S : ms_S) (i1 : Int32) (i2 : Int32) : Prop := wp G 1 M_X12_copies fr n0 (poU lM tl K) 2 [some (.ref 21), some (.int i1), some (.int i2)] [] (hLy lM S tl)
set_option maxRecDepth 100000 in
set_option maxHeartbeats 4000000 in
theorem b_X12_copies21_2 {G : ab_G} {fr : Bool} {n0 : Nat} {tl : ab_H} {K : ms_S → Prop} {S : ms_S} {i1 : Int32} {i2 : Int32}
    (h : (i1 ≤ i2 → (K S)) ∧ (¬ i1 ≤ i2 → (vp_in (i1 + i2) 128 ∧ (vp_in i2 128 ∧ (L_X12_copies21_2 G fr n0 tl K (sA S 21 i2.toNatClampNeg (S.2.2.2.1 21 ((i1 + i2).toNatClampNeg))) i1 (i2 + nI 1)))))) :
    L_X12_copies21_2 G fr n0 tl K S i1 i2 := by
  unfold L_X12_copies21_2
  iterate 3 refine ws_b rfl ?_
  refine wp_ite (fun q => ?_) (fun q => ?_)
  · replace h := h.1 q
    exact wp_rv rfl rfl ⟨_, rfl, rfl, h⟩
  · replace h := h.2 q
    iterate 6 refine ws_b rfl ?_
    refine ws_g rfl h.1 ?_
    replace h := h.2
    refine ws_g rfl h.1 ?_
    replace h := h.2
    iterate 2 refine ws_b rfl ?_
    exact wp_weak (wk_s (wk_s (wk_s wk_0))) h
set_option maxRecDepth 100000 in
set_option maxHeartbeats 4000000 in
theorem m_X12_copies21 {G : ab_G} {fr : Bool} {tl : ab_H} {K : ms_S → Prop} {S : ms_S} {i1 : Int32}
    (h : ∀ n0 : Nat, L_X12_copies21_2 G fr n0 tl K S i1 (nI 0)) :
    ctU G 1 M_X12_copies fr [.ref 21, .int i1] lM S tl K := by
  refine wp_ct o_X12_copies (Nat.le_of_ble_eq_true rfl) ?_
  replace h := h (hLy lM S tl).length
  revert h
  generalize (hLy lM S tl).length = n0
  intro h
  iterate 2 refine ws_b rfl ?_
  exact wp_weak (wk_s (wk_s (wk_s wk_0))) h
def L_X12_keepText_148 (G : ab_G) (fr : Bool) (n0 : Nat) (tl : ab_H) (K : ms_S → Prop) (S : ms_S) (i1 : Int32) : Prop := wp G 3 M_X12_keepText fr n0 (poU lM tl K) 148 [some (.ref 0), some (.int i1)] [] (hLy lM S tl)
set_option maxRecDepth 100000 in
set_option maxHeartbeats 4000000 in
theorem b_X12_keepText_148 {G : ab_G} {fr : Bool} {n0 : Nat} {tl : ab_H} {K : ms_S → Prop} {S : ms_S} {i1 : Int32}
    (h : ((nI 3) ≤ i1 → (ctU G 1 M_X12_copies fr [.ref 17, .int (nI 3)] lM S tl (fun S1 => ctU G 1 M_X12_copies fr [.ref 18, .int (nI 3)] lM S1 tl (fun S2 => ctU G 1 M_X12_copies fr [.ref 19, .int (nI 64)] lM S2 tl (fun S3 => ctU G 1 M_X12_copies fr [.ref 20, .int (nI 64)] lM S3 tl (fun S4 => ctU G 1 M_X12_copies fr [.ref 21, .int (nI 64)] lM S4 tl (fun S5 => ctU G 2 M_X12_begin fr [.ref 0] lM S5 tl (fun S6 => K S6)))))))) ∧ (¬ (nI 3) ≤ i1 → (vp_in ((nI 3) + i1) 6 ∧ (vp_in i1 6 ∧ (L_X12_keepText_148 G fr n0 tl K (sA S 16 i1.toNatClampNeg ((S.2.2.2.1 16 (((nI 3) + i1).toNatClampNeg)) &&& 1)) (i1 + nI 1)))))) :
    L_X12_keepText_148 G fr n0 tl K S i1 := by
  unfold L_X12_keepText_148
  iterate 3 refine ws_b rfl ?_
  refine wp_ite (fun q => ?_) (fun q => ?_)
  · replace h := h.1 q
    iterate 3 refine ws_b rfl ?_
    refine wp_cS rfl rfl o_X12_copies s_X12_copies h rfl rfl (Nat.le_of_ble_eq_true rfl) (by decide) ?_
    clear h
    rintro r9 h9 ⟨S1, rfl, rfl, h⟩
    iterate 3 refine ws_b rfl ?_
    refine wp_cS rfl rfl o_X12_copies s_X12_copies h rfl rfl (Nat.le_of_ble_eq_true rfl) (by decide) ?_
    clear h
    rintro r9 h9 ⟨S2, rfl, rfl, h⟩
    iterate 3 refine ws_b rfl ?_
    refine wp_cS rfl rfl o_X12_copies s_X12_copies h rfl rfl (Nat.le_of_ble_eq_true rfl) (by decide) ?_
    clear h
    rintro r9 h9 ⟨S3, rfl, rfl, h⟩
    iterate 3 refine ws_b rfl ?_
    refine wp_cS rfl rfl o_X12_copies s_X12_copies h rfl rfl (Nat.le_of_ble_eq_true rfl) (by decide) ?_
    clear h
    rintro r9 h9 ⟨S4, rfl, rfl, h⟩
    iterate 3 refine ws_b rfl ?_
    refine wp_cS rfl rfl o_X12_copies s_X12_copies h rfl rfl (Nat.le_of_ble_eq_true rfl) (by decide) ?_
    clear h
    rintro r9 h9 ⟨S5, rfl, rfl, h⟩
    refine ws_b rfl ?_
    refine wp_cV rfl rfl o_X12_begin v_X12_begin h rfl rfl rfl (Nat.le_of_ble_eq_true rfl) (by decide) ?_
    clear h
    rintro r9 h9 ⟨S6, rfl, rfl, h⟩
    exact wp_rv rfl rfl ⟨_, rfl, rfl, h⟩
  · replace h := h.2 q
    iterate 8 refine ws_b rfl ?_
    refine ws_g rfl h.1 ?_
    replace h := h.2
    refine ws_g rfl h.1 ?_
    replace h := h.2
    iterate 2 refine ws_b rfl ?_
    exact wp_weak (wk_s (wk_s wk_0)) h
set_option maxRecDepth 100000 in
set_option maxHeartbeats 4000000 in
theorem m_X12_keepText {G : ab_G} {fr : Bool} {tl : ab_H} {K : ms_S → Prop} {S : ms_S} 
    (h : ∀ n0 : Nat, ctU G 1 M_X12_copies fr [.ref 4, .int (nI 2)] lM (sV (sV (sV (sV (sV S 12 (S.1 0 17)) 13 (S.1 0 18)) 14 (S.1 0 19)) 15 (S.1 0 20)) 16 (S.1 0 21)) tl (fun S1 => ctU G 1 M_X12_copies fr [.ref 5, .int (nI 9)] lM S1 tl (fun S2 => ctU G 1 M_X12_copies fr [.ref 6, .int (nI 9)] lM S2 tl (fun S3 => ctU G 1 M_X12_copies fr [.ref 7, .int (nI 9)] lM S3 tl (fun S4 => ctU G 1 M_X12_copies fr [.ref 8, .int (nI 9)] lM S4 tl (fun S5 => ctU G 1 M_X12_copies fr [.ref 9, .int (nI 9)] lM S5 tl (fun S6 => ctU G 1 M_X12_copies fr [.ref 10, .int (nI 5)] lM S6 tl (fun S7 => ctU G 1 M_X12_copies fr [.ref 11, .int (nI 8)] lM S7 tl (fun S8 => ctU G 1 M_X12_copies fr [.ref 12, .int (nI 8)] lM S8 tl (fun S9 => ctU G 1 M_X12_copies fr [.ref 13, .int (nI 8)] lM S9 tl (fun S10 => ctU G 1 M_X12_copies fr [.ref 14, .int (nI 10)] lM S10 tl (fun S11 => ctU G 1 M_X12_copies fr [.ref 15, .int (nI 10)] lM S11 tl (fun S12 => L_X12_keepText_148 G fr n0 tl K S12 (nI 0)))))))))))))) :
    ctU G 3 M_X12_keepText fr [.ref 0] lM S tl K := by
  refine wp_ct o_X12_keepText (Nat.le_of_ble_eq_true rfl) ?_
  replace h := h (hLy lM S tl).length
  revert h
  generalize (hLy lM S tl).length = n0
  intro h
  iterate 23 refine ws_b rfl ?_
  refine wp_cS rfl rfl o_X12_copies s_X12_copies h rfl rfl (Nat.le_of_ble_eq_true rfl) (by decide) ?_
  clear h
  rintro r9 h9 ⟨S1, rfl, rfl, h⟩
  iterate 3 refine ws_b rfl ?_
  refine wp_cS rfl rfl o_X12_copies s_X12_copies h rfl rfl (Nat.le_of_ble_eq_true rfl) (by decide) ?_
  clear h
  rintro r9 h9 ⟨S2, rfl, rfl, h⟩
  iterate 3 refine ws_b rfl ?_
  refine wp_cS rfl rfl o_X12_copies s_X12_copies h rfl rfl (Nat.le_of_ble_eq_true rfl) (by decide) ?_
  clear h
  rintro r9 h9 ⟨S3, rfl, rfl, h⟩
  iterate 3 refine ws_b rfl ?_
  refine wp_cS rfl rfl o_X12_copies s_X12_copies h rfl rfl (Nat.le_of_ble_eq_true rfl) (by decide) ?_
  clear h
  rintro r9 h9 ⟨S4, rfl, rfl, h⟩
  iterate 3 refine ws_b rfl ?_
  refine wp_cS rfl rfl o_X12_copies s_X12_copies h rfl rfl (Nat.le_of_ble_eq_true rfl) (by decide) ?_
  clear h
  rintro r9 h9 ⟨S5, rfl, rfl, h⟩
  iterate 3 refine ws_b rfl ?_
  refine wp_cS rfl rfl o_X12_copies s_X12_copies h rfl rfl (Nat.le_of_ble_eq_true rfl) (by decide) ?_
  clear h
  rintro r9 h9 ⟨S6, rfl, rfl, h⟩
  iterate 3 refine ws_b rfl ?_
  refine wp_cS rfl rfl o_X12_copies s_X12_copies h rfl rfl (Nat.le_of_ble_eq_true rfl) (by decide) ?_
  clear h
  rintro r9 h9 ⟨S7, rfl, rfl, h⟩
  iterate 3 refine ws_b rfl ?_
  refine wp_cS rfl rfl o_X12_copies s_X12_copies h rfl rfl (Nat.le_of_ble_eq_true rfl) (by decide) ?_
  clear h
  rintro r9 h9 ⟨S8, rfl, rfl, h⟩
  iterate 3 refine ws_b rfl ?_
  refine wp_cS rfl rfl o_X12_copies s_X12_copies h rfl rfl (Nat.le_of_ble_eq_true rfl) (by decide) ?_
  clear h
  rintro r9 h9 ⟨S9, rfl, rfl, h⟩
  iterate 3 refine ws_b rfl ?_
  refine wp_cS rfl rfl o_X12_copies s_X12_copies h rfl rfl (Nat.le_of_ble_eq_true rfl) (by decide) ?_
  clear h
  rintro r9 h9 ⟨S10, rfl, rfl, h⟩
  iterate 3 refine ws_b rfl ?_
  refine wp_cS rfl rfl o_X12_copies s_X12_copies h rfl rfl (Nat.le_of_ble_eq_true rfl) (by decide) ?_
  clear h
  rintro r9 h9 ⟨S11, rfl, rfl, h⟩
  iterate 3 refine ws_b rfl ?_
  refine wp_cS rfl rfl o_X12_copies s_X12_copies h rfl rfl (Nat.le_of_ble_eq_true rfl) (by decide) ?_
  clear h
  rintro r9 h9 ⟨S12, rfl, rfl, h⟩
  iterate 2 refine ws_b rfl ?_
  exact wp_weak (wk_s (wk_s wk_0)) h

