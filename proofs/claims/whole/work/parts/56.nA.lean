/-! ===== the reference: sights, the missing piece, what to ask, how many a row needs ===== -/
def L_X12_isSo_2 (G : ab_G) (fr : Bool) (n0 : Nat) (tl : ab_H) (K : Int32 → ms_S → Prop) (S : ms_S) (i1 : Int32) (i2 : Int32) : Prop := wp G 2 M_X12_isSo fr n0 (poI lM tl K) 2 [some (.ref 0), some (.int i1), some (.int i2), none] [] (hLy lM S tl)
set_option maxRecDepth 100000 in
set_option maxHeartbeats 4000000 in
theorem b_X12_isSo_2 {G : ab_G} {fr : Bool} {n0 : Nat} {tl : ab_H} {K : Int32 → ms_S → Prop} {S : ms_S} {i1 : Int32} {i2 : Int32}
    (h : ctI G 1 M_X12_knownBy fr [.ref 0] lM S tl (fun v1 S1 => (v1 ≤ i2 → (K (nI 1) S1)) ∧ (¬ v1 ≤ i2 → (vp_in i2 24 ∧ (((S1.2.2.2.1 38 i2.toNatClampNeg) = 0 → (L_X12_isSo_2 G fr n0 tl K S1 i1 (i2 + nI 1))) ∧ (¬ (S1.2.2.2.1 38 i2.toNatClampNeg) = 0 → (vp_in ((nI 5) * i2) 120 ∧ (((S1.2.2.2.1 37 (((nI 5) * i2).toNatClampNeg)) = (nI 2) → (vp_in (((nI 5) * i2) + (nI 1)) 120 ∧ (((S1.2.2.2.1 37 ((((nI 5) * i2) + (nI 1)).toNatClampNeg)) = i1 → (vp_in (((nI 5) * i2) + (nI 2)) 120 ∧ (vp_in ((nI 5) + (S1.2.2.2.1 37 ((((nI 5) * i2) + (nI 2)).toNatClampNeg))) 10 ∧ (vp_in (((nI 5) * i2) + (nI 3)) 120 ∧ (((S1.2.2.2.1 27 (((nI 5) + (S1.2.2.2.1 37 ((((nI 5) * i2) + (nI 2)).toNatClampNeg))).toNatClampNeg)) < (S1.2.2.2.1 37 ((((nI 5) * i2) + (nI 3)).toNatClampNeg)) → (vp_in (((nI 5) * i2) + (nI 4)) 120 ∧ (((S1.2.2.2.1 37 ((((nI 5) * i2) + (nI 4)).toNatClampNeg)) = (nI 1) → (K (nI 0) S1)) ∧ (¬ (S1.2.2.2.1 37 ((((nI 5) * i2) + (nI 4)).toNatClampNeg)) = (nI 1) → (L_X12_isSo_2 G fr n0 tl K S1 i1 (i2 + nI 1)))))) ∧ (¬ (S1.2.2.2.1 27 (((nI 5) + (S1.2.2.2.1 37 ((((nI 5) * i2) + (nI 2)).toNatClampNeg))).toNatClampNeg)) < (S1.2.2.2.1 37 ((((nI 5) * i2) + (nI 3)).toNatClampNeg)) → (vp_in (((nI 5) * i2) + (nI 4)) 120 ∧ (((S1.2.2.2.1 37 ((((nI 5) * i2) + (nI 4)).toNatClampNeg)) = (nI 1) → (L_X12_isSo_2 G fr n0 tl K S1 i1 (i2 + nI 1))) ∧ (¬ (S1.2.2.2.1 37 ((((nI 5) * i2) + (nI 4)).toNatClampNeg)) = (nI 1) → (K (nI 0) S1)))))))))) ∧ (¬ (S1.2.2.2.1 37 ((((nI 5) * i2) + (nI 1)).toNatClampNeg)) = i1 → (L_X12_isSo_2 G fr n0 tl K S1 i1 (i2 + nI 1)))))) ∧ (¬ (S1.2.2.2.1 37 (((nI 5) * i2).toNatClampNeg)) = (nI 2) → (L_X12_isSo_2 G fr n0 tl K S1 i1 (i2 + nI 1))))))))))) :
    L_X12_isSo_2 G fr n0 tl K S i1 i2 := by
  unfold L_X12_isSo_2
  iterate 2 refine ws_b rfl ?_
  refine wp_cV rfl rfl o_X12_knownBy v_X12_knownBy h rfl rfl rfl (Nat.le_of_ble_eq_true rfl) (by decide) ?_
  clear h
  rintro r9 h9 ⟨v1, S1, rfl, rfl, h⟩
  refine ws_b rfl ?_
  refine wp_ite (fun q => ?_) (fun q => ?_)
  · replace h := h.1 q
    refine ws_b rfl ?_
    exact wp_ri rfl rfl rfl ⟨_, _, rfl, rfl, h⟩
  · replace h := h.2 q
    iterate 7 refine ws_b rfl ?_
    refine ws_g rfl h.1 ?_
    replace h := h.2
    refine ws_b rfl ?_
    refine wp_ite (fun q => ?_) (fun q => ?_)
    · replace h := h.1 q
      iterate 2 refine ws_b rfl ?_
      exact wp_weak (wk_s (wk_s (wk_s (wk_n wk_0)))) h
    · replace h := h.2 q
      iterate 3 refine ws_b rfl ?_
      refine ws_g rfl h.1 ?_
      replace h := h.2
      iterate 2 refine ws_b rfl ?_
      refine wp_ite (fun q => ?_) (fun q => ?_)
      · replace h := h.1 q
        iterate 5 refine ws_b rfl ?_
        refine ws_g rfl h.1 ?_
        replace h := h.2
        iterate 2 refine ws_b rfl ?_
        refine wp_ite (fun q => ?_) (fun q => ?_)
        · replace h := h.1 q
          iterate 8 refine ws_b rfl ?_
          refine ws_g rfl h.1 ?_
          replace h := h.2
          refine ws_b rfl ?_
          refine ws_g rfl h.1 ?_
          replace h := h.2
          iterate 5 refine ws_b rfl ?_
          refine ws_g rfl h.1 ?_
          replace h := h.2
          refine ws_b rfl ?_
          refine wp_ite (fun q => ?_) (fun q => ?_)
          · replace h := h.1 q
            iterate 6 refine ws_b rfl ?_
            refine ws_g rfl h.1 ?_
            replace h := h.2
            iterate 2 refine ws_b rfl ?_
            refine wp_ite (fun q => ?_) (fun q => ?_)
            · replace h := h.1 q
              iterate 4 refine ws_b rfl ?_
              exact wp_ri rfl rfl rfl ⟨_, _, rfl, rfl, h⟩
            · replace h := h.2 q
              iterate 4 refine ws_b rfl ?_
              exact wp_weak (wk_s (wk_s (wk_s (wk_n wk_0)))) h
          · replace h := h.2 q
            iterate 7 refine ws_b rfl ?_
            refine ws_g rfl h.1 ?_
            replace h := h.2
            iterate 2 refine ws_b rfl ?_
            refine wp_ite (fun q => ?_) (fun q => ?_)
            · replace h := h.1 q
              iterate 5 refine ws_b rfl ?_
              exact wp_weak (wk_s (wk_s (wk_s (wk_n wk_0)))) h
            · replace h := h.2 q
              iterate 3 refine ws_b rfl ?_
              exact wp_ri rfl rfl rfl ⟨_, _, rfl, rfl, h⟩
        · replace h := h.2 q
          iterate 3 refine ws_b rfl ?_
          exact wp_weak (wk_s (wk_s (wk_s (wk_n wk_0)))) h
      · replace h := h.2 q
        iterate 2 refine ws_b rfl ?_
        exact wp_weak (wk_s (wk_s (wk_s (wk_n wk_0)))) h
set_option maxRecDepth 100000 in
set_option maxHeartbeats 4000000 in
theorem m_X12_isSo {G : ab_G} {fr : Bool} {tl : ab_H} {K : Int32 → ms_S → Prop} {S : ms_S} {i1 : Int32}
    (h : ∀ n0 : Nat, L_X12_isSo_2 G fr n0 tl K S i1 (nI 0)) :
    ctI G 2 M_X12_isSo fr [.ref 0, .int i1] lM S tl K := by
  refine wp_ct o_X12_isSo (Nat.le_of_ble_eq_true rfl) ?_
  replace h := h (hLy lM S tl).length
  revert h
  generalize (hLy lM S tl).length = n0
  intro h
  iterate 2 refine ws_b rfl ?_
  exact wp_weak (wk_s (wk_s (wk_s (wk_s wk_0)))) h
def L_X12_missing_37 (G : ab_G) (fr : Bool) (n0 : Nat) (tl : ab_H) (K : Int32 → ms_S → Prop) (S : ms_S) (i1 : Int32) (i2 : Int32) (i3 : Int32) (i4 : Int32) : Prop := wp G 5 M_X12_missing fr n0 (poI lM tl K) 37 [some (.ref 0), some (.int i1), some (.int i2), some (.int i3), some (.int i4), none] [] (hLy lM S tl)
def L_X12_missing_48 (G : ab_G) (fr : Bool) (n0 : Nat) (tl : ab_H) (K : Int32 → ms_S → Prop) (S : ms_S) (i1 : Int32) (i2 : Int32) (i3 : Int32) (i4 : Int32) (i5 : Int32) : Prop := wp G 5 M_X12_missing fr n0 (poI lM tl K) 48 [some (.ref 0), some (.int i1), some (.int i2), some (.int i3), some (.int i4), some (.int i5)] [] (hLy lM S tl)
set_option maxRecDepth 100000 in
set_option maxHeartbeats 4000000 in
theorem b_X12_missing_37 {G : ab_G} {fr : Bool} {n0 : Nat} {tl : ab_H} {K : Int32 → ms_S → Prop} {S : ms_S} {i1 : Int32} {i2 : Int32} {i3 : Int32} {i4 : Int32}
    (h : ((nI 7) ≤ i4 → ((i1 = 0 → (K i2 S)) ∧ (¬ i1 = 0 → (K i3 S)))) ∧ (¬ (nI 7) ≤ i4 → (L_X12_missing_48 G fr n0 tl K S i1 i2 i3 i4 i4))) :
    L_X12_missing_37 G fr n0 tl K S i1 i2 i3 i4 := by
  unfold L_X12_missing_37
  iterate 3 refine ws_b rfl ?_
  refine wp_ite (fun q => ?_) (fun q => ?_)
  · replace h := h.1 q
    iterate 2 refine ws_b rfl ?_
    refine wp_ite (fun q => ?_) (fun q => ?_)
    · replace h := h.1 q
      iterate 2 refine ws_b rfl ?_
      exact wp_ri rfl rfl rfl ⟨_, _, rfl, rfl, h⟩
    · replace h := h.2 q
      refine ws_b rfl ?_
      exact wp_ri rfl rfl rfl ⟨_, _, rfl, rfl, h⟩
  · replace h := h.2 q
    iterate 2 refine ws_b rfl ?_
    exact wp_weak (wk_s (wk_s (wk_s (wk_s (wk_s (wk_s wk_0)))))) h
set_option maxRecDepth 100000 in
set_option maxHeartbeats 4000000 in
theorem b_X12_missing_48 {G : ab_G} {fr : Bool} {n0 : Nat} {tl : ab_H} {K : Int32 → ms_S → Prop} {S : ms_S} {i1 : Int32} {i2 : Int32} {i3 : Int32} {i4 : Int32} {i5 : Int32}
    (h : ((nI 7) ≤ i5 → (L_X12_missing_37 G fr n0 tl K S i1 i2 i3 (i4 + nI 1))) ∧ (¬ (nI 7) ≤ i5 → (ctI G 3 M_X12_isNoted fr [.ref 0, .int i4, .int i5] lM S tl (fun v1 S1 => (v1 = 0 → (L_X12_missing_48 G fr n0 tl K S1 i1 i2 i3 i4 (i5 + nI 1))) ∧ (¬ v1 = 0 → ((0 ≤ i3 → (L_X12_missing_48 G fr n0 tl K S1 i1 (i2 + nI 1) i3 i4 (i5 + nI 1))) ∧ (¬ 0 ≤ i3 → (L_X12_missing_48 G fr n0 tl K S1 i1 (i2 + nI 1) (((nI 10) * i4) + i5) i4 (i5 + nI 1))))))))) :
    L_X12_missing_48 G fr n0 tl K S i1 i2 i3 i4 i5 := by
  unfold L_X12_missing_48
  iterate 3 refine ws_b rfl ?_
  refine wp_ite (fun q => ?_) (fun q => ?_)
  · replace h := h.1 q
    iterate 2 refine ws_b rfl ?_
    exact wp_weak (wk_s (wk_s (wk_s (wk_s (wk_s (wk_n wk_0)))))) h
  · replace h := h.2 q
    iterate 3 refine ws_b rfl ?_
    refine wp_cV rfl rfl o_X12_isNoted v_X12_isNoted h rfl rfl rfl (Nat.le_of_ble_eq_true rfl) (by decide) ?_
    clear h
    rintro r9 h9 ⟨v1, S1, rfl, rfl, h⟩
    refine ws_b rfl ?_
    refine wp_ite (fun q => ?_) (fun q => ?_)
    · replace h := h.1 q
      iterate 3 refine ws_b rfl ?_
      exact wp_weak (wk_s (wk_s (wk_s (wk_s (wk_s (wk_s wk_0)))))) h
    · replace h := h.2 q
      iterate 3 refine ws_b rfl ?_
      refine wp_ite (fun q => ?_) (fun q => ?_)
      · replace h := h.1 q
        iterate 4 refine ws_b rfl ?_
        exact wp_weak (wk_s (wk_s (wk_s (wk_s (wk_s (wk_s wk_0)))))) h
      · replace h := h.2 q
        iterate 9 refine ws_b rfl ?_
        exact wp_weak (wk_s (wk_s (wk_s (wk_s (wk_s (wk_s wk_0)))))) h
set_option maxRecDepth 100000 in
set_option maxHeartbeats 4000000 in
theorem m_X12_missing {G : ab_G} {fr : Bool} {tl : ab_H} {K : Int32 → ms_S → Prop} {S : ms_S} {i1 : Int32}
    (h : ∀ n0 : Nat, ctI G 1 M_X12_isIn fr [.int i1, .int (nI 0), .int (nI 1)] lM (sV S 2 (nI 0)) tl (fun v1 S1 => (v1 = 0 → (K (-(nI 1)) S1)) ∧ (¬ v1 = 0 → (ctU G 1 M_X12_plainTried fr [.ref 0] lM S1 tl (fun S2 => ctU G 4 M_X12_layJoins fr [.ref 0, .int (nI 0)] lM S2 tl (fun S3 => ctU G 2 M_X12_layCounts fr [.ref 0] lM S3 tl (fun S4 => L_X12_missing_37 G fr n0 tl K S4 i1 (nI 0) (-(nI 2)) (nI 0)))))))) :
    ctI G 5 M_X12_missing fr [.ref 0, .int i1] lM S tl K := by
  refine wp_ct o_X12_missing (Nat.le_of_ble_eq_true rfl) ?_
  replace h := h (hLy lM S tl).length
  revert h
  generalize (hLy lM S tl).length = n0
  intro h
  iterate 6 refine ws_b rfl ?_
  refine wp_cS rfl rfl o_X12_isIn s_X12_isIn h rfl rfl (Nat.le_of_ble_eq_true rfl) (by decide) ?_
  clear h
  rintro r9 h9 ⟨v1, S1, rfl, rfl, h⟩
  refine ws_b rfl ?_
  refine wp_ite (fun q => ?_) (fun q => ?_)
  · replace h := h.1 q
    refine ws_b rfl ?_
    exact wp_ri rfl rfl rfl ⟨_, _, rfl, rfl, h⟩
  · replace h := h.2 q
    refine ws_b rfl ?_
    refine wp_cV rfl rfl o_X12_plainTried v_X12_plainTried h rfl rfl rfl (Nat.le_of_ble_eq_true rfl) (by decide) ?_
    clear h
    rintro r9 h9 ⟨S2, rfl, rfl, h⟩
    iterate 2 refine ws_b rfl ?_
    refine wp_cV rfl rfl o_X12_layJoins v_X12_layJoins h rfl rfl rfl (Nat.le_of_ble_eq_true rfl) (by decide) ?_
    clear h
    rintro r9 h9 ⟨S3, rfl, rfl, h⟩
    refine ws_b rfl ?_
    refine wp_cV rfl rfl o_X12_layCounts v_X12_layCounts h rfl rfl rfl (Nat.le_of_ble_eq_true rfl) (by decide) ?_
    clear h
    rintro r9 h9 ⟨S4, rfl, rfl, h⟩
    iterate 6 refine ws_b rfl ?_
    exact wp_weak (wk_s (wk_s (wk_s (wk_s (wk_s (wk_s wk_0)))))) h
def L_X12_ask_36 (G : ab_G) (fr : Bool) (n0 : Nat) (tl : ab_H) (K : Int32 → ms_S → Prop) (S : ms_S) (i1 : Int32) (i2 : Int32) (i3 : Int32) (i4 : Int32) : Prop := wp G 5 M_X12_ask fr n0 (poI lM tl K) 36 [some (.ref 0), some (.int i1), some (.int i2), some (.int i3), some (.int i4), none, none, none, none] [] (hLy lM S tl)
def L_X12_ask_52 (G : ab_G) (fr : Bool) (n0 : Nat) (tl : ab_H) (K : Int32 → ms_S → Prop) (S : ms_S) (i1 : Int32) (i2 : Int32) (i3 : Int32) (i4 : Int32) (i5 : Int32) (i6 : Int32) (i7 : Int32) : Prop := wp G 5 M_X12_ask fr n0 (poI lM tl K) 52 [some (.ref 0), some (.int i1), some (.int i2), some (.int i3), some (.int i4), some (.int i5), some (.int i6), some (.int i7), none] [] (hLy lM S tl)
def L_X12_ask_63 (G : ab_G) (fr : Bool) (n0 : Nat) (tl : ab_H) (K : Int32 → ms_S → Prop) (S : ms_S) (i1 : Int32) (i2 : Int32) (i3 : Int32) (i4 : Int32) (i5 : Int32) (i6 : Int32) (i7 : Int32) (i8 : Int32) : Prop := wp G 5 M_X12_ask fr n0 (poI lM tl K) 63 [some (.ref 0), some (.int i1), some (.int i2), some (.int i3), some (.int i4), some (.int i5), some (.int i6), some (.int i7), some (.int i8)] [] (hLy lM S tl)
set_option maxRecDepth 100000 in
set_option maxHeartbeats 4000000 in
theorem b_X12_ask_36 {G : ab_G} {fr : Bool} {n0 : Nat} {tl : ab_H} {K : Int32 → ms_S → Prop} {S : ms_S} {i1 : Int32} {i2 : Int32} {i3 : Int32} {i4 : Int32}
    (h : ((nI 7) ≤ i4 → ((i1 = 0 → (K i2 S)) ∧ (¬ i1 = 0 → (K i3 S)))) ∧ (¬ (nI 7) ≤ i4 → (L_X12_ask_52 G fr n0 tl K S i1 i2 i3 i4 (nI 0) (nI 0) (nI 0)))) :
    L_X12_ask_36 G fr n0 tl K S i1 i2 i3 i4 := by
  unfold L_X12_ask_36
  iterate 3 refine ws_b rfl ?_
  refine wp_ite (fun q => ?_) (fun q => ?_)
  · replace h := h.1 q
    iterate 2 refine ws_b rfl ?_
    refine wp_ite (fun q => ?_) (fun q => ?_)
    · replace h := h.1 q
      iterate 2 refine ws_b rfl ?_
      exact wp_ri rfl rfl rfl ⟨_, _, rfl, rfl, h⟩
    · replace h := h.2 q
      refine ws_b rfl ?_
      exact wp_ri rfl rfl rfl ⟨_, _, rfl, rfl, h⟩
  · replace h := h.2 q
    iterate 6 refine ws_b rfl ?_
    exact wp_weak (wk_s (wk_s (wk_s (wk_s (wk_s (wk_s (wk_s (wk_s (wk_s wk_0))))))))) h
set_option maxRecDepth 100000 in
set_option maxHeartbeats 4000000 in
theorem b_X12_ask_52 {G : ab_G} {fr : Bool} {n0 : Nat} {tl : ab_H} {K : Int32 → ms_S → Prop} {S : ms_S} {i1 : Int32} {i2 : Int32} {i3 : Int32} {i4 : Int32} {i5 : Int32} {i6 : Int32} {i7 : Int32}
    (h : ((nI 7) ≤ i7 → ((i5 ≤ (i6 - i5) → ((i2 < 0 → (L_X12_ask_36 G fr n0 tl K S i1 i4 (i6 - i5) (i4 + nI 1))) ∧ (¬ i2 < 0 → (((i6 - i5) < i3 → (L_X12_ask_36 G fr n0 tl K S i1 i4 (i6 - i5) (i4 + nI 1))) ∧ (¬ (i6 - i5) < i3 → (L_X12_ask_36 G fr n0 tl K S i1 i2 i3 (i4 + nI 1))))))) ∧ (¬ i5 ≤ (i6 - i5) → ((i2 < 0 → (L_X12_ask_36 G fr n0 tl K S i1 i4 i5 (i4 + nI 1))) ∧ (¬ i2 < 0 → ((i5 < i3 → (L_X12_ask_36 G fr n0 tl K S i1 i4 i5 (i4 + nI 1))) ∧ (¬ i5 < i3 → (L_X12_ask_36 G fr n0 tl K S i1 i2 i3 (i4 + nI 1))))))))) ∧ (¬ (nI 7) ≤ i7 → (L_X12_ask_63 G fr n0 tl K S i1 i2 i3 i4 i5 i6 i7 i7))) :
    L_X12_ask_52 G fr n0 tl K S i1 i2 i3 i4 i5 i6 i7 := by
  unfold L_X12_ask_52
  iterate 3 refine ws_b rfl ?_
  refine wp_ite (fun q => ?_) (fun q => ?_)
  · replace h := h.1 q
    iterate 5 refine ws_b rfl ?_
    refine wp_ite (fun q => ?_) (fun q => ?_)
    · replace h := h.1 q
      iterate 6 refine ws_b rfl ?_
      refine wp_ite (fun q => ?_) (fun q => ?_)
      · replace h := h.1 q
        iterate 6 refine ws_b rfl ?_
        exact wp_weak (wk_s (wk_s (wk_s (wk_s (wk_s (wk_n (wk_n (wk_n (wk_s wk_0))))))))) h
      · replace h := h.2 q
        iterate 3 refine ws_b rfl ?_
        refine wp_ite (fun q => ?_) (fun q => ?_)
        · replace h := h.1 q
          iterate 6 refine ws_b rfl ?_
          exact wp_weak (wk_s (wk_s (wk_s (wk_s (wk_s (wk_n (wk_n (wk_n (wk_s wk_0))))))))) h
        · replace h := h.2 q
          iterate 3 refine ws_b rfl ?_
          exact wp_weak (wk_s (wk_s (wk_s (wk_s (wk_s (wk_n (wk_n (wk_n (wk_s wk_0))))))))) h
    · replace h := h.2 q
      iterate 5 refine ws_b rfl ?_
      refine wp_ite (fun q => ?_) (fun q => ?_)
      · replace h := h.1 q
        iterate 6 refine ws_b rfl ?_
        exact wp_weak (wk_s (wk_s (wk_s (wk_s (wk_s (wk_n (wk_n (wk_n (wk_s wk_0))))))))) h
      · replace h := h.2 q
        iterate 3 refine ws_b rfl ?_
        refine wp_ite (fun q => ?_) (fun q => ?_)
        · replace h := h.1 q
          iterate 6 refine ws_b rfl ?_
          exact wp_weak (wk_s (wk_s (wk_s (wk_s (wk_s (wk_n (wk_n (wk_n (wk_s wk_0))))))))) h
        · replace h := h.2 q
          iterate 3 refine ws_b rfl ?_
          exact wp_weak (wk_s (wk_s (wk_s (wk_s (wk_s (wk_n (wk_n (wk_n (wk_s wk_0))))))))) h
  · replace h := h.2 q
    iterate 2 refine ws_b rfl ?_
    exact wp_weak (wk_s (wk_s (wk_s (wk_s (wk_s (wk_s (wk_s (wk_s (wk_s wk_0))))))))) h
set_option maxRecDepth 100000 in
set_option maxHeartbeats 4000000 in
theorem b_X12_ask_63 {G : ab_G} {fr : Bool} {n0 : Nat} {tl : ab_H} {K : Int32 → ms_S → Prop} {S : ms_S} {i1 : Int32} {i2 : Int32} {i3 : Int32} {i4 : Int32} {i5 : Int32} {i6 : Int32} {i7 : Int32} {i8 : Int32}
    (h : ((nI 7) ≤ i8 → (L_X12_ask_52 G fr n0 tl K S i1 i2 i3 i4 i5 i6 (i7 + nI 1))) ∧ (¬ (nI 7) ≤ i8 → (ctI G 3 M_X12_isNoted fr [.ref 0, .int i7, .int i8] lM S tl (fun v1 S1 => (v1 = 0 → (L_X12_ask_63 G fr n0 tl K S1 i1 i2 i3 i4 i5 i6 i7 (i8 + nI 1))) ∧ (¬ v1 = 0 → ((i7 = i4 → (L_X12_ask_63 G fr n0 tl K S1 i1 i2 i3 i4 (i5 + (nI 1)) (i6 + nI 1) i7 (i8 + nI 1))) ∧ (¬ i7 = i4 → ((i8 = i4 → (L_X12_ask_63 G fr n0 tl K S1 i1 i2 i3 i4 (i5 + (nI 1)) (i6 + nI 1) i7 (i8 + nI 1))) ∧ (¬ i8 = i4 → (L_X12_ask_63 G fr n0 tl K S1 i1 i2 i3 i4 (i5 + (nI 0)) (i6 + nI 1) i7 (i8 + nI 1))))))))))) :
    L_X12_ask_63 G fr n0 tl K S i1 i2 i3 i4 i5 i6 i7 i8 := by
  unfold L_X12_ask_63
  iterate 3 refine ws_b rfl ?_
  refine wp_ite (fun q => ?_) (fun q => ?_)
  · replace h := h.1 q
    iterate 2 refine ws_b rfl ?_
    exact wp_weak (wk_s (wk_s (wk_s (wk_s (wk_s (wk_s (wk_s (wk_s (wk_n wk_0))))))))) h
  · replace h := h.2 q
    iterate 3 refine ws_b rfl ?_
    refine wp_cV rfl rfl o_X12_isNoted v_X12_isNoted h rfl rfl rfl (Nat.le_of_ble_eq_true rfl) (by decide) ?_
    clear h
    rintro r9 h9 ⟨v1, S1, rfl, rfl, h⟩
    refine ws_b rfl ?_
    refine wp_ite (fun q => ?_) (fun q => ?_)
    · replace h := h.1 q
      iterate 3 refine ws_b rfl ?_
      exact wp_weak (wk_s (wk_s (wk_s (wk_s (wk_s (wk_s (wk_s (wk_s (wk_s wk_0))))))))) h
    · replace h := h.2 q
      iterate 5 refine ws_b rfl ?_
      refine wp_ite (fun q => ?_) (fun q => ?_)
      · replace h := h.1 q
        iterate 6 refine ws_b rfl ?_
        exact wp_weak (wk_s (wk_s (wk_s (wk_s (wk_s (wk_s (wk_s (wk_s (wk_s wk_0))))))))) h
      · replace h := h.2 q
        iterate 3 refine ws_b rfl ?_
        refine wp_ite (fun q => ?_) (fun q => ?_)
        · replace h := h.1 q
          iterate 6 refine ws_b rfl ?_
          exact wp_weak (wk_s (wk_s (wk_s (wk_s (wk_s (wk_s (wk_s (wk_s (wk_s wk_0))))))))) h
        · replace h := h.2 q
          iterate 5 refine ws_b rfl ?_
          exact wp_weak (wk_s (wk_s (wk_s (wk_s (wk_s (wk_s (wk_s (wk_s (wk_s wk_0))))))))) h
set_option maxRecDepth 100000 in
set_option maxHeartbeats 4000000 in
theorem m_X12_ask {G : ab_G} {fr : Bool} {tl : ab_H} {K : Int32 → ms_S → Prop} {S : ms_S} {i1 : Int32}
    (h : ∀ n0 : Nat, ctI G 1 M_X12_isIn fr [.int i1, .int (nI 0), .int (nI 1)] lM (sV S 2 (nI 0)) tl (fun v1 S1 => (v1 = 0 → (K (-(nI 1)) S1)) ∧ (¬ v1 = 0 → (ctU G 1 M_X12_plainTried fr [.ref 0] lM S1 tl (fun S2 => ctU G 4 M_X12_layJoins fr [.ref 0, .int (nI 0)] lM S2 tl (fun S3 => ctU G 2 M_X12_layCounts fr [.ref 0] lM S3 tl (fun S4 => L_X12_ask_36 G fr n0 tl K S4 i1 (-(nI 1)) (nI 0) (nI 0)))))))) :
    ctI G 5 M_X12_ask fr [.ref 0, .int i1] lM S tl K := by
  refine wp_ct o_X12_ask (Nat.le_of_ble_eq_true rfl) ?_
  replace h := h (hLy lM S tl).length
  revert h
  generalize (hLy lM S tl).length = n0
  intro h
  iterate 6 refine ws_b rfl ?_
  refine wp_cS rfl rfl o_X12_isIn s_X12_isIn h rfl rfl (Nat.le_of_ble_eq_true rfl) (by decide) ?_
  clear h
  rintro r9 h9 ⟨v1, S1, rfl, rfl, h⟩
  refine ws_b rfl ?_
  refine wp_ite (fun q => ?_) (fun q => ?_)
  · replace h := h.1 q
    refine ws_b rfl ?_
    exact wp_ri rfl rfl rfl ⟨_, _, rfl, rfl, h⟩
  · replace h := h.2 q
    refine ws_b rfl ?_
    refine wp_cV rfl rfl o_X12_plainTried v_X12_plainTried h rfl rfl rfl (Nat.le_of_ble_eq_true rfl) (by decide) ?_
    clear h
    rintro r9 h9 ⟨S2, rfl, rfl, h⟩
    iterate 2 refine ws_b rfl ?_
    refine wp_cV rfl rfl o_X12_layJoins v_X12_layJoins h rfl rfl rfl (Nat.le_of_ble_eq_true rfl) (by decide) ?_
    clear h
    rintro r9 h9 ⟨S3, rfl, rfl, h⟩
    refine ws_b rfl ?_
    refine wp_cV rfl rfl o_X12_layCounts v_X12_layCounts h rfl rfl rfl (Nat.le_of_ble_eq_true rfl) (by decide) ?_
    clear h
    rintro r9 h9 ⟨S4, rfl, rfl, h⟩
    iterate 6 refine ws_b rfl ?_
    exact wp_weak (wk_s (wk_s (wk_s (wk_s (wk_s (wk_s (wk_s (wk_s (wk_s wk_0))))))))) h
def L_X12_fits_16 (G : ab_G) (fr : Bool) (n0 : Nat) (tl : ab_H) (K : Int32 → ms_S → Prop) (S : ms_S) (i2 : Int32) : Prop := wp G 8 M_X12_fits fr n0 (poI lM tl K) 16 [some (.ref 0), none, some (.int i2)] [] (hLy lM S tl)
set_option maxRecDepth 100000 in
set_option maxHeartbeats 4000000 in
theorem b_X12_fits_16 {G : ab_G} {fr : Bool} {n0 : Nat} {tl : ab_H} {K : Int32 → ms_S → Prop} {S : ms_S} {i2 : Int32}
    (h : ((nI 60) < i2 → (K (nI 1) S)) ∧ (¬ (nI 60) < i2 → (ctU G 7 M_X12_dayGoes fr [.ref 0, .int (nI 1)] lM S tl (fun S1 => ctI G 2 M_X12_isSo fr [.ref 0, .int i2] lM S1 tl (fun v2 S2 => (v2 = 0 → (K (nI 0) S2)) ∧ (¬ v2 = 0 → (L_X12_fits_16 G fr n0 tl K S2 (i2 + nI 1)))))))) :
    L_X12_fits_16 G fr n0 tl K S i2 := by
  unfold L_X12_fits_16
  iterate 3 refine ws_b rfl ?_
  refine wp_ite (fun q => ?_) (fun q => ?_)
  · replace h := h.1 q
    refine ws_b rfl ?_
    exact wp_ri rfl rfl rfl ⟨_, _, rfl, rfl, h⟩
  · replace h := h.2 q
    iterate 2 refine ws_b rfl ?_
    refine wp_cV rfl rfl o_X12_dayGoes v_X12_dayGoes h rfl rfl rfl (Nat.le_of_ble_eq_true rfl) (by decide) ?_
    clear h
    rintro r9 h9 ⟨S1, rfl, rfl, h⟩
    iterate 2 refine ws_b rfl ?_
    refine wp_cV rfl rfl o_X12_isSo v_X12_isSo h rfl rfl rfl (Nat.le_of_ble_eq_true rfl) (by decide) ?_
    clear h
    rintro r9 h9 ⟨v2, S2, rfl, rfl, h⟩
    refine ws_b rfl ?_
    refine wp_ite (fun q => ?_) (fun q => ?_)
    · replace h := h.1 q
      refine ws_b rfl ?_
      exact wp_ri rfl rfl rfl ⟨_, _, rfl, rfl, h⟩
    · replace h := h.2 q
      iterate 2 refine ws_b rfl ?_
      exact wp_weak (wk_s (wk_s (wk_s wk_0))) h
set_option maxRecDepth 100000 in
set_option maxHeartbeats 4000000 in
theorem m_X12_fits {G : ab_G} {fr : Bool} {tl : ab_H} {K : Int32 → ms_S → Prop} {S : ms_S} {i1 : Int32}
    (h : ∀ n0 : Nat, ctU G 1 M_X12_atFirst fr [.ref 0, .int (nI 1)] lM S tl (fun S1 => ctU G 1 M_X12_plainTried fr [.ref 0] lM S1 tl (fun S2 => L_X12_fits_16 G fr n0 tl K (sV S2 63 i1) (nI 1)))) :
    ctI G 8 M_X12_fits fr [.ref 0, .int i1] lM S tl K := by
  refine wp_ct o_X12_fits (Nat.le_of_ble_eq_true rfl) ?_
  replace h := h (hLy lM S tl).length
  revert h
  generalize (hLy lM S tl).length = n0
  intro h
  iterate 2 refine ws_b rfl ?_
  refine wp_cV rfl rfl o_X12_atFirst v_X12_atFirst h rfl rfl rfl (Nat.le_of_ble_eq_true rfl) (by decide) ?_
  clear h
  rintro r9 h9 ⟨S1, rfl, rfl, h⟩
  refine ws_b rfl ?_
  refine wp_cV rfl rfl o_X12_plainTried v_X12_plainTried h rfl rfl rfl (Nat.le_of_ble_eq_true rfl) (by decide) ?_
  clear h
  rintro r9 h9 ⟨S2, rfl, rfl, h⟩
  iterate 5 refine ws_b rfl ?_
  exact wp_weak (wk_s (wk_n (wk_s wk_0))) h
def L_X12_needs_13 (G : ab_G) (fr : Bool) (n0 : Nat) (tl : ab_H) (K : Int32 → ms_S → Prop) (S : ms_S) (i1 : Int32) (i2 : Int32) : Prop := wp G 9 M_X12_needs fr n0 (poI lM tl K) 13 [some (.ref 0), some (.int i1), some (.int i2)] [] (hLy lM S tl)
set_option maxRecDepth 100000 in
set_option maxHeartbeats 4000000 in
theorem b_X12_needs_13 {G : ab_G} {fr : Bool} {n0 : Nat} {tl : ab_H} {K : Int32 → ms_S → Prop} {S : ms_S} {i1 : Int32} {i2 : Int32}
    (h : ((nI 10) ≤ i2 → (ctU G 1 M_X12_plainTried fr [.ref 0] lM S tl (fun S1 => K i1 S1))) ∧ (¬ (nI 10) ≤ i2 → (ctI G 8 M_X12_fits fr [.ref 0, .int i2] lM S tl (fun v2 S2 => (v2 = 0 → (L_X12_needs_13 G fr n0 tl K S2 (i1 ||| (nI 0)) (i2 + nI 1))) ∧ (¬ v2 = 0 → (L_X12_needs_13 G fr n0 tl K S2 (i1 ||| ((nI 1) <<< ((i2 - (nI 1)) &&& 31))) (i2 + nI 1))))))) :
    L_X12_needs_13 G fr n0 tl K S i1 i2 := by
  unfold L_X12_needs_13
  iterate 3 refine ws_b rfl ?_
  refine wp_ite (fun q => ?_) (fun q => ?_)
  · replace h := h.1 q
    refine ws_b rfl ?_
    refine wp_cV rfl rfl o_X12_plainTried v_X12_plainTried h rfl rfl rfl (Nat.le_of_ble_eq_true rfl) (by decide) ?_
    clear h
    rintro r9 h9 ⟨S1, rfl, rfl, h⟩
    refine ws_b rfl ?_
    exact wp_ri rfl rfl rfl ⟨_, _, rfl, rfl, h⟩
  · replace h := h.2 q
    iterate 3 refine ws_b rfl ?_
    refine wp_cV rfl rfl o_X12_fits v_X12_fits h rfl rfl rfl (Nat.le_of_ble_eq_true rfl) (by decide) ?_
    clear h
    rintro r9 h9 ⟨v2, S2, rfl, rfl, h⟩
    refine ws_b rfl ?_
    refine wp_ite (fun q => ?_) (fun q => ?_)
    · replace h := h.1 q
      iterate 5 refine ws_b rfl ?_
      exact wp_weak (wk_s (wk_s (wk_s wk_0))) h
    · replace h := h.2 q
      iterate 10 refine ws_b rfl ?_
      exact wp_weak (wk_s (wk_s (wk_s wk_0))) h
set_option maxRecDepth 100000 in
set_option maxHeartbeats 4000000 in
theorem m_X12_needs {G : ab_G} {fr : Bool} {tl : ab_H} {K : Int32 → ms_S → Prop} {S : ms_S} 
    (h : ∀ n0 : Nat, ctU G 2 M_X12_layCounts fr [.ref 0] lM (sV S 2 (nI 0)) tl (fun S1 => L_X12_needs_13 G fr n0 tl K S1 (nI 0) (nI 1))) :
    ctI G 9 M_X12_needs fr [.ref 0] lM S tl K := by
  refine wp_ct o_X12_needs (Nat.le_of_ble_eq_true rfl) ?_
  replace h := h (hLy lM S tl).length
  revert h
  generalize (hLy lM S tl).length = n0
  intro h
  iterate 4 refine ws_b rfl ?_
  refine wp_cV rfl rfl o_X12_layCounts v_X12_layCounts h rfl rfl rfl (Nat.le_of_ble_eq_true rfl) (by decide) ?_
  clear h
  rintro r9 h9 ⟨S1, rfl, rfl, h⟩
  iterate 4 refine ws_b rfl ?_
  exact wp_weak (wk_s (wk_s (wk_s wk_0))) h
set_option maxRecDepth 100000 in
set_option maxHeartbeats 4000000 in
theorem m_X12_count {G : ab_G} {fr : Bool} {tl : ab_H} {K : Int32 → ms_S → Prop} {S : ms_S} {i1 : Int32}
    (h : ∀ n0 : Nat, (i1 = nI 0 → (K (S.1 0 12) (sV S 2 (nI 0)))) ∧ (i1 = nI 1 → (K (S.1 0 13) (sV S 2 (nI 0)))) ∧ (i1 = nI 2 → (K (S.1 0 16) (sV S 2 (nI 0)))) ∧ (i1 = nI 3 → (vp_in (nI 0) 2 ∧ (K (S.2.2.2.1 30 ((nI 0).toNatClampNeg)) (sV S 2 (nI 0))))) ∧ (i1 = nI 4 → (ctI G 1 M_X12_heldBy fr [.ref 0, .int (nI 0), .int (-(nI 2))] lM (sV S 2 (nI 0)) tl (fun v1 S1 => ctI G 1 M_X12_manyOf fr [.int v1] lM S1 tl (fun v2 S2 => K v2 S2)))) ∧ (i1 = nI 5 → (ctI G 1 M_X12_heldBy fr [.ref 0, .int (nI 0), .int (-(nI 3))] lM (sV S 2 (nI 0)) tl (fun v3 S3 => ctI G 1 M_X12_manyOf fr [.int v3] lM S3 tl (fun v4 S4 => K v4 S4)))) ∧ (i1 = nI 6 → (ctI G 1 M_X12_goldAll fr [.ref 0, .int (nI 0)] lM (sV S 2 (nI 0)) tl (fun v5 S5 => K v5 S5))) ∧ (i1 = nI 7 → (ctI G 1 M_X12_laidAll fr [.ref 0, .int (nI 0)] lM (sV S 2 (nI 0)) tl (fun v6 S6 => K v6 S6))) ∧ (i1 = nI 8 → (vp_in (nI 0) 2 ∧ (K (S.2.2.2.1 29 ((nI 0).toNatClampNeg)) (sV S 2 (nI 0))))) ∧ (i1 = nI 9 → (K (S.1 0 75) (sV S 2 (nI 0)))) ∧ (i1 = nI 10 → (ctI G 1 M_X12_knownBy fr [.ref 0] lM (sV S 2 (nI 0)) tl (fun v7 S7 => K v7 S7))) ∧ (i1 = nI 11 → (K (S.1 0 79) (sV S 2 (nI 0)))) ∧ (¬ i1 = nI 0 → ¬ i1 = nI 1 → ¬ i1 = nI 2 → ¬ i1 = nI 3 → ¬ i1 = nI 4 → ¬ i1 = nI 5 → ¬ i1 = nI 6 → ¬ i1 = nI 7 → ¬ i1 = nI 8 → ¬ i1 = nI 9 → ¬ i1 = nI 10 → ¬ i1 = nI 11 → (K (-(nI 1)) (sV S 2 (nI 0))))) :
    ctI G 2 M_X12_count fr [.ref 0, .int i1] lM S tl K := by
  refine wp_ct o_X12_count (Nat.le_of_ble_eq_true rfl) ?_
  replace h := h (hLy lM S tl).length
  revert h
  generalize (hLy lM S tl).length = n0
  intro h
  iterate 4 refine ws_b rfl ?_
  by_cases q0 : i1 = nI 0
  · refine wp_tswN (nI 0) 68 (62) rfl q0 rfl rfl rfl rfl ?_
    replace h := h.1 q0
    iterate 2 refine ws_b rfl ?_
    exact wp_ri rfl rfl rfl ⟨_, _, rfl, rfl, h⟩
  replace h := h.2
  by_cases q1 : i1 = nI 1
  · refine wp_tswN (nI 1) 73 (67) rfl q1 rfl rfl rfl rfl ?_
    replace h := h.1 q1
    iterate 2 refine ws_b rfl ?_
    exact wp_ri rfl rfl rfl ⟨_, _, rfl, rfl, h⟩
  replace h := h.2
  by_cases q2 : i1 = nI 2
  · refine wp_tswN (nI 2) 78 (72) rfl q2 rfl rfl rfl rfl ?_
    replace h := h.1 q2
    iterate 2 refine ws_b rfl ?_
    exact wp_ri rfl rfl rfl ⟨_, _, rfl, rfl, h⟩
  replace h := h.2
  by_cases q3 : i1 = nI 3
  · refine wp_tswN (nI 3) 83 (77) rfl q3 rfl rfl rfl rfl ?_
    replace h := h.1 q3
    iterate 3 refine ws_b rfl ?_
    refine ws_g rfl h.1 ?_
    replace h := h.2
    exact wp_ri rfl rfl rfl ⟨_, _, rfl, rfl, h⟩
  replace h := h.2
  by_cases q4 : i1 = nI 4
  · refine wp_tswN (nI 4) 90 (84) rfl q4 rfl rfl rfl rfl ?_
    replace h := h.1 q4
    iterate 3 refine ws_b rfl ?_
    refine wp_cV rfl rfl o_X12_heldBy v_X12_heldBy h rfl rfl rfl (Nat.le_of_ble_eq_true rfl) (by decide) ?_
    clear h
    rintro r9 h9 ⟨v1, S1, rfl, rfl, h⟩
    refine wp_cS rfl rfl o_X12_manyOf s_X12_manyOf h rfl rfl (Nat.le_of_ble_eq_true rfl) (by decide) ?_
    clear h
    rintro r9 h9 ⟨v2, S2, rfl, rfl, h⟩
    exact wp_ri rfl rfl rfl ⟨_, _, rfl, rfl, h⟩
  replace h := h.2
  by_cases q5 : i1 = nI 5
  · refine wp_tswN (nI 5) 101 (95) rfl q5 rfl rfl rfl rfl ?_
    replace h := h.1 q5
    iterate 3 refine ws_b rfl ?_
    refine wp_cV rfl rfl o_X12_heldBy v_X12_heldBy h rfl rfl rfl (Nat.le_of_ble_eq_true rfl) (by decide) ?_
    clear h
    rintro r9 h9 ⟨v3, S3, rfl, rfl, h⟩
    refine wp_cS rfl rfl o_X12_manyOf s_X12_manyOf h rfl rfl (Nat.le_of_ble_eq_true rfl) (by decide) ?_
    clear h
    rintro r9 h9 ⟨v4, S4, rfl, rfl, h⟩
    exact wp_ri rfl rfl rfl ⟨_, _, rfl, rfl, h⟩
  replace h := h.2
  by_cases q6 : i1 = nI 6
  · refine wp_tswN (nI 6) 112 (106) rfl q6 rfl rfl rfl rfl ?_
    replace h := h.1 q6
    iterate 2 refine ws_b rfl ?_
    refine wp_cV rfl rfl o_X12_goldAll v_X12_goldAll h rfl rfl rfl (Nat.le_of_ble_eq_true rfl) (by decide) ?_
    clear h
    rintro r9 h9 ⟨v5, S5, rfl, rfl, h⟩
    exact wp_ri rfl rfl rfl ⟨_, _, rfl, rfl, h⟩
  replace h := h.2
  by_cases q7 : i1 = nI 7
  · refine wp_tswN (nI 7) 118 (112) rfl q7 rfl rfl rfl rfl ?_
    replace h := h.1 q7
    iterate 2 refine ws_b rfl ?_
    refine wp_cV rfl rfl o_X12_laidAll v_X12_laidAll h rfl rfl rfl (Nat.le_of_ble_eq_true rfl) (by decide) ?_
    clear h
    rintro r9 h9 ⟨v6, S6, rfl, rfl, h⟩
    exact wp_ri rfl rfl rfl ⟨_, _, rfl, rfl, h⟩
  replace h := h.2
  by_cases q8 : i1 = nI 8
  · refine wp_tswN (nI 8) 124 (118) rfl q8 rfl rfl rfl rfl ?_
    replace h := h.1 q8
    iterate 3 refine ws_b rfl ?_
    refine ws_g rfl h.1 ?_
    replace h := h.2
    exact wp_ri rfl rfl rfl ⟨_, _, rfl, rfl, h⟩
  replace h := h.2
  by_cases q9 : i1 = nI 9
  · refine wp_tswN (nI 9) 131 (125) rfl q9 rfl rfl rfl rfl ?_
    replace h := h.1 q9
    iterate 2 refine ws_b rfl ?_
    exact wp_ri rfl rfl rfl ⟨_, _, rfl, rfl, h⟩
  replace h := h.2
  by_cases q10 : i1 = nI 10
  · refine wp_tswN (nI 10) 136 (130) rfl q10 rfl rfl rfl rfl ?_
    replace h := h.1 q10
    refine ws_b rfl ?_
    refine wp_cV rfl rfl o_X12_knownBy v_X12_knownBy h rfl rfl rfl (Nat.le_of_ble_eq_true rfl) (by decide) ?_
    clear h
    rintro r9 h9 ⟨v7, S7, rfl, rfl, h⟩
    exact wp_ri rfl rfl rfl ⟨_, _, rfl, rfl, h⟩
  replace h := h.2
  by_cases q11 : i1 = nI 11
  · refine wp_tswN (nI 11) 141 (135) rfl q11 rfl rfl rfl rfl ?_
    replace h := h.1 q11
    iterate 2 refine ws_b rfl ?_
    exact wp_ri rfl rfl rfl ⟨_, _, rfl, rfl, h⟩
  replace h := h.2
  refine wp_tswD 146 [nI 0, nI 1, nI 2, nI 3, nI 4, nI 5, nI 6, nI 7, nI 8, nI 9, nI 10, nI 11] rfl (by decide) (by intro k9 hk9; rcases List.mem_cons.mp hk9 with rfl | hk9; exact q0; rcases List.mem_cons.mp hk9 with rfl | hk9; exact q1; rcases List.mem_cons.mp hk9 with rfl | hk9; exact q2; rcases List.mem_cons.mp hk9 with rfl | hk9; exact q3; rcases List.mem_cons.mp hk9 with rfl | hk9; exact q4; rcases List.mem_cons.mp hk9 with rfl | hk9; exact q5; rcases List.mem_cons.mp hk9 with rfl | hk9; exact q6; rcases List.mem_cons.mp hk9 with rfl | hk9; exact q7; rcases List.mem_cons.mp hk9 with rfl | hk9; exact q8; rcases List.mem_cons.mp hk9 with rfl | hk9; exact q9; rcases List.mem_cons.mp hk9 with rfl | hk9; exact q10; rcases List.mem_cons.mp hk9 with rfl | hk9; exact q11; exact nomatch hk9) rfl ?_
  replace h := h q0 q1 q2 q3 q4 q5 q6 q7 q8 q9 q10 q11
  refine ws_b rfl ?_
  exact wp_ri rfl rfl rfl ⟨_, _, rfl, rfl, h⟩
set_option maxRecDepth 100000 in
set_option maxHeartbeats 4000000 in
theorem m_X12_fault {G : ab_G} {fr : Bool} {tl : ab_H} {K : Int32 → ms_S → Prop} {S : ms_S} {i1 : Int32}
    (h : ∀ n0 : Nat, (i1 = 0 → (K (S.1 0 4) (sV S 2 (nI 0)))) ∧ (¬ i1 = 0 → ((i1 = (nI 1) → (K (S.1 0 5) (sV S 2 (nI 0)))) ∧ (¬ i1 = (nI 1) → (K (-(nI 1)) (sV S 2 (nI 0))))))) :
    ctI G 1 M_X12_fault fr [.ref 0, .int i1] lM S tl K := by
  refine wp_ct o_X12_fault (Nat.le_of_ble_eq_true rfl) ?_
  replace h := h (hLy lM S tl).length
  revert h
  generalize (hLy lM S tl).length = n0
  intro h
  iterate 5 refine ws_b rfl ?_
  refine wp_ite (fun q => ?_) (fun q => ?_)
  · replace h := h.1 q
    iterate 3 refine ws_b rfl ?_
    exact wp_ri rfl rfl rfl ⟨_, _, rfl, rfl, h⟩
  · replace h := h.2 q
    iterate 3 refine ws_b rfl ?_
    refine wp_ite (fun q => ?_) (fun q => ?_)
    · replace h := h.1 q
      iterate 3 refine ws_b rfl ?_
      exact wp_ri rfl rfl rfl ⟨_, _, rfl, rfl, h⟩
    · replace h := h.2 q
      refine ws_b rfl ?_
      exact wp_ri rfl rfl rfl ⟨_, _, rfl, rfl, h⟩

