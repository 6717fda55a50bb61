/-! ===== the program: exchanges, deals, walks ===== -/
def L_X3_findExchanges_2 (G : ab_G) (fr : Bool) (n0 : Nat) (tl : ab_H) (K : ms_S → Prop) (S : ms_S) (i2 : Int32) (i3 : Int32) : Prop := wp G 6 M_X3_findExchanges fr n0 (poU lC tl K) 2 [some (.ref 31), some (.ref 46), some (.int i2), some (.int i3), none, none] [] (hLy lC S tl)
def L_X3_findExchanges_32 (G : ab_G) (fr : Bool) (n0 : Nat) (tl : ab_H) (K : ms_S → Prop) (S : ms_S) (i2 : Int32) (i3 : Int32) (i4 : Int32) : Prop := wp G 6 M_X3_findExchanges fr n0 (poU lC tl K) 32 [some (.ref 31), some (.ref 46), some (.int i2), some (.int i3), some (.int i4), none] [] (hLy lC S tl)
def L_X3_findExchanges_98 (G : ab_G) (fr : Bool) (n0 : Nat) (tl : ab_H) (K : ms_S → Prop) (S : ms_S) (i2 : Int32) (i3 : Int32) (i4 : Int32) : Prop := wp G 6 M_X3_findExchanges fr n0 (poU lC tl K) 98 [some (.ref 31), some (.ref 46), some (.int i2), some (.int i3), some (.int i4), none] [] (hLy lC S tl)
def L_X3_findExchanges_104 (G : ab_G) (fr : Bool) (n0 : Nat) (tl : ab_H) (K : ms_S → Prop) (S : ms_S) (i2 : Int32) (i3 : Int32) : Prop := wp G 6 M_X3_findExchanges fr n0 (poU lC tl K) 104 [some (.ref 31), some (.ref 46), some (.int i2), some (.int i3), none, none] [] (hLy lC S tl)
set_option maxRecDepth 100000 in
set_option maxHeartbeats 4000000 in
theorem b_X3_findExchanges_2 {G : ab_G} {fr : Bool} {n0 : Nat} {tl : ab_H} {K : ms_S → Prop} {S : ms_S} {i2 : Int32} {i3 : Int32}
    (h : ((S.1 0 12) ≤ i3 → (K S)) ∧ (¬ (S.1 0 12) ≤ i3 → (vp_in i3 9 ∧ (ctI G 1 M_X1_holderOf fr [.ref 46, .int i3] lC (sA S 34 i3.toNatClampNeg (nI 0)) tl (fun v1 S1 => (v1 = i2 → (L_X3_findExchanges_32 G fr n0 tl K S1 i2 i3 (nI 0))) ∧ (¬ v1 = i2 → (L_X3_findExchanges_104 G fr n0 tl K S1 i2 i3))))))) :
    L_X3_findExchanges_2 G fr n0 tl K S i2 i3 := by
  unfold L_X3_findExchanges_2
  iterate 5 refine ws_b rfl ?_
  refine wp_ite (fun q => ?_) (fun q => ?_)
  · replace h := h.1 q
    exact wp_rv rfl rfl ⟨_, rfl, rfl, h⟩
  · replace h := h.2 q
    iterate 4 refine ws_b rfl ?_
    refine ws_g rfl h.1 ?_
    replace h := h.2
    iterate 2 refine ws_b rfl ?_
    refine wp_cV rfl rfl o_X1_holderOf v_X1_holderOf h rfl rfl rfl (Nat.le_of_ble_eq_true rfl) (by decide) ?_
    clear h
    rintro r9 h9 ⟨v1, S1, rfl, rfl, h⟩
    iterate 2 refine ws_b rfl ?_
    refine wp_ite (fun q => ?_) (fun q => ?_)
    · replace h := h.1 q
      iterate 2 refine ws_b rfl ?_
      exact wp_weak (wk_s (wk_s (wk_s (wk_s (wk_s (wk_s wk_0)))))) h
    · replace h := h.2 q
      exact wp_weak (wk_s (wk_s (wk_s (wk_s (wk_s (wk_s wk_0)))))) h
set_option maxRecDepth 100000 in
set_option maxHeartbeats 4000000 in
theorem b_X3_findExchanges_32 {G : ab_G} {fr : Bool} {n0 : Nat} {tl : ab_H} {K : ms_S → Prop} {S : ms_S} {i2 : Int32} {i3 : Int32} {i4 : Int32}
    (h : ((S.1 0 12) ≤ i4 → (L_X3_findExchanges_104 G fr n0 tl K S i2 i3)) ∧ (¬ (S.1 0 12) ≤ i4 → (ctI G 1 M_X1_holderOf fr [.ref 46, .int i4] lC S tl (fun v1 S1 => (v1 < 0 → (L_X3_findExchanges_98 G fr n0 tl K S1 i2 i3 i4)) ∧ (¬ v1 < 0 → ((v1 = i2 → (L_X3_findExchanges_98 G fr n0 tl K S1 i2 i3 i4)) ∧ (¬ v1 = i2 → (ctI G 5 M_X3_mayHold fr [.ref 31, .ref 46, .int i4, .int i2] lC S1 tl (fun v2 S2 => (v2 = 0 → (L_X3_findExchanges_98 G fr n0 tl K S2 i2 i3 i4)) ∧ (¬ v2 = 0 → (ctI G 5 M_X3_mayHold fr [.ref 31, .ref 46, .int i3, .int v1] lC S2 tl (fun v3 S3 => (v3 = 0 → (L_X3_findExchanges_98 G fr n0 tl K S3 i2 i3 i4)) ∧ (¬ v3 = 0 → (vp_in i3 9 ∧ (vp_in i3 9 ∧ (L_X3_findExchanges_98 G fr n0 tl K (sA S3 34 i3.toNatClampNeg ((S3.2.2.2.1 34 i3.toNatClampNeg) ||| ((nI 1) <<< (i4 &&& 31)))) i2 i3 i4)))))))))))))))) :
    L_X3_findExchanges_32 G fr n0 tl K S i2 i3 i4 := by
  unfold L_X3_findExchanges_32
  iterate 5 refine ws_b rfl ?_
  refine wp_ite (fun q => ?_) (fun q => ?_)
  · replace h := h.1 q
    exact wp_weak (wk_s (wk_s (wk_s (wk_s (wk_n (wk_s wk_0)))))) h
  · replace h := h.2 q
    iterate 2 refine ws_b rfl ?_
    refine wp_cV rfl rfl o_X1_holderOf v_X1_holderOf h rfl rfl rfl (Nat.le_of_ble_eq_true rfl) (by decide) ?_
    clear h
    rintro r9 h9 ⟨v1, S1, rfl, rfl, h⟩
    iterate 3 refine ws_b rfl ?_
    refine wp_ite (fun q => ?_) (fun q => ?_)
    · replace h := h.1 q
      exact wp_weak (wk_s (wk_s (wk_s (wk_s (wk_s (wk_n wk_0)))))) h
    · replace h := h.2 q
      iterate 3 refine ws_b rfl ?_
      refine wp_ite (fun q => ?_) (fun q => ?_)
      · replace h := h.1 q
        exact wp_weak (wk_s (wk_s (wk_s (wk_s (wk_s (wk_n wk_0)))))) h
      · replace h := h.2 q
        iterate 4 refine ws_b rfl ?_
        refine wp_cV rfl rfl o_X3_mayHold v_X3_mayHold h rfl rfl rfl (Nat.le_of_ble_eq_true rfl) (by decide) ?_
        clear h
        rintro r9 h9 ⟨v2, S2, rfl, rfl, h⟩
        refine ws_b rfl ?_
        refine wp_ite (fun q => ?_) (fun q => ?_)
        · replace h := h.1 q
          exact wp_weak (wk_s (wk_s (wk_s (wk_s (wk_s (wk_n wk_0)))))) h
        · replace h := h.2 q
          iterate 4 refine ws_b rfl ?_
          refine wp_cV rfl rfl o_X3_mayHold v_X3_mayHold h rfl rfl rfl (Nat.le_of_ble_eq_true rfl) (by decide) ?_
          clear h
          rintro r9 h9 ⟨v3, S3, rfl, rfl, h⟩
          refine ws_b rfl ?_
          refine wp_ite (fun q => ?_) (fun q => ?_)
          · replace h := h.1 q
            exact wp_weak (wk_s (wk_s (wk_s (wk_s (wk_s (wk_n wk_0)))))) h
          · replace h := h.2 q
            iterate 4 refine ws_b rfl ?_
            refine ws_g rfl h.1 ?_
            replace h := h.2
            iterate 4 refine ws_b rfl ?_
            refine ws_g rfl h.1 ?_
            replace h := h.2
            exact wp_weak (wk_s (wk_s (wk_s (wk_s (wk_s (wk_n wk_0)))))) h
set_option maxRecDepth 100000 in
set_option maxHeartbeats 4000000 in
theorem b_X3_findExchanges_98 {G : ab_G} {fr : Bool} {n0 : Nat} {tl : ab_H} {K : ms_S → Prop} {S : ms_S} {i2 : Int32} {i3 : Int32} {i4 : Int32}
    (h : L_X3_findExchanges_32 G fr n0 tl K S i2 i3 (i4 + nI 1)) :
    L_X3_findExchanges_98 G fr n0 tl K S i2 i3 i4 := by
  unfold L_X3_findExchanges_98
  iterate 2 refine ws_b rfl ?_
  exact wp_weak (wk_s (wk_s (wk_s (wk_s (wk_s (wk_s wk_0)))))) h
set_option maxRecDepth 100000 in
set_option maxHeartbeats 4000000 in
theorem b_X3_findExchanges_104 {G : ab_G} {fr : Bool} {n0 : Nat} {tl : ab_H} {K : ms_S → Prop} {S : ms_S} {i2 : Int32} {i3 : Int32}
    (h : L_X3_findExchanges_2 G fr n0 tl K S i2 (i3 + nI 1)) :
    L_X3_findExchanges_104 G fr n0 tl K S i2 i3 := by
  unfold L_X3_findExchanges_104
  iterate 2 refine ws_b rfl ?_
  exact wp_weak (wk_s (wk_s (wk_s (wk_s (wk_s (wk_s wk_0)))))) h
set_option maxRecDepth 100000 in
set_option maxHeartbeats 4000000 in
theorem m_X3_findExchanges {G : ab_G} {fr : Bool} {tl : ab_H} {K : ms_S → Prop} {S : ms_S} {i2 : Int32}
    (h : ∀ n0 : Nat, L_X3_findExchanges_2 G fr n0 tl K S i2 (nI 0)) :
    ctU G 6 M_X3_findExchanges fr [.ref 31, .ref 46, .int i2] lC S tl K := by
  refine wp_ct o_X3_findExchanges (Nat.le_of_ble_eq_true rfl) ?_
  replace h := h (hLy lC S tl).length
  revert h
  generalize (hLy lC S tl).length = n0
  intro h
  iterate 2 refine ws_b rfl ?_
  exact wp_weak (wk_s (wk_s (wk_s (wk_s (wk_s (wk_s wk_0)))))) h
def L_X3_exchangeMakesRow_2 (G : ab_G) (fr : Bool) (n0 : Nat) (tl : ab_H) (K : Int32 → ms_S → Prop) (S : ms_S) (i1 : Int32) (i2 : Int32) (i3 : Int32) : Prop := wp G 5 M_X3_exchangeMakesRow fr n0 (poI lC tl K) 2 [some (.ref 31), some (.int i1), some (.int i2), some (.int i3)] [] (hLy lC S tl)
def L_X3_exchangeMakesRow_39 (G : ab_G) (fr : Bool) (n0 : Nat) (tl : ab_H) (K : Int32 → ms_S → Prop) (S : ms_S) (i1 : Int32) (i2 : Int32) (i3 : Int32) : Prop := wp G 5 M_X3_exchangeMakesRow fr n0 (poI lC tl K) 39 [some (.ref 31), some (.int i1), some (.int i2), some (.int i3)] [] (hLy lC S tl)
set_option maxRecDepth 100000 in
set_option maxHeartbeats 4000000 in
theorem b_X3_exchangeMakesRow_2 {G : ab_G} {fr : Bool} {n0 : Nat} {tl : ab_H} {K : Int32 → ms_S → Prop} {S : ms_S} {i1 : Int32} {i2 : Int32} {i3 : Int32}
    (h : ((S.1 0 12) ≤ i3 → (K (nI 0) S)) ∧ (¬ (S.1 0 12) ≤ i3 → (((((i2.toUInt32 >>> (i3.toUInt32 &&& Int32.toUInt32 31)).toInt32) &&& (nI 1)) = (nI 1) → (ctI G 4 M_X9_isRow fr [.ref 25, .int (i1 ||| ((nI 1) <<< (i3 &&& 31)))] lC S tl (fun v1 S1 => (v1 = 0 → (L_X3_exchangeMakesRow_39 G fr n0 tl K S1 i1 i2 i3)) ∧ (¬ v1 = 0 → (K (nI 1) S1))))) ∧ (¬ (((i2.toUInt32 >>> (i3.toUInt32 &&& Int32.toUInt32 31)).toInt32) &&& (nI 1)) = (nI 1) → (L_X3_exchangeMakesRow_39 G fr n0 tl K S i1 i2 i3))))) :
    L_X3_exchangeMakesRow_2 G fr n0 tl K S i1 i2 i3 := by
  unfold L_X3_exchangeMakesRow_2
  iterate 5 refine ws_b rfl ?_
  refine wp_ite (fun q => ?_) (fun q => ?_)
  · replace h := h.1 q
    refine ws_b rfl ?_
    exact wp_ri rfl rfl rfl ⟨_, _, rfl, rfl, h⟩
  · replace h := h.2 q
    iterate 7 refine ws_b rfl ?_
    refine wp_ite (fun q => ?_) (fun q => ?_)
    · replace h := h.1 q
      iterate 7 refine ws_b rfl ?_
      refine wp_cV rfl rfl o_X9_isRow v_X9_isRow h rfl rfl rfl (Nat.le_of_ble_eq_true rfl) (by decide) ?_
      clear h
      rintro r9 h9 ⟨v1, S1, rfl, rfl, h⟩
      refine ws_b rfl ?_
      refine wp_ite (fun q => ?_) (fun q => ?_)
      · replace h := h.1 q
        exact wp_weak (wk_s (wk_s (wk_s (wk_s wk_0)))) h
      · replace h := h.2 q
        refine ws_b rfl ?_
        exact wp_ri rfl rfl rfl ⟨_, _, rfl, rfl, h⟩
    · replace h := h.2 q
      exact wp_weak (wk_s (wk_s (wk_s (wk_s wk_0)))) h
set_option maxRecDepth 100000 in
set_option maxHeartbeats 4000000 in
theorem b_X3_exchangeMakesRow_39 {G : ab_G} {fr : Bool} {n0 : Nat} {tl : ab_H} {K : Int32 → ms_S → Prop} {S : ms_S} {i1 : Int32} {i2 : Int32} {i3 : Int32}
    (h : L_X3_exchangeMakesRow_2 G fr n0 tl K S i1 i2 (i3 + nI 1)) :
    L_X3_exchangeMakesRow_39 G fr n0 tl K S i1 i2 i3 := by
  unfold L_X3_exchangeMakesRow_39
  iterate 2 refine ws_b rfl ?_
  exact wp_weak (wk_s (wk_s (wk_s (wk_s wk_0)))) h
set_option maxRecDepth 100000 in
set_option maxHeartbeats 4000000 in
theorem m_X3_exchangeMakesRow {G : ab_G} {fr : Bool} {tl : ab_H} {K : Int32 → ms_S → Prop} {S : ms_S} {i1 : Int32} {i2 : Int32}
    (h : ∀ n0 : Nat, L_X3_exchangeMakesRow_2 G fr n0 tl K S i1 i2 (nI 0)) :
    ctI G 5 M_X3_exchangeMakesRow fr [.ref 31, .int i1, .int i2] lC S tl K := by
  refine wp_ct o_X3_exchangeMakesRow (Nat.le_of_ble_eq_true rfl) ?_
  replace h := h (hLy lC S tl).length
  revert h
  generalize (hLy lC S tl).length = n0
  intro h
  iterate 2 refine ws_b rfl ?_
  exact wp_weak (wk_s (wk_s (wk_s (wk_s wk_0)))) h
def L_X3_oneExchangeMakesRow_2 (G : ab_G) (fr : Bool) (n0 : Nat) (tl : ab_H) (K : Int32 → ms_S → Prop) (S : ms_S) (i1 : Int32) (i2 : Int32) : Prop := wp G 6 M_X3_oneExchangeMakesRow fr n0 (poI lC tl K) 2 [some (.ref 31), some (.int i1), some (.int i2)] [] (hLy lC S tl)
set_option maxRecDepth 100000 in
set_option maxHeartbeats 4000000 in
theorem b_X3_oneExchangeMakesRow_2 {G : ab_G} {fr : Bool} {n0 : Nat} {tl : ab_H} {K : Int32 → ms_S → Prop} {S : ms_S} {i1 : Int32} {i2 : Int32}
    (h : ((S.1 0 12) ≤ i2 → (K (nI 0) S)) ∧ (¬ (S.1 0 12) ≤ i2 → (vp_in i2 9 ∧ (ctI G 5 M_X3_exchangeMakesRow fr [.ref 31, .int (i1 &&& (((nI 1) <<< (i2 &&& 31)) ^^^ (-(nI 1)))), .int (S.2.2.2.1 34 i2.toNatClampNeg)] lC S tl (fun v1 S1 => (v1 = 0 → (L_X3_oneExchangeMakesRow_2 G fr n0 tl K S1 i1 (i2 + nI 1))) ∧ (¬ v1 = 0 → (K (nI 1) S1))))))) :
    L_X3_oneExchangeMakesRow_2 G fr n0 tl K S i1 i2 := by
  unfold L_X3_oneExchangeMakesRow_2
  iterate 5 refine ws_b rfl ?_
  refine wp_ite (fun q => ?_) (fun q => ?_)
  · replace h := h.1 q
    refine ws_b rfl ?_
    exact wp_ri rfl rfl rfl ⟨_, _, rfl, rfl, h⟩
  · replace h := h.2 q
    iterate 11 refine ws_b rfl ?_
    refine ws_g rfl h.1 ?_
    replace h := h.2
    refine wp_cV rfl rfl o_X3_exchangeMakesRow v_X3_exchangeMakesRow h rfl rfl rfl (Nat.le_of_ble_eq_true rfl) (by decide) ?_
    clear h
    rintro r9 h9 ⟨v1, S1, rfl, rfl, h⟩
    refine ws_b rfl ?_
    refine wp_ite (fun q => ?_) (fun q => ?_)
    · replace h := h.1 q
      iterate 2 refine ws_b rfl ?_
      exact wp_weak (wk_s (wk_s (wk_s wk_0))) h
    · replace h := h.2 q
      refine ws_b rfl ?_
      exact wp_ri rfl rfl rfl ⟨_, _, rfl, rfl, h⟩
set_option maxRecDepth 100000 in
set_option maxHeartbeats 4000000 in
theorem m_X3_oneExchangeMakesRow {G : ab_G} {fr : Bool} {tl : ab_H} {K : Int32 → ms_S → Prop} {S : ms_S} {i1 : Int32}
    (h : ∀ n0 : Nat, L_X3_oneExchangeMakesRow_2 G fr n0 tl K S i1 (nI 0)) :
    ctI G 6 M_X3_oneExchangeMakesRow fr [.ref 31, .int i1] lC S tl K := by
  refine wp_ct o_X3_oneExchangeMakesRow (Nat.le_of_ble_eq_true rfl) ?_
  replace h := h (hLy lC S tl).length
  revert h
  generalize (hLy lC S tl).length = n0
  intro h
  iterate 2 refine ws_b rfl ?_
  exact wp_weak (wk_s (wk_s (wk_s wk_0))) h
def L_X3_twoExchangesMakeRow_2 (G : ab_G) (fr : Bool) (n0 : Nat) (tl : ab_H) (K : Int32 → ms_S → Prop) (S : ms_S) (i1 : Int32) (i2 : Int32) : Prop := wp G 6 M_X3_twoExchangesMakeRow fr n0 (poI lC tl K) 2 [some (.ref 31), some (.int i1), some (.int i2), none, none, none, none] [] (hLy lC S tl)
def L_X3_twoExchangesMakeRow_15 (G : ab_G) (fr : Bool) (n0 : Nat) (tl : ab_H) (K : Int32 → ms_S → Prop) (S : ms_S) (i1 : Int32) (i2 : Int32) (i3 : Int32) : Prop := wp G 6 M_X3_twoExchangesMakeRow fr n0 (poI lC tl K) 15 [some (.ref 31), some (.int i1), some (.int i2), some (.int i3), none, none, none] [] (hLy lC S tl)
def L_X3_twoExchangesMakeRow_50 (G : ab_G) (fr : Bool) (n0 : Nat) (tl : ab_H) (K : Int32 → ms_S → Prop) (S : ms_S) (i1 : Int32) (i2 : Int32) (i3 : Int32) (i4 : Int32) (i5 : Int32) : Prop := wp G 6 M_X3_twoExchangesMakeRow fr n0 (poI lC tl K) 50 [some (.ref 31), some (.int i1), some (.int i2), some (.int i3), some (.int i4), some (.int i5), none] [] (hLy lC S tl)
def L_X3_twoExchangesMakeRow_110 (G : ab_G) (fr : Bool) (n0 : Nat) (tl : ab_H) (K : Int32 → ms_S → Prop) (S : ms_S) (i1 : Int32) (i2 : Int32) (i3 : Int32) : Prop := wp G 6 M_X3_twoExchangesMakeRow fr n0 (poI lC tl K) 110 [some (.ref 31), some (.int i1), some (.int i2), some (.int i3), none, none, none] [] (hLy lC S tl)
set_option maxRecDepth 100000 in
set_option maxHeartbeats 4000000 in
theorem b_X3_twoExchangesMakeRow_2 {G : ab_G} {fr : Bool} {n0 : Nat} {tl : ab_H} {K : Int32 → ms_S → Prop} {S : ms_S} {i1 : Int32} {i2 : Int32}
    (h : ((S.1 0 12) ≤ i2 → (K (nI 0) S)) ∧ (¬ (S.1 0 12) ≤ i2 → (L_X3_twoExchangesMakeRow_15 G fr n0 tl K S i1 i2 (nI 0)))) :
    L_X3_twoExchangesMakeRow_2 G fr n0 tl K S i1 i2 := by
  unfold L_X3_twoExchangesMakeRow_2
  iterate 5 refine ws_b rfl ?_
  refine wp_ite (fun q => ?_) (fun q => ?_)
  · replace h := h.1 q
    refine ws_b rfl ?_
    exact wp_ri rfl rfl rfl ⟨_, _, rfl, rfl, h⟩
  · replace h := h.2 q
    iterate 2 refine ws_b rfl ?_
    exact wp_weak (wk_s (wk_s (wk_s (wk_s (wk_s (wk_s (wk_s wk_0))))))) h
set_option maxRecDepth 100000 in
set_option maxHeartbeats 4000000 in
theorem b_X3_twoExchangesMakeRow_15 {G : ab_G} {fr : Bool} {n0 : Nat} {tl : ab_H} {K : Int32 → ms_S → Prop} {S : ms_S} {i1 : Int32} {i2 : Int32} {i3 : Int32}
    (h : ((S.1 0 12) ≤ i3 → (L_X3_twoExchangesMakeRow_2 G fr n0 tl K S i1 (i2 + nI 1))) ∧ (¬ (S.1 0 12) ≤ i3 → (vp_in i2 9 ∧ ((((((S.2.2.2.1 34 i2.toNatClampNeg).toUInt32 >>> (i3.toUInt32 &&& Int32.toUInt32 31)).toInt32) &&& (nI 1)) = (nI 1) → (L_X3_twoExchangesMakeRow_50 G fr n0 tl K S i1 i2 i3 ((nI 1) <<< (i3 &&& 31)) (i2 + (nI 1)))) ∧ (¬ ((((S.2.2.2.1 34 i2.toNatClampNeg).toUInt32 >>> (i3.toUInt32 &&& Int32.toUInt32 31)).toInt32) &&& (nI 1)) = (nI 1) → (L_X3_twoExchangesMakeRow_110 G fr n0 tl K S i1 i2 i3)))))) :
    L_X3_twoExchangesMakeRow_15 G fr n0 tl K S i1 i2 i3 := by
  unfold L_X3_twoExchangesMakeRow_15
  iterate 5 refine ws_b rfl ?_
  refine wp_ite (fun q => ?_) (fun q => ?_)
  · replace h := h.1 q
    iterate 2 refine ws_b rfl ?_
    exact wp_weak (wk_s (wk_s (wk_s (wk_n (wk_s (wk_s (wk_s wk_0))))))) h
  · replace h := h.2 q
    iterate 3 refine ws_b rfl ?_
    refine ws_g rfl h.1 ?_
    replace h := h.2
    iterate 6 refine ws_b rfl ?_
    refine wp_ite (fun q => ?_) (fun q => ?_)
    · replace h := h.1 q
      iterate 8 refine ws_b rfl ?_
      exact wp_weak (wk_s (wk_s (wk_s (wk_s (wk_s (wk_s (wk_s wk_0))))))) h
    · replace h := h.2 q
      exact wp_weak (wk_s (wk_s (wk_s (wk_s (wk_s (wk_s (wk_s wk_0))))))) h
set_option maxRecDepth 100000 in
set_option maxHeartbeats 4000000 in
theorem b_X3_twoExchangesMakeRow_50 {G : ab_G} {fr : Bool} {n0 : Nat} {tl : ab_H} {K : Int32 → ms_S → Prop} {S : ms_S} {i1 : Int32} {i2 : Int32} {i3 : Int32} {i4 : Int32} {i5 : Int32}
    (h : ((S.1 0 12) ≤ i5 → (L_X3_twoExchangesMakeRow_110 G fr n0 tl K S i1 i2 i3)) ∧ (¬ (S.1 0 12) ≤ i5 → (vp_in i5 9 ∧ (ctI G 5 M_X3_exchangeMakesRow fr [.ref 31, .int (((i1 &&& (((nI 1) <<< (i2 &&& 31)) ^^^ (-(nI 1)))) &&& (((nI 1) <<< (i5 &&& 31)) ^^^ (-(nI 1)))) ||| i4), .int ((S.2.2.2.1 34 i5.toNatClampNeg) &&& (i4 ^^^ (-(nI 1))))] lC S tl (fun v1 S1 => (v1 = 0 → (L_X3_twoExchangesMakeRow_50 G fr n0 tl K S1 i1 i2 i3 i4 (i5 + nI 1))) ∧ (¬ v1 = 0 → (K (nI 1) S1))))))) :
    L_X3_twoExchangesMakeRow_50 G fr n0 tl K S i1 i2 i3 i4 i5 := by
  unfold L_X3_twoExchangesMakeRow_50
  iterate 5 refine ws_b rfl ?_
  refine wp_ite (fun q => ?_) (fun q => ?_)
  · replace h := h.1 q
    exact wp_weak (wk_s (wk_s (wk_s (wk_s (wk_n (wk_n (wk_s wk_0))))))) h
  · replace h := h.2 q
    iterate 21 refine ws_b rfl ?_
    refine ws_g rfl h.1 ?_
    replace h := h.2
    iterate 4 refine ws_b rfl ?_
    refine wp_cV rfl rfl o_X3_exchangeMakesRow v_X3_exchangeMakesRow h rfl rfl rfl (Nat.le_of_ble_eq_true rfl) (by decide) ?_
    clear h
    rintro r9 h9 ⟨v1, S1, rfl, rfl, h⟩
    refine ws_b rfl ?_
    refine wp_ite (fun q => ?_) (fun q => ?_)
    · replace h := h.1 q
      iterate 2 refine ws_b rfl ?_
      exact wp_weak (wk_s (wk_s (wk_s (wk_s (wk_s (wk_s (wk_n wk_0))))))) h
    · replace h := h.2 q
      refine ws_b rfl ?_
      exact wp_ri rfl rfl rfl ⟨_, _, rfl, rfl, h⟩
set_option maxRecDepth 100000 in
set_option maxHeartbeats 4000000 in
theorem b_X3_twoExchangesMakeRow_110 {G : ab_G} {fr : Bool} {n0 : Nat} {tl : ab_H} {K : Int32 → ms_S → Prop} {S : ms_S} {i1 : Int32} {i2 : Int32} {i3 : Int32}
    (h : L_X3_twoExchangesMakeRow_15 G fr n0 tl K S i1 i2 (i3 + nI 1)) :
    L_X3_twoExchangesMakeRow_110 G fr n0 tl K S i1 i2 i3 := by
  unfold L_X3_twoExchangesMakeRow_110
  iterate 2 refine ws_b rfl ?_
  exact wp_weak (wk_s (wk_s (wk_s (wk_s (wk_s (wk_s (wk_s wk_0))))))) h
set_option maxRecDepth 100000 in
set_option maxHeartbeats 4000000 in
theorem m_X3_twoExchangesMakeRow {G : ab_G} {fr : Bool} {tl : ab_H} {K : Int32 → ms_S → Prop} {S : ms_S} {i1 : Int32}
    (h : ∀ n0 : Nat, L_X3_twoExchangesMakeRow_2 G fr n0 tl K S i1 (nI 0)) :
    ctI G 6 M_X3_twoExchangesMakeRow fr [.ref 31, .int i1] lC S tl K := by
  refine wp_ct o_X3_twoExchangesMakeRow (Nat.le_of_ble_eq_true rfl) ?_
  replace h := h (hLy lC S tl).length
  revert h
  generalize (hLy lC S tl).length = n0
  intro h
  iterate 2 refine ws_b rfl ?_
  exact wp_weak (wk_s (wk_s (wk_s (wk_s (wk_s (wk_s (wk_s wk_0))))))) h
def L_X3_mostWith_14 (G : ab_G) (fr : Bool) (n0 : Nat) (tl : ab_H) (K : Int32 → ms_S → Prop) (S : ms_S) (i1 : Int32) (i2 : Int32) (i3 : Int32) (i4 : Int32) (i5 : Int32) (i6 : Int32) : Prop := wp G 5 M_X3_mostWith fr n0 (poI lC tl K) 14 [some (.ref 31), some (.int i1), some (.int i2), some (.int i3), some (.int i4), some (.int i5), some (.int i6)] [] (hLy lC S tl)
def L_X3_mostWith_69 (G : ab_G) (fr : Bool) (n0 : Nat) (tl : ab_H) (K : Int32 → ms_S → Prop) (S : ms_S) (i1 : Int32) (i2 : Int32) (i3 : Int32) (i4 : Int32) (i5 : Int32) (i6 : Int32) : Prop := wp G 5 M_X3_mostWith fr n0 (poI lC tl K) 69 [some (.ref 31), some (.int i1), some (.int i2), some (.int i3), some (.int i4), some (.int i5), some (.int i6)] [] (hLy lC S tl)
def L_X3_mostWith_91 (G : ab_G) (fr : Bool) (n0 : Nat) (tl : ab_H) (K : Int32 → ms_S → Prop) (S : ms_S) (i4 : Int32) : Prop := wp G 5 M_X3_mostWith fr n0 (poI lC tl K) 91 [none, none, none, none, some (.int i4), none, none] [] (hLy lC S tl)
set_option maxRecDepth 100000 in
set_option maxHeartbeats 4000000 in
theorem b_X3_mostWith_14 {G : ab_G} {fr : Bool} {n0 : Nat} {tl : ab_H} {K : Int32 → ms_S → Prop} {S : ms_S} {i1 : Int32} {i2 : Int32} {i3 : Int32} {i4 : Int32} {i5 : Int32} {i6 : Int32}
    (h : ((nI 512) ≤ i6 → (L_X3_mostWith_91 G fr n0 tl K S i4)) ∧ (¬ (nI 512) ≤ i6 → (vp_in (i2 &&& (i5 ^^^ (-(nI 1)))) 512 ∧ ((((nI 1) + (S.2.2.2.1 35 ((i2 &&& (i5 ^^^ (-(nI 1)))).toNatClampNeg))) ≤ i4 → (L_X3_mostWith_69 G fr n0 tl K S i1 i2 i3 i4 i5 i6)) ∧ (¬ ((nI 1) + (S.2.2.2.1 35 ((i2 &&& (i5 ^^^ (-(nI 1)))).toNatClampNeg))) ≤ i4 → (ctI G 4 M_X9_isRow fr [.ref 25, .int (i1 ||| i5)] lC S tl (fun v1 S1 => (v1 = 0 → (L_X3_mostWith_69 G fr n0 tl K S1 i1 i2 i3 i4 i5 i6)) ∧ (¬ v1 = 0 → (vp_in (i2 &&& (i5 ^^^ (-(nI 1)))) 512 ∧ (L_X3_mostWith_69 G fr n0 tl K S1 i1 i2 i3 ((nI 1) + (S1.2.2.2.1 35 ((i2 &&& (i5 ^^^ (-(nI 1)))).toNatClampNeg))) i5 i6)))))))))) :
    L_X3_mostWith_14 G fr n0 tl K S i1 i2 i3 i4 i5 i6 := by
  unfold L_X3_mostWith_14
  iterate 3 refine ws_b rfl ?_
  refine wp_ite (fun q => ?_) (fun q => ?_)
  · replace h := h.1 q
    exact wp_weak (wk_n (wk_n (wk_n (wk_n (wk_s (wk_n (wk_n wk_0))))))) h
  · replace h := h.2 q
    iterate 8 refine ws_b rfl ?_
    refine ws_g rfl h.1 ?_
    replace h := h.2
    iterate 3 refine ws_b rfl ?_
    refine wp_ite (fun q => ?_) (fun q => ?_)
    · replace h := h.1 q
      exact wp_weak (wk_s (wk_s (wk_s (wk_s (wk_s (wk_s (wk_s wk_0))))))) h
    · replace h := h.2 q
      iterate 5 refine ws_b rfl ?_
      refine wp_cV rfl rfl o_X9_isRow v_X9_isRow h rfl rfl rfl (Nat.le_of_ble_eq_true rfl) (by decide) ?_
      clear h
      rintro r9 h9 ⟨v1, S1, rfl, rfl, h⟩
      refine ws_b rfl ?_
      refine wp_ite (fun q => ?_) (fun q => ?_)
      · replace h := h.1 q
        exact wp_weak (wk_s (wk_s (wk_s (wk_s (wk_s (wk_s (wk_s wk_0))))))) h
      · replace h := h.2 q
        iterate 8 refine ws_b rfl ?_
        refine ws_g rfl h.1 ?_
        replace h := h.2
        iterate 2 refine ws_b rfl ?_
        exact wp_weak (wk_s (wk_s (wk_s (wk_s (wk_s (wk_s (wk_s wk_0))))))) h
set_option maxRecDepth 100000 in
set_option maxHeartbeats 4000000 in
theorem b_X3_mostWith_69 {G : ab_G} {fr : Bool} {n0 : Nat} {tl : ab_H} {K : Int32 → ms_S → Prop} {S : ms_S} {i1 : Int32} {i2 : Int32} {i3 : Int32} {i4 : Int32} {i5 : Int32} {i6 : Int32}
    (h : (i5 = 0 → (L_X3_mostWith_91 G fr n0 tl K S i4)) ∧ (¬ i5 = 0 → (L_X3_mostWith_14 G fr n0 tl K S i1 i2 i3 i4 ((i5 - (nI 1)) &&& i3) (i6 + nI 1)))) :
    L_X3_mostWith_69 G fr n0 tl K S i1 i2 i3 i4 i5 i6 := by
  unfold L_X3_mostWith_69
  iterate 2 refine ws_b rfl ?_
  refine wp_ite (fun q => ?_) (fun q => ?_)
  · replace h := h.1 q
    refine ws_b rfl ?_
    exact wp_weak (wk_n (wk_n (wk_n (wk_n (wk_s (wk_n (wk_n wk_0))))))) h
  · replace h := h.2 q
    iterate 8 refine ws_b rfl ?_
    exact wp_weak (wk_s (wk_s (wk_s (wk_s (wk_s (wk_s (wk_s wk_0))))))) h
set_option maxRecDepth 100000 in
set_option maxHeartbeats 4000000 in
theorem b_X3_mostWith_91 {G : ab_G} {fr : Bool} {n0 : Nat} {tl : ab_H} {K : Int32 → ms_S → Prop} {S : ms_S} {i4 : Int32}
    (h : K i4 S) :
    L_X3_mostWith_91 G fr n0 tl K S i4 := by
  unfold L_X3_mostWith_91
  refine ws_b rfl ?_
  exact wp_ri rfl rfl rfl ⟨_, _, rfl, rfl, h⟩
set_option maxRecDepth 100000 in
set_option maxHeartbeats 4000000 in
theorem m_X3_mostWith {G : ab_G} {fr : Bool} {tl : ab_H} {K : Int32 → ms_S → Prop} {S : ms_S} {i1 : Int32} {i2 : Int32} {i3 : Int32}
    (h : ∀ n0 : Nat, vp_in i2 512 ∧ (L_X3_mostWith_14 G fr n0 tl K S i1 i2 i3 (S.2.2.2.1 35 i2.toNatClampNeg) i3 (nI 0))) :
    ctI G 5 M_X3_mostWith fr [.ref 31, .int i1, .int i2, .int i3] lC S tl K := by
  refine wp_ct o_X3_mostWith (Nat.le_of_ble_eq_true rfl) ?_
  replace h := h (hLy lC S tl).length
  revert h
  generalize (hLy lC S tl).length = n0
  intro h
  iterate 3 refine ws_b rfl ?_
  refine ws_g rfl h.1 ?_
  replace h := h.2
  iterate 5 refine ws_b rfl ?_
  exact wp_weak (wk_s (wk_s (wk_s (wk_s (wk_s (wk_s (wk_s wk_0))))))) h
def L_X3_addHeirToDeal_6 (G : ab_G) (fr : Bool) (n0 : Nat) (tl : ab_H) (K : ms_S → Prop) (S : ms_S) (i1 : Int32) (i2 : Int32) (i3 : Int32) (i4 : Int32) (i5 : Int32) : Prop := wp G 6 M_X3_addHeirToDeal fr n0 (poU lC tl K) 6 [some (.ref 31), some (.int i1), some (.int i2), some (.int i3), some (.int i4), some (.int i5)] [] (hLy lC S tl)
def L_X3_addHeirToDeal_54 (G : ab_G) (fr : Bool) (n0 : Nat) (tl : ab_H) (K : ms_S → Prop) (S : ms_S)  : Prop := wp G 6 M_X3_addHeirToDeal fr n0 (poU lC tl K) 54 [none, none, none, none, none, none] [] (hLy lC S tl)
set_option maxRecDepth 100000 in
set_option maxHeartbeats 4000000 in
theorem b_X3_addHeirToDeal_6 {G : ab_G} {fr : Bool} {n0 : Nat} {tl : ab_H} {K : ms_S → Prop} {S : ms_S} {i1 : Int32} {i2 : Int32} {i3 : Int32} {i4 : Int32} {i5 : Int32}
    (h : ((nI 512) ≤ i5 → (L_X3_addHeirToDeal_54 G fr n0 tl K S )) ∧ (¬ (nI 512) ≤ i5 → (ctI G 5 M_X3_mostWith fr [.ref 31, .int i1, .int i4, .int (i4 &&& i3)] lC S tl (fun v1 S1 => vp_in i4 512 ∧ ((i4 = 0 → (L_X3_addHeirToDeal_54 G fr n0 tl K (sA S1 35 i4.toNatClampNeg v1) )) ∧ (¬ i4 = 0 → (L_X3_addHeirToDeal_6 G fr n0 tl K (sA S1 35 i4.toNatClampNeg v1) i1 i2 i3 ((i4 - (nI 1)) &&& i2) (i5 + nI 1)))))))) :
    L_X3_addHeirToDeal_6 G fr n0 tl K S i1 i2 i3 i4 i5 := by
  unfold L_X3_addHeirToDeal_6
  iterate 3 refine ws_b rfl ?_
  refine wp_ite (fun q => ?_) (fun q => ?_)
  · replace h := h.1 q
    exact wp_weak (wk_n (wk_n (wk_n (wk_n (wk_n (wk_n wk_0)))))) h
  · replace h := h.2 q
    iterate 9 refine ws_b rfl ?_
    refine wp_cV rfl rfl o_X3_mostWith v_X3_mostWith h rfl rfl rfl (Nat.le_of_ble_eq_true rfl) (by decide) ?_
    clear h
    rintro r9 h9 ⟨v1, S1, rfl, rfl, h⟩
    refine ws_g rfl h.1 ?_
    replace h := h.2
    iterate 2 refine ws_b rfl ?_
    refine wp_ite (fun q => ?_) (fun q => ?_)
    · replace h := h.1 q
      refine ws_b rfl ?_
      exact wp_weak (wk_n (wk_n (wk_n (wk_n (wk_n (wk_n wk_0)))))) h
    · replace h := h.2 q
      iterate 8 refine ws_b rfl ?_
      exact wp_weak (wk_s (wk_s (wk_s (wk_s (wk_s (wk_s wk_0)))))) h
set_option maxRecDepth 100000 in
set_option maxHeartbeats 4000000 in
theorem b_X3_addHeirToDeal_54 {G : ab_G} {fr : Bool} {n0 : Nat} {tl : ab_H} {K : ms_S → Prop} {S : ms_S} 
    (h : K S) :
    L_X3_addHeirToDeal_54 G fr n0 tl K S  := by
  unfold L_X3_addHeirToDeal_54
  exact wp_rv rfl rfl ⟨_, rfl, rfl, h⟩
set_option maxRecDepth 100000 in
set_option maxHeartbeats 4000000 in
theorem m_X3_addHeirToDeal {G : ab_G} {fr : Bool} {tl : ab_H} {K : ms_S → Prop} {S : ms_S} {i1 : Int32} {i2 : Int32} {i3 : Int32}
    (h : ∀ n0 : Nat, L_X3_addHeirToDeal_6 G fr n0 tl K S i1 i2 i3 i2 (nI 0)) :
    ctU G 6 M_X3_addHeirToDeal fr [.ref 31, .int i1, .int i2, .int i3] lC S tl K := by
  refine wp_ct o_X3_addHeirToDeal (Nat.le_of_ble_eq_true rfl) ?_
  replace h := h (hLy lC S tl).length
  revert h
  generalize (hLy lC S tl).length = n0
  intro h
  iterate 4 refine ws_b rfl ?_
  exact wp_weak (wk_s (wk_s (wk_s (wk_s (wk_s (wk_s wk_0)))))) h

