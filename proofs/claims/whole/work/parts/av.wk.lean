/-! ===== the program: laws read, walks ===== -/
set_option maxRecDepth 100000 in
set_option maxHeartbeats 4000000 in
theorem m_X4_addR {G : ab_G} {fr : Bool} {tl : ab_H} {K : ms_S → Prop} {S : ms_S} {i1 : Int32}
    (h : ∀ n0 : Nat, ((nI 64) ≤ (S.1 5 3) → (K S)) ∧ (¬ (nI 64) ≤ (S.1 5 3) → (vp_in (S.1 5 3) 64 ∧ (((S.1 5 4) = 0 → ((i1 = (-(nI 7)) → (K (sVa (sVa (sA S 6 ((S.1 5 3).toNatClampNeg) i1) 5 3 ((S.1 5 3) + (nI 1))) 5 4 (nI 1)))) ∧ (¬ i1 = (-(nI 7)) → (K (sVa (sVa (sA S 6 ((S.1 5 3).toNatClampNeg) i1) 5 3 ((S.1 5 3) + (nI 1))) 5 4 (nI 0)))))) ∧ (¬ (S.1 5 4) = 0 → (K (sVa (sVa (sA S 6 ((S.1 5 3).toNatClampNeg) i1) 5 3 ((S.1 5 3) + (nI 1))) 5 4 (nI 1)))))))) :
    ctU G 1 M_X4_add fr [.ref 5, .int i1] lLR S tl K := by
  refine wp_ct o_X4_add (Nat.le_of_ble_eq_true rfl) ?_
  replace h := h (hLy lLR S tl).length
  revert h
  generalize (hLy lLR S tl).length = n0
  intro h
  iterate 4 refine ws_b rfl ?_
  refine wp_ite (fun q => ?_) (fun q => ?_)
  · replace h := h.1 q
    exact wp_rv rfl rfl ⟨_, rfl, rfl, h⟩
  · replace h := h.2 q
    iterate 5 refine ws_b rfl ?_
    refine ws_g rfl h.1 ?_
    replace h := h.2
    iterate 10 refine ws_b rfl ?_
    refine wp_ite (fun q => ?_) (fun q => ?_)
    · replace h := h.1 q
      iterate 3 refine ws_b rfl ?_
      refine wp_ite (fun q => ?_) (fun q => ?_)
      · replace h := h.1 q
        iterate 2 refine ws_b rfl ?_
        refine ws_g rfl (Or.inr rfl) ?_
        exact wp_rv rfl rfl ⟨_, rfl, rfl, h⟩
      · replace h := h.2 q
        refine ws_b rfl ?_
        refine ws_g rfl (Or.inl rfl) ?_
        exact wp_rv rfl rfl ⟨_, rfl, rfl, h⟩
    · replace h := h.2 q
      iterate 2 refine ws_b rfl ?_
      refine ws_g rfl (Or.inr rfl) ?_
      exact wp_rv rfl rfl ⟨_, rfl, rfl, h⟩
set_option maxRecDepth 100000 in
set_option maxHeartbeats 4000000 in
theorem m_X5_push {G : ab_G} {fr : Bool} {tl : ab_H} {K : ms_S → Prop} {S : ms_S} {i1 : Int32}
    (h : ∀ n0 : Nat, ((nI 72) ≤ (S.1 3 2) → (K S)) ∧ (¬ (nI 72) ≤ (S.1 3 2) → (vp_in (S.1 3 2) 72 ∧ (K (sVa (sA S 4 ((S.1 3 2).toNatClampNeg) i1) 3 2 ((S.1 3 2) + (nI 1))))))) :
    ctU G 1 M_X5_push fr [.ref 3, .int i1] lLR S tl K := by
  refine wp_ct o_X5_push (Nat.le_of_ble_eq_true rfl) ?_
  replace h := h (hLy lLR S tl).length
  revert h
  generalize (hLy lLR S tl).length = n0
  intro h
  iterate 6 refine ws_b rfl ?_
  refine wp_ite (fun q => ?_) (fun q => ?_)
  · replace h := h.1 q
    exact wp_rv rfl rfl ⟨_, rfl, rfl, h⟩
  · replace h := h.2 q
    iterate 5 refine ws_b rfl ?_
    refine ws_g rfl h.1 ?_
    replace h := h.2
    iterate 6 refine ws_b rfl ?_
    exact wp_rv rfl rfl ⟨_, rfl, rfl, h⟩
def L_X5_release_0 (G : ab_G) (fr : Bool) (n0 : Nat) (tl : ab_H) (K : ms_S → Prop) (S : ms_S) (i1 : Int32) : Prop := wp G 2 M_X5_release fr n0 (poU lLR tl K) 0 [some (.ref 3), some (.int i1)] [] (hLy lLR S tl)
def L_X5_release_55 (G : ab_G) (fr : Bool) (n0 : Nat) (tl : ab_H) (K : ms_S → Prop) (S : ms_S)  : Prop := wp G 2 M_X5_release fr n0 (poU lLR tl K) 55 [none, none] [] (hLy lLR S tl)
set_option maxRecDepth 100000 in
set_option maxHeartbeats 4000000 in
theorem b_X5_release_0 {G : ab_G} {fr : Bool} {n0 : Nat} {tl : ab_H} {K : ms_S → Prop} {S : ms_S} {i1 : Int32}
    (h : ((S.1 3 2) ≤ 0 → (L_X5_release_55 G fr n0 tl K S )) ∧ (¬ (S.1 3 2) ≤ 0 → (vp_in ((S.1 3 2) - (nI 1)) 72 ∧ (ctI G 1 M_X5_strengthOf fr [.int (S.2.2.2.1 4 (((S.1 3 2) - (nI 1)).toNatClampNeg))] lLR S tl (fun v1 S1 => (v1 < i1 → (L_X5_release_55 G fr n0 tl K S1 )) ∧ (¬ v1 < i1 → (vp_in ((S1.1 3 2) - (nI 1)) 72 ∧ (ctU G 1 M_X4_add fr [.ref 5, .int (-(S1.2.2.2.1 4 (((S1.1 3 2) - (nI 1)).toNatClampNeg)))] lLR (sVa S1 3 2 ((S1.1 3 2) - (nI 1))) tl (fun S2 => L_X5_release_0 G fr n0 tl K S2 i1))))))))) :
    L_X5_release_0 G fr n0 tl K S i1 := by
  unfold L_X5_release_0
  iterate 3 refine ws_b rfl ?_
  refine wp_ite (fun q => ?_) (fun q => ?_)
  · replace h := h.1 q
    exact wp_weak (wk_n (wk_n wk_0)) h
  · replace h := h.2 q
    iterate 6 refine ws_b rfl ?_
    refine ws_g rfl h.1 ?_
    replace h := h.2
    refine wp_cS rfl rfl o_X5_strengthOf s_X5_strengthOf h rfl rfl (Nat.le_of_ble_eq_true rfl) (by decide) ?_
    clear h
    rintro r9 h9 ⟨v1, S1, rfl, rfl, h⟩
    iterate 2 refine ws_b rfl ?_
    refine wp_ite (fun q => ?_) (fun q => ?_)
    · replace h := h.1 q
      exact wp_weak (wk_n (wk_n wk_0)) h
    · replace h := h.2 q
      iterate 12 refine ws_b rfl ?_
      refine ws_g rfl h.1 ?_
      replace h := h.2
      refine ws_b rfl ?_
      refine wp_cV rfl rfl o_X4_add v_X4_add h rfl rfl rfl (Nat.le_of_ble_eq_true rfl) (by decide) ?_
      clear h
      rintro r9 h9 ⟨S2, rfl, rfl, h⟩
      refine ws_b rfl ?_
      exact wp_weak (wk_s (wk_s wk_0)) h
set_option maxRecDepth 100000 in
set_option maxHeartbeats 4000000 in
theorem b_X5_release_55 {G : ab_G} {fr : Bool} {n0 : Nat} {tl : ab_H} {K : ms_S → Prop} {S : ms_S} 
    (h : K S) :
    L_X5_release_55 G fr n0 tl K S  := by
  unfold L_X5_release_55
  exact wp_rv rfl rfl ⟨_, rfl, rfl, h⟩
set_option maxRecDepth 100000 in
set_option maxHeartbeats 4000000 in
theorem m_X5_release {G : ab_G} {fr : Bool} {tl : ab_H} {K : ms_S → Prop} {S : ms_S} {i1 : Int32}
    (h : ∀ n0 : Nat, L_X5_release_0 G fr n0 tl K S i1) :
    ctU G 2 M_X5_release fr [.ref 3, .int i1] lLR S tl K := by
  refine wp_ct o_X5_release (Nat.le_of_ble_eq_true rfl) ?_
  replace h := h (hLy lLR S tl).length
  revert h
  generalize (hLy lLR S tl).length = n0
  intro h
  exact wp_weak (wk_s (wk_s wk_0)) h
set_option maxRecDepth 100000 in
set_option maxHeartbeats 4000000 in
theorem m_X5_openParenthesis {G : ab_G} {fr : Bool} {tl : ab_H} {K : Int32 → ms_S → Prop} {S : ms_S} 
    (h : ∀ n0 : Nat, ((S.1 3 3) = (nI 8) → (K (nI 2) S)) ∧ (¬ (S.1 3 3) = (nI 8) → (ctU G 1 M_X5_push fr [.ref 3, .int (nI 32)] lLR (sVa (sVa S 3 3 ((S.1 3 3) + (nI 1))) 3 4 ((S.1 3 4) &&& (((nI 1) <<< (((S.1 3 3) + (nI 1)) &&& 31)) ^^^ (-(nI 1))))) tl (fun S1 => K (nI 0) S1)))) :
    ctI G 2 M_X5_openParenthesis fr [.ref 3] lLR S tl K := by
  refine wp_ct o_X5_openParenthesis (Nat.le_of_ble_eq_true rfl) ?_
  replace h := h (hLy lLR S tl).length
  revert h
  generalize (hLy lLR S tl).length = n0
  intro h
  iterate 4 refine ws_b rfl ?_
  refine wp_ite (fun q => ?_) (fun q => ?_)
  · replace h := h.1 q
    refine ws_b rfl ?_
    exact wp_ri rfl rfl rfl ⟨_, _, rfl, rfl, h⟩
  · replace h := h.2 q
    iterate 19 refine ws_b rfl ?_
    refine wp_cV rfl rfl o_X5_push v_X5_push h rfl rfl rfl (Nat.le_of_ble_eq_true rfl) (by decide) ?_
    clear h
    rintro r9 h9 ⟨S1, rfl, rfl, h⟩
    refine ws_b rfl ?_
    exact wp_ri rfl rfl rfl ⟨_, _, rfl, rfl, h⟩
set_option maxRecDepth 100000 in
set_option maxHeartbeats 4000000 in
theorem m_X5_closeParenthesis {G : ab_G} {fr : Bool} {tl : ab_H} {K : Int32 → ms_S → Prop} {S : ms_S} 
    (h : ∀ n0 : Nat, ctU G 2 M_X5_release fr [.ref 3, .int (nI 1)] lLR S tl (fun S1 => K (nI 0) (sVa (sVa S1 3 2 (if ((S1.1 3 2) - (nI 1)) < (nI 0) then (nI 0) else ((S1.1 3 2) - (nI 1)))) 3 3 ((S1.1 3 3) - (nI 1))))) :
    ctI G 3 M_X5_closeParenthesis fr [.ref 3] lLR S tl K := by
  refine wp_ct o_X5_closeParenthesis (Nat.le_of_ble_eq_true rfl) ?_
  replace h := h (hLy lLR S tl).length
  revert h
  generalize (hLy lLR S tl).length = n0
  intro h
  iterate 2 refine ws_b rfl ?_
  refine wp_cV rfl rfl o_X5_release v_X5_release h rfl rfl rfl (Nat.le_of_ble_eq_true rfl) (by decide) ?_
  clear h
  rintro r9 h9 ⟨S1, rfl, rfl, h⟩
  iterate 6 refine ws_b rfl ?_
  refine wp_max rfl rfl (Nat.le_of_ble_eq_true rfl) (by decide) ?_
  iterate 8 refine ws_b rfl ?_
  exact wp_ri rfl rfl rfl ⟨_, _, rfl, rfl, h⟩
set_option maxRecDepth 100000 in
set_option maxHeartbeats 4000000 in
theorem m_X5_finish {G : ab_G} {fr : Bool} {tl : ab_H} {K : Int32 → ms_S → Prop} {S : ms_S} 
    (h : ∀ n0 : Nat, ((S.1 3 3) ≤ 0 → (ctU G 2 M_X5_release fr [.ref 3, .int (nI 1)] lLR S tl (fun S1 => K (nI 0) S1))) ∧ (¬ (S.1 3 3) ≤ 0 → (K (nI 1) S))) :
    ctI G 3 M_X5_finish fr [.ref 3] lLR S tl K := by
  refine wp_ct o_X5_finish (Nat.le_of_ble_eq_true rfl) ?_
  replace h := h (hLy lLR S tl).length
  revert h
  generalize (hLy lLR S tl).length = n0
  intro h
  iterate 3 refine ws_b rfl ?_
  refine wp_ite (fun q => ?_) (fun q => ?_)
  · replace h := h.1 q
    iterate 2 refine ws_b rfl ?_
    refine wp_cV rfl rfl o_X5_release v_X5_release h rfl rfl rfl (Nat.le_of_ble_eq_true rfl) (by decide) ?_
    clear h
    rintro r9 h9 ⟨S1, rfl, rfl, h⟩
    refine ws_b rfl ?_
    exact wp_ri rfl rfl rfl ⟨_, _, rfl, rfl, h⟩
  · replace h := h.2 q
    refine ws_b rfl ?_
    exact wp_ri rfl rfl rfl ⟨_, _, rfl, rfl, h⟩
def L_X5_addSign_54 (G : ab_G) (fr : Bool) (n0 : Nat) (tl : ab_H) (K : Int32 → ms_S → Prop) (S : ms_S) (i1 : Int32) : Prop := wp G 3 M_X5_addSign fr n0 (poI lLR tl K) 54 [some (.ref 3), some (.int i1)] [] (hLy lLR S tl)
def L_X5_addSign_71 (G : ab_G) (fr : Bool) (n0 : Nat) (tl : ab_H) (K : Int32 → ms_S → Prop) (S : ms_S) (i1 : Int32) : Prop := wp G 3 M_X5_addSign fr n0 (poI lLR tl K) 71 [some (.ref 3), some (.int i1)] [] (hLy lLR S tl)
set_option maxRecDepth 100000 in
set_option maxHeartbeats 4000000 in
theorem b_X5_addSign_54 {G : ab_G} {fr : Bool} {n0 : Nat} {tl : ab_H} {K : Int32 → ms_S → Prop} {S : ms_S} {i1 : Int32}
    (h : L_X5_addSign_71 G fr n0 tl K (sVa S 3 4 ((S.1 3 4) &&& (((nI 1) <<< ((S.1 3 3) &&& 31)) ^^^ (-(nI 1))))) i1) :
    L_X5_addSign_54 G fr n0 tl K S i1 := by
  unfold L_X5_addSign_54
  iterate 11 refine ws_b rfl ?_
  exact wp_weak (wk_s (wk_s wk_0)) h
set_option maxRecDepth 100000 in
set_option maxHeartbeats 4000000 in
theorem b_X5_addSign_71 {G : ab_G} {fr : Bool} {n0 : Nat} {tl : ab_H} {K : Int32 → ms_S → Prop} {S : ms_S} {i1 : Int32}
    (h : ((S.1 3 5) = 0 → (K (nI 2) S)) ∧ (¬ (S.1 3 5) = 0 → (ctI G 1 M_X5_strengthOf fr [.int i1] lLR (sVa S 3 5 ((S.1 3 5) - (nI 1))) tl (fun v1 S1 => ctU G 2 M_X5_release fr [.ref 3, .int v1] lLR S1 tl (fun S2 => ctU G 1 M_X5_push fr [.ref 3, .int i1] lLR S2 tl (fun S3 => K (nI 0) S3)))))) :
    L_X5_addSign_71 G fr n0 tl K S i1 := by
  unfold L_X5_addSign_71
  iterate 3 refine ws_b rfl ?_
  refine wp_ite (fun q => ?_) (fun q => ?_)
  · replace h := h.1 q
    refine ws_b rfl ?_
    exact wp_ri rfl rfl rfl ⟨_, _, rfl, rfl, h⟩
  · replace h := h.2 q
    iterate 8 refine ws_b rfl ?_
    refine wp_cS rfl rfl o_X5_strengthOf s_X5_strengthOf h rfl rfl (Nat.le_of_ble_eq_true rfl) (by decide) ?_
    clear h
    rintro r9 h9 ⟨v1, S1, rfl, rfl, h⟩
    refine wp_cV rfl rfl o_X5_release v_X5_release h rfl rfl rfl (Nat.le_of_ble_eq_true rfl) (by decide) ?_
    clear h
    rintro r9 h9 ⟨S2, rfl, rfl, h⟩
    iterate 2 refine ws_b rfl ?_
    refine wp_cV rfl rfl o_X5_push v_X5_push h rfl rfl rfl (Nat.le_of_ble_eq_true rfl) (by decide) ?_
    clear h
    rintro r9 h9 ⟨S3, rfl, rfl, h⟩
    refine ws_b rfl ?_
    exact wp_ri rfl rfl rfl ⟨_, _, rfl, rfl, h⟩
set_option maxRecDepth 100000 in
set_option maxHeartbeats 4000000 in
theorem m_X5_addSign {G : ab_G} {fr : Bool} {tl : ab_H} {K : Int32 → ms_S → Prop} {S : ms_S} {i1 : Int32}
    (h : ∀ n0 : Nat, ctI G 1 M_X5_isComparison fr [.int i1] lLR S tl (fun v1 S1 => (v1 = 0 → ((i1 = (nI 9) → (L_X5_addSign_54 G fr n0 tl K S1 i1)) ∧ (¬ i1 = (nI 9) → ((i1 = (nI 8) → (L_X5_addSign_54 G fr n0 tl K S1 i1)) ∧ (¬ i1 = (nI 8) → (L_X5_addSign_71 G fr n0 tl K S1 i1)))))) ∧ (¬ v1 = 0 → ((((((S1.1 3 4).toUInt32 >>> ((S1.1 3 3).toUInt32 &&& Int32.toUInt32 31)).toInt32) &&& (nI 1)) = (nI 1) → (K (nI 1) S1)) ∧ (¬ ((((S1.1 3 4).toUInt32 >>> ((S1.1 3 3).toUInt32 &&& Int32.toUInt32 31)).toInt32) &&& (nI 1)) = (nI 1) → (L_X5_addSign_71 G fr n0 tl K (sVa S1 3 4 ((S1.1 3 4) ||| ((nI 1) <<< ((S1.1 3 3) &&& 31)))) i1)))))) :
    ctI G 3 M_X5_addSign fr [.ref 3, .int i1] lLR S tl K := by
  refine wp_ct o_X5_addSign (Nat.le_of_ble_eq_true rfl) ?_
  replace h := h (hLy lLR S tl).length
  revert h
  generalize (hLy lLR S tl).length = n0
  intro h
  refine ws_b rfl ?_
  refine wp_cS rfl rfl o_X5_isComparison s_X5_isComparison h rfl rfl (Nat.le_of_ble_eq_true rfl) (by decide) ?_
  clear h
  rintro r9 h9 ⟨v1, S1, rfl, rfl, h⟩
  refine ws_b rfl ?_
  refine wp_ite (fun q => ?_) (fun q => ?_)
  · replace h := h.1 q
    iterate 3 refine ws_b rfl ?_
    refine wp_ite (fun q => ?_) (fun q => ?_)
    · replace h := h.1 q
      exact wp_weak (wk_s (wk_s wk_0)) h
    · replace h := h.2 q
      iterate 3 refine ws_b rfl ?_
      refine wp_ite (fun q => ?_) (fun q => ?_)
      · replace h := h.1 q
        exact wp_weak (wk_s (wk_s wk_0)) h
      · replace h := h.2 q
        exact wp_weak (wk_s (wk_s wk_0)) h
  · replace h := h.2 q
    iterate 9 refine ws_b rfl ?_
    refine wp_ite (fun q => ?_) (fun q => ?_)
    · replace h := h.1 q
      refine ws_b rfl ?_
      exact wp_ri rfl rfl rfl ⟨_, _, rfl, rfl, h⟩
    · replace h := h.2 q
      iterate 10 refine ws_b rfl ?_
      exact wp_weak (wk_s (wk_s wk_0)) h
def L_X5_addValue_34 (G : ab_G) (fr : Bool) (n0 : Nat) (tl : ab_H) (K : Int32 → ms_S → Prop) (S : ms_S)  : Prop := wp G 3 M_X5_addValue fr n0 (poI lLR tl K) 34 [none, none] [] (hLy lLR S tl)
def L_X5_addValue_36 (G : ab_G) (fr : Bool) (n0 : Nat) (tl : ab_H) (K : Int32 → ms_S → Prop) (S : ms_S) (i1 : Int32) : Prop := wp G 3 M_X5_addValue fr n0 (poI lLR tl K) 36 [some (.ref 3), some (.int i1)] [] (hLy lLR S tl)
def L_X5_addValue_55 (G : ab_G) (fr : Bool) (n0 : Nat) (tl : ab_H) (K : Int32 → ms_S → Prop) (S : ms_S) (i1 : Int32) : Prop := wp G 3 M_X5_addValue fr n0 (poI lLR tl K) 55 [some (.ref 3), some (.int i1)] [] (hLy lLR S tl)
def L_X5_addValue_62 (G : ab_G) (fr : Bool) (n0 : Nat) (tl : ab_H) (K : Int32 → ms_S → Prop) (S : ms_S)  : Prop := wp G 3 M_X5_addValue fr n0 (poI lLR tl K) 62 [none, none] [] (hLy lLR S tl)
def L_X5_addValue_111 (G : ab_G) (fr : Bool) (n0 : Nat) (tl : ab_H) (K : Int32 → ms_S → Prop) (S : ms_S) (t0 : Int32) : Prop := wp G 3 M_X5_addValue fr n0 (poI lLR tl K) 111 [none, none] [.int t0, .ref 5] (hLy lLR S tl)
def L_X5_addValue_114 (G : ab_G) (fr : Bool) (n0 : Nat) (tl : ab_H) (K : Int32 → ms_S → Prop) (S : ms_S)  : Prop := wp G 3 M_X5_addValue fr n0 (poI lLR tl K) 114 [none, none] [] (hLy lLR S tl)
set_option maxRecDepth 100000 in
set_option maxHeartbeats 4000000 in
theorem b_X5_addValue_34 {G : ab_G} {fr : Bool} {n0 : Nat} {tl : ab_H} {K : Int32 → ms_S → Prop} {S : ms_S} 
    (h : K (nI 1) S) :
    L_X5_addValue_34 G fr n0 tl K S  := by
  unfold L_X5_addValue_34
  refine ws_b rfl ?_
  exact wp_ri rfl rfl rfl ⟨_, _, rfl, rfl, h⟩
set_option maxRecDepth 100000 in
set_option maxHeartbeats 4000000 in
theorem b_X5_addValue_36 {G : ab_G} {fr : Bool} {n0 : Nat} {tl : ab_H} {K : Int32 → ms_S → Prop} {S : ms_S} {i1 : Int32}
    (h : (i1 = (nI 36) → (((nI 9999) < (S.1 0 7) → (L_X5_addValue_62 G fr n0 tl K S )) ∧ (¬ (nI 9999) < (S.1 0 7) → (L_X5_addValue_55 G fr n0 tl K S i1)))) ∧ (¬ i1 = (nI 36) → (L_X5_addValue_55 G fr n0 tl K S i1))) :
    L_X5_addValue_36 G fr n0 tl K S i1 := by
  unfold L_X5_addValue_36
  iterate 3 refine ws_b rfl ?_
  refine wp_ite (fun q => ?_) (fun q => ?_)
  · replace h := h.1 q
    iterate 5 refine ws_b rfl ?_
    refine wp_ite (fun q => ?_) (fun q => ?_)
    · replace h := h.1 q
      exact wp_weak (wk_n (wk_n wk_0)) h
    · replace h := h.2 q
      exact wp_weak (wk_s (wk_s wk_0)) h
  · replace h := h.2 q
    exact wp_weak (wk_s (wk_s wk_0)) h
set_option maxRecDepth 100000 in
set_option maxHeartbeats 4000000 in
theorem b_X5_addValue_55 {G : ab_G} {fr : Bool} {n0 : Nat} {tl : ab_H} {K : Int32 → ms_S → Prop} {S : ms_S} {i1 : Int32}
    (h : ((S.1 3 5) = 0 → (L_X5_addValue_62 G fr n0 tl K S )) ∧ (¬ (S.1 3 5) = 0 → ((i1 = (nI 10) → (ctU G 1 M_X5_push fr [.ref 3, .int (nI 10)] lLR (sVa S 3 5 ((S.1 3 5) - (nI 1))) tl (fun S1 => L_X5_addValue_114 G fr n0 tl K S1 ))) ∧ (¬ i1 = (nI 10) → ((i1 = (nI 36) → (L_X5_addValue_111 G fr n0 tl K (sVa S 3 5 ((S.1 3 5) - (nI 1))) (S.1 0 7))) ∧ (¬ i1 = (nI 36) → (L_X5_addValue_111 G fr n0 tl K (sVa S 3 5 ((S.1 3 5) - (nI 1))) (-i1)))))))) :
    L_X5_addValue_55 G fr n0 tl K S i1 := by
  unfold L_X5_addValue_55
  iterate 3 refine ws_b rfl ?_
  refine wp_ite (fun q => ?_) (fun q => ?_)
  · replace h := h.1 q
    exact wp_weak (wk_n (wk_n wk_0)) h
  · replace h := h.2 q
    iterate 9 refine ws_b rfl ?_
    refine wp_ite (fun q => ?_) (fun q => ?_)
    · replace h := h.1 q
      iterate 2 refine ws_b rfl ?_
      refine wp_cV rfl rfl o_X5_push v_X5_push h rfl rfl rfl (Nat.le_of_ble_eq_true rfl) (by decide) ?_
      clear h
      rintro r9 h9 ⟨S1, rfl, rfl, h⟩
      refine ws_b rfl ?_
      exact wp_weak (wk_n (wk_n wk_0)) h
    · replace h := h.2 q
      iterate 5 refine ws_b rfl ?_
      refine wp_ite (fun q => ?_) (fun q => ?_)
      · replace h := h.1 q
        iterate 4 refine ws_b rfl ?_
        exact wp_weak (wk_n (wk_n wk_0)) h
      · replace h := h.2 q
        iterate 2 refine ws_b rfl ?_
        exact wp_weak (wk_n (wk_n wk_0)) h
set_option maxRecDepth 100000 in
set_option maxHeartbeats 4000000 in
theorem b_X5_addValue_62 {G : ab_G} {fr : Bool} {n0 : Nat} {tl : ab_H} {K : Int32 → ms_S → Prop} {S : ms_S} 
    (h : K (nI 2) S) :
    L_X5_addValue_62 G fr n0 tl K S  := by
  unfold L_X5_addValue_62
  refine ws_b rfl ?_
  exact wp_ri rfl rfl rfl ⟨_, _, rfl, rfl, h⟩
set_option maxRecDepth 100000 in
set_option maxHeartbeats 4000000 in
theorem b_X5_addValue_111 {G : ab_G} {fr : Bool} {n0 : Nat} {tl : ab_H} {K : Int32 → ms_S → Prop} {S : ms_S} {t0 : Int32}
    (h : ctU G 1 M_X4_add fr [.ref 5, .int t0] lLR S tl (fun S1 => L_X5_addValue_114 G fr n0 tl K S1 )) :
    L_X5_addValue_111 G fr n0 tl K S t0 := by
  unfold L_X5_addValue_111
  refine wp_cV rfl rfl o_X4_add v_X4_add h rfl rfl rfl (Nat.le_of_ble_eq_true rfl) (by decide) ?_
  clear h
  rintro r9 h9 ⟨S1, rfl, rfl, h⟩
  exact wp_weak (wk_s (wk_s wk_0)) h
set_option maxRecDepth 100000 in
set_option maxHeartbeats 4000000 in
theorem b_X5_addValue_114 {G : ab_G} {fr : Bool} {n0 : Nat} {tl : ab_H} {K : Int32 → ms_S → Prop} {S : ms_S} 
    (h : K (nI 0) S) :
    L_X5_addValue_114 G fr n0 tl K S  := by
  unfold L_X5_addValue_114
  refine ws_b rfl ?_
  exact wp_ri rfl rfl rfl ⟨_, _, rfl, rfl, h⟩
set_option maxRecDepth 100000 in
set_option maxHeartbeats 4000000 in
theorem m_X5_addValue {G : ab_G} {fr : Bool} {tl : ab_H} {K : Int32 → ms_S → Prop} {S : ms_S} {i1 : Int32}
    (h : ∀ n0 : Nat, (i1 = (nI 32) → (ctI G 2 M_X5_openParenthesis fr [.ref 3] lLR S tl (fun v1 S1 => K v1 S1))) ∧ (¬ i1 = (nI 32) → ((i1 = (nI 10) → (L_X5_addValue_36 G fr n0 tl K S i1)) ∧ (¬ i1 = (nI 10) → ((i1 = (nI 36) → (L_X5_addValue_36 G fr n0 tl K S i1)) ∧ (¬ i1 = (nI 36) → ((i1 < (nI 1) → (L_X5_addValue_34 G fr n0 tl K S )) ∧ (¬ i1 < (nI 1) → ((i1 ≤ (nI 7) → (L_X5_addValue_36 G fr n0 tl K S i1)) ∧ (¬ i1 ≤ (nI 7) → (L_X5_addValue_34 G fr n0 tl K S ))))))))))) :
    ctI G 3 M_X5_addValue fr [.ref 3, .int i1] lLR S tl K := by
  refine wp_ct o_X5_addValue (Nat.le_of_ble_eq_true rfl) ?_
  replace h := h (hLy lLR S tl).length
  revert h
  generalize (hLy lLR S tl).length = n0
  intro h
  iterate 3 refine ws_b rfl ?_
  refine wp_ite (fun q => ?_) (fun q => ?_)
  · replace h := h.1 q
    refine ws_b rfl ?_
    refine wp_cV rfl rfl o_X5_openParenthesis v_X5_openParenthesis h rfl rfl rfl (Nat.le_of_ble_eq_true rfl) (by decide) ?_
    clear h
    rintro r9 h9 ⟨v1, S1, rfl, rfl, h⟩
    exact wp_ri rfl rfl rfl ⟨_, _, rfl, rfl, h⟩
  · replace h := h.2 q
    iterate 3 refine ws_b rfl ?_
    refine wp_ite (fun q => ?_) (fun q => ?_)
    · replace h := h.1 q
      exact wp_weak (wk_s (wk_s wk_0)) h
    · replace h := h.2 q
      iterate 3 refine ws_b rfl ?_
      refine wp_ite (fun q => ?_) (fun q => ?_)
      · replace h := h.1 q
        exact wp_weak (wk_s (wk_s wk_0)) h
      · replace h := h.2 q
        iterate 3 refine ws_b rfl ?_
        refine wp_ite (fun q => ?_) (fun q => ?_)
        · replace h := h.1 q
          exact wp_weak (wk_n (wk_n wk_0)) h
        · replace h := h.2 q
          iterate 3 refine ws_b rfl ?_
          refine wp_ite (fun q => ?_) (fun q => ?_)
          · replace h := h.1 q
            exact wp_weak (wk_s (wk_s wk_0)) h
          · replace h := h.2 q
            exact wp_weak (wk_n (wk_n wk_0)) h

