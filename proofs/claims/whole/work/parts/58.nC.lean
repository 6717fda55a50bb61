/-! ===== the reference: what to ask; the start of a text; how many a row needs; numbers of all kinds ===== -/
def L_X12_atFirst_2 (G : ab_G) (fr : Bool) (n0 : Nat) (tl : ab_H) (K : ms_S → Prop) (S : ms_S) (i1 : Int32) (i2 : Int32) : Prop := wp G 1 M_X12_atFirst fr n0 (poU lM tl K) 2 [some (.ref 0), some (.int i1), some (.int i2)] [] (hLy lM S tl)
def L_X12_atFirst_33 (G : ab_G) (fr : Bool) (n0 : Nat) (tl : ab_H) (K : ms_S → Prop) (S : ms_S) (i1 : Int32) (i2 : Int32) : Prop := wp G 1 M_X12_atFirst fr n0 (poU lM tl K) 33 [some (.ref 0), some (.int i1), some (.int i2)] [] (hLy lM S tl)
set_option maxRecDepth 100000 in
set_option maxHeartbeats 4000000 in
theorem b_X12_atFirst_2 {G : ab_G} {fr : Bool} {n0 : Nat} {tl : ab_H} {K : ms_S → Prop} {S : ms_S} {i1 : Int32} {i2 : Int32}
    (h : ((nI 9) ≤ i2 → (L_X12_atFirst_33 G fr n0 tl K S i1 (nI 0))) ∧ (¬ (nI 9) ≤ i2 → (vp_in i2 18 ∧ (vp_in (((nI 9) * i1) + i2) 18 ∧ (L_X12_atFirst_2 G fr n0 tl K (sA S 26 ((((nI 9) * i1) + i2).toNatClampNeg) (S.2.2.2.1 9 i2.toNatClampNeg)) i1 (i2 + nI 1)))))) :
    L_X12_atFirst_2 G fr n0 tl K S i1 i2 := by
  unfold L_X12_atFirst_2
  iterate 3 refine ws_b rfl ?_
  refine wp_ite (fun q => ?_) (fun q => ?_)
  · replace h := h.1 q
    iterate 2 refine ws_b rfl ?_
    exact wp_weak (wk_s (wk_s (wk_s wk_0))) h
  · replace h := h.2 q
    iterate 10 refine ws_b rfl ?_
    refine ws_g rfl h.1 ?_
    replace h := h.2
    refine ws_g rfl h.1 ?_
    replace h := h.2
    iterate 2 refine ws_b rfl ?_
    exact wp_weak (wk_s (wk_s (wk_s wk_0))) h
set_option maxRecDepth 100000 in
set_option maxHeartbeats 4000000 in
theorem b_X12_atFirst_33 {G : ab_G} {fr : Bool} {n0 : Nat} {tl : ab_H} {K : ms_S → Prop} {S : ms_S} {i1 : Int32} {i2 : Int32}
    (h : ((nI 5) ≤ i2 → (vp_in i1 2 ∧ (vp_in i1 2 ∧ (K (sA (sA S 29 i1.toNatClampNeg (nI 0)) 30 i1.toNatClampNeg (nI 0)))))) ∧ (¬ (nI 5) ≤ i2 → (vp_in (((nI 5) * i1) + i2) 10 ∧ (vp_in (((nI 5) * i1) + i2) 10 ∧ (L_X12_atFirst_33 G fr n0 tl K (sA (sA S 27 ((((nI 5) * i1) + i2).toNatClampNeg) (nI 0)) 28 ((((nI 5) * i1) + i2).toNatClampNeg) (nI 0)) i1 (i2 + nI 1)))))) :
    L_X12_atFirst_33 G fr n0 tl K S i1 i2 := by
  unfold L_X12_atFirst_33
  iterate 3 refine ws_b rfl ?_
  refine wp_ite (fun q => ?_) (fun q => ?_)
  · replace h := h.1 q
    iterate 4 refine ws_b rfl ?_
    refine ws_g rfl h.1 ?_
    replace h := h.2
    iterate 4 refine ws_b rfl ?_
    refine ws_g rfl h.1 ?_
    replace h := h.2
    exact wp_rv rfl rfl ⟨_, rfl, rfl, h⟩
  · replace h := h.2 q
    iterate 8 refine ws_b rfl ?_
    refine ws_g rfl h.1 ?_
    replace h := h.2
    iterate 8 refine ws_b rfl ?_
    refine ws_g rfl h.1 ?_
    replace h := h.2
    iterate 2 refine ws_b rfl ?_
    exact wp_weak (wk_s (wk_s (wk_s wk_0))) h
set_option maxRecDepth 100000 in
set_option maxHeartbeats 4000000 in
theorem m_X12_atFirst {G : ab_G} {fr : Bool} {tl : ab_H} {K : ms_S → Prop} {S : ms_S} {i1 : Int32}
    (h : ∀ n0 : Nat, L_X12_atFirst_2 G fr n0 tl K S i1 (nI 0)) :
    ctU G 1 M_X12_atFirst fr [.ref 0, .int i1] lM S tl K := by
  refine wp_ct o_X12_atFirst (Nat.le_of_ble_eq_true rfl) ?_
  replace h := h (hLy lM S tl).length
  revert h
  generalize (hLy lM S tl).length = n0
  intro h
  iterate 2 refine ws_b rfl ?_
  exact wp_weak (wk_s (wk_s (wk_s wk_0))) h
def L_X12_findP_3 (G : ab_G) (fr : Bool) (n0 : Nat) (tl : ab_H) (K : Int32 → ms_S → Prop) (S : ms_S) (i1 : Int32) (i2 : Int32) (i3 : Int32) (i4 : Int32) : Prop := wp G 1 M_X12_find fr n0 (poI lM tl K) 3 [some (.ref 5), some (.int i1), some (.int i2), some (.int i3), some (.int i4)] [] (hLy lM S tl)
set_option maxRecDepth 100000 in
set_option maxHeartbeats 4000000 in
theorem b_X12_findP_3 {G : ab_G} {fr : Bool} {n0 : Nat} {tl : ab_H} {K : Int32 → ms_S → Prop} {S : ms_S} {i1 : Int32} {i2 : Int32} {i3 : Int32} {i4 : Int32}
    (h : (i2 ≤ i4 → (K (-(nI 1)) S)) ∧ (¬ i2 ≤ i4 → (vp_in (i1 + i4) 18 ∧ (((S.2.2.2.1 5 ((i1 + i4).toNatClampNeg)) = i3 → (K i4 S)) ∧ (¬ (S.2.2.2.1 5 ((i1 + i4).toNatClampNeg)) = i3 → (L_X12_findP_3 G fr n0 tl K S i1 i2 i3 (i4 + nI 1))))))) :
    L_X12_findP_3 G fr n0 tl K S i1 i2 i3 i4 := by
  unfold L_X12_findP_3
  iterate 3 refine ws_b rfl ?_
  refine wp_ite (fun q => ?_) (fun q => ?_)
  · replace h := h.1 q
    refine ws_b rfl ?_
    exact wp_ri rfl rfl rfl ⟨_, _, rfl, rfl, h⟩
  · replace h := h.2 q
    iterate 4 refine ws_b rfl ?_
    refine ws_g rfl h.1 ?_
    replace h := h.2
    iterate 2 refine ws_b rfl ?_
    refine wp_ite (fun q => ?_) (fun q => ?_)
    · replace h := h.1 q
      refine ws_b rfl ?_
      exact wp_ri rfl rfl rfl ⟨_, _, rfl, rfl, h⟩
    · replace h := h.2 q
      iterate 2 refine ws_b rfl ?_
      exact wp_weak (wk_s (wk_s (wk_s (wk_s (wk_s wk_0))))) h
set_option maxRecDepth 100000 in
set_option maxHeartbeats 4000000 in
theorem m_X12_findP {G : ab_G} {fr : Bool} {tl : ab_H} {K : Int32 → ms_S → Prop} {S : ms_S} {i1 : Int32} {i2 : Int32} {i3 : Int32}
    (h : ∀ n0 : Nat, L_X12_findP_3 G fr n0 tl K S i1 i2 i3 (nI 0)) :
    ctI G 1 M_X12_find fr [.ref 5, .int i1, .int i2, .int i3] lM S tl K := by
  refine wp_ct o_X12_find (Nat.le_of_ble_eq_true rfl) ?_
  replace h := h (hLy lM S tl).length
  revert h
  generalize (hLy lM S tl).length = n0
  intro h
  iterate 2 refine ws_b rfl ?_
  exact wp_weak (wk_s (wk_s (wk_s (wk_s (wk_s wk_0))))) h
def L_X12_findH_3 (G : ab_G) (fr : Bool) (n0 : Nat) (tl : ab_H) (K : Int32 → ms_S → Prop) (S : ms_S) (i1 : Int32) (i2 : Int32) (i3 : Int32) (i4 : Int32) : Prop := wp G 1 M_X12_find fr n0 (poI lM tl K) 3 [some (.ref 10), some (.int i1), some (.int i2), some (.int i3), some (.int i4)] [] (hLy lM S tl)
set_option maxRecDepth 100000 in
set_option maxHeartbeats 4000000 in
theorem b_X12_findH_3 {G : ab_G} {fr : Bool} {n0 : Nat} {tl : ab_H} {K : Int32 → ms_S → Prop} {S : ms_S} {i1 : Int32} {i2 : Int32} {i3 : Int32} {i4 : Int32}
    (h : (i2 ≤ i4 → (K (-(nI 1)) S)) ∧ (¬ i2 ≤ i4 → (vp_in (i1 + i4) 10 ∧ (((S.2.2.2.1 10 ((i1 + i4).toNatClampNeg)) = i3 → (K i4 S)) ∧ (¬ (S.2.2.2.1 10 ((i1 + i4).toNatClampNeg)) = i3 → (L_X12_findH_3 G fr n0 tl K S i1 i2 i3 (i4 + nI 1))))))) :
    L_X12_findH_3 G fr n0 tl K S i1 i2 i3 i4 := by
  unfold L_X12_findH_3
  iterate 3 refine ws_b rfl ?_
  refine wp_ite (fun q => ?_) (fun q => ?_)
  · replace h := h.1 q
    refine ws_b rfl ?_
    exact wp_ri rfl rfl rfl ⟨_, _, rfl, rfl, h⟩
  · replace h := h.2 q
    iterate 4 refine ws_b rfl ?_
    refine ws_g rfl h.1 ?_
    replace h := h.2
    iterate 2 refine ws_b rfl ?_
    refine wp_ite (fun q => ?_) (fun q => ?_)
    · replace h := h.1 q
      refine ws_b rfl ?_
      exact wp_ri rfl rfl rfl ⟨_, _, rfl, rfl, h⟩
    · replace h := h.2 q
      iterate 2 refine ws_b rfl ?_
      exact wp_weak (wk_s (wk_s (wk_s (wk_s (wk_s wk_0))))) h
set_option maxRecDepth 100000 in
set_option maxHeartbeats 4000000 in
theorem m_X12_findH {G : ab_G} {fr : Bool} {tl : ab_H} {K : Int32 → ms_S → Prop} {S : ms_S} {i1 : Int32} {i2 : Int32} {i3 : Int32}
    (h : ∀ n0 : Nat, L_X12_findH_3 G fr n0 tl K S i1 i2 i3 (nI 0)) :
    ctI G 1 M_X12_find fr [.ref 10, .int i1, .int i2, .int i3] lM S tl K := by
  refine wp_ct o_X12_find (Nat.le_of_ble_eq_true rfl) ?_
  replace h := h (hLy lM S tl).length
  revert h
  generalize (hLy lM S tl).length = n0
  intro h
  iterate 2 refine ws_b rfl ?_
  exact wp_weak (wk_s (wk_s (wk_s (wk_s (wk_s wk_0))))) h
set_option maxRecDepth 100000 in
set_option maxHeartbeats 4000000 in
theorem m_X12_named {G : ab_G} {fr : Bool} {tl : ab_H} {K : Int32 → ms_S → Prop} {S : ms_S} {i1 : Int32} {i2 : Int32}
    (h : ∀ n0 : Nat, (i1 = 0 → (ctI G 1 M_X12_find fr [.ref 5, .int (nI 0), .int (S.1 0 12), .int i2] lM (sV S 2 (nI 0)) tl (fun v1 S1 => K v1 S1))) ∧ (¬ i1 = 0 → ((i1 = (nI 1) → (ctI G 1 M_X12_find fr [.ref 10, .int (nI 0), .int (S.1 0 13), .int i2] lM (sV S 2 (nI 0)) tl (fun v2 S2 => K v2 S2))) ∧ (¬ i1 = (nI 1) → (K (-(nI 1)) (sV S 2 (nI 0))))))) :
    ctI G 2 M_X12_named fr [.ref 0, .int i1, .int i2] lM S tl K := by
  refine wp_ct o_X12_named (Nat.le_of_ble_eq_true rfl) ?_
  replace h := h (hLy lM S tl).length
  revert h
  generalize (hLy lM S tl).length = n0
  intro h
  iterate 5 refine ws_b rfl ?_
  refine wp_ite (fun q => ?_) (fun q => ?_)
  · replace h := h.1 q
    iterate 6 refine ws_b rfl ?_
    refine wp_cS rfl rfl o_X12_find s_X12_find h rfl rfl (Nat.le_of_ble_eq_true rfl) (by decide) ?_
    clear h
    rintro r9 h9 ⟨v1, S1, rfl, rfl, h⟩
    refine ws_b rfl ?_
    exact wp_ri rfl rfl rfl ⟨_, _, rfl, rfl, h⟩
  · replace h := h.2 q
    iterate 3 refine ws_b rfl ?_
    refine wp_ite (fun q => ?_) (fun q => ?_)
    · replace h := h.1 q
      iterate 6 refine ws_b rfl ?_
      refine wp_cS rfl rfl o_X12_find s_X12_find h rfl rfl (Nat.le_of_ble_eq_true rfl) (by decide) ?_
      clear h
      rintro r9 h9 ⟨v2, S2, rfl, rfl, h⟩
      refine ws_b rfl ?_
      exact wp_ri rfl rfl rfl ⟨_, _, rfl, rfl, h⟩
    · replace h := h.2 q
      refine ws_b rfl ?_
      exact wp_ri rfl rfl rfl ⟨_, _, rfl, rfl, h⟩
def L_X12_feed_23 (G : ab_G) (fr : Bool) (n0 : Nat) (tl : ab_H) (K : Int32 → ms_S → Prop) (S : ms_S) (i1 : Int32) (i2 : Int32) (i3 : Int32) (i4 : Int32) (i5 : Int32) (i6 : Int32) : Prop := wp G 1 M_X12_feed fr n0 (poI lM tl K) 23 [some (.ref 0), some (.int i1), some (.int i2), some (.int i3), some (.int i4), some (.int i5), some (.int i6), none] [] (hLy lM S tl)
set_option maxRecDepth 100000 in
set_option maxHeartbeats 4000000 in
theorem b_X12_feed_23 {G : ab_G} {fr : Bool} {n0 : Nat} {tl : ab_H} {K : Int32 → ms_S → Prop} {S : ms_S} {i1 : Int32} {i2 : Int32} {i3 : Int32} {i4 : Int32} {i5 : Int32} {i6 : Int32}
    (h : ((nI 20) ≤ i6 → (K ((S.1 0 1) + (nI 20)) (sV S 1 ((S.1 0 1) + (nI 20))))) ∧ (¬ (nI 20) ≤ i6 → (((nI 4) ≤ i6 → (((nI 8) ≤ i6 → (((nI 12) ≤ i6 → (((nI 16) ≤ i6 → (¬ (nI 4) = 0 ∧ (vp_in ((S.1 0 1) + i6) 700 ∧ (L_X12_feed_23 G fr n0 tl K (sA S 1 (((S.1 0 1) + i6).toNatClampNeg) ((i5 >>> (((nI 24) - ((nI 8) * (i6 - i6 / (nI 4) * (nI 4)))) &&& 31)) &&& (nI 255))) i1 i2 i3 i4 i5 (i6 + nI 1))))) ∧ (¬ (nI 16) ≤ i6 → (¬ (nI 4) = 0 ∧ (vp_in ((S.1 0 1) + i6) 700 ∧ (L_X12_feed_23 G fr n0 tl K (sA S 1 (((S.1 0 1) + i6).toNatClampNeg) ((i4 >>> (((nI 24) - ((nI 8) * (i6 - i6 / (nI 4) * (nI 4)))) &&& 31)) &&& (nI 255))) i1 i2 i3 i4 i5 (i6 + nI 1))))))) ∧ (¬ (nI 12) ≤ i6 → (¬ (nI 4) = 0 ∧ (vp_in ((S.1 0 1) + i6) 700 ∧ (L_X12_feed_23 G fr n0 tl K (sA S 1 (((S.1 0 1) + i6).toNatClampNeg) ((i3 >>> (((nI 24) - ((nI 8) * (i6 - i6 / (nI 4) * (nI 4)))) &&& 31)) &&& (nI 255))) i1 i2 i3 i4 i5 (i6 + nI 1))))))) ∧ (¬ (nI 8) ≤ i6 → (¬ (nI 4) = 0 ∧ (vp_in ((S.1 0 1) + i6) 700 ∧ (L_X12_feed_23 G fr n0 tl K (sA S 1 (((S.1 0 1) + i6).toNatClampNeg) ((i2 >>> (((nI 24) - ((nI 8) * (i6 - i6 / (nI 4) * (nI 4)))) &&& 31)) &&& (nI 255))) i1 i2 i3 i4 i5 (i6 + nI 1))))))) ∧ (¬ (nI 4) ≤ i6 → (¬ (nI 4) = 0 ∧ (vp_in ((S.1 0 1) + i6) 700 ∧ (L_X12_feed_23 G fr n0 tl K (sA S 1 (((S.1 0 1) + i6).toNatClampNeg) ((i1 >>> (((nI 24) - ((nI 8) * (i6 - i6 / (nI 4) * (nI 4)))) &&& 31)) &&& (nI 255))) i1 i2 i3 i4 i5 (i6 + nI 1)))))))) :
    L_X12_feed_23 G fr n0 tl K S i1 i2 i3 i4 i5 i6 := by
  unfold L_X12_feed_23
  iterate 3 refine ws_b rfl ?_
  refine wp_ite (fun q => ?_) (fun q => ?_)
  · replace h := h.1 q
    iterate 8 refine ws_b rfl ?_
    exact wp_ri rfl rfl rfl ⟨_, _, rfl, rfl, h⟩
  · replace h := h.2 q
    iterate 3 refine ws_b rfl ?_
    refine wp_ite (fun q => ?_) (fun q => ?_)
    · replace h := h.1 q
      iterate 3 refine ws_b rfl ?_
      refine wp_ite (fun q => ?_) (fun q => ?_)
      · replace h := h.1 q
        iterate 3 refine ws_b rfl ?_
        refine wp_ite (fun q => ?_) (fun q => ?_)
        · replace h := h.1 q
          iterate 3 refine ws_b rfl ?_
          refine wp_ite (fun q => ?_) (fun q => ?_)
          · replace h := h.1 q
            iterate 13 refine ws_b rfl ?_
            refine ws_g rfl h.1 ?_
            replace h := h.2
            iterate 5 refine ws_b rfl ?_
            refine ws_g rfl h.1 ?_
            replace h := h.2
            iterate 2 refine ws_b rfl ?_
            exact wp_weak (wk_s (wk_s (wk_s (wk_s (wk_s (wk_s (wk_s (wk_n wk_0)))))))) h
          · replace h := h.2 q
            iterate 14 refine ws_b rfl ?_
            refine ws_g rfl h.1 ?_
            replace h := h.2
            iterate 5 refine ws_b rfl ?_
            refine ws_g rfl h.1 ?_
            replace h := h.2
            iterate 2 refine ws_b rfl ?_
            exact wp_weak (wk_s (wk_s (wk_s (wk_s (wk_s (wk_s (wk_s (wk_n wk_0)))))))) h
        · replace h := h.2 q
          iterate 14 refine ws_b rfl ?_
          refine ws_g rfl h.1 ?_
          replace h := h.2
          iterate 5 refine ws_b rfl ?_
          refine ws_g rfl h.1 ?_
          replace h := h.2
          iterate 2 refine ws_b rfl ?_
          exact wp_weak (wk_s (wk_s (wk_s (wk_s (wk_s (wk_s (wk_s (wk_n wk_0)))))))) h
      · replace h := h.2 q
        iterate 14 refine ws_b rfl ?_
        refine ws_g rfl h.1 ?_
        replace h := h.2
        iterate 5 refine ws_b rfl ?_
        refine ws_g rfl h.1 ?_
        replace h := h.2
        iterate 2 refine ws_b rfl ?_
        exact wp_weak (wk_s (wk_s (wk_s (wk_s (wk_s (wk_s (wk_s (wk_n wk_0)))))))) h
    · replace h := h.2 q
      iterate 14 refine ws_b rfl ?_
      refine ws_g rfl h.1 ?_
      replace h := h.2
      iterate 5 refine ws_b rfl ?_
      refine ws_g rfl h.1 ?_
      replace h := h.2
      iterate 2 refine ws_b rfl ?_
      exact wp_weak (wk_s (wk_s (wk_s (wk_s (wk_s (wk_s (wk_s (wk_n wk_0)))))))) h
set_option maxRecDepth 100000 in
set_option maxHeartbeats 4000000 in
theorem m_X12_feed {G : ab_G} {fr : Bool} {tl : ab_H} {K : Int32 → ms_S → Prop} {S : ms_S} {i1 : Int32} {i2 : Int32} {i3 : Int32} {i4 : Int32} {i5 : Int32}
    (h : ∀ n0 : Nat, (((S.1 0 1) + (nI 20)) ≤ (nI 700) → (L_X12_feed_23 G fr n0 tl K (sV S 2 (nI 0)) i1 i2 i3 i4 i5 (nI 0))) ∧ (¬ ((S.1 0 1) + (nI 20)) ≤ (nI 700) → (K (-(nI 1)) (sV S 2 (nI 0))))) :
    ctI G 1 M_X12_feed fr [.ref 0, .int i1, .int i2, .int i3, .int i4, .int i5] lM S tl K := by
  refine wp_ct o_X12_feed (Nat.le_of_ble_eq_true rfl) ?_
  replace h := h (hLy lM S tl).length
  revert h
  generalize (hLy lM S tl).length = n0
  intro h
  iterate 9 refine ws_b rfl ?_
  refine wp_ite (fun q => ?_) (fun q => ?_)
  · replace h := h.1 q
    iterate 2 refine ws_b rfl ?_
    exact wp_weak (wk_s (wk_s (wk_s (wk_s (wk_s (wk_s (wk_s (wk_s wk_0)))))))) h
  · replace h := h.2 q
    refine ws_b rfl ?_
    exact wp_ri rfl rfl rfl ⟨_, _, rfl, rfl, h⟩
/-! ask -/
def akS (f : Nat → Nat → Bool) (e : Nat) (z : Nat × Nat) (q : Nat × Nat) : Nat × Nat := if f q.1 q.2 = true then (z.1 + (if q.1 = e ∨ q.2 = e then 1 else 0), z.2 + 1) else z
def akF (f : Nat → Nat → Bool) (e k : Nat) : Nat × Nat := (prL.take k).foldl (akS f e) (0, 0)
theorem akF_s (f : Nat → Nat → Bool) (e : Nat) {x y : Nat} (hx : x < 7) (hy : y < 7) (hxy : x ≤ y) : akF f e (prO x (y + 1)) = akS f e (akF f e (prO x y)) (x, y) := by
  obtain ⟨e1, e2⟩ := prO_s x hx y hy hxy
  unfold akF
  rw [e1, e2, List.foldl_append]
  rfl
theorem akS_le (f : Nat → Nat → Bool) (e : Nat) (l : List (Nat × Nat)) : ∀ z : Nat × Nat, z.1 ≤ z.2 → (l.foldl (akS f e) z).1 ≤ (l.foldl (akS f e) z).2 ∧ (l.foldl (akS f e) z).2 ≤ z.2 + l.length := by
  induction l with
  | nil => intro z hz; exact ⟨hz, Nat.le_refl _⟩
  | cons q t ih =>
    intro z hz
    have h2 : (akS f e z q).1 ≤ (akS f e z q).2 ∧ (akS f e z q).2 ≤ z.2 + 1 := by
      unfold akS
      split
      · refine ⟨?_, Nat.le_refl _⟩
        dsimp only
        split <;> omega
      · exact ⟨hz, by omega⟩
    have h1 := ih (akS f e z q) h2.1
    rw [List.foldl_cons, List.length_cons]
    omega
theorem akF_le (f : Nat → Nat → Bool) (e k : Nat) : (akF f e k).1 ≤ (akF f e k).2 ∧ (akF f e k).2 ≤ 28 := by
  have h1 := akS_le f e (prL.take k) (0, 0) (Nat.le_refl _)
  have h2 : (prL.take k).length ≤ 28 := by rw [List.length_take]; exact Nat.min_le_right _ _
  unfold akF
  omega
abbrev akW (z : Nat × Nat) : Nat := if z.1 ≤ z.2 - z.1 then z.2 - z.1 else z.1
def akB (f : Nat → Nat → Bool) : Nat → Int32 × Nat
  | 0 => (-(nI 1), 0)
  | e + 1 => if (akB f e).1 < 0 ∨ akW (akF f e 28) < (akB f e).2 then (nI e, akW (akF f e 28)) else akB f e
theorem akB_le (f : Nat → Nat → Bool) : ∀ e, (akB f e).2 ≤ 28
  | 0 => by show 0 ≤ 28; decide
  | e + 1 => by
    have h1 := akB_le f e
    have h2 := akF_le f e 28
    unfold akB
    split
    · dsimp only [akW]
      split <;> omega
    · exact h1
def A_ask (g : tSG) (w : Int32) : Int32 := if inK w 0 1 = true then (if w = 0 then (akB (misK g.1.1 g.2.2.2.1 (jbC g.1)) 7).1 else nI (akB (misK g.1.1 g.2.2.2.1 (jbC g.1)) 7).2) else -(nI 1)
theorem c_ask (G : ab_G) (fr : Bool) (S : ms_S) (tl : ab_H) (g : tSG) (hI : mI S g) (w : Int32) :
    ctI G 5 M_X12_ask fr [.ref 0, .int w] lM S tl (fun v S' => qE g S' ∧ v = A_ask g w) := by
  refine ctI.ab (fun K hK => m_X12_ask (fun n0 => ?_))
  have h0 := qE_0 hI
  refine ctI.eq (c_isInK G fr _ w 0 1) ?_
  unfold A_ask at hK
  simp (disch := omega) only [x_vp, x_lt0, x_0le, x_eq0, x_0lt, x_le0, x_b0, x_b1, nI_leI, nI_ltI, nI_eq, nI_add, pk_mul, nI_clamp, true_and, and_true, true_implies, false_implies, implies_true, not_true_eq_false, not_false_eq_true]
  refine ⟨fun hb => hK _ _ ⟨h0, by rw [hb]; rfl⟩, fun hb => ?_⟩
  have hb : inK w 0 1 = true := by simpa using hb
  rw [if_pos hb] at hK
  obtain ⟨jw, _, hjw, rfl⟩ := inK_t (by decide) (by decide) hb
  refine ctU.eq (c_plainTried G fr _ tl) (q_joins G fr _ tl g h0 _ (fun S1 q1 _ j1 => q_counts G fr S1 tl g q1 _ (fun S2 q2 _ j2 c2 => ?_)))
  have hj : ∀ e, e < 7 → a_joined S2 e = nI (jbC g.1 e) ∧ jbC g.1 e < 2 ^ 7 := fun e he => ⟨by rw [j2]; exact j1 e he, bitsN_lt _ _⟩
  generalize hf : misK g.1.1 g.2.2.2.1 (jbC g.1) = f9 at hK
  have hn9 : ∀ x, x < 7 → ∀ y, y < 7 → ab_CT G 3 M_X12_isNoted fr [.ref 0, .int (nI x), .int (nI y)] (hM S2 tl) 0 0 (fun r h' => r = some (.int (bI (f9 x y))) ∧ h' = hM S2 tl) := fun x hx y hy => by
    rw [← hf]
    exact c_isNoted G fr S2 tl g.1.1 g.2.2.2.1 (jbC g.1) x y q2.1.1.1 q2.1.2.2.2.1 c2 hx hy hj
  have KE : ∀ f e, e + f = 7 → L_X12_ask_36 G fr n0 tl K S2 (nI jw) (akB f9 e).1 (nI (akB f9 e).2) (nI e) := by
    intro f
    induction f with
    | zero =>
      intro e he
      have : e = 7 := by omega
      subst this
      refine b_X12_ask_36 ?_
      simp only [Int32.le_refl, true_implies, not_true_eq_false, false_implies, and_true]
      exact ⟨fun q => hK _ _ ⟨q2, by rw [if_pos q]⟩, fun q => hK _ _ ⟨q2, by rw [if_neg q]⟩⟩
    | succ f ihe =>
      intro e he
      refine b_X12_ask_36 ?_
      simp (disch := omega) only [x_vp, x_lt0, x_0le, x_eq0, x_0lt, x_le0, x_b0, x_b1, nI_leI, nI_ltI, nI_eq, nI_add, pk_mul, nI_clamp, true_and, and_true, true_implies, false_implies, implies_true, not_true_eq_false, not_false_eq_true]
      refine ⟨fun q => absurd q (by omega), fun _ => ?_⟩
      have h9 := ihe (e + 1) (by omega)
      have hb28 := akB_le f9 e
      have KO : ∀ f x, x + f = 7 → L_X12_ask_52 G fr n0 tl K S2 (nI jw) (akB f9 e).1 (nI (akB f9 e).2) (nI e) (nI (akF f9 e (prO x x)).1) (nI (akF f9 e (prO x x)).2) (nI x) := by
        intro f
        induction f with
        | zero =>
          intro x hx
          have : x = 7 := by omega
          subst this
          obtain ⟨l1, l2⟩ := akF_le f9 e 28
          have hd : nI (akF f9 e 28).2 - nI (akF f9 e 28).1 = nI ((akF f9 e 28).2 - (akF f9 e 28).1) := pk_sub l1
          refine b_X12_ask_52 ?_
          rw [show prO 7 7 = 28 from rfl, hd]
          unfold akB at h9
          generalize akF f9 e 28 = z9 at h9 l1 l2
          generalize akB f9 e = y9 at h9 hb28
          dsimp only [akW] at h9
          refine ⟨fun _ => ⟨fun q => ?_, fun q => ?_⟩, fun q => absurd (Int32.le_refl _) q⟩
          · simp (disch := omega) only [x_vp, x_lt0, x_0le, x_eq0, x_0lt, x_le0, x_b0, x_b1, nI_leI, nI_ltI, nI_eq, nI_add, pk_mul, nI_clamp, true_and, and_true, true_implies, false_implies, implies_true, not_true_eq_false, not_false_eq_true, ] at q
            simp only [if_pos q] at h9
            refine ⟨fun r => ?_, fun r => ?_⟩
            · rw [if_pos (Or.inl r)] at h9
              rw [nI_add]
              exact h9
            · simp (disch := omega) only [x_vp, x_lt0, x_0le, x_eq0, x_0lt, x_le0, x_b0, x_b1, nI_leI, nI_ltI, nI_eq, nI_add, pk_mul, nI_clamp, true_and, and_true, true_implies, false_implies, implies_true, not_true_eq_false, not_false_eq_true]
              refine ⟨fun t => ?_, fun t => ?_⟩
              · rw [if_pos (Or.inr t)] at h9
                exact h9
              · rw [if_neg (fun z => z.elim r t)] at h9
                exact h9
          · simp (disch := omega) only [x_vp, x_lt0, x_0le, x_eq0, x_0lt, x_le0, x_b0, x_b1, nI_leI, nI_ltI, nI_eq, nI_add, pk_mul, nI_clamp, true_and, and_true, true_implies, false_implies, implies_true, not_true_eq_false, not_false_eq_true, ] at q
            simp only [if_neg q] at h9
            refine ⟨fun r => ?_, fun r => ?_⟩
            · rw [if_pos (Or.inl r)] at h9
              rw [nI_add]
              exact h9
            · simp (disch := omega) only [x_vp, x_lt0, x_0le, x_eq0, x_0lt, x_le0, x_b0, x_b1, nI_leI, nI_ltI, nI_eq, nI_add, pk_mul, nI_clamp, true_and, and_true, true_implies, false_implies, implies_true, not_true_eq_false, not_false_eq_true]
              refine ⟨fun t => ?_, fun t => ?_⟩
              · rw [if_pos (Or.inr t)] at h9
                exact h9
              · rw [if_neg (fun z => z.elim r t)] at h9
                exact h9
        | succ f ih =>
          intro x hx
          refine b_X12_ask_52 ?_
          refine ⟨fun q => absurd q (nI_ge (by omega) (by omega)), fun _ => ?_⟩
          have KI : ∀ f y, y + f = 7 → x ≤ y → L_X12_ask_63 G fr n0 tl K S2 (nI jw) (akB f9 e).1 (nI (akB f9 e).2) (nI e) (nI (akF f9 e (prO x y)).1) (nI (akF f9 e (prO x y)).2) (nI x) (nI y) := by
            intro f
            induction f with
            | zero =>
              intro y hy hxy
              have : y = 7 := by omega
              subst this
              refine b_X12_ask_63 ?_
              refine ⟨fun _ => ?_, fun q => absurd (Int32.le_refl _) q⟩
              rw [prO_7 x (by omega), nI_add]
              exact ih (x + 1) (by omega)
            | succ f ih2 =>
              intro y hy hxy
              have h9 := ih2 (y + 1) (by omega) (by omega)
              rw [akF_s f9 e (by omega) (by omega) hxy] at h9
              refine b_X12_ask_63 ?_
              simp (disch := omega) only [x_vp, x_lt0, x_0le, x_eq0, x_0lt, x_le0, x_b0, x_b1, nI_leI, nI_ltI, nI_eq, nI_add, pk_mul, nI_clamp, true_and, and_true, true_implies, false_implies, implies_true, not_true_eq_false, not_false_eq_true]
              refine ⟨fun q => absurd q (by omega), fun _ => ctI.eq (hn9 x (by omega) y (by omega)) ?_⟩
              unfold akS at h9
              cases hb9 : f9 x y with
              | false =>
                rw [show f9 (x, y).1 (x, y).2 = false from hb9] at h9
                exact ⟨fun _ => h9, fun q => absurd rfl q⟩
              | true =>
                rw [show f9 (x, y).1 (x, y).2 = true from hb9, if_pos rfl] at h9
                refine ⟨fun q => absurd q (by decide), fun _ => ⟨fun q => ?_, fun q => ⟨fun r => ?_, fun r => ?_⟩⟩⟩
                · rw [if_pos (Or.inl q)] at h9
                  exact h9
                · rw [if_pos (Or.inr r)] at h9
                  exact h9
                · rw [if_neg (fun z => z.elim q r)] at h9
                  exact h9
          exact KI (7 - x) x (by omega) (Nat.le_refl _)
      exact KO 7 0 rfl
  exact KE 7 0 rfl

