/-! ===== the program: the rest of the core, walks ===== -/
def L_X9_waysBefore_14 (G : ab_G) (fr : Bool) (n0 : Nat) (tl : ab_H) (K : Int64 → ms_S → Prop) (S : ms_S)  : Prop := wp G 1 M_X9_waysBefore fr n0 (poL lC tl K) 14 [none, none, none, none, none, none, none] [] (hLy lC S tl)
def L_X9_waysBefore_19 (G : ab_G) (fr : Bool) (n0 : Nat) (tl : ab_H) (K : Int64 → ms_S → Prop) (S : ms_S) (w0 : Int64) : Prop := wp G 1 M_X9_waysBefore fr n0 (poL lC tl K) 19 [none, none, none, none, none, none, none] [.long w0] (hLy lC S tl)
def L_X9_waysBefore_26 (G : ab_G) (fr : Bool) (n0 : Nat) (tl : ab_H) (K : Int64 → ms_S → Prop) (S : ms_S) (i1 : Int32) (i2 : Int32) (l4 : Int64) (i6 : Int32) : Prop := wp G 1 M_X9_waysBefore fr n0 (poL lC tl K) 26 [some (.ref 25), some (.int i1), some (.int i2), none, some (.long l4), none, some (.int i6)] [] (hLy lC S tl)
def L_X9_waysBefore_66 (G : ab_G) (fr : Bool) (n0 : Nat) (tl : ab_H) (K : Int64 → ms_S → Prop) (S : ms_S) (i1 : Int32) (i2 : Int32) (l4 : Int64) (i6 : Int32) : Prop := wp G 1 M_X9_waysBefore fr n0 (poL lC tl K) 66 [some (.ref 25), some (.int i1), some (.int i2), none, some (.long l4), none, some (.int i6)] [] (hLy lC S tl)
set_option maxRecDepth 100000 in
set_option maxHeartbeats 4000000 in
theorem b_X9_waysBefore_14 {G : ab_G} {fr : Bool} {n0 : Nat} {tl : ab_H} {K : Int64 → ms_S → Prop} {S : ms_S} 
    (h : L_X9_waysBefore_19 G fr n0 tl K S (lN 1)) :
    L_X9_waysBefore_14 G fr n0 tl K S  := by
  unfold L_X9_waysBefore_14
  iterate 2 refine ws_b rfl ?_
  exact wp_weak (wk_s (wk_s (wk_s (wk_s (wk_s (wk_s (wk_s wk_0))))))) h
set_option maxRecDepth 100000 in
set_option maxHeartbeats 4000000 in
theorem b_X9_waysBefore_19 {G : ab_G} {fr : Bool} {n0 : Nat} {tl : ab_H} {K : Int64 → ms_S → Prop} {S : ms_S} {w0 : Int64}
    (h : K w0 S) :
    L_X9_waysBefore_19 G fr n0 tl K S w0 := by
  unfold L_X9_waysBefore_19
  exact wp_rl rfl rfl ⟨_, _, rfl, rfl, h⟩
set_option maxRecDepth 100000 in
set_option maxHeartbeats 4000000 in
theorem b_X9_waysBefore_26 {G : ab_G} {fr : Bool} {n0 : Nat} {tl : ab_H} {K : Int64 → ms_S → Prop} {S : ms_S} {i1 : Int32} {i2 : Int32} {l4 : Int64} {i6 : Int32}
    (h : ((nI 7) ≤ i6 → (K l4 S)) ∧ (¬ (nI 7) ≤ i6 → (vp_in i2 7 ∧ (((lg_cmp ((((S.2.2.2.2 28 i2.toNatClampNeg).toUInt64 >>> (i6.toInt64.toUInt64 &&& Int64.toUInt64 63)).toInt64) &&& (lN 1)) (lN 1)) = 0 → (vp_in ((i1 * (nI 7)) + i6) 3584 ∧ (L_X9_waysBefore_66 G fr n0 tl K S i1 i2 (l4 + (S.2.2.2.2 29 (((i1 * (nI 7)) + i6).toNatClampNeg))) i6))) ∧ (¬ (lg_cmp ((((S.2.2.2.2 28 i2.toNatClampNeg).toUInt64 >>> (i6.toInt64.toUInt64 &&& Int64.toUInt64 63)).toInt64) &&& (lN 1)) (lN 1)) = 0 → (L_X9_waysBefore_66 G fr n0 tl K S i1 i2 l4 i6)))))) :
    L_X9_waysBefore_26 G fr n0 tl K S i1 i2 l4 i6 := by
  unfold L_X9_waysBefore_26
  iterate 3 refine ws_b rfl ?_
  refine wp_ite (fun q => ?_) (fun q => ?_)
  · replace h := h.1 q
    refine ws_b rfl ?_
    exact wp_rl rfl rfl ⟨_, _, rfl, rfl, h⟩
  · replace h := h.2 q
    iterate 3 refine ws_b rfl ?_
    refine ws_g rfl h.1 ?_
    replace h := h.2
    iterate 7 refine ws_b rfl ?_
    refine wp_ite (fun q => ?_) (fun q => ?_)
    · replace h := h.1 q
      iterate 8 refine ws_b rfl ?_
      refine ws_g rfl h.1 ?_
      replace h := h.2
      iterate 2 refine ws_b rfl ?_
      exact wp_weak (wk_s (wk_s (wk_s (wk_s (wk_s (wk_s (wk_s wk_0))))))) h
    · replace h := h.2 q
      exact wp_weak (wk_s (wk_s (wk_s (wk_s (wk_s (wk_s (wk_s wk_0))))))) h
set_option maxRecDepth 100000 in
set_option maxHeartbeats 4000000 in
theorem b_X9_waysBefore_66 {G : ab_G} {fr : Bool} {n0 : Nat} {tl : ab_H} {K : Int64 → ms_S → Prop} {S : ms_S} {i1 : Int32} {i2 : Int32} {l4 : Int64} {i6 : Int32}
    (h : L_X9_waysBefore_26 G fr n0 tl K S i1 i2 l4 (i6 + nI 1)) :
    L_X9_waysBefore_66 G fr n0 tl K S i1 i2 l4 i6 := by
  unfold L_X9_waysBefore_66
  iterate 2 refine ws_b rfl ?_
  exact wp_weak (wk_s (wk_s (wk_s (wk_s (wk_s (wk_s (wk_s wk_0))))))) h
set_option maxRecDepth 100000 in
set_option maxHeartbeats 4000000 in
theorem m_X9_waysBefore {G : ab_G} {fr : Bool} {tl : ab_H} {K : Int64 → ms_S → Prop} {S : ms_S} {i1 : Int32} {i2 : Int32} {i3 : Int32}
    (h : ∀ n0 : Nat, (i1 = 0 → ((i3 = (-(nI 1)) → (L_X9_waysBefore_14 G fr n0 tl K S )) ∧ (¬ i3 = (-(nI 1)) → ((i3 = i2 → (L_X9_waysBefore_14 G fr n0 tl K S )) ∧ (¬ i3 = i2 → (L_X9_waysBefore_19 G fr n0 tl K S (lN 0))))))) ∧ (¬ i1 = 0 → (L_X9_waysBefore_26 G fr n0 tl K S i1 i2 (lN 0) (nI 0)))) :
    ctL G 1 M_X9_waysBefore fr [.ref 25, .int i1, .int i2, .int i3] lC S tl K := by
  refine wp_ct o_X9_waysBefore (Nat.le_of_ble_eq_true rfl) ?_
  replace h := h (hLy lC S tl).length
  revert h
  generalize (hLy lC S tl).length = n0
  intro h
  iterate 2 refine ws_b rfl ?_
  refine wp_ite (fun q => ?_) (fun q => ?_)
  · replace h := h.1 q
    iterate 3 refine ws_b rfl ?_
    refine wp_ite (fun q => ?_) (fun q => ?_)
    · replace h := h.1 q
      exact wp_weak (wk_n (wk_n (wk_n (wk_n (wk_s (wk_s (wk_s wk_0))))))) h
    · replace h := h.2 q
      iterate 3 refine ws_b rfl ?_
      refine wp_ite (fun q => ?_) (fun q => ?_)
      · replace h := h.1 q
        exact wp_weak (wk_n (wk_n (wk_n (wk_n (wk_s (wk_s (wk_s wk_0))))))) h
      · replace h := h.2 q
        refine ws_b rfl ?_
        exact wp_weak (wk_n (wk_n (wk_n (wk_n (wk_s (wk_s (wk_s wk_0))))))) h
  · replace h := h.2 q
    iterate 4 refine ws_b rfl ?_
    exact wp_weak (wk_s (wk_s (wk_s (wk_n (wk_s (wk_s (wk_s wk_0))))))) h
def L_X9_countWaysOf_2 (G : ab_G) (fr : Bool) (n0 : Nat) (tl : ab_H) (K : ms_S → Prop) (S : ms_S) (i1 : Int32) (i2 : Int32) (i3 : Int32) : Prop := wp G 2 M_X9_countWaysOf fr n0 (poU lC tl K) 2 [some (.ref 25), some (.int i1), some (.int i2), some (.int i3), none, none, none] [] (hLy lC S tl)
def L_X9_countWaysOf_105 (G : ab_G) (fr : Bool) (n0 : Nat) (tl : ab_H) (K : ms_S → Prop) (S : ms_S) (i1 : Int32) (i2 : Int32) (i3 : Int32) : Prop := wp G 2 M_X9_countWaysOf fr n0 (poU lC tl K) 105 [some (.ref 25), some (.int i1), some (.int i2), some (.int i3), none, none, none] [] (hLy lC S tl)
set_option maxRecDepth 100000 in
set_option maxHeartbeats 4000000 in
theorem b_X9_countWaysOf_2 {G : ab_G} {fr : Bool} {n0 : Nat} {tl : ab_H} {K : ms_S → Prop} {S : ms_S} {i1 : Int32} {i2 : Int32} {i3 : Int32}
    (h : ((S.1 0 12) ≤ i3 → (K S)) ∧ (¬ (S.1 0 12) ≤ i3 → (((i1 &&& (((nI 1) <<< (i3 &&& 31)) ^^^ (-(nI 1)))) = i1 → (L_X9_countWaysOf_105 G fr n0 tl K S i1 i2 i3)) ∧ (¬ (i1 &&& (((nI 1) <<< (i3 &&& 31)) ^^^ (-(nI 1)))) = i1 → (vp_in i3 9 ∧ (vp_in i3 9 ∧ (vp_in ((i1 * (nI 7)) + (S.2.2.2.1 3 i3.toNatClampNeg)) 3584 ∧ (ctL G 1 M_X9_waysBefore fr [.ref 25, .int (i1 &&& (((nI 1) <<< (i3 &&& 31)) ^^^ (-(nI 1)))), .int (S.2.2.2.1 2 i3.toNatClampNeg), .int i2] lC S tl (fun v1 S1 => vp_in ((i1 * (nI 7)) + (S.2.2.2.1 3 i3.toNatClampNeg)) 3584 ∧ (((S.2.2.2.1 2 i3.toNatClampNeg) = (S.2.2.2.1 3 i3.toNatClampNeg) → (L_X9_countWaysOf_105 G fr n0 tl K (sL S1 29 (((i1 * (nI 7)) + (S.2.2.2.1 3 i3.toNatClampNeg)).toNatClampNeg) ((S.2.2.2.2 29 (((i1 * (nI 7)) + (S.2.2.2.1 3 i3.toNatClampNeg)).toNatClampNeg)) + v1)) i1 i2 i3)) ∧ (¬ (S.2.2.2.1 2 i3.toNatClampNeg) = (S.2.2.2.1 3 i3.toNatClampNeg) → (vp_in ((i1 * (nI 7)) + (S.2.2.2.1 2 i3.toNatClampNeg)) 3584 ∧ (ctL G 1 M_X9_waysBefore fr [.ref 25, .int (i1 &&& (((nI 1) <<< (i3 &&& 31)) ^^^ (-(nI 1)))), .int (S.2.2.2.1 3 i3.toNatClampNeg), .int i2] lC (sL S1 29 (((i1 * (nI 7)) + (S.2.2.2.1 3 i3.toNatClampNeg)).toNatClampNeg) ((S.2.2.2.2 29 (((i1 * (nI 7)) + (S.2.2.2.1 3 i3.toNatClampNeg)).toNatClampNeg)) + v1)) tl (fun v2 S2 => vp_in ((i1 * (nI 7)) + (S.2.2.2.1 2 i3.toNatClampNeg)) 3584 ∧ (L_X9_countWaysOf_105 G fr n0 tl K (sL S2 29 (((i1 * (nI 7)) + (S.2.2.2.1 2 i3.toNatClampNeg)).toNatClampNeg) ((vp_updL (S1.2.2.2.2 29) (((i1 * (nI 7)) + (S.2.2.2.1 3 i3.toNatClampNeg)).toNatClampNeg) ((S.2.2.2.2 29 (((i1 * (nI 7)) + (S.2.2.2.1 3 i3.toNatClampNeg)).toNatClampNeg)) + v1) (((i1 * (nI 7)) + (S.2.2.2.1 2 i3.toNatClampNeg)).toNatClampNeg)) + v2)) i1 i2 i3))))))))))))))) :
    L_X9_countWaysOf_2 G fr n0 tl K S i1 i2 i3 := by
  unfold L_X9_countWaysOf_2
  iterate 5 refine ws_b rfl ?_
  refine wp_ite (fun q => ?_) (fun q => ?_)
  · replace h := h.1 q
    exact wp_rv rfl rfl ⟨_, rfl, rfl, h⟩
  · replace h := h.2 q
    iterate 11 refine ws_b rfl ?_
    refine wp_ite (fun q => ?_) (fun q => ?_)
    · replace h := h.1 q
      exact wp_weak (wk_s (wk_s (wk_s (wk_s (wk_n (wk_s (wk_s wk_0))))))) h
    · replace h := h.2 q
      iterate 4 refine ws_b rfl ?_
      refine ws_g rfl h.1 ?_
      replace h := h.2
      iterate 5 refine ws_b rfl ?_
      refine ws_g rfl h.1 ?_
      replace h := h.2
      iterate 9 refine ws_b rfl ?_
      refine ws_g rfl h.1 ?_
      replace h := h.2
      iterate 4 refine ws_b rfl ?_
      refine wp_cV rfl rfl o_X9_waysBefore v_X9_waysBefore h rfl rfl rfl (Nat.le_of_ble_eq_true rfl) (by decide) ?_
      clear h
      rintro r9 h9 ⟨v1, S1, rfl, rfl, h⟩
      refine ws_b rfl ?_
      refine ws_g rfl h.1 ?_
      replace h := h.2
      iterate 3 refine ws_b rfl ?_
      refine wp_ite (fun q => ?_) (fun q => ?_)
      · replace h := h.1 q
        exact wp_weak (wk_s (wk_s (wk_s (wk_s (wk_n (wk_n (wk_n wk_0))))))) h
      · replace h := h.2 q
        iterate 8 refine ws_b rfl ?_
        refine ws_g rfl h.1 ?_
        replace h := h.2
        iterate 4 refine ws_b rfl ?_
        refine wp_cV rfl rfl o_X9_waysBefore v_X9_waysBefore h rfl rfl rfl (Nat.le_of_ble_eq_true rfl) (by decide) ?_
        clear h
        rintro r9 h9 ⟨v2, S2, rfl, rfl, h⟩
        refine ws_b rfl ?_
        refine ws_g rfl h.1 ?_
        replace h := h.2
        exact wp_weak (wk_s (wk_s (wk_s (wk_s (wk_n (wk_n (wk_n wk_0))))))) h
set_option maxRecDepth 100000 in
set_option maxHeartbeats 4000000 in
theorem b_X9_countWaysOf_105 {G : ab_G} {fr : Bool} {n0 : Nat} {tl : ab_H} {K : ms_S → Prop} {S : ms_S} {i1 : Int32} {i2 : Int32} {i3 : Int32}
    (h : L_X9_countWaysOf_2 G fr n0 tl K S i1 i2 (i3 + nI 1)) :
    L_X9_countWaysOf_105 G fr n0 tl K S i1 i2 i3 := by
  unfold L_X9_countWaysOf_105
  iterate 2 refine ws_b rfl ?_
  exact wp_weak (wk_s (wk_s (wk_s (wk_s (wk_s (wk_s (wk_s wk_0))))))) h
set_option maxRecDepth 100000 in
set_option maxHeartbeats 4000000 in
theorem m_X9_countWaysOf {G : ab_G} {fr : Bool} {tl : ab_H} {K : ms_S → Prop} {S : ms_S} {i1 : Int32} {i2 : Int32}
    (h : ∀ n0 : Nat, L_X9_countWaysOf_2 G fr n0 tl K S i1 i2 (nI 0)) :
    ctU G 2 M_X9_countWaysOf fr [.ref 25, .int i1, .int i2] lC S tl K := by
  refine wp_ct o_X9_countWaysOf (Nat.le_of_ble_eq_true rfl) ?_
  replace h := h (hLy lC S tl).length
  revert h
  generalize (hLy lC S tl).length = n0
  intro h
  iterate 2 refine ws_b rfl ?_
  exact wp_weak (wk_s (wk_s (wk_s (wk_s (wk_s (wk_s (wk_s wk_0))))))) h
def L_X9_countWays_12 (G : ab_G) (fr : Bool) (n0 : Nat) (tl : ab_H) (K : ms_S → Prop) (S : ms_S) (i2 : Int32) (i3 : Int32) (i4 : Int32) (i5 : Int32) : Prop := wp G 3 M_X9_countWays fr n0 (poU lC tl K) 12 [some (.ref 25), none, some (.int i2), some (.int i3), some (.int i4), some (.int i5), none] [] (hLy lC S tl)
def L_X9_countWays_37 (G : ab_G) (fr : Bool) (n0 : Nat) (tl : ab_H) (K : ms_S → Prop) (S : ms_S) (i2 : Int32) (i3 : Int32) (i4 : Int32) (i5 : Int32) (i6 : Int32) : Prop := wp G 3 M_X9_countWays fr n0 (poU lC tl K) 37 [some (.ref 25), none, some (.int i2), some (.int i3), some (.int i4), some (.int i5), some (.int i6)] [] (hLy lC S tl)
def L_X9_countWays_83 (G : ab_G) (fr : Bool) (n0 : Nat) (tl : ab_H) (K : ms_S → Prop) (S : ms_S) (i2 : Int32) (i3 : Int32) (i4 : Int32) (i5 : Int32) : Prop := wp G 3 M_X9_countWays fr n0 (poU lC tl K) 83 [some (.ref 25), none, some (.int i2), some (.int i3), some (.int i4), some (.int i5), none] [] (hLy lC S tl)
def L_X9_countWays_89 (G : ab_G) (fr : Bool) (n0 : Nat) (tl : ab_H) (K : ms_S → Prop) (S : ms_S)  : Prop := wp G 3 M_X9_countWays fr n0 (poU lC tl K) 89 [none, none, none, none, none, none, none] [] (hLy lC S tl)
set_option maxRecDepth 100000 in
set_option maxHeartbeats 4000000 in
theorem b_X9_countWays_12 {G : ab_G} {fr : Bool} {n0 : Nat} {tl : ab_H} {K : ms_S → Prop} {S : ms_S} {i2 : Int32} {i3 : Int32} {i4 : Int32} {i5 : Int32}
    (h : ((nI 512) ≤ i5 → (L_X9_countWays_89 G fr n0 tl K S )) ∧ (¬ (nI 512) ≤ i5 → ((i4 = i3 → (L_X9_countWays_89 G fr n0 tl K S )) ∧ (¬ i4 = i3 → (L_X9_countWays_37 G fr n0 tl K S i2 i3 ((i4 - i3) &&& i3) i5 (nI 0)))))) :
    L_X9_countWays_12 G fr n0 tl K S i2 i3 i4 i5 := by
  unfold L_X9_countWays_12
  iterate 3 refine ws_b rfl ?_
  refine wp_ite (fun q => ?_) (fun q => ?_)
  · replace h := h.1 q
    exact wp_weak (wk_n (wk_s (wk_n (wk_n (wk_n (wk_n (wk_s wk_0))))))) h
  · replace h := h.2 q
    iterate 3 refine ws_b rfl ?_
    refine wp_ite (fun q => ?_) (fun q => ?_)
    · replace h := h.1 q
      exact wp_weak (wk_n (wk_s (wk_n (wk_n (wk_n (wk_n (wk_s wk_0))))))) h
    · replace h := h.2 q
      iterate 8 refine ws_b rfl ?_
      exact wp_weak (wk_s (wk_s (wk_s (wk_s (wk_s (wk_s (wk_s wk_0))))))) h
set_option maxRecDepth 100000 in
set_option maxHeartbeats 4000000 in
theorem b_X9_countWays_37 {G : ab_G} {fr : Bool} {n0 : Nat} {tl : ab_H} {K : ms_S → Prop} {S : ms_S} {i2 : Int32} {i3 : Int32} {i4 : Int32} {i5 : Int32} {i6 : Int32}
    (h : ((nI 7) ≤ i6 → (vp_in i4 512 ∧ (((lg_cmp (S.2.2.2.2 26 i4.toNatClampNeg) (lN 0)) = 0 → (L_X9_countWays_83 G fr n0 tl K S i2 i3 i4 i5)) ∧ (¬ (lg_cmp (S.2.2.2.2 26 i4.toNatClampNeg) (lN 0)) = 0 → (ctU G 2 M_X9_countWaysOf fr [.ref 25, .int i4, .int i2] lC S tl (fun S1 => L_X9_countWays_83 G fr n0 tl K S1 i2 i3 i4 i5)))))) ∧ (¬ (nI 7) ≤ i6 → (vp_in ((i4 * (nI 7)) + i6) 3584 ∧ (L_X9_countWays_37 G fr n0 tl K (sL S 29 (((i4 * (nI 7)) + i6).toNatClampNeg) (lN 0)) i2 i3 i4 i5 (i6 + nI 1))))) :
    L_X9_countWays_37 G fr n0 tl K S i2 i3 i4 i5 i6 := by
  unfold L_X9_countWays_37
  iterate 3 refine ws_b rfl ?_
  refine wp_ite (fun q => ?_) (fun q => ?_)
  · replace h := h.1 q
    iterate 3 refine ws_b rfl ?_
    refine ws_g rfl h.1 ?_
    replace h := h.2
    iterate 3 refine ws_b rfl ?_
    refine wp_ite (fun q => ?_) (fun q => ?_)
    · replace h := h.1 q
      exact wp_weak (wk_s (wk_s (wk_s (wk_s (wk_s (wk_s (wk_n wk_0))))))) h
    · replace h := h.2 q
      iterate 3 refine ws_b rfl ?_
      refine wp_cV rfl rfl o_X9_countWaysOf v_X9_countWaysOf h rfl rfl rfl (Nat.le_of_ble_eq_true rfl) (by decide) ?_
      clear h
      rintro r9 h9 ⟨S1, rfl, rfl, h⟩
      exact wp_weak (wk_s (wk_s (wk_s (wk_s (wk_s (wk_s (wk_n wk_0))))))) h
  · replace h := h.2 q
    iterate 8 refine ws_b rfl ?_
    refine ws_g rfl h.1 ?_
    replace h := h.2
    iterate 2 refine ws_b rfl ?_
    exact wp_weak (wk_s (wk_s (wk_s (wk_s (wk_s (wk_s (wk_s wk_0))))))) h
set_option maxRecDepth 100000 in
set_option maxHeartbeats 4000000 in
theorem b_X9_countWays_83 {G : ab_G} {fr : Bool} {n0 : Nat} {tl : ab_H} {K : ms_S → Prop} {S : ms_S} {i2 : Int32} {i3 : Int32} {i4 : Int32} {i5 : Int32}
    (h : L_X9_countWays_12 G fr n0 tl K S i2 i3 i4 (i5 + nI 1)) :
    L_X9_countWays_83 G fr n0 tl K S i2 i3 i4 i5 := by
  unfold L_X9_countWays_83
  iterate 2 refine ws_b rfl ?_
  exact wp_weak (wk_s (wk_s (wk_s (wk_s (wk_s (wk_s (wk_s wk_0))))))) h
set_option maxRecDepth 100000 in
set_option maxHeartbeats 4000000 in
theorem b_X9_countWays_89 {G : ab_G} {fr : Bool} {n0 : Nat} {tl : ab_H} {K : ms_S → Prop} {S : ms_S} 
    (h : K S) :
    L_X9_countWays_89 G fr n0 tl K S  := by
  unfold L_X9_countWays_89
  exact wp_rv rfl rfl ⟨_, rfl, rfl, h⟩
set_option maxRecDepth 100000 in
set_option maxHeartbeats 4000000 in
theorem m_X9_countWays {G : ab_G} {fr : Bool} {tl : ab_H} {K : ms_S → Prop} {S : ms_S} {i1 : Int32} {i2 : Int32}
    (h : ∀ n0 : Nat, L_X9_countWays_12 G fr n0 tl K S i2 (i1 &&& (nI 511)) (nI 0) (nI 0)) :
    ctU G 3 M_X9_countWays fr [.ref 25, .int i1, .int i2] lC S tl K := by
  refine wp_ct o_X9_countWays (Nat.le_of_ble_eq_true rfl) ?_
  replace h := h (hLy lC S tl).length
  revert h
  generalize (hLy lC S tl).length = n0
  intro h
  iterate 8 refine ws_b rfl ?_
  exact wp_weak (wk_s (wk_n (wk_s (wk_s (wk_s (wk_s (wk_s wk_0))))))) h
def L_X9_allRows_12 (G : ab_G) (fr : Bool) (n0 : Nat) (tl : ab_H) (K : Int64 → ms_S → Prop) (S : ms_S)  : Prop := wp G 5 M_X9_allRows fr n0 (poL lC tl K) 12 [none, none, none, none, none] [] (hLy lC S tl)
def L_X9_allRows_25 (G : ab_G) (fr : Bool) (n0 : Nat) (tl : ab_H) (K : Int64 → ms_S → Prop) (S : ms_S) (i1 : Int32) (l2 : Int64) (i4 : Int32) : Prop := wp G 5 M_X9_allRows fr n0 (poL lC tl K) 25 [some (.ref 25), some (.int i1), some (.long l2), none, some (.int i4)] [] (hLy lC S tl)
set_option maxRecDepth 100000 in
set_option maxHeartbeats 4000000 in
theorem b_X9_allRows_12 {G : ab_G} {fr : Bool} {n0 : Nat} {tl : ab_H} {K : Int64 → ms_S → Prop} {S : ms_S} 
    (h : K (lN 0) S) :
    L_X9_allRows_12 G fr n0 tl K S  := by
  unfold L_X9_allRows_12
  refine ws_b rfl ?_
  exact wp_rl rfl rfl ⟨_, _, rfl, rfl, h⟩
set_option maxRecDepth 100000 in
set_option maxHeartbeats 4000000 in
theorem b_X9_allRows_25 {G : ab_G} {fr : Bool} {n0 : Nat} {tl : ab_H} {K : Int64 → ms_S → Prop} {S : ms_S} {i1 : Int32} {l2 : Int64} {i4 : Int32}
    (h : ((nI 7) ≤ i4 → (K l2 S)) ∧ (¬ (nI 7) ≤ i4 → (vp_in (((i1 &&& (nI 511)) * (nI 7)) + i4) 3584 ∧ (L_X9_allRows_25 G fr n0 tl K S i1 (l2 + (S.2.2.2.2 29 ((((i1 &&& (nI 511)) * (nI 7)) + i4).toNatClampNeg))) (i4 + nI 1))))) :
    L_X9_allRows_25 G fr n0 tl K S i1 l2 i4 := by
  unfold L_X9_allRows_25
  iterate 3 refine ws_b rfl ?_
  refine wp_ite (fun q => ?_) (fun q => ?_)
  · replace h := h.1 q
    refine ws_b rfl ?_
    exact wp_rl rfl rfl ⟨_, _, rfl, rfl, h⟩
  · replace h := h.2 q
    iterate 10 refine ws_b rfl ?_
    refine ws_g rfl h.1 ?_
    replace h := h.2
    iterate 4 refine ws_b rfl ?_
    exact wp_weak (wk_s (wk_s (wk_s (wk_s (wk_s wk_0))))) h
set_option maxRecDepth 100000 in
set_option maxHeartbeats 4000000 in
theorem m_X9_allRows {G : ab_G} {fr : Bool} {tl : ab_H} {K : Int64 → ms_S → Prop} {S : ms_S} {i1 : Int32}
    (h : ∀ n0 : Nat, (i1 = 0 → (L_X9_allRows_12 G fr n0 tl K S )) ∧ (¬ i1 = 0 → (ctI G 4 M_X9_isRow fr [.ref 25, .int i1] lC S tl (fun v1 S1 => (v1 = 0 → (L_X9_allRows_12 G fr n0 tl K S1 )) ∧ (¬ v1 = 0 → (ctU G 3 M_X9_countWays fr [.ref 25, .int i1, .int (-(nI 1))] lC S1 tl (fun S2 => L_X9_allRows_25 G fr n0 tl K S2 i1 (lN 0) (nI 0)))))))) :
    ctL G 5 M_X9_allRows fr [.ref 25, .int i1] lC S tl K := by
  refine wp_ct o_X9_allRows (Nat.le_of_ble_eq_true rfl) ?_
  replace h := h (hLy lC S tl).length
  revert h
  generalize (hLy lC S tl).length = n0
  intro h
  iterate 2 refine ws_b rfl ?_
  refine wp_ite (fun q => ?_) (fun q => ?_)
  · replace h := h.1 q
    exact wp_weak (wk_n (wk_n (wk_s (wk_s (wk_s wk_0))))) h
  · replace h := h.2 q
    iterate 2 refine ws_b rfl ?_
    refine wp_cV rfl rfl o_X9_isRow v_X9_isRow h rfl rfl rfl (Nat.le_of_ble_eq_true rfl) (by decide) ?_
    clear h
    rintro r9 h9 ⟨v1, S1, rfl, rfl, h⟩
    refine ws_b rfl ?_
    refine wp_ite (fun q => ?_) (fun q => ?_)
    · replace h := h.1 q
      exact wp_weak (wk_n (wk_n (wk_s (wk_s (wk_s wk_0))))) h
    · replace h := h.2 q
      iterate 3 refine ws_b rfl ?_
      refine wp_cV rfl rfl o_X9_countWays v_X9_countWays h rfl rfl rfl (Nat.le_of_ble_eq_true rfl) (by decide) ?_
      clear h
      rintro r9 h9 ⟨S2, rfl, rfl, h⟩
      iterate 4 refine ws_b rfl ?_
      exact wp_weak (wk_s (wk_s (wk_s (wk_s (wk_s wk_0))))) h
def L_X9_closedRows_18 (G : ab_G) (fr : Bool) (n0 : Nat) (tl : ab_H) (K : Int64 → ms_S → Prop) (S : ms_S) (i1 : Int32) (l2 : Int64) (l4 : Int64) (i6 : Int32) : Prop := wp G 4 M_X9_closedRows fr n0 (poL lC tl K) 18 [some (.ref 25), some (.int i1), some (.long l2), none, some (.long l4), none, some (.int i6), none] [] (hLy lC S tl)
def L_X9_closedRows_59 (G : ab_G) (fr : Bool) (n0 : Nat) (tl : ab_H) (K : Int64 → ms_S → Prop) (S : ms_S) (i1 : Int32) (l2 : Int64) (l4 : Int64) (i6 : Int32) (i7 : Int32) : Prop := wp G 4 M_X9_closedRows fr n0 (poL lC tl K) 59 [some (.ref 25), some (.int i1), some (.long l2), none, some (.long l4), none, some (.int i6), some (.int i7)] [] (hLy lC S tl)
def L_X9_closedRows_99 (G : ab_G) (fr : Bool) (n0 : Nat) (tl : ab_H) (K : Int64 → ms_S → Prop) (S : ms_S) (i1 : Int32) (l2 : Int64) (i6 : Int32) (i7 : Int32) (w0 : Int64) (w1 : Int64) : Prop := wp G 4 M_X9_closedRows fr n0 (poL lC tl K) 99 [some (.ref 25), some (.int i1), some (.long l2), none, none, none, some (.int i6), some (.int i7)] [.long w0, .long w1] (hLy lC S tl)
def L_X9_closedRows_108 (G : ab_G) (fr : Bool) (n0 : Nat) (tl : ab_H) (K : Int64 → ms_S → Prop) (S : ms_S) (i1 : Int32) (l2 : Int64) (l4 : Int64) (i6 : Int32) : Prop := wp G 4 M_X9_closedRows fr n0 (poL lC tl K) 108 [some (.ref 25), some (.int i1), some (.long l2), none, some (.long l4), none, some (.int i6), none] [] (hLy lC S tl)
set_option maxRecDepth 100000 in
set_option maxHeartbeats 4000000 in
theorem b_X9_closedRows_18 {G : ab_G} {fr : Bool} {n0 : Nat} {tl : ab_H} {K : Int64 → ms_S → Prop} {S : ms_S} {i1 : Int32} {l2 : Int64} {l4 : Int64} {i6 : Int32}
    (h : ((nI 7) ≤ i6 → (K l4 S)) ∧ (¬ (nI 7) ≤ i6 → (vp_in i6 7 ∧ (((lg_cmp ((((l2.toUInt64 >>> ((i6 * (nI 8)).toInt64.toUInt64 &&& Int64.toUInt64 63)).toInt64) &&& (S.2.2.2.2 28 i6.toNatClampNeg)) &&& ((127 : Int64))) (lN 0)) = 0 → (L_X9_closedRows_108 G fr n0 tl K S i1 l2 l4 i6)) ∧ (¬ (lg_cmp ((((l2.toUInt64 >>> ((i6 * (nI 8)).toInt64.toUInt64 &&& Int64.toUInt64 63)).toInt64) &&& (S.2.2.2.2 28 i6.toNatClampNeg)) &&& ((127 : Int64))) (lN 0)) = 0 → (ctU G 3 M_X9_countWays fr [.ref 25, .int i1, .int i6] lC S tl (fun S1 => L_X9_closedRows_59 G fr n0 tl K S1 i1 l2 l4 i6 (nI 0)))))))) :
    L_X9_closedRows_18 G fr n0 tl K S i1 l2 l4 i6 := by
  unfold L_X9_closedRows_18
  iterate 3 refine ws_b rfl ?_
  refine wp_ite (fun q => ?_) (fun q => ?_)
  · replace h := h.1 q
    refine ws_b rfl ?_
    exact wp_rl rfl rfl ⟨_, _, rfl, rfl, h⟩
  · replace h := h.2 q
    iterate 8 refine ws_b rfl ?_
    refine ws_g rfl h.1 ?_
    replace h := h.2
    iterate 6 refine ws_b rfl ?_
    refine wp_ite (fun q => ?_) (fun q => ?_)
    · replace h := h.1 q
      exact wp_weak (wk_s (wk_s (wk_s (wk_s (wk_s (wk_s (wk_s (wk_s wk_0)))))))) h
    · replace h := h.2 q
      iterate 3 refine ws_b rfl ?_
      refine wp_cV rfl rfl o_X9_countWays v_X9_countWays h rfl rfl rfl (Nat.le_of_ble_eq_true rfl) (by decide) ?_
      clear h
      rintro r9 h9 ⟨S1, rfl, rfl, h⟩
      iterate 2 refine ws_b rfl ?_
      exact wp_weak (wk_s (wk_s (wk_s (wk_s (wk_s (wk_s (wk_s (wk_s wk_0)))))))) h
set_option maxRecDepth 100000 in
set_option maxHeartbeats 4000000 in
theorem b_X9_closedRows_59 {G : ab_G} {fr : Bool} {n0 : Nat} {tl : ab_H} {K : Int64 → ms_S → Prop} {S : ms_S} {i1 : Int32} {l2 : Int64} {l4 : Int64} {i6 : Int32} {i7 : Int32}
    (h : ((nI 7) ≤ i7 → (L_X9_closedRows_108 G fr n0 tl K S i1 l2 l4 i6)) ∧ (¬ (nI 7) ≤ i7 → (ctI G 1 M_X9_meets fr [.ref 25, .int i7, .int i6] lC S tl (fun v1 S1 => (v1 = 0 → (L_X9_closedRows_99 G fr n0 tl K S1 i1 l2 i6 i7 (lN 0) l4)) ∧ (¬ v1 = 0 → (vp_in (((i1 &&& (nI 511)) * (nI 7)) + i7) 3584 ∧ (L_X9_closedRows_99 G fr n0 tl K S1 i1 l2 i6 i7 (S1.2.2.2.2 29 ((((i1 &&& (nI 511)) * (nI 7)) + i7).toNatClampNeg)) l4))))))) :
    L_X9_closedRows_59 G fr n0 tl K S i1 l2 l4 i6 i7 := by
  unfold L_X9_closedRows_59
  iterate 3 refine ws_b rfl ?_
  refine wp_ite (fun q => ?_) (fun q => ?_)
  · replace h := h.1 q
    exact wp_weak (wk_s (wk_s (wk_s (wk_s (wk_s (wk_s (wk_s (wk_n wk_0)))))))) h
  · replace h := h.2 q
    iterate 4 refine ws_b rfl ?_
    refine wp_cV rfl rfl o_X9_meets v_X9_meets h rfl rfl rfl (Nat.le_of_ble_eq_true rfl) (by decide) ?_
    clear h
    rintro r9 h9 ⟨v1, S1, rfl, rfl, h⟩
    refine ws_b rfl ?_
    refine wp_ite (fun q => ?_) (fun q => ?_)
    · replace h := h.1 q
      refine ws_b rfl ?_
      exact wp_weak (wk_s (wk_s (wk_s (wk_s (wk_n (wk_s (wk_s (wk_s wk_0)))))))) h
    · replace h := h.2 q
      iterate 9 refine ws_b rfl ?_
      refine ws_g rfl h.1 ?_
      replace h := h.2
      refine ws_b rfl ?_
      exact wp_weak (wk_s (wk_s (wk_s (wk_s (wk_n (wk_s (wk_s (wk_s wk_0)))))))) h
set_option maxRecDepth 100000 in
set_option maxHeartbeats 4000000 in
theorem b_X9_closedRows_99 {G : ab_G} {fr : Bool} {n0 : Nat} {tl : ab_H} {K : Int64 → ms_S → Prop} {S : ms_S} {i1 : Int32} {l2 : Int64} {i6 : Int32} {i7 : Int32} {w0 : Int64} {w1 : Int64}
    (h : L_X9_closedRows_59 G fr n0 tl K S i1 l2 (w1 + w0) i6 (i7 + nI 1)) :
    L_X9_closedRows_99 G fr n0 tl K S i1 l2 i6 i7 w0 w1 := by
  unfold L_X9_closedRows_99
  iterate 4 refine ws_b rfl ?_
  exact wp_weak (wk_s (wk_s (wk_s (wk_s (wk_s (wk_s (wk_s (wk_s wk_0)))))))) h
set_option maxRecDepth 100000 in
set_option maxHeartbeats 4000000 in
theorem b_X9_closedRows_108 {G : ab_G} {fr : Bool} {n0 : Nat} {tl : ab_H} {K : Int64 → ms_S → Prop} {S : ms_S} {i1 : Int32} {l2 : Int64} {l4 : Int64} {i6 : Int32}
    (h : L_X9_closedRows_18 G fr n0 tl K S i1 l2 l4 (i6 + nI 1)) :
    L_X9_closedRows_108 G fr n0 tl K S i1 l2 l4 i6 := by
  unfold L_X9_closedRows_108
  iterate 2 refine ws_b rfl ?_
  exact wp_weak (wk_s (wk_s (wk_s (wk_s (wk_s (wk_s (wk_s (wk_s wk_0)))))))) h
set_option maxRecDepth 100000 in
set_option maxHeartbeats 4000000 in
theorem m_X9_closedRows {G : ab_G} {fr : Bool} {tl : ab_H} {K : Int64 → ms_S → Prop} {S : ms_S} {i1 : Int32}
    (h : ∀ n0 : Nat, (i1 = 0 → (K (lN 0) S)) ∧ (¬ i1 = 0 → (ctL G 3 M_X9_reachOf fr [.ref 25, .int i1] lC S tl (fun v1 S1 => L_X9_closedRows_18 G fr n0 tl K S1 i1 v1 (lN 0) (nI 0))))) :
    ctL G 4 M_X9_closedRows fr [.ref 25, .int i1] lC S tl K := by
  refine wp_ct o_X9_closedRows (Nat.le_of_ble_eq_true rfl) ?_
  replace h := h (hLy lC S tl).length
  revert h
  generalize (hLy lC S tl).length = n0
  intro h
  iterate 2 refine ws_b rfl ?_
  refine wp_ite (fun q => ?_) (fun q => ?_)
  · replace h := h.1 q
    refine ws_b rfl ?_
    exact wp_rl rfl rfl ⟨_, _, rfl, rfl, h⟩
  · replace h := h.2 q
    iterate 2 refine ws_b rfl ?_
    refine wp_cV rfl rfl o_X9_reachOf v_X9_reachOf h rfl rfl rfl (Nat.le_of_ble_eq_true rfl) (by decide) ?_
    clear h
    rintro r9 h9 ⟨v1, S1, rfl, rfl, h⟩
    iterate 5 refine ws_b rfl ?_
    exact wp_weak (wk_s (wk_s (wk_s (wk_s (wk_s (wk_s (wk_s (wk_s wk_0)))))))) h
def L_X9_fits_16 (G : ab_G) (fr : Bool) (n0 : Nat) (tl : ab_H) (K : Int32 → ms_S → Prop) (S : ms_S) (i3 : Int32) (i4 : Int32) : Prop := wp G 4 M_X9_fits fr n0 (poI lC tl K) 16 [some (.ref 25), none, none, some (.int i3), some (.int i4), none, none, none] [] (hLy lC S tl)
def L_X9_fits_27 (G : ab_G) (fr : Bool) (n0 : Nat) (tl : ab_H) (K : Int32 → ms_S → Prop) (S : ms_S) (i3 : Int32) (i4 : Int32) (l5 : Int64) (i7 : Int32) : Prop := wp G 4 M_X9_fits fr n0 (poI lC tl K) 27 [some (.ref 25), none, none, some (.int i3), some (.int i4), some (.long l5), none, some (.int i7)] [] (hLy lC S tl)
def L_X9_fits_63 (G : ab_G) (fr : Bool) (n0 : Nat) (tl : ab_H) (K : Int32 → ms_S → Prop) (S : ms_S) (i3 : Int32) (i4 : Int32) (l5 : Int64) (i7 : Int32) : Prop := wp G 4 M_X9_fits fr n0 (poI lC tl K) 63 [some (.ref 25), none, none, some (.int i3), some (.int i4), some (.long l5), none, some (.int i7)] [] (hLy lC S tl)
def L_X9_fits_79 (G : ab_G) (fr : Bool) (n0 : Nat) (tl : ab_H) (K : Int32 → ms_S → Prop) (S : ms_S) (t0 : Int32) : Prop := wp G 4 M_X9_fits fr n0 (poI lC tl K) 79 [none, none, none, none, none, none, none, none] [.int t0] (hLy lC S tl)
set_option maxRecDepth 100000 in
set_option maxHeartbeats 4000000 in
theorem b_X9_fits_16 {G : ab_G} {fr : Bool} {n0 : Nat} {tl : ab_H} {K : Int32 → ms_S → Prop} {S : ms_S} {i3 : Int32} {i4 : Int32}
    (h : ctL G 3 M_X9_reachOf fr [.ref 25, .int i4] lC S tl (fun v1 S1 => L_X9_fits_27 G fr n0 tl K S1 i3 i4 v1 (nI 0))) :
    L_X9_fits_16 G fr n0 tl K S i3 i4 := by
  unfold L_X9_fits_16
  iterate 2 refine ws_b rfl ?_
  refine wp_cV rfl rfl o_X9_reachOf v_X9_reachOf h rfl rfl rfl (Nat.le_of_ble_eq_true rfl) (by decide) ?_
  clear h
  rintro r9 h9 ⟨v1, S1, rfl, rfl, h⟩
  iterate 3 refine ws_b rfl ?_
  exact wp_weak (wk_s (wk_s (wk_s (wk_s (wk_s (wk_s (wk_s (wk_s wk_0)))))))) h
set_option maxRecDepth 100000 in
set_option maxHeartbeats 4000000 in
theorem b_X9_fits_27 {G : ab_G} {fr : Bool} {n0 : Nat} {tl : ab_H} {K : Int32 → ms_S → Prop} {S : ms_S} {i3 : Int32} {i4 : Int32} {l5 : Int64} {i7 : Int32}
    (h : ((nI 7) ≤ i7 → ((i4 = 0 → (L_X9_fits_79 G fr n0 tl K S (nI 1))) ∧ (¬ i4 = 0 → (L_X9_fits_79 G fr n0 tl K S (nI 0))))) ∧ (¬ (nI 7) ≤ i7 → (ctI G 1 M_X9_meets fr [.ref 25, .int i3, .int i7] lC S tl (fun v1 S1 => (v1 = 0 → (L_X9_fits_63 G fr n0 tl K S1 i3 i4 l5 i7)) ∧ (¬ v1 = 0 → (((lg_cmp (((l5.toUInt64 >>> ((i7 * (nI 8)).toInt64.toUInt64 &&& Int64.toUInt64 63)).toInt64) &&& ((127 : Int64))) (lN 0)) = 0 → (L_X9_fits_63 G fr n0 tl K S1 i3 i4 l5 i7)) ∧ (¬ (lg_cmp (((l5.toUInt64 >>> ((i7 * (nI 8)).toInt64.toUInt64 &&& Int64.toUInt64 63)).toInt64) &&& ((127 : Int64))) (lN 0)) = 0 → (K (nI 1) S1)))))))) :
    L_X9_fits_27 G fr n0 tl K S i3 i4 l5 i7 := by
  unfold L_X9_fits_27
  iterate 3 refine ws_b rfl ?_
  refine wp_ite (fun q => ?_) (fun q => ?_)
  · replace h := h.1 q
    iterate 2 refine ws_b rfl ?_
    refine wp_ite (fun q => ?_) (fun q => ?_)
    · replace h := h.1 q
      iterate 2 refine ws_b rfl ?_
      exact wp_weak (wk_n (wk_s (wk_s (wk_n (wk_n (wk_n (wk_s (wk_n wk_0)))))))) h
    · replace h := h.2 q
      refine ws_b rfl ?_
      exact wp_weak (wk_n (wk_s (wk_s (wk_n (wk_n (wk_n (wk_s (wk_n wk_0)))))))) h
  · replace h := h.2 q
    iterate 3 refine ws_b rfl ?_
    refine wp_cV rfl rfl o_X9_meets v_X9_meets h rfl rfl rfl (Nat.le_of_ble_eq_true rfl) (by decide) ?_
    clear h
    rintro r9 h9 ⟨v1, S1, rfl, rfl, h⟩
    refine ws_b rfl ?_
    refine wp_ite (fun q => ?_) (fun q => ?_)
    · replace h := h.1 q
      exact wp_weak (wk_s (wk_s (wk_s (wk_s (wk_s (wk_s (wk_s (wk_s wk_0)))))))) h
    · replace h := h.2 q
      iterate 10 refine ws_b rfl ?_
      refine wp_ite (fun q => ?_) (fun q => ?_)
      · replace h := h.1 q
        exact wp_weak (wk_s (wk_s (wk_s (wk_s (wk_s (wk_s (wk_s (wk_s wk_0)))))))) h
      · replace h := h.2 q
        refine ws_b rfl ?_
        exact wp_ri rfl rfl rfl ⟨_, _, rfl, rfl, h⟩
set_option maxRecDepth 100000 in
set_option maxHeartbeats 4000000 in
theorem b_X9_fits_63 {G : ab_G} {fr : Bool} {n0 : Nat} {tl : ab_H} {K : Int32 → ms_S → Prop} {S : ms_S} {i3 : Int32} {i4 : Int32} {l5 : Int64} {i7 : Int32}
    (h : L_X9_fits_27 G fr n0 tl K S i3 i4 l5 (i7 + nI 1)) :
    L_X9_fits_63 G fr n0 tl K S i3 i4 l5 i7 := by
  unfold L_X9_fits_63
  iterate 2 refine ws_b rfl ?_
  exact wp_weak (wk_s (wk_s (wk_s (wk_s (wk_s (wk_s (wk_s (wk_s wk_0)))))))) h
set_option maxRecDepth 100000 in
set_option maxHeartbeats 4000000 in
theorem b_X9_fits_79 {G : ab_G} {fr : Bool} {n0 : Nat} {tl : ab_H} {K : Int32 → ms_S → Prop} {S : ms_S} {t0 : Int32}
    (h : (t0 = 0 ∨ t0 = 1) ∧ K t0 S) :
    L_X9_fits_79 G fr n0 tl K S t0 := by
  unfold L_X9_fits_79
  exact wp_ri rfl rfl (nw_b h.1) ⟨_, _, rfl, rfl, h.2⟩
set_option maxRecDepth 100000 in
set_option maxHeartbeats 4000000 in
theorem m_X9_fits {G : ab_G} {fr : Bool} {tl : ab_H} {K : Int32 → ms_S → Prop} {S : ms_S} {i1 : Int32} {i2 : Int32} {i3 : Int32} {i4 : Int32}
    (h : ∀ n0 : Nat, (i1 = (-(nI 1)) → (L_X9_fits_16 G fr n0 tl K S i3 i4)) ∧ (¬ i1 = (-(nI 1)) → (ctI G 1 M_X9_meets fr [.ref 25, .int i1, .int i2] lC S tl (fun v1 S1 => (v1 = 0 → (K (nI 0) S1)) ∧ (¬ v1 = 0 → (L_X9_fits_16 G fr n0 tl K S1 i3 i4)))))) :
    ctI G 4 M_X9_fits fr [.ref 25, .int i1, .int i2, .int i3, .int i4] lC S tl K := by
  refine wp_ct o_X9_fits (Nat.le_of_ble_eq_true rfl) ?_
  replace h := h (hLy lC S tl).length
  revert h
  generalize (hLy lC S tl).length = n0
  intro h
  iterate 3 refine ws_b rfl ?_
  refine wp_ite (fun q => ?_) (fun q => ?_)
  · replace h := h.1 q
    exact wp_weak (wk_s (wk_n (wk_n (wk_s (wk_s (wk_s (wk_s (wk_s wk_0)))))))) h
  · replace h := h.2 q
    iterate 3 refine ws_b rfl ?_
    refine wp_cV rfl rfl o_X9_meets v_X9_meets h rfl rfl rfl (Nat.le_of_ble_eq_true rfl) (by decide) ?_
    clear h
    rintro r9 h9 ⟨v1, S1, rfl, rfl, h⟩
    refine ws_b rfl ?_
    refine wp_ite (fun q => ?_) (fun q => ?_)
    · replace h := h.1 q
      refine ws_b rfl ?_
      exact wp_ri rfl rfl rfl ⟨_, _, rfl, rfl, h⟩
    · replace h := h.2 q
      exact wp_weak (wk_s (wk_n (wk_n (wk_s (wk_s (wk_s (wk_s (wk_s wk_0)))))))) h
def L_X9_firstBehind_2 (G : ab_G) (fr : Bool) (n0 : Nat) (tl : ab_H) (K : Int32 → ms_S → Prop) (S : ms_S) (i1 : Int32) (i2 : Int32) (i3 : Int32) : Prop := wp G 5 M_X9_firstBehind fr n0 (poI lC tl K) 2 [some (.ref 25), some (.int i1), some (.int i2), some (.int i3), none] [] (hLy lC S tl)
def L_X9_firstBehind_96 (G : ab_G) (fr : Bool) (n0 : Nat) (tl : ab_H) (K : Int32 → ms_S → Prop) (S : ms_S) (i1 : Int32) (i2 : Int32) (i3 : Int32) : Prop := wp G 5 M_X9_firstBehind fr n0 (poI lC tl K) 96 [some (.ref 25), some (.int i1), some (.int i2), some (.int i3), none] [] (hLy lC S tl)
set_option maxRecDepth 100000 in
set_option maxHeartbeats 4000000 in
theorem b_X9_firstBehind_2 {G : ab_G} {fr : Bool} {n0 : Nat} {tl : ab_H} {K : Int32 → ms_S → Prop} {S : ms_S} {i1 : Int32} {i2 : Int32} {i3 : Int32}
    (h : ((S.1 0 12) ≤ i3 → (K (-(nI 2)) S)) ∧ (¬ (S.1 0 12) ≤ i3 → (((i1 &&& (((nI 1) <<< (i3 &&& 31)) ^^^ (-(nI 1)))) = i1 → (L_X9_firstBehind_96 G fr n0 tl K S i1 i2 i3)) ∧ (¬ (i1 &&& (((nI 1) <<< (i3 &&& 31)) ^^^ (-(nI 1)))) = i1 → (vp_in i3 9 ∧ (vp_in i3 9 ∧ (ctI G 4 M_X9_fits fr [.ref 25, .int i2, .int (S.2.2.2.1 2 i3.toNatClampNeg), .int (S.2.2.2.1 3 i3.toNatClampNeg), .int (i1 &&& (((nI 1) <<< (i3 &&& 31)) ^^^ (-(nI 1))))] lC S tl (fun v1 S1 => (v1 = 0 → (vp_in i3 9 ∧ (vp_in i3 9 ∧ (ctI G 4 M_X9_fits fr [.ref 25, .int i2, .int (S1.2.2.2.1 3 i3.toNatClampNeg), .int (S1.2.2.2.1 2 i3.toNatClampNeg), .int (i1 &&& (((nI 1) <<< (i3 &&& 31)) ^^^ (-(nI 1))))] lC S1 tl (fun v2 S2 => (v2 = 0 → (L_X9_firstBehind_96 G fr n0 tl K S2 i1 i2 i3)) ∧ (¬ v2 = 0 → (K ((i3 * (nI 10)) + (nI 1)) S2))))))) ∧ (¬ v1 = 0 → (K (i3 * (nI 10)) S1)))))))))) :
    L_X9_firstBehind_2 G fr n0 tl K S i1 i2 i3 := by
  unfold L_X9_firstBehind_2
  iterate 5 refine ws_b rfl ?_
  refine wp_ite (fun q => ?_) (fun q => ?_)
  · replace h := h.1 q
    refine ws_b rfl ?_
    exact wp_ri rfl rfl rfl ⟨_, _, rfl, rfl, h⟩
  · replace h := h.2 q
    iterate 11 refine ws_b rfl ?_
    refine wp_ite (fun q => ?_) (fun q => ?_)
    · replace h := h.1 q
      exact wp_weak (wk_s (wk_s (wk_s (wk_s (wk_n wk_0))))) h
    · replace h := h.2 q
      iterate 6 refine ws_b rfl ?_
      refine ws_g rfl h.1 ?_
      replace h := h.2
      iterate 4 refine ws_b rfl ?_
      refine ws_g rfl h.1 ?_
      replace h := h.2
      refine ws_b rfl ?_
      refine wp_cV rfl rfl o_X9_fits v_X9_fits h rfl rfl rfl (Nat.le_of_ble_eq_true rfl) (by decide) ?_
      clear h
      rintro r9 h9 ⟨v1, S1, rfl, rfl, h⟩
      refine ws_b rfl ?_
      refine wp_ite (fun q => ?_) (fun q => ?_)
      · replace h := h.1 q
        iterate 6 refine ws_b rfl ?_
        refine ws_g rfl h.1 ?_
        replace h := h.2
        iterate 4 refine ws_b rfl ?_
        refine ws_g rfl h.1 ?_
        replace h := h.2
        refine ws_b rfl ?_
        refine wp_cV rfl rfl o_X9_fits v_X9_fits h rfl rfl rfl (Nat.le_of_ble_eq_true rfl) (by decide) ?_
        clear h
        rintro r9 h9 ⟨v2, S2, rfl, rfl, h⟩
        refine ws_b rfl ?_
        refine wp_ite (fun q => ?_) (fun q => ?_)
        · replace h := h.1 q
          exact wp_weak (wk_s (wk_s (wk_s (wk_s (wk_n wk_0))))) h
        · replace h := h.2 q
          iterate 5 refine ws_b rfl ?_
          exact wp_ri rfl rfl rfl ⟨_, _, rfl, rfl, h⟩
      · replace h := h.2 q
        iterate 3 refine ws_b rfl ?_
        exact wp_ri rfl rfl rfl ⟨_, _, rfl, rfl, h⟩
set_option maxRecDepth 100000 in
set_option maxHeartbeats 4000000 in
theorem b_X9_firstBehind_96 {G : ab_G} {fr : Bool} {n0 : Nat} {tl : ab_H} {K : Int32 → ms_S → Prop} {S : ms_S} {i1 : Int32} {i2 : Int32} {i3 : Int32}
    (h : L_X9_firstBehind_2 G fr n0 tl K S i1 i2 (i3 + nI 1)) :
    L_X9_firstBehind_96 G fr n0 tl K S i1 i2 i3 := by
  unfold L_X9_firstBehind_96
  iterate 2 refine ws_b rfl ?_
  exact wp_weak (wk_s (wk_s (wk_s (wk_s (wk_s wk_0))))) h
set_option maxRecDepth 100000 in
set_option maxHeartbeats 4000000 in
theorem m_X9_firstBehind {G : ab_G} {fr : Bool} {tl : ab_H} {K : Int32 → ms_S → Prop} {S : ms_S} {i1 : Int32} {i2 : Int32}
    (h : ∀ n0 : Nat, L_X9_firstBehind_2 G fr n0 tl K S i1 i2 (nI 0)) :
    ctI G 5 M_X9_firstBehind fr [.ref 25, .int i1, .int i2] lC S tl K := by
  refine wp_ct o_X9_firstBehind (Nat.le_of_ble_eq_true rfl) ?_
  replace h := h (hLy lC S tl).length
  revert h
  generalize (hLy lC S tl).length = n0
  intro h
  iterate 2 refine ws_b rfl ?_
  exact wp_weak (wk_s (wk_s (wk_s (wk_s (wk_s wk_0))))) h
def L_X9_placeInFirst_16 (G : ab_G) (fr : Bool) (n0 : Nat) (tl : ab_H) (K : Int32 → ms_S → Prop) (S : ms_S)  : Prop := wp G 6 M_X9_placeInFirst fr n0 (poI lC tl K) 16 [none, none, none, none, none, none, none, none] [] (hLy lC S tl)
def L_X9_placeInFirst_31 (G : ab_G) (fr : Bool) (n0 : Nat) (tl : ab_H) (K : Int32 → ms_S → Prop) (S : ms_S) (i2 : Int32) (i3 : Int32) (i4 : Int32) (i5 : Int32) (i6 : Int32) : Prop := wp G 6 M_X9_placeInFirst fr n0 (poI lC tl K) 31 [some (.ref 25), none, some (.int i2), some (.int i3), some (.int i4), some (.int i5), some (.int i6), none] [] (hLy lC S tl)
def L_X9_placeInFirst_102 (G : ab_G) (fr : Bool) (n0 : Nat) (tl : ab_H) (K : Int32 → ms_S → Prop) (S : ms_S) (i2 : Int32) (i3 : Int32) (i5 : Int32) (i6 : Int32) (t0 : Int32) : Prop := wp G 6 M_X9_placeInFirst fr n0 (poI lC tl K) 102 [some (.ref 25), none, some (.int i2), some (.int i3), none, some (.int i5), some (.int i6), none] [.int t0] (hLy lC S tl)
set_option maxRecDepth 100000 in
set_option maxHeartbeats 4000000 in
theorem b_X9_placeInFirst_16 {G : ab_G} {fr : Bool} {n0 : Nat} {tl : ab_H} {K : Int32 → ms_S → Prop} {S : ms_S} 
    (h : K (-(nI 2)) S) :
    L_X9_placeInFirst_16 G fr n0 tl K S  := by
  unfold L_X9_placeInFirst_16
  refine ws_b rfl ?_
  exact wp_ri rfl rfl rfl ⟨_, _, rfl, rfl, h⟩
set_option maxRecDepth 100000 in
set_option maxHeartbeats 4000000 in
theorem b_X9_placeInFirst_31 {G : ab_G} {fr : Bool} {n0 : Nat} {tl : ab_H} {K : Int32 → ms_S → Prop} {S : ms_S} {i2 : Int32} {i3 : Int32} {i4 : Int32} {i5 : Int32} {i6 : Int32}
    (h : (i2 < i6 → (K i5 S)) ∧ (¬ i2 < i6 → (ctI G 5 M_X9_firstBehind fr [.ref 25, .int i3, .int i4] lC S tl (fun v1 S1 => (0 ≤ v1 → (¬ (nI 10) = 0 ∧ (¬ (nI 10) = 0 ∧ (((v1 - v1 / (nI 10) * (nI 10)) = (nI 1) → (vp_in (v1 / (nI 10)) 9 ∧ (L_X9_placeInFirst_102 G fr n0 tl K S1 i2 (i3 &&& (((nI 1) <<< ((v1 / (nI 10)) &&& 31)) ^^^ (-(nI 1)))) v1 i6 (S1.2.2.2.1 2 ((v1 / (nI 10)).toNatClampNeg))))) ∧ (¬ (v1 - v1 / (nI 10) * (nI 10)) = (nI 1) → (vp_in (v1 / (nI 10)) 9 ∧ (L_X9_placeInFirst_102 G fr n0 tl K S1 i2 (i3 &&& (((nI 1) <<< ((v1 / (nI 10)) &&& 31)) ^^^ (-(nI 1)))) v1 i6 (S1.2.2.2.1 3 ((v1 / (nI 10)).toNatClampNeg))))))))) ∧ (¬ 0 ≤ v1 → (K (-(nI 2)) S1)))))) :
    L_X9_placeInFirst_31 G fr n0 tl K S i2 i3 i4 i5 i6 := by
  unfold L_X9_placeInFirst_31
  iterate 3 refine ws_b rfl ?_
  refine wp_ite (fun q => ?_) (fun q => ?_)
  · replace h := h.1 q
    refine ws_b rfl ?_
    exact wp_ri rfl rfl rfl ⟨_, _, rfl, rfl, h⟩
  · replace h := h.2 q
    iterate 3 refine ws_b rfl ?_
    refine wp_cV rfl rfl o_X9_firstBehind v_X9_firstBehind h rfl rfl rfl (Nat.le_of_ble_eq_true rfl) (by decide) ?_
    clear h
    rintro r9 h9 ⟨v1, S1, rfl, rfl, h⟩
    iterate 3 refine ws_b rfl ?_
    refine wp_ite (fun q => ?_) (fun q => ?_)
    · replace h := h.1 q
      iterate 2 refine ws_b rfl ?_
      refine ws_g rfl h.1 ?_
      replace h := h.2
      iterate 11 refine ws_b rfl ?_
      refine ws_g rfl h.1 ?_
      replace h := h.2
      iterate 2 refine ws_b rfl ?_
      refine wp_ite (fun q => ?_) (fun q => ?_)
      · replace h := h.1 q
        iterate 4 refine ws_b rfl ?_
        refine ws_g rfl h.1 ?_
        replace h := h.2
        refine ws_b rfl ?_
        exact wp_weak (wk_s (wk_s (wk_s (wk_s (wk_n (wk_s (wk_s (wk_n wk_0)))))))) h
      · replace h := h.2 q
        iterate 4 refine ws_b rfl ?_
        refine ws_g rfl h.1 ?_
        replace h := h.2
        exact wp_weak (wk_s (wk_s (wk_s (wk_s (wk_n (wk_s (wk_s (wk_n wk_0)))))))) h
    · replace h := h.2 q
      refine ws_b rfl ?_
      exact wp_ri rfl rfl rfl ⟨_, _, rfl, rfl, h⟩
set_option maxRecDepth 100000 in
set_option maxHeartbeats 4000000 in
theorem b_X9_placeInFirst_102 {G : ab_G} {fr : Bool} {n0 : Nat} {tl : ab_H} {K : Int32 → ms_S → Prop} {S : ms_S} {i2 : Int32} {i3 : Int32} {i5 : Int32} {i6 : Int32} {t0 : Int32}
    (h : L_X9_placeInFirst_31 G fr n0 tl K S i2 i3 t0 i5 (i6 + nI 1)) :
    L_X9_placeInFirst_102 G fr n0 tl K S i2 i3 i5 i6 t0 := by
  unfold L_X9_placeInFirst_102
  iterate 3 refine ws_b rfl ?_
  exact wp_weak (wk_s (wk_s (wk_s (wk_s (wk_s (wk_s (wk_s (wk_s wk_0)))))))) h
set_option maxRecDepth 100000 in
set_option maxHeartbeats 4000000 in
theorem m_X9_placeInFirst {G : ab_G} {fr : Bool} {tl : ab_H} {K : Int32 → ms_S → Prop} {S : ms_S} {i1 : Int32} {i2 : Int32}
    (h : ∀ n0 : Nat, ctI G 1 M_J6_bitCount fr [.int i1] lC S tl (fun v1 S1 => (v1 ≤ i2 → (L_X9_placeInFirst_16 G fr n0 tl K S1 )) ∧ (¬ v1 ≤ i2 → (ctI G 4 M_X9_isRow fr [.ref 25, .int i1] lC S1 tl (fun v2 S2 => (v2 = 0 → (L_X9_placeInFirst_16 G fr n0 tl K S2 )) ∧ (¬ v2 = 0 → (L_X9_placeInFirst_31 G fr n0 tl K S2 i2 i1 (-(nI 1)) (-(nI 2)) (nI 0)))))))) :
    ctI G 6 M_X9_placeInFirst fr [.ref 25, .int i1, .int i2] lC S tl K := by
  refine wp_ct o_X9_placeInFirst (Nat.le_of_ble_eq_true rfl) ?_
  replace h := h (hLy lC S tl).length
  revert h
  generalize (hLy lC S tl).length = n0
  intro h
  iterate 2 refine ws_b rfl ?_
  refine wp_cS rfl rfl o_J6_bitCount s_J6_bitCount h rfl rfl (Nat.le_of_ble_eq_true rfl) (by decide) ?_
  clear h
  rintro r9 h9 ⟨v1, S1, rfl, rfl, h⟩
  refine ws_b rfl ?_
  refine wp_ite (fun q => ?_) (fun q => ?_)
  · replace h := h.1 q
    exact wp_weak (wk_n (wk_n (wk_n (wk_s (wk_s (wk_s (wk_s (wk_s wk_0)))))))) h
  · replace h := h.2 q
    iterate 2 refine ws_b rfl ?_
    refine wp_cV rfl rfl o_X9_isRow v_X9_isRow h rfl rfl rfl (Nat.le_of_ble_eq_true rfl) (by decide) ?_
    clear h
    rintro r9 h9 ⟨v2, S2, rfl, rfl, h⟩
    refine ws_b rfl ?_
    refine wp_ite (fun q => ?_) (fun q => ?_)
    · replace h := h.1 q
      exact wp_weak (wk_n (wk_n (wk_n (wk_s (wk_s (wk_s (wk_s (wk_s wk_0)))))))) h
    · replace h := h.2 q
      iterate 8 refine ws_b rfl ?_
      exact wp_weak (wk_s (wk_n (wk_s (wk_s (wk_s (wk_s (wk_s (wk_s wk_0)))))))) h
def L_X9_fewestOf_21 (G : ab_G) (fr : Bool) (n0 : Nat) (tl : ab_H) (K : Int32 → ms_S → Prop) (S : ms_S) (i1 : Int32) (i2 : Int32) (i3 : Int32) (i4 : Int32) (i5 : Int32) (i6 : Int32) : Prop := wp G 2 M_X9_fewestOf fr n0 (poI lC tl K) 21 [some (.ref 25), some (.int i1), some (.int i2), some (.int i3), some (.int i4), some (.int i5), some (.int i6), none] [] (hLy lC S tl)
def L_X9_fewestOf_67 (G : ab_G) (fr : Bool) (n0 : Nat) (tl : ab_H) (K : Int32 → ms_S → Prop) (S : ms_S) (i1 : Int32) (i2 : Int32) (i3 : Int32) (i4 : Int32) (i5 : Int32) (i6 : Int32) : Prop := wp G 2 M_X9_fewestOf fr n0 (poI lC tl K) 67 [some (.ref 25), some (.int i1), some (.int i2), some (.int i3), some (.int i4), some (.int i5), some (.int i6), none] [] (hLy lC S tl)
def L_X9_fewestOf_90 (G : ab_G) (fr : Bool) (n0 : Nat) (tl : ab_H) (K : Int32 → ms_S → Prop) (S : ms_S) (i5 : Int32) : Prop := wp G 2 M_X9_fewestOf fr n0 (poI lC tl K) 90 [none, none, none, none, none, some (.int i5), none, none] [] (hLy lC S tl)
set_option maxRecDepth 100000 in
set_option maxHeartbeats 4000000 in
theorem b_X9_fewestOf_21 {G : ab_G} {fr : Bool} {n0 : Nat} {tl : ab_H} {K : Int32 → ms_S → Prop} {S : ms_S} {i1 : Int32} {i2 : Int32} {i3 : Int32} {i4 : Int32} {i5 : Int32} {i6 : Int32}
    (h : ((nI 512) ≤ i6 → (L_X9_fewestOf_90 G fr n0 tl K S i5)) ∧ (¬ (nI 512) ≤ i6 → (vp_in (i2 ||| i4) 512 ∧ (((lg_cmp (S.2.2.2.2 26 ((i2 ||| i4).toNatClampNeg)) (lN 0)) = 0 → (L_X9_fewestOf_67 G fr n0 tl K S i1 i2 i3 i4 i5 i6)) ∧ (¬ (lg_cmp (S.2.2.2.2 26 ((i2 ||| i4).toNatClampNeg)) (lN 0)) = 0 → (vp_in (i1 &&& ((i2 ||| i4) ^^^ (-(nI 1)))) 512 ∧ (L_X9_fewestOf_67 G fr n0 tl K S i1 i2 i3 i4 (if ((nI 1) + (S.2.2.2.1 30 ((i1 &&& ((i2 ||| i4) ^^^ (-(nI 1)))).toNatClampNeg))) < i5 then ((nI 1) + (S.2.2.2.1 30 ((i1 &&& ((i2 ||| i4) ^^^ (-(nI 1)))).toNatClampNeg))) else i5) i6))))))) :
    L_X9_fewestOf_21 G fr n0 tl K S i1 i2 i3 i4 i5 i6 := by
  unfold L_X9_fewestOf_21
  iterate 3 refine ws_b rfl ?_
  refine wp_ite (fun q => ?_) (fun q => ?_)
  · replace h := h.1 q
    exact wp_weak (wk_n (wk_n (wk_n (wk_n (wk_n (wk_s (wk_n (wk_s wk_0)))))))) h
  · replace h := h.2 q
    iterate 7 refine ws_b rfl ?_
    refine ws_g rfl h.1 ?_
    replace h := h.2
    iterate 3 refine ws_b rfl ?_
    refine wp_ite (fun q => ?_) (fun q => ?_)
    · replace h := h.1 q
      exact wp_weak (wk_s (wk_s (wk_s (wk_s (wk_s (wk_s (wk_s (wk_n wk_0)))))))) h
    · replace h := h.2 q
      iterate 9 refine ws_b rfl ?_
      refine ws_g rfl h.1 ?_
      replace h := h.2
      refine ws_b rfl ?_
      refine wp_min rfl rfl (Nat.le_of_ble_eq_true rfl) (by decide) ?_
      refine ws_b rfl ?_
      exact wp_weak (wk_s (wk_s (wk_s (wk_s (wk_s (wk_s (wk_s (wk_n wk_0)))))))) h
set_option maxRecDepth 100000 in
set_option maxHeartbeats 4000000 in
theorem b_X9_fewestOf_67 {G : ab_G} {fr : Bool} {n0 : Nat} {tl : ab_H} {K : Int32 → ms_S → Prop} {S : ms_S} {i1 : Int32} {i2 : Int32} {i3 : Int32} {i4 : Int32} {i5 : Int32} {i6 : Int32}
    (h : (i4 = i3 → (L_X9_fewestOf_90 G fr n0 tl K S i5)) ∧ (¬ i4 = i3 → (L_X9_fewestOf_21 G fr n0 tl K S i1 i2 i3 ((i4 - i3) &&& i3) i5 (i6 + nI 1)))) :
    L_X9_fewestOf_67 G fr n0 tl K S i1 i2 i3 i4 i5 i6 := by
  unfold L_X9_fewestOf_67
  iterate 3 refine ws_b rfl ?_
  refine wp_ite (fun q => ?_) (fun q => ?_)
  · replace h := h.1 q
    refine ws_b rfl ?_
    exact wp_weak (wk_n (wk_n (wk_n (wk_n (wk_n (wk_s (wk_n (wk_s wk_0)))))))) h
  · replace h := h.2 q
    iterate 8 refine ws_b rfl ?_
    exact wp_weak (wk_s (wk_s (wk_s (wk_s (wk_s (wk_s (wk_s (wk_s wk_0)))))))) h
set_option maxRecDepth 100000 in
set_option maxHeartbeats 4000000 in
theorem b_X9_fewestOf_90 {G : ab_G} {fr : Bool} {n0 : Nat} {tl : ab_H} {K : Int32 → ms_S → Prop} {S : ms_S} {i5 : Int32}
    (h : K i5 S) :
    L_X9_fewestOf_90 G fr n0 tl K S i5 := by
  unfold L_X9_fewestOf_90
  refine ws_b rfl ?_
  exact wp_ri rfl rfl rfl ⟨_, _, rfl, rfl, h⟩
set_option maxRecDepth 100000 in
set_option maxHeartbeats 4000000 in
theorem m_X9_fewestOf {G : ab_G} {fr : Bool} {tl : ab_H} {K : Int32 → ms_S → Prop} {S : ms_S} {i1 : Int32}
    (h : ∀ n0 : Nat, L_X9_fewestOf_21 G fr n0 tl K S i1 (i1 &&& (-i1)) (i1 &&& ((i1 &&& (-i1)) ^^^ (-(nI 1)))) (nI 0) (nI 9) (nI 0)) :
    ctI G 2 M_X9_fewestOf fr [.ref 25, .int i1] lC S tl K := by
  refine wp_ct o_X9_fewestOf (Nat.le_of_ble_eq_true rfl) ?_
  replace h := h (hLy lC S tl).length
  revert h
  generalize (hLy lC S tl).length = n0
  intro h
  iterate 17 refine ws_b rfl ?_
  exact wp_weak (wk_s (wk_s (wk_s (wk_s (wk_s (wk_s (wk_s (wk_s wk_0)))))))) h
def L_X9_fewestRows_24 (G : ab_G) (fr : Bool) (n0 : Nat) (tl : ab_H) (K : Int32 → ms_S → Prop) (S : ms_S) (i2 : Int32) (i3 : Int32) (i4 : Int32) : Prop := wp G 4 M_X9_fewestRows fr n0 (poI lC tl K) 24 [some (.ref 25), none, some (.int i2), some (.int i3), some (.int i4)] [] (hLy lC S tl)
def L_X9_fewestRows_60 (G : ab_G) (fr : Bool) (n0 : Nat) (tl : ab_H) (K : Int32 → ms_S → Prop) (S : ms_S) (i2 : Int32) : Prop := wp G 4 M_X9_fewestRows fr n0 (poI lC tl K) 60 [some (.ref 25), none, some (.int i2), none, none] [] (hLy lC S tl)
set_option maxRecDepth 100000 in
set_option maxHeartbeats 4000000 in
theorem b_X9_fewestRows_24 {G : ab_G} {fr : Bool} {n0 : Nat} {tl : ab_H} {K : Int32 → ms_S → Prop} {S : ms_S} {i2 : Int32} {i3 : Int32} {i4 : Int32}
    (h : ((nI 512) ≤ i4 → (L_X9_fewestRows_60 G fr n0 tl K S i2)) ∧ (¬ (nI 512) ≤ i4 → ((i3 = i2 → (L_X9_fewestRows_60 G fr n0 tl K S i2)) ∧ (¬ i3 = i2 → (ctI G 2 M_X9_fewestOf fr [.ref 25, .int ((i3 - i2) &&& i2)] lC S tl (fun v1 S1 => vp_in ((i3 - i2) &&& i2) 512 ∧ (L_X9_fewestRows_24 G fr n0 tl K (sA S1 30 (((i3 - i2) &&& i2).toNatClampNeg) v1) i2 ((i3 - i2) &&& i2) (i4 + nI 1)))))))) :
    L_X9_fewestRows_24 G fr n0 tl K S i2 i3 i4 := by
  unfold L_X9_fewestRows_24
  iterate 3 refine ws_b rfl ?_
  refine wp_ite (fun q => ?_) (fun q => ?_)
  · replace h := h.1 q
    exact wp_weak (wk_s (wk_s (wk_s (wk_n (wk_n wk_0))))) h
  · replace h := h.2 q
    iterate 3 refine ws_b rfl ?_
    refine wp_ite (fun q => ?_) (fun q => ?_)
    · replace h := h.1 q
      exact wp_weak (wk_s (wk_s (wk_s (wk_n (wk_n wk_0))))) h
    · replace h := h.2 q
      iterate 11 refine ws_b rfl ?_
      refine wp_cV rfl rfl o_X9_fewestOf v_X9_fewestOf h rfl rfl rfl (Nat.le_of_ble_eq_true rfl) (by decide) ?_
      clear h
      rintro r9 h9 ⟨v1, S1, rfl, rfl, h⟩
      refine ws_g rfl h.1 ?_
      replace h := h.2
      iterate 2 refine ws_b rfl ?_
      exact wp_weak (wk_s (wk_s (wk_s (wk_s (wk_s wk_0))))) h
set_option maxRecDepth 100000 in
set_option maxHeartbeats 4000000 in
theorem b_X9_fewestRows_60 {G : ab_G} {fr : Bool} {n0 : Nat} {tl : ab_H} {K : Int32 → ms_S → Prop} {S : ms_S} {i2 : Int32}
    (h : vp_in i2 512 ∧ (K (S.2.2.2.1 30 i2.toNatClampNeg) S)) :
    L_X9_fewestRows_60 G fr n0 tl K S i2 := by
  unfold L_X9_fewestRows_60
  iterate 3 refine ws_b rfl ?_
  refine ws_g rfl h.1 ?_
  replace h := h.2
  exact wp_ri rfl rfl rfl ⟨_, _, rfl, rfl, h⟩
set_option maxRecDepth 100000 in
set_option maxHeartbeats 4000000 in
theorem m_X9_fewestRows {G : ab_G} {fr : Bool} {tl : ab_H} {K : Int32 → ms_S → Prop} {S : ms_S} {i1 : Int32}
    (h : ∀ n0 : Nat, ctL G 3 M_X9_reachOf fr [.ref 25, .int (i1 &&& (nI 511))] lC S tl (fun v1 S1 => vp_in (nI 0) 512 ∧ (L_X9_fewestRows_24 G fr n0 tl K (sA S1 30 ((nI 0).toNatClampNeg) (nI 0)) (i1 &&& (nI 511)) (nI 0) (nI 0)))) :
    ctI G 4 M_X9_fewestRows fr [.ref 25, .int i1] lC S tl K := by
  refine wp_ct o_X9_fewestRows (Nat.le_of_ble_eq_true rfl) ?_
  replace h := h (hLy lC S tl).length
  revert h
  generalize (hLy lC S tl).length = n0
  intro h
  iterate 6 refine ws_b rfl ?_
  refine wp_cV rfl rfl o_X9_reachOf v_X9_reachOf h rfl rfl rfl (Nat.le_of_ble_eq_true rfl) (by decide) ?_
  clear h
  rintro r9 h9 ⟨v1, S1, rfl, rfl, h⟩
  iterate 5 refine ws_b rfl ?_
  refine ws_g rfl h.1 ?_
  replace h := h.2
  iterate 4 refine ws_b rfl ?_
  exact wp_weak (wk_s (wk_n (wk_s (wk_s (wk_s wk_0))))) h
def L_X9_setsThatMakeRow_9 (G : ab_G) (fr : Bool) (n0 : Nat) (tl : ab_H) (K : Int32 → ms_S → Prop) (S : ms_S) (i1 : Int32) (i2 : Int32) (i3 : Int32) (i4 : Int32) (i5 : Int32) (i6 : Int32) : Prop := wp G 5 M_X9_setsThatMakeRow fr n0 (poI lC tl K) 9 [some (.ref 25), some (.int i1), some (.int i2), some (.int i3), some (.int i4), some (.int i5), some (.int i6)] [] (hLy lC S tl)
def L_X9_setsThatMakeRow_40 (G : ab_G) (fr : Bool) (n0 : Nat) (tl : ab_H) (K : Int32 → ms_S → Prop) (S : ms_S) (i1 : Int32) (i2 : Int32) (i3 : Int32) (i4 : Int32) (i5 : Int32) (i6 : Int32) : Prop := wp G 5 M_X9_setsThatMakeRow fr n0 (poI lC tl K) 40 [some (.ref 25), some (.int i1), some (.int i2), some (.int i3), some (.int i4), some (.int i5), some (.int i6)] [] (hLy lC S tl)
def L_X9_setsThatMakeRow_63 (G : ab_G) (fr : Bool) (n0 : Nat) (tl : ab_H) (K : Int32 → ms_S → Prop) (S : ms_S) (i4 : Int32) : Prop := wp G 5 M_X9_setsThatMakeRow fr n0 (poI lC tl K) 63 [none, none, none, none, some (.int i4), none, none] [] (hLy lC S tl)
set_option maxRecDepth 100000 in
set_option maxHeartbeats 4000000 in
theorem b_X9_setsThatMakeRow_9 {G : ab_G} {fr : Bool} {n0 : Nat} {tl : ab_H} {K : Int32 → ms_S → Prop} {S : ms_S} {i1 : Int32} {i2 : Int32} {i3 : Int32} {i4 : Int32} {i5 : Int32} {i6 : Int32}
    (h : ((nI 512) ≤ i6 → (L_X9_setsThatMakeRow_63 G fr n0 tl K S i4)) ∧ (¬ (nI 512) ≤ i6 → (ctI G 1 M_J6_bitCount fr [.int i5] lC S tl (fun v1 S1 => (v1 = i3 → (ctI G 4 M_X9_isRow fr [.ref 25, .int (i1 ||| i5)] lC S1 tl (fun v2 S2 => (v2 = 0 → (L_X9_setsThatMakeRow_40 G fr n0 tl K S2 i1 i2 i3 i4 i5 i6)) ∧ (¬ v2 = 0 → (L_X9_setsThatMakeRow_40 G fr n0 tl K S2 i1 i2 i3 (i4 + nI 1) i5 i6))))) ∧ (¬ v1 = i3 → (L_X9_setsThatMakeRow_40 G fr n0 tl K S1 i1 i2 i3 i4 i5 i6)))))) :
    L_X9_setsThatMakeRow_9 G fr n0 tl K S i1 i2 i3 i4 i5 i6 := by
  unfold L_X9_setsThatMakeRow_9
  iterate 3 refine ws_b rfl ?_
  refine wp_ite (fun q => ?_) (fun q => ?_)
  · replace h := h.1 q
    exact wp_weak (wk_n (wk_n (wk_n (wk_n (wk_s (wk_n (wk_n wk_0))))))) h
  · replace h := h.2 q
    refine ws_b rfl ?_
    refine wp_cS rfl rfl o_J6_bitCount s_J6_bitCount h rfl rfl (Nat.le_of_ble_eq_true rfl) (by decide) ?_
    clear h
    rintro r9 h9 ⟨v1, S1, rfl, rfl, h⟩
    iterate 2 refine ws_b rfl ?_
    refine wp_ite (fun q => ?_) (fun q => ?_)
    · replace h := h.1 q
      iterate 4 refine ws_b rfl ?_
      refine wp_cV rfl rfl o_X9_isRow v_X9_isRow h rfl rfl rfl (Nat.le_of_ble_eq_true rfl) (by decide) ?_
      clear h
      rintro r9 h9 ⟨v2, S2, rfl, rfl, h⟩
      refine ws_b rfl ?_
      refine wp_ite (fun q => ?_) (fun q => ?_)
      · replace h := h.1 q
        exact wp_weak (wk_s (wk_s (wk_s (wk_s (wk_s (wk_s (wk_s wk_0))))))) h
      · replace h := h.2 q
        refine ws_b rfl ?_
        exact wp_weak (wk_s (wk_s (wk_s (wk_s (wk_s (wk_s (wk_s wk_0))))))) h
    · replace h := h.2 q
      exact wp_weak (wk_s (wk_s (wk_s (wk_s (wk_s (wk_s (wk_s wk_0))))))) h
set_option maxRecDepth 100000 in
set_option maxHeartbeats 4000000 in
theorem b_X9_setsThatMakeRow_40 {G : ab_G} {fr : Bool} {n0 : Nat} {tl : ab_H} {K : Int32 → ms_S → Prop} {S : ms_S} {i1 : Int32} {i2 : Int32} {i3 : Int32} {i4 : Int32} {i5 : Int32} {i6 : Int32}
    (h : (i5 = i2 → (L_X9_setsThatMakeRow_63 G fr n0 tl K S i4)) ∧ (¬ i5 = i2 → (L_X9_setsThatMakeRow_9 G fr n0 tl K S i1 i2 i3 i4 ((i5 - i2) &&& i2) (i6 + nI 1)))) :
    L_X9_setsThatMakeRow_40 G fr n0 tl K S i1 i2 i3 i4 i5 i6 := by
  unfold L_X9_setsThatMakeRow_40
  iterate 3 refine ws_b rfl ?_
  refine wp_ite (fun q => ?_) (fun q => ?_)
  · replace h := h.1 q
    refine ws_b rfl ?_
    exact wp_weak (wk_n (wk_n (wk_n (wk_n (wk_s (wk_n (wk_n wk_0))))))) h
  · replace h := h.2 q
    iterate 8 refine ws_b rfl ?_
    exact wp_weak (wk_s (wk_s (wk_s (wk_s (wk_s (wk_s (wk_s wk_0))))))) h
set_option maxRecDepth 100000 in
set_option maxHeartbeats 4000000 in
theorem b_X9_setsThatMakeRow_63 {G : ab_G} {fr : Bool} {n0 : Nat} {tl : ab_H} {K : Int32 → ms_S → Prop} {S : ms_S} {i4 : Int32}
    (h : K i4 S) :
    L_X9_setsThatMakeRow_63 G fr n0 tl K S i4 := by
  unfold L_X9_setsThatMakeRow_63
  refine ws_b rfl ?_
  exact wp_ri rfl rfl rfl ⟨_, _, rfl, rfl, h⟩
set_option maxRecDepth 100000 in
set_option maxHeartbeats 4000000 in
theorem m_X9_setsThatMakeRow {G : ab_G} {fr : Bool} {tl : ab_H} {K : Int32 → ms_S → Prop} {S : ms_S} {i1 : Int32} {i2 : Int32} {i3 : Int32}
    (h : ∀ n0 : Nat, L_X9_setsThatMakeRow_9 G fr n0 tl K S i1 i2 i3 (nI 0) (nI 0) (nI 0)) :
    ctI G 5 M_X9_setsThatMakeRow fr [.ref 25, .int i1, .int i2, .int i3] lC S tl K := by
  refine wp_ct o_X9_setsThatMakeRow (Nat.le_of_ble_eq_true rfl) ?_
  replace h := h (hLy lC S tl).length
  revert h
  generalize (hLy lC S tl).length = n0
  intro h
  iterate 6 refine ws_b rfl ?_
  exact wp_weak (wk_s (wk_s (wk_s (wk_s (wk_s (wk_s (wk_s wk_0))))))) h

