/-! ===== the program: laws, walks ===== -/
set_option maxRecDepth 100000 in
set_option maxHeartbeats 4000000 in
theorem m_X4_clear {G : ab_G} {fr : Bool} {tl : ab_H} {K : ms_S → Prop} {S : ms_S} 
    (h : ∀ n0 : Nat, K (sV (sV S 3 (nI 0)) 4 (nI 0))) :
    ctU G 1 M_X4_clear fr [.ref 0] lLw S tl K := by
  refine wp_ct o_X4_clear (Nat.le_of_ble_eq_true rfl) ?_
  replace h := h (hLy lLw S tl).length
  revert h
  generalize (hLy lLw S tl).length = n0
  intro h
  iterate 5 refine ws_b rfl ?_
  refine ws_g rfl (Or.inl rfl) ?_
  exact wp_rv rfl rfl ⟨_, rfl, rfl, h⟩
set_option maxRecDepth 100000 in
set_option maxHeartbeats 4000000 in
theorem m_X4_isTold {G : ab_G} {fr : Bool} {tl : ab_H} {K : Int32 → ms_S → Prop} {S : ms_S} 
    (h : ∀ n0 : Nat, ((S.1 0 3) ≤ 0 → (K (nI 0) S)) ∧ (¬ (S.1 0 3) ≤ 0 → (K (nI 1) S))) :
    ctI G 1 M_X4_isTold fr [.ref 0] lLw S tl K := by
  refine wp_ct o_X4_isTold (Nat.le_of_ble_eq_true rfl) ?_
  replace h := h (hLy lLw S tl).length
  revert h
  generalize (hLy lLw S tl).length = n0
  intro h
  iterate 3 refine ws_b rfl ?_
  refine wp_ite (fun q => ?_) (fun q => ?_)
  · replace h := h.1 q
    refine ws_b rfl ?_
    exact wp_ri rfl rfl rfl ⟨_, _, rfl, rfl, h⟩
  · replace h := h.2 q
    iterate 2 refine ws_b rfl ?_
    exact wp_ri rfl rfl rfl ⟨_, _, rfl, rfl, h⟩
set_option maxRecDepth 100000 in
set_option maxHeartbeats 4000000 in
theorem m_X4_add {G : ab_G} {fr : Bool} {tl : ab_H} {K : ms_S → Prop} {S : ms_S} {i1 : Int32}
    (h : ∀ n0 : Nat, ((nI 64) ≤ (S.1 0 3) → (K S)) ∧ (¬ (nI 64) ≤ (S.1 0 3) → (vp_in (S.1 0 3) 64 ∧ (((S.1 0 4) = 0 → ((i1 = (-(nI 7)) → (K (sV (sV (sA S 1 ((S.1 0 3).toNatClampNeg) i1) 3 ((S.1 0 3) + (nI 1))) 4 (nI 1)))) ∧ (¬ i1 = (-(nI 7)) → (K (sV (sV (sA S 1 ((S.1 0 3).toNatClampNeg) i1) 3 ((S.1 0 3) + (nI 1))) 4 (nI 0)))))) ∧ (¬ (S.1 0 4) = 0 → (K (sV (sV (sA S 1 ((S.1 0 3).toNatClampNeg) i1) 3 ((S.1 0 3) + (nI 1))) 4 (nI 1)))))))) :
    ctU G 1 M_X4_add fr [.ref 0, .int i1] lLw S tl K := by
  refine wp_ct o_X4_add (Nat.le_of_ble_eq_true rfl) ?_
  replace h := h (hLy lLw S tl).length
  revert h
  generalize (hLy lLw S tl).length = n0
  intro h
  iterate 4 refine ws_b rfl ?_
  refine wp_ite (fun q => ?_) (fun q => ?_)
  · replace h := h.1 q
    exact wp_rv rfl rfl ⟨_, rfl, rfl, h⟩
  · replace h := h.2 q
    iterate 5 refine ws_b rfl ?_
    refine ws_g rfl h.1 ?_
    replace h := h.2
    iterate 10 refine ws_b rfl ?_
    refine wp_ite (fun q => ?_) (fun q => ?_)
    · replace h := h.1 q
      iterate 3 refine ws_b rfl ?_
      refine wp_ite (fun q => ?_) (fun q => ?_)
      · replace h := h.1 q
        iterate 2 refine ws_b rfl ?_
        refine ws_g rfl (Or.inr rfl) ?_
        exact wp_rv rfl rfl ⟨_, rfl, rfl, h⟩
      · replace h := h.2 q
        refine ws_b rfl ?_
        refine ws_g rfl (Or.inl rfl) ?_
        exact wp_rv rfl rfl ⟨_, rfl, rfl, h⟩
    · replace h := h.2 q
      iterate 2 refine ws_b rfl ?_
      refine ws_g rfl (Or.inr rfl) ?_
      exact wp_rv rfl rfl ⟨_, rfl, rfl, h⟩
set_option maxRecDepth 100000 in
set_option maxHeartbeats 4000000 in
theorem m_X4_scene {G : ab_G} {fr : Bool} {tl : ab_H} {K : ms_S → Prop} {S : ms_S} {i1 : Int32} {i2 : Int32} {i3 : Int32}
    (h : ∀ n0 : Nat, vp_in (nI 5) 8 ∧ (vp_in (nI 6) 8 ∧ (vp_in (nI 7) 8 ∧ (K (sL (sL (sL S 3 ((nI 5).toNatClampNeg) i1.toInt64) 3 ((nI 6).toNatClampNeg) i2.toInt64) 3 ((nI 7).toNatClampNeg) i3.toInt64))))) :
    ctU G 1 M_X4_scene fr [.ref 0, .int i1, .int i2, .int i3] lLw S tl K := by
  refine wp_ct o_X4_scene (Nat.le_of_ble_eq_true rfl) ?_
  replace h := h (hLy lLw S tl).length
  revert h
  generalize (hLy lLw S tl).length = n0
  intro h
  iterate 5 refine ws_b rfl ?_
  refine ws_g rfl h.1 ?_
  replace h := h.2
  iterate 5 refine ws_b rfl ?_
  refine ws_g rfl h.1 ?_
  replace h := h.2
  iterate 5 refine ws_b rfl ?_
  refine ws_g rfl h.1 ?_
  replace h := h.2
  exact wp_rv rfl rfl ⟨_, rfl, rfl, h⟩
def L_X4_work_39 (G : ab_G) (fr : Bool) (n0 : Nat) (tl : ab_H) (K : Int64 → ms_S → Prop) (S : ms_S) (i5 : Int32) (i6 : Int32) : Prop := wp G 3 M_X4_work fr n0 (poL lLw tl K) 39 [some (.ref 0), none, none, none, none, some (.int i5), some (.int i6), none, none, none, none] [] (hLy lLw S tl)
def L_X4_work_81 (G : ab_G) (fr : Bool) (n0 : Nat) (tl : ab_H) (K : Int64 → ms_S → Prop) (S : ms_S) (i5 : Int32) (i6 : Int32) (i7 : Int32) (i8 : Int32) : Prop := wp G 3 M_X4_work fr n0 (poL lLw tl K) 81 [some (.ref 0), none, none, none, none, some (.int i5), some (.int i6), some (.int i7), some (.int i8), none, none] [] (hLy lLw S tl)
def L_X4_work_116 (G : ab_G) (fr : Bool) (n0 : Nat) (tl : ab_H) (K : Int64 → ms_S → Prop) (S : ms_S) (i5 : Int32) (i6 : Int32) (w0 : Int64) (t1 : Int32) : Prop := wp G 3 M_X4_work fr n0 (poL lLw tl K) 116 [some (.ref 0), none, none, none, none, some (.int i5), some (.int i6), none, none, none, none] [.long w0, .int t1, .ref 2] (hLy lLw S tl)
def L_X4_work_167 (G : ab_G) (fr : Bool) (n0 : Nat) (tl : ab_H) (K : Int64 → ms_S → Prop) (S : ms_S) (i5 : Int32) (i6 : Int32) (w0 : Int64) (t1 : Int32) : Prop := wp G 3 M_X4_work fr n0 (poL lLw tl K) 167 [some (.ref 0), none, none, none, none, some (.int i5), some (.int i6), none, none, none, none] [.long w0, .int t1, .ref 2] (hLy lLw S tl)
def L_X4_work_225 (G : ab_G) (fr : Bool) (n0 : Nat) (tl : ab_H) (K : Int64 → ms_S → Prop) (S : ms_S)  : Prop := wp G 3 M_X4_work fr n0 (poL lLw tl K) 225 [none, none, none, none, none, none, none, none, none, none, none] [] (hLy lLw S tl)
def L_X4_work_240 (G : ab_G) (fr : Bool) (n0 : Nat) (tl : ab_H) (K : Int64 → ms_S → Prop) (S : ms_S) (i5 : Int32) (i6 : Int32) : Prop := wp G 3 M_X4_work fr n0 (poL lLw tl K) 240 [some (.ref 0), none, none, none, none, some (.int i5), some (.int i6), none, none, none, none] [] (hLy lLw S tl)
def L_X4_work_246 (G : ab_G) (fr : Bool) (n0 : Nat) (tl : ab_H) (K : Int64 → ms_S → Prop) (S : ms_S) (i5 : Int32) : Prop := wp G 3 M_X4_work fr n0 (poL lLw tl K) 246 [some (.ref 0), none, none, none, none, some (.int i5), none, none, none, none, none] [] (hLy lLw S tl)
def L_X4_work_264 (G : ab_G) (fr : Bool) (n0 : Nat) (tl : ab_H) (K : Int64 → ms_S → Prop) (S : ms_S) (w0 : Int64) : Prop := wp G 3 M_X4_work fr n0 (poL lLw tl K) 264 [none, none, none, none, none, none, none, none, none, none, none] [.long w0] (hLy lLw S tl)
set_option maxRecDepth 100000 in
set_option maxHeartbeats 4000000 in
theorem b_X4_work_39 {G : ab_G} {fr : Bool} {n0 : Nat} {tl : ab_H} {K : Int64 → ms_S → Prop} {S : ms_S} {i5 : Int32} {i6 : Int32}
    (h : ((S.1 0 3) ≤ i6 → (L_X4_work_246 G fr n0 tl K S i5)) ∧ (¬ (S.1 0 3) ≤ i6 → (((nI 64) ≤ i6 → (L_X4_work_246 G fr n0 tl K S i5)) ∧ (¬ (nI 64) ≤ i6 → (vp_in i6 64 ∧ ((0 ≤ (S.2.2.2.1 1 i6.toNatClampNeg) → (L_X4_work_81 G fr n0 tl K S i5 i6 (S.2.2.2.1 1 i6.toNatClampNeg) (-(S.2.2.2.1 1 i6.toNatClampNeg)))) ∧ (¬ 0 ≤ (S.2.2.2.1 1 i6.toNatClampNeg) → (((nI 7) < (-(S.2.2.2.1 1 i6.toNatClampNeg)) → (((-(S.2.2.2.1 1 i6.toNatClampNeg)) = (nI 10) → (((nI 1) ≤ i5 → (vp_in (i5 - (nI 1)) 64 ∧ (((lg_cmp (S.2.2.2.2 2 ((i5 - (nI 1)).toNatClampNeg)) (lN 0)) = 0 → (L_X4_work_167 G fr n0 tl K S i5 i6 (lN 1) (i5 - (nI 1)))) ∧ (¬ (lg_cmp (S.2.2.2.2 2 ((i5 - (nI 1)).toNatClampNeg)) (lN 0)) = 0 → (L_X4_work_167 G fr n0 tl K S i5 i6 (lN 0) (i5 - (nI 1))))))) ∧ (¬ (nI 1) ≤ i5 → (K ((-9223372036854775808 : Int64)) S)))) ∧ (¬ (-(S.2.2.2.1 1 i6.toNatClampNeg)) = (nI 10) → (((nI 2) ≤ i5 → (vp_in ((i5 + -(nI 1)) - (nI 1)) 64 ∧ (vp_in (i5 + -(nI 1)) 64 ∧ (ctL G 2 M_X4_resultOf fr [.int (-(S.2.2.2.1 1 i6.toNatClampNeg)), .long (S.2.2.2.2 2 (((i5 + -(nI 1)) - (nI 1)).toNatClampNeg)), .long (S.2.2.2.2 2 ((i5 + -(nI 1)).toNatClampNeg))] lLw S tl (fun v1 S1 => (0 < (lg_cmp v1 ((1000000000000 : Int64))) → (L_X4_work_225 G fr n0 tl K S1 )) ∧ (¬ 0 < (lg_cmp v1 ((1000000000000 : Int64))) → ((0 ≤ (lg_cmp v1 ((-1000000000000 : Int64))) → (vp_in ((i5 + -(nI 1)) - (nI 1)) 64 ∧ (L_X4_work_240 G fr n0 tl K (sL S1 2 (((i5 + -(nI 1)) - (nI 1)).toNatClampNeg) v1) (i5 + -(nI 1)) i6))) ∧ (¬ 0 ≤ (lg_cmp v1 ((-1000000000000 : Int64))) → (L_X4_work_225 G fr n0 tl K S1 ))))))))) ∧ (¬ (nI 2) ≤ i5 → (K ((-9223372036854775808 : Int64)) S)))))) ∧ (¬ (nI 7) < (-(S.2.2.2.1 1 i6.toNatClampNeg)) → (L_X4_work_81 G fr n0 tl K S i5 i6 (S.2.2.2.1 1 i6.toNatClampNeg) (-(S.2.2.2.1 1 i6.toNatClampNeg)))))))))))) :
    L_X4_work_39 G fr n0 tl K S i5 i6 := by
  unfold L_X4_work_39
  iterate 4 refine ws_b rfl ?_
  refine wp_ite (fun q => ?_) (fun q => ?_)
  · replace h := h.1 q
    exact wp_weak (wk_s (wk_s (wk_s (wk_s (wk_s (wk_s (wk_n (wk_s (wk_s (wk_s (wk_s wk_0))))))))))) h
  · replace h := h.2 q
    iterate 3 refine ws_b rfl ?_
    refine wp_ite (fun q => ?_) (fun q => ?_)
    · replace h := h.1 q
      exact wp_weak (wk_s (wk_s (wk_s (wk_s (wk_s (wk_s (wk_n (wk_s (wk_s (wk_s (wk_s wk_0))))))))))) h
    · replace h := h.2 q
      iterate 3 refine ws_b rfl ?_
      refine ws_g rfl h.1 ?_
      replace h := h.2
      iterate 6 refine ws_b rfl ?_
      refine wp_ite (fun q => ?_) (fun q => ?_)
      · replace h := h.1 q
        exact wp_weak (wk_s (wk_s (wk_s (wk_s (wk_s (wk_s (wk_s (wk_s (wk_s (wk_s (wk_s wk_0))))))))))) h
      · replace h := h.2 q
        iterate 3 refine ws_b rfl ?_
        refine wp_ite (fun q => ?_) (fun q => ?_)
        · replace h := h.1 q
          iterate 3 refine ws_b rfl ?_
          refine wp_ite (fun q => ?_) (fun q => ?_)
          · replace h := h.1 q
            iterate 3 refine ws_b rfl ?_
            refine wp_ite (fun q => ?_) (fun q => ?_)
            · replace h := h.1 q
              iterate 10 refine ws_b rfl ?_
              refine ws_g rfl h.1 ?_
              replace h := h.2
              iterate 3 refine ws_b rfl ?_
              refine wp_ite (fun q => ?_) (fun q => ?_)
              · replace h := h.1 q
                iterate 2 refine ws_b rfl ?_
                exact wp_weak (wk_s (wk_s (wk_s (wk_s (wk_s (wk_s (wk_s (wk_n (wk_n (wk_s (wk_s wk_0))))))))))) h
              · replace h := h.2 q
                refine ws_b rfl ?_
                exact wp_weak (wk_s (wk_s (wk_s (wk_s (wk_s (wk_s (wk_s (wk_n (wk_n (wk_s (wk_s wk_0))))))))))) h
            · replace h := h.2 q
              refine ws_b rfl ?_
              exact wp_rl rfl rfl ⟨_, _, rfl, rfl, h⟩
          · replace h := h.2 q
            iterate 3 refine ws_b rfl ?_
            refine wp_ite (fun q => ?_) (fun q => ?_)
            · replace h := h.1 q
              iterate 7 refine ws_b rfl ?_
              refine ws_g rfl h.1 ?_
              replace h := h.2
              iterate 3 refine ws_b rfl ?_
              refine ws_g rfl h.1 ?_
              replace h := h.2
              refine wp_cS rfl rfl o_X4_resultOf s_X4_resultOf h rfl rfl (Nat.le_of_ble_eq_true rfl) (by decide) ?_
              clear h
              rintro r9 h9 ⟨v1, S1, rfl, rfl, h⟩
              iterate 5 refine ws_b rfl ?_
              refine wp_ite (fun q => ?_) (fun q => ?_)
              · replace h := h.1 q
                exact wp_weak (wk_n (wk_s (wk_s (wk_s (wk_s (wk_n (wk_n (wk_n (wk_n (wk_n (wk_s wk_0))))))))))) h
              · replace h := h.2 q
                iterate 4 refine ws_b rfl ?_
                refine wp_ite (fun q => ?_) (fun q => ?_)
                · replace h := h.1 q
                  iterate 6 refine ws_b rfl ?_
                  refine ws_g rfl h.1 ?_
                  replace h := h.2
                  exact wp_weak (wk_s (wk_s (wk_s (wk_s (wk_s (wk_s (wk_s (wk_n (wk_n (wk_n (wk_s wk_0))))))))))) h
                · replace h := h.2 q
                  exact wp_weak (wk_n (wk_s (wk_s (wk_s (wk_s (wk_n (wk_n (wk_n (wk_n (wk_n (wk_s wk_0))))))))))) h
            · replace h := h.2 q
              refine ws_b rfl ?_
              exact wp_rl rfl rfl ⟨_, _, rfl, rfl, h⟩
        · replace h := h.2 q
          exact wp_weak (wk_s (wk_s (wk_s (wk_s (wk_s (wk_s (wk_s (wk_s (wk_s (wk_s (wk_s wk_0))))))))))) h
set_option maxRecDepth 100000 in
set_option maxHeartbeats 4000000 in
theorem b_X4_work_81 {G : ab_G} {fr : Bool} {n0 : Nat} {tl : ab_H} {K : Int64 → ms_S → Prop} {S : ms_S} {i5 : Int32} {i6 : Int32} {i7 : Int32} {i8 : Int32}
    (h : (i5 < (nI 64) → ((i7 < 0 → (vp_in i8 8 ∧ (L_X4_work_116 G fr n0 tl K S i5 i6 (S.2.2.2.2 3 i8.toNatClampNeg) i5))) ∧ (¬ i7 < 0 → (L_X4_work_116 G fr n0 tl K S i5 i6 i7.toInt64 i5)))) ∧ (¬ i5 < (nI 64) → (K ((-9223372036854775808 : Int64)) S))) :
    L_X4_work_81 G fr n0 tl K S i5 i6 i7 i8 := by
  unfold L_X4_work_81
  iterate 3 refine ws_b rfl ?_
  refine wp_ite (fun q => ?_) (fun q => ?_)
  · replace h := h.1 q
    iterate 5 refine ws_b rfl ?_
    refine wp_ite (fun q => ?_) (fun q => ?_)
    · replace h := h.1 q
      iterate 3 refine ws_b rfl ?_
      refine ws_g rfl h.1 ?_
      replace h := h.2
      exact wp_weak (wk_s (wk_s (wk_s (wk_s (wk_s (wk_s (wk_s (wk_n (wk_n (wk_s (wk_s wk_0))))))))))) h
    · replace h := h.2 q
      iterate 3 refine ws_b rfl ?_
      exact wp_weak (wk_s (wk_s (wk_s (wk_s (wk_s (wk_s (wk_s (wk_n (wk_n (wk_s (wk_s wk_0))))))))))) h
  · replace h := h.2 q
    refine ws_b rfl ?_
    exact wp_rl rfl rfl ⟨_, _, rfl, rfl, h⟩
set_option maxRecDepth 100000 in
set_option maxHeartbeats 4000000 in
theorem b_X4_work_116 {G : ab_G} {fr : Bool} {n0 : Nat} {tl : ab_H} {K : Int64 → ms_S → Prop} {S : ms_S} {i5 : Int32} {i6 : Int32} {w0 : Int64} {t1 : Int32}
    (h : vp_in t1 64 ∧ (L_X4_work_240 G fr n0 tl K (sL S 2 t1.toNatClampNeg w0) (i5 + nI 1) i6)) :
    L_X4_work_116 G fr n0 tl K S i5 i6 w0 t1 := by
  unfold L_X4_work_116
  refine ws_g rfl h.1 ?_
  replace h := h.2
  iterate 2 refine ws_b rfl ?_
  exact wp_weak (wk_s (wk_s (wk_s (wk_s (wk_s (wk_s (wk_s (wk_s (wk_s (wk_s (wk_s wk_0))))))))))) h
set_option maxRecDepth 100000 in
set_option maxHeartbeats 4000000 in
theorem b_X4_work_167 {G : ab_G} {fr : Bool} {n0 : Nat} {tl : ab_H} {K : Int64 → ms_S → Prop} {S : ms_S} {i5 : Int32} {i6 : Int32} {w0 : Int64} {t1 : Int32}
    (h : vp_in t1 64 ∧ (L_X4_work_240 G fr n0 tl K (sL S 2 t1.toNatClampNeg w0) i5 i6)) :
    L_X4_work_167 G fr n0 tl K S i5 i6 w0 t1 := by
  unfold L_X4_work_167
  refine ws_g rfl h.1 ?_
  replace h := h.2
  refine ws_b rfl ?_
  exact wp_weak (wk_s (wk_s (wk_s (wk_s (wk_s (wk_s (wk_s (wk_s (wk_s (wk_s (wk_s wk_0))))))))))) h
set_option maxRecDepth 100000 in
set_option maxHeartbeats 4000000 in
theorem b_X4_work_225 {G : ab_G} {fr : Bool} {n0 : Nat} {tl : ab_H} {K : Int64 → ms_S → Prop} {S : ms_S} 
    (h : K ((-9223372036854775808 : Int64)) S) :
    L_X4_work_225 G fr n0 tl K S  := by
  unfold L_X4_work_225
  refine ws_b rfl ?_
  exact wp_rl rfl rfl ⟨_, _, rfl, rfl, h⟩
set_option maxRecDepth 100000 in
set_option maxHeartbeats 4000000 in
theorem b_X4_work_240 {G : ab_G} {fr : Bool} {n0 : Nat} {tl : ab_H} {K : Int64 → ms_S → Prop} {S : ms_S} {i5 : Int32} {i6 : Int32}
    (h : L_X4_work_39 G fr n0 tl K S i5 (i6 + nI 1)) :
    L_X4_work_240 G fr n0 tl K S i5 i6 := by
  unfold L_X4_work_240
  iterate 2 refine ws_b rfl ?_
  exact wp_weak (wk_s (wk_s (wk_s (wk_s (wk_s (wk_s (wk_s (wk_s (wk_s (wk_s (wk_s wk_0))))))))))) h
set_option maxRecDepth 100000 in
set_option maxHeartbeats 4000000 in
theorem b_X4_work_246 {G : ab_G} {fr : Bool} {n0 : Nat} {tl : ab_H} {K : Int64 → ms_S → Prop} {S : ms_S} {i5 : Int32}
    (h : (i5 = (nI 1) → (vp_in (nI 0) 64 ∧ (L_X4_work_264 G fr n0 tl K S (S.2.2.2.2 2 ((nI 0).toNatClampNeg))))) ∧ (¬ i5 = (nI 1) → (L_X4_work_264 G fr n0 tl K S ((-9223372036854775808 : Int64))))) :
    L_X4_work_246 G fr n0 tl K S i5 := by
  unfold L_X4_work_246
  iterate 3 refine ws_b rfl ?_
  refine wp_ite (fun q => ?_) (fun q => ?_)
  · replace h := h.1 q
    iterate 3 refine ws_b rfl ?_
    refine ws_g rfl h.1 ?_
    replace h := h.2
    refine ws_b rfl ?_
    exact wp_weak (wk_n (wk_s (wk_s (wk_s (wk_s (wk_n (wk_s (wk_s (wk_s (wk_s (wk_s wk_0))))))))))) h
  · replace h := h.2 q
    refine ws_b rfl ?_
    exact wp_weak (wk_n (wk_s (wk_s (wk_s (wk_s (wk_n (wk_s (wk_s (wk_s (wk_s (wk_s wk_0))))))))))) h
set_option maxRecDepth 100000 in
set_option maxHeartbeats 4000000 in
theorem b_X4_work_264 {G : ab_G} {fr : Bool} {n0 : Nat} {tl : ab_H} {K : Int64 → ms_S → Prop} {S : ms_S} {w0 : Int64}
    (h : K w0 S) :
    L_X4_work_264 G fr n0 tl K S w0 := by
  unfold L_X4_work_264
  exact wp_rl rfl rfl ⟨_, _, rfl, rfl, h⟩
set_option maxRecDepth 100000 in
set_option maxHeartbeats 4000000 in
theorem m_X4_work {G : ab_G} {fr : Bool} {tl : ab_H} {K : Int64 → ms_S → Prop} {S : ms_S} {i1 : Int32} {i2 : Int32} {i3 : Int32} {i4 : Int32}
    (h : ∀ n0 : Nat, vp_in (nI 1) 8 ∧ (vp_in (nI 2) 8 ∧ (vp_in (nI 3) 8 ∧ (vp_in (nI 4) 8 ∧ (L_X4_work_39 G fr n0 tl K (sL (sL (sL (sL S 3 ((nI 1).toNatClampNeg) i1.toInt64) 3 ((nI 2).toNatClampNeg) i2.toInt64) 3 ((nI 3).toNatClampNeg) i3.toInt64) 3 ((nI 4).toNatClampNeg) i4.toInt64) (nI 0) (nI 0)))))) :
    ctL G 3 M_X4_work fr [.ref 0, .int i1, .int i2, .int i3, .int i4] lLw S tl K := by
  refine wp_ct o_X4_work (Nat.le_of_ble_eq_true rfl) ?_
  replace h := h (hLy lLw S tl).length
  revert h
  generalize (hLy lLw S tl).length = n0
  intro h
  iterate 5 refine ws_b rfl ?_
  refine ws_g rfl h.1 ?_
  replace h := h.2
  iterate 5 refine ws_b rfl ?_
  refine ws_g rfl h.1 ?_
  replace h := h.2
  iterate 5 refine ws_b rfl ?_
  refine ws_g rfl h.1 ?_
  replace h := h.2
  iterate 5 refine ws_b rfl ?_
  refine ws_g rfl h.1 ?_
  replace h := h.2
  iterate 4 refine ws_b rfl ?_
  exact wp_weak (wk_s (wk_n (wk_n (wk_n (wk_n (wk_s (wk_s (wk_s (wk_s (wk_s (wk_s wk_0))))))))))) h

