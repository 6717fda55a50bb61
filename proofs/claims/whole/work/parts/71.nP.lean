/-! ===== the reference: reading, walks ===== -/
set_option maxRecDepth 100000 in
set_option maxHeartbeats 4000000 in
theorem m_X12_wrong {G : ab_G} {fr : Bool} {tl : ab_H} {K : Int32 → ms_S → Prop} {S : ms_S} {i1 : Int32}
    (h : ∀ n0 : Nat, K (nI 0) (sV (sV S 4 i1) 5 (S.1 0 10))) :
    ctI G 1 M_X12_wrong fr [.ref 0, .int i1] lM S tl K := by
  refine wp_ct o_X12_wrong (Nat.le_of_ble_eq_true rfl) ?_
  replace h := h (hLy lM S tl).length
  revert h
  generalize (hLy lM S tl).length = n0
  intro h
  iterate 8 refine ws_b rfl ?_
  exact wp_ri rfl rfl rfl ⟨_, _, rfl, rfl, h⟩
def L_X12_wordAt_5 (G : ab_G) (fr : Bool) (n0 : Nat) (tl : ab_H) (K : Int32 → ms_S → Prop) (S : ms_S) (i1 : Int32) (i2 : Int32) (i3 : Int32) (i4 : Int32) : Prop := wp G 1 M_X12_wordAt fr n0 (poI lM tl K) 5 [some (.ref 0), some (.int i1), some (.int i2), some (.int i3), some (.int i4), none, none, none] [] (hLy lM S tl)
def L_X12_wordAt_18 (G : ab_G) (fr : Bool) (n0 : Nat) (tl : ab_H) (K : Int32 → ms_S → Prop) (S : ms_S) (i1 : Int32) (i2 : Int32) (i3 : Int32) (i4 : Int32) (i5 : Int32) : Prop := wp G 1 M_X12_wordAt fr n0 (poI lM tl K) 18 [some (.ref 0), some (.int i1), some (.int i2), some (.int i3), some (.int i4), some (.int i5), none, none] [] (hLy lM S tl)
def L_X12_wordAt_52 (G : ab_G) (fr : Bool) (n0 : Nat) (tl : ab_H) (K : Int32 → ms_S → Prop) (S : ms_S) (i1 : Int32) (i2 : Int32) (i3 : Int32) (i4 : Int32) (i5 : Int32) (t0 : Int32) : Prop := wp G 1 M_X12_wordAt fr n0 (poI lM tl K) 52 [some (.ref 0), some (.int i1), some (.int i2), some (.int i3), some (.int i4), some (.int i5), none, none] [.int t0] (hLy lM S tl)
def L_X12_wordAt_57 (G : ab_G) (fr : Bool) (n0 : Nat) (tl : ab_H) (K : Int32 → ms_S → Prop) (S : ms_S) (i1 : Int32) (i2 : Int32) (i3 : Int32) (i4 : Int32) (i5 : Int32) (i6 : Int32) (i7 : Int32) : Prop := wp G 1 M_X12_wordAt fr n0 (poI lM tl K) 57 [some (.ref 0), some (.int i1), some (.int i2), some (.int i3), some (.int i4), some (.int i5), some (.int i6), some (.int i7)] [] (hLy lM S tl)
def L_X12_wordAt_96 (G : ab_G) (fr : Bool) (n0 : Nat) (tl : ab_H) (K : Int32 → ms_S → Prop) (S : ms_S) (i1 : Int32) (i2 : Int32) (i3 : Int32) (i4 : Int32) (i5 : Int32) (i7 : Int32) (t0 : Int32) : Prop := wp G 1 M_X12_wordAt fr n0 (poI lM tl K) 96 [some (.ref 0), some (.int i1), some (.int i2), some (.int i3), some (.int i4), some (.int i5), none, some (.int i7)] [.int t0] (hLy lM S tl)
def L_X12_wordAt_104 (G : ab_G) (fr : Bool) (n0 : Nat) (tl : ab_H) (K : Int32 → ms_S → Prop) (S : ms_S) (i1 : Int32) (i2 : Int32) (i3 : Int32) (i4 : Int32) (i5 : Int32) (i6 : Int32) : Prop := wp G 1 M_X12_wordAt fr n0 (poI lM tl K) 104 [some (.ref 0), some (.int i1), some (.int i2), some (.int i3), some (.int i4), some (.int i5), some (.int i6), none] [] (hLy lM S tl)
set_option maxRecDepth 100000 in
set_option maxHeartbeats 4000000 in
theorem b_X12_wordAt_5 {G : ab_G} {fr : Bool} {n0 : Nat} {tl : ab_H} {K : Int32 → ms_S → Prop} {S : ms_S} {i1 : Int32} {i2 : Int32} {i3 : Int32} {i4 : Int32}
    (h : ((nI 101) ≤ i4 → (K (-(nI 1)) S)) ∧ (¬ (nI 101) ≤ i4 → (L_X12_wordAt_18 G fr n0 tl K S i1 i2 i3 i4 (nI 0)))) :
    L_X12_wordAt_5 G fr n0 tl K S i1 i2 i3 i4 := by
  unfold L_X12_wordAt_5
  iterate 5 refine ws_b rfl ?_
  refine wp_ite (fun q => ?_) (fun q => ?_)
  · replace h := h.1 q
    refine ws_b rfl ?_
    exact wp_ri rfl rfl rfl ⟨_, _, rfl, rfl, h⟩
  · replace h := h.2 q
    iterate 2 refine ws_b rfl ?_
    exact wp_weak (wk_s (wk_s (wk_s (wk_s (wk_s (wk_s (wk_s (wk_s wk_0)))))))) h
set_option maxRecDepth 100000 in
set_option maxHeartbeats 4000000 in
theorem b_X12_wordAt_18 {G : ab_G} {fr : Bool} {n0 : Nat} {tl : ab_H} {K : Int32 → ms_S → Prop} {S : ms_S} {i1 : Int32} {i2 : Int32} {i3 : Int32} {i4 : Int32} {i5 : Int32}
    (h : vp_in (i4 + i5) 101 ∧ (((S.2.2.2.1 2 ((i4 + i5).toNatClampNeg)) = (nI 32) → ((i5 = (i2 - i1) → (L_X12_wordAt_52 G fr n0 tl K S i1 i2 i3 i4 i5 (nI 1))) ∧ (¬ i5 = (i2 - i1) → (L_X12_wordAt_52 G fr n0 tl K S i1 i2 i3 i4 i5 (nI 0))))) ∧ (¬ (S.2.2.2.1 2 ((i4 + i5).toNatClampNeg)) = (nI 32) → (L_X12_wordAt_18 G fr n0 tl K S i1 i2 i3 i4 (i5 + nI 1))))) :
    L_X12_wordAt_18 G fr n0 tl K S i1 i2 i3 i4 i5 := by
  unfold L_X12_wordAt_18
  iterate 5 refine ws_b rfl ?_
  refine ws_g rfl h.1 ?_
  replace h := h.2
  iterate 2 refine ws_b rfl ?_
  refine wp_ite (fun q => ?_) (fun q => ?_)
  · replace h := h.1 q
    iterate 5 refine ws_b rfl ?_
    refine wp_ite (fun q => ?_) (fun q => ?_)
    · replace h := h.1 q
      iterate 2 refine ws_b rfl ?_
      exact wp_weak (wk_s (wk_s (wk_s (wk_s (wk_s (wk_s (wk_s (wk_s wk_0)))))))) h
    · replace h := h.2 q
      refine ws_b rfl ?_
      exact wp_weak (wk_s (wk_s (wk_s (wk_s (wk_s (wk_s (wk_s (wk_s wk_0)))))))) h
  · replace h := h.2 q
    iterate 2 refine ws_b rfl ?_
    exact wp_weak (wk_s (wk_s (wk_s (wk_s (wk_s (wk_s (wk_s (wk_s wk_0)))))))) h
set_option maxRecDepth 100000 in
set_option maxHeartbeats 4000000 in
theorem b_X12_wordAt_52 {G : ab_G} {fr : Bool} {n0 : Nat} {tl : ab_H} {K : Int32 → ms_S → Prop} {S : ms_S} {i1 : Int32} {i2 : Int32} {i3 : Int32} {i4 : Int32} {i5 : Int32} {t0 : Int32}
    (h : L_X12_wordAt_57 G fr n0 tl K S i1 i2 i3 i4 i5 t0 (nI 0)) :
    L_X12_wordAt_52 G fr n0 tl K S i1 i2 i3 i4 i5 t0 := by
  unfold L_X12_wordAt_52
  iterate 3 refine ws_b rfl ?_
  exact wp_weak (wk_s (wk_s (wk_s (wk_s (wk_s (wk_s (wk_s (wk_s wk_0)))))))) h
set_option maxRecDepth 100000 in
set_option maxHeartbeats 4000000 in
theorem b_X12_wordAt_57 {G : ab_G} {fr : Bool} {n0 : Nat} {tl : ab_H} {K : Int32 → ms_S → Prop} {S : ms_S} {i1 : Int32} {i2 : Int32} {i3 : Int32} {i4 : Int32} {i5 : Int32} {i6 : Int32} {i7 : Int32}
    (h : (i5 ≤ i7 → (L_X12_wordAt_104 G fr n0 tl K S i1 i2 i3 i4 i5 i6)) ∧ (¬ i5 ≤ i7 → ((i6 = 0 → (L_X12_wordAt_104 G fr n0 tl K S i1 i2 i3 i4 i5 i6)) ∧ (¬ i6 = 0 → (vp_in (i4 + i7) 101 ∧ (vp_in (i1 + i7) 700 ∧ (((S.2.2.2.1 2 ((i4 + i7).toNatClampNeg)) = (S.2.2.2.1 1 ((i1 + i7).toNatClampNeg)) → (L_X12_wordAt_96 G fr n0 tl K S i1 i2 i3 i4 i5 i7 (nI 1))) ∧ (¬ (S.2.2.2.1 2 ((i4 + i7).toNatClampNeg)) = (S.2.2.2.1 1 ((i1 + i7).toNatClampNeg)) → (L_X12_wordAt_96 G fr n0 tl K S i1 i2 i3 i4 i5 i7 (nI 0)))))))))) :
    L_X12_wordAt_57 G fr n0 tl K S i1 i2 i3 i4 i5 i6 i7 := by
  unfold L_X12_wordAt_57
  iterate 3 refine ws_b rfl ?_
  refine wp_ite (fun q => ?_) (fun q => ?_)
  · replace h := h.1 q
    exact wp_weak (wk_s (wk_s (wk_s (wk_s (wk_s (wk_s (wk_s (wk_n wk_0)))))))) h
  · replace h := h.2 q
    iterate 2 refine ws_b rfl ?_
    refine wp_ite (fun q => ?_) (fun q => ?_)
    · replace h := h.1 q
      exact wp_weak (wk_s (wk_s (wk_s (wk_s (wk_s (wk_s (wk_s (wk_n wk_0)))))))) h
    · replace h := h.2 q
      iterate 5 refine ws_b rfl ?_
      refine ws_g rfl h.1 ?_
      replace h := h.2
      iterate 5 refine ws_b rfl ?_
      refine ws_g rfl h.1 ?_
      replace h := h.2
      refine ws_b rfl ?_
      refine wp_ite (fun q => ?_) (fun q => ?_)
      · replace h := h.1 q
        iterate 2 refine ws_b rfl ?_
        exact wp_weak (wk_s (wk_s (wk_s (wk_s (wk_s (wk_s (wk_n (wk_s wk_0)))))))) h
      · replace h := h.2 q
        refine ws_b rfl ?_
        exact wp_weak (wk_s (wk_s (wk_s (wk_s (wk_s (wk_s (wk_n (wk_s wk_0)))))))) h
set_option maxRecDepth 100000 in
set_option maxHeartbeats 4000000 in
theorem b_X12_wordAt_96 {G : ab_G} {fr : Bool} {n0 : Nat} {tl : ab_H} {K : Int32 → ms_S → Prop} {S : ms_S} {i1 : Int32} {i2 : Int32} {i3 : Int32} {i4 : Int32} {i5 : Int32} {i7 : Int32} {t0 : Int32}
    (h : L_X12_wordAt_57 G fr n0 tl K S i1 i2 i3 i4 i5 t0 (i7 + nI 1)) :
    L_X12_wordAt_96 G fr n0 tl K S i1 i2 i3 i4 i5 i7 t0 := by
  unfold L_X12_wordAt_96
  iterate 3 refine ws_b rfl ?_
  exact wp_weak (wk_s (wk_s (wk_s (wk_s (wk_s (wk_s (wk_s (wk_s wk_0)))))))) h
set_option maxRecDepth 100000 in
set_option maxHeartbeats 4000000 in
theorem b_X12_wordAt_104 {G : ab_G} {fr : Bool} {n0 : Nat} {tl : ab_H} {K : Int32 → ms_S → Prop} {S : ms_S} {i1 : Int32} {i2 : Int32} {i3 : Int32} {i4 : Int32} {i5 : Int32} {i6 : Int32}
    (h : (i6 = 0 → (L_X12_wordAt_5 G fr n0 tl K S i1 i2 (i3 + nI 1) (i4 + (i5 + (nI 1))))) ∧ (¬ i6 = 0 → (K i3 S))) :
    L_X12_wordAt_104 G fr n0 tl K S i1 i2 i3 i4 i5 i6 := by
  unfold L_X12_wordAt_104
  iterate 2 refine ws_b rfl ?_
  refine wp_ite (fun q => ?_) (fun q => ?_)
  · replace h := h.1 q
    iterate 8 refine ws_b rfl ?_
    exact wp_weak (wk_s (wk_s (wk_s (wk_s (wk_s (wk_n (wk_n (wk_s wk_0)))))))) h
  · replace h := h.2 q
    refine ws_b rfl ?_
    exact wp_ri rfl rfl rfl ⟨_, _, rfl, rfl, h⟩
set_option maxRecDepth 100000 in
set_option maxHeartbeats 4000000 in
theorem m_X12_wordAt {G : ab_G} {fr : Bool} {tl : ab_H} {K : Int32 → ms_S → Prop} {S : ms_S} {i1 : Int32} {i2 : Int32}
    (h : ∀ n0 : Nat, L_X12_wordAt_5 G fr n0 tl K S i1 i2 (nI 0) (nI 0)) :
    ctI G 1 M_X12_wordAt fr [.ref 0, .int i1, .int i2] lM S tl K := by
  refine wp_ct o_X12_wordAt (Nat.le_of_ble_eq_true rfl) ?_
  replace h := h (hLy lM S tl).length
  revert h
  generalize (hLy lM S tl).length = n0
  intro h
  iterate 4 refine ws_b rfl ?_
  exact wp_weak (wk_s (wk_s (wk_s (wk_s (wk_s (wk_s (wk_s (wk_s wk_0)))))))) h
set_option maxRecDepth 100000 in
set_option maxHeartbeats 4000000 in
theorem m_X12_isSmall {G : ab_G} {fr : Bool} {tl : ab_H} {K : Int32 → ms_S → Prop} {S : ms_S} {i1 : Int32}
    (h : ∀ n0 : Nat, ((S.1 0 6) ≤ i1 → (K (nI 0) S)) ∧ (¬ (S.1 0 6) ≤ i1 → (vp_in i1 700 ∧ (((S.2.2.2.1 1 i1.toNatClampNeg) < (nI 97) → (K (nI 0) S)) ∧ (¬ (S.2.2.2.1 1 i1.toNatClampNeg) < (nI 97) → (vp_in i1 700 ∧ (((nI 122) < (S.2.2.2.1 1 i1.toNatClampNeg) → (K (nI 0) S)) ∧ (¬ (nI 122) < (S.2.2.2.1 1 i1.toNatClampNeg) → (K (nI 1) S))))))))) :
    ctI G 1 M_X12_isSmall fr [.ref 0, .int i1] lM S tl K := by
  refine wp_ct o_X12_isSmall (Nat.le_of_ble_eq_true rfl) ?_
  replace h := h (hLy lM S tl).length
  revert h
  generalize (hLy lM S tl).length = n0
  intro h
  iterate 4 refine ws_b rfl ?_
  refine wp_ite (fun q => ?_) (fun q => ?_)
  · replace h := h.1 q
    refine ws_b rfl ?_
    exact wp_ri rfl rfl rfl ⟨_, _, rfl, rfl, h⟩
  · replace h := h.2 q
    iterate 3 refine ws_b rfl ?_
    refine ws_g rfl h.1 ?_
    replace h := h.2
    iterate 2 refine ws_b rfl ?_
    refine wp_ite (fun q => ?_) (fun q => ?_)
    · replace h := h.1 q
      refine ws_b rfl ?_
      exact wp_ri rfl rfl rfl ⟨_, _, rfl, rfl, h⟩
    · replace h := h.2 q
      iterate 3 refine ws_b rfl ?_
      refine ws_g rfl h.1 ?_
      replace h := h.2
      iterate 2 refine ws_b rfl ?_
      refine wp_ite (fun q => ?_) (fun q => ?_)
      · replace h := h.1 q
        refine ws_b rfl ?_
        exact wp_ri rfl rfl rfl ⟨_, _, rfl, rfl, h⟩
      · replace h := h.2 q
        iterate 2 refine ws_b rfl ?_
        exact wp_ri rfl rfl rfl ⟨_, _, rfl, rfl, h⟩
set_option maxRecDepth 100000 in
set_option maxHeartbeats 4000000 in
theorem m_X12_isDigit {G : ab_G} {fr : Bool} {tl : ab_H} {K : Int32 → ms_S → Prop} {S : ms_S} {i1 : Int32}
    (h : ∀ n0 : Nat, ((S.1 0 6) ≤ i1 → (K (nI 0) S)) ∧ (¬ (S.1 0 6) ≤ i1 → (vp_in i1 700 ∧ (((S.2.2.2.1 1 i1.toNatClampNeg) < (nI 48) → (K (nI 0) S)) ∧ (¬ (S.2.2.2.1 1 i1.toNatClampNeg) < (nI 48) → (vp_in i1 700 ∧ (((nI 57) < (S.2.2.2.1 1 i1.toNatClampNeg) → (K (nI 0) S)) ∧ (¬ (nI 57) < (S.2.2.2.1 1 i1.toNatClampNeg) → (K (nI 1) S))))))))) :
    ctI G 1 M_X12_isDigit fr [.ref 0, .int i1] lM S tl K := by
  refine wp_ct o_X12_isDigit (Nat.le_of_ble_eq_true rfl) ?_
  replace h := h (hLy lM S tl).length
  revert h
  generalize (hLy lM S tl).length = n0
  intro h
  iterate 4 refine ws_b rfl ?_
  refine wp_ite (fun q => ?_) (fun q => ?_)
  · replace h := h.1 q
    refine ws_b rfl ?_
    exact wp_ri rfl rfl rfl ⟨_, _, rfl, rfl, h⟩
  · replace h := h.2 q
    iterate 3 refine ws_b rfl ?_
    refine ws_g rfl h.1 ?_
    replace h := h.2
    iterate 2 refine ws_b rfl ?_
    refine wp_ite (fun q => ?_) (fun q => ?_)
    · replace h := h.1 q
      refine ws_b rfl ?_
      exact wp_ri rfl rfl rfl ⟨_, _, rfl, rfl, h⟩
    · replace h := h.2 q
      iterate 3 refine ws_b rfl ?_
      refine ws_g rfl h.1 ?_
      replace h := h.2
      iterate 2 refine ws_b rfl ?_
      refine wp_ite (fun q => ?_) (fun q => ?_)
      · replace h := h.1 q
        refine ws_b rfl ?_
        exact wp_ri rfl rfl rfl ⟨_, _, rfl, rfl, h⟩
      · replace h := h.2 q
        iterate 2 refine ws_b rfl ?_
        exact wp_ri rfl rfl rfl ⟨_, _, rfl, rfl, h⟩
def L_X12_packed_5 (G : ab_G) (fr : Bool) (n0 : Nat) (tl : ab_H) (K : Int32 → ms_S → Prop) (S : ms_S) (i1 : Int32) (i2 : Int32) (i3 : Int32) (i4 : Int32) : Prop := wp G 1 M_X12_packed fr n0 (poI lM tl K) 5 [some (.ref 0), some (.int i1), some (.int i2), some (.int i3), some (.int i4)] [] (hLy lM S tl)
def L_X12_packed_37 (G : ab_G) (fr : Bool) (n0 : Nat) (tl : ab_H) (K : Int32 → ms_S → Prop) (S : ms_S) (i1 : Int32) (i2 : Int32) (i4 : Int32) (t0 : Int32) (t1 : Int32) : Prop := wp G 1 M_X12_packed fr n0 (poI lM tl K) 37 [some (.ref 0), some (.int i1), some (.int i2), none, some (.int i4)] [.int t0, .int t1] (hLy lM S tl)
set_option maxRecDepth 100000 in
set_option maxHeartbeats 4000000 in
theorem b_X12_packed_5 {G : ab_G} {fr : Bool} {n0 : Nat} {tl : ab_H} {K : Int32 → ms_S → Prop} {S : ms_S} {i1 : Int32} {i2 : Int32} {i3 : Int32} {i4 : Int32}
    (h : ((i1 + (nI 6)) ≤ i4 → (K i3 S)) ∧ (¬ (i1 + (nI 6)) ≤ i4 → ((i2 ≤ i4 → (L_X12_packed_37 G fr n0 tl K S i1 i2 i4 (nI 0) (i3 <<< ((nI 5) &&& 31)))) ∧ (¬ i2 ≤ i4 → (vp_in i4 700 ∧ (L_X12_packed_37 G fr n0 tl K S i1 i2 i4 ((S.2.2.2.1 1 i4.toNatClampNeg) - (nI 96)) (i3 <<< ((nI 5) &&& 31)))))))) :
    L_X12_packed_5 G fr n0 tl K S i1 i2 i3 i4 := by
  unfold L_X12_packed_5
  iterate 5 refine ws_b rfl ?_
  refine wp_ite (fun q => ?_) (fun q => ?_)
  · replace h := h.1 q
    refine ws_b rfl ?_
    exact wp_ri rfl rfl rfl ⟨_, _, rfl, rfl, h⟩
  · replace h := h.2 q
    iterate 6 refine ws_b rfl ?_
    refine wp_ite (fun q => ?_) (fun q => ?_)
    · replace h := h.1 q
      refine ws_b rfl ?_
      exact wp_weak (wk_s (wk_s (wk_s (wk_n (wk_s wk_0))))) h
    · replace h := h.2 q
      iterate 3 refine ws_b rfl ?_
      refine ws_g rfl h.1 ?_
      replace h := h.2
      iterate 3 refine ws_b rfl ?_
      exact wp_weak (wk_s (wk_s (wk_s (wk_n (wk_s wk_0))))) h
set_option maxRecDepth 100000 in
set_option maxHeartbeats 4000000 in
theorem b_X12_packed_37 {G : ab_G} {fr : Bool} {n0 : Nat} {tl : ab_H} {K : Int32 → ms_S → Prop} {S : ms_S} {i1 : Int32} {i2 : Int32} {i4 : Int32} {t0 : Int32} {t1 : Int32}
    (h : L_X12_packed_5 G fr n0 tl K S i1 i2 (t1 ||| t0) (i4 + nI 1)) :
    L_X12_packed_37 G fr n0 tl K S i1 i2 i4 t0 t1 := by
  unfold L_X12_packed_37
  iterate 4 refine ws_b rfl ?_
  exact wp_weak (wk_s (wk_s (wk_s (wk_s (wk_s wk_0))))) h
set_option maxRecDepth 100000 in
set_option maxHeartbeats 4000000 in
theorem m_X12_packed {G : ab_G} {fr : Bool} {tl : ab_H} {K : Int32 → ms_S → Prop} {S : ms_S} {i1 : Int32} {i2 : Int32}
    (h : ∀ n0 : Nat, L_X12_packed_5 G fr n0 tl K S i1 i2 (nI 0) i1) :
    ctI G 1 M_X12_packed fr [.ref 0, .int i1, .int i2] lM S tl K := by
  refine wp_ct o_X12_packed (Nat.le_of_ble_eq_true rfl) ?_
  replace h := h (hLy lM S tl).length
  revert h
  generalize (hLy lM S tl).length = n0
  intro h
  iterate 4 refine ws_b rfl ?_
  exact wp_weak (wk_s (wk_s (wk_s (wk_s (wk_s wk_0))))) h
def L_X12_signToken_50 (G : ab_G) (fr : Bool) (n0 : Nat) (tl : ab_H) (K : ms_S → Prop) (S : ms_S)  : Prop := wp G 1 M_X12_signToken fr n0 (poU lM tl K) 50 [some (.ref 0), none, none, none] [] (hLy lM S tl)
def L_X12_signToken_74 (G : ab_G) (fr : Bool) (n0 : Nat) (tl : ab_H) (K : ms_S → Prop) (S : ms_S) (t0 : Int32) : Prop := wp G 1 M_X12_signToken fr n0 (poU lM tl K) 74 [some (.ref 0), none, none, none] [.int t0] (hLy lM S tl)
def L_X12_signToken_94 (G : ab_G) (fr : Bool) (n0 : Nat) (tl : ab_H) (K : ms_S → Prop) (S : ms_S) (i1 : Int32) : Prop := wp G 1 M_X12_signToken fr n0 (poU lM tl K) 94 [some (.ref 0), some (.int i1), none, none] [] (hLy lM S tl)
def L_X12_signToken_95 (G : ab_G) (fr : Bool) (n0 : Nat) (tl : ab_H) (K : ms_S → Prop) (S : ms_S) (i1 : Int32) (t0 : Int32) : Prop := wp G 1 M_X12_signToken fr n0 (poU lM tl K) 95 [some (.ref 0), some (.int i1), none, none] [.int t0] (hLy lM S tl)
def L_X12_signToken_115 (G : ab_G) (fr : Bool) (n0 : Nat) (tl : ab_H) (K : ms_S → Prop) (S : ms_S) (i2 : Int32) : Prop := wp G 1 M_X12_signToken fr n0 (poU lM tl K) 115 [some (.ref 0), none, some (.int i2), none] [] (hLy lM S tl)
def L_X12_signToken_116 (G : ab_G) (fr : Bool) (n0 : Nat) (tl : ab_H) (K : ms_S → Prop) (S : ms_S) (i2 : Int32) (t0 : Int32) : Prop := wp G 1 M_X12_signToken fr n0 (poU lM tl K) 116 [some (.ref 0), none, some (.int i2), none] [.int t0] (hLy lM S tl)
def L_X12_signToken_125 (G : ab_G) (fr : Bool) (n0 : Nat) (tl : ab_H) (K : ms_S → Prop) (S : ms_S) (i2 : Int32) (i3 : Int32) : Prop := wp G 1 M_X12_signToken fr n0 (poU lM tl K) 125 [some (.ref 0), none, some (.int i2), some (.int i3)] [] (hLy lM S tl)
def L_X12_signToken_135 (G : ab_G) (fr : Bool) (n0 : Nat) (tl : ab_H) (K : ms_S → Prop) (S : ms_S) (i2 : Int32) (i3 : Int32) : Prop := wp G 1 M_X12_signToken fr n0 (poU lM tl K) 135 [some (.ref 0), none, some (.int i2), some (.int i3)] [] (hLy lM S tl)
def L_X12_signToken_192 (G : ab_G) (fr : Bool) (n0 : Nat) (tl : ab_H) (K : ms_S → Prop) (S : ms_S) (t0 : Int32) : Prop := wp G 1 M_X12_signToken fr n0 (poU lM tl K) 192 [none, none, none, none] [.int t0, .ref 0] (hLy lM S tl)
def L_X12_signToken_270 (G : ab_G) (fr : Bool) (n0 : Nat) (tl : ab_H) (K : ms_S → Prop) (S : ms_S)  : Prop := wp G 1 M_X12_signToken fr n0 (poU lM tl K) 270 [some (.ref 0), none, none, none] [] (hLy lM S tl)
def L_X12_signToken_275 (G : ab_G) (fr : Bool) (n0 : Nat) (tl : ab_H) (K : ms_S → Prop) (S : ms_S) (t0 : Int32) : Prop := wp G 1 M_X12_signToken fr n0 (poU lM tl K) 275 [some (.ref 0), none, none, none] [.int t0] (hLy lM S tl)
def L_X12_signToken_287 (G : ab_G) (fr : Bool) (n0 : Nat) (tl : ab_H) (K : ms_S → Prop) (S : ms_S) (t0 : Int32) : Prop := wp G 1 M_X12_signToken fr n0 (poU lM tl K) 287 [none, none, none, none] [.int t0, .ref 0] (hLy lM S tl)
def L_X12_signToken_290 (G : ab_G) (fr : Bool) (n0 : Nat) (tl : ab_H) (K : ms_S → Prop) (S : ms_S)  : Prop := wp G 1 M_X12_signToken fr n0 (poU lM tl K) 290 [none, none, none, none] [] (hLy lM S tl)
set_option maxRecDepth 100000 in
set_option maxHeartbeats 4000000 in
theorem b_X12_signToken_50 {G : ab_G} {fr : Bool} {n0 : Nat} {tl : ab_H} {K : ms_S → Prop} {S : ms_S} 
    (h : ((S.1 0 6) ≤ (S.1 0 7) → (L_X12_signToken_74 G fr n0 tl K S (nI 0))) ∧ (¬ (S.1 0 6) ≤ (S.1 0 7) → (vp_in (S.1 0 7) 700 ∧ (L_X12_signToken_74 G fr n0 tl K S (S.2.2.2.1 1 ((S.1 0 7).toNatClampNeg)))))) :
    L_X12_signToken_50 G fr n0 tl K S  := by
  unfold L_X12_signToken_50
  iterate 5 refine ws_b rfl ?_
  refine wp_ite (fun q => ?_) (fun q => ?_)
  · replace h := h.1 q
    refine ws_b rfl ?_
    exact wp_weak (wk_s (wk_s (wk_s (wk_s wk_0)))) h
  · replace h := h.2 q
    iterate 4 refine ws_b rfl ?_
    refine ws_g rfl h.1 ?_
    replace h := h.2
    refine ws_b rfl ?_
    exact wp_weak (wk_s (wk_s (wk_s (wk_s wk_0)))) h
set_option maxRecDepth 100000 in
set_option maxHeartbeats 4000000 in
theorem b_X12_signToken_74 {G : ab_G} {fr : Bool} {n0 : Nat} {tl : ab_H} {K : ms_S → Prop} {S : ms_S} {t0 : Int32}
    (h : ((S.1 0 9) = (nI 61) → (L_X12_signToken_94 G fr n0 tl K S t0)) ∧ (¬ (S.1 0 9) = (nI 61) → ((t0 = (nI 61) → (L_X12_signToken_95 G fr n0 tl K S t0 (nI 1))) ∧ (¬ t0 = (nI 61) → (L_X12_signToken_94 G fr n0 tl K S t0))))) :
    L_X12_signToken_74 G fr n0 tl K S t0 := by
  unfold L_X12_signToken_74
  iterate 5 refine ws_b rfl ?_
  refine wp_ite (fun q => ?_) (fun q => ?_)
  · replace h := h.1 q
    exact wp_weak (wk_s (wk_s (wk_s (wk_s wk_0)))) h
  · replace h := h.2 q
    iterate 3 refine ws_b rfl ?_
    refine wp_ite (fun q => ?_) (fun q => ?_)
    · replace h := h.1 q
      iterate 2 refine ws_b rfl ?_
      exact wp_weak (wk_s (wk_s (wk_s (wk_s wk_0)))) h
    · replace h := h.2 q
      exact wp_weak (wk_s (wk_s (wk_s (wk_s wk_0)))) h
set_option maxRecDepth 100000 in
set_option maxHeartbeats 4000000 in
theorem b_X12_signToken_94 {G : ab_G} {fr : Bool} {n0 : Nat} {tl : ab_H} {K : ms_S → Prop} {S : ms_S} {i1 : Int32}
    (h : L_X12_signToken_95 G fr n0 tl K S i1 (nI 0)) :
    L_X12_signToken_94 G fr n0 tl K S i1 := by
  unfold L_X12_signToken_94
  refine ws_b rfl ?_
  exact wp_weak (wk_s (wk_s (wk_s (wk_s wk_0)))) h
set_option maxRecDepth 100000 in
set_option maxHeartbeats 4000000 in
theorem b_X12_signToken_95 {G : ab_G} {fr : Bool} {n0 : Nat} {tl : ab_H} {K : ms_S → Prop} {S : ms_S} {i1 : Int32} {t0 : Int32}
    (h : ((S.1 0 9) = (nI 60) → ((i1 = (nI 62) → (L_X12_signToken_116 G fr n0 tl K S t0 (nI 1))) ∧ (¬ i1 = (nI 62) → (L_X12_signToken_115 G fr n0 tl K S t0)))) ∧ (¬ (S.1 0 9) = (nI 60) → (L_X12_signToken_115 G fr n0 tl K S t0))) :
    L_X12_signToken_95 G fr n0 tl K S i1 t0 := by
  unfold L_X12_signToken_95
  iterate 5 refine ws_b rfl ?_
  refine wp_ite (fun q => ?_) (fun q => ?_)
  · replace h := h.1 q
    iterate 3 refine ws_b rfl ?_
    refine wp_ite (fun q => ?_) (fun q => ?_)
    · replace h := h.1 q
      iterate 2 refine ws_b rfl ?_
      exact wp_weak (wk_s (wk_n (wk_s (wk_s wk_0)))) h
    · replace h := h.2 q
      exact wp_weak (wk_s (wk_n (wk_s (wk_s wk_0)))) h
  · replace h := h.2 q
    exact wp_weak (wk_s (wk_n (wk_s (wk_s wk_0)))) h
set_option maxRecDepth 100000 in
set_option maxHeartbeats 4000000 in
theorem b_X12_signToken_115 {G : ab_G} {fr : Bool} {n0 : Nat} {tl : ab_H} {K : ms_S → Prop} {S : ms_S} {i2 : Int32}
    (h : L_X12_signToken_116 G fr n0 tl K S i2 (nI 0)) :
    L_X12_signToken_115 G fr n0 tl K S i2 := by
  unfold L_X12_signToken_115
  refine ws_b rfl ?_
  exact wp_weak (wk_s (wk_s (wk_s (wk_s wk_0)))) h
set_option maxRecDepth 100000 in
set_option maxHeartbeats 4000000 in
theorem b_X12_signToken_116 {G : ab_G} {fr : Bool} {n0 : Nat} {tl : ab_H} {K : ms_S → Prop} {S : ms_S} {i2 : Int32} {t0 : Int32}
    (h : (i2 = 0 → ((t0 = 0 → (L_X12_signToken_135 G fr n0 tl K S i2 t0)) ∧ (¬ t0 = 0 → (L_X12_signToken_125 G fr n0 tl K S i2 t0)))) ∧ (¬ i2 = 0 → (L_X12_signToken_125 G fr n0 tl K S i2 t0))) :
    L_X12_signToken_116 G fr n0 tl K S i2 t0 := by
  unfold L_X12_signToken_116
  iterate 3 refine ws_b rfl ?_
  refine wp_ite (fun q => ?_) (fun q => ?_)
  · replace h := h.1 q
    iterate 2 refine ws_b rfl ?_
    refine wp_ite (fun q => ?_) (fun q => ?_)
    · replace h := h.1 q
      exact wp_weak (wk_s (wk_s (wk_s (wk_s wk_0)))) h
    · replace h := h.2 q
      exact wp_weak (wk_s (wk_s (wk_s (wk_s wk_0)))) h
  · replace h := h.2 q
    exact wp_weak (wk_s (wk_s (wk_s (wk_s wk_0)))) h
set_option maxRecDepth 100000 in
set_option maxHeartbeats 4000000 in
theorem b_X12_signToken_125 {G : ab_G} {fr : Bool} {n0 : Nat} {tl : ab_H} {K : ms_S → Prop} {S : ms_S} {i2 : Int32} {i3 : Int32}
    (h : L_X12_signToken_135 G fr n0 tl K (sV S 7 ((S.1 0 7) + (nI 1))) i2 i3) :
    L_X12_signToken_125 G fr n0 tl K S i2 i3 := by
  unfold L_X12_signToken_125
  iterate 6 refine ws_b rfl ?_
  exact wp_weak (wk_s (wk_s (wk_s (wk_s wk_0)))) h
set_option maxRecDepth 100000 in
set_option maxHeartbeats 4000000 in
theorem b_X12_signToken_135 {G : ab_G} {fr : Bool} {n0 : Nat} {tl : ab_H} {K : ms_S → Prop} {S : ms_S} {i2 : Int32} {i3 : Int32}
    (h : ((S.1 0 9) = (nI 61) → (L_X12_signToken_192 G fr n0 tl K (sV S 8 (nI 5)) (nI 2))) ∧ (¬ (S.1 0 9) = (nI 61) → (((S.1 0 9) = (nI 60) → ((i2 = 0 → ((i3 = 0 → (L_X12_signToken_192 G fr n0 tl K (sV S 8 (nI 5)) (nI 0))) ∧ (¬ i3 = 0 → (L_X12_signToken_192 G fr n0 tl K (sV S 8 (nI 5)) (nI 3))))) ∧ (¬ i2 = 0 → (L_X12_signToken_192 G fr n0 tl K (sV S 8 (nI 5)) (nI 1))))) ∧ (¬ (S.1 0 9) = (nI 60) → ((i2 = 0 → (L_X12_signToken_192 G fr n0 tl K (sV S 8 (nI 5)) (nI 5))) ∧ (¬ i2 = 0 → (L_X12_signToken_192 G fr n0 tl K (sV S 8 (nI 5)) (nI 4)))))))) :
    L_X12_signToken_135 G fr n0 tl K S i2 i3 := by
  unfold L_X12_signToken_135
  iterate 8 refine ws_b rfl ?_
  refine wp_ite (fun q => ?_) (fun q => ?_)
  · replace h := h.1 q
    iterate 2 refine ws_b rfl ?_
    exact wp_weak (wk_n (wk_s (wk_n (wk_n wk_0)))) h
  · replace h := h.2 q
    iterate 4 refine ws_b rfl ?_
    refine wp_ite (fun q => ?_) (fun q => ?_)
    · replace h := h.1 q
      iterate 2 refine ws_b rfl ?_
      refine wp_ite (fun q => ?_) (fun q => ?_)
      · replace h := h.1 q
        iterate 2 refine ws_b rfl ?_
        refine wp_ite (fun q => ?_) (fun q => ?_)
        · replace h := h.1 q
          iterate 2 refine ws_b rfl ?_
          exact wp_weak (wk_n (wk_s (wk_n (wk_n wk_0)))) h
        · replace h := h.2 q
          iterate 2 refine ws_b rfl ?_
          exact wp_weak (wk_n (wk_s (wk_n (wk_n wk_0)))) h
      · replace h := h.2 q
        iterate 2 refine ws_b rfl ?_
        exact wp_weak (wk_n (wk_s (wk_n (wk_n wk_0)))) h
    · replace h := h.2 q
      iterate 2 refine ws_b rfl ?_
      refine wp_ite (fun q => ?_) (fun q => ?_)
      · replace h := h.1 q
        refine ws_b rfl ?_
        exact wp_weak (wk_n (wk_s (wk_n (wk_n wk_0)))) h
      · replace h := h.2 q
        iterate 2 refine ws_b rfl ?_
        exact wp_weak (wk_n (wk_s (wk_n (wk_n wk_0)))) h
set_option maxRecDepth 100000 in
set_option maxHeartbeats 4000000 in
theorem b_X12_signToken_192 {G : ab_G} {fr : Bool} {n0 : Nat} {tl : ab_H} {K : ms_S → Prop} {S : ms_S} {t0 : Int32}
    (h : L_X12_signToken_290 G fr n0 tl K (sV S 9 t0) ) :
    L_X12_signToken_192 G fr n0 tl K S t0 := by
  unfold L_X12_signToken_192
  iterate 2 refine ws_b rfl ?_
  exact wp_weak (wk_s (wk_s (wk_s (wk_s wk_0)))) h
set_option maxRecDepth 100000 in
set_option maxHeartbeats 4000000 in
theorem b_X12_signToken_270 {G : ab_G} {fr : Bool} {n0 : Nat} {tl : ab_H} {K : ms_S → Prop} {S : ms_S} 
    (h : L_X12_signToken_275 G fr n0 tl K S (nI 1)) :
    L_X12_signToken_270 G fr n0 tl K S  := by
  unfold L_X12_signToken_270
  iterate 2 refine ws_b rfl ?_
  exact wp_weak (wk_s (wk_s (wk_s (wk_s wk_0)))) h
set_option maxRecDepth 100000 in
set_option maxHeartbeats 4000000 in
theorem b_X12_signToken_275 {G : ab_G} {fr : Bool} {n0 : Nat} {tl : ab_H} {K : ms_S → Prop} {S : ms_S} {t0 : Int32}
    (h : (t0 = 0 → (L_X12_signToken_287 G fr n0 tl K S (nI 6))) ∧ (¬ t0 = 0 → (L_X12_signToken_287 G fr n0 tl K S (nI 4)))) :
    L_X12_signToken_275 G fr n0 tl K S t0 := by
  unfold L_X12_signToken_275
  iterate 4 refine ws_b rfl ?_
  refine wp_ite (fun q => ?_) (fun q => ?_)
  · replace h := h.1 q
    refine ws_b rfl ?_
    exact wp_weak (wk_n (wk_n (wk_s (wk_s wk_0)))) h
  · replace h := h.2 q
    iterate 2 refine ws_b rfl ?_
    exact wp_weak (wk_n (wk_n (wk_s (wk_s wk_0)))) h
set_option maxRecDepth 100000 in
set_option maxHeartbeats 4000000 in
theorem b_X12_signToken_287 {G : ab_G} {fr : Bool} {n0 : Nat} {tl : ab_H} {K : ms_S → Prop} {S : ms_S} {t0 : Int32}
    (h : L_X12_signToken_290 G fr n0 tl K (sV S 8 t0) ) :
    L_X12_signToken_287 G fr n0 tl K S t0 := by
  unfold L_X12_signToken_287
  refine ws_b rfl ?_
  exact wp_weak (wk_s (wk_s (wk_s (wk_s wk_0)))) h
set_option maxRecDepth 100000 in
set_option maxHeartbeats 4000000 in
theorem b_X12_signToken_290 {G : ab_G} {fr : Bool} {n0 : Nat} {tl : ab_H} {K : ms_S → Prop} {S : ms_S} 
    (h : K S) :
    L_X12_signToken_290 G fr n0 tl K S  := by
  unfold L_X12_signToken_290
  exact wp_rv rfl rfl ⟨_, rfl, rfl, h⟩
set_option maxRecDepth 100000 in
set_option maxHeartbeats 4000000 in
theorem m_X12_signToken {G : ab_G} {fr : Bool} {tl : ab_H} {K : ms_S → Prop} {S : ms_S} 
    (h : ∀ n0 : Nat, vp_in (S.1 0 7) 700 ∧ (((S.2.2.2.1 1 ((S.1 0 7).toNatClampNeg)) = (nI 60) → (L_X12_signToken_50 G fr n0 tl K (sV (sV S 9 (S.2.2.2.1 1 ((S.1 0 7).toNatClampNeg))) 7 ((S.1 0 7) + (nI 1))) )) ∧ (¬ (S.2.2.2.1 1 ((S.1 0 7).toNatClampNeg)) = (nI 60) → (((S.2.2.2.1 1 ((S.1 0 7).toNatClampNeg)) = (nI 62) → (L_X12_signToken_50 G fr n0 tl K (sV (sV S 9 (S.2.2.2.1 1 ((S.1 0 7).toNatClampNeg))) 7 ((S.1 0 7) + (nI 1))) )) ∧ (¬ (S.2.2.2.1 1 ((S.1 0 7).toNatClampNeg)) = (nI 62) → (((S.2.2.2.1 1 ((S.1 0 7).toNatClampNeg)) = (nI 61) → (L_X12_signToken_50 G fr n0 tl K (sV (sV S 9 (S.2.2.2.1 1 ((S.1 0 7).toNatClampNeg))) 7 ((S.1 0 7) + (nI 1))) )) ∧ (¬ (S.2.2.2.1 1 ((S.1 0 7).toNatClampNeg)) = (nI 61) → (((S.2.2.2.1 1 ((S.1 0 7).toNatClampNeg)) = (nI 59) → (L_X12_signToken_270 G fr n0 tl K (sV (sV S 9 (S.2.2.2.1 1 ((S.1 0 7).toNatClampNeg))) 7 ((S.1 0 7) + (nI 1))) )) ∧ (¬ (S.2.2.2.1 1 ((S.1 0 7).toNatClampNeg)) = (nI 59) → (((S.2.2.2.1 1 ((S.1 0 7).toNatClampNeg)) = (nI 40) → (L_X12_signToken_270 G fr n0 tl K (sV (sV S 9 (S.2.2.2.1 1 ((S.1 0 7).toNatClampNeg))) 7 ((S.1 0 7) + (nI 1))) )) ∧ (¬ (S.2.2.2.1 1 ((S.1 0 7).toNatClampNeg)) = (nI 40) → (((S.2.2.2.1 1 ((S.1 0 7).toNatClampNeg)) = (nI 41) → (L_X12_signToken_270 G fr n0 tl K (sV (sV S 9 (S.2.2.2.1 1 ((S.1 0 7).toNatClampNeg))) 7 ((S.1 0 7) + (nI 1))) )) ∧ (¬ (S.2.2.2.1 1 ((S.1 0 7).toNatClampNeg)) = (nI 41) → (((S.2.2.2.1 1 ((S.1 0 7).toNatClampNeg)) = (nI 43) → (L_X12_signToken_270 G fr n0 tl K (sV (sV S 9 (S.2.2.2.1 1 ((S.1 0 7).toNatClampNeg))) 7 ((S.1 0 7) + (nI 1))) )) ∧ (¬ (S.2.2.2.1 1 ((S.1 0 7).toNatClampNeg)) = (nI 43) → (((S.2.2.2.1 1 ((S.1 0 7).toNatClampNeg)) = (nI 45) → (L_X12_signToken_270 G fr n0 tl K (sV (sV S 9 (S.2.2.2.1 1 ((S.1 0 7).toNatClampNeg))) 7 ((S.1 0 7) + (nI 1))) )) ∧ (¬ (S.2.2.2.1 1 ((S.1 0 7).toNatClampNeg)) = (nI 45) → (((S.2.2.2.1 1 ((S.1 0 7).toNatClampNeg)) = (nI 42) → (L_X12_signToken_270 G fr n0 tl K (sV (sV S 9 (S.2.2.2.1 1 ((S.1 0 7).toNatClampNeg))) 7 ((S.1 0 7) + (nI 1))) )) ∧ (¬ (S.2.2.2.1 1 ((S.1 0 7).toNatClampNeg)) = (nI 42) → (((S.2.2.2.1 1 ((S.1 0 7).toNatClampNeg)) = (nI 47) → (L_X12_signToken_270 G fr n0 tl K (sV (sV S 9 (S.2.2.2.1 1 ((S.1 0 7).toNatClampNeg))) 7 ((S.1 0 7) + (nI 1))) )) ∧ (¬ (S.2.2.2.1 1 ((S.1 0 7).toNatClampNeg)) = (nI 47) → (((S.2.2.2.1 1 ((S.1 0 7).toNatClampNeg)) = (nI 37) → (L_X12_signToken_270 G fr n0 tl K (sV (sV S 9 (S.2.2.2.1 1 ((S.1 0 7).toNatClampNeg))) 7 ((S.1 0 7) + (nI 1))) )) ∧ (¬ (S.2.2.2.1 1 ((S.1 0 7).toNatClampNeg)) = (nI 37) → (L_X12_signToken_275 G fr n0 tl K (sV (sV S 9 (S.2.2.2.1 1 ((S.1 0 7).toNatClampNeg))) 7 ((S.1 0 7) + (nI 1))) (nI 0))))))))))))))))))))))))) :
    ctU G 1 M_X12_signToken fr [.ref 0] lM S tl K := by
  refine wp_ct o_X12_signToken (Nat.le_of_ble_eq_true rfl) ?_
  replace h := h (hLy lM S tl).length
  revert h
  generalize (hLy lM S tl).length = n0
  intro h
  iterate 5 refine ws_b rfl ?_
  refine ws_g rfl h.1 ?_
  replace h := h.2
  iterate 11 refine ws_b rfl ?_
  refine wp_ite (fun q => ?_) (fun q => ?_)
  · replace h := h.1 q
    exact wp_weak (wk_s (wk_s (wk_s (wk_s wk_0)))) h
  · replace h := h.2 q
    iterate 4 refine ws_b rfl ?_
    refine wp_ite (fun q => ?_) (fun q => ?_)
    · replace h := h.1 q
      exact wp_weak (wk_s (wk_s (wk_s (wk_s wk_0)))) h
    · replace h := h.2 q
      iterate 4 refine ws_b rfl ?_
      refine wp_ite (fun q => ?_) (fun q => ?_)
      · replace h := h.1 q
        exact wp_weak (wk_s (wk_s (wk_s (wk_s wk_0)))) h
      · replace h := h.2 q
        iterate 4 refine ws_b rfl ?_
        refine wp_ite (fun q => ?_) (fun q => ?_)
        · replace h := h.1 q
          exact wp_weak (wk_s (wk_s (wk_s (wk_s wk_0)))) h
        · replace h := h.2 q
          iterate 4 refine ws_b rfl ?_
          refine wp_ite (fun q => ?_) (fun q => ?_)
          · replace h := h.1 q
            exact wp_weak (wk_s (wk_s (wk_s (wk_s wk_0)))) h
          · replace h := h.2 q
            iterate 4 refine ws_b rfl ?_
            refine wp_ite (fun q => ?_) (fun q => ?_)
            · replace h := h.1 q
              exact wp_weak (wk_s (wk_s (wk_s (wk_s wk_0)))) h
            · replace h := h.2 q
              iterate 4 refine ws_b rfl ?_
              refine wp_ite (fun q => ?_) (fun q => ?_)
              · replace h := h.1 q
                exact wp_weak (wk_s (wk_s (wk_s (wk_s wk_0)))) h
              · replace h := h.2 q
                iterate 4 refine ws_b rfl ?_
                refine wp_ite (fun q => ?_) (fun q => ?_)
                · replace h := h.1 q
                  exact wp_weak (wk_s (wk_s (wk_s (wk_s wk_0)))) h
                · replace h := h.2 q
                  iterate 4 refine ws_b rfl ?_
                  refine wp_ite (fun q => ?_) (fun q => ?_)
                  · replace h := h.1 q
                    exact wp_weak (wk_s (wk_s (wk_s (wk_s wk_0)))) h
                  · replace h := h.2 q
                    iterate 4 refine ws_b rfl ?_
                    refine wp_ite (fun q => ?_) (fun q => ?_)
                    · replace h := h.1 q
                      exact wp_weak (wk_s (wk_s (wk_s (wk_s wk_0)))) h
                    · replace h := h.2 q
                      iterate 4 refine ws_b rfl ?_
                      refine wp_ite (fun q => ?_) (fun q => ?_)
                      · replace h := h.1 q
                        exact wp_weak (wk_s (wk_s (wk_s (wk_s wk_0)))) h
                      · replace h := h.2 q
                        refine ws_b rfl ?_
                        exact wp_weak (wk_s (wk_s (wk_s (wk_s wk_0)))) h
def L_X12_token_0 (G : ab_G) (fr : Bool) (n0 : Nat) (tl : ab_H) (K : ms_S → Prop) (S : ms_S)  : Prop := wp G 2 M_X12_token fr n0 (poU lM tl K) 0 [some (.ref 0)] [] (hLy lM S tl)
def L_X12_token_39 (G : ab_G) (fr : Bool) (n0 : Nat) (tl : ab_H) (K : ms_S → Prop) (S : ms_S)  : Prop := wp G 2 M_X12_token fr n0 (poU lM tl K) 39 [some (.ref 0)] [] (hLy lM S tl)
def L_X12_token_52 (G : ab_G) (fr : Bool) (n0 : Nat) (tl : ab_H) (K : ms_S → Prop) (S : ms_S)  : Prop := wp G 2 M_X12_token fr n0 (poU lM tl K) 52 [some (.ref 0)] [] (hLy lM S tl)
def L_X12_token_90 (G : ab_G) (fr : Bool) (n0 : Nat) (tl : ab_H) (K : ms_S → Prop) (S : ms_S)  : Prop := wp G 2 M_X12_token fr n0 (poU lM tl K) 90 [some (.ref 0)] [] (hLy lM S tl)
def L_X12_token_162 (G : ab_G) (fr : Bool) (n0 : Nat) (tl : ab_H) (K : ms_S → Prop) (S : ms_S) (t0 : Int32) : Prop := wp G 2 M_X12_token fr n0 (poU lM tl K) 162 [some (.ref 0)] [.int t0, .ref 0] (hLy lM S tl)
def L_X12_token_213 (G : ab_G) (fr : Bool) (n0 : Nat) (tl : ab_H) (K : ms_S → Prop) (S : ms_S)  : Prop := wp G 2 M_X12_token fr n0 (poU lM tl K) 213 [some (.ref 0)] [] (hLy lM S tl)
def L_X12_token_261 (G : ab_G) (fr : Bool) (n0 : Nat) (tl : ab_H) (K : ms_S → Prop) (S : ms_S) (t0 : Int32) : Prop := wp G 2 M_X12_token fr n0 (poU lM tl K) 261 [some (.ref 0)] [.int t0, .ref 0] (hLy lM S tl)
def L_X12_token_281 (G : ab_G) (fr : Bool) (n0 : Nat) (tl : ab_H) (K : ms_S → Prop) (S : ms_S)  : Prop := wp G 2 M_X12_token fr n0 (poU lM tl K) 281 [none] [] (hLy lM S tl)
set_option maxRecDepth 100000 in
set_option maxHeartbeats 4000000 in
theorem b_X12_token_0 {G : ab_G} {fr : Bool} {n0 : Nat} {tl : ab_H} {K : ms_S → Prop} {S : ms_S} 
    (h : ((S.1 0 6) ≤ (S.1 0 7) → (L_X12_token_52 G fr n0 tl K S )) ∧ (¬ (S.1 0 6) ≤ (S.1 0 7) → (vp_in (S.1 0 7) 700 ∧ (((S.2.2.2.1 1 ((S.1 0 7).toNatClampNeg)) = (nI 10) → (L_X12_token_39 G fr n0 tl K S )) ∧ (¬ (S.2.2.2.1 1 ((S.1 0 7).toNatClampNeg)) = (nI 10) → (vp_in (S.1 0 7) 700 ∧ (((S.2.2.2.1 1 ((S.1 0 7).toNatClampNeg)) = (nI 32) → (L_X12_token_39 G fr n0 tl K S )) ∧ (¬ (S.2.2.2.1 1 ((S.1 0 7).toNatClampNeg)) = (nI 32) → (L_X12_token_52 G fr n0 tl K S ))))))))) :
    L_X12_token_0 G fr n0 tl K S  := by
  unfold L_X12_token_0
  iterate 5 refine ws_b rfl ?_
  refine wp_ite (fun q => ?_) (fun q => ?_)
  · replace h := h.1 q
    exact wp_weak (wk_s wk_0) h
  · replace h := h.2 q
    iterate 4 refine ws_b rfl ?_
    refine ws_g rfl h.1 ?_
    replace h := h.2
    iterate 2 refine ws_b rfl ?_
    refine wp_ite (fun q => ?_) (fun q => ?_)
    · replace h := h.1 q
      exact wp_weak (wk_s wk_0) h
    · replace h := h.2 q
      iterate 4 refine ws_b rfl ?_
      refine ws_g rfl h.1 ?_
      replace h := h.2
      iterate 2 refine ws_b rfl ?_
      refine wp_ite (fun q => ?_) (fun q => ?_)
      · replace h := h.1 q
        exact wp_weak (wk_s wk_0) h
      · replace h := h.2 q
        exact wp_weak (wk_s wk_0) h
set_option maxRecDepth 100000 in
set_option maxHeartbeats 4000000 in
theorem b_X12_token_39 {G : ab_G} {fr : Bool} {n0 : Nat} {tl : ab_H} {K : ms_S → Prop} {S : ms_S} 
    (h : L_X12_token_0 G fr n0 tl K (sV S 7 ((S.1 0 7) + (nI 1))) ) :
    L_X12_token_39 G fr n0 tl K S  := by
  unfold L_X12_token_39
  iterate 7 refine ws_b rfl ?_
  exact wp_weak (wk_s wk_0) h
set_option maxRecDepth 100000 in
set_option maxHeartbeats 4000000 in
theorem b_X12_token_52 {G : ab_G} {fr : Bool} {n0 : Nat} {tl : ab_H} {K : ms_S → Prop} {S : ms_S} 
    (h : ((S.1 0 7) = (S.1 0 6) → (L_X12_token_281 G fr n0 tl K (sV (sV S 10 (S.1 0 7)) 8 (nI 0)) )) ∧ (¬ (S.1 0 7) = (S.1 0 6) → (ctI G 1 M_X12_isSmall fr [.ref 0, .int (S.1 0 7)] lM (sV S 10 (S.1 0 7)) tl (fun v1 S1 => (v1 = 0 → (ctI G 1 M_X12_isDigit fr [.ref 0, .int (S1.1 0 7)] lM S1 tl (fun v2 S2 => (v2 = 0 → (ctU G 1 M_X12_signToken fr [.ref 0] lM S2 tl (fun S3 => L_X12_token_281 G fr n0 tl K S3 ))) ∧ (¬ v2 = 0 → (L_X12_token_213 G fr n0 tl K (sV (sV S2 8 (nI 3)) 9 (nI 0)) ))))) ∧ (¬ v1 = 0 → (L_X12_token_90 G fr n0 tl K S1 )))))) :
    L_X12_token_52 G fr n0 tl K S  := by
  unfold L_X12_token_52
  iterate 9 refine ws_b rfl ?_
  refine wp_ite (fun q => ?_) (fun q => ?_)
  · replace h := h.1 q
    iterate 4 refine ws_b rfl ?_
    exact wp_weak (wk_n wk_0) h
  · replace h := h.2 q
    iterate 3 refine ws_b rfl ?_
    refine wp_cV rfl rfl o_X12_isSmall v_X12_isSmall h rfl rfl rfl (Nat.le_of_ble_eq_true rfl) (by decide) ?_
    clear h
    rintro r9 h9 ⟨v1, S1, rfl, rfl, h⟩
    refine ws_b rfl ?_
    refine wp_ite (fun q => ?_) (fun q => ?_)
    · replace h := h.1 q
      iterate 3 refine ws_b rfl ?_
      refine wp_cV rfl rfl o_X12_isDigit v_X12_isDigit h rfl rfl rfl (Nat.le_of_ble_eq_true rfl) (by decide) ?_
      clear h
      rintro r9 h9 ⟨v2, S2, rfl, rfl, h⟩
      refine ws_b rfl ?_
      refine wp_ite (fun q => ?_) (fun q => ?_)
      · replace h := h.1 q
        refine ws_b rfl ?_
        refine wp_cV rfl rfl o_X12_signToken v_X12_signToken h rfl rfl rfl (Nat.le_of_ble_eq_true rfl) (by decide) ?_
        clear h
        rintro r9 h9 ⟨S3, rfl, rfl, h⟩
        exact wp_weak (wk_n wk_0) h
      · replace h := h.2 q
        iterate 6 refine ws_b rfl ?_
        exact wp_weak (wk_s wk_0) h
    · replace h := h.2 q
      exact wp_weak (wk_s wk_0) h
set_option maxRecDepth 100000 in
set_option maxHeartbeats 4000000 in
theorem b_X12_token_90 {G : ab_G} {fr : Bool} {n0 : Nat} {tl : ab_H} {K : ms_S → Prop} {S : ms_S} 
    (h : ctI G 1 M_X12_isSmall fr [.ref 0, .int (S.1 0 7)] lM S tl (fun v1 S1 => (v1 = 0 → (ctI G 1 M_X12_wordAt fr [.ref 0, .int (S1.1 0 10), .int (S1.1 0 7)] lM S1 tl (fun v2 S2 => (v2 < 0 → ((((S2.1 0 7) - (S2.1 0 10)) ≤ (nI 6) → (L_X12_token_162 G fr n0 tl K (sV S2 9 v2) (nI 2))) ∧ (¬ ((S2.1 0 7) - (S2.1 0 10)) ≤ (nI 6) → (L_X12_token_162 G fr n0 tl K (sV S2 9 v2) (nI 6))))) ∧ (¬ v2 < 0 → (L_X12_token_162 G fr n0 tl K (sV S2 9 v2) (nI 1)))))) ∧ (¬ v1 = 0 → (L_X12_token_90 G fr n0 tl K (sV S1 7 ((S1.1 0 7) + (nI 1))) )))) :
    L_X12_token_90 G fr n0 tl K S  := by
  unfold L_X12_token_90
  iterate 3 refine ws_b rfl ?_
  refine wp_cV rfl rfl o_X12_isSmall v_X12_isSmall h rfl rfl rfl (Nat.le_of_ble_eq_true rfl) (by decide) ?_
  clear h
  rintro r9 h9 ⟨v1, S1, rfl, rfl, h⟩
  refine ws_b rfl ?_
  refine wp_ite (fun q => ?_) (fun q => ?_)
  · replace h := h.1 q
    iterate 6 refine ws_b rfl ?_
    refine wp_cV rfl rfl o_X12_wordAt v_X12_wordAt h rfl rfl rfl (Nat.le_of_ble_eq_true rfl) (by decide) ?_
    clear h
    rintro r9 h9 ⟨v2, S2, rfl, rfl, h⟩
    iterate 5 refine ws_b rfl ?_
    refine wp_ite (fun q => ?_) (fun q => ?_)
    · replace h := h.1 q
      iterate 7 refine ws_b rfl ?_
      refine wp_ite (fun q => ?_) (fun q => ?_)
      · replace h := h.1 q
        refine ws_b rfl ?_
        exact wp_weak (wk_s wk_0) h
      · replace h := h.2 q
        iterate 2 refine ws_b rfl ?_
        exact wp_weak (wk_s wk_0) h
    · replace h := h.2 q
      iterate 2 refine ws_b rfl ?_
      exact wp_weak (wk_s wk_0) h
  · replace h := h.2 q
    iterate 7 refine ws_b rfl ?_
    exact wp_weak (wk_s wk_0) h
set_option maxRecDepth 100000 in
set_option maxHeartbeats 4000000 in
theorem b_X12_token_162 {G : ab_G} {fr : Bool} {n0 : Nat} {tl : ab_H} {K : ms_S → Prop} {S : ms_S} {t0 : Int32}
    (h : (t0 = (nI 2) → (ctI G 1 M_X12_packed fr [.ref 0, .int (S.1 0 10), .int (S.1 0 7)] lM (sV S 8 t0) tl (fun v1 S1 => L_X12_token_281 G fr n0 tl K (sV S1 9 v1) ))) ∧ (¬ t0 = (nI 2) → (L_X12_token_281 G fr n0 tl K (sV S 8 t0) ))) :
    L_X12_token_162 G fr n0 tl K S t0 := by
  unfold L_X12_token_162
  iterate 5 refine ws_b rfl ?_
  refine wp_ite (fun q => ?_) (fun q => ?_)
  · replace h := h.1 q
    iterate 6 refine ws_b rfl ?_
    refine wp_cV rfl rfl o_X12_packed v_X12_packed h rfl rfl rfl (Nat.le_of_ble_eq_true rfl) (by decide) ?_
    clear h
    rintro r9 h9 ⟨v1, S1, rfl, rfl, h⟩
    iterate 2 refine ws_b rfl ?_
    exact wp_weak (wk_n wk_0) h
  · replace h := h.2 q
    exact wp_weak (wk_n wk_0) h
set_option maxRecDepth 100000 in
set_option maxHeartbeats 4000000 in
theorem b_X12_token_213 {G : ab_G} {fr : Bool} {n0 : Nat} {tl : ab_H} {K : ms_S → Prop} {S : ms_S} 
    (h : ctI G 1 M_X12_isDigit fr [.ref 0, .int (S.1 0 7)] lM S tl (fun v1 S1 => (v1 = 0 → (L_X12_token_281 G fr n0 tl K S1 )) ∧ (¬ v1 = 0 → (((S1.1 0 9) ≤ ((99999 : Int32)) → (vp_in (S1.1 0 7) 700 ∧ (L_X12_token_261 G fr n0 tl K S1 ((((nI 10) * (S1.1 0 9)) + (S1.2.2.2.1 1 ((S1.1 0 7).toNatClampNeg))) - (nI 48))))) ∧ (¬ (S1.1 0 9) ≤ ((99999 : Int32)) → (L_X12_token_261 G fr n0 tl K S1 (S1.1 0 9))))))) :
    L_X12_token_213 G fr n0 tl K S  := by
  unfold L_X12_token_213
  iterate 3 refine ws_b rfl ?_
  refine wp_cV rfl rfl o_X12_isDigit v_X12_isDigit h rfl rfl rfl (Nat.le_of_ble_eq_true rfl) (by decide) ?_
  clear h
  rintro r9 h9 ⟨v1, S1, rfl, rfl, h⟩
  refine ws_b rfl ?_
  refine wp_ite (fun q => ?_) (fun q => ?_)
  · replace h := h.1 q
    exact wp_weak (wk_n wk_0) h
  · replace h := h.2 q
    iterate 5 refine ws_b rfl ?_
    refine wp_ite (fun q => ?_) (fun q => ?_)
    · replace h := h.1 q
      iterate 8 refine ws_b rfl ?_
      refine ws_g rfl h.1 ?_
      replace h := h.2
      iterate 3 refine ws_b rfl ?_
      exact wp_weak (wk_s wk_0) h
    · replace h := h.2 q
      iterate 3 refine ws_b rfl ?_
      exact wp_weak (wk_s wk_0) h
set_option maxRecDepth 100000 in
set_option maxHeartbeats 4000000 in
theorem b_X12_token_261 {G : ab_G} {fr : Bool} {n0 : Nat} {tl : ab_H} {K : ms_S → Prop} {S : ms_S} {t0 : Int32}
    (h : L_X12_token_213 G fr n0 tl K (sV (sV S 9 t0) 7 ((S.1 0 7) + (nI 1))) ) :
    L_X12_token_261 G fr n0 tl K S t0 := by
  unfold L_X12_token_261
  iterate 8 refine ws_b rfl ?_
  exact wp_weak (wk_s wk_0) h
set_option maxRecDepth 100000 in
set_option maxHeartbeats 4000000 in
theorem b_X12_token_281 {G : ab_G} {fr : Bool} {n0 : Nat} {tl : ab_H} {K : ms_S → Prop} {S : ms_S} 
    (h : K S) :
    L_X12_token_281 G fr n0 tl K S  := by
  unfold L_X12_token_281
  exact wp_rv rfl rfl ⟨_, rfl, rfl, h⟩
set_option maxRecDepth 100000 in
set_option maxHeartbeats 4000000 in
theorem m_X12_token {G : ab_G} {fr : Bool} {tl : ab_H} {K : ms_S → Prop} {S : ms_S} 
    (h : ∀ n0 : Nat, L_X12_token_0 G fr n0 tl K S ) :
    ctU G 2 M_X12_token fr [.ref 0] lM S tl K := by
  refine wp_ct o_X12_token (Nat.le_of_ble_eq_true rfl) ?_
  replace h := h (hLy lM S tl).length
  revert h
  generalize (hLy lM S tl).length = n0
  intro h
  exact wp_weak (wk_s wk_0) h
set_option maxRecDepth 100000 in
set_option maxHeartbeats 4000000 in
theorem m_X12_isKey {G : ab_G} {fr : Bool} {tl : ab_H} {K : Int32 → ms_S → Prop} {S : ms_S} {i1 : Int32}
    (h : ∀ n0 : Nat, ((S.1 0 8) = (nI 1) → (((S.1 0 9) = i1 → (K (nI 1) S)) ∧ (¬ (S.1 0 9) = i1 → (K (nI 0) S)))) ∧ (¬ (S.1 0 8) = (nI 1) → (K (nI 0) S))) :
    ctI G 1 M_X12_isKey fr [.ref 0, .int i1] lM S tl K := by
  refine wp_ct o_X12_isKey (Nat.le_of_ble_eq_true rfl) ?_
  replace h := h (hLy lM S tl).length
  revert h
  generalize (hLy lM S tl).length = n0
  intro h
  iterate 4 refine ws_b rfl ?_
  refine wp_ite (fun q => ?_) (fun q => ?_)
  · replace h := h.1 q
    iterate 4 refine ws_b rfl ?_
    refine wp_ite (fun q => ?_) (fun q => ?_)
    · replace h := h.1 q
      iterate 2 refine ws_b rfl ?_
      exact wp_ri rfl rfl rfl ⟨_, _, rfl, rfl, h⟩
    · replace h := h.2 q
      refine ws_b rfl ?_
      exact wp_ri rfl rfl rfl ⟨_, _, rfl, rfl, h⟩
  · replace h := h.2 q
    refine ws_b rfl ?_
    exact wp_ri rfl rfl rfl ⟨_, _, rfl, rfl, h⟩
set_option maxRecDepth 100000 in
set_option maxHeartbeats 4000000 in
theorem m_X12_isSign {G : ab_G} {fr : Bool} {tl : ab_H} {K : Int32 → ms_S → Prop} {S : ms_S} {i1 : Int32}
    (h : ∀ n0 : Nat, ((S.1 0 8) = (nI 4) → (((S.1 0 9) = i1 → (K (nI 1) S)) ∧ (¬ (S.1 0 9) = i1 → (K (nI 0) S)))) ∧ (¬ (S.1 0 8) = (nI 4) → (K (nI 0) S))) :
    ctI G 1 M_X12_isSign fr [.ref 0, .int i1] lM S tl K := by
  refine wp_ct o_X12_isSign (Nat.le_of_ble_eq_true rfl) ?_
  replace h := h (hLy lM S tl).length
  revert h
  generalize (hLy lM S tl).length = n0
  intro h
  iterate 4 refine ws_b rfl ?_
  refine wp_ite (fun q => ?_) (fun q => ?_)
  · replace h := h.1 q
    iterate 4 refine ws_b rfl ?_
    refine wp_ite (fun q => ?_) (fun q => ?_)
    · replace h := h.1 q
      iterate 2 refine ws_b rfl ?_
      exact wp_ri rfl rfl rfl ⟨_, _, rfl, rfl, h⟩
    · replace h := h.2 q
      refine ws_b rfl ?_
      exact wp_ri rfl rfl rfl ⟨_, _, rfl, rfl, h⟩
  · replace h := h.2 q
    refine ws_b rfl ?_
    exact wp_ri rfl rfl rfl ⟨_, _, rfl, rfl, h⟩
set_option maxRecDepth 100000 in
set_option maxHeartbeats 4000000 in
theorem m_X12_number {G : ab_G} {fr : Bool} {tl : ab_H} {K : Int32 → ms_S → Prop} {S : ms_S} {i1 : Int32} {i2 : Int32}
    (h : ∀ n0 : Nat, ((S.1 0 8) = (nI 3) → (ctI G 1 M_X12_isIn fr [.int (S.1 0 9), .int i1, .int i2] lM S tl (fun v1 S1 => (v1 = 0 → (ctI G 1 M_X12_wrong fr [.ref 0, .int (nI 2)] lM S1 tl (fun v2 S2 => (v2 = 0 ∨ v2 = 1) ∧ K v2 S2))) ∧ (¬ v1 = 0 → (ctU G 2 M_X12_token fr [.ref 0] lM (sV S1 11 (S1.1 0 9)) tl (fun S3 => K (nI 1) S3)))))) ∧ (¬ (S.1 0 8) = (nI 3) → (ctI G 1 M_X12_wrong fr [.ref 0, .int (nI 1)] lM S tl (fun v4 S4 => (v4 = 0 ∨ v4 = 1) ∧ K v4 S4)))) :
    ctI G 3 M_X12_number fr [.ref 0, .int i1, .int i2] lM S tl K := by
  refine wp_ct o_X12_number (Nat.le_of_ble_eq_true rfl) ?_
  replace h := h (hLy lM S tl).length
  revert h
  generalize (hLy lM S tl).length = n0
  intro h
  iterate 4 refine ws_b rfl ?_
  refine wp_ite (fun q => ?_) (fun q => ?_)
  · replace h := h.1 q
    iterate 4 refine ws_b rfl ?_
    refine wp_cS rfl rfl o_X12_isIn s_X12_isIn h rfl rfl (Nat.le_of_ble_eq_true rfl) (by decide) ?_
    clear h
    rintro r9 h9 ⟨v1, S1, rfl, rfl, h⟩
    refine ws_b rfl ?_
    refine wp_ite (fun q => ?_) (fun q => ?_)
    · replace h := h.1 q
      iterate 2 refine ws_b rfl ?_
      refine wp_cV rfl rfl o_X12_wrong v_X12_wrong h rfl rfl rfl (Nat.le_of_ble_eq_true rfl) (by decide) ?_
      clear h
      rintro r9 h9 ⟨v2, S2, rfl, rfl, h⟩
      exact wp_ri rfl rfl (nw_b h.1) ⟨_, _, rfl, rfl, h.2⟩
    · replace h := h.2 q
      iterate 5 refine ws_b rfl ?_
      refine wp_cV rfl rfl o_X12_token v_X12_token h rfl rfl rfl (Nat.le_of_ble_eq_true rfl) (by decide) ?_
      clear h
      rintro r9 h9 ⟨S3, rfl, rfl, h⟩
      refine ws_b rfl ?_
      exact wp_ri rfl rfl rfl ⟨_, _, rfl, rfl, h⟩
  · replace h := h.2 q
    iterate 2 refine ws_b rfl ?_
    refine wp_cV rfl rfl o_X12_wrong v_X12_wrong h rfl rfl rfl (Nat.le_of_ble_eq_true rfl) (by decide) ?_
    clear h
    rintro r9 h9 ⟨v4, S4, rfl, rfl, h⟩
    exact wp_ri rfl rfl (nw_b h.1) ⟨_, _, rfl, rfl, h.2⟩
set_option maxRecDepth 100000 in
set_option maxHeartbeats 4000000 in
theorem m_X12_newNameP {G : ab_G} {fr : Bool} {tl : ab_H} {K : Int32 → ms_S → Prop} {S : ms_S} {i2 : Int32} {i3 : Int32}
    (h : ∀ n0 : Nat, ((S.1 0 8) = (nI 2) → (ctI G 1 M_X12_find fr [.ref 5, .int i2, .int i3, .int (S.1 0 9)] lM S tl (fun v1 S1 => (v1 < 0 → (vp_in (i2 + i3) 18 ∧ (ctU G 2 M_X12_token fr [.ref 0] lM (sA S1 5 ((i2 + i3).toNatClampNeg) (S1.1 0 9)) tl (fun S2 => K (nI 1) S2)))) ∧ (¬ v1 < 0 → (ctI G 1 M_X12_wrong fr [.ref 0, .int (nI 3)] lM S1 tl (fun v3 S3 => (v3 = 0 ∨ v3 = 1) ∧ K v3 S3)))))) ∧ (¬ (S.1 0 8) = (nI 2) → (ctI G 1 M_X12_wrong fr [.ref 0, .int (nI 1)] lM S tl (fun v4 S4 => (v4 = 0 ∨ v4 = 1) ∧ K v4 S4)))) :
    ctI G 3 M_X12_newName fr [.ref 0, .ref 5, .int i2, .int i3] lM S tl K := by
  refine wp_ct o_X12_newName (Nat.le_of_ble_eq_true rfl) ?_
  replace h := h (hLy lM S tl).length
  revert h
  generalize (hLy lM S tl).length = n0
  intro h
  iterate 4 refine ws_b rfl ?_
  refine wp_ite (fun q => ?_) (fun q => ?_)
  · replace h := h.1 q
    iterate 5 refine ws_b rfl ?_
    refine wp_cS rfl rfl o_X12_find s_X12_find h rfl rfl (Nat.le_of_ble_eq_true rfl) (by decide) ?_
    clear h
    rintro r9 h9 ⟨v1, S1, rfl, rfl, h⟩
    refine ws_b rfl ?_
    refine wp_ite (fun q => ?_) (fun q => ?_)
    · replace h := h.1 q
      iterate 6 refine ws_b rfl ?_
      refine ws_g rfl h.1 ?_
      replace h := h.2
      refine ws_b rfl ?_
      refine wp_cV rfl rfl o_X12_token v_X12_token h rfl rfl rfl (Nat.le_of_ble_eq_true rfl) (by decide) ?_
      clear h
      rintro r9 h9 ⟨S2, rfl, rfl, h⟩
      refine ws_b rfl ?_
      exact wp_ri rfl rfl rfl ⟨_, _, rfl, rfl, h⟩
    · replace h := h.2 q
      iterate 2 refine ws_b rfl ?_
      refine wp_cV rfl rfl o_X12_wrong v_X12_wrong h rfl rfl rfl (Nat.le_of_ble_eq_true rfl) (by decide) ?_
      clear h
      rintro r9 h9 ⟨v3, S3, rfl, rfl, h⟩
      exact wp_ri rfl rfl (nw_b h.1) ⟨_, _, rfl, rfl, h.2⟩
  · replace h := h.2 q
    iterate 2 refine ws_b rfl ?_
    refine wp_cV rfl rfl o_X12_wrong v_X12_wrong h rfl rfl rfl (Nat.le_of_ble_eq_true rfl) (by decide) ?_
    clear h
    rintro r9 h9 ⟨v4, S4, rfl, rfl, h⟩
    exact wp_ri rfl rfl (nw_b h.1) ⟨_, _, rfl, rfl, h.2⟩
set_option maxRecDepth 100000 in
set_option maxHeartbeats 4000000 in
theorem m_X12_newNameH {G : ab_G} {fr : Bool} {tl : ab_H} {K : Int32 → ms_S → Prop} {S : ms_S} {i2 : Int32} {i3 : Int32}
    (h : ∀ n0 : Nat, ((S.1 0 8) = (nI 2) → (ctI G 1 M_X12_find fr [.ref 10, .int i2, .int i3, .int (S.1 0 9)] lM S tl (fun v1 S1 => (v1 < 0 → (vp_in (i2 + i3) 10 ∧ (ctU G 2 M_X12_token fr [.ref 0] lM (sA S1 10 ((i2 + i3).toNatClampNeg) (S1.1 0 9)) tl (fun S2 => K (nI 1) S2)))) ∧ (¬ v1 < 0 → (ctI G 1 M_X12_wrong fr [.ref 0, .int (nI 3)] lM S1 tl (fun v3 S3 => (v3 = 0 ∨ v3 = 1) ∧ K v3 S3)))))) ∧ (¬ (S.1 0 8) = (nI 2) → (ctI G 1 M_X12_wrong fr [.ref 0, .int (nI 1)] lM S tl (fun v4 S4 => (v4 = 0 ∨ v4 = 1) ∧ K v4 S4)))) :
    ctI G 3 M_X12_newName fr [.ref 0, .ref 10, .int i2, .int i3] lM S tl K := by
  refine wp_ct o_X12_newName (Nat.le_of_ble_eq_true rfl) ?_
  replace h := h (hLy lM S tl).length
  revert h
  generalize (hLy lM S tl).length = n0
  intro h
  iterate 4 refine ws_b rfl ?_
  refine wp_ite (fun q => ?_) (fun q => ?_)
  · replace h := h.1 q
    iterate 5 refine ws_b rfl ?_
    refine wp_cS rfl rfl o_X12_find s_X12_find h rfl rfl (Nat.le_of_ble_eq_true rfl) (by decide) ?_
    clear h
    rintro r9 h9 ⟨v1, S1, rfl, rfl, h⟩
    refine ws_b rfl ?_
    refine wp_ite (fun q => ?_) (fun q => ?_)
    · replace h := h.1 q
      iterate 6 refine ws_b rfl ?_
      refine ws_g rfl h.1 ?_
      replace h := h.2
      refine ws_b rfl ?_
      refine wp_cV rfl rfl o_X12_token v_X12_token h rfl rfl rfl (Nat.le_of_ble_eq_true rfl) (by decide) ?_
      clear h
      rintro r9 h9 ⟨S2, rfl, rfl, h⟩
      refine ws_b rfl ?_
      exact wp_ri rfl rfl rfl ⟨_, _, rfl, rfl, h⟩
    · replace h := h.2 q
      iterate 2 refine ws_b rfl ?_
      refine wp_cV rfl rfl o_X12_wrong v_X12_wrong h rfl rfl rfl (Nat.le_of_ble_eq_true rfl) (by decide) ?_
      clear h
      rintro r9 h9 ⟨v3, S3, rfl, rfl, h⟩
      exact wp_ri rfl rfl (nw_b h.1) ⟨_, _, rfl, rfl, h.2⟩
  · replace h := h.2 q
    iterate 2 refine ws_b rfl ?_
    refine wp_cV rfl rfl o_X12_wrong v_X12_wrong h rfl rfl rfl (Nat.le_of_ble_eq_true rfl) (by decide) ?_
    clear h
    rintro r9 h9 ⟨v4, S4, rfl, rfl, h⟩
    exact wp_ri rfl rfl (nw_b h.1) ⟨_, _, rfl, rfl, h.2⟩
set_option maxRecDepth 100000 in
set_option maxHeartbeats 4000000 in
theorem m_X12_thereInP {G : ab_G} {fr : Bool} {tl : ab_H} {K : Int32 → ms_S → Prop} {S : ms_S} {i2 : Int32} {i3 : Int32}
    (h : ∀ n0 : Nat, ((S.1 0 8) = (nI 2) → (ctI G 1 M_X12_find fr [.ref 5, .int i2, .int i3, .int (S.1 0 9)] lM S tl (fun v1 S1 => (0 ≤ v1 → (ctU G 2 M_X12_token fr [.ref 0] lM S1 tl (fun S2 => K (nI 1) (sV S2 11 v1)))) ∧ (¬ 0 ≤ v1 → (ctI G 1 M_X12_wrong fr [.ref 0, .int (nI 4)] lM S1 tl (fun v3 S3 => (v3 = 0 ∨ v3 = 1) ∧ K v3 S3)))))) ∧ (¬ (S.1 0 8) = (nI 2) → (ctI G 1 M_X12_wrong fr [.ref 0, .int (nI 1)] lM S tl (fun v4 S4 => (v4 = 0 ∨ v4 = 1) ∧ K v4 S4)))) :
    ctI G 3 M_X12_thereIn fr [.ref 0, .ref 5, .int i2, .int i3] lM S tl K := by
  refine wp_ct o_X12_thereIn (Nat.le_of_ble_eq_true rfl) ?_
  replace h := h (hLy lM S tl).length
  revert h
  generalize (hLy lM S tl).length = n0
  intro h
  iterate 4 refine ws_b rfl ?_
  refine wp_ite (fun q => ?_) (fun q => ?_)
  · replace h := h.1 q
    iterate 5 refine ws_b rfl ?_
    refine wp_cS rfl rfl o_X12_find s_X12_find h rfl rfl (Nat.le_of_ble_eq_true rfl) (by decide) ?_
    clear h
    rintro r9 h9 ⟨v1, S1, rfl, rfl, h⟩
    iterate 3 refine ws_b rfl ?_
    refine wp_ite (fun q => ?_) (fun q => ?_)
    · replace h := h.1 q
      refine ws_b rfl ?_
      refine wp_cV rfl rfl o_X12_token v_X12_token h rfl rfl rfl (Nat.le_of_ble_eq_true rfl) (by decide) ?_
      clear h
      rintro r9 h9 ⟨S2, rfl, rfl, h⟩
      iterate 4 refine ws_b rfl ?_
      exact wp_ri rfl rfl rfl ⟨_, _, rfl, rfl, h⟩
    · replace h := h.2 q
      iterate 2 refine ws_b rfl ?_
      refine wp_cV rfl rfl o_X12_wrong v_X12_wrong h rfl rfl rfl (Nat.le_of_ble_eq_true rfl) (by decide) ?_
      clear h
      rintro r9 h9 ⟨v3, S3, rfl, rfl, h⟩
      exact wp_ri rfl rfl (nw_b h.1) ⟨_, _, rfl, rfl, h.2⟩
  · replace h := h.2 q
    iterate 2 refine ws_b rfl ?_
    refine wp_cV rfl rfl o_X12_wrong v_X12_wrong h rfl rfl rfl (Nat.le_of_ble_eq_true rfl) (by decide) ?_
    clear h
    rintro r9 h9 ⟨v4, S4, rfl, rfl, h⟩
    exact wp_ri rfl rfl (nw_b h.1) ⟨_, _, rfl, rfl, h.2⟩
set_option maxRecDepth 100000 in
set_option maxHeartbeats 4000000 in
theorem m_X12_thereInH {G : ab_G} {fr : Bool} {tl : ab_H} {K : Int32 → ms_S → Prop} {S : ms_S} {i2 : Int32} {i3 : Int32}
    (h : ∀ n0 : Nat, ((S.1 0 8) = (nI 2) → (ctI G 1 M_X12_find fr [.ref 10, .int i2, .int i3, .int (S.1 0 9)] lM S tl (fun v1 S1 => (0 ≤ v1 → (ctU G 2 M_X12_token fr [.ref 0] lM S1 tl (fun S2 => K (nI 1) (sV S2 11 v1)))) ∧ (¬ 0 ≤ v1 → (ctI G 1 M_X12_wrong fr [.ref 0, .int (nI 4)] lM S1 tl (fun v3 S3 => (v3 = 0 ∨ v3 = 1) ∧ K v3 S3)))))) ∧ (¬ (S.1 0 8) = (nI 2) → (ctI G 1 M_X12_wrong fr [.ref 0, .int (nI 1)] lM S tl (fun v4 S4 => (v4 = 0 ∨ v4 = 1) ∧ K v4 S4)))) :
    ctI G 3 M_X12_thereIn fr [.ref 0, .ref 10, .int i2, .int i3] lM S tl K := by
  refine wp_ct o_X12_thereIn (Nat.le_of_ble_eq_true rfl) ?_
  replace h := h (hLy lM S tl).length
  revert h
  generalize (hLy lM S tl).length = n0
  intro h
  iterate 4 refine ws_b rfl ?_
  refine wp_ite (fun q => ?_) (fun q => ?_)
  · replace h := h.1 q
    iterate 5 refine ws_b rfl ?_
    refine wp_cS rfl rfl o_X12_find s_X12_find h rfl rfl (Nat.le_of_ble_eq_true rfl) (by decide) ?_
    clear h
    rintro r9 h9 ⟨v1, S1, rfl, rfl, h⟩
    iterate 3 refine ws_b rfl ?_
    refine wp_ite (fun q => ?_) (fun q => ?_)
    · replace h := h.1 q
      refine ws_b rfl ?_
      refine wp_cV rfl rfl o_X12_token v_X12_token h rfl rfl rfl (Nat.le_of_ble_eq_true rfl) (by decide) ?_
      clear h
      rintro r9 h9 ⟨S2, rfl, rfl, h⟩
      iterate 4 refine ws_b rfl ?_
      exact wp_ri rfl rfl rfl ⟨_, _, rfl, rfl, h⟩
    · replace h := h.2 q
      iterate 2 refine ws_b rfl ?_
      refine wp_cV rfl rfl o_X12_wrong v_X12_wrong h rfl rfl rfl (Nat.le_of_ble_eq_true rfl) (by decide) ?_
      clear h
      rintro r9 h9 ⟨v3, S3, rfl, rfl, h⟩
      exact wp_ri rfl rfl (nw_b h.1) ⟨_, _, rfl, rfl, h.2⟩
  · replace h := h.2 q
    iterate 2 refine ws_b rfl ?_
    refine wp_cV rfl rfl o_X12_wrong v_X12_wrong h rfl rfl rfl (Nat.le_of_ble_eq_true rfl) (by decide) ?_
    clear h
    rintro r9 h9 ⟨v4, S4, rfl, rfl, h⟩
    exact wp_ri rfl rfl (nw_b h.1) ⟨_, _, rfl, rfl, h.2⟩

