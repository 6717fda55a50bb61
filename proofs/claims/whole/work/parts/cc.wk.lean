/-! ===== the program: a text kept, walks ===== -/
set_option maxRecDepth 100000 in
set_option maxHeartbeats 4000000 in
theorem m_X4_copyFroma {G : ab_G} {fr : Bool} {tl : ab_H} {K : ms_S → Prop} {S : ms_S} 
    (h : ∀ n0 : Nat, ((S.1 43 4) = 0 ∨ (S.1 43 4) = 1) ∧ (K (sVa (sVa (sCp S 44 18 (nI 0) (nI 0) (nI 64)) 17 3 (S.1 43 3)) 17 4 (S.1 43 4)))) :
    ctU G 2 M_X4_copyFrom fr [.ref 17, .ref 43] lB S tl K := by
  refine wp_ct o_X4_copyFrom (Nat.le_of_ble_eq_true rfl) ?_
  replace h := h (hLy lB S tl).length
  revert h
  generalize (hLy lB S tl).length = n0
  intro h
  iterate 7 refine ws_b rfl ?_
  refine ws_cp rfl ac_X4 rfl rfl (by decide) (by decide) (by decide) (by decide) (by decide) (by decide) (by decide) ?_
  iterate 7 refine ws_b rfl ?_
  refine ws_g rfl h.1 ?_
  replace h := h.2
  exact wp_rv rfl rfl ⟨_, rfl, rfl, h⟩
set_option maxRecDepth 100000 in
set_option maxHeartbeats 4000000 in
theorem m_X4_copyFromb {G : ab_G} {fr : Bool} {tl : ab_H} {K : ms_S → Prop} {S : ms_S} 
    (h : ∀ n0 : Nat, ((S.1 47 4) = 0 ∨ (S.1 47 4) = 1) ∧ (K (sVa (sVa (sCp S 48 22 (nI 0) (nI 0) (nI 64)) 21 3 (S.1 47 3)) 21 4 (S.1 47 4)))) :
    ctU G 2 M_X4_copyFrom fr [.ref 21, .ref 47] lB S tl K := by
  refine wp_ct o_X4_copyFrom (Nat.le_of_ble_eq_true rfl) ?_
  replace h := h (hLy lB S tl).length
  revert h
  generalize (hLy lB S tl).length = n0
  intro h
  iterate 7 refine ws_b rfl ?_
  refine ws_cp rfl ac_X4 rfl rfl (by decide) (by decide) (by decide) (by decide) (by decide) (by decide) (by decide) ?_
  iterate 7 refine ws_b rfl ?_
  refine ws_g rfl h.1 ?_
  replace h := h.2
  exact wp_rv rfl rfl ⟨_, rfl, rfl, h⟩
set_option maxRecDepth 100000 in
set_option maxHeartbeats 4000000 in
theorem m_X4_copyFromc {G : ab_G} {fr : Bool} {tl : ab_H} {K : ms_S → Prop} {S : ms_S} 
    (h : ∀ n0 : Nat, ((S.1 51 4) = 0 ∨ (S.1 51 4) = 1) ∧ (K (sVa (sVa (sCp S 52 26 (nI 0) (nI 0) (nI 64)) 25 3 (S.1 51 3)) 25 4 (S.1 51 4)))) :
    ctU G 2 M_X4_copyFrom fr [.ref 25, .ref 51] lB S tl K := by
  refine wp_ct o_X4_copyFrom (Nat.le_of_ble_eq_true rfl) ?_
  replace h := h (hLy lB S tl).length
  revert h
  generalize (hLy lB S tl).length = n0
  intro h
  iterate 7 refine ws_b rfl ?_
  refine ws_cp rfl ac_X4 rfl rfl (by decide) (by decide) (by decide) (by decide) (by decide) (by decide) (by decide) ?_
  iterate 7 refine ws_b rfl ?_
  refine ws_g rfl h.1 ?_
  replace h := h.2
  exact wp_rv rfl rfl ⟨_, rfl, rfl, h⟩
def L_X7_copyFrom_213 (G : ab_G) (fr : Bool) (n0 : Nat) (tl : ab_H) (K : ms_S → Prop) (S : ms_S) (i2 : Int32) : Prop := wp G 3 M_X7_copyFrom fr n0 (poU lB tl K) 213 [some (.ref 4), some (.ref 30), some (.int i2)] [] (hLy lB S tl)
set_option maxRecDepth 100000 in
set_option maxHeartbeats 4000000 in
theorem b_X7_copyFrom_213 {G : ab_G} {fr : Bool} {n0 : Nat} {tl : ab_H} {K : ms_S → Prop} {S : ms_S} {i2 : Int32}
    (h : ((nI 2) < i2 → (K S)) ∧ (¬ (nI 2) < i2 → (vp_in i2 3 ∧ (i2 = nI 0 → (vp_in i2 3 ∧ (i2 = nI 0 → (ctU G 2 M_X4_copyFrom fr [.ref 17, .ref 43] lB S tl (fun S1 => L_X7_copyFrom_213 G fr n0 tl K S1 (i2 + nI 1)))) ∧ (i2 = nI 1 → (ctU G 2 M_X4_copyFrom fr [.ref 17, .ref 47] lB S tl (fun S2 => L_X7_copyFrom_213 G fr n0 tl K S2 (i2 + nI 1)))) ∧ (i2 = nI 2 → (ctU G 2 M_X4_copyFrom fr [.ref 17, .ref 51] lB S tl (fun S3 => L_X7_copyFrom_213 G fr n0 tl K S3 (i2 + nI 1)))))) ∧ (i2 = nI 1 → (vp_in i2 3 ∧ (i2 = nI 0 → (ctU G 2 M_X4_copyFrom fr [.ref 21, .ref 43] lB S tl (fun S4 => L_X7_copyFrom_213 G fr n0 tl K S4 (i2 + nI 1)))) ∧ (i2 = nI 1 → (ctU G 2 M_X4_copyFrom fr [.ref 21, .ref 47] lB S tl (fun S5 => L_X7_copyFrom_213 G fr n0 tl K S5 (i2 + nI 1)))) ∧ (i2 = nI 2 → (ctU G 2 M_X4_copyFrom fr [.ref 21, .ref 51] lB S tl (fun S6 => L_X7_copyFrom_213 G fr n0 tl K S6 (i2 + nI 1)))))) ∧ (i2 = nI 2 → (vp_in i2 3 ∧ (i2 = nI 0 → (ctU G 2 M_X4_copyFrom fr [.ref 25, .ref 43] lB S tl (fun S7 => L_X7_copyFrom_213 G fr n0 tl K S7 (i2 + nI 1)))) ∧ (i2 = nI 1 → (ctU G 2 M_X4_copyFrom fr [.ref 25, .ref 47] lB S tl (fun S8 => L_X7_copyFrom_213 G fr n0 tl K S8 (i2 + nI 1)))) ∧ (i2 = nI 2 → (ctU G 2 M_X4_copyFrom fr [.ref 25, .ref 51] lB S tl (fun S9 => L_X7_copyFrom_213 G fr n0 tl K S9 (i2 + nI 1))))))))) :
    L_X7_copyFrom_213 G fr n0 tl K S i2 := by
  unfold L_X7_copyFrom_213
  iterate 3 refine ws_b rfl ?_
  refine wp_ite (fun q => ?_) (fun q => ?_)
  · replace h := h.1 q
    exact wp_rv rfl rfl ⟨_, rfl, rfl, h⟩
  · replace h := h.2 q
    iterate 3 refine ws_b rfl ?_
    by_cases q0 : i2 = nI 0
    · refine ws_aal rfl rfl (Or.inl rfl) h.1 (by rw [q0]; rfl) ?_
      replace h := h.2.1 q0
      iterate 3 refine ws_b rfl ?_
      by_cases q0 : i2 = nI 0
      · refine ws_aal rfl rfl (Or.inl rfl) h.1 (by rw [q0]; rfl) ?_
        replace h := h.2.1 q0
        refine wp_cV rfl rfl o_X4_copyFrom v_X4_copyFrom h rfl rfl rfl (Nat.le_of_ble_eq_true rfl) (by decide) ?_
        clear h
        rintro r9 h9 ⟨S1, rfl, rfl, h⟩
        iterate 2 refine ws_b rfl ?_
        exact wp_weak (wk_s (wk_s (wk_s wk_0))) h
      by_cases q1 : i2 = nI 1
      · refine ws_aal rfl rfl (Or.inl rfl) h.1 (by rw [q1]; rfl) ?_
        replace h := h.2.2.1 q1
        refine wp_cV rfl rfl o_X4_copyFrom v_X4_copyFrom h rfl rfl rfl (Nat.le_of_ble_eq_true rfl) (by decide) ?_
        clear h
        rintro r9 h9 ⟨S2, rfl, rfl, h⟩
        iterate 2 refine ws_b rfl ?_
        exact wp_weak (wk_s (wk_s (wk_s wk_0))) h
      by_cases q2 : i2 = nI 2
      · refine ws_aal rfl rfl (Or.inl rfl) h.1 (by rw [q2]; rfl) ?_
        replace h := h.2.2.2 q2
        refine wp_cV rfl rfl o_X4_copyFrom v_X4_copyFrom h rfl rfl rfl (Nat.le_of_ble_eq_true rfl) (by decide) ?_
        clear h
        rintro r9 h9 ⟨S3, rfl, rfl, h⟩
        iterate 2 refine ws_b rfl ?_
        exact wp_weak (wk_s (wk_s (wk_s wk_0))) h
      exact (vp_sp3 h.1 q0 q1 q2).elim
    by_cases q1 : i2 = nI 1
    · refine ws_aal rfl rfl (Or.inl rfl) h.1 (by rw [q1]; rfl) ?_
      replace h := h.2.2.1 q1
      iterate 3 refine ws_b rfl ?_
      by_cases q0 : i2 = nI 0
      · refine ws_aal rfl rfl (Or.inl rfl) h.1 (by rw [q0]; rfl) ?_
        replace h := h.2.1 q0
        refine wp_cV rfl rfl o_X4_copyFrom v_X4_copyFrom h rfl rfl rfl (Nat.le_of_ble_eq_true rfl) (by decide) ?_
        clear h
        rintro r9 h9 ⟨S4, rfl, rfl, h⟩
        iterate 2 refine ws_b rfl ?_
        exact wp_weak (wk_s (wk_s (wk_s wk_0))) h
      by_cases q1 : i2 = nI 1
      · refine ws_aal rfl rfl (Or.inl rfl) h.1 (by rw [q1]; rfl) ?_
        replace h := h.2.2.1 q1
        refine wp_cV rfl rfl o_X4_copyFrom v_X4_copyFrom h rfl rfl rfl (Nat.le_of_ble_eq_true rfl) (by decide) ?_
        clear h
        rintro r9 h9 ⟨S5, rfl, rfl, h⟩
        iterate 2 refine ws_b rfl ?_
        exact wp_weak (wk_s (wk_s (wk_s wk_0))) h
      by_cases q2 : i2 = nI 2
      · refine ws_aal rfl rfl (Or.inl rfl) h.1 (by rw [q2]; rfl) ?_
        replace h := h.2.2.2 q2
        refine wp_cV rfl rfl o_X4_copyFrom v_X4_copyFrom h rfl rfl rfl (Nat.le_of_ble_eq_true rfl) (by decide) ?_
        clear h
        rintro r9 h9 ⟨S6, rfl, rfl, h⟩
        iterate 2 refine ws_b rfl ?_
        exact wp_weak (wk_s (wk_s (wk_s wk_0))) h
      exact (vp_sp3 h.1 q0 q1 q2).elim
    by_cases q2 : i2 = nI 2
    · refine ws_aal rfl rfl (Or.inl rfl) h.1 (by rw [q2]; rfl) ?_
      replace h := h.2.2.2 q2
      iterate 3 refine ws_b rfl ?_
      by_cases q0 : i2 = nI 0
      · refine ws_aal rfl rfl (Or.inl rfl) h.1 (by rw [q0]; rfl) ?_
        replace h := h.2.1 q0
        refine wp_cV rfl rfl o_X4_copyFrom v_X4_copyFrom h rfl rfl rfl (Nat.le_of_ble_eq_true rfl) (by decide) ?_
        clear h
        rintro r9 h9 ⟨S7, rfl, rfl, h⟩
        iterate 2 refine ws_b rfl ?_
        exact wp_weak (wk_s (wk_s (wk_s wk_0))) h
      by_cases q1 : i2 = nI 1
      · refine ws_aal rfl rfl (Or.inl rfl) h.1 (by rw [q1]; rfl) ?_
        replace h := h.2.2.1 q1
        refine wp_cV rfl rfl o_X4_copyFrom v_X4_copyFrom h rfl rfl rfl (Nat.le_of_ble_eq_true rfl) (by decide) ?_
        clear h
        rintro r9 h9 ⟨S8, rfl, rfl, h⟩
        iterate 2 refine ws_b rfl ?_
        exact wp_weak (wk_s (wk_s (wk_s wk_0))) h
      by_cases q2 : i2 = nI 2
      · refine ws_aal rfl rfl (Or.inl rfl) h.1 (by rw [q2]; rfl) ?_
        replace h := h.2.2.2 q2
        refine wp_cV rfl rfl o_X4_copyFrom v_X4_copyFrom h rfl rfl rfl (Nat.le_of_ble_eq_true rfl) (by decide) ?_
        clear h
        rintro r9 h9 ⟨S9, rfl, rfl, h⟩
        iterate 2 refine ws_b rfl ?_
        exact wp_weak (wk_s (wk_s (wk_s wk_0))) h
      exact (vp_sp3 h.1 q0 q1 q2).elim
    exact (vp_sp3 h.1 q0 q1 q2).elim
set_option maxRecDepth 100000 in
set_option maxHeartbeats 4000000 in
theorem m_X7_copyFrom {G : ab_G} {fr : Bool} {tl : ab_H} {K : ms_S → Prop} {S : ms_S} 
    (h : ∀ n0 : Nat, L_X7_copyFrom_213 G fr n0 tl K (sCp (sCp (sCp (sCp (sCp (sCp (sCp (sCp (sCp (sCp (sCp (sVa (sVa (sVa (sVa (sVa (sVa S 4 12 (S.1 30 12)) 4 13 (S.1 30 13)) 4 14 (S.1 30 14)) 4 15 (S.1 30 15)) 4 16 (S.1 30 16)) 4 17 (S.1 30 17)) 31 5 (nI 0) (nI 0) (nI 9)) 32 6 (nI 0) (nI 0) (nI 9)) 33 7 (nI 0) (nI 0) (nI 9)) 34 8 (nI 0) (nI 0) (nI 9)) 35 9 (nI 0) (nI 0) (nI 5)) 36 10 (nI 0) (nI 0) (nI 5)) 37 11 (nI 0) (nI 0) (nI 8)) 38 12 (nI 0) (nI 0) (nI 8)) 39 13 (nI 0) (nI 0) (nI 8)) 40 14 (nI 0) (nI 0) (nI 10)) 41 15 (nI 0) (nI 0) (nI 10)) (nI 0)) :
    ctU G 3 M_X7_copyFrom fr [.ref 4, .ref 30] lB S tl K := by
  refine wp_ct o_X7_copyFrom (Nat.le_of_ble_eq_true rfl) ?_
  replace h := h (hLy lB S tl).length
  revert h
  generalize (hLy lB S tl).length = n0
  intro h
  iterate 31 refine ws_b rfl ?_
  refine ws_cp rfl ac_X7 rfl rfl (by decide) (by decide) (by decide) (by decide) (by decide) (by decide) (by decide) ?_
  iterate 7 refine ws_b rfl ?_
  refine ws_cp rfl ac_X7 rfl rfl (by decide) (by decide) (by decide) (by decide) (by decide) (by decide) (by decide) ?_
  iterate 7 refine ws_b rfl ?_
  refine ws_cp rfl ac_X7 rfl rfl (by decide) (by decide) (by decide) (by decide) (by decide) (by decide) (by decide) ?_
  iterate 7 refine ws_b rfl ?_
  refine ws_cp rfl ac_X7 rfl rfl (by decide) (by decide) (by decide) (by decide) (by decide) (by decide) (by decide) ?_
  iterate 7 refine ws_b rfl ?_
  refine ws_cp rfl ac_X7 rfl rfl (by decide) (by decide) (by decide) (by decide) (by decide) (by decide) (by decide) ?_
  iterate 7 refine ws_b rfl ?_
  refine ws_cp rfl ac_X7 rfl rfl (by decide) (by decide) (by decide) (by decide) (by decide) (by decide) (by decide) ?_
  iterate 7 refine ws_b rfl ?_
  refine ws_cp rfl ac_X7 rfl rfl (by decide) (by decide) (by decide) (by decide) (by decide) (by decide) (by decide) ?_
  iterate 7 refine ws_b rfl ?_
  refine ws_cp rfl ac_X7 rfl rfl (by decide) (by decide) (by decide) (by decide) (by decide) (by decide) (by decide) ?_
  iterate 7 refine ws_b rfl ?_
  refine ws_cp rfl ac_X7 rfl rfl (by decide) (by decide) (by decide) (by decide) (by decide) (by decide) (by decide) ?_
  iterate 7 refine ws_b rfl ?_
  refine ws_cp rfl ac_X7 rfl rfl (by decide) (by decide) (by decide) (by decide) (by decide) (by decide) (by decide) ?_
  iterate 7 refine ws_b rfl ?_
  refine ws_cp rfl ac_X7 rfl rfl (by decide) (by decide) (by decide) (by decide) (by decide) (by decide) (by decide) ?_
  iterate 2 refine ws_b rfl ?_
  exact wp_weak (wk_s (wk_s (wk_s wk_0))) h
def L_X11_text_15 (G : ab_G) (fr : Bool) (n0 : Nat) (tl : ab_H) (K : Int32 → ms_S → Prop) (S : ms_S)  : Prop := wp G 8 M_X11_text fr n0 (poI lB tl K) 15 [none, none] [] (hLy lB S tl)
def L_X11_text_49 (G : ab_G) (fr : Bool) (n0 : Nat) (tl : ab_H) (K : Int32 → ms_S → Prop) (S : ms_S) (t0 : Int32) : Prop := wp G 8 M_X11_text fr n0 (poI lB tl K) 49 [some (.ref 0), none] [.int t0, .ref 0] (hLy lB S tl)
set_option maxRecDepth 100000 in
set_option maxHeartbeats 4000000 in
theorem b_X11_text_15 {G : ab_G} {fr : Bool} {n0 : Nat} {tl : ab_H} {K : Int32 → ms_S → Prop} {S : ms_S} 
    (h : K (-(nI 2)) S) :
    L_X11_text_15 G fr n0 tl K S  := by
  unfold L_X11_text_15
  refine ws_b rfl ?_
  exact wp_ri rfl rfl rfl ⟨_, _, rfl, rfl, h⟩
set_option maxRecDepth 100000 in
set_option maxHeartbeats 4000000 in
theorem b_X11_text_49 {G : ab_G} {fr : Bool} {n0 : Nat} {tl : ab_H} {K : Int32 → ms_S → Prop} {S : ms_S} {t0 : Int32}
    (h : ((S.1 0 15) = 0 → (ctU G 3 M_X7_copyFrom fr [.ref 4, .ref 30] lB (sVa (sV S 16 t0) 1 2 (nI 0)) tl (fun S1 => ctU G 1 M_X9_forget fr [.ref 61] lB S1 tl (fun S2 => ctU G 2 M_X3_forget fr [.ref 67] lB S2 tl (fun S3 => ctU G 1 M_X6_clear fr [.ref 76] lB S3 tl (fun S4 => ctU G 2 M_X1_begin fr [.ref 82, .ref 4] lB S4 tl (fun S5 => K (S5.1 29 3) (sV (sV S5 14 (nI 0)) 13 (nI 0))))))))) ∧ (¬ (S.1 0 15) = 0 → (K (-(nI 1)) (sVa (sV S 16 t0) 1 2 (nI 0))))) :
    L_X11_text_49 G fr n0 tl K S t0 := by
  unfold L_X11_text_49
  iterate 8 refine ws_b rfl ?_
  refine wp_ite (fun q => ?_) (fun q => ?_)
  · replace h := h.1 q
    iterate 5 refine ws_b rfl ?_
    refine wp_cV rfl rfl o_X7_copyFrom v_X7_copyFrom h rfl rfl rfl (Nat.le_of_ble_eq_true rfl) (by decide) ?_
    clear h
    rintro r9 h9 ⟨S1, rfl, rfl, h⟩
    iterate 2 refine ws_b rfl ?_
    refine wp_cV rfl rfl o_X9_forget v_X9_forget h rfl rfl rfl (Nat.le_of_ble_eq_true rfl) (by decide) ?_
    clear h
    rintro r9 h9 ⟨S2, rfl, rfl, h⟩
    iterate 2 refine ws_b rfl ?_
    refine wp_cV rfl rfl o_X3_forget v_X3_forget h rfl rfl rfl (Nat.le_of_ble_eq_true rfl) (by decide) ?_
    clear h
    rintro r9 h9 ⟨S3, rfl, rfl, h⟩
    iterate 2 refine ws_b rfl ?_
    refine wp_cV rfl rfl o_X6_clear v_X6_clear h rfl rfl rfl (Nat.le_of_ble_eq_true rfl) (by decide) ?_
    clear h
    rintro r9 h9 ⟨S4, rfl, rfl, h⟩
    iterate 4 refine ws_b rfl ?_
    refine wp_cV rfl rfl o_X1_begin v_X1_begin h rfl rfl rfl (Nat.le_of_ble_eq_true rfl) (by decide) ?_
    clear h
    rintro r9 h9 ⟨S5, rfl, rfl, h⟩
    iterate 2 refine ws_b rfl ?_
    refine ws_g rfl (Or.inl rfl) ?_
    iterate 6 refine ws_b rfl ?_
    exact wp_ri rfl rfl rfl ⟨_, _, rfl, rfl, h⟩
  · replace h := h.2 q
    refine ws_b rfl ?_
    exact wp_ri rfl rfl rfl ⟨_, _, rfl, rfl, h⟩
set_option maxRecDepth 100000 in
set_option maxHeartbeats 4000000 in
theorem m_X11_text {G : ab_G} {fr : Bool} {tl : ab_H} {K : Int32 → ms_S → Prop} {S : ms_S} {i1 : Int32}
    (h : ∀ n0 : Nat, (i1 < 0 → (L_X11_text_15 G fr n0 tl K S )) ∧ (¬ i1 < 0 → ((i1 ≤ (S.1 1 2) → (ctI G 7 M_X8_read fr [.ref 29, .int i1] lB S tl (fun v1 S1 => (v1 = 0 → (L_X11_text_49 G fr n0 tl K (sV S1 15 v1) (-(nI 1)))) ∧ (¬ v1 = 0 → (L_X11_text_49 G fr n0 tl K (sV S1 15 v1) (S1.1 1 6)))))) ∧ (¬ i1 ≤ (S.1 1 2) → (L_X11_text_15 G fr n0 tl K S ))))) :
    ctI G 8 M_X11_text fr [.ref 0, .int i1] lB S tl K := by
  refine wp_ct o_X11_text (Nat.le_of_ble_eq_true rfl) ?_
  replace h := h (hLy lB S tl).length
  revert h
  generalize (hLy lB S tl).length = n0
  intro h
  iterate 2 refine ws_b rfl ?_
  refine wp_ite (fun q => ?_) (fun q => ?_)
  · replace h := h.1 q
    exact wp_weak (wk_n (wk_n wk_0)) h
  · replace h := h.2 q
    iterate 5 refine ws_b rfl ?_
    refine wp_ite (fun q => ?_) (fun q => ?_)
    · replace h := h.1 q
      iterate 4 refine ws_b rfl ?_
      refine wp_cV rfl rfl o_X8_read v_X8_read h rfl rfl rfl (Nat.le_of_ble_eq_true rfl) (by decide) ?_
      clear h
      rintro r9 h9 ⟨v1, S1, rfl, rfl, h⟩
      iterate 5 refine ws_b rfl ?_
      refine wp_ite (fun q => ?_) (fun q => ?_)
      · replace h := h.1 q
        iterate 2 refine ws_b rfl ?_
        exact wp_weak (wk_s (wk_n wk_0)) h
      · replace h := h.2 q
        iterate 3 refine ws_b rfl ?_
        exact wp_weak (wk_s (wk_n wk_0)) h
    · replace h := h.2 q
      exact wp_weak (wk_n (wk_n wk_0)) h

