/-! ===== the program: the reader, walks ===== -/
def L_X7_clear_40 (G : ab_G) (fr : Bool) (n0 : Nat) (tl : ab_H) (K : ms_S → Prop) (S : ms_S) (i1 : Int32) : Prop := wp G 2 M_X7_clear fr n0 (poU lPl tl K) 40 [some (.ref 0), some (.int i1)] [] (hLy lPl S tl)
set_option maxRecDepth 100000 in
set_option maxHeartbeats 4000000 in
theorem b_X7_clear_40 {G : ab_G} {fr : Bool} {n0 : Nat} {tl : ab_H} {K : ms_S → Prop} {S : ms_S} {i1 : Int32}
    (h : ((nI 2) < i1 → (K S)) ∧ (¬ (nI 2) < i1 → (vp_in i1 3 ∧ (i1 = nI 0 → (ctU G 1 M_X4_clear fr [.ref 13] lPl S tl (fun S1 => L_X7_clear_40 G fr n0 tl K S1 (i1 + nI 1)))) ∧ (i1 = nI 1 → (ctU G 1 M_X4_clear fr [.ref 17] lPl S tl (fun S2 => L_X7_clear_40 G fr n0 tl K S2 (i1 + nI 1)))) ∧ (i1 = nI 2 → (ctU G 1 M_X4_clear fr [.ref 21] lPl S tl (fun S3 => L_X7_clear_40 G fr n0 tl K S3 (i1 + nI 1))))))) :
    L_X7_clear_40 G fr n0 tl K S i1 := by
  unfold L_X7_clear_40
  iterate 3 refine ws_b rfl ?_
  refine wp_ite (fun q => ?_) (fun q => ?_)
  · replace h := h.1 q
    exact wp_rv rfl rfl ⟨_, rfl, rfl, h⟩
  · replace h := h.2 q
    iterate 3 refine ws_b rfl ?_
    by_cases q0 : i1 = nI 0
    · refine ws_aal rfl rfl (Or.inl rfl) h.1 (by rw [q0]; rfl) ?_
      replace h := h.2.1 q0
      refine wp_cV rfl rfl o_X4_clear v_X4_clear h rfl rfl rfl (Nat.le_of_ble_eq_true rfl) (by decide) ?_
      clear h
      rintro r9 h9 ⟨S1, rfl, rfl, h⟩
      iterate 2 refine ws_b rfl ?_
      exact wp_weak (wk_s (wk_s wk_0)) h
    by_cases q1 : i1 = nI 1
    · refine ws_aal rfl rfl (Or.inl rfl) h.1 (by rw [q1]; rfl) ?_
      replace h := h.2.2.1 q1
      refine wp_cV rfl rfl o_X4_clear v_X4_clear h rfl rfl rfl (Nat.le_of_ble_eq_true rfl) (by decide) ?_
      clear h
      rintro r9 h9 ⟨S2, rfl, rfl, h⟩
      iterate 2 refine ws_b rfl ?_
      exact wp_weak (wk_s (wk_s wk_0)) h
    by_cases q2 : i1 = nI 2
    · refine ws_aal rfl rfl (Or.inl rfl) h.1 (by rw [q2]; rfl) ?_
      replace h := h.2.2.2 q2
      refine wp_cV rfl rfl o_X4_clear v_X4_clear h rfl rfl rfl (Nat.le_of_ble_eq_true rfl) (by decide) ?_
      clear h
      rintro r9 h9 ⟨S3, rfl, rfl, h⟩
      iterate 2 refine ws_b rfl ?_
      exact wp_weak (wk_s (wk_s wk_0)) h
    exact (vp_sp3 h.1 q0 q1 q2).elim
set_option maxRecDepth 100000 in
set_option maxHeartbeats 4000000 in
theorem m_X7_clear {G : ab_G} {fr : Bool} {tl : ab_H} {K : ms_S → Prop} {S : ms_S} 
    (h : ∀ n0 : Nat, ctU G 1 M_J7_fill fr [.ref 6, .int (nI 0)] lPl (sV (sV (sV (sV (sV (sV S 12 (nI 0)) 13 (nI 0)) 14 (nI 0)) 15 (nI 0)) 16 (nI 0)) 17 (-(nI 1))) tl (fun S1 => L_X7_clear_40 G fr n0 tl K S1 (nI 0))) :
    ctU G 2 M_X7_clear fr [.ref 0] lPl S tl K := by
  refine wp_ct o_X7_clear (Nat.le_of_ble_eq_true rfl) ?_
  replace h := h (hLy lPl S tl).length
  revert h
  generalize (hLy lPl S tl).length = n0
  intro h
  iterate 21 refine ws_b rfl ?_
  refine wp_cS rfl rfl o_J7_fill s_J7_fill h rfl rfl (Nat.le_of_ble_eq_true rfl) (by decide) ?_
  clear h
  rintro r9 h9 ⟨S1, rfl, rfl, h⟩
  iterate 2 refine ws_b rfl ?_
  exact wp_weak (wk_s (wk_s wk_0)) h
def L_X5_read_40 (G : ab_G) (fr : Bool) (n0 : Nat) (tl : ab_H) (K : Int32 → ms_S → Prop) (S : ms_S) (i3 : Int32) (i4 : Int32) (i5 : Int32) : Prop := wp G 4 M_X5_read fr n0 (poI lB tl K) 40 [some (.ref 55), none, none, some (.int i3), some (.int i4), some (.int i5), none, none] [] (hLy lB S tl)
def L_X5_read_83 (G : ab_G) (fr : Bool) (n0 : Nat) (tl : ab_H) (K : Int32 → ms_S → Prop) (S : ms_S) (i5 : Int32) (i6 : Int32) : Prop := wp G 4 M_X5_read fr n0 (poI lB tl K) 83 [some (.ref 55), none, none, none, none, some (.int i5), some (.int i6), none] [] (hLy lB S tl)
def L_X5_read_103 (G : ab_G) (fr : Bool) (n0 : Nat) (tl : ab_H) (K : Int32 → ms_S → Prop) (S : ms_S) (i5 : Int32) (i6 : Int32) (t0 : Int32) : Prop := wp G 4 M_X5_read fr n0 (poI lB tl K) 103 [some (.ref 55), none, none, none, none, some (.int i5), some (.int i6), none] [.int t0] (hLy lB S tl)
def L_X5_read_125 (G : ab_G) (fr : Bool) (n0 : Nat) (tl : ab_H) (K : Int32 → ms_S → Prop) (S : ms_S) (i5 : Int32) (i6 : Int32) (t0 : Int32) : Prop := wp G 4 M_X5_read fr n0 (poI lB tl K) 125 [some (.ref 55), none, none, none, none, some (.int i5), some (.int i6), none] [.int t0] (hLy lB S tl)
def L_X5_read_140 (G : ab_G) (fr : Bool) (n0 : Nat) (tl : ab_H) (K : Int32 → ms_S → Prop) (S : ms_S) (i3 : Int32) (i5 : Int32) : Prop := wp G 4 M_X5_read fr n0 (poI lB tl K) 140 [some (.ref 55), none, none, some (.int i3), none, some (.int i5), none, none] [] (hLy lB S tl)
def L_X5_read_145 (G : ab_G) (fr : Bool) (n0 : Nat) (tl : ab_H) (K : Int32 → ms_S → Prop) (S : ms_S) (i3 : Int32) (i5 : Int32) (t0 : Int32) : Prop := wp G 4 M_X5_read fr n0 (poI lB tl K) 145 [some (.ref 55), none, none, some (.int i3), none, some (.int i5), none, none] [.int t0] (hLy lB S tl)
def L_X5_read_150 (G : ab_G) (fr : Bool) (n0 : Nat) (tl : ab_H) (K : Int32 → ms_S → Prop) (S : ms_S) (i3 : Int32) (i4 : Int32) (i5 : Int32) (i6 : Int32) : Prop := wp G 4 M_X5_read fr n0 (poI lB tl K) 150 [some (.ref 55), none, none, some (.int i3), some (.int i4), some (.int i5), some (.int i6), none] [] (hLy lB S tl)
def L_X5_read_175 (G : ab_G) (fr : Bool) (n0 : Nat) (tl : ab_H) (K : Int32 → ms_S → Prop) (S : ms_S) (i5 : Int32) (i6 : Int32) : Prop := wp G 4 M_X5_read fr n0 (poI lB tl K) 175 [some (.ref 55), none, none, none, none, some (.int i5), some (.int i6), none] [] (hLy lB S tl)
def L_X5_read_181 (G : ab_G) (fr : Bool) (n0 : Nat) (tl : ab_H) (K : Int32 → ms_S → Prop) (S : ms_S) (i5 : Int32) (i6 : Int32) (t0 : Int32) : Prop := wp G 4 M_X5_read fr n0 (poI lB tl K) 181 [some (.ref 55), none, none, none, none, some (.int i5), some (.int i6), none] [.int t0] (hLy lB S tl)
def L_X5_read_205 (G : ab_G) (fr : Bool) (n0 : Nat) (tl : ab_H) (K : Int32 → ms_S → Prop) (S : ms_S) (i5 : Int32) : Prop := wp G 4 M_X5_read fr n0 (poI lB tl K) 205 [some (.ref 55), none, none, none, none, some (.int i5), none, none] [] (hLy lB S tl)
def L_X5_read_210 (G : ab_G) (fr : Bool) (n0 : Nat) (tl : ab_H) (K : Int32 → ms_S → Prop) (S : ms_S) (i5 : Int32) (t0 : Int32) : Prop := wp G 4 M_X5_read fr n0 (poI lB tl K) 210 [some (.ref 55), none, none, none, none, some (.int i5), none, none] [.int t0] (hLy lB S tl)
def L_X5_read_214 (G : ab_G) (fr : Bool) (n0 : Nat) (tl : ab_H) (K : Int32 → ms_S → Prop) (S : ms_S) (i3 : Int32) (i4 : Int32) (i5 : Int32) : Prop := wp G 4 M_X5_read fr n0 (poI lB tl K) 214 [some (.ref 55), none, none, some (.int i3), some (.int i4), some (.int i5), none, none] [] (hLy lB S tl)
set_option maxRecDepth 100000 in
set_option maxHeartbeats 4000000 in
theorem b_X5_read_40 {G : ab_G} {fr : Bool} {n0 : Nat} {tl : ab_H} {K : Int32 → ms_S → Prop} {S : ms_S} {i3 : Int32} {i4 : Int32} {i5 : Int32}
    (h : ((nI 700) < i5 → (K (nI 1) S)) ∧ (¬ (nI 700) < i5 → ((i3 = 0 → (ctI G 1 M_X5_isSign fr [.int (S.1 1 5)] lB S tl (fun v1 S1 => (v1 = 0 → (((S.1 1 5) = (nI 33) → (((S1.1 55 3) ≤ 0 → (L_X5_read_150 G fr n0 tl K S1 i3 i4 i5 (S.1 1 5))) ∧ (¬ (S1.1 55 3) ≤ 0 → (L_X5_read_83 G fr n0 tl K S1 i5 (S.1 1 5))))) ∧ (¬ (S.1 1 5) = (nI 33) → (L_X5_read_150 G fr n0 tl K S1 i3 i4 i5 (S.1 1 5))))) ∧ (¬ v1 = 0 → (L_X5_read_83 G fr n0 tl K S1 i5 (S.1 1 5)))))) ∧ (¬ i3 = 0 → (L_X5_read_150 G fr n0 tl K S i3 i4 i5 (S.1 1 5)))))) :
    L_X5_read_40 G fr n0 tl K S i3 i4 i5 := by
  unfold L_X5_read_40
  iterate 3 refine ws_b rfl ?_
  refine wp_ite (fun q => ?_) (fun q => ?_)
  · replace h := h.1 q
    refine ws_b rfl ?_
    exact wp_ri rfl rfl rfl ⟨_, _, rfl, rfl, h⟩
  · replace h := h.2 q
    iterate 6 refine ws_b rfl ?_
    refine wp_ite (fun q => ?_) (fun q => ?_)
    · replace h := h.1 q
      refine ws_b rfl ?_
      refine wp_cS rfl rfl o_X5_isSign s_X5_isSign h rfl rfl (Nat.le_of_ble_eq_true rfl) (by decide) ?_
      clear h
      rintro r9 h9 ⟨v1, S1, rfl, rfl, h⟩
      refine ws_b rfl ?_
      refine wp_ite (fun q => ?_) (fun q => ?_)
      · replace h := h.1 q
        iterate 3 refine ws_b rfl ?_
        refine wp_ite (fun q => ?_) (fun q => ?_)
        · replace h := h.1 q
          iterate 3 refine ws_b rfl ?_
          refine wp_ite (fun q => ?_) (fun q => ?_)
          · replace h := h.1 q
            exact wp_weak (wk_s (wk_s (wk_s (wk_s (wk_s (wk_s (wk_s (wk_s wk_0)))))))) h
          · replace h := h.2 q
            exact wp_weak (wk_s (wk_s (wk_s (wk_n (wk_n (wk_s (wk_s (wk_s wk_0)))))))) h
        · replace h := h.2 q
          exact wp_weak (wk_s (wk_s (wk_s (wk_s (wk_s (wk_s (wk_s (wk_s wk_0)))))))) h
      · replace h := h.2 q
        exact wp_weak (wk_s (wk_s (wk_s (wk_n (wk_n (wk_s (wk_s (wk_s wk_0)))))))) h
    · replace h := h.2 q
      exact wp_weak (wk_s (wk_s (wk_s (wk_s (wk_s (wk_s (wk_s (wk_s wk_0)))))))) h
set_option maxRecDepth 100000 in
set_option maxHeartbeats 4000000 in
theorem b_X5_read_83 {G : ab_G} {fr : Bool} {n0 : Nat} {tl : ab_H} {K : Int32 → ms_S → Prop} {S : ms_S} {i5 : Int32} {i6 : Int32}
    (h : (i6 = (nI 33) → (ctI G 3 M_X5_closeParenthesis fr [.ref 55] lB S tl (fun v1 S1 => L_X5_read_103 G fr n0 tl K S1 i5 i6 v1))) ∧ (¬ i6 = (nI 33) → (ctI G 3 M_X5_addSign fr [.ref 55, .int i6] lB S tl (fun v2 S2 => L_X5_read_103 G fr n0 tl K S2 i5 i6 v2)))) :
    L_X5_read_83 G fr n0 tl K S i5 i6 := by
  unfold L_X5_read_83
  iterate 3 refine ws_b rfl ?_
  refine wp_ite (fun q => ?_) (fun q => ?_)
  · replace h := h.1 q
    refine ws_b rfl ?_
    refine wp_cV rfl rfl o_X5_closeParenthesis v_X5_closeParenthesis h rfl rfl rfl (Nat.le_of_ble_eq_true rfl) (by decide) ?_
    clear h
    rintro r9 h9 ⟨v1, S1, rfl, rfl, h⟩
    refine ws_b rfl ?_
    exact wp_weak (wk_s (wk_s (wk_s (wk_s (wk_s (wk_s (wk_s (wk_s wk_0)))))))) h
  · replace h := h.2 q
    iterate 2 refine ws_b rfl ?_
    refine wp_cV rfl rfl o_X5_addSign v_X5_addSign h rfl rfl rfl (Nat.le_of_ble_eq_true rfl) (by decide) ?_
    clear h
    rintro r9 h9 ⟨v2, S2, rfl, rfl, h⟩
    exact wp_weak (wk_s (wk_s (wk_s (wk_s (wk_s (wk_s (wk_s (wk_s wk_0)))))))) h
set_option maxRecDepth 100000 in
set_option maxHeartbeats 4000000 in
theorem b_X5_read_103 {G : ab_G} {fr : Bool} {n0 : Nat} {tl : ab_H} {K : Int32 → ms_S → Prop} {S : ms_S} {i5 : Int32} {i6 : Int32} {t0 : Int32}
    (h : (t0 = 0 → ((i6 = (nI 33) → (L_X5_read_125 G fr n0 tl K S i5 i6 (nI 0))) ∧ (¬ i6 = (nI 33) → (L_X5_read_125 G fr n0 tl K S i5 i6 (nI 1))))) ∧ (¬ t0 = 0 → (K t0 S))) :
    L_X5_read_103 G fr n0 tl K S i5 i6 t0 := by
  unfold L_X5_read_103
  iterate 3 refine ws_b rfl ?_
  refine wp_ite (fun q => ?_) (fun q => ?_)
  · replace h := h.1 q
    iterate 3 refine ws_b rfl ?_
    refine wp_ite (fun q => ?_) (fun q => ?_)
    · replace h := h.1 q
      refine ws_b rfl ?_
      exact wp_weak (wk_s (wk_s (wk_s (wk_s (wk_s (wk_s (wk_s (wk_n wk_0)))))))) h
    · replace h := h.2 q
      iterate 2 refine ws_b rfl ?_
      exact wp_weak (wk_s (wk_s (wk_s (wk_s (wk_s (wk_s (wk_s (wk_n wk_0)))))))) h
  · replace h := h.2 q
    refine ws_b rfl ?_
    exact wp_ri rfl rfl rfl ⟨_, _, rfl, rfl, h⟩
set_option maxRecDepth 100000 in
set_option maxHeartbeats 4000000 in
theorem b_X5_read_125 {G : ab_G} {fr : Bool} {n0 : Nat} {tl : ab_H} {K : Int32 → ms_S → Prop} {S : ms_S} {i5 : Int32} {i6 : Int32} {t0 : Int32}
    (h : (i6 = (nI 9) → (L_X5_read_140 G fr n0 tl K S t0 i5)) ∧ (¬ i6 = (nI 9) → ((i6 = (nI 8) → (L_X5_read_140 G fr n0 tl K S t0 i5)) ∧ (¬ i6 = (nI 8) → (L_X5_read_145 G fr n0 tl K S t0 i5 (nI 0)))))) :
    L_X5_read_125 G fr n0 tl K S i5 i6 t0 := by
  unfold L_X5_read_125
  iterate 4 refine ws_b rfl ?_
  refine wp_ite (fun q => ?_) (fun q => ?_)
  · replace h := h.1 q
    exact wp_weak (wk_s (wk_s (wk_s (wk_s (wk_s (wk_s (wk_n (wk_s wk_0)))))))) h
  · replace h := h.2 q
    iterate 3 refine ws_b rfl ?_
    refine wp_ite (fun q => ?_) (fun q => ?_)
    · replace h := h.1 q
      exact wp_weak (wk_s (wk_s (wk_s (wk_s (wk_s (wk_s (wk_n (wk_s wk_0)))))))) h
    · replace h := h.2 q
      refine ws_b rfl ?_
      exact wp_weak (wk_s (wk_s (wk_s (wk_s (wk_s (wk_s (wk_n (wk_s wk_0)))))))) h
set_option maxRecDepth 100000 in
set_option maxHeartbeats 4000000 in
theorem b_X5_read_140 {G : ab_G} {fr : Bool} {n0 : Nat} {tl : ab_H} {K : Int32 → ms_S → Prop} {S : ms_S} {i3 : Int32} {i5 : Int32}
    (h : L_X5_read_145 G fr n0 tl K S i3 i5 (nI 1)) :
    L_X5_read_140 G fr n0 tl K S i3 i5 := by
  unfold L_X5_read_140
  iterate 2 refine ws_b rfl ?_
  exact wp_weak (wk_s (wk_s (wk_s (wk_s (wk_s (wk_s (wk_s (wk_s wk_0)))))))) h
set_option maxRecDepth 100000 in
set_option maxHeartbeats 4000000 in
theorem b_X5_read_145 {G : ab_G} {fr : Bool} {n0 : Nat} {tl : ab_H} {K : Int32 → ms_S → Prop} {S : ms_S} {i3 : Int32} {i5 : Int32} {t0 : Int32}
    (h : L_X5_read_214 G fr n0 tl K S i3 t0 i5) :
    L_X5_read_145 G fr n0 tl K S i3 i5 t0 := by
  unfold L_X5_read_145
  iterate 2 refine ws_b rfl ?_
  exact wp_weak (wk_s (wk_s (wk_s (wk_s (wk_s (wk_s (wk_s (wk_s wk_0)))))))) h
set_option maxRecDepth 100000 in
set_option maxHeartbeats 4000000 in
theorem b_X5_read_150 {G : ab_G} {fr : Bool} {n0 : Nat} {tl : ab_H} {K : Int32 → ms_S → Prop} {S : ms_S} {i3 : Int32} {i4 : Int32} {i5 : Int32} {i6 : Int32}
    (h : (i3 = 0 → (ctI G 3 M_X5_finish fr [.ref 55] lB S tl (fun v1 S1 => K v1 S1))) ∧ (¬ i3 = 0 → ((i6 = (nI 10) → ((i4 = 0 → (L_X5_read_181 G fr n0 tl K S i5 i6 (nI 1))) ∧ (¬ i4 = 0 → (L_X5_read_175 G fr n0 tl K S i5 i6)))) ∧ (¬ i6 = (nI 10) → (L_X5_read_175 G fr n0 tl K S i5 i6))))) :
    L_X5_read_150 G fr n0 tl K S i3 i4 i5 i6 := by
  unfold L_X5_read_150
  iterate 2 refine ws_b rfl ?_
  refine wp_ite (fun q => ?_) (fun q => ?_)
  · replace h := h.1 q
    refine ws_b rfl ?_
    refine wp_cV rfl rfl o_X5_finish v_X5_finish h rfl rfl rfl (Nat.le_of_ble_eq_true rfl) (by decide) ?_
    clear h
    rintro r9 h9 ⟨v1, S1, rfl, rfl, h⟩
    exact wp_ri rfl rfl rfl ⟨_, _, rfl, rfl, h⟩
  · replace h := h.2 q
    iterate 3 refine ws_b rfl ?_
    refine wp_ite (fun q => ?_) (fun q => ?_)
    · replace h := h.1 q
      iterate 2 refine ws_b rfl ?_
      refine wp_ite (fun q => ?_) (fun q => ?_)
      · replace h := h.1 q
        iterate 2 refine ws_b rfl ?_
        exact wp_weak (wk_s (wk_s (wk_s (wk_n (wk_n (wk_s (wk_s (wk_s wk_0)))))))) h
      · replace h := h.2 q
        exact wp_weak (wk_s (wk_s (wk_s (wk_n (wk_n (wk_s (wk_s (wk_s wk_0)))))))) h
    · replace h := h.2 q
      exact wp_weak (wk_s (wk_s (wk_s (wk_n (wk_n (wk_s (wk_s (wk_s wk_0)))))))) h
set_option maxRecDepth 100000 in
set_option maxHeartbeats 4000000 in
theorem b_X5_read_175 {G : ab_G} {fr : Bool} {n0 : Nat} {tl : ab_H} {K : Int32 → ms_S → Prop} {S : ms_S} {i5 : Int32} {i6 : Int32}
    (h : ctI G 3 M_X5_addValue fr [.ref 55, .int i6] lB S tl (fun v1 S1 => L_X5_read_181 G fr n0 tl K S1 i5 i6 v1)) :
    L_X5_read_175 G fr n0 tl K S i5 i6 := by
  unfold L_X5_read_175
  iterate 2 refine ws_b rfl ?_
  refine wp_cV rfl rfl o_X5_addValue v_X5_addValue h rfl rfl rfl (Nat.le_of_ble_eq_true rfl) (by decide) ?_
  clear h
  rintro r9 h9 ⟨v1, S1, rfl, rfl, h⟩
  exact wp_weak (wk_s (wk_s (wk_s (wk_s (wk_s (wk_s (wk_s (wk_s wk_0)))))))) h
set_option maxRecDepth 100000 in
set_option maxHeartbeats 4000000 in
theorem b_X5_read_181 {G : ab_G} {fr : Bool} {n0 : Nat} {tl : ab_H} {K : Int32 → ms_S → Prop} {S : ms_S} {i5 : Int32} {i6 : Int32} {t0 : Int32}
    (h : (t0 = 0 → ((i6 = (nI 10) → (L_X5_read_205 G fr n0 tl K S i5)) ∧ (¬ i6 = (nI 10) → ((i6 = (nI 32) → (L_X5_read_205 G fr n0 tl K S i5)) ∧ (¬ i6 = (nI 32) → (L_X5_read_210 G fr n0 tl K S i5 (nI 0))))))) ∧ (¬ t0 = 0 → (K t0 S))) :
    L_X5_read_181 G fr n0 tl K S i5 i6 t0 := by
  unfold L_X5_read_181
  iterate 3 refine ws_b rfl ?_
  refine wp_ite (fun q => ?_) (fun q => ?_)
  · replace h := h.1 q
    iterate 3 refine ws_b rfl ?_
    refine wp_ite (fun q => ?_) (fun q => ?_)
    · replace h := h.1 q
      exact wp_weak (wk_s (wk_s (wk_s (wk_s (wk_s (wk_s (wk_n (wk_n wk_0)))))))) h
    · replace h := h.2 q
      iterate 3 refine ws_b rfl ?_
      refine wp_ite (fun q => ?_) (fun q => ?_)
      · replace h := h.1 q
        exact wp_weak (wk_s (wk_s (wk_s (wk_s (wk_s (wk_s (wk_n (wk_n wk_0)))))))) h
      · replace h := h.2 q
        refine ws_b rfl ?_
        exact wp_weak (wk_s (wk_s (wk_s (wk_s (wk_s (wk_s (wk_n (wk_n wk_0)))))))) h
  · replace h := h.2 q
    refine ws_b rfl ?_
    exact wp_ri rfl rfl rfl ⟨_, _, rfl, rfl, h⟩
set_option maxRecDepth 100000 in
set_option maxHeartbeats 4000000 in
theorem b_X5_read_205 {G : ab_G} {fr : Bool} {n0 : Nat} {tl : ab_H} {K : Int32 → ms_S → Prop} {S : ms_S} {i5 : Int32}
    (h : L_X5_read_210 G fr n0 tl K S i5 (nI 1)) :
    L_X5_read_205 G fr n0 tl K S i5 := by
  unfold L_X5_read_205
  iterate 2 refine ws_b rfl ?_
  exact wp_weak (wk_s (wk_s (wk_s (wk_s (wk_s (wk_s (wk_s (wk_s wk_0)))))))) h
set_option maxRecDepth 100000 in
set_option maxHeartbeats 4000000 in
theorem b_X5_read_210 {G : ab_G} {fr : Bool} {n0 : Nat} {tl : ab_H} {K : Int32 → ms_S → Prop} {S : ms_S} {i5 : Int32} {t0 : Int32}
    (h : L_X5_read_214 G fr n0 tl K S t0 t0 i5) :
    L_X5_read_210 G fr n0 tl K S i5 t0 := by
  unfold L_X5_read_210
  iterate 3 refine ws_b rfl ?_
  exact wp_weak (wk_s (wk_s (wk_s (wk_s (wk_s (wk_s (wk_s (wk_s wk_0)))))))) h
set_option maxRecDepth 100000 in
set_option maxHeartbeats 4000000 in
theorem b_X5_read_214 {G : ab_G} {fr : Bool} {n0 : Nat} {tl : ab_H} {K : Int32 → ms_S → Prop} {S : ms_S} {i3 : Int32} {i4 : Int32} {i5 : Int32}
    (h : ctU G 3 M_X10_advance fr [.ref 1] lB S tl (fun S1 => L_X5_read_40 G fr n0 tl K S1 i3 i4 (i5 + nI 1))) :
    L_X5_read_214 G fr n0 tl K S i3 i4 i5 := by
  unfold L_X5_read_214
  iterate 2 refine ws_b rfl ?_
  refine wp_cV rfl rfl o_X10_advance v_X10_advance h rfl rfl rfl (Nat.le_of_ble_eq_true rfl) (by decide) ?_
  clear h
  rintro r9 h9 ⟨S1, rfl, rfl, h⟩
  iterate 2 refine ws_b rfl ?_
  exact wp_weak (wk_s (wk_s (wk_s (wk_s (wk_s (wk_s (wk_s (wk_s wk_0)))))))) h
set_option maxRecDepth 100000 in
set_option maxHeartbeats 4000000 in
theorem m_X5_read {G : ab_G} {fr : Bool} {tl : ab_H} {K : Int32 → ms_S → Prop} {S : ms_S} {i2 : Int32}
    (h : ∀ n0 : Nat, ctU G 3 M_X10_advance fr [.ref 1] lB (sVa (sVa (sVa (sVa (sRa S 55 6 43) 55 5 i2) 55 2 (nI 0)) 55 3 (nI 0)) 55 4 (nI 0)) tl (fun S1 => L_X5_read_40 G fr n0 tl K S1 (nI 1) (nI 1) (nI 0))) :
    ctI G 4 M_X5_read fr [.ref 55, .ref 43, .int i2] lB S tl K := by
  refine wp_ct o_X5_read (Nat.le_of_ble_eq_true rfl) ?_
  replace h := h (hLy lB S tl).length
  revert h
  generalize (hLy lB S tl).length = n0
  intro h
  iterate 21 refine ws_b rfl ?_
  refine wp_cV rfl rfl o_X10_advance v_X10_advance h rfl rfl rfl (Nat.le_of_ble_eq_true rfl) (by decide) ?_
  clear h
  rintro r9 h9 ⟨S1, rfl, rfl, h⟩
  iterate 2 refine ws_b rfl ?_
  exact wp_weak (wk_s (wk_n (wk_n (wk_s (wk_s (wk_s (wk_s (wk_s wk_0)))))))) h
def L_X8_readNewNameP_29 (G : ab_G) (fr : Bool) (n0 : Nat) (tl : ab_H) (K : Int32 → ms_S → Prop) (S : ms_S)  : Prop := wp G 4 M_X8_readNewName fr n0 (poI lB tl K) 29 [none, none, none, none, none] [] (hLy lB S tl)
def L_X8_readNewNameP_66 (G : ab_G) (fr : Bool) (n0 : Nat) (tl : ab_H) (K : Int32 → ms_S → Prop) (S : ms_S) (i2 : Int32) (t0 : Int32) : Prop := wp G 4 M_X8_readNewName fr n0 (poI lB tl K) 66 [some (.ref 29), some (.ref 31), some (.int i2), none, none] [.int t0] (hLy lB S tl)
set_option maxRecDepth 100000 in
set_option maxHeartbeats 4000000 in
theorem b_X8_readNewNameP_29 {G : ab_G} {fr : Bool} {n0 : Nat} {tl : ab_H} {K : Int32 → ms_S → Prop} {S : ms_S} 
    (h : K (nI 1) S) :
    L_X8_readNewNameP_29 G fr n0 tl K S  := by
  unfold L_X8_readNewNameP_29
  refine ws_b rfl ?_
  exact wp_ri rfl rfl rfl ⟨_, _, rfl, rfl, h⟩
set_option maxRecDepth 100000 in
set_option maxHeartbeats 4000000 in
theorem b_X8_readNewNameP_66 {G : ab_G} {fr : Bool} {n0 : Nat} {tl : ab_H} {K : Int32 → ms_S → Prop} {S : ms_S} {i2 : Int32} {t0 : Int32}
    (h : (t0 = (-(nI 1)) → (vp_in i2 9 ∧ (K (nI 0) (sA S 31 i2.toNatClampNeg (S.1 1 7))))) ∧ (¬ t0 = (-(nI 1)) → (K (nI 3) S))) :
    L_X8_readNewNameP_66 G fr n0 tl K S i2 t0 := by
  unfold L_X8_readNewNameP_66
  iterate 4 refine ws_b rfl ?_
  refine wp_ite (fun q => ?_) (fun q => ?_)
  · replace h := h.1 q
    iterate 5 refine ws_b rfl ?_
    refine ws_g rfl h.1 ?_
    replace h := h.2
    refine ws_b rfl ?_
    exact wp_ri rfl rfl rfl ⟨_, _, rfl, rfl, h⟩
  · replace h := h.2 q
    refine ws_b rfl ?_
    exact wp_ri rfl rfl rfl ⟨_, _, rfl, rfl, h⟩
set_option maxRecDepth 100000 in
set_option maxHeartbeats 4000000 in
theorem m_X8_readNewNameP {G : ab_G} {fr : Bool} {tl : ab_H} {K : Int32 → ms_S → Prop} {S : ms_S} {i2 : Int32} {i3 : Int32}
    (h : ∀ n0 : Nat, ctU G 3 M_X10_advance fr [.ref 1] lB S tl (fun S1 => ((S1.1 1 5) = (nI 35) → ((i2 < 0 → (L_X8_readNewNameP_29 G fr n0 tl K S1 )) ∧ (¬ i2 < 0 → ((i2 < (nI 9) → ((i3 = 0 → (ctI G 2 M_X7_heirCalled fr [.ref 30, .int (S1.1 1 7)] lB S1 tl (fun v2 S2 => L_X8_readNewNameP_66 G fr n0 tl K S2 i2 v2))) ∧ (¬ i3 = 0 → (ctI G 2 M_X7_pieceCalled fr [.ref 30, .int (S1.1 1 7)] lB S1 tl (fun v3 S3 => L_X8_readNewNameP_66 G fr n0 tl K S3 i2 v3))))) ∧ (¬ i2 < (nI 9) → (L_X8_readNewNameP_29 G fr n0 tl K S1 )))))) ∧ (¬ (S1.1 1 5) = (nI 35) → (L_X8_readNewNameP_29 G fr n0 tl K S1 )))) :
    ctI G 4 M_X8_readNewName fr [.ref 29, .ref 31, .int i2, .int i3] lB S tl K := by
  refine wp_ct o_X8_readNewName (Nat.le_of_ble_eq_true rfl) ?_
  replace h := h (hLy lB S tl).length
  revert h
  generalize (hLy lB S tl).length = n0
  intro h
  iterate 2 refine ws_b rfl ?_
  refine wp_cV rfl rfl o_X10_advance v_X10_advance h rfl rfl rfl (Nat.le_of_ble_eq_true rfl) (by decide) ?_
  clear h
  rintro r9 h9 ⟨S1, rfl, rfl, h⟩
  iterate 5 refine ws_b rfl ?_
  refine wp_ite (fun q => ?_) (fun q => ?_)
  · replace h := h.1 q
    iterate 2 refine ws_b rfl ?_
    refine wp_ite (fun q => ?_) (fun q => ?_)
    · replace h := h.1 q
      exact wp_weak (wk_n (wk_n (wk_n (wk_n (wk_s wk_0))))) h
    · replace h := h.2 q
      iterate 4 refine ws_b rfl ?_
      refine wp_ite (fun q => ?_) (fun q => ?_)
      · replace h := h.1 q
        iterate 2 refine ws_b rfl ?_
        refine wp_ite (fun q => ?_) (fun q => ?_)
        · replace h := h.1 q
          iterate 5 refine ws_b rfl ?_
          refine wp_cV rfl rfl o_X7_heirCalled v_X7_heirCalled h rfl rfl rfl (Nat.le_of_ble_eq_true rfl) (by decide) ?_
          clear h
          rintro r9 h9 ⟨v2, S2, rfl, rfl, h⟩
          exact wp_weak (wk_s (wk_s (wk_s (wk_n (wk_s wk_0))))) h
        · replace h := h.2 q
          iterate 5 refine ws_b rfl ?_
          refine wp_cV rfl rfl o_X7_pieceCalled v_X7_pieceCalled h rfl rfl rfl (Nat.le_of_ble_eq_true rfl) (by decide) ?_
          clear h
          rintro r9 h9 ⟨v3, S3, rfl, rfl, h⟩
          refine ws_b rfl ?_
          exact wp_weak (wk_s (wk_s (wk_s (wk_n (wk_s wk_0))))) h
      · replace h := h.2 q
        exact wp_weak (wk_n (wk_n (wk_n (wk_n (wk_s wk_0))))) h
  · replace h := h.2 q
    exact wp_weak (wk_n (wk_n (wk_n (wk_n (wk_s wk_0))))) h
def L_X8_readNewNameH_29 (G : ab_G) (fr : Bool) (n0 : Nat) (tl : ab_H) (K : Int32 → ms_S → Prop) (S : ms_S)  : Prop := wp G 4 M_X8_readNewName fr n0 (poI lB tl K) 29 [none, none, none, none, none] [] (hLy lB S tl)
def L_X8_readNewNameH_66 (G : ab_G) (fr : Bool) (n0 : Nat) (tl : ab_H) (K : Int32 → ms_S → Prop) (S : ms_S) (i2 : Int32) (t0 : Int32) : Prop := wp G 4 M_X8_readNewName fr n0 (poI lB tl K) 66 [some (.ref 29), some (.ref 35), some (.int i2), none, none] [.int t0] (hLy lB S tl)
set_option maxRecDepth 100000 in
set_option maxHeartbeats 4000000 in
theorem b_X8_readNewNameH_29 {G : ab_G} {fr : Bool} {n0 : Nat} {tl : ab_H} {K : Int32 → ms_S → Prop} {S : ms_S} 
    (h : K (nI 1) S) :
    L_X8_readNewNameH_29 G fr n0 tl K S  := by
  unfold L_X8_readNewNameH_29
  refine ws_b rfl ?_
  exact wp_ri rfl rfl rfl ⟨_, _, rfl, rfl, h⟩
set_option maxRecDepth 100000 in
set_option maxHeartbeats 4000000 in
theorem b_X8_readNewNameH_66 {G : ab_G} {fr : Bool} {n0 : Nat} {tl : ab_H} {K : Int32 → ms_S → Prop} {S : ms_S} {i2 : Int32} {t0 : Int32}
    (h : (t0 = (-(nI 1)) → (vp_in i2 5 ∧ (K (nI 0) (sA S 35 i2.toNatClampNeg (S.1 1 7))))) ∧ (¬ t0 = (-(nI 1)) → (K (nI 3) S))) :
    L_X8_readNewNameH_66 G fr n0 tl K S i2 t0 := by
  unfold L_X8_readNewNameH_66
  iterate 4 refine ws_b rfl ?_
  refine wp_ite (fun q => ?_) (fun q => ?_)
  · replace h := h.1 q
    iterate 5 refine ws_b rfl ?_
    refine ws_g rfl h.1 ?_
    replace h := h.2
    refine ws_b rfl ?_
    exact wp_ri rfl rfl rfl ⟨_, _, rfl, rfl, h⟩
  · replace h := h.2 q
    refine ws_b rfl ?_
    exact wp_ri rfl rfl rfl ⟨_, _, rfl, rfl, h⟩
set_option maxRecDepth 100000 in
set_option maxHeartbeats 4000000 in
theorem m_X8_readNewNameH {G : ab_G} {fr : Bool} {tl : ab_H} {K : Int32 → ms_S → Prop} {S : ms_S} {i2 : Int32} {i3 : Int32}
    (h : ∀ n0 : Nat, ctU G 3 M_X10_advance fr [.ref 1] lB S tl (fun S1 => ((S1.1 1 5) = (nI 35) → ((i2 < 0 → (L_X8_readNewNameH_29 G fr n0 tl K S1 )) ∧ (¬ i2 < 0 → ((i2 < (nI 5) → ((i3 = 0 → (ctI G 2 M_X7_heirCalled fr [.ref 30, .int (S1.1 1 7)] lB S1 tl (fun v2 S2 => L_X8_readNewNameH_66 G fr n0 tl K S2 i2 v2))) ∧ (¬ i3 = 0 → (ctI G 2 M_X7_pieceCalled fr [.ref 30, .int (S1.1 1 7)] lB S1 tl (fun v3 S3 => L_X8_readNewNameH_66 G fr n0 tl K S3 i2 v3))))) ∧ (¬ i2 < (nI 5) → (L_X8_readNewNameH_29 G fr n0 tl K S1 )))))) ∧ (¬ (S1.1 1 5) = (nI 35) → (L_X8_readNewNameH_29 G fr n0 tl K S1 )))) :
    ctI G 4 M_X8_readNewName fr [.ref 29, .ref 35, .int i2, .int i3] lB S tl K := by
  refine wp_ct o_X8_readNewName (Nat.le_of_ble_eq_true rfl) ?_
  replace h := h (hLy lB S tl).length
  revert h
  generalize (hLy lB S tl).length = n0
  intro h
  iterate 2 refine ws_b rfl ?_
  refine wp_cV rfl rfl o_X10_advance v_X10_advance h rfl rfl rfl (Nat.le_of_ble_eq_true rfl) (by decide) ?_
  clear h
  rintro r9 h9 ⟨S1, rfl, rfl, h⟩
  iterate 5 refine ws_b rfl ?_
  refine wp_ite (fun q => ?_) (fun q => ?_)
  · replace h := h.1 q
    iterate 2 refine ws_b rfl ?_
    refine wp_ite (fun q => ?_) (fun q => ?_)
    · replace h := h.1 q
      exact wp_weak (wk_n (wk_n (wk_n (wk_n (wk_s wk_0))))) h
    · replace h := h.2 q
      iterate 4 refine ws_b rfl ?_
      refine wp_ite (fun q => ?_) (fun q => ?_)
      · replace h := h.1 q
        iterate 2 refine ws_b rfl ?_
        refine wp_ite (fun q => ?_) (fun q => ?_)
        · replace h := h.1 q
          iterate 5 refine ws_b rfl ?_
          refine wp_cV rfl rfl o_X7_heirCalled v_X7_heirCalled h rfl rfl rfl (Nat.le_of_ble_eq_true rfl) (by decide) ?_
          clear h
          rintro r9 h9 ⟨v2, S2, rfl, rfl, h⟩
          exact wp_weak (wk_s (wk_s (wk_s (wk_n (wk_s wk_0))))) h
        · replace h := h.2 q
          iterate 5 refine ws_b rfl ?_
          refine wp_cV rfl rfl o_X7_pieceCalled v_X7_pieceCalled h rfl rfl rfl (Nat.le_of_ble_eq_true rfl) (by decide) ?_
          clear h
          rintro r9 h9 ⟨v3, S3, rfl, rfl, h⟩
          refine ws_b rfl ?_
          exact wp_weak (wk_s (wk_s (wk_s (wk_n (wk_s wk_0))))) h
      · replace h := h.2 q
        exact wp_weak (wk_n (wk_n (wk_n (wk_n (wk_s wk_0))))) h
  · replace h := h.2 q
    exact wp_weak (wk_n (wk_n (wk_n (wk_n (wk_s wk_0))))) h
def L_X8_readToldPiece_44 (G : ab_G) (fr : Bool) (n0 : Nat) (tl : ab_H) (K : Int32 → ms_S → Prop) (S : ms_S) (t0 : Int32) : Prop := wp G 4 M_X8_readToldPiece fr n0 (poI lB tl K) 44 [none] [.int t0] (hLy lB S tl)
set_option maxRecDepth 100000 in
set_option maxHeartbeats 4000000 in
theorem b_X8_readToldPiece_44 {G : ab_G} {fr : Bool} {n0 : Nat} {tl : ab_H} {K : Int32 → ms_S → Prop} {S : ms_S} {t0 : Int32}
    (h : K t0 S) :
    L_X8_readToldPiece_44 G fr n0 tl K S t0 := by
  unfold L_X8_readToldPiece_44
  exact wp_ri rfl rfl rfl ⟨_, _, rfl, rfl, h⟩
set_option maxRecDepth 100000 in
set_option maxHeartbeats 4000000 in
theorem m_X8_readToldPiece {G : ab_G} {fr : Bool} {tl : ab_H} {K : Int32 → ms_S → Prop} {S : ms_S} 
    (h : ∀ n0 : Nat, ctU G 3 M_X10_advance fr [.ref 1] lB S tl (fun S1 => ((S1.1 1 5) = (nI 35) → (ctI G 2 M_X7_pieceCalled fr [.ref 30, .int (S1.1 1 7)] lB S1 tl (fun v2 S2 => (v2 = (-(nI 1)) → (L_X8_readToldPiece_44 G fr n0 tl K S2 (nI 4))) ∧ (¬ v2 = (-(nI 1)) → (L_X8_readToldPiece_44 G fr n0 tl K S2 (nI 0)))))) ∧ (¬ (S1.1 1 5) = (nI 35) → (K (nI 1) S1)))) :
    ctI G 4 M_X8_readToldPiece fr [.ref 29] lB S tl K := by
  refine wp_ct o_X8_readToldPiece (Nat.le_of_ble_eq_true rfl) ?_
  replace h := h (hLy lB S tl).length
  revert h
  generalize (hLy lB S tl).length = n0
  intro h
  iterate 2 refine ws_b rfl ?_
  refine wp_cV rfl rfl o_X10_advance v_X10_advance h rfl rfl rfl (Nat.le_of_ble_eq_true rfl) (by decide) ?_
  clear h
  rintro r9 h9 ⟨S1, rfl, rfl, h⟩
  iterate 5 refine ws_b rfl ?_
  refine wp_ite (fun q => ?_) (fun q => ?_)
  · replace h := h.1 q
    iterate 5 refine ws_b rfl ?_
    refine wp_cV rfl rfl o_X7_pieceCalled v_X7_pieceCalled h rfl rfl rfl (Nat.le_of_ble_eq_true rfl) (by decide) ?_
    clear h
    rintro r9 h9 ⟨v2, S2, rfl, rfl, h⟩
    iterate 2 refine ws_b rfl ?_
    refine wp_ite (fun q => ?_) (fun q => ?_)
    · replace h := h.1 q
      iterate 2 refine ws_b rfl ?_
      exact wp_weak (wk_n wk_0) h
    · replace h := h.2 q
      refine ws_b rfl ?_
      exact wp_weak (wk_n wk_0) h
  · replace h := h.2 q
    refine ws_b rfl ?_
    exact wp_ri rfl rfl rfl ⟨_, _, rfl, rfl, h⟩
def L_X8_readToldHeir_44 (G : ab_G) (fr : Bool) (n0 : Nat) (tl : ab_H) (K : Int32 → ms_S → Prop) (S : ms_S) (t0 : Int32) : Prop := wp G 4 M_X8_readToldHeir fr n0 (poI lB tl K) 44 [none] [.int t0] (hLy lB S tl)
set_option maxRecDepth 100000 in
set_option maxHeartbeats 4000000 in
theorem b_X8_readToldHeir_44 {G : ab_G} {fr : Bool} {n0 : Nat} {tl : ab_H} {K : Int32 → ms_S → Prop} {S : ms_S} {t0 : Int32}
    (h : K t0 S) :
    L_X8_readToldHeir_44 G fr n0 tl K S t0 := by
  unfold L_X8_readToldHeir_44
  exact wp_ri rfl rfl rfl ⟨_, _, rfl, rfl, h⟩
set_option maxRecDepth 100000 in
set_option maxHeartbeats 4000000 in
theorem m_X8_readToldHeir {G : ab_G} {fr : Bool} {tl : ab_H} {K : Int32 → ms_S → Prop} {S : ms_S} 
    (h : ∀ n0 : Nat, ctU G 3 M_X10_advance fr [.ref 1] lB S tl (fun S1 => ((S1.1 1 5) = (nI 35) → (ctI G 2 M_X7_heirCalled fr [.ref 30, .int (S1.1 1 7)] lB S1 tl (fun v2 S2 => (v2 = (-(nI 1)) → (L_X8_readToldHeir_44 G fr n0 tl K S2 (nI 4))) ∧ (¬ v2 = (-(nI 1)) → (L_X8_readToldHeir_44 G fr n0 tl K S2 (nI 0)))))) ∧ (¬ (S1.1 1 5) = (nI 35) → (K (nI 1) S1)))) :
    ctI G 4 M_X8_readToldHeir fr [.ref 29] lB S tl K := by
  refine wp_ct o_X8_readToldHeir (Nat.le_of_ble_eq_true rfl) ?_
  replace h := h (hLy lB S tl).length
  revert h
  generalize (hLy lB S tl).length = n0
  intro h
  iterate 2 refine ws_b rfl ?_
  refine wp_cV rfl rfl o_X10_advance v_X10_advance h rfl rfl rfl (Nat.le_of_ble_eq_true rfl) (by decide) ?_
  clear h
  rintro r9 h9 ⟨S1, rfl, rfl, h⟩
  iterate 5 refine ws_b rfl ?_
  refine wp_ite (fun q => ?_) (fun q => ?_)
  · replace h := h.1 q
    iterate 5 refine ws_b rfl ?_
    refine wp_cV rfl rfl o_X7_heirCalled v_X7_heirCalled h rfl rfl rfl (Nat.le_of_ble_eq_true rfl) (by decide) ?_
    clear h
    rintro r9 h9 ⟨v2, S2, rfl, rfl, h⟩
    iterate 2 refine ws_b rfl ?_
    refine wp_ite (fun q => ?_) (fun q => ?_)
    · replace h := h.1 q
      iterate 2 refine ws_b rfl ?_
      exact wp_weak (wk_n wk_0) h
    · replace h := h.2 q
      refine ws_b rfl ?_
      exact wp_weak (wk_n wk_0) h
  · replace h := h.2 q
    refine ws_b rfl ?_
    exact wp_ri rfl rfl rfl ⟨_, _, rfl, rfl, h⟩
def L_X8_readNumberA_29 (G : ab_G) (fr : Bool) (n0 : Nat) (tl : ab_H) (K : Int32 → ms_S → Prop) (S : ms_S)  : Prop := wp G 4 M_X8_readNumber fr n0 (poI lB tl K) 29 [none, none, none, none] [] (hLy lB S tl)
set_option maxRecDepth 100000 in
set_option maxHeartbeats 4000000 in
theorem b_X8_readNumberA_29 {G : ab_G} {fr : Bool} {n0 : Nat} {tl : ab_H} {K : Int32 → ms_S → Prop} {S : ms_S} 
    (h : K (nI 1) S) :
    L_X8_readNumberA_29 G fr n0 tl K S  := by
  unfold L_X8_readNumberA_29
  refine ws_b rfl ?_
  exact wp_ri rfl rfl rfl ⟨_, _, rfl, rfl, h⟩
set_option maxRecDepth 100000 in
set_option maxHeartbeats 4000000 in
theorem m_X8_readNumberA {G : ab_G} {fr : Bool} {tl : ab_H} {K : Int32 → ms_S → Prop} {S : ms_S} {i2 : Int32} {i3 : Int32}
    (h : ∀ n0 : Nat, ctU G 3 M_X10_advance fr [.ref 1] lB S tl (fun S1 => ((S1.1 1 5) = (nI 36) → ((i2 < 0 → (L_X8_readNumberA_29 G fr n0 tl K S1 )) ∧ (¬ i2 < 0 → ((i2 < (nI 9) → (((S1.1 1 7) ≤ i3 → (vp_in i2 9 ∧ (K (nI 0) (sA S1 32 i2.toNatClampNeg (S1.1 1 7))))) ∧ (¬ (S1.1 1 7) ≤ i3 → (K (nI 2) S1)))) ∧ (¬ i2 < (nI 9) → (L_X8_readNumberA_29 G fr n0 tl K S1 )))))) ∧ (¬ (S1.1 1 5) = (nI 36) → (L_X8_readNumberA_29 G fr n0 tl K S1 )))) :
    ctI G 4 M_X8_readNumber fr [.ref 29, .ref 32, .int i2, .int i3] lB S tl K := by
  refine wp_ct o_X8_readNumber (Nat.le_of_ble_eq_true rfl) ?_
  replace h := h (hLy lB S tl).length
  revert h
  generalize (hLy lB S tl).length = n0
  intro h
  iterate 2 refine ws_b rfl ?_
  refine wp_cV rfl rfl o_X10_advance v_X10_advance h rfl rfl rfl (Nat.le_of_ble_eq_true rfl) (by decide) ?_
  clear h
  rintro r9 h9 ⟨S1, rfl, rfl, h⟩
  iterate 5 refine ws_b rfl ?_
  refine wp_ite (fun q => ?_) (fun q => ?_)
  · replace h := h.1 q
    iterate 2 refine ws_b rfl ?_
    refine wp_ite (fun q => ?_) (fun q => ?_)
    · replace h := h.1 q
      exact wp_weak (wk_n (wk_n (wk_n (wk_n wk_0)))) h
    · replace h := h.2 q
      iterate 4 refine ws_b rfl ?_
      refine wp_ite (fun q => ?_) (fun q => ?_)
      · replace h := h.1 q
        iterate 5 refine ws_b rfl ?_
        refine wp_ite (fun q => ?_) (fun q => ?_)
        · replace h := h.1 q
          iterate 5 refine ws_b rfl ?_
          refine ws_g rfl h.1 ?_
          replace h := h.2
          refine ws_b rfl ?_
          exact wp_ri rfl rfl rfl ⟨_, _, rfl, rfl, h⟩
        · replace h := h.2 q
          refine ws_b rfl ?_
          exact wp_ri rfl rfl rfl ⟨_, _, rfl, rfl, h⟩
      · replace h := h.2 q
        exact wp_weak (wk_n (wk_n (wk_n (wk_n wk_0)))) h
  · replace h := h.2 q
    exact wp_weak (wk_n (wk_n (wk_n (wk_n wk_0)))) h
def L_X8_readNumberB_29 (G : ab_G) (fr : Bool) (n0 : Nat) (tl : ab_H) (K : Int32 → ms_S → Prop) (S : ms_S)  : Prop := wp G 4 M_X8_readNumber fr n0 (poI lB tl K) 29 [none, none, none, none] [] (hLy lB S tl)
set_option maxRecDepth 100000 in
set_option maxHeartbeats 4000000 in
theorem b_X8_readNumberB_29 {G : ab_G} {fr : Bool} {n0 : Nat} {tl : ab_H} {K : Int32 → ms_S → Prop} {S : ms_S} 
    (h : K (nI 1) S) :
    L_X8_readNumberB_29 G fr n0 tl K S  := by
  unfold L_X8_readNumberB_29
  refine ws_b rfl ?_
  exact wp_ri rfl rfl rfl ⟨_, _, rfl, rfl, h⟩
set_option maxRecDepth 100000 in
set_option maxHeartbeats 4000000 in
theorem m_X8_readNumberB {G : ab_G} {fr : Bool} {tl : ab_H} {K : Int32 → ms_S → Prop} {S : ms_S} {i2 : Int32} {i3 : Int32}
    (h : ∀ n0 : Nat, ctU G 3 M_X10_advance fr [.ref 1] lB S tl (fun S1 => ((S1.1 1 5) = (nI 36) → ((i2 < 0 → (L_X8_readNumberB_29 G fr n0 tl K S1 )) ∧ (¬ i2 < 0 → ((i2 < (nI 9) → (((S1.1 1 7) ≤ i3 → (vp_in i2 9 ∧ (K (nI 0) (sA S1 33 i2.toNatClampNeg (S1.1 1 7))))) ∧ (¬ (S1.1 1 7) ≤ i3 → (K (nI 2) S1)))) ∧ (¬ i2 < (nI 9) → (L_X8_readNumberB_29 G fr n0 tl K S1 )))))) ∧ (¬ (S1.1 1 5) = (nI 36) → (L_X8_readNumberB_29 G fr n0 tl K S1 )))) :
    ctI G 4 M_X8_readNumber fr [.ref 29, .ref 33, .int i2, .int i3] lB S tl K := by
  refine wp_ct o_X8_readNumber (Nat.le_of_ble_eq_true rfl) ?_
  replace h := h (hLy lB S tl).length
  revert h
  generalize (hLy lB S tl).length = n0
  intro h
  iterate 2 refine ws_b rfl ?_
  refine wp_cV rfl rfl o_X10_advance v_X10_advance h rfl rfl rfl (Nat.le_of_ble_eq_true rfl) (by decide) ?_
  clear h
  rintro r9 h9 ⟨S1, rfl, rfl, h⟩
  iterate 5 refine ws_b rfl ?_
  refine wp_ite (fun q => ?_) (fun q => ?_)
  · replace h := h.1 q
    iterate 2 refine ws_b rfl ?_
    refine wp_ite (fun q => ?_) (fun q => ?_)
    · replace h := h.1 q
      exact wp_weak (wk_n (wk_n (wk_n (wk_n wk_0)))) h
    · replace h := h.2 q
      iterate 4 refine ws_b rfl ?_
      refine wp_ite (fun q => ?_) (fun q => ?_)
      · replace h := h.1 q
        iterate 5 refine ws_b rfl ?_
        refine wp_ite (fun q => ?_) (fun q => ?_)
        · replace h := h.1 q
          iterate 5 refine ws_b rfl ?_
          refine ws_g rfl h.1 ?_
          replace h := h.2
          refine ws_b rfl ?_
          exact wp_ri rfl rfl rfl ⟨_, _, rfl, rfl, h⟩
        · replace h := h.2 q
          refine ws_b rfl ?_
          exact wp_ri rfl rfl rfl ⟨_, _, rfl, rfl, h⟩
      · replace h := h.2 q
        exact wp_weak (wk_n (wk_n (wk_n (wk_n wk_0)))) h
  · replace h := h.2 q
    exact wp_weak (wk_n (wk_n (wk_n (wk_n wk_0)))) h
def L_X8_readNumberW_29 (G : ab_G) (fr : Bool) (n0 : Nat) (tl : ab_H) (K : Int32 → ms_S → Prop) (S : ms_S)  : Prop := wp G 4 M_X8_readNumber fr n0 (poI lB tl K) 29 [none, none, none, none] [] (hLy lB S tl)
set_option maxRecDepth 100000 in
set_option maxHeartbeats 4000000 in
theorem b_X8_readNumberW_29 {G : ab_G} {fr : Bool} {n0 : Nat} {tl : ab_H} {K : Int32 → ms_S → Prop} {S : ms_S} 
    (h : K (nI 1) S) :
    L_X8_readNumberW_29 G fr n0 tl K S  := by
  unfold L_X8_readNumberW_29
  refine ws_b rfl ?_
  exact wp_ri rfl rfl rfl ⟨_, _, rfl, rfl, h⟩
set_option maxRecDepth 100000 in
set_option maxHeartbeats 4000000 in
theorem m_X8_readNumberW {G : ab_G} {fr : Bool} {tl : ab_H} {K : Int32 → ms_S → Prop} {S : ms_S} {i2 : Int32} {i3 : Int32}
    (h : ∀ n0 : Nat, ctU G 3 M_X10_advance fr [.ref 1] lB S tl (fun S1 => ((S1.1 1 5) = (nI 36) → ((i2 < 0 → (L_X8_readNumberW_29 G fr n0 tl K S1 )) ∧ (¬ i2 < 0 → ((i2 < (nI 9) → (((S1.1 1 7) ≤ i3 → (vp_in i2 9 ∧ (K (nI 0) (sA S1 34 i2.toNatClampNeg (S1.1 1 7))))) ∧ (¬ (S1.1 1 7) ≤ i3 → (K (nI 2) S1)))) ∧ (¬ i2 < (nI 9) → (L_X8_readNumberW_29 G fr n0 tl K S1 )))))) ∧ (¬ (S1.1 1 5) = (nI 36) → (L_X8_readNumberW_29 G fr n0 tl K S1 )))) :
    ctI G 4 M_X8_readNumber fr [.ref 29, .ref 34, .int i2, .int i3] lB S tl K := by
  refine wp_ct o_X8_readNumber (Nat.le_of_ble_eq_true rfl) ?_
  replace h := h (hLy lB S tl).length
  revert h
  generalize (hLy lB S tl).length = n0
  intro h
  iterate 2 refine ws_b rfl ?_
  refine wp_cV rfl rfl o_X10_advance v_X10_advance h rfl rfl rfl (Nat.le_of_ble_eq_true rfl) (by decide) ?_
  clear h
  rintro r9 h9 ⟨S1, rfl, rfl, h⟩
  iterate 5 refine ws_b rfl ?_
  refine wp_ite (fun q => ?_) (fun q => ?_)
  · replace h := h.1 q
    iterate 2 refine ws_b rfl ?_
    refine wp_ite (fun q => ?_) (fun q => ?_)
    · replace h := h.1 q
      exact wp_weak (wk_n (wk_n (wk_n (wk_n wk_0)))) h
    · replace h := h.2 q
      iterate 4 refine ws_b rfl ?_
      refine wp_ite (fun q => ?_) (fun q => ?_)
      · replace h := h.1 q
        iterate 5 refine ws_b rfl ?_
        refine wp_ite (fun q => ?_) (fun q => ?_)
        · replace h := h.1 q
          iterate 5 refine ws_b rfl ?_
          refine ws_g rfl h.1 ?_
          replace h := h.2
          refine ws_b rfl ?_
          exact wp_ri rfl rfl rfl ⟨_, _, rfl, rfl, h⟩
        · replace h := h.2 q
          refine ws_b rfl ?_
          exact wp_ri rfl rfl rfl ⟨_, _, rfl, rfl, h⟩
      · replace h := h.2 q
        exact wp_weak (wk_n (wk_n (wk_n (wk_n wk_0)))) h
  · replace h := h.2 q
    exact wp_weak (wk_n (wk_n (wk_n (wk_n wk_0)))) h
def L_X8_readNumberT_29 (G : ab_G) (fr : Bool) (n0 : Nat) (tl : ab_H) (K : Int32 → ms_S → Prop) (S : ms_S)  : Prop := wp G 4 M_X8_readNumber fr n0 (poI lB tl K) 29 [none, none, none, none] [] (hLy lB S tl)
set_option maxRecDepth 100000 in
set_option maxHeartbeats 4000000 in
theorem b_X8_readNumberT_29 {G : ab_G} {fr : Bool} {n0 : Nat} {tl : ab_H} {K : Int32 → ms_S → Prop} {S : ms_S} 
    (h : K (nI 1) S) :
    L_X8_readNumberT_29 G fr n0 tl K S  := by
  unfold L_X8_readNumberT_29
  refine ws_b rfl ?_
  exact wp_ri rfl rfl rfl ⟨_, _, rfl, rfl, h⟩
set_option maxRecDepth 100000 in
set_option maxHeartbeats 4000000 in
theorem m_X8_readNumberT {G : ab_G} {fr : Bool} {tl : ab_H} {K : Int32 → ms_S → Prop} {S : ms_S} {i2 : Int32} {i3 : Int32}
    (h : ∀ n0 : Nat, ctU G 3 M_X10_advance fr [.ref 1] lB S tl (fun S1 => ((S1.1 1 5) = (nI 36) → ((i2 < 0 → (L_X8_readNumberT_29 G fr n0 tl K S1 )) ∧ (¬ i2 < 0 → ((i2 < (nI 8) → (((S1.1 1 7) ≤ i3 → (vp_in i2 8 ∧ (K (nI 0) (sA S1 39 i2.toNatClampNeg (S1.1 1 7))))) ∧ (¬ (S1.1 1 7) ≤ i3 → (K (nI 2) S1)))) ∧ (¬ i2 < (nI 8) → (L_X8_readNumberT_29 G fr n0 tl K S1 )))))) ∧ (¬ (S1.1 1 5) = (nI 36) → (L_X8_readNumberT_29 G fr n0 tl K S1 )))) :
    ctI G 4 M_X8_readNumber fr [.ref 29, .ref 39, .int i2, .int i3] lB S tl K := by
  refine wp_ct o_X8_readNumber (Nat.le_of_ble_eq_true rfl) ?_
  replace h := h (hLy lB S tl).length
  revert h
  generalize (hLy lB S tl).length = n0
  intro h
  iterate 2 refine ws_b rfl ?_
  refine wp_cV rfl rfl o_X10_advance v_X10_advance h rfl rfl rfl (Nat.le_of_ble_eq_true rfl) (by decide) ?_
  clear h
  rintro r9 h9 ⟨S1, rfl, rfl, h⟩
  iterate 5 refine ws_b rfl ?_
  refine wp_ite (fun q => ?_) (fun q => ?_)
  · replace h := h.1 q
    iterate 2 refine ws_b rfl ?_
    refine wp_ite (fun q => ?_) (fun q => ?_)
    · replace h := h.1 q
      exact wp_weak (wk_n (wk_n (wk_n (wk_n wk_0)))) h
    · replace h := h.2 q
      iterate 4 refine ws_b rfl ?_
      refine wp_ite (fun q => ?_) (fun q => ?_)
      · replace h := h.1 q
        iterate 5 refine ws_b rfl ?_
        refine wp_ite (fun q => ?_) (fun q => ?_)
        · replace h := h.1 q
          iterate 5 refine ws_b rfl ?_
          refine ws_g rfl h.1 ?_
          replace h := h.2
          refine ws_b rfl ?_
          exact wp_ri rfl rfl rfl ⟨_, _, rfl, rfl, h⟩
        · replace h := h.2 q
          refine ws_b rfl ?_
          exact wp_ri rfl rfl rfl ⟨_, _, rfl, rfl, h⟩
      · replace h := h.2 q
        exact wp_weak (wk_n (wk_n (wk_n (wk_n wk_0)))) h
  · replace h := h.2 q
    exact wp_weak (wk_n (wk_n (wk_n (wk_n wk_0)))) h
def L_X8_readNumberD_29 (G : ab_G) (fr : Bool) (n0 : Nat) (tl : ab_H) (K : Int32 → ms_S → Prop) (S : ms_S)  : Prop := wp G 4 M_X8_readNumber fr n0 (poI lB tl K) 29 [none, none, none, none] [] (hLy lB S tl)
set_option maxRecDepth 100000 in
set_option maxHeartbeats 4000000 in
theorem b_X8_readNumberD_29 {G : ab_G} {fr : Bool} {n0 : Nat} {tl : ab_H} {K : Int32 → ms_S → Prop} {S : ms_S} 
    (h : K (nI 1) S) :
    L_X8_readNumberD_29 G fr n0 tl K S  := by
  unfold L_X8_readNumberD_29
  refine ws_b rfl ?_
  exact wp_ri rfl rfl rfl ⟨_, _, rfl, rfl, h⟩
set_option maxRecDepth 100000 in
set_option maxHeartbeats 4000000 in
theorem m_X8_readNumberD {G : ab_G} {fr : Bool} {tl : ab_H} {K : Int32 → ms_S → Prop} {S : ms_S} {i2 : Int32} {i3 : Int32}
    (h : ∀ n0 : Nat, ctU G 3 M_X10_advance fr [.ref 1] lB S tl (fun S1 => ((S1.1 1 5) = (nI 36) → ((i2 < 0 → (L_X8_readNumberD_29 G fr n0 tl K S1 )) ∧ (¬ i2 < 0 → ((i2 < (nI 10) → (((S1.1 1 7) ≤ i3 → (vp_in i2 10 ∧ (K (nI 0) (sA S1 41 i2.toNatClampNeg (S1.1 1 7))))) ∧ (¬ (S1.1 1 7) ≤ i3 → (K (nI 2) S1)))) ∧ (¬ i2 < (nI 10) → (L_X8_readNumberD_29 G fr n0 tl K S1 )))))) ∧ (¬ (S1.1 1 5) = (nI 36) → (L_X8_readNumberD_29 G fr n0 tl K S1 )))) :
    ctI G 4 M_X8_readNumber fr [.ref 29, .ref 41, .int i2, .int i3] lB S tl K := by
  refine wp_ct o_X8_readNumber (Nat.le_of_ble_eq_true rfl) ?_
  replace h := h (hLy lB S tl).length
  revert h
  generalize (hLy lB S tl).length = n0
  intro h
  iterate 2 refine ws_b rfl ?_
  refine wp_cV rfl rfl o_X10_advance v_X10_advance h rfl rfl rfl (Nat.le_of_ble_eq_true rfl) (by decide) ?_
  clear h
  rintro r9 h9 ⟨S1, rfl, rfl, h⟩
  iterate 5 refine ws_b rfl ?_
  refine wp_ite (fun q => ?_) (fun q => ?_)
  · replace h := h.1 q
    iterate 2 refine ws_b rfl ?_
    refine wp_ite (fun q => ?_) (fun q => ?_)
    · replace h := h.1 q
      exact wp_weak (wk_n (wk_n (wk_n (wk_n wk_0)))) h
    · replace h := h.2 q
      iterate 4 refine ws_b rfl ?_
      refine wp_ite (fun q => ?_) (fun q => ?_)
      · replace h := h.1 q
        iterate 5 refine ws_b rfl ?_
        refine wp_ite (fun q => ?_) (fun q => ?_)
        · replace h := h.1 q
          iterate 5 refine ws_b rfl ?_
          refine ws_g rfl h.1 ?_
          replace h := h.2
          refine ws_b rfl ?_
          exact wp_ri rfl rfl rfl ⟨_, _, rfl, rfl, h⟩
        · replace h := h.2 q
          refine ws_b rfl ?_
          exact wp_ri rfl rfl rfl ⟨_, _, rfl, rfl, h⟩
      · replace h := h.2 q
        exact wp_weak (wk_n (wk_n (wk_n (wk_n wk_0)))) h
  · replace h := h.2 q
    exact wp_weak (wk_n (wk_n (wk_n (wk_n wk_0)))) h
def L_X8_readPiece_49 (G : ab_G) (fr : Bool) (n0 : Nat) (tl : ab_H) (K : Int32 → ms_S → Prop) (S : ms_S) (i1 : Int32) (i2 : Int32) : Prop := wp G 5 M_X8_readPiece fr n0 (poI lB tl K) 49 [some (.ref 29), some (.int i1), some (.int i2)] [] (hLy lB S tl)
def L_X8_readPiece_68 (G : ab_G) (fr : Bool) (n0 : Nat) (tl : ab_H) (K : Int32 → ms_S → Prop) (S : ms_S) (i1 : Int32) (i2 : Int32) : Prop := wp G 5 M_X8_readPiece fr n0 (poI lB tl K) 68 [some (.ref 29), some (.int i1), some (.int i2)] [] (hLy lB S tl)
def L_X8_readPiece_87 (G : ab_G) (fr : Bool) (n0 : Nat) (tl : ab_H) (K : Int32 → ms_S → Prop) (S : ms_S) (i2 : Int32) : Prop := wp G 5 M_X8_readPiece fr n0 (poI lB tl K) 87 [some (.ref 29), none, some (.int i2)] [] (hLy lB S tl)
def L_X8_readPiece_111 (G : ab_G) (fr : Bool) (n0 : Nat) (tl : ab_H) (K : Int32 → ms_S → Prop) (S : ms_S) (i2 : Int32) : Prop := wp G 5 M_X8_readPiece fr n0 (poI lB tl K) 111 [none, none, some (.int i2)] [] (hLy lB S tl)
set_option maxRecDepth 100000 in
set_option maxHeartbeats 4000000 in
theorem b_X8_readPiece_49 {G : ab_G} {fr : Bool} {n0 : Nat} {tl : ab_H} {K : Int32 → ms_S → Prop} {S : ms_S} {i1 : Int32} {i2 : Int32}
    (h : (i2 = 0 → (ctI G 4 M_X8_readNumber fr [.ref 29, .ref 33, .int i1, .int (nI 6)] lB S tl (fun v1 S1 => L_X8_readPiece_68 G fr n0 tl K S1 i1 v1))) ∧ (¬ i2 = 0 → (L_X8_readPiece_68 G fr n0 tl K S i1 i2))) :
    L_X8_readPiece_49 G fr n0 tl K S i1 i2 := by
  unfold L_X8_readPiece_49
  iterate 2 refine ws_b rfl ?_
  refine wp_ite (fun q => ?_) (fun q => ?_)
  · replace h := h.1 q
    iterate 6 refine ws_b rfl ?_
    refine wp_cV rfl rfl o_X8_readNumber v_X8_readNumber h rfl rfl rfl (Nat.le_of_ble_eq_true rfl) (by decide) ?_
    clear h
    rintro r9 h9 ⟨v1, S1, rfl, rfl, h⟩
    refine ws_b rfl ?_
    exact wp_weak (wk_s (wk_s (wk_s wk_0))) h
  · replace h := h.2 q
    exact wp_weak (wk_s (wk_s (wk_s wk_0))) h
set_option maxRecDepth 100000 in
set_option maxHeartbeats 4000000 in
theorem b_X8_readPiece_68 {G : ab_G} {fr : Bool} {n0 : Nat} {tl : ab_H} {K : Int32 → ms_S → Prop} {S : ms_S} {i1 : Int32} {i2 : Int32}
    (h : (i2 = 0 → (ctI G 4 M_X8_readNumber fr [.ref 29, .ref 34, .int i1, .int (nI 99)] lB S tl (fun v1 S1 => L_X8_readPiece_87 G fr n0 tl K S1 v1))) ∧ (¬ i2 = 0 → (L_X8_readPiece_87 G fr n0 tl K S i2))) :
    L_X8_readPiece_68 G fr n0 tl K S i1 i2 := by
  unfold L_X8_readPiece_68
  iterate 2 refine ws_b rfl ?_
  refine wp_ite (fun q => ?_) (fun q => ?_)
  · replace h := h.1 q
    iterate 6 refine ws_b rfl ?_
    refine wp_cV rfl rfl o_X8_readNumber v_X8_readNumber h rfl rfl rfl (Nat.le_of_ble_eq_true rfl) (by decide) ?_
    clear h
    rintro r9 h9 ⟨v1, S1, rfl, rfl, h⟩
    refine ws_b rfl ?_
    exact wp_weak (wk_s (wk_n (wk_s wk_0))) h
  · replace h := h.2 q
    exact wp_weak (wk_s (wk_n (wk_s wk_0))) h
set_option maxRecDepth 100000 in
set_option maxHeartbeats 4000000 in
theorem b_X8_readPiece_87 {G : ab_G} {fr : Bool} {n0 : Nat} {tl : ab_H} {K : Int32 → ms_S → Prop} {S : ms_S} {i2 : Int32}
    (h : (i2 = 0 → (ctU G 3 M_X10_advance fr [.ref 1] lB (sVa S 30 12 ((S.1 30 12) + (nI 1))) tl (fun S1 => L_X8_readPiece_111 G fr n0 tl K S1 i2))) ∧ (¬ i2 = 0 → (L_X8_readPiece_111 G fr n0 tl K S i2))) :
    L_X8_readPiece_87 G fr n0 tl K S i2 := by
  unfold L_X8_readPiece_87
  iterate 2 refine ws_b rfl ?_
  refine wp_ite (fun q => ?_) (fun q => ?_)
  · replace h := h.1 q
    iterate 9 refine ws_b rfl ?_
    refine wp_cV rfl rfl o_X10_advance v_X10_advance h rfl rfl rfl (Nat.le_of_ble_eq_true rfl) (by decide) ?_
    clear h
    rintro r9 h9 ⟨S1, rfl, rfl, h⟩
    exact wp_weak (wk_n (wk_s (wk_s wk_0))) h
  · replace h := h.2 q
    exact wp_weak (wk_n (wk_s (wk_s wk_0))) h
set_option maxRecDepth 100000 in
set_option maxHeartbeats 4000000 in
theorem b_X8_readPiece_111 {G : ab_G} {fr : Bool} {n0 : Nat} {tl : ab_H} {K : Int32 → ms_S → Prop} {S : ms_S} {i2 : Int32}
    (h : K i2 S) :
    L_X8_readPiece_111 G fr n0 tl K S i2 := by
  unfold L_X8_readPiece_111
  refine ws_b rfl ?_
  exact wp_ri rfl rfl rfl ⟨_, _, rfl, rfl, h⟩
set_option maxRecDepth 100000 in
set_option maxHeartbeats 4000000 in
theorem m_X8_readPiece {G : ab_G} {fr : Bool} {tl : ab_H} {K : Int32 → ms_S → Prop} {S : ms_S} 
    (h : ∀ n0 : Nat, ((S.1 30 12) < (nI 9) → (ctI G 4 M_X8_readNewName fr [.ref 29, .ref 31, .int (S.1 30 12), .int (nI 1)] lB S tl (fun v1 S1 => (v1 = 0 → (ctI G 4 M_X8_readNumber fr [.ref 29, .ref 32, .int (S.1 30 12), .int (nI 6)] lB S1 tl (fun v2 S2 => L_X8_readPiece_49 G fr n0 tl K S2 (S.1 30 12) v2))) ∧ (¬ v1 = 0 → (L_X8_readPiece_49 G fr n0 tl K S1 (S.1 30 12) v1))))) ∧ (¬ (S.1 30 12) < (nI 9) → (K (nI 2) S))) :
    ctI G 5 M_X8_readPiece fr [.ref 29] lB S tl K := by
  refine wp_ct o_X8_readPiece (Nat.le_of_ble_eq_true rfl) ?_
  replace h := h (hLy lB S tl).length
  revert h
  generalize (hLy lB S tl).length = n0
  intro h
  iterate 7 refine ws_b rfl ?_
  refine wp_ite (fun q => ?_) (fun q => ?_)
  · replace h := h.1 q
    iterate 6 refine ws_b rfl ?_
    refine wp_cV rfl rfl o_X8_readNewName v_X8_readNewName h rfl rfl rfl (Nat.le_of_ble_eq_true rfl) (by decide) ?_
    clear h
    rintro r9 h9 ⟨v1, S1, rfl, rfl, h⟩
    iterate 3 refine ws_b rfl ?_
    refine wp_ite (fun q => ?_) (fun q => ?_)
    · replace h := h.1 q
      iterate 6 refine ws_b rfl ?_
      refine wp_cV rfl rfl o_X8_readNumber v_X8_readNumber h rfl rfl rfl (Nat.le_of_ble_eq_true rfl) (by decide) ?_
      clear h
      rintro r9 h9 ⟨v2, S2, rfl, rfl, h⟩
      refine ws_b rfl ?_
      exact wp_weak (wk_s (wk_s (wk_s wk_0))) h
    · replace h := h.2 q
      exact wp_weak (wk_s (wk_s (wk_s wk_0))) h
  · replace h := h.2 q
    refine ws_b rfl ?_
    exact wp_ri rfl rfl rfl ⟨_, _, rfl, rfl, h⟩
def L_X8_readHeir_53 (G : ab_G) (fr : Bool) (n0 : Nat) (tl : ab_H) (K : Int32 → ms_S → Prop) (S : ms_S) (i2 : Int32) : Prop := wp G 5 M_X8_readHeir fr n0 (poI lB tl K) 53 [none, none, some (.int i2)] [] (hLy lB S tl)
set_option maxRecDepth 100000 in
set_option maxHeartbeats 4000000 in
theorem b_X8_readHeir_53 {G : ab_G} {fr : Bool} {n0 : Nat} {tl : ab_H} {K : Int32 → ms_S → Prop} {S : ms_S} {i2 : Int32}
    (h : K i2 S) :
    L_X8_readHeir_53 G fr n0 tl K S i2 := by
  unfold L_X8_readHeir_53
  refine ws_b rfl ?_
  exact wp_ri rfl rfl rfl ⟨_, _, rfl, rfl, h⟩
set_option maxRecDepth 100000 in
set_option maxHeartbeats 4000000 in
theorem m_X8_readHeir {G : ab_G} {fr : Bool} {tl : ab_H} {K : Int32 → ms_S → Prop} {S : ms_S} 
    (h : ∀ n0 : Nat, ((S.1 30 13) < (nI 5) → (ctI G 4 M_X8_readNewName fr [.ref 29, .ref 35, .int (S.1 30 13), .int (nI 0)] lB S tl (fun v1 S1 => (v1 = 0 → (ctU G 3 M_X10_advance fr [.ref 1] lB (sVa S1 30 13 ((S1.1 30 13) + (nI 1))) tl (fun S2 => L_X8_readHeir_53 G fr n0 tl K S2 v1))) ∧ (¬ v1 = 0 → (L_X8_readHeir_53 G fr n0 tl K S1 v1))))) ∧ (¬ (S.1 30 13) < (nI 5) → (K (nI 2) S))) :
    ctI G 5 M_X8_readHeir fr [.ref 29] lB S tl K := by
  refine wp_ct o_X8_readHeir (Nat.le_of_ble_eq_true rfl) ?_
  replace h := h (hLy lB S tl).length
  revert h
  generalize (hLy lB S tl).length = n0
  intro h
  iterate 7 refine ws_b rfl ?_
  refine wp_ite (fun q => ?_) (fun q => ?_)
  · replace h := h.1 q
    iterate 6 refine ws_b rfl ?_
    refine wp_cV rfl rfl o_X8_readNewName v_X8_readNewName h rfl rfl rfl (Nat.le_of_ble_eq_true rfl) (by decide) ?_
    clear h
    rintro r9 h9 ⟨v1, S1, rfl, rfl, h⟩
    iterate 3 refine ws_b rfl ?_
    refine wp_ite (fun q => ?_) (fun q => ?_)
    · replace h := h.1 q
      iterate 9 refine ws_b rfl ?_
      refine wp_cV rfl rfl o_X10_advance v_X10_advance h rfl rfl rfl (Nat.le_of_ble_eq_true rfl) (by decide) ?_
      clear h
      rintro r9 h9 ⟨S2, rfl, rfl, h⟩
      exact wp_weak (wk_n (wk_n (wk_s wk_0))) h
    · replace h := h.2 q
      exact wp_weak (wk_n (wk_n (wk_s wk_0))) h
  · replace h := h.2 q
    refine ws_b rfl ?_
    exact wp_ri rfl rfl rfl ⟨_, _, rfl, rfl, h⟩
def L_X8_readShare_93 (G : ab_G) (fr : Bool) (n0 : Nat) (tl : ab_H) (K : Int32 → ms_S → Prop) (S : ms_S)  : Prop := wp G 5 M_X8_readShare fr n0 (poI lB tl K) 93 [some (.ref 29), none, none, none] [] (hLy lB S tl)
set_option maxRecDepth 100000 in
set_option maxHeartbeats 4000000 in
theorem b_X8_readShare_93 {G : ab_G} {fr : Bool} {n0 : Nat} {tl : ab_H} {K : Int32 → ms_S → Prop} {S : ms_S} 
    (h : ctU G 3 M_X10_advance fr [.ref 1] lB S tl (fun S1 => K (nI 0) S1)) :
    L_X8_readShare_93 G fr n0 tl K S  := by
  unfold L_X8_readShare_93
  iterate 2 refine ws_b rfl ?_
  refine wp_cV rfl rfl o_X10_advance v_X10_advance h rfl rfl rfl (Nat.le_of_ble_eq_true rfl) (by decide) ?_
  clear h
  rintro r9 h9 ⟨S1, rfl, rfl, h⟩
  refine ws_b rfl ?_
  exact wp_ri rfl rfl rfl ⟨_, _, rfl, rfl, h⟩
set_option maxRecDepth 100000 in
set_option maxHeartbeats 4000000 in
theorem m_X8_readShare {G : ab_G} {fr : Bool} {tl : ab_H} {K : Int32 → ms_S → Prop} {S : ms_S} 
    (h : ∀ n0 : Nat, ctI G 4 M_X8_readToldHeir fr [.ref 29] lB S tl (fun v1 S1 => (v1 = 0 → (ctI G 2 M_X7_heirCalled fr [.ref 30, .int (S1.1 1 7)] lB S1 tl (fun v2 S2 => ctI G 4 M_X8_readToldPiece fr [.ref 29] lB S2 tl (fun v3 S3 => (v3 = 0 → (ctI G 2 M_X7_pieceCalled fr [.ref 30, .int (S3.1 1 7)] lB S3 tl (fun v4 S4 => ctI G 1 M_X7_sharedPieces fr [.ref 30] lB S4 tl (fun v5 S5 => ((((v5.toUInt32 >>> (v4.toUInt32 &&& Int32.toUInt32 31)).toInt32) &&& (nI 1)) = (nI 1) → (K (nI 3) S5)) ∧ (¬ (((v5.toUInt32 >>> (v4.toUInt32 &&& Int32.toUInt32 31)).toInt32) &&& (nI 1)) = (nI 1) → ((v2 < 0 → (L_X8_readShare_93 G fr n0 tl K S5 )) ∧ (¬ v2 < 0 → (((nI 5) ≤ v2 → (L_X8_readShare_93 G fr n0 tl K S5 )) ∧ (¬ (nI 5) ≤ v2 → (vp_in v2 5 ∧ (vp_in v2 5 ∧ (L_X8_readShare_93 G fr n0 tl K (sA S5 36 v2.toNatClampNeg ((S5.2.2.2.1 36 v2.toNatClampNeg) ||| ((nI 1) <<< (v4 &&& 31)))) )))))))))))) ∧ (¬ v3 = 0 → (K v3 S3)))))) ∧ (¬ v1 = 0 → (K v1 S1)))) :
    ctI G 5 M_X8_readShare fr [.ref 29] lB S tl K := by
  refine wp_ct o_X8_readShare (Nat.le_of_ble_eq_true rfl) ?_
  replace h := h (hLy lB S tl).length
  revert h
  generalize (hLy lB S tl).length = n0
  intro h
  refine ws_b rfl ?_
  refine wp_cV rfl rfl o_X8_readToldHeir v_X8_readToldHeir h rfl rfl rfl (Nat.le_of_ble_eq_true rfl) (by decide) ?_
  clear h
  rintro r9 h9 ⟨v1, S1, rfl, rfl, h⟩
  iterate 3 refine ws_b rfl ?_
  refine wp_ite (fun q => ?_) (fun q => ?_)
  · replace h := h.1 q
    iterate 5 refine ws_b rfl ?_
    refine wp_cV rfl rfl o_X7_heirCalled v_X7_heirCalled h rfl rfl rfl (Nat.le_of_ble_eq_true rfl) (by decide) ?_
    clear h
    rintro r9 h9 ⟨v2, S2, rfl, rfl, h⟩
    iterate 2 refine ws_b rfl ?_
    refine wp_cV rfl rfl o_X8_readToldPiece v_X8_readToldPiece h rfl rfl rfl (Nat.le_of_ble_eq_true rfl) (by decide) ?_
    clear h
    rintro r9 h9 ⟨v3, S3, rfl, rfl, h⟩
    iterate 3 refine ws_b rfl ?_
    refine wp_ite (fun q => ?_) (fun q => ?_)
    · replace h := h.1 q
      iterate 5 refine ws_b rfl ?_
      refine wp_cV rfl rfl o_X7_pieceCalled v_X7_pieceCalled h rfl rfl rfl (Nat.le_of_ble_eq_true rfl) (by decide) ?_
      clear h
      rintro r9 h9 ⟨v4, S4, rfl, rfl, h⟩
      iterate 3 refine ws_b rfl ?_
      refine wp_cV rfl rfl o_X7_sharedPieces v_X7_sharedPieces h rfl rfl rfl (Nat.le_of_ble_eq_true rfl) (by decide) ?_
      clear h
      rintro r9 h9 ⟨v5, S5, rfl, rfl, h⟩
      iterate 6 refine ws_b rfl ?_
      refine wp_ite (fun q => ?_) (fun q => ?_)
      · replace h := h.1 q
        refine ws_b rfl ?_
        exact wp_ri rfl rfl rfl ⟨_, _, rfl, rfl, h⟩
      · replace h := h.2 q
        iterate 2 refine ws_b rfl ?_
        refine wp_ite (fun q => ?_) (fun q => ?_)
        · replace h := h.1 q
          exact wp_weak (wk_s (wk_n (wk_n (wk_n wk_0)))) h
        · replace h := h.2 q
          iterate 3 refine ws_b rfl ?_
          refine wp_ite (fun q => ?_) (fun q => ?_)
          · replace h := h.1 q
            exact wp_weak (wk_s (wk_n (wk_n (wk_n wk_0)))) h
          · replace h := h.2 q
            iterate 5 refine ws_b rfl ?_
            refine ws_g rfl h.1 ?_
            replace h := h.2
            iterate 4 refine ws_b rfl ?_
            refine ws_g rfl h.1 ?_
            replace h := h.2
            exact wp_weak (wk_s (wk_n (wk_n (wk_n wk_0)))) h
    · replace h := h.2 q
      refine ws_b rfl ?_
      exact wp_ri rfl rfl rfl ⟨_, _, rfl, rfl, h⟩
  · replace h := h.2 q
    refine ws_b rfl ?_
    exact wp_ri rfl rfl rfl ⟨_, _, rfl, rfl, h⟩
def L_X8_readTrade_146 (G : ab_G) (fr : Bool) (n0 : Nat) (tl : ab_H) (K : Int32 → ms_S → Prop) (S : ms_S) (i2 : Int32) : Prop := wp G 5 M_X8_readTrade fr n0 (poI lB tl K) 146 [none, none, some (.int i2)] [] (hLy lB S tl)
set_option maxRecDepth 100000 in
set_option maxHeartbeats 4000000 in
theorem b_X8_readTrade_146 {G : ab_G} {fr : Bool} {n0 : Nat} {tl : ab_H} {K : Int32 → ms_S → Prop} {S : ms_S} {i2 : Int32}
    (h : K i2 S) :
    L_X8_readTrade_146 G fr n0 tl K S i2 := by
  unfold L_X8_readTrade_146
  refine ws_b rfl ?_
  exact wp_ri rfl rfl rfl ⟨_, _, rfl, rfl, h⟩
set_option maxRecDepth 100000 in
set_option maxHeartbeats 4000000 in
theorem m_X8_readTrade {G : ab_G} {fr : Bool} {tl : ab_H} {K : Int32 → ms_S → Prop} {S : ms_S} 
    (h : ∀ n0 : Nat, ((S.1 30 14) < (nI 8) → (ctI G 4 M_X8_readToldPiece fr [.ref 29] lB S tl (fun v1 S1 => (v1 = 0 → (ctI G 2 M_X7_pieceCalled fr [.ref 30, .int (S1.1 1 7)] lB S1 tl (fun v2 S2 => vp_in (S.1 30 14) 8 ∧ (ctI G 4 M_X8_readToldPiece fr [.ref 29] lB (sA S2 37 ((S.1 30 14).toNatClampNeg) v2) tl (fun v3 S3 => (v3 = 0 → (ctI G 2 M_X7_pieceCalled fr [.ref 30, .int (S3.1 1 7)] lB S3 tl (fun v4 S4 => vp_in (S.1 30 14) 8 ∧ (vp_in (S.1 30 14) 8 ∧ (vp_in (S.1 30 14) 8 ∧ (((S4.2.2.2.1 37 ((S.1 30 14).toNatClampNeg)) = (upd (S4.2.2.2.1 38) ((S.1 30 14).toNatClampNeg) v4 ((S.1 30 14).toNatClampNeg)) → (K (nI 5) (sA S4 38 ((S.1 30 14).toNatClampNeg) v4))) ∧ (¬ (S4.2.2.2.1 37 ((S.1 30 14).toNatClampNeg)) = (upd (S4.2.2.2.1 38) ((S.1 30 14).toNatClampNeg) v4 ((S.1 30 14).toNatClampNeg)) → (ctI G 4 M_X8_readNumber fr [.ref 29, .ref 39, .int (S.1 30 14), .int (nI 99)] lB (sA S4 38 ((S.1 30 14).toNatClampNeg) v4) tl (fun v5 S5 => (v5 = 0 → (ctU G 3 M_X10_advance fr [.ref 1] lB (sVa S5 30 14 ((S5.1 30 14) + (nI 1))) tl (fun S6 => L_X8_readTrade_146 G fr n0 tl K S6 v5))) ∧ (¬ v5 = 0 → (L_X8_readTrade_146 G fr n0 tl K S5 v5))))))))))) ∧ (¬ v3 = 0 → (K v3 S3))))))) ∧ (¬ v1 = 0 → (K v1 S1))))) ∧ (¬ (S.1 30 14) < (nI 8) → (K (nI 2) S))) :
    ctI G 5 M_X8_readTrade fr [.ref 29] lB S tl K := by
  refine wp_ct o_X8_readTrade (Nat.le_of_ble_eq_true rfl) ?_
  replace h := h (hLy lB S tl).length
  revert h
  generalize (hLy lB S tl).length = n0
  intro h
  iterate 7 refine ws_b rfl ?_
  refine wp_ite (fun q => ?_) (fun q => ?_)
  · replace h := h.1 q
    refine ws_b rfl ?_
    refine wp_cV rfl rfl o_X8_readToldPiece v_X8_readToldPiece h rfl rfl rfl (Nat.le_of_ble_eq_true rfl) (by decide) ?_
    clear h
    rintro r9 h9 ⟨v1, S1, rfl, rfl, h⟩
    iterate 3 refine ws_b rfl ?_
    refine wp_ite (fun q => ?_) (fun q => ?_)
    · replace h := h.1 q
      iterate 9 refine ws_b rfl ?_
      refine wp_cV rfl rfl o_X7_pieceCalled v_X7_pieceCalled h rfl rfl rfl (Nat.le_of_ble_eq_true rfl) (by decide) ?_
      clear h
      rintro r9 h9 ⟨v2, S2, rfl, rfl, h⟩
      refine ws_g rfl h.1 ?_
      replace h := h.2
      refine ws_b rfl ?_
      refine wp_cV rfl rfl o_X8_readToldPiece v_X8_readToldPiece h rfl rfl rfl (Nat.le_of_ble_eq_true rfl) (by decide) ?_
      clear h
      rintro r9 h9 ⟨v3, S3, rfl, rfl, h⟩
      iterate 3 refine ws_b rfl ?_
      refine wp_ite (fun q => ?_) (fun q => ?_)
      · replace h := h.1 q
        iterate 9 refine ws_b rfl ?_
        refine wp_cV rfl rfl o_X7_pieceCalled v_X7_pieceCalled h rfl rfl rfl (Nat.le_of_ble_eq_true rfl) (by decide) ?_
        clear h
        rintro r9 h9 ⟨v4, S4, rfl, rfl, h⟩
        refine ws_g rfl h.1 ?_
        replace h := h.2
        iterate 4 refine ws_b rfl ?_
        refine ws_g rfl h.1 ?_
        replace h := h.2
        iterate 4 refine ws_b rfl ?_
        refine ws_g rfl h.1 ?_
        replace h := h.2
        refine ws_b rfl ?_
        refine wp_ite (fun q => ?_) (fun q => ?_)
        · replace h := h.1 q
          refine ws_b rfl ?_
          exact wp_ri rfl rfl rfl ⟨_, _, rfl, rfl, h⟩
        · replace h := h.2 q
          iterate 6 refine ws_b rfl ?_
          refine wp_cV rfl rfl o_X8_readNumber v_X8_readNumber h rfl rfl rfl (Nat.le_of_ble_eq_true rfl) (by decide) ?_
          clear h
          rintro r9 h9 ⟨v5, S5, rfl, rfl, h⟩
          iterate 3 refine ws_b rfl ?_
          refine wp_ite (fun q => ?_) (fun q => ?_)
          · replace h := h.1 q
            iterate 9 refine ws_b rfl ?_
            refine wp_cV rfl rfl o_X10_advance v_X10_advance h rfl rfl rfl (Nat.le_of_ble_eq_true rfl) (by decide) ?_
            clear h
            rintro r9 h9 ⟨S6, rfl, rfl, h⟩
            exact wp_weak (wk_n (wk_n (wk_s wk_0))) h
          · replace h := h.2 q
            exact wp_weak (wk_n (wk_n (wk_s wk_0))) h
      · replace h := h.2 q
        refine ws_b rfl ?_
        exact wp_ri rfl rfl rfl ⟨_, _, rfl, rfl, h⟩
    · replace h := h.2 q
      refine ws_b rfl ?_
      exact wp_ri rfl rfl rfl ⟨_, _, rfl, rfl, h⟩
  · replace h := h.2 q
    refine ws_b rfl ?_
    exact wp_ri rfl rfl rfl ⟨_, _, rfl, rfl, h⟩
def L_X8_readDraw_89 (G : ab_G) (fr : Bool) (n0 : Nat) (tl : ab_H) (K : Int32 → ms_S → Prop) (S : ms_S) (i2 : Int32) : Prop := wp G 5 M_X8_readDraw fr n0 (poI lB tl K) 89 [none, none, some (.int i2)] [] (hLy lB S tl)
set_option maxRecDepth 100000 in
set_option maxHeartbeats 4000000 in
theorem b_X8_readDraw_89 {G : ab_G} {fr : Bool} {n0 : Nat} {tl : ab_H} {K : Int32 → ms_S → Prop} {S : ms_S} {i2 : Int32}
    (h : K i2 S) :
    L_X8_readDraw_89 G fr n0 tl K S i2 := by
  unfold L_X8_readDraw_89
  refine ws_b rfl ?_
  exact wp_ri rfl rfl rfl ⟨_, _, rfl, rfl, h⟩
set_option maxRecDepth 100000 in
set_option maxHeartbeats 4000000 in
theorem m_X8_readDraw {G : ab_G} {fr : Bool} {tl : ab_H} {K : Int32 → ms_S → Prop} {S : ms_S} 
    (h : ∀ n0 : Nat, ((S.1 30 15) < (nI 10) → (ctI G 4 M_X8_readToldHeir fr [.ref 29] lB S tl (fun v1 S1 => (v1 = 0 → (ctI G 2 M_X7_heirCalled fr [.ref 30, .int (S1.1 1 7)] lB S1 tl (fun v2 S2 => vp_in (S.1 30 15) 10 ∧ (ctI G 4 M_X8_readNumber fr [.ref 29, .ref 41, .int (S.1 30 15), .int (nI 99)] lB (sA S2 40 ((S.1 30 15).toNatClampNeg) v2) tl (fun v3 S3 => (v3 = 0 → (ctU G 3 M_X10_advance fr [.ref 1] lB (sVa S3 30 15 ((S3.1 30 15) + (nI 1))) tl (fun S4 => L_X8_readDraw_89 G fr n0 tl K S4 v3))) ∧ (¬ v3 = 0 → (L_X8_readDraw_89 G fr n0 tl K S3 v3))))))) ∧ (¬ v1 = 0 → (K v1 S1))))) ∧ (¬ (S.1 30 15) < (nI 10) → (K (nI 2) S))) :
    ctI G 5 M_X8_readDraw fr [.ref 29] lB S tl K := by
  refine wp_ct o_X8_readDraw (Nat.le_of_ble_eq_true rfl) ?_
  replace h := h (hLy lB S tl).length
  revert h
  generalize (hLy lB S tl).length = n0
  intro h
  iterate 7 refine ws_b rfl ?_
  refine wp_ite (fun q => ?_) (fun q => ?_)
  · replace h := h.1 q
    refine ws_b rfl ?_
    refine wp_cV rfl rfl o_X8_readToldHeir v_X8_readToldHeir h rfl rfl rfl (Nat.le_of_ble_eq_true rfl) (by decide) ?_
    clear h
    rintro r9 h9 ⟨v1, S1, rfl, rfl, h⟩
    iterate 3 refine ws_b rfl ?_
    refine wp_ite (fun q => ?_) (fun q => ?_)
    · replace h := h.1 q
      iterate 9 refine ws_b rfl ?_
      refine wp_cV rfl rfl o_X7_heirCalled v_X7_heirCalled h rfl rfl rfl (Nat.le_of_ble_eq_true rfl) (by decide) ?_
      clear h
      rintro r9 h9 ⟨v2, S2, rfl, rfl, h⟩
      refine ws_g rfl h.1 ?_
      replace h := h.2
      iterate 6 refine ws_b rfl ?_
      refine wp_cV rfl rfl o_X8_readNumber v_X8_readNumber h rfl rfl rfl (Nat.le_of_ble_eq_true rfl) (by decide) ?_
      clear h
      rintro r9 h9 ⟨v3, S3, rfl, rfl, h⟩
      iterate 3 refine ws_b rfl ?_
      refine wp_ite (fun q => ?_) (fun q => ?_)
      · replace h := h.1 q
        iterate 9 refine ws_b rfl ?_
        refine wp_cV rfl rfl o_X10_advance v_X10_advance h rfl rfl rfl (Nat.le_of_ble_eq_true rfl) (by decide) ?_
        clear h
        rintro r9 h9 ⟨S4, rfl, rfl, h⟩
        exact wp_weak (wk_n (wk_n (wk_s wk_0))) h
      · replace h := h.2 q
        exact wp_weak (wk_n (wk_n (wk_s wk_0))) h
    · replace h := h.2 q
      refine ws_b rfl ?_
      exact wp_ri rfl rfl rfl ⟨_, _, rfl, rfl, h⟩
  · replace h := h.2 q
    refine ws_b rfl ?_
    exact wp_ri rfl rfl rfl ⟨_, _, rfl, rfl, h⟩
def L_X8_readNeed_56 (G : ab_G) (fr : Bool) (n0 : Nat) (tl : ab_H) (K : Int32 → ms_S → Prop) (S : ms_S)  : Prop := wp G 4 M_X8_readNeed fr n0 (poI lB tl K) 56 [none] [] (hLy lB S tl)
set_option maxRecDepth 100000 in
set_option maxHeartbeats 4000000 in
theorem b_X8_readNeed_56 {G : ab_G} {fr : Bool} {n0 : Nat} {tl : ab_H} {K : Int32 → ms_S → Prop} {S : ms_S} 
    (h : K (nI 2) S) :
    L_X8_readNeed_56 G fr n0 tl K S  := by
  unfold L_X8_readNeed_56
  refine ws_b rfl ?_
  exact wp_ri rfl rfl rfl ⟨_, _, rfl, rfl, h⟩
set_option maxRecDepth 100000 in
set_option maxHeartbeats 4000000 in
theorem m_X8_readNeed {G : ab_G} {fr : Bool} {tl : ab_H} {K : Int32 → ms_S → Prop} {S : ms_S} 
    (h : ∀ n0 : Nat, ((S.1 30 16) = 0 → (ctU G 3 M_X10_advance fr [.ref 1] lB S tl (fun S1 => ((S1.1 1 5) = (nI 36) → (((S1.1 1 7) < (nI 1) → (L_X8_readNeed_56 G fr n0 tl K S1 )) ∧ (¬ (S1.1 1 7) < (nI 1) → (((S1.1 1 7) ≤ (nI 9) → (ctU G 3 M_X10_advance fr [.ref 1] lB (sVa S1 30 16 (S1.1 1 7)) tl (fun S2 => K (nI 0) S2))) ∧ (¬ (S1.1 1 7) ≤ (nI 9) → (L_X8_readNeed_56 G fr n0 tl K S1 )))))) ∧ (¬ (S1.1 1 5) = (nI 36) → (K (nI 1) S1))))) ∧ (¬ (S.1 30 16) = 0 → (K (nI 3) S))) :
    ctI G 4 M_X8_readNeed fr [.ref 29] lB S tl K := by
  refine wp_ct o_X8_readNeed (Nat.le_of_ble_eq_true rfl) ?_
  replace h := h (hLy lB S tl).length
  revert h
  generalize (hLy lB S tl).length = n0
  intro h
  iterate 4 refine ws_b rfl ?_
  refine wp_ite (fun q => ?_) (fun q => ?_)
  · replace h := h.1 q
    iterate 2 refine ws_b rfl ?_
    refine wp_cV rfl rfl o_X10_advance v_X10_advance h rfl rfl rfl (Nat.le_of_ble_eq_true rfl) (by decide) ?_
    clear h
    rintro r9 h9 ⟨S1, rfl, rfl, h⟩
    iterate 5 refine ws_b rfl ?_
    refine wp_ite (fun q => ?_) (fun q => ?_)
    · replace h := h.1 q
      iterate 5 refine ws_b rfl ?_
      refine wp_ite (fun q => ?_) (fun q => ?_)
      · replace h := h.1 q
        exact wp_weak (wk_n wk_0) h
      · replace h := h.2 q
        iterate 5 refine ws_b rfl ?_
        refine wp_ite (fun q => ?_) (fun q => ?_)
        · replace h := h.1 q
          iterate 8 refine ws_b rfl ?_
          refine wp_cV rfl rfl o_X10_advance v_X10_advance h rfl rfl rfl (Nat.le_of_ble_eq_true rfl) (by decide) ?_
          clear h
          rintro r9 h9 ⟨S2, rfl, rfl, h⟩
          refine ws_b rfl ?_
          exact wp_ri rfl rfl rfl ⟨_, _, rfl, rfl, h⟩
        · replace h := h.2 q
          exact wp_weak (wk_n wk_0) h
    · replace h := h.2 q
      refine ws_b rfl ?_
      exact wp_ri rfl rfl rfl ⟨_, _, rfl, rfl, h⟩
  · replace h := h.2 q
    refine ws_b rfl ?_
    exact wp_ri rfl rfl rfl ⟨_, _, rfl, rfl, h⟩
set_option maxRecDepth 100000 in
set_option maxHeartbeats 4000000 in
theorem m_X8_readSeed {G : ab_G} {fr : Bool} {tl : ab_H} {K : Int32 → ms_S → Prop} {S : ms_S} 
    (h : ∀ n0 : Nat, ((S.1 30 17) = (-(nI 1)) → (ctU G 3 M_X10_advance fr [.ref 1] lB S tl (fun S1 => ((S1.1 1 5) = (nI 36) → (((S1.1 1 7) ≤ ((99999 : Int32)) → (ctU G 3 M_X10_advance fr [.ref 1] lB (sVa S1 30 17 (S1.1 1 7)) tl (fun S2 => K (nI 0) S2))) ∧ (¬ (S1.1 1 7) ≤ ((99999 : Int32)) → (K (nI 2) S1)))) ∧ (¬ (S1.1 1 5) = (nI 36) → (K (nI 1) S1))))) ∧ (¬ (S.1 30 17) = (-(nI 1)) → (K (nI 3) S))) :
    ctI G 4 M_X8_readSeed fr [.ref 29] lB S tl K := by
  refine wp_ct o_X8_readSeed (Nat.le_of_ble_eq_true rfl) ?_
  replace h := h (hLy lB S tl).length
  revert h
  generalize (hLy lB S tl).length = n0
  intro h
  iterate 5 refine ws_b rfl ?_
  refine wp_ite (fun q => ?_) (fun q => ?_)
  · replace h := h.1 q
    iterate 2 refine ws_b rfl ?_
    refine wp_cV rfl rfl o_X10_advance v_X10_advance h rfl rfl rfl (Nat.le_of_ble_eq_true rfl) (by decide) ?_
    clear h
    rintro r9 h9 ⟨S1, rfl, rfl, h⟩
    iterate 5 refine ws_b rfl ?_
    refine wp_ite (fun q => ?_) (fun q => ?_)
    · replace h := h.1 q
      iterate 5 refine ws_b rfl ?_
      refine wp_ite (fun q => ?_) (fun q => ?_)
      · replace h := h.1 q
        iterate 8 refine ws_b rfl ?_
        refine wp_cV rfl rfl o_X10_advance v_X10_advance h rfl rfl rfl (Nat.le_of_ble_eq_true rfl) (by decide) ?_
        clear h
        rintro r9 h9 ⟨S2, rfl, rfl, h⟩
        refine ws_b rfl ?_
        exact wp_ri rfl rfl rfl ⟨_, _, rfl, rfl, h⟩
      · replace h := h.2 q
        refine ws_b rfl ?_
        exact wp_ri rfl rfl rfl ⟨_, _, rfl, rfl, h⟩
    · replace h := h.2 q
      refine ws_b rfl ?_
      exact wp_ri rfl rfl rfl ⟨_, _, rfl, rfl, h⟩
  · replace h := h.2 q
    refine ws_b rfl ?_
    exact wp_ri rfl rfl rfl ⟨_, _, rfl, rfl, h⟩
def L_X8_readLaw_27 (G : ab_G) (fr : Bool) (n0 : Nat) (tl : ab_H) (K : Int32 → ms_S → Prop) (S : ms_S)  : Prop := wp G 5 M_X8_readLaw fr n0 (poI lB tl K) 27 [none, none] [] (hLy lB S tl)
set_option maxRecDepth 100000 in
set_option maxHeartbeats 4000000 in
theorem b_X8_readLaw_27 {G : ab_G} {fr : Bool} {n0 : Nat} {tl : ab_H} {K : Int32 → ms_S → Prop} {S : ms_S} 
    (h : K (nI 1) S) :
    L_X8_readLaw_27 G fr n0 tl K S  := by
  unfold L_X8_readLaw_27
  refine ws_b rfl ?_
  exact wp_ri rfl rfl rfl ⟨_, _, rfl, rfl, h⟩
set_option maxRecDepth 100000 in
set_option maxHeartbeats 4000000 in
theorem m_X8_readLaw {G : ab_G} {fr : Bool} {tl : ab_H} {K : Int32 → ms_S → Prop} {S : ms_S} 
    (h : ∀ n0 : Nat, ctU G 3 M_X10_advance fr [.ref 1] lB S tl (fun S1 => (((S1.1 1 5) - (nI 29)) < 0 → (L_X8_readLaw_27 G fr n0 tl K S1 )) ∧ (¬ ((S1.1 1 5) - (nI 29)) < 0 → ((((S1.1 1 5) - (nI 29)) ≤ (nI 2) → (vp_in ((S1.1 1 5) - (nI 29)) 3 ∧ (((S1.1 1 5) - (nI 29)) = nI 0 → (ctI G 1 M_X4_isTold fr [.ref 43] lB S1 tl (fun v2 S2 => (v2 = 0 → (vp_in ((S1.1 1 5) - (nI 29)) 3 ∧ (((S1.1 1 5) - (nI 29)) = nI 0 → (ctI G 1 M_X7_knots fr [.ref 30] lB S2 tl (fun v3 S3 => ctI G 4 M_X5_read fr [.ref 55, .ref 43, .int ((nI 64) - v3)] lB S3 tl (fun v4 S4 => K v4 S4)))) ∧ (((S1.1 1 5) - (nI 29)) = nI 1 → (ctI G 1 M_X7_knots fr [.ref 30] lB S2 tl (fun v5 S5 => ctI G 4 M_X5_read fr [.ref 55, .ref 47, .int ((nI 64) - v5)] lB S5 tl (fun v6 S6 => K v6 S6)))) ∧ (((S1.1 1 5) - (nI 29)) = nI 2 → (ctI G 1 M_X7_knots fr [.ref 30] lB S2 tl (fun v7 S7 => ctI G 4 M_X5_read fr [.ref 55, .ref 51, .int ((nI 64) - v7)] lB S7 tl (fun v8 S8 => K v8 S8)))))) ∧ (¬ v2 = 0 → (K (nI 3) S2))))) ∧ (((S1.1 1 5) - (nI 29)) = nI 1 → (ctI G 1 M_X4_isTold fr [.ref 47] lB S1 tl (fun v9 S9 => (v9 = 0 → (vp_in ((S1.1 1 5) - (nI 29)) 3 ∧ (((S1.1 1 5) - (nI 29)) = nI 0 → (ctI G 1 M_X7_knots fr [.ref 30] lB S9 tl (fun v10 S10 => ctI G 4 M_X5_read fr [.ref 55, .ref 43, .int ((nI 64) - v10)] lB S10 tl (fun v11 S11 => K v11 S11)))) ∧ (((S1.1 1 5) - (nI 29)) = nI 1 → (ctI G 1 M_X7_knots fr [.ref 30] lB S9 tl (fun v12 S12 => ctI G 4 M_X5_read fr [.ref 55, .ref 47, .int ((nI 64) - v12)] lB S12 tl (fun v13 S13 => K v13 S13)))) ∧ (((S1.1 1 5) - (nI 29)) = nI 2 → (ctI G 1 M_X7_knots fr [.ref 30] lB S9 tl (fun v14 S14 => ctI G 4 M_X5_read fr [.ref 55, .ref 51, .int ((nI 64) - v14)] lB S14 tl (fun v15 S15 => K v15 S15)))))) ∧ (¬ v9 = 0 → (K (nI 3) S9))))) ∧ (((S1.1 1 5) - (nI 29)) = nI 2 → (ctI G 1 M_X4_isTold fr [.ref 51] lB S1 tl (fun v16 S16 => (v16 = 0 → (vp_in ((S1.1 1 5) - (nI 29)) 3 ∧ (((S1.1 1 5) - (nI 29)) = nI 0 → (ctI G 1 M_X7_knots fr [.ref 30] lB S16 tl (fun v17 S17 => ctI G 4 M_X5_read fr [.ref 55, .ref 43, .int ((nI 64) - v17)] lB S17 tl (fun v18 S18 => K v18 S18)))) ∧ (((S1.1 1 5) - (nI 29)) = nI 1 → (ctI G 1 M_X7_knots fr [.ref 30] lB S16 tl (fun v19 S19 => ctI G 4 M_X5_read fr [.ref 55, .ref 47, .int ((nI 64) - v19)] lB S19 tl (fun v20 S20 => K v20 S20)))) ∧ (((S1.1 1 5) - (nI 29)) = nI 2 → (ctI G 1 M_X7_knots fr [.ref 30] lB S16 tl (fun v21 S21 => ctI G 4 M_X5_read fr [.ref 55, .ref 51, .int ((nI 64) - v21)] lB S21 tl (fun v22 S22 => K v22 S22)))))) ∧ (¬ v16 = 0 → (K (nI 3) S16))))))) ∧ (¬ ((S1.1 1 5) - (nI 29)) ≤ (nI 2) → (L_X8_readLaw_27 G fr n0 tl K S1 )))))) :
    ctI G 5 M_X8_readLaw fr [.ref 29] lB S tl K := by
  refine wp_ct o_X8_readLaw (Nat.le_of_ble_eq_true rfl) ?_
  replace h := h (hLy lB S tl).length
  revert h
  generalize (hLy lB S tl).length = n0
  intro h
  iterate 2 refine ws_b rfl ?_
  refine wp_cV rfl rfl o_X10_advance v_X10_advance h rfl rfl rfl (Nat.le_of_ble_eq_true rfl) (by decide) ?_
  clear h
  rintro r9 h9 ⟨S1, rfl, rfl, h⟩
  iterate 8 refine ws_b rfl ?_
  refine wp_ite (fun q => ?_) (fun q => ?_)
  · replace h := h.1 q
    exact wp_weak (wk_n (wk_n wk_0)) h
  · replace h := h.2 q
    iterate 3 refine ws_b rfl ?_
    refine wp_ite (fun q => ?_) (fun q => ?_)
    · replace h := h.1 q
      iterate 4 refine ws_b rfl ?_
      by_cases q0 : ((S1.1 1 5) - (nI 29)) = nI 0
      · refine ws_aal rfl rfl (Or.inl rfl) h.1 (by rw [q0]; rfl) ?_
        replace h := h.2.1 q0
        refine wp_cV rfl rfl o_X4_isTold v_X4_isTold h rfl rfl rfl (Nat.le_of_ble_eq_true rfl) (by decide) ?_
        clear h
        rintro r9 h9 ⟨v2, S2, rfl, rfl, h⟩
        refine ws_b rfl ?_
        refine wp_ite (fun q => ?_) (fun q => ?_)
        · replace h := h.1 q
          iterate 6 refine ws_b rfl ?_
          by_cases q0 : ((S1.1 1 5) - (nI 29)) = nI 0
          · refine ws_aal rfl rfl (Or.inl rfl) h.1 (by rw [q0]; rfl) ?_
            replace h := h.2.1 q0
            iterate 3 refine ws_b rfl ?_
            refine wp_cV rfl rfl o_X7_knots v_X7_knots h rfl rfl rfl (Nat.le_of_ble_eq_true rfl) (by decide) ?_
            clear h
            rintro r9 h9 ⟨v3, S3, rfl, rfl, h⟩
            refine ws_b rfl ?_
            refine wp_cV rfl rfl o_X5_read v_X5_read h rfl rfl rfl (Nat.le_of_ble_eq_true rfl) (by decide) ?_
            clear h
            rintro r9 h9 ⟨v4, S4, rfl, rfl, h⟩
            exact wp_ri rfl rfl rfl ⟨_, _, rfl, rfl, h⟩
          by_cases q1 : ((S1.1 1 5) - (nI 29)) = nI 1
          · refine ws_aal rfl rfl (Or.inl rfl) h.1 (by rw [q1]; rfl) ?_
            replace h := h.2.2.1 q1
            iterate 3 refine ws_b rfl ?_
            refine wp_cV rfl rfl o_X7_knots v_X7_knots h rfl rfl rfl (Nat.le_of_ble_eq_true rfl) (by decide) ?_
            clear h
            rintro r9 h9 ⟨v5, S5, rfl, rfl, h⟩
            refine ws_b rfl ?_
            refine wp_cV rfl rfl o_X5_read v_X5_read h rfl rfl rfl (Nat.le_of_ble_eq_true rfl) (by decide) ?_
            clear h
            rintro r9 h9 ⟨v6, S6, rfl, rfl, h⟩
            exact wp_ri rfl rfl rfl ⟨_, _, rfl, rfl, h⟩
          by_cases q2 : ((S1.1 1 5) - (nI 29)) = nI 2
          · refine ws_aal rfl rfl (Or.inl rfl) h.1 (by rw [q2]; rfl) ?_
            replace h := h.2.2.2 q2
            iterate 3 refine ws_b rfl ?_
            refine wp_cV rfl rfl o_X7_knots v_X7_knots h rfl rfl rfl (Nat.le_of_ble_eq_true rfl) (by decide) ?_
            clear h
            rintro r9 h9 ⟨v7, S7, rfl, rfl, h⟩
            refine ws_b rfl ?_
            refine wp_cV rfl rfl o_X5_read v_X5_read h rfl rfl rfl (Nat.le_of_ble_eq_true rfl) (by decide) ?_
            clear h
            rintro r9 h9 ⟨v8, S8, rfl, rfl, h⟩
            exact wp_ri rfl rfl rfl ⟨_, _, rfl, rfl, h⟩
          exact (vp_sp3 h.1 q0 q1 q2).elim
        · replace h := h.2 q
          refine ws_b rfl ?_
          exact wp_ri rfl rfl rfl ⟨_, _, rfl, rfl, h⟩
      by_cases q1 : ((S1.1 1 5) - (nI 29)) = nI 1
      · refine ws_aal rfl rfl (Or.inl rfl) h.1 (by rw [q1]; rfl) ?_
        replace h := h.2.2.1 q1
        refine wp_cV rfl rfl o_X4_isTold v_X4_isTold h rfl rfl rfl (Nat.le_of_ble_eq_true rfl) (by decide) ?_
        clear h
        rintro r9 h9 ⟨v9, S9, rfl, rfl, h⟩
        refine ws_b rfl ?_
        refine wp_ite (fun q => ?_) (fun q => ?_)
        · replace h := h.1 q
          iterate 6 refine ws_b rfl ?_
          by_cases q0 : ((S1.1 1 5) - (nI 29)) = nI 0
          · refine ws_aal rfl rfl (Or.inl rfl) h.1 (by rw [q0]; rfl) ?_
            replace h := h.2.1 q0
            iterate 3 refine ws_b rfl ?_
            refine wp_cV rfl rfl o_X7_knots v_X7_knots h rfl rfl rfl (Nat.le_of_ble_eq_true rfl) (by decide) ?_
            clear h
            rintro r9 h9 ⟨v10, S10, rfl, rfl, h⟩
            refine ws_b rfl ?_
            refine wp_cV rfl rfl o_X5_read v_X5_read h rfl rfl rfl (Nat.le_of_ble_eq_true rfl) (by decide) ?_
            clear h
            rintro r9 h9 ⟨v11, S11, rfl, rfl, h⟩
            exact wp_ri rfl rfl rfl ⟨_, _, rfl, rfl, h⟩
          by_cases q1 : ((S1.1 1 5) - (nI 29)) = nI 1
          · refine ws_aal rfl rfl (Or.inl rfl) h.1 (by rw [q1]; rfl) ?_
            replace h := h.2.2.1 q1
            iterate 3 refine ws_b rfl ?_
            refine wp_cV rfl rfl o_X7_knots v_X7_knots h rfl rfl rfl (Nat.le_of_ble_eq_true rfl) (by decide) ?_
            clear h
            rintro r9 h9 ⟨v12, S12, rfl, rfl, h⟩
            refine ws_b rfl ?_
            refine wp_cV rfl rfl o_X5_read v_X5_read h rfl rfl rfl (Nat.le_of_ble_eq_true rfl) (by decide) ?_
            clear h
            rintro r9 h9 ⟨v13, S13, rfl, rfl, h⟩
            exact wp_ri rfl rfl rfl ⟨_, _, rfl, rfl, h⟩
          by_cases q2 : ((S1.1 1 5) - (nI 29)) = nI 2
          · refine ws_aal rfl rfl (Or.inl rfl) h.1 (by rw [q2]; rfl) ?_
            replace h := h.2.2.2 q2
            iterate 3 refine ws_b rfl ?_
            refine wp_cV rfl rfl o_X7_knots v_X7_knots h rfl rfl rfl (Nat.le_of_ble_eq_true rfl) (by decide) ?_
            clear h
            rintro r9 h9 ⟨v14, S14, rfl, rfl, h⟩
            refine ws_b rfl ?_
            refine wp_cV rfl rfl o_X5_read v_X5_read h rfl rfl rfl (Nat.le_of_ble_eq_true rfl) (by decide) ?_
            clear h
            rintro r9 h9 ⟨v15, S15, rfl, rfl, h⟩
            exact wp_ri rfl rfl rfl ⟨_, _, rfl, rfl, h⟩
          exact (vp_sp3 h.1 q0 q1 q2).elim
        · replace h := h.2 q
          refine ws_b rfl ?_
          exact wp_ri rfl rfl rfl ⟨_, _, rfl, rfl, h⟩
      by_cases q2 : ((S1.1 1 5) - (nI 29)) = nI 2
      · refine ws_aal rfl rfl (Or.inl rfl) h.1 (by rw [q2]; rfl) ?_
        replace h := h.2.2.2 q2
        refine wp_cV rfl rfl o_X4_isTold v_X4_isTold h rfl rfl rfl (Nat.le_of_ble_eq_true rfl) (by decide) ?_
        clear h
        rintro r9 h9 ⟨v16, S16, rfl, rfl, h⟩
        refine ws_b rfl ?_
        refine wp_ite (fun q => ?_) (fun q => ?_)
        · replace h := h.1 q
          iterate 6 refine ws_b rfl ?_
          by_cases q0 : ((S1.1 1 5) - (nI 29)) = nI 0
          · refine ws_aal rfl rfl (Or.inl rfl) h.1 (by rw [q0]; rfl) ?_
            replace h := h.2.1 q0
            iterate 3 refine ws_b rfl ?_
            refine wp_cV rfl rfl o_X7_knots v_X7_knots h rfl rfl rfl (Nat.le_of_ble_eq_true rfl) (by decide) ?_
            clear h
            rintro r9 h9 ⟨v17, S17, rfl, rfl, h⟩
            refine ws_b rfl ?_
            refine wp_cV rfl rfl o_X5_read v_X5_read h rfl rfl rfl (Nat.le_of_ble_eq_true rfl) (by decide) ?_
            clear h
            rintro r9 h9 ⟨v18, S18, rfl, rfl, h⟩
            exact wp_ri rfl rfl rfl ⟨_, _, rfl, rfl, h⟩
          by_cases q1 : ((S1.1 1 5) - (nI 29)) = nI 1
          · refine ws_aal rfl rfl (Or.inl rfl) h.1 (by rw [q1]; rfl) ?_
            replace h := h.2.2.1 q1
            iterate 3 refine ws_b rfl ?_
            refine wp_cV rfl rfl o_X7_knots v_X7_knots h rfl rfl rfl (Nat.le_of_ble_eq_true rfl) (by decide) ?_
            clear h
            rintro r9 h9 ⟨v19, S19, rfl, rfl, h⟩
            refine ws_b rfl ?_
            refine wp_cV rfl rfl o_X5_read v_X5_read h rfl rfl rfl (Nat.le_of_ble_eq_true rfl) (by decide) ?_
            clear h
            rintro r9 h9 ⟨v20, S20, rfl, rfl, h⟩
            exact wp_ri rfl rfl rfl ⟨_, _, rfl, rfl, h⟩
          by_cases q2 : ((S1.1 1 5) - (nI 29)) = nI 2
          · refine ws_aal rfl rfl (Or.inl rfl) h.1 (by rw [q2]; rfl) ?_
            replace h := h.2.2.2 q2
            iterate 3 refine ws_b rfl ?_
            refine wp_cV rfl rfl o_X7_knots v_X7_knots h rfl rfl rfl (Nat.le_of_ble_eq_true rfl) (by decide) ?_
            clear h
            rintro r9 h9 ⟨v21, S21, rfl, rfl, h⟩
            refine ws_b rfl ?_
            refine wp_cV rfl rfl o_X5_read v_X5_read h rfl rfl rfl (Nat.le_of_ble_eq_true rfl) (by decide) ?_
            clear h
            rintro r9 h9 ⟨v22, S22, rfl, rfl, h⟩
            exact wp_ri rfl rfl rfl ⟨_, _, rfl, rfl, h⟩
          exact (vp_sp3 h.1 q0 q1 q2).elim
        · replace h := h.2 q
          refine ws_b rfl ?_
          exact wp_ri rfl rfl rfl ⟨_, _, rfl, rfl, h⟩
      exact (vp_sp3 h.1 q0 q1 q2).elim
    · replace h := h.2 q
      exact wp_weak (wk_n (wk_n wk_0)) h
set_option maxRecDepth 100000 in
set_option maxHeartbeats 4000000 in
theorem m_X8_readLine {G : ab_G} {fr : Bool} {tl : ab_H} {K : Int32 → ms_S → Prop} {S : ms_S} 
    (h : ∀ n0 : Nat, ((S.1 1 5) = nI 21 → (ctI G 5 M_X8_readPiece fr [.ref 29] lB S tl (fun v1 S1 => K v1 S1))) ∧ ((S.1 1 5) = nI 22 → (ctI G 5 M_X8_readHeir fr [.ref 29] lB S tl (fun v2 S2 => K v2 S2))) ∧ ((S.1 1 5) = nI 23 → (ctI G 5 M_X8_readShare fr [.ref 29] lB S tl (fun v3 S3 => K v3 S3))) ∧ ((S.1 1 5) = nI 24 → (ctI G 5 M_X8_readTrade fr [.ref 29] lB S tl (fun v4 S4 => K v4 S4))) ∧ ((S.1 1 5) = nI 25 → (ctI G 5 M_X8_readDraw fr [.ref 29] lB S tl (fun v5 S5 => K v5 S5))) ∧ ((S.1 1 5) = nI 26 → (ctI G 4 M_X8_readNeed fr [.ref 29] lB S tl (fun v6 S6 => K v6 S6))) ∧ ((S.1 1 5) = nI 27 → (ctI G 4 M_X8_readSeed fr [.ref 29] lB S tl (fun v7 S7 => K v7 S7))) ∧ ((S.1 1 5) = nI 28 → (ctI G 5 M_X8_readLaw fr [.ref 29] lB S tl (fun v8 S8 => K v8 S8))) ∧ (¬ (S.1 1 5) = nI 21 → ¬ (S.1 1 5) = nI 22 → ¬ (S.1 1 5) = nI 23 → ¬ (S.1 1 5) = nI 24 → ¬ (S.1 1 5) = nI 25 → ¬ (S.1 1 5) = nI 26 → ¬ (S.1 1 5) = nI 27 → ¬ (S.1 1 5) = nI 28 → (K (nI 1) S))) :
    ctI G 6 M_X8_readLine fr [.ref 29] lB S tl K := by
  refine wp_ct o_X8_readLine (Nat.le_of_ble_eq_true rfl) ?_
  replace h := h (hLy lB S tl).length
  revert h
  generalize (hLy lB S tl).length = n0
  intro h
  iterate 3 refine ws_b rfl ?_
  by_cases q21 : (S.1 1 5) = nI 21
  · refine wp_tswN (nI 21) 52 (45) rfl q21 rfl rfl rfl rfl ?_
    replace h := h.1 q21
    refine ws_b rfl ?_
    refine wp_cV rfl rfl o_X8_readPiece v_X8_readPiece h rfl rfl rfl (Nat.le_of_ble_eq_true rfl) (by decide) ?_
    clear h
    rintro r9 h9 ⟨v1, S1, rfl, rfl, h⟩
    exact wp_ri rfl rfl rfl ⟨_, _, rfl, rfl, h⟩
  replace h := h.2
  by_cases q22 : (S.1 1 5) = nI 22
  · refine wp_tswN (nI 22) 57 (50) rfl q22 rfl rfl rfl rfl ?_
    replace h := h.1 q22
    refine ws_b rfl ?_
    refine wp_cV rfl rfl o_X8_readHeir v_X8_readHeir h rfl rfl rfl (Nat.le_of_ble_eq_true rfl) (by decide) ?_
    clear h
    rintro r9 h9 ⟨v2, S2, rfl, rfl, h⟩
    exact wp_ri rfl rfl rfl ⟨_, _, rfl, rfl, h⟩
  replace h := h.2
  by_cases q23 : (S.1 1 5) = nI 23
  · refine wp_tswN (nI 23) 62 (55) rfl q23 rfl rfl rfl rfl ?_
    replace h := h.1 q23
    refine ws_b rfl ?_
    refine wp_cV rfl rfl o_X8_readShare v_X8_readShare h rfl rfl rfl (Nat.le_of_ble_eq_true rfl) (by decide) ?_
    clear h
    rintro r9 h9 ⟨v3, S3, rfl, rfl, h⟩
    exact wp_ri rfl rfl rfl ⟨_, _, rfl, rfl, h⟩
  replace h := h.2
  by_cases q24 : (S.1 1 5) = nI 24
  · refine wp_tswN (nI 24) 67 (60) rfl q24 rfl rfl rfl rfl ?_
    replace h := h.1 q24
    refine ws_b rfl ?_
    refine wp_cV rfl rfl o_X8_readTrade v_X8_readTrade h rfl rfl rfl (Nat.le_of_ble_eq_true rfl) (by decide) ?_
    clear h
    rintro r9 h9 ⟨v4, S4, rfl, rfl, h⟩
    exact wp_ri rfl rfl rfl ⟨_, _, rfl, rfl, h⟩
  replace h := h.2
  by_cases q25 : (S.1 1 5) = nI 25
  · refine wp_tswN (nI 25) 72 (65) rfl q25 rfl rfl rfl rfl ?_
    replace h := h.1 q25
    refine ws_b rfl ?_
    refine wp_cV rfl rfl o_X8_readDraw v_X8_readDraw h rfl rfl rfl (Nat.le_of_ble_eq_true rfl) (by decide) ?_
    clear h
    rintro r9 h9 ⟨v5, S5, rfl, rfl, h⟩
    exact wp_ri rfl rfl rfl ⟨_, _, rfl, rfl, h⟩
  replace h := h.2
  by_cases q26 : (S.1 1 5) = nI 26
  · refine wp_tswN (nI 26) 77 (70) rfl q26 rfl rfl rfl rfl ?_
    replace h := h.1 q26
    refine ws_b rfl ?_
    refine wp_cV rfl rfl o_X8_readNeed v_X8_readNeed h rfl rfl rfl (Nat.le_of_ble_eq_true rfl) (by decide) ?_
    clear h
    rintro r9 h9 ⟨v6, S6, rfl, rfl, h⟩
    exact wp_ri rfl rfl rfl ⟨_, _, rfl, rfl, h⟩
  replace h := h.2
  by_cases q27 : (S.1 1 5) = nI 27
  · refine wp_tswN (nI 27) 82 (75) rfl q27 rfl rfl rfl rfl ?_
    replace h := h.1 q27
    refine ws_b rfl ?_
    refine wp_cV rfl rfl o_X8_readSeed v_X8_readSeed h rfl rfl rfl (Nat.le_of_ble_eq_true rfl) (by decide) ?_
    clear h
    rintro r9 h9 ⟨v7, S7, rfl, rfl, h⟩
    exact wp_ri rfl rfl rfl ⟨_, _, rfl, rfl, h⟩
  replace h := h.2
  by_cases q28 : (S.1 1 5) = nI 28
  · refine wp_tswN (nI 28) 87 (80) rfl q28 rfl rfl rfl rfl ?_
    replace h := h.1 q28
    refine ws_b rfl ?_
    refine wp_cV rfl rfl o_X8_readLaw v_X8_readLaw h rfl rfl rfl (Nat.le_of_ble_eq_true rfl) (by decide) ?_
    clear h
    rintro r9 h9 ⟨v8, S8, rfl, rfl, h⟩
    exact wp_ri rfl rfl rfl ⟨_, _, rfl, rfl, h⟩
  replace h := h.2
  refine wp_tswD 92 [nI 21, nI 22, nI 23, nI 24, nI 25, nI 26, nI 27, nI 28] rfl (by decide) (by intro k9 hk9; rcases List.mem_cons.mp hk9 with rfl | hk9; exact q21; rcases List.mem_cons.mp hk9 with rfl | hk9; exact q22; rcases List.mem_cons.mp hk9 with rfl | hk9; exact q23; rcases List.mem_cons.mp hk9 with rfl | hk9; exact q24; rcases List.mem_cons.mp hk9 with rfl | hk9; exact q25; rcases List.mem_cons.mp hk9 with rfl | hk9; exact q26; rcases List.mem_cons.mp hk9 with rfl | hk9; exact q27; rcases List.mem_cons.mp hk9 with rfl | hk9; exact q28; exact nomatch hk9) rfl ?_
  replace h := h q21 q22 q23 q24 q25 q26 q27 q28
  refine ws_b rfl ?_
  exact wp_ri rfl rfl rfl ⟨_, _, rfl, rfl, h⟩
def L_X8_read_27 (G : ab_G) (fr : Bool) (n0 : Nat) (tl : ab_H) (K : Int32 → ms_S → Prop) (S : ms_S)  : Prop := wp G 7 M_X8_read fr n0 (poI lB tl K) 27 [some (.ref 29), none, none] [] (hLy lB S tl)
def L_X8_read_94 (G : ab_G) (fr : Bool) (n0 : Nat) (tl : ab_H) (K : Int32 → ms_S → Prop) (S : ms_S)  : Prop := wp G 7 M_X8_read fr n0 (poI lB tl K) 94 [none, none, none] [] (hLy lB S tl)
set_option maxRecDepth 100000 in
set_option maxHeartbeats 4000000 in
theorem b_X8_read_27 {G : ab_G} {fr : Bool} {n0 : Nat} {tl : ab_H} {K : Int32 → ms_S → Prop} {S : ms_S} 
    (h : ((nI 700) ≤ (S.1 29 3) → (L_X8_read_94 G fr n0 tl K S )) ∧ (¬ (nI 700) ≤ (S.1 29 3) → (((S.1 1 5) = (nI 37) → (L_X8_read_94 G fr n0 tl K S )) ∧ (¬ (S.1 1 5) = (nI 37) → (ctI G 6 M_X8_readLine fr [.ref 29] lB S tl (fun v1 S1 => (v1 = 0 → (((S1.1 1 5) = (nI 34) → (ctU G 3 M_X10_advance fr [.ref 1] lB (sVa S1 29 3 ((S1.1 29 3) + (nI 1))) tl (fun S2 => L_X8_read_27 G fr n0 tl K S2 ))) ∧ (¬ (S1.1 1 5) = (nI 34) → (K (nI 1) S1)))) ∧ (¬ v1 = 0 → (K v1 S1)))))))) :
    L_X8_read_27 G fr n0 tl K S  := by
  unfold L_X8_read_27
  iterate 4 refine ws_b rfl ?_
  refine wp_ite (fun q => ?_) (fun q => ?_)
  · replace h := h.1 q
    exact wp_weak (wk_n (wk_s (wk_s wk_0))) h
  · replace h := h.2 q
    iterate 5 refine ws_b rfl ?_
    refine wp_ite (fun q => ?_) (fun q => ?_)
    · replace h := h.1 q
      exact wp_weak (wk_n (wk_s (wk_s wk_0))) h
    · replace h := h.2 q
      refine ws_b rfl ?_
      refine wp_cV rfl rfl o_X8_readLine v_X8_readLine h rfl rfl rfl (Nat.le_of_ble_eq_true rfl) (by decide) ?_
      clear h
      rintro r9 h9 ⟨v1, S1, rfl, rfl, h⟩
      iterate 3 refine ws_b rfl ?_
      refine wp_ite (fun q => ?_) (fun q => ?_)
      · replace h := h.1 q
        iterate 5 refine ws_b rfl ?_
        refine wp_ite (fun q => ?_) (fun q => ?_)
        · replace h := h.1 q
          iterate 8 refine ws_b rfl ?_
          refine wp_cV rfl rfl o_X10_advance v_X10_advance h rfl rfl rfl (Nat.le_of_ble_eq_true rfl) (by decide) ?_
          clear h
          rintro r9 h9 ⟨S2, rfl, rfl, h⟩
          refine ws_b rfl ?_
          exact wp_weak (wk_s (wk_s (wk_n wk_0))) h
        · replace h := h.2 q
          refine ws_b rfl ?_
          exact wp_ri rfl rfl rfl ⟨_, _, rfl, rfl, h⟩
      · replace h := h.2 q
        refine ws_b rfl ?_
        exact wp_ri rfl rfl rfl ⟨_, _, rfl, rfl, h⟩
set_option maxRecDepth 100000 in
set_option maxHeartbeats 4000000 in
theorem b_X8_read_94 {G : ab_G} {fr : Bool} {n0 : Nat} {tl : ab_H} {K : Int32 → ms_S → Prop} {S : ms_S} 
    (h : K (nI 0) S) :
    L_X8_read_94 G fr n0 tl K S  := by
  unfold L_X8_read_94
  refine ws_b rfl ?_
  exact wp_ri rfl rfl rfl ⟨_, _, rfl, rfl, h⟩
set_option maxRecDepth 100000 in
set_option maxHeartbeats 4000000 in
theorem m_X8_read {G : ab_G} {fr : Bool} {tl : ab_H} {K : Int32 → ms_S → Prop} {S : ms_S} {i1 : Int32}
    (h : ∀ n0 : Nat, ctU G 2 M_X7_clear fr [.ref 30] lB S tl (fun S1 => ctU G 2 M_X10_rewind fr [.ref 1, .int i1] lB (sVa S1 29 3 (nI 0)) tl (fun S2 => ctU G 3 M_X10_advance fr [.ref 1] lB S2 tl (fun S3 => L_X8_read_27 G fr n0 tl K S3 )))) :
    ctI G 7 M_X8_read fr [.ref 29, .int i1] lB S tl K := by
  refine wp_ct o_X8_read (Nat.le_of_ble_eq_true rfl) ?_
  replace h := h (hLy lB S tl).length
  revert h
  generalize (hLy lB S tl).length = n0
  intro h
  iterate 2 refine ws_b rfl ?_
  refine wp_cV rfl rfl o_X7_clear v_X7_clear h rfl rfl rfl (Nat.le_of_ble_eq_true rfl) (by decide) ?_
  clear h
  rintro r9 h9 ⟨S1, rfl, rfl, h⟩
  iterate 6 refine ws_b rfl ?_
  refine wp_cV rfl rfl o_X10_rewind v_X10_rewind h rfl rfl rfl (Nat.le_of_ble_eq_true rfl) (by decide) ?_
  clear h
  rintro r9 h9 ⟨S2, rfl, rfl, h⟩
  iterate 2 refine ws_b rfl ?_
  refine wp_cV rfl rfl o_X10_advance v_X10_advance h rfl rfl rfl (Nat.le_of_ble_eq_true rfl) (by decide) ?_
  clear h
  rintro r9 h9 ⟨S3, rfl, rfl, h⟩
  exact wp_weak (wk_s (wk_n (wk_s wk_0))) h

