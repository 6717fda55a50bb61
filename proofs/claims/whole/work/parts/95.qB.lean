/-! ===== the program: judge and table, walks ===== -/
set_option maxRecDepth 100000 in
set_option maxHeartbeats 4000000 in
theorem m_X3_forget {G : ab_G} {fr : Bool} {tl : ab_H} {K : ms_S → Prop} {S : ms_S} 
    (h : ∀ n0 : Nat, ctU G 1 M_J7_fill fr [.ref 33, .int (-(nI 1))] lC S tl (fun S1 => K S1)) :
    ctU G 2 M_X3_forget fr [.ref 31] lC S tl K := by
  refine wp_ct o_X3_forget (Nat.le_of_ble_eq_true rfl) ?_
  replace h := h (hLy lC S tl).length
  revert h
  generalize (hLy lC S tl).length = n0
  intro h
  iterate 3 refine ws_b rfl ?_
  refine wp_cS rfl rfl o_J7_fill s_J7_fill h rfl rfl (Nat.le_of_ble_eq_true rfl) (by decide) ?_
  clear h
  rintro r9 h9 ⟨S1, rfl, rfl, h⟩
  exact wp_rv rfl rfl ⟨_, rfl, rfl, h⟩
set_option maxRecDepth 100000 in
set_option maxHeartbeats 4000000 in
theorem m_X3_joinValue {G : ab_G} {fr : Bool} {tl : ab_H} {K : Int64 → ms_S → Prop} {S : ms_S} {i1 : Int32} {i2 : Int32} {i3 : Int32}
    (h : ∀ n0 : Nat, ctU G 1 M_X4_scene fr [.ref 13, .int (nI 0), .int (nI 0), .int i1] lC S tl (fun S1 => ctL G 3 M_X4_work fr [.ref 13, .int i2, .int i3, .int (nI 0), .int (if 0 ≤ (i2 - i3) then (i2 - i3) else 0 - (i2 - i3))] lC S1 tl (fun v2 S2 => K v2 S2))) :
    ctL G 4 M_X3_joinValue fr [.ref 31, .int i1, .int i2, .int i3] lC S tl K := by
  refine wp_ct o_X3_joinValue (Nat.le_of_ble_eq_true rfl) ?_
  replace h := h (hLy lC S tl).length
  revert h
  generalize (hLy lC S tl).length = n0
  intro h
  iterate 4 refine ws_b rfl ?_
  refine ws_aal rfl rfl (Or.inl rfl) ((x_vp (by decide)).mpr (by decide)) rfl ?_
  iterate 5 refine ws_b rfl ?_
  refine wp_cV rfl rfl o_X4_scene v_X4_scene h rfl rfl rfl (Nat.le_of_ble_eq_true rfl) (by decide) ?_
  clear h
  rintro r9 h9 ⟨S1, rfl, rfl, h⟩
  iterate 7 refine ws_b rfl ?_
  refine wp_abs rfl rfl (Nat.le_of_ble_eq_true rfl) (by decide) ?_
  refine wp_cV rfl rfl o_X4_work v_X4_work h rfl rfl rfl (Nat.le_of_ble_eq_true rfl) (by decide) ?_
  clear h
  rintro r9 h9 ⟨v2, S2, rfl, rfl, h⟩
  exact wp_rl rfl rfl ⟨_, _, rfl, rfl, h⟩
set_option maxRecDepth 100000 in
set_option maxHeartbeats 4000000 in
theorem m_X3_mayValue {G : ab_G} {fr : Bool} {tl : ab_H} {K : Int64 → ms_S → Prop} {S : ms_S} {i2 : Int32} {i3 : Int32}
    (h : ∀ n0 : Nat, vp_in i3 5 ∧ (ctI G 1 M_J6_bitCount fr [.int (S.2.2.2.1 47 i3.toNatClampNeg)] lC S tl (fun v1 S1 => vp_in i3 5 ∧ (ctU G 1 M_X4_scene fr [.ref 17, .int v1, .int (S1.2.2.2.1 48 i3.toNatClampNeg), .int (S1.1 46 3)] lC S1 tl (fun S2 => vp_in i2 9 ∧ (vp_in i2 9 ∧ (vp_in i2 9 ∧ (ctI G 2 M_X7_apart fr [.ref 0, .int i2] lC S2 tl (fun v3 S3 => ctL G 3 M_X4_work fr [.ref 17, .int (S2.2.2.2.1 2 i2.toNatClampNeg), .int (S2.2.2.2.1 3 i2.toNatClampNeg), .int (S2.2.2.2.1 4 i2.toNatClampNeg), .int v3] lC S3 tl (fun v4 S4 => K v4 S4)))))))))) :
    ctL G 4 M_X3_mayValue fr [.ref 31, .ref 46, .int i2, .int i3] lC S tl K := by
  refine wp_ct o_X3_mayValue (Nat.le_of_ble_eq_true rfl) ?_
  replace h := h (hLy lC S tl).length
  revert h
  generalize (hLy lC S tl).length = n0
  intro h
  iterate 4 refine ws_b rfl ?_
  refine ws_aal rfl rfl (Or.inl rfl) ((x_vp (by decide)).mpr (by decide)) rfl ?_
  iterate 5 refine ws_b rfl ?_
  refine ws_g rfl h.1 ?_
  replace h := h.2
  refine wp_cS rfl rfl o_J6_bitCount s_J6_bitCount h rfl rfl (Nat.le_of_ble_eq_true rfl) (by decide) ?_
  clear h
  rintro r9 h9 ⟨v1, S1, rfl, rfl, h⟩
  iterate 3 refine ws_b rfl ?_
  refine ws_g rfl h.1 ?_
  replace h := h.2
  iterate 2 refine ws_b rfl ?_
  refine wp_cV rfl rfl o_X4_scene v_X4_scene h rfl rfl rfl (Nat.le_of_ble_eq_true rfl) (by decide) ?_
  clear h
  rintro r9 h9 ⟨S2, rfl, rfl, h⟩
  iterate 5 refine ws_b rfl ?_
  refine ws_g rfl h.1 ?_
  replace h := h.2
  iterate 4 refine ws_b rfl ?_
  refine ws_g rfl h.1 ?_
  replace h := h.2
  iterate 4 refine ws_b rfl ?_
  refine ws_g rfl h.1 ?_
  replace h := h.2
  iterate 3 refine ws_b rfl ?_
  refine wp_cV rfl rfl o_X7_apart v_X7_apart h rfl rfl rfl (Nat.le_of_ble_eq_true rfl) (by decide) ?_
  clear h
  rintro r9 h9 ⟨v3, S3, rfl, rfl, h⟩
  refine wp_cV rfl rfl o_X4_work v_X4_work h rfl rfl rfl (Nat.le_of_ble_eq_true rfl) (by decide) ?_
  clear h
  rintro r9 h9 ⟨v4, S4, rfl, rfl, h⟩
  exact wp_rl rfl rfl ⟨_, _, rfl, rfl, h⟩
set_option maxRecDepth 100000 in
set_option maxHeartbeats 4000000 in
theorem m_X3_goldValue {G : ab_G} {fr : Bool} {tl : ab_H} {K : Int64 → ms_S → Prop} {S : ms_S} {i2 : Int32} {i3 : Int32}
    (h : ∀ n0 : Nat, vp_in i3 5 ∧ (ctI G 1 M_J6_bitCount fr [.int (S.2.2.2.1 47 i3.toNatClampNeg)] lC S tl (fun v1 S1 => vp_in i3 5 ∧ (ctU G 1 M_X4_scene fr [.ref 21, .int v1, .int (S1.2.2.2.1 48 i3.toNatClampNeg), .int (S1.1 46 3)] lC S1 tl (fun S2 => vp_in i2 9 ∧ (vp_in i2 9 ∧ (vp_in i2 9 ∧ (ctI G 1 M_X7_doublesOf fr [.ref 0, .int ((nI 1) <<< (i2 &&& 31))] lC S2 tl (fun v3 S3 => ctL G 3 M_X4_work fr [.ref 21, .int (S2.2.2.2.1 2 i2.toNatClampNeg), .int (S2.2.2.2.1 3 i2.toNatClampNeg), .int (S2.2.2.2.1 4 i2.toNatClampNeg), .int v3] lC S3 tl (fun v4 S4 => K v4 S4)))))))))) :
    ctL G 4 M_X3_goldValue fr [.ref 31, .ref 46, .int i2, .int i3] lC S tl K := by
  refine wp_ct o_X3_goldValue (Nat.le_of_ble_eq_true rfl) ?_
  replace h := h (hLy lC S tl).length
  revert h
  generalize (hLy lC S tl).length = n0
  intro h
  iterate 4 refine ws_b rfl ?_
  refine ws_aal rfl rfl (Or.inl rfl) ((x_vp (by decide)).mpr (by decide)) rfl ?_
  iterate 5 refine ws_b rfl ?_
  refine ws_g rfl h.1 ?_
  replace h := h.2
  refine wp_cS rfl rfl o_J6_bitCount s_J6_bitCount h rfl rfl (Nat.le_of_ble_eq_true rfl) (by decide) ?_
  clear h
  rintro r9 h9 ⟨v1, S1, rfl, rfl, h⟩
  iterate 3 refine ws_b rfl ?_
  refine ws_g rfl h.1 ?_
  replace h := h.2
  iterate 2 refine ws_b rfl ?_
  refine wp_cV rfl rfl o_X4_scene v_X4_scene h rfl rfl rfl (Nat.le_of_ble_eq_true rfl) (by decide) ?_
  clear h
  rintro r9 h9 ⟨S2, rfl, rfl, h⟩
  iterate 5 refine ws_b rfl ?_
  refine ws_g rfl h.1 ?_
  replace h := h.2
  iterate 4 refine ws_b rfl ?_
  refine ws_g rfl h.1 ?_
  replace h := h.2
  iterate 4 refine ws_b rfl ?_
  refine ws_g rfl h.1 ?_
  replace h := h.2
  iterate 5 refine ws_b rfl ?_
  refine wp_cV rfl rfl o_X7_doublesOf v_X7_doublesOf h rfl rfl rfl (Nat.le_of_ble_eq_true rfl) (by decide) ?_
  clear h
  rintro r9 h9 ⟨v3, S3, rfl, rfl, h⟩
  refine wp_cV rfl rfl o_X4_work v_X4_work h rfl rfl rfl (Nat.le_of_ble_eq_true rfl) (by decide) ?_
  clear h
  rintro r9 h9 ⟨v4, S4, rfl, rfl, h⟩
  exact wp_rl rfl rfl ⟨_, _, rfl, rfl, h⟩
def L_X3_joinsOn_44 (G : ab_G) (fr : Bool) (n0 : Nat) (tl : ab_H) (K : Int64 → ms_S → Prop) (S : ms_S) (i1 : Int32) (t0 : Int32) : Prop := wp G 4 M_X3_joinsOn fr n0 (poL lC tl K) 44 [some (.ref 31), some (.int i1), some (.ref 13), none, none, none, none, none, none, none, none] [.int t0] (hLy lC S tl)
def L_X3_joinsOn_83 (G : ab_G) (fr : Bool) (n0 : Nat) (tl : ab_H) (K : Int64 → ms_S → Prop) (S : ms_S) (i3 : Int32) (i4 : Int32) (l5 : Int64) (i7 : Int32) : Prop := wp G 4 M_X3_joinsOn fr n0 (poL lC tl K) 83 [some (.ref 31), none, some (.ref 13), some (.int i3), some (.int i4), some (.long l5), none, some (.int i7), none, none, none] [] (hLy lC S tl)
def L_X3_joinsOn_93 (G : ab_G) (fr : Bool) (n0 : Nat) (tl : ab_H) (K : Int64 → ms_S → Prop) (S : ms_S) (i3 : Int32) (i4 : Int32) (l5 : Int64) (i7 : Int32) (i8 : Int32) : Prop := wp G 4 M_X3_joinsOn fr n0 (poL lC tl K) 93 [some (.ref 31), none, some (.ref 13), some (.int i3), some (.int i4), some (.long l5), none, some (.int i7), some (.int i8), none, none] [] (hLy lC S tl)
def L_X3_joinsOn_145 (G : ab_G) (fr : Bool) (n0 : Nat) (tl : ab_H) (K : Int64 → ms_S → Prop) (S : ms_S) (i3 : Int32) (i4 : Int32) (l5 : Int64) (i7 : Int32) (i8 : Int32) : Prop := wp G 4 M_X3_joinsOn fr n0 (poL lC tl K) 145 [some (.ref 31), none, some (.ref 13), some (.int i3), some (.int i4), some (.long l5), none, some (.int i7), some (.int i8), none, none] [] (hLy lC S tl)
def L_X3_joinsOn_160 (G : ab_G) (fr : Bool) (n0 : Nat) (tl : ab_H) (K : Int64 → ms_S → Prop) (S : ms_S) (i3 : Int32) (i4 : Int32) (l5 : Int64) (i7 : Int32) (i8 : Int32) : Prop := wp G 4 M_X3_joinsOn fr n0 (poL lC tl K) 160 [some (.ref 31), none, some (.ref 13), some (.int i3), some (.int i4), some (.long l5), none, some (.int i7), some (.int i8), none, none] [] (hLy lC S tl)
set_option maxRecDepth 100000 in
set_option maxHeartbeats 4000000 in
theorem b_X3_joinsOn_44 {G : ab_G} {fr : Bool} {n0 : Nat} {tl : ab_H} {K : Int64 → ms_S → Prop} {S : ms_S} {i1 : Int32} {t0 : Int32}
    (h : vp_in (t0 &&& (nI 127)) 128 ∧ (((S.2.2.2.1 33 ((t0 &&& (nI 127)).toNatClampNeg)) = t0 → (vp_in (t0 &&& (nI 127)) 128 ∧ (K (S.2.2.2.2 32 ((t0 &&& (nI 127)).toNatClampNeg)) S))) ∧ (¬ (S.2.2.2.1 33 ((t0 &&& (nI 127)).toNatClampNeg)) = t0 → (ctU G 1 M_X4_scene fr [.ref 13, .int (nI 0), .int (nI 0), .int i1] lC S tl (fun S1 => L_X3_joinsOn_83 G fr n0 tl K S1 t0 (t0 &&& (nI 127)) (lN 0) (nI 0)))))) :
    L_X3_joinsOn_44 G fr n0 tl K S i1 t0 := by
  unfold L_X3_joinsOn_44
  iterate 8 refine ws_b rfl ?_
  refine ws_g rfl h.1 ?_
  replace h := h.2
  iterate 2 refine ws_b rfl ?_
  refine wp_ite (fun q => ?_) (fun q => ?_)
  · replace h := h.1 q
    iterate 3 refine ws_b rfl ?_
    refine ws_g rfl h.1 ?_
    replace h := h.2
    exact wp_rl rfl rfl ⟨_, _, rfl, rfl, h⟩
  · replace h := h.2 q
    iterate 6 refine ws_b rfl ?_
    refine wp_cV rfl rfl o_X4_scene v_X4_scene h rfl rfl rfl (Nat.le_of_ble_eq_true rfl) (by decide) ?_
    clear h
    rintro r9 h9 ⟨S1, rfl, rfl, h⟩
    iterate 2 refine ws_b rfl ?_
    exact wp_weak (wk_s (wk_n (wk_s (wk_s (wk_s (wk_s (wk_s (wk_s (wk_s (wk_s (wk_s wk_0))))))))))) h
set_option maxRecDepth 100000 in
set_option maxHeartbeats 4000000 in
theorem b_X3_joinsOn_83 {G : ab_G} {fr : Bool} {n0 : Nat} {tl : ab_H} {K : Int64 → ms_S → Prop} {S : ms_S} {i3 : Int32} {i4 : Int32} {l5 : Int64} {i7 : Int32}
    (h : ((nI 7) ≤ i7 → (vp_in i4 128 ∧ (vp_in i4 128 ∧ (K l5 (sA (sL S 32 i4.toNatClampNeg l5) 33 i4.toNatClampNeg i3))))) ∧ (¬ (nI 7) ≤ i7 → (L_X3_joinsOn_93 G fr n0 tl K S i3 i4 l5 i7 (nI 0)))) :
    L_X3_joinsOn_83 G fr n0 tl K S i3 i4 l5 i7 := by
  unfold L_X3_joinsOn_83
  iterate 3 refine ws_b rfl ?_
  refine wp_ite (fun q => ?_) (fun q => ?_)
  · replace h := h.1 q
    iterate 4 refine ws_b rfl ?_
    refine ws_g rfl h.1 ?_
    replace h := h.2
    iterate 4 refine ws_b rfl ?_
    refine ws_g rfl h.1 ?_
    replace h := h.2
    refine ws_b rfl ?_
    exact wp_rl rfl rfl ⟨_, _, rfl, rfl, h⟩
  · replace h := h.2 q
    iterate 2 refine ws_b rfl ?_
    exact wp_weak (wk_s (wk_s (wk_s (wk_s (wk_s (wk_s (wk_s (wk_s (wk_s (wk_s (wk_s wk_0))))))))))) h
set_option maxRecDepth 100000 in
set_option maxHeartbeats 4000000 in
theorem b_X3_joinsOn_93 {G : ab_G} {fr : Bool} {n0 : Nat} {tl : ab_H} {K : Int64 → ms_S → Prop} {S : ms_S} {i3 : Int32} {i4 : Int32} {l5 : Int64} {i7 : Int32} {i8 : Int32}
    (h : ((nI 7) ≤ i8 → (L_X3_joinsOn_83 G fr n0 tl K S i3 i4 l5 (i7 + nI 1))) ∧ (¬ (nI 7) ≤ i8 → (ctL G 3 M_X4_work fr [.ref 13, .int i7, .int i8, .int (nI 0), .int (if 0 ≤ (i7 - i8) then (i7 - i8) else 0 - (i7 - i8))] lC S tl (fun v1 S1 => ((lg_cmp v1 ((-9223372036854775808 : Int64))) = 0 → ((i7 = i8 → (L_X3_joinsOn_145 G fr n0 tl K S1 i3 i4 l5 i7 i8)) ∧ (¬ i7 = i8 → (L_X3_joinsOn_160 G fr n0 tl K S1 i3 i4 l5 i7 i8)))) ∧ (¬ (lg_cmp v1 ((-9223372036854775808 : Int64))) = 0 → (((lg_cmp v1 (lN 0)) = 0 → (L_X3_joinsOn_160 G fr n0 tl K S1 i3 i4 l5 i7 i8)) ∧ (¬ (lg_cmp v1 (lN 0)) = 0 → (L_X3_joinsOn_145 G fr n0 tl K S1 i3 i4 l5 i7 i8)))))))) :
    L_X3_joinsOn_93 G fr n0 tl K S i3 i4 l5 i7 i8 := by
  unfold L_X3_joinsOn_93
  iterate 3 refine ws_b rfl ?_
  refine wp_ite (fun q => ?_) (fun q => ?_)
  · replace h := h.1 q
    iterate 2 refine ws_b rfl ?_
    exact wp_weak (wk_s (wk_s (wk_s (wk_s (wk_s (wk_s (wk_s (wk_s (wk_n (wk_s (wk_s wk_0))))))))))) h
  · replace h := h.2 q
    iterate 7 refine ws_b rfl ?_
    refine wp_abs rfl rfl (Nat.le_of_ble_eq_true rfl) (by decide) ?_
    refine wp_cV rfl rfl o_X4_work v_X4_work h rfl rfl rfl (Nat.le_of_ble_eq_true rfl) (by decide) ?_
    clear h
    rintro r9 h9 ⟨v1, S1, rfl, rfl, h⟩
    iterate 5 refine ws_b rfl ?_
    refine wp_ite (fun q => ?_) (fun q => ?_)
    · replace h := h.1 q
      iterate 3 refine ws_b rfl ?_
      refine wp_ite (fun q => ?_) (fun q => ?_)
      · replace h := h.1 q
        refine ws_b rfl ?_
        exact wp_weak (wk_s (wk_s (wk_s (wk_s (wk_s (wk_s (wk_s (wk_s (wk_s (wk_n (wk_s wk_0))))))))))) h
      · replace h := h.2 q
        exact wp_weak (wk_s (wk_s (wk_s (wk_s (wk_s (wk_s (wk_s (wk_s (wk_s (wk_n (wk_s wk_0))))))))))) h
    · replace h := h.2 q
      iterate 4 refine ws_b rfl ?_
      refine wp_ite (fun q => ?_) (fun q => ?_)
      · replace h := h.1 q
        exact wp_weak (wk_s (wk_s (wk_s (wk_s (wk_s (wk_s (wk_s (wk_s (wk_s (wk_n (wk_s wk_0))))))))))) h
      · replace h := h.2 q
        exact wp_weak (wk_s (wk_s (wk_s (wk_s (wk_s (wk_s (wk_s (wk_s (wk_s (wk_n (wk_s wk_0))))))))))) h
set_option maxRecDepth 100000 in
set_option maxHeartbeats 4000000 in
theorem b_X3_joinsOn_145 {G : ab_G} {fr : Bool} {n0 : Nat} {tl : ab_H} {K : Int64 → ms_S → Prop} {S : ms_S} {i3 : Int32} {i4 : Int32} {l5 : Int64} {i7 : Int32} {i8 : Int32}
    (h : L_X3_joinsOn_160 G fr n0 tl K S i3 i4 (l5 ||| ((lN 1) <<< (((i7 * (nI 8)) + i8).toInt64 &&& 63))) i7 i8) :
    L_X3_joinsOn_145 G fr n0 tl K S i3 i4 l5 i7 i8 := by
  unfold L_X3_joinsOn_145
  iterate 10 refine ws_b rfl ?_
  exact wp_weak (wk_s (wk_s (wk_s (wk_s (wk_s (wk_s (wk_s (wk_s (wk_s (wk_s (wk_s wk_0))))))))))) h
set_option maxRecDepth 100000 in
set_option maxHeartbeats 4000000 in
theorem b_X3_joinsOn_160 {G : ab_G} {fr : Bool} {n0 : Nat} {tl : ab_H} {K : Int64 → ms_S → Prop} {S : ms_S} {i3 : Int32} {i4 : Int32} {l5 : Int64} {i7 : Int32} {i8 : Int32}
    (h : L_X3_joinsOn_93 G fr n0 tl K S i3 i4 l5 i7 (i8 + nI 1)) :
    L_X3_joinsOn_160 G fr n0 tl K S i3 i4 l5 i7 i8 := by
  unfold L_X3_joinsOn_160
  iterate 2 refine ws_b rfl ?_
  exact wp_weak (wk_s (wk_s (wk_s (wk_s (wk_s (wk_s (wk_s (wk_s (wk_s (wk_s (wk_s wk_0))))))))))) h
set_option maxRecDepth 100000 in
set_option maxHeartbeats 4000000 in
theorem m_X3_joinsOn {G : ab_G} {fr : Bool} {tl : ab_H} {K : Int64 → ms_S → Prop} {S : ms_S} {i1 : Int32}
    (h : ∀ n0 : Nat, ((S.1 31 6) = 0 → (ctI G 1 M_X4_isTold fr [.ref 13] lC S tl (fun v1 S1 => (v1 = 0 → (K ((18049651735527937 : Int64)) S1)) ∧ (¬ v1 = 0 → (((S1.1 13 4) = 0 → (L_X3_joinsOn_44 G fr n0 tl K S1 i1 (nI 0))) ∧ (¬ (S1.1 13 4) = 0 → (L_X3_joinsOn_44 G fr n0 tl K S1 i1 i1))))))) ∧ (¬ (S.1 31 6) = 0 → (K ((35887507618889599 : Int64)) S))) :
    ctL G 4 M_X3_joinsOn fr [.ref 31, .int i1] lC S tl K := by
  refine wp_ct o_X3_joinsOn (Nat.le_of_ble_eq_true rfl) ?_
  replace h := h (hLy lC S tl).length
  revert h
  generalize (hLy lC S tl).length = n0
  intro h
  iterate 4 refine ws_b rfl ?_
  refine ws_aal rfl rfl (Or.inl rfl) ((x_vp (by decide)).mpr (by decide)) rfl ?_
  iterate 4 refine ws_b rfl ?_
  refine wp_ite (fun q => ?_) (fun q => ?_)
  · replace h := h.1 q
    refine ws_b rfl ?_
    refine wp_cV rfl rfl o_X4_isTold v_X4_isTold h rfl rfl rfl (Nat.le_of_ble_eq_true rfl) (by decide) ?_
    clear h
    rintro r9 h9 ⟨v1, S1, rfl, rfl, h⟩
    refine ws_b rfl ?_
    refine wp_ite (fun q => ?_) (fun q => ?_)
    · replace h := h.1 q
      refine ws_b rfl ?_
      exact wp_rl rfl rfl ⟨_, _, rfl, rfl, h⟩
    · replace h := h.2 q
      iterate 3 refine ws_b rfl ?_
      refine wp_ite (fun q => ?_) (fun q => ?_)
      · replace h := h.1 q
        refine ws_b rfl ?_
        exact wp_weak (wk_s (wk_s (wk_s (wk_s (wk_s (wk_s (wk_s (wk_s (wk_s (wk_s (wk_s wk_0))))))))))) h
      · replace h := h.2 q
        iterate 2 refine ws_b rfl ?_
        exact wp_weak (wk_s (wk_s (wk_s (wk_s (wk_s (wk_s (wk_s (wk_s (wk_s (wk_s (wk_s wk_0))))))))))) h
  · replace h := h.2 q
    refine ws_b rfl ?_
    exact wp_rl rfl rfl ⟨_, _, rfl, rfl, h⟩
set_option maxRecDepth 100000 in
set_option maxHeartbeats 4000000 in
theorem m_X3_mayHold {G : ab_G} {fr : Bool} {tl : ab_H} {K : Int32 → ms_S → Prop} {S : ms_S} {i2 : Int32} {i3 : Int32}
    (h : ∀ n0 : Nat, ((S.1 31 7) = 0 → (ctL G 4 M_X3_mayValue fr [.ref 31, .ref 46, .int i2, .int i3] lC S tl (fun v1 S1 => ((lg_cmp v1 (lN 0)) = 0 → (K (nI 0) S1)) ∧ (¬ (lg_cmp v1 (lN 0)) = 0 → (K (nI 1) S1))))) ∧ (¬ (S.1 31 7) = 0 → (K (nI 1) S))) :
    ctI G 5 M_X3_mayHold fr [.ref 31, .ref 46, .int i2, .int i3] lC S tl K := by
  refine wp_ct o_X3_mayHold (Nat.le_of_ble_eq_true rfl) ?_
  replace h := h (hLy lC S tl).length
  revert h
  generalize (hLy lC S tl).length = n0
  intro h
  iterate 3 refine ws_b rfl ?_
  refine wp_ite (fun q => ?_) (fun q => ?_)
  · replace h := h.1 q
    iterate 4 refine ws_b rfl ?_
    refine wp_cV rfl rfl o_X3_mayValue v_X3_mayValue h rfl rfl rfl (Nat.le_of_ble_eq_true rfl) (by decide) ?_
    clear h
    rintro r9 h9 ⟨v1, S1, rfl, rfl, h⟩
    iterate 3 refine ws_b rfl ?_
    refine wp_ite (fun q => ?_) (fun q => ?_)
    · replace h := h.1 q
      refine ws_b rfl ?_
      exact wp_ri rfl rfl rfl ⟨_, _, rfl, rfl, h⟩
    · replace h := h.2 q
      iterate 2 refine ws_b rfl ?_
      exact wp_ri rfl rfl rfl ⟨_, _, rfl, rfl, h⟩
  · replace h := h.2 q
    iterate 2 refine ws_b rfl ?_
    exact wp_ri rfl rfl rfl ⟨_, _, rfl, rfl, h⟩
set_option maxRecDepth 100000 in
set_option maxHeartbeats 4000000 in
theorem m_X9_forget {G : ab_G} {fr : Bool} {tl : ab_H} {K : ms_S → Prop} {S : ms_S} 
    (h : ∀ n0 : Nat, K (sVa S 25 7 ((S.1 25 7) + (nI 1)))) :
    ctU G 1 M_X9_forget fr [.ref 25] lC S tl K := by
  refine wp_ct o_X9_forget (Nat.le_of_ble_eq_true rfl) ?_
  replace h := h (hLy lC S tl).length
  revert h
  generalize (hLy lC S tl).length = n0
  intro h
  iterate 6 refine ws_b rfl ?_
  exact wp_rv rfl rfl ⟨_, rfl, rfl, h⟩
def L_X9_use_27 (G : ab_G) (fr : Bool) (n0 : Nat) (tl : ab_H) (K : ms_S → Prop) (S : ms_S) (l1 : Int64) (i3 : Int32) : Prop := wp G 1 M_X9_use fr n0 (poU lC tl K) 27 [some (.ref 25), some (.long l1), none, some (.int i3), none, none, none] [] (hLy lC S tl)
def L_X9_use_39 (G : ab_G) (fr : Bool) (n0 : Nat) (tl : ab_H) (K : ms_S → Prop) (S : ms_S) (l1 : Int64) (i3 : Int32) (l4 : Int64) (i6 : Int32) : Prop := wp G 1 M_X9_use fr n0 (poU lC tl K) 39 [some (.ref 25), some (.long l1), none, some (.int i3), some (.long l4), none, some (.int i6)] [] (hLy lC S tl)
set_option maxRecDepth 100000 in
set_option maxHeartbeats 4000000 in
theorem b_X9_use_27 {G : ab_G} {fr : Bool} {n0 : Nat} {tl : ab_H} {K : ms_S → Prop} {S : ms_S} {l1 : Int64} {i3 : Int32}
    (h : ((nI 7) ≤ i3 → (K S)) ∧ (¬ (nI 7) ≤ i3 → (L_X9_use_39 G fr n0 tl K S l1 i3 (lN 0) (nI 0)))) :
    L_X9_use_27 G fr n0 tl K S l1 i3 := by
  unfold L_X9_use_27
  iterate 3 refine ws_b rfl ?_
  refine wp_ite (fun q => ?_) (fun q => ?_)
  · replace h := h.1 q
    exact wp_rv rfl rfl ⟨_, rfl, rfl, h⟩
  · replace h := h.2 q
    iterate 4 refine ws_b rfl ?_
    exact wp_weak (wk_s (wk_s (wk_s (wk_s (wk_s (wk_s (wk_s wk_0))))))) h
set_option maxRecDepth 100000 in
set_option maxHeartbeats 4000000 in
theorem b_X9_use_39 {G : ab_G} {fr : Bool} {n0 : Nat} {tl : ab_H} {K : ms_S → Prop} {S : ms_S} {l1 : Int64} {i3 : Int32} {l4 : Int64} {i6 : Int32}
    (h : ((nI 7) ≤ i6 → (vp_in i3 7 ∧ (L_X9_use_27 G fr n0 tl K (sL S 28 i3.toNatClampNeg (l4 * ((282578800148737 : Int64)))) l1 (i3 + nI 1)))) ∧ (¬ (nI 7) ≤ i6 → (L_X9_use_39 G fr n0 tl K S l1 i3 (l4 ||| ((((l1.toUInt64 >>> (((i6 * (nI 8)) + i3).toInt64.toUInt64 &&& Int64.toUInt64 63)).toInt64) &&& (lN 1)) <<< (i6.toInt64 &&& 63))) (i6 + nI 1)))) :
    L_X9_use_39 G fr n0 tl K S l1 i3 l4 i6 := by
  unfold L_X9_use_39
  iterate 3 refine ws_b rfl ?_
  refine wp_ite (fun q => ?_) (fun q => ?_)
  · replace h := h.1 q
    iterate 6 refine ws_b rfl ?_
    refine ws_g rfl h.1 ?_
    replace h := h.2
    iterate 2 refine ws_b rfl ?_
    exact wp_weak (wk_s (wk_s (wk_s (wk_s (wk_n (wk_s (wk_n wk_0))))))) h
  · replace h := h.2 q
    iterate 16 refine ws_b rfl ?_
    exact wp_weak (wk_s (wk_s (wk_s (wk_s (wk_s (wk_s (wk_s wk_0))))))) h
set_option maxRecDepth 100000 in
set_option maxHeartbeats 4000000 in
theorem m_X9_use {G : ab_G} {fr : Bool} {tl : ab_H} {K : ms_S → Prop} {S : ms_S} {l1 : Int64}
    (h : ∀ n0 : Nat, ((lg_cmp l1 (S.2.1 25 6)) = 0 → (K S)) ∧ (¬ (lg_cmp l1 (S.2.1 25 6)) = 0 → (L_X9_use_27 G fr n0 tl K (sVa (sWa S 25 6 l1) 25 7 ((S.1 25 7) + (nI 1))) l1 (nI 0)))) :
    ctU G 1 M_X9_use fr [.ref 25, .long l1] lC S tl K := by
  refine wp_ct o_X9_use (Nat.le_of_ble_eq_true rfl) ?_
  replace h := h (hLy lC S tl).length
  revert h
  generalize (hLy lC S tl).length = n0
  intro h
  iterate 5 refine ws_b rfl ?_
  refine wp_ite (fun q => ?_) (fun q => ?_)
  · replace h := h.1 q
    exact wp_rv rfl rfl ⟨_, rfl, rfl, h⟩
  · replace h := h.2 q
    iterate 11 refine ws_b rfl ?_
    exact wp_weak (wk_s (wk_s (wk_s (wk_s (wk_s (wk_s (wk_s wk_0))))))) h
set_option maxRecDepth 100000 in
set_option maxHeartbeats 4000000 in
theorem m_X9_meets {G : ab_G} {fr : Bool} {tl : ab_H} {K : Int32 → ms_S → Prop} {S : ms_S} {i1 : Int32} {i2 : Int32}
    (h : ∀ n0 : Nat, ((lg_cmp ((((S.2.1 25 6).toUInt64 >>> (((i1 * (nI 8)) + i2).toInt64.toUInt64 &&& Int64.toUInt64 63)).toInt64) &&& (lN 1)) (lN 1)) = 0 → (K (nI 1) S)) ∧ (¬ (lg_cmp ((((S.2.1 25 6).toUInt64 >>> (((i1 * (nI 8)) + i2).toInt64.toUInt64 &&& Int64.toUInt64 63)).toInt64) &&& (lN 1)) (lN 1)) = 0 → (K (nI 0) S))) :
    ctI G 1 M_X9_meets fr [.ref 25, .int i1, .int i2] lC S tl K := by
  refine wp_ct o_X9_meets (Nat.le_of_ble_eq_true rfl) ?_
  replace h := h (hLy lC S tl).length
  revert h
  generalize (hLy lC S tl).length = n0
  intro h
  iterate 13 refine ws_b rfl ?_
  refine wp_ite (fun q => ?_) (fun q => ?_)
  · replace h := h.1 q
    iterate 2 refine ws_b rfl ?_
    exact wp_ri rfl rfl rfl ⟨_, _, rfl, rfl, h⟩
  · replace h := h.2 q
    refine ws_b rfl ?_
    exact wp_ri rfl rfl rfl ⟨_, _, rfl, rfl, h⟩
set_option maxRecDepth 100000 in
set_option maxHeartbeats 4000000 in
theorem m_X9_isRow {G : ab_G} {fr : Bool} {tl : ab_H} {K : Int32 → ms_S → Prop} {S : ms_S} {i1 : Int32}
    (h : ∀ n0 : Nat, ctL G 3 M_X9_reachOf fr [.ref 25, .int i1] lC S tl (fun v1 S1 => ((lg_cmp v1 (lN 0)) = 0 → (K (nI 0) S1)) ∧ (¬ (lg_cmp v1 (lN 0)) = 0 → (K (nI 1) S1)))) :
    ctI G 4 M_X9_isRow fr [.ref 25, .int i1] lC S tl K := by
  refine wp_ct o_X9_isRow (Nat.le_of_ble_eq_true rfl) ?_
  replace h := h (hLy lC S tl).length
  revert h
  generalize (hLy lC S tl).length = n0
  intro h
  iterate 2 refine ws_b rfl ?_
  refine wp_cV rfl rfl o_X9_reachOf v_X9_reachOf h rfl rfl rfl (Nat.le_of_ble_eq_true rfl) (by decide) ?_
  clear h
  rintro r9 h9 ⟨v1, S1, rfl, rfl, h⟩
  iterate 3 refine ws_b rfl ?_
  refine wp_ite (fun q => ?_) (fun q => ?_)
  · replace h := h.1 q
    refine ws_b rfl ?_
    exact wp_ri rfl rfl rfl ⟨_, _, rfl, rfl, h⟩
  · replace h := h.2 q
    iterate 2 refine ws_b rfl ?_
    exact wp_ri rfl rfl rfl ⟨_, _, rfl, rfl, h⟩
def L_X9_reachOf_31 (G : ab_G) (fr : Bool) (n0 : Nat) (tl : ab_H) (K : Int64 → ms_S → Prop) (S : ms_S) (i2 : Int32) (i3 : Int32) (i4 : Int32) : Prop := wp G 3 M_X9_reachOf fr n0 (poL lC tl K) 31 [some (.ref 25), none, some (.int i2), some (.int i3), some (.int i4)] [] (hLy lC S tl)
set_option maxRecDepth 100000 in
set_option maxHeartbeats 4000000 in
theorem b_X9_reachOf_31 {G : ab_G} {fr : Bool} {n0 : Nat} {tl : ab_H} {K : Int64 → ms_S → Prop} {S : ms_S} {i2 : Int32} {i3 : Int32} {i4 : Int32}
    (h : ((nI 512) ≤ i4 → (vp_in i2 512 ∧ (K (S.2.2.2.2 26 i2.toNatClampNeg) S))) ∧ (¬ (nI 512) ≤ i4 → ((i3 = i2 → (vp_in i2 512 ∧ (K (S.2.2.2.2 26 i2.toNatClampNeg) S))) ∧ (¬ i3 = i2 → (vp_in ((i3 - i2) &&& i2) 512 ∧ (((S.2.2.2.1 27 (((i3 - i2) &&& i2).toNatClampNeg)) = (S.1 25 7) → (L_X9_reachOf_31 G fr n0 tl K S i2 ((i3 - i2) &&& i2) (i4 + nI 1))) ∧ (¬ (S.2.2.2.1 27 (((i3 - i2) &&& i2).toNatClampNeg)) = (S.1 25 7) → (ctL G 2 M_X9_endsOf fr [.ref 25, .int ((i3 - i2) &&& i2)] lC S tl (fun v1 S1 => vp_in ((i3 - i2) &&& i2) 512 ∧ (vp_in ((i3 - i2) &&& i2) 512 ∧ (L_X9_reachOf_31 G fr n0 tl K (sA (sL S1 26 (((i3 - i2) &&& i2).toNatClampNeg) v1) 27 (((i3 - i2) &&& i2).toNatClampNeg) (S1.1 25 7)) i2 ((i3 - i2) &&& i2) (i4 + nI 1)))))))))))) :
    L_X9_reachOf_31 G fr n0 tl K S i2 i3 i4 := by
  unfold L_X9_reachOf_31
  iterate 3 refine ws_b rfl ?_
  refine wp_ite (fun q => ?_) (fun q => ?_)
  · replace h := h.1 q
    iterate 3 refine ws_b rfl ?_
    refine ws_g rfl h.1 ?_
    replace h := h.2
    exact wp_rl rfl rfl ⟨_, _, rfl, rfl, h⟩
  · replace h := h.2 q
    iterate 3 refine ws_b rfl ?_
    refine wp_ite (fun q => ?_) (fun q => ?_)
    · replace h := h.1 q
      iterate 3 refine ws_b rfl ?_
      refine ws_g rfl h.1 ?_
      replace h := h.2
      exact wp_rl rfl rfl ⟨_, _, rfl, rfl, h⟩
    · replace h := h.2 q
      iterate 9 refine ws_b rfl ?_
      refine ws_g rfl h.1 ?_
      replace h := h.2
      iterate 3 refine ws_b rfl ?_
      refine wp_ite (fun q => ?_) (fun q => ?_)
      · replace h := h.1 q
        iterate 2 refine ws_b rfl ?_
        exact wp_weak (wk_s (wk_s (wk_s (wk_s (wk_s wk_0))))) h
      · replace h := h.2 q
        iterate 5 refine ws_b rfl ?_
        refine wp_cV rfl rfl o_X9_endsOf v_X9_endsOf h rfl rfl rfl (Nat.le_of_ble_eq_true rfl) (by decide) ?_
        clear h
        rintro r9 h9 ⟨v1, S1, rfl, rfl, h⟩
        refine ws_g rfl h.1 ?_
        replace h := h.2
        iterate 5 refine ws_b rfl ?_
        refine ws_g rfl h.1 ?_
        replace h := h.2
        iterate 2 refine ws_b rfl ?_
        exact wp_weak (wk_s (wk_s (wk_s (wk_s (wk_s wk_0))))) h
set_option maxRecDepth 100000 in
set_option maxHeartbeats 4000000 in
theorem m_X9_reachOf {G : ab_G} {fr : Bool} {tl : ab_H} {K : Int64 → ms_S → Prop} {S : ms_S} {i1 : Int32}
    (h : ∀ n0 : Nat, vp_in (i1 &&& (nI 511)) 512 ∧ (((S.2.2.2.1 27 ((i1 &&& (nI 511)).toNatClampNeg)) = (S.1 25 7) → (vp_in (i1 &&& (nI 511)) 512 ∧ (K (S.2.2.2.2 26 ((i1 &&& (nI 511)).toNatClampNeg)) S))) ∧ (¬ (S.2.2.2.1 27 ((i1 &&& (nI 511)).toNatClampNeg)) = (S.1 25 7) → (L_X9_reachOf_31 G fr n0 tl K S (i1 &&& (nI 511)) (nI 0) (nI 0))))) :
    ctL G 3 M_X9_reachOf fr [.ref 25, .int i1] lC S tl K := by
  refine wp_ct o_X9_reachOf (Nat.le_of_ble_eq_true rfl) ?_
  replace h := h (hLy lC S tl).length
  revert h
  generalize (hLy lC S tl).length = n0
  intro h
  iterate 7 refine ws_b rfl ?_
  refine ws_g rfl h.1 ?_
  replace h := h.2
  iterate 3 refine ws_b rfl ?_
  refine wp_ite (fun q => ?_) (fun q => ?_)
  · replace h := h.1 q
    iterate 3 refine ws_b rfl ?_
    refine ws_g rfl h.1 ?_
    replace h := h.2
    exact wp_rl rfl rfl ⟨_, _, rfl, rfl, h⟩
  · replace h := h.2 q
    iterate 4 refine ws_b rfl ?_
    exact wp_weak (wk_s (wk_n (wk_s (wk_s (wk_s wk_0))))) h
def L_X9_endsOf_5 (G : ab_G) (fr : Bool) (n0 : Nat) (tl : ab_H) (K : Int64 → ms_S → Prop) (S : ms_S) (i1 : Int32) (l2 : Int64) (i4 : Int32) : Prop := wp G 2 M_X9_endsOf fr n0 (poL lC tl K) 5 [some (.ref 25), some (.int i1), some (.long l2), none, some (.int i4), none, none, none, none, none] [] (hLy lC S tl)
def L_X9_endsOf_141 (G : ab_G) (fr : Bool) (n0 : Nat) (tl : ab_H) (K : Int64 → ms_S → Prop) (S : ms_S) (i1 : Int32) (l2 : Int64) (i4 : Int32) : Prop := wp G 2 M_X9_endsOf fr n0 (poL lC tl K) 141 [some (.ref 25), some (.int i1), some (.long l2), none, some (.int i4), none, none, none, none, none] [] (hLy lC S tl)
set_option maxRecDepth 100000 in
set_option maxHeartbeats 4000000 in
theorem b_X9_endsOf_5 {G : ab_G} {fr : Bool} {n0 : Nat} {tl : ab_H} {K : Int64 → ms_S → Prop} {S : ms_S} {i1 : Int32} {l2 : Int64} {i4 : Int32}
    (h : ((S.1 0 12) ≤ i4 → (K l2 S)) ∧ (¬ (S.1 0 12) ≤ i4 → (((i1 &&& (((nI 1) <<< (i4 &&& 31)) ^^^ (-(nI 1)))) = i1 → (L_X9_endsOf_141 G fr n0 tl K S i1 l2 i4)) ∧ (¬ (i1 &&& (((nI 1) <<< (i4 &&& 31)) ^^^ (-(nI 1)))) = i1 → (vp_in i4 9 ∧ (vp_in i4 9 ∧ (vp_in (i1 &&& (((nI 1) <<< (i4 &&& 31)) ^^^ (-(nI 1)))) 512 ∧ (((i1 &&& (((nI 1) <<< (i4 &&& 31)) ^^^ (-(nI 1)))) = 0 → (L_X9_endsOf_141 G fr n0 tl K S i1 (l2 ||| (((lN 1) <<< ((((S.2.2.2.1 2 i4.toNatClampNeg) * (nI 8)) + (S.2.2.2.1 3 i4.toNatClampNeg)).toInt64 &&& 63)) ||| ((lN 1) <<< ((((S.2.2.2.1 3 i4.toNatClampNeg) * (nI 8)) + (S.2.2.2.1 2 i4.toNatClampNeg)).toInt64 &&& 63)))) i4)) ∧ (¬ (i1 &&& (((nI 1) <<< (i4 &&& 31)) ^^^ (-(nI 1)))) = 0 → (((lg_cmp (S.2.2.2.2 26 ((i1 &&& (((nI 1) <<< (i4 &&& 31)) ^^^ (-(nI 1)))).toNatClampNeg)) (lN 0)) = 0 → (L_X9_endsOf_141 G fr n0 tl K S i1 l2 i4)) ∧ (¬ (lg_cmp (S.2.2.2.2 26 ((i1 &&& (((nI 1) <<< (i4 &&& 31)) ^^^ (-(nI 1)))).toNatClampNeg)) (lN 0)) = 0 → (vp_in (S.2.2.2.1 2 i4.toNatClampNeg) 7 ∧ (ctL G 1 M_X9_firstsOf fr [.long ((S.2.2.2.2 26 ((i1 &&& (((nI 1) <<< (i4 &&& 31)) ^^^ (-(nI 1)))).toNatClampNeg)) &&& (S.2.2.2.2 28 ((S.2.2.2.1 2 i4.toNatClampNeg).toNatClampNeg)))] lC S tl (fun v1 S1 => vp_in (S.2.2.2.1 3 i4.toNatClampNeg) 7 ∧ (ctL G 1 M_X9_firstsOf fr [.long ((S.2.2.2.2 26 ((i1 &&& (((nI 1) <<< (i4 &&& 31)) ^^^ (-(nI 1)))).toNatClampNeg)) &&& (S1.2.2.2.2 28 ((S.2.2.2.1 3 i4.toNatClampNeg).toNatClampNeg)))] lC S1 tl (fun v2 S2 => L_X9_endsOf_141 G fr n0 tl K S2 i1 (l2 ||| ((v1 <<< ((S.2.2.2.1 3 i4.toNatClampNeg).toInt64 &&& 63)) ||| (v2 <<< ((S.2.2.2.1 2 i4.toNatClampNeg).toInt64 &&& 63)))) i4)))))))))))))))) :
    L_X9_endsOf_5 G fr n0 tl K S i1 l2 i4 := by
  unfold L_X9_endsOf_5
  iterate 5 refine ws_b rfl ?_
  refine wp_ite (fun q => ?_) (fun q => ?_)
  · replace h := h.1 q
    refine ws_b rfl ?_
    exact wp_rl rfl rfl ⟨_, _, rfl, rfl, h⟩
  · replace h := h.2 q
    iterate 11 refine ws_b rfl ?_
    refine wp_ite (fun q => ?_) (fun q => ?_)
    · replace h := h.1 q
      exact wp_weak (wk_s (wk_s (wk_s (wk_s (wk_s (wk_n (wk_s (wk_s (wk_s (wk_s wk_0)))))))))) h
    · replace h := h.2 q
      iterate 4 refine ws_b rfl ?_
      refine ws_g rfl h.1 ?_
      replace h := h.2
      iterate 5 refine ws_b rfl ?_
      refine ws_g rfl h.1 ?_
      replace h := h.2
      iterate 4 refine ws_b rfl ?_
      refine ws_g rfl h.1 ?_
      replace h := h.2
      iterate 3 refine ws_b rfl ?_
      refine wp_ite (fun q => ?_) (fun q => ?_)
      · replace h := h.1 q
        iterate 19 refine ws_b rfl ?_
        exact wp_weak (wk_s (wk_s (wk_s (wk_s (wk_s (wk_n (wk_n (wk_n (wk_n (wk_s wk_0)))))))))) h
      · replace h := h.2 q
        iterate 4 refine ws_b rfl ?_
        refine wp_ite (fun q => ?_) (fun q => ?_)
        · replace h := h.1 q
          exact wp_weak (wk_s (wk_s (wk_s (wk_s (wk_s (wk_n (wk_n (wk_n (wk_n (wk_s wk_0)))))))))) h
        · replace h := h.2 q
          iterate 5 refine ws_b rfl ?_
          refine ws_g rfl h.1 ?_
          replace h := h.2
          refine ws_b rfl ?_
          refine wp_cS rfl rfl o_X9_firstsOf s_X9_firstsOf h rfl rfl (Nat.le_of_ble_eq_true rfl) (by decide) ?_
          clear h
          rintro r9 h9 ⟨v1, S1, rfl, rfl, h⟩
          iterate 6 refine ws_b rfl ?_
          refine ws_g rfl h.1 ?_
          replace h := h.2
          refine ws_b rfl ?_
          refine wp_cS rfl rfl o_X9_firstsOf s_X9_firstsOf h rfl rfl (Nat.le_of_ble_eq_true rfl) (by decide) ?_
          clear h
          rintro r9 h9 ⟨v2, S2, rfl, rfl, h⟩
          iterate 5 refine ws_b rfl ?_
          exact wp_weak (wk_s (wk_s (wk_s (wk_s (wk_s (wk_n (wk_n (wk_n (wk_n (wk_s wk_0)))))))))) h
set_option maxRecDepth 100000 in
set_option maxHeartbeats 4000000 in
theorem b_X9_endsOf_141 {G : ab_G} {fr : Bool} {n0 : Nat} {tl : ab_H} {K : Int64 → ms_S → Prop} {S : ms_S} {i1 : Int32} {l2 : Int64} {i4 : Int32}
    (h : L_X9_endsOf_5 G fr n0 tl K S i1 l2 (i4 + nI 1)) :
    L_X9_endsOf_141 G fr n0 tl K S i1 l2 i4 := by
  unfold L_X9_endsOf_141
  iterate 2 refine ws_b rfl ?_
  exact wp_weak (wk_s (wk_s (wk_s (wk_s (wk_s (wk_s (wk_s (wk_s (wk_s (wk_s wk_0)))))))))) h
set_option maxRecDepth 100000 in
set_option maxHeartbeats 4000000 in
theorem m_X9_endsOf {G : ab_G} {fr : Bool} {tl : ab_H} {K : Int64 → ms_S → Prop} {S : ms_S} {i1 : Int32}
    (h : ∀ n0 : Nat, L_X9_endsOf_5 G fr n0 tl K S i1 (lN 0) (nI 0)) :
    ctL G 2 M_X9_endsOf fr [.ref 25, .int i1] lC S tl K := by
  refine wp_ct o_X9_endsOf (Nat.le_of_ble_eq_true rfl) ?_
  replace h := h (hLy lC S tl).length
  revert h
  generalize (hLy lC S tl).length = n0
  intro h
  iterate 4 refine ws_b rfl ?_
  exact wp_weak (wk_s (wk_s (wk_s (wk_s (wk_s (wk_s (wk_s (wk_s (wk_s (wk_s wk_0)))))))))) h
def L_X3_findDearest_99 (G : ab_G) (fr : Bool) (n0 : Nat) (tl : ab_H) (K : Int32 → ms_S → Prop) (S : ms_S) (l4 : Int64) (i6 : Int32) (i7 : Int32) (i9 : Int32) : Prop := wp G 5 M_X3_findDearest fr n0 (poI lC tl K) 99 [some (.ref 31), none, none, none, some (.long l4), none, some (.int i6), some (.int i7), some (.ref 21), some (.int i9), none, none, none, none] [] (hLy lC S tl)
def L_X3_findDearest_109 (G : ab_G) (fr : Bool) (n0 : Nat) (tl : ab_H) (K : Int32 → ms_S → Prop) (S : ms_S) (l4 : Int64) (i6 : Int32) (i7 : Int32) (i9 : Int32) (i10 : Int32) : Prop := wp G 5 M_X3_findDearest fr n0 (poI lC tl K) 109 [some (.ref 31), none, none, none, some (.long l4), none, some (.int i6), some (.int i7), some (.ref 21), some (.int i9), some (.int i10), none, none, none] [] (hLy lC S tl)
def L_X3_findDearest_170 (G : ab_G) (fr : Bool) (n0 : Nat) (tl : ab_H) (K : Int32 → ms_S → Prop) (S : ms_S) (l4 : Int64) (i6 : Int32) (i7 : Int32) (i9 : Int32) (i10 : Int32) (w0 : Int64) (w1 : Int64) (w2 : Int64) : Prop := wp G 5 M_X3_findDearest fr n0 (poI lC tl K) 170 [some (.ref 31), none, none, none, some (.long l4), none, some (.int i6), some (.int i7), some (.ref 21), some (.int i9), some (.int i10), none, none, none] [.long w0, .long w1, .long w2] (hLy lC S tl)
def L_X3_findDearest_206 (G : ab_G) (fr : Bool) (n0 : Nat) (tl : ab_H) (K : Int32 → ms_S → Prop) (S : ms_S) (l4 : Int64) (i6 : Int32) (i7 : Int32) (i9 : Int32) (i10 : Int32) : Prop := wp G 5 M_X3_findDearest fr n0 (poI lC tl K) 206 [some (.ref 31), none, none, none, some (.long l4), none, some (.int i6), some (.int i7), some (.ref 21), some (.int i9), some (.int i10), none, none, none] [] (hLy lC S tl)
set_option maxRecDepth 100000 in
set_option maxHeartbeats 4000000 in
theorem b_X3_findDearest_99 {G : ab_G} {fr : Bool} {n0 : Nat} {tl : ab_H} {K : Int32 → ms_S → Prop} {S : ms_S} {l4 : Int64} {i6 : Int32} {i7 : Int32} {i9 : Int32}
    (h : ((nI 7) ≤ i9 → (K (nI 1) S)) ∧ (¬ (nI 7) ≤ i9 → (L_X3_findDearest_109 G fr n0 tl K S l4 i6 i7 i9 (nI 0)))) :
    L_X3_findDearest_99 G fr n0 tl K S l4 i6 i7 i9 := by
  unfold L_X3_findDearest_99
  iterate 3 refine ws_b rfl ?_
  refine wp_ite (fun q => ?_) (fun q => ?_)
  · replace h := h.1 q
    refine ws_b rfl ?_
    exact wp_ri rfl rfl rfl ⟨_, _, rfl, rfl, h⟩
  · replace h := h.2 q
    iterate 2 refine ws_b rfl ?_
    exact wp_weak (wk_s (wk_s (wk_s (wk_s (wk_s (wk_s (wk_s (wk_s (wk_s (wk_s (wk_s (wk_s (wk_s (wk_s wk_0)))))))))))))) h
set_option maxRecDepth 100000 in
set_option maxHeartbeats 4000000 in
theorem b_X3_findDearest_109 {G : ab_G} {fr : Bool} {n0 : Nat} {tl : ab_H} {K : Int32 → ms_S → Prop} {S : ms_S} {l4 : Int64} {i6 : Int32} {i7 : Int32} {i9 : Int32} {i10 : Int32}
    (h : ((nI 7) ≤ i10 → (L_X3_findDearest_99 G fr n0 tl K S l4 i6 i7 (i9 + nI 1))) ∧ (¬ (nI 7) ≤ i10 → (((lg_cmp (((l4.toUInt64 >>> (((i9 * (nI 8)) + i10).toInt64.toUInt64 &&& Int64.toUInt64 63)).toInt64) &&& (lN 1)) (lN 1)) = 0 → (ctL G 3 M_X4_work fr [.ref 21, .int i9, .int i10, .int i6, .int i7] lC S tl (fun v1 S1 => ((lg_cmp v1 ((-9223372036854775808 : Int64))) = 0 → (L_X3_findDearest_170 G fr n0 tl K S1 l4 i6 i7 i9 i10 i6.toInt64 ((9999 : Int64)) (lN 0))) ∧ (¬ (lg_cmp v1 ((-9223372036854775808 : Int64))) = 0 → (L_X3_findDearest_170 G fr n0 tl K S1 l4 i6 i7 i9 i10 v1 ((9999 : Int64)) (lN 0)))))) ∧ (¬ (lg_cmp (((l4.toUInt64 >>> (((i9 * (nI 8)) + i10).toInt64.toUInt64 &&& Int64.toUInt64 63)).toInt64) &&& (lN 1)) (lN 1)) = 0 → (L_X3_findDearest_206 G fr n0 tl K S l4 i6 i7 i9 i10))))) :
    L_X3_findDearest_109 G fr n0 tl K S l4 i6 i7 i9 i10 := by
  unfold L_X3_findDearest_109
  iterate 3 refine ws_b rfl ?_
  refine wp_ite (fun q => ?_) (fun q => ?_)
  · replace h := h.1 q
    iterate 2 refine ws_b rfl ?_
    exact wp_weak (wk_s (wk_s (wk_s (wk_s (wk_s (wk_s (wk_s (wk_s (wk_s (wk_s (wk_n (wk_s (wk_s (wk_s wk_0)))))))))))))) h
  · replace h := h.2 q
    iterate 12 refine ws_b rfl ?_
    refine wp_ite (fun q => ?_) (fun q => ?_)
    · replace h := h.1 q
      iterate 5 refine ws_b rfl ?_
      refine wp_cV rfl rfl o_X4_work v_X4_work h rfl rfl rfl (Nat.le_of_ble_eq_true rfl) (by decide) ?_
      clear h
      rintro r9 h9 ⟨v1, S1, rfl, rfl, h⟩
      iterate 7 refine ws_b rfl ?_
      refine wp_ite (fun q => ?_) (fun q => ?_)
      · replace h := h.1 q
        iterate 3 refine ws_b rfl ?_
        exact wp_weak (wk_s (wk_s (wk_s (wk_s (wk_s (wk_s (wk_s (wk_s (wk_s (wk_s (wk_s (wk_n (wk_s (wk_s wk_0)))))))))))))) h
      · replace h := h.2 q
        refine ws_b rfl ?_
        exact wp_weak (wk_s (wk_s (wk_s (wk_s (wk_s (wk_s (wk_s (wk_s (wk_s (wk_s (wk_s (wk_n (wk_s (wk_s wk_0)))))))))))))) h
    · replace h := h.2 q
      exact wp_weak (wk_s (wk_s (wk_s (wk_s (wk_s (wk_s (wk_s (wk_s (wk_s (wk_s (wk_s (wk_s (wk_s (wk_s wk_0)))))))))))))) h
set_option maxRecDepth 100000 in
set_option maxHeartbeats 4000000 in
theorem b_X3_findDearest_170 {G : ab_G} {fr : Bool} {n0 : Nat} {tl : ab_H} {K : Int32 → ms_S → Prop} {S : ms_S} {l4 : Int64} {i6 : Int32} {i7 : Int32} {i9 : Int32} {i10 : Int32} {w0 : Int64} {w1 : Int64} {w2 : Int64}
    (h : (((if (if w0 < w1 then w0 else w1) < w2 then w2 else (if w0 < w1 then w0 else w1)).toInt32) ≤ (S.1 31 8) → (L_X3_findDearest_206 G fr n0 tl K S l4 i6 i7 i9 i10)) ∧ (¬ ((if (if w0 < w1 then w0 else w1) < w2 then w2 else (if w0 < w1 then w0 else w1)).toInt32) ≤ (S.1 31 8) → (L_X3_findDearest_206 G fr n0 tl K (sVa (sVa (sVa S 31 8 ((if (if w0 < w1 then w0 else w1) < w2 then w2 else (if w0 < w1 then w0 else w1)).toInt32)) 31 9 i9) 31 10 i10) l4 i6 i7 i9 i10))) :
    L_X3_findDearest_170 G fr n0 tl K S l4 i6 i7 i9 i10 w0 w1 w2 := by
  unfold L_X3_findDearest_170
  refine wp_minl rfl rfl (Nat.le_of_ble_eq_true rfl) (by decide) ?_
  refine wp_maxl rfl rfl (Nat.le_of_ble_eq_true rfl) (by decide) ?_
  iterate 6 refine ws_b rfl ?_
  refine wp_ite (fun q => ?_) (fun q => ?_)
  · replace h := h.1 q
    exact wp_weak (wk_s (wk_s (wk_s (wk_s (wk_s (wk_s (wk_s (wk_s (wk_s (wk_s (wk_s (wk_s (wk_s (wk_n wk_0)))))))))))))) h
  · replace h := h.2 q
    iterate 9 refine ws_b rfl ?_
    exact wp_weak (wk_s (wk_s (wk_s (wk_s (wk_s (wk_s (wk_s (wk_s (wk_s (wk_s (wk_s (wk_s (wk_s (wk_n wk_0)))))))))))))) h
set_option maxRecDepth 100000 in
set_option maxHeartbeats 4000000 in
theorem b_X3_findDearest_206 {G : ab_G} {fr : Bool} {n0 : Nat} {tl : ab_H} {K : Int32 → ms_S → Prop} {S : ms_S} {l4 : Int64} {i6 : Int32} {i7 : Int32} {i9 : Int32} {i10 : Int32}
    (h : L_X3_findDearest_109 G fr n0 tl K S l4 i6 i7 i9 (i10 + nI 1)) :
    L_X3_findDearest_206 G fr n0 tl K S l4 i6 i7 i9 i10 := by
  unfold L_X3_findDearest_206
  iterate 2 refine ws_b rfl ?_
  exact wp_weak (wk_s (wk_s (wk_s (wk_s (wk_s (wk_s (wk_s (wk_s (wk_s (wk_s (wk_s (wk_s (wk_s (wk_s wk_0)))))))))))))) h
set_option maxRecDepth 100000 in
set_option maxHeartbeats 4000000 in
theorem m_X3_findDearest {G : ab_G} {fr : Bool} {tl : ab_H} {K : Int32 → ms_S → Prop} {S : ms_S} {i2 : Int32}
    (h : ∀ n0 : Nat, ctL G 4 M_X3_joinsOn fr [.ref 31, .int (S.1 46 3)] lC S tl (fun v1 S1 => ctU G 1 M_X9_use fr [.ref 25, .long v1] lC S1 tl (fun S2 => vp_in i2 5 ∧ (ctL G 3 M_X9_reachOf fr [.ref 25, .int (S2.2.2.2.1 47 i2.toNatClampNeg)] lC S2 tl (fun v3 S3 => ((lg_cmp v3 (lN 0)) = 0 → (K (nI 0) S3)) ∧ (¬ (lg_cmp v3 (lN 0)) = 0 → (ctI G 1 M_X7_worthOf fr [.ref 0, .int (S2.2.2.2.1 47 i2.toNatClampNeg)] lC S3 tl (fun v4 S4 => ctI G 1 M_X7_doublesOf fr [.ref 0, .int (S2.2.2.2.1 47 i2.toNatClampNeg)] lC S4 tl (fun v5 S5 => ctI G 1 M_J6_bitCount fr [.int (S2.2.2.2.1 47 i2.toNatClampNeg)] lC S5 tl (fun v6 S6 => vp_in i2 5 ∧ (ctU G 1 M_X4_scene fr [.ref 21, .int v6, .int (S6.2.2.2.1 48 i2.toNatClampNeg), .int (S6.1 46 3)] lC S6 tl (fun S7 => L_X3_findDearest_99 G fr n0 tl K (sVa S7 31 8 (-(nI 1))) v3 v4 v5 (nI 0))))))))))))) :
    ctI G 5 M_X3_findDearest fr [.ref 31, .ref 46, .int i2] lC S tl K := by
  refine wp_ct o_X3_findDearest (Nat.le_of_ble_eq_true rfl) ?_
  replace h := h (hLy lC S tl).length
  revert h
  generalize (hLy lC S tl).length = n0
  intro h
  iterate 5 refine ws_b rfl ?_
  refine wp_cV rfl rfl o_X3_joinsOn v_X3_joinsOn h rfl rfl rfl (Nat.le_of_ble_eq_true rfl) (by decide) ?_
  clear h
  rintro r9 h9 ⟨v1, S1, rfl, rfl, h⟩
  refine wp_cV rfl rfl o_X9_use v_X9_use h rfl rfl rfl (Nat.le_of_ble_eq_true rfl) (by decide) ?_
  clear h
  rintro r9 h9 ⟨S2, rfl, rfl, h⟩
  iterate 3 refine ws_b rfl ?_
  refine ws_g rfl h.1 ?_
  replace h := h.2
  iterate 4 refine ws_b rfl ?_
  refine wp_cV rfl rfl o_X9_reachOf v_X9_reachOf h rfl rfl rfl (Nat.le_of_ble_eq_true rfl) (by decide) ?_
  clear h
  rintro r9 h9 ⟨v3, S3, rfl, rfl, h⟩
  iterate 5 refine ws_b rfl ?_
  refine wp_ite (fun q => ?_) (fun q => ?_)
  · replace h := h.1 q
    refine ws_b rfl ?_
    exact wp_ri rfl rfl rfl ⟨_, _, rfl, rfl, h⟩
  · replace h := h.2 q
    iterate 3 refine ws_b rfl ?_
    refine wp_cV rfl rfl o_X7_worthOf v_X7_worthOf h rfl rfl rfl (Nat.le_of_ble_eq_true rfl) (by decide) ?_
    clear h
    rintro r9 h9 ⟨v4, S4, rfl, rfl, h⟩
    iterate 4 refine ws_b rfl ?_
    refine wp_cV rfl rfl o_X7_doublesOf v_X7_doublesOf h rfl rfl rfl (Nat.le_of_ble_eq_true rfl) (by decide) ?_
    clear h
    rintro r9 h9 ⟨v5, S5, rfl, rfl, h⟩
    iterate 5 refine ws_b rfl ?_
    refine ws_aal rfl rfl (Or.inl rfl) ((x_vp (by decide)).mpr (by decide)) rfl ?_
    iterate 3 refine ws_b rfl ?_
    refine wp_cS rfl rfl o_J6_bitCount s_J6_bitCount h rfl rfl (Nat.le_of_ble_eq_true rfl) (by decide) ?_
    clear h
    rintro r9 h9 ⟨v6, S6, rfl, rfl, h⟩
    iterate 3 refine ws_b rfl ?_
    refine ws_g rfl h.1 ?_
    replace h := h.2
    iterate 2 refine ws_b rfl ?_
    refine wp_cV rfl rfl o_X4_scene v_X4_scene h rfl rfl rfl (Nat.le_of_ble_eq_true rfl) (by decide) ?_
    clear h
    rintro r9 h9 ⟨S7, rfl, rfl, h⟩
    iterate 5 refine ws_b rfl ?_
    exact wp_weak (wk_s (wk_n (wk_n (wk_n (wk_s (wk_s (wk_s (wk_s (wk_s (wk_s (wk_s (wk_s (wk_s (wk_s wk_0)))))))))))))) h
set_option maxRecDepth 100000 in
set_option maxHeartbeats 4000000 in
theorem m_X0_asTold {G : ab_G} {fr : Bool} {tl : ab_H} {K : ms_S → Prop} {S : ms_S} 
    (h : ∀ n0 : Nat, ctI G 1 M_X7_needOfRow fr [.ref 0] lC (sVa (sVa (sVa S 36 2 (nI 0)) 36 3 (nI 0)) 36 4 (-(nI 1))) tl (fun v1 S1 => K (sVa (sVa (sVa S1 36 5 v1) 31 6 (nI 0)) 31 7 (nI 0)))) :
    ctU G 2 M_X0_asTold fr [.ref 36] lC S tl K := by
  refine wp_ct o_X0_asTold (Nat.le_of_ble_eq_true rfl) ?_
  replace h := h (hLy lC S tl).length
  revert h
  generalize (hLy lC S tl).length = n0
  intro h
  iterate 2 refine ws_b rfl ?_
  refine ws_g rfl (Or.inl rfl) ?_
  iterate 2 refine ws_b rfl ?_
  refine ws_g rfl (Or.inl rfl) ?_
  iterate 6 refine ws_b rfl ?_
  refine wp_cV rfl rfl o_X7_needOfRow v_X7_needOfRow h rfl rfl rfl (Nat.le_of_ble_eq_true rfl) (by decide) ?_
  clear h
  rintro r9 h9 ⟨v1, S1, rfl, rfl, h⟩
  iterate 4 refine ws_b rfl ?_
  refine ws_g rfl (Or.inl rfl) ?_
  iterate 3 refine ws_b rfl ?_
  refine ws_g rfl (Or.inl rfl) ?_
  exact wp_rv rfl rfl ⟨_, rfl, rfl, h⟩
set_option maxRecDepth 100000 in
set_option maxHeartbeats 4000000 in
theorem m_X0_canTrade {G : ab_G} {fr : Bool} {tl : ab_H} {K : Int32 → ms_S → Prop} {S : ms_S} {i2 : Int32} {i3 : Int32}
    (h : ∀ n0 : Nat, ctI G 1 M_X1_holderOf fr [.ref 46, .int i2] lC S tl (fun v1 S1 => ctI G 1 M_X1_holderOf fr [.ref 46, .int i3] lC S1 tl (fun v2 S2 => (v1 < 0 → (K (nI 0) S2)) ∧ (¬ v1 < 0 → ((v2 < 0 → (K (nI 0) S2)) ∧ (¬ v2 < 0 → ((v1 = v2 → (K (nI 0) S2)) ∧ (¬ v1 = v2 → (ctI G 5 M_X3_mayHold fr [.ref 31, .ref 46, .int i3, .int v1] lC S2 tl (fun v3 S3 => (v3 = 0 → (K (nI 0) S3)) ∧ (¬ v3 = 0 → (ctI G 5 M_X3_mayHold fr [.ref 31, .ref 46, .int i2, .int v2] lC S3 tl (fun v4 S4 => (v4 = 0 → (K (nI 0) S4)) ∧ (¬ v4 = 0 → (K (nI 1) S4))))))))))))))) :
    ctI G 6 M_X0_canTrade fr [.ref 36, .ref 46, .int i2, .int i3] lC S tl K := by
  refine wp_ct o_X0_canTrade (Nat.le_of_ble_eq_true rfl) ?_
  replace h := h (hLy lC S tl).length
  revert h
  generalize (hLy lC S tl).length = n0
  intro h
  iterate 2 refine ws_b rfl ?_
  refine wp_cV rfl rfl o_X1_holderOf v_X1_holderOf h rfl rfl rfl (Nat.le_of_ble_eq_true rfl) (by decide) ?_
  clear h
  rintro r9 h9 ⟨v1, S1, rfl, rfl, h⟩
  iterate 3 refine ws_b rfl ?_
  refine wp_cV rfl rfl o_X1_holderOf v_X1_holderOf h rfl rfl rfl (Nat.le_of_ble_eq_true rfl) (by decide) ?_
  clear h
  rintro r9 h9 ⟨v2, S2, rfl, rfl, h⟩
  iterate 3 refine ws_b rfl ?_
  refine wp_ite (fun q => ?_) (fun q => ?_)
  · replace h := h.1 q
    refine ws_b rfl ?_
    exact wp_ri rfl rfl rfl ⟨_, _, rfl, rfl, h⟩
  · replace h := h.2 q
    iterate 2 refine ws_b rfl ?_
    refine wp_ite (fun q => ?_) (fun q => ?_)
    · replace h := h.1 q
      refine ws_b rfl ?_
      exact wp_ri rfl rfl rfl ⟨_, _, rfl, rfl, h⟩
    · replace h := h.2 q
      iterate 3 refine ws_b rfl ?_
      refine wp_ite (fun q => ?_) (fun q => ?_)
      · replace h := h.1 q
        refine ws_b rfl ?_
        exact wp_ri rfl rfl rfl ⟨_, _, rfl, rfl, h⟩
      · replace h := h.2 q
        iterate 5 refine ws_b rfl ?_
        refine wp_cV rfl rfl o_X3_mayHold v_X3_mayHold h rfl rfl rfl (Nat.le_of_ble_eq_true rfl) (by decide) ?_
        clear h
        rintro r9 h9 ⟨v3, S3, rfl, rfl, h⟩
        refine ws_b rfl ?_
        refine wp_ite (fun q => ?_) (fun q => ?_)
        · replace h := h.1 q
          refine ws_b rfl ?_
          exact wp_ri rfl rfl rfl ⟨_, _, rfl, rfl, h⟩
        · replace h := h.2 q
          iterate 5 refine ws_b rfl ?_
          refine wp_cV rfl rfl o_X3_mayHold v_X3_mayHold h rfl rfl rfl (Nat.le_of_ble_eq_true rfl) (by decide) ?_
          clear h
          rintro r9 h9 ⟨v4, S4, rfl, rfl, h⟩
          refine ws_b rfl ?_
          refine wp_ite (fun q => ?_) (fun q => ?_)
          · replace h := h.1 q
            refine ws_b rfl ?_
            exact wp_ri rfl rfl rfl ⟨_, _, rfl, rfl, h⟩
          · replace h := h.2 q
            iterate 2 refine ws_b rfl ?_
            exact wp_ri rfl rfl rfl ⟨_, _, rfl, rfl, h⟩
def L_X0_drawOrRefuse_29 (G : ab_G) (fr : Bool) (n0 : Nat) (tl : ab_H) (K : ms_S → Prop) (S : ms_S) (i2 : Int32) (i3 : Int32) : Prop := wp G 6 M_X0_drawOrRefuse fr n0 (poU lC tl K) 29 [some (.ref 36), some (.ref 46), some (.int i2), some (.int i3), none, none, none] [] (hLy lC S tl)
def L_X0_drawOrRefuse_30 (G : ab_G) (fr : Bool) (n0 : Nat) (tl : ab_H) (K : ms_S → Prop) (S : ms_S) (i2 : Int32) (i3 : Int32) (t0 : Int32) : Prop := wp G 6 M_X0_drawOrRefuse fr n0 (poU lC tl K) 30 [some (.ref 36), some (.ref 46), some (.int i2), some (.int i3), none, none, none] [.int t0] (hLy lC S tl)
def L_X0_drawOrRefuse_41 (G : ab_G) (fr : Bool) (n0 : Nat) (tl : ab_H) (K : ms_S → Prop) (S : ms_S) (i2 : Int32) (i3 : Int32) (i4 : Int32) (i5 : Int32) (i6 : Int32) : Prop := wp G 6 M_X0_drawOrRefuse fr n0 (poU lC tl K) 41 [some (.ref 36), some (.ref 46), some (.int i2), some (.int i3), some (.int i4), some (.int i5), some (.int i6)] [] (hLy lC S tl)
def L_X0_drawOrRefuse_112 (G : ab_G) (fr : Bool) (n0 : Nat) (tl : ab_H) (K : ms_S → Prop) (S : ms_S)  : Prop := wp G 6 M_X0_drawOrRefuse fr n0 (poU lC tl K) 112 [none, some (.ref 46), none, none, none, none, none] [] (hLy lC S tl)
def L_X0_drawOrRefuse_122 (G : ab_G) (fr : Bool) (n0 : Nat) (tl : ab_H) (K : ms_S → Prop) (S : ms_S)  : Prop := wp G 6 M_X0_drawOrRefuse fr n0 (poU lC tl K) 122 [none, none, none, none, none, none, none] [] (hLy lC S tl)
set_option maxRecDepth 100000 in
set_option maxHeartbeats 4000000 in
theorem b_X0_drawOrRefuse_29 {G : ab_G} {fr : Bool} {n0 : Nat} {tl : ab_H} {K : ms_S → Prop} {S : ms_S} {i2 : Int32} {i3 : Int32}
    (h : L_X0_drawOrRefuse_30 G fr n0 tl K S i2 i3 (nI 0)) :
    L_X0_drawOrRefuse_29 G fr n0 tl K S i2 i3 := by
  unfold L_X0_drawOrRefuse_29
  refine ws_b rfl ?_
  exact wp_weak (wk_s (wk_s (wk_s (wk_s (wk_s (wk_s (wk_s wk_0))))))) h
set_option maxRecDepth 100000 in
set_option maxHeartbeats 4000000 in
theorem b_X0_drawOrRefuse_30 {G : ab_G} {fr : Bool} {n0 : Nat} {tl : ab_H} {K : ms_S → Prop} {S : ms_S} {i2 : Int32} {i3 : Int32} {t0 : Int32}
    (h : L_X0_drawOrRefuse_41 G fr n0 tl K S i2 i3 t0 (S.1 46 4) (nI 0)) :
    L_X0_drawOrRefuse_30 G fr n0 tl K S i2 i3 t0 := by
  unfold L_X0_drawOrRefuse_30
  iterate 6 refine ws_b rfl ?_
  exact wp_weak (wk_s (wk_s (wk_s (wk_s (wk_s (wk_s (wk_s wk_0))))))) h
set_option maxRecDepth 100000 in
set_option maxHeartbeats 4000000 in
theorem b_X0_drawOrRefuse_41 {G : ab_G} {fr : Bool} {n0 : Nat} {tl : ab_H} {K : ms_S → Prop} {S : ms_S} {i2 : Int32} {i3 : Int32} {i4 : Int32} {i5 : Int32} {i6 : Int32}
    (h : (i4 ≤ i6 → (ctI G 1 M_J6_numberOfTrailingZeros fr [.int i5] lC S tl (fun v1 S1 => (i3 ≤ 0 → (L_X0_drawOrRefuse_112 G fr n0 tl K S1 )) ∧ (¬ i3 ≤ 0 → (((S1.1 0 12) ≤ v1 → (L_X0_drawOrRefuse_112 G fr n0 tl K S1 )) ∧ (¬ (S1.1 0 12) ≤ v1 → (ctI G 5 M_X3_mayHold fr [.ref 31, .ref 46, .int v1, .int i2] lC S1 tl (fun v2 S2 => (v2 = 0 → (L_X0_drawOrRefuse_112 G fr n0 tl K S2 )) ∧ (¬ v2 = 0 → (ctU G 1 M_X1_move fr [.ref 46, .int v1, .int (-(nI 2)), .int i2] lC S2 tl (fun S3 => L_X0_drawOrRefuse_122 G fr n0 tl K S3 ))))))))))) ∧ (¬ i4 ≤ i6 → (L_X0_drawOrRefuse_41 G fr n0 tl K S i2 i3 i4 (i5 &&& (i5 - (nI 1))) (i6 + nI 1)))) :
    L_X0_drawOrRefuse_41 G fr n0 tl K S i2 i3 i4 i5 i6 := by
  unfold L_X0_drawOrRefuse_41
  iterate 3 refine ws_b rfl ?_
  refine wp_ite (fun q => ?_) (fun q => ?_)
  · replace h := h.1 q
    refine ws_b rfl ?_
    refine wp_cS rfl rfl o_J6_numberOfTrailingZeros s_J6_numberOfTrailingZeros h rfl rfl (Nat.le_of_ble_eq_true rfl) (by decide) ?_
    clear h
    rintro r9 h9 ⟨v1, S1, rfl, rfl, h⟩
    iterate 3 refine ws_b rfl ?_
    refine wp_ite (fun q => ?_) (fun q => ?_)
    · replace h := h.1 q
      exact wp_weak (wk_n (wk_s (wk_n (wk_n (wk_n (wk_n (wk_n wk_0))))))) h
    · replace h := h.2 q
      iterate 5 refine ws_b rfl ?_
      refine wp_ite (fun q => ?_) (fun q => ?_)
      · replace h := h.1 q
        exact wp_weak (wk_n (wk_s (wk_n (wk_n (wk_n (wk_n (wk_n wk_0))))))) h
      · replace h := h.2 q
        iterate 5 refine ws_b rfl ?_
        refine wp_cV rfl rfl o_X3_mayHold v_X3_mayHold h rfl rfl rfl (Nat.le_of_ble_eq_true rfl) (by decide) ?_
        clear h
        rintro r9 h9 ⟨v2, S2, rfl, rfl, h⟩
        refine ws_b rfl ?_
        refine wp_ite (fun q => ?_) (fun q => ?_)
        · replace h := h.1 q
          exact wp_weak (wk_n (wk_s (wk_n (wk_n (wk_n (wk_n (wk_n wk_0))))))) h
        · replace h := h.2 q
          iterate 4 refine ws_b rfl ?_
          refine wp_cV rfl rfl o_X1_move v_X1_move h rfl rfl rfl (Nat.le_of_ble_eq_true rfl) (by decide) ?_
          clear h
          rintro r9 h9 ⟨S3, rfl, rfl, h⟩
          refine ws_b rfl ?_
          exact wp_weak (wk_n (wk_n (wk_n (wk_n (wk_n (wk_n (wk_n wk_0))))))) h
  · replace h := h.2 q
    iterate 8 refine ws_b rfl ?_
    exact wp_weak (wk_s (wk_s (wk_s (wk_s (wk_s (wk_s (wk_s wk_0))))))) h
set_option maxRecDepth 100000 in
set_option maxHeartbeats 4000000 in
theorem b_X0_drawOrRefuse_112 {G : ab_G} {fr : Bool} {n0 : Nat} {tl : ab_H} {K : ms_S → Prop} {S : ms_S} 
    (h : L_X0_drawOrRefuse_122 G fr n0 tl K (sVa S 46 6 ((S.1 46 6) + (nI 1))) ) :
    L_X0_drawOrRefuse_112 G fr n0 tl K S  := by
  unfold L_X0_drawOrRefuse_112
  iterate 6 refine ws_b rfl ?_
  exact wp_weak (wk_s (wk_n (wk_s (wk_s (wk_s (wk_s (wk_s wk_0))))))) h
set_option maxRecDepth 100000 in
set_option maxHeartbeats 4000000 in
theorem b_X0_drawOrRefuse_122 {G : ab_G} {fr : Bool} {n0 : Nat} {tl : ab_H} {K : ms_S → Prop} {S : ms_S} 
    (h : K S) :
    L_X0_drawOrRefuse_122 G fr n0 tl K S  := by
  unfold L_X0_drawOrRefuse_122
  exact wp_rv rfl rfl ⟨_, rfl, rfl, h⟩
set_option maxRecDepth 100000 in
set_option maxHeartbeats 4000000 in
theorem m_X0_drawOrRefuse {G : ab_G} {fr : Bool} {tl : ab_H} {K : ms_S → Prop} {S : ms_S} {i2 : Int32}
    (h : ∀ n0 : Nat, ctI G 1 M_J6_bitCount fr [.int (S.1 46 4)] lC S tl (fun v1 S1 => ((S1.1 36 2) = 0 → (L_X0_drawOrRefuse_29 G fr n0 tl K S1 i2 v1)) ∧ (¬ (S1.1 36 2) = 0 → ((v1 ≤ (nI 1) → (L_X0_drawOrRefuse_29 G fr n0 tl K S1 i2 v1)) ∧ (¬ v1 ≤ (nI 1) → (ctI G 1 M_X1_nextNumber fr [.ref 46] lC S1 tl (fun v2 S2 => ¬ v1 = 0 ∧ (L_X0_drawOrRefuse_30 G fr n0 tl K S2 i2 v1 (v2 - v2 / v1 * v1))))))))) :
    ctU G 6 M_X0_drawOrRefuse fr [.ref 36, .ref 46, .int i2] lC S tl K := by
  refine wp_ct o_X0_drawOrRefuse (Nat.le_of_ble_eq_true rfl) ?_
  replace h := h (hLy lC S tl).length
  revert h
  generalize (hLy lC S tl).length = n0
  intro h
  iterate 2 refine ws_b rfl ?_
  refine wp_cS rfl rfl o_J6_bitCount s_J6_bitCount h rfl rfl (Nat.le_of_ble_eq_true rfl) (by decide) ?_
  clear h
  rintro r9 h9 ⟨v1, S1, rfl, rfl, h⟩
  iterate 4 refine ws_b rfl ?_
  refine wp_ite (fun q => ?_) (fun q => ?_)
  · replace h := h.1 q
    exact wp_weak (wk_s (wk_s (wk_s (wk_s (wk_s (wk_s (wk_s wk_0))))))) h
  · replace h := h.2 q
    iterate 3 refine ws_b rfl ?_
    refine wp_ite (fun q => ?_) (fun q => ?_)
    · replace h := h.1 q
      exact wp_weak (wk_s (wk_s (wk_s (wk_s (wk_s (wk_s (wk_s wk_0))))))) h
    · replace h := h.2 q
      refine ws_b rfl ?_
      refine wp_cV rfl rfl o_X1_nextNumber v_X1_nextNumber h rfl rfl rfl (Nat.le_of_ble_eq_true rfl) (by decide) ?_
      clear h
      rintro r9 h9 ⟨v2, S2, rfl, rfl, h⟩
      refine ws_b rfl ?_
      refine ws_g rfl h.1 ?_
      replace h := h.2
      refine ws_b rfl ?_
      exact wp_weak (wk_s (wk_s (wk_s (wk_s (wk_s (wk_s (wk_s wk_0))))))) h
set_option maxRecDepth 100000 in
set_option maxHeartbeats 4000000 in
theorem m_X0_layRow {G : ab_G} {fr : Bool} {tl : ab_H} {K : Int32 → ms_S → Prop} {S : ms_S} {i2 : Int32}
    (h : ∀ n0 : Nat, vp_in i2 5 ∧ (ctI G 1 M_J6_bitCount fr [.int (S.2.2.2.1 47 i2.toNatClampNeg)] lC S tl (fun v1 S1 => (v1 < (S1.1 36 5) → (K (-(nI 2)) S1)) ∧ (¬ v1 < (S1.1 36 5) → (ctI G 5 M_X3_findDearest fr [.ref 31, .ref 46, .int i2] lC S1 tl (fun v2 S2 => (v2 = 0 → (K (-(nI 2)) S2)) ∧ (¬ v2 = 0 → (vp_in i2 5 ∧ (vp_in i2 5 ∧ (vp_in i2 5 ∧ (vp_in i2 5 ∧ (vp_in i2 5 ∧ (vp_in i2 5 ∧ (K (S2.1 31 8) (sA (sVa (sA (sA S2 48 i2.toNatClampNeg (if ((S2.2.2.2.1 48 i2.toNatClampNeg) + (S2.1 31 8)) < ((99999 : Int32)) then ((S2.2.2.2.1 48 i2.toNatClampNeg) + (S2.1 31 8)) else ((99999 : Int32)))) 49 i2.toNatClampNeg ((S2.2.2.2.1 49 i2.toNatClampNeg) + (nI 1))) 46 5 ((S2.1 46 5) ||| (S2.2.2.2.1 47 i2.toNatClampNeg))) 47 i2.toNatClampNeg (nI 0)))))))))))))))) :
    ctI G 6 M_X0_layRow fr [.ref 36, .ref 46, .int i2] lC S tl K := by
  refine wp_ct o_X0_layRow (Nat.le_of_ble_eq_true rfl) ?_
  replace h := h (hLy lC S tl).length
  revert h
  generalize (hLy lC S tl).length = n0
  intro h
  iterate 3 refine ws_b rfl ?_
  refine ws_g rfl h.1 ?_
  replace h := h.2
  refine wp_cS rfl rfl o_J6_bitCount s_J6_bitCount h rfl rfl (Nat.le_of_ble_eq_true rfl) (by decide) ?_
  clear h
  rintro r9 h9 ⟨v1, S1, rfl, rfl, h⟩
  iterate 3 refine ws_b rfl ?_
  refine wp_ite (fun q => ?_) (fun q => ?_)
  · replace h := h.1 q
    refine ws_b rfl ?_
    exact wp_ri rfl rfl rfl ⟨_, _, rfl, rfl, h⟩
  · replace h := h.2 q
    iterate 4 refine ws_b rfl ?_
    refine wp_cV rfl rfl o_X3_findDearest v_X3_findDearest h rfl rfl rfl (Nat.le_of_ble_eq_true rfl) (by decide) ?_
    clear h
    rintro r9 h9 ⟨v2, S2, rfl, rfl, h⟩
    refine ws_b rfl ?_
    refine wp_ite (fun q => ?_) (fun q => ?_)
    · replace h := h.1 q
      refine ws_b rfl ?_
      exact wp_ri rfl rfl rfl ⟨_, _, rfl, rfl, h⟩
    · replace h := h.2 q
      iterate 7 refine ws_b rfl ?_
      refine ws_g rfl h.1 ?_
      replace h := h.2
      iterate 4 refine ws_b rfl ?_
      refine wp_min rfl rfl (Nat.le_of_ble_eq_true rfl) (by decide) ?_
      refine ws_g rfl h.1 ?_
      replace h := h.2
      iterate 4 refine ws_b rfl ?_
      refine ws_g rfl h.1 ?_
      replace h := h.2
      iterate 2 refine ws_b rfl ?_
      refine ws_g rfl h.1 ?_
      replace h := h.2
      iterate 6 refine ws_b rfl ?_
      refine ws_g rfl h.1 ?_
      replace h := h.2
      iterate 6 refine ws_b rfl ?_
      refine ws_g rfl h.1 ?_
      replace h := h.2
      iterate 3 refine ws_b rfl ?_
      exact wp_ri rfl rfl rfl ⟨_, _, rfl, rfl, h⟩
def L_X0_goOn_2 (G : ab_G) (fr : Bool) (n0 : Nat) (tl : ab_H) (K : ms_S → Prop) (S : ms_S) (i2 : Int32) (i3 : Int32) : Prop := wp G 7 M_X0_goOn fr n0 (poU lC tl K) 2 [some (.ref 36), some (.ref 46), some (.int i2), some (.int i3), none] [] (hLy lC S tl)
def L_X0_goOn_10 (G : ab_G) (fr : Bool) (n0 : Nat) (tl : ab_H) (K : ms_S → Prop) (S : ms_S) (i2 : Int32) (i3 : Int32) (i4 : Int32) : Prop := wp G 7 M_X0_goOn fr n0 (poU lC tl K) 10 [some (.ref 36), some (.ref 46), some (.int i2), some (.int i3), some (.int i4)] [] (hLy lC S tl)
def L_X0_goOn_114 (G : ab_G) (fr : Bool) (n0 : Nat) (tl : ab_H) (K : ms_S → Prop) (S : ms_S) (i2 : Int32) (i3 : Int32) (i4 : Int32) : Prop := wp G 7 M_X0_goOn fr n0 (poU lC tl K) 114 [some (.ref 36), some (.ref 46), some (.int i2), some (.int i3), some (.int i4)] [] (hLy lC S tl)
def L_X0_goOn_123 (G : ab_G) (fr : Bool) (n0 : Nat) (tl : ab_H) (K : ms_S → Prop) (S : ms_S) (i2 : Int32) (i3 : Int32) (i4 : Int32) : Prop := wp G 7 M_X0_goOn fr n0 (poU lC tl K) 123 [some (.ref 36), some (.ref 46), some (.int i2), some (.int i3), some (.int i4)] [] (hLy lC S tl)
def L_X0_goOn_184 (G : ab_G) (fr : Bool) (n0 : Nat) (tl : ab_H) (K : ms_S → Prop) (S : ms_S) (i2 : Int32) (i3 : Int32) (i4 : Int32) : Prop := wp G 7 M_X0_goOn fr n0 (poU lC tl K) 184 [some (.ref 36), some (.ref 46), some (.int i2), some (.int i3), some (.int i4)] [] (hLy lC S tl)
def L_X0_goOn_193 (G : ab_G) (fr : Bool) (n0 : Nat) (tl : ab_H) (K : ms_S → Prop) (S : ms_S) (i2 : Int32) (i3 : Int32) (i4 : Int32) : Prop := wp G 7 M_X0_goOn fr n0 (poU lC tl K) 193 [some (.ref 36), some (.ref 46), some (.int i2), some (.int i3), some (.int i4)] [] (hLy lC S tl)
set_option maxRecDepth 100000 in
set_option maxHeartbeats 4000000 in
theorem b_X0_goOn_2 {G : ab_G} {fr : Bool} {n0 : Nat} {tl : ab_H} {K : ms_S → Prop} {S : ms_S} {i2 : Int32} {i3 : Int32}
    (h : (i2 ≤ i3 → (K S)) ∧ (¬ i2 ≤ i3 → (L_X0_goOn_10 G fr n0 tl K S i2 i3 (nI 0)))) :
    L_X0_goOn_2 G fr n0 tl K S i2 i3 := by
  unfold L_X0_goOn_2
  iterate 3 refine ws_b rfl ?_
  refine wp_ite (fun q => ?_) (fun q => ?_)
  · replace h := h.1 q
    exact wp_rv rfl rfl ⟨_, rfl, rfl, h⟩
  · replace h := h.2 q
    iterate 2 refine ws_b rfl ?_
    exact wp_weak (wk_s (wk_s (wk_s (wk_s (wk_s wk_0))))) h
set_option maxRecDepth 100000 in
set_option maxHeartbeats 4000000 in
theorem b_X0_goOn_10 {G : ab_G} {fr : Bool} {n0 : Nat} {tl : ab_H} {K : ms_S → Prop} {S : ms_S} {i2 : Int32} {i3 : Int32} {i4 : Int32}
    (h : ((S.1 0 14) ≤ i4 → (L_X0_goOn_123 G fr n0 tl K S i2 i3 (nI 0))) ∧ (¬ (S.1 0 14) ≤ i4 → (vp_in i4 8 ∧ (((S.2.2.2.1 9 i4.toNatClampNeg) = (S.1 46 3) → (((S.1 36 3) = 0 → (vp_in i4 8 ∧ (vp_in i4 8 ∧ (ctI G 6 M_X0_canTrade fr [.ref 36, .ref 46, .int (S.2.2.2.1 7 i4.toNatClampNeg), .int (S.2.2.2.1 8 i4.toNatClampNeg)] lC S tl (fun v1 S1 => (v1 = 0 → (L_X0_goOn_114 G fr n0 tl K (sVa S1 46 6 ((S1.1 46 6) + (nI 1))) i2 i3 i4)) ∧ (¬ v1 = 0 → (vp_in i4 8 ∧ (vp_in i4 8 ∧ (ctU G 2 M_X1_change fr [.ref 46, .int (S1.2.2.2.1 7 i4.toNatClampNeg), .int (S1.2.2.2.1 8 i4.toNatClampNeg)] lC S1 tl (fun S2 => L_X0_goOn_114 G fr n0 tl K S2 i2 i3 i4)))))))))) ∧ (¬ (S.1 36 3) = 0 → (L_X0_goOn_114 G fr n0 tl K S i2 i3 i4)))) ∧ (¬ (S.2.2.2.1 9 i4.toNatClampNeg) = (S.1 46 3) → (L_X0_goOn_114 G fr n0 tl K S i2 i3 i4)))))) :
    L_X0_goOn_10 G fr n0 tl K S i2 i3 i4 := by
  unfold L_X0_goOn_10
  iterate 5 refine ws_b rfl ?_
  refine wp_ite (fun q => ?_) (fun q => ?_)
  · replace h := h.1 q
    iterate 2 refine ws_b rfl ?_
    exact wp_weak (wk_s (wk_s (wk_s (wk_s (wk_s wk_0))))) h
  · replace h := h.2 q
    iterate 4 refine ws_b rfl ?_
    refine ws_g rfl h.1 ?_
    replace h := h.2
    iterate 3 refine ws_b rfl ?_
    refine wp_ite (fun q => ?_) (fun q => ?_)
    · replace h := h.1 q
      iterate 3 refine ws_b rfl ?_
      refine wp_ite (fun q => ?_) (fun q => ?_)
      · replace h := h.1 q
        iterate 6 refine ws_b rfl ?_
        refine ws_g rfl h.1 ?_
        replace h := h.2
        iterate 4 refine ws_b rfl ?_
        refine ws_g rfl h.1 ?_
        replace h := h.2
        refine wp_cV rfl rfl o_X0_canTrade v_X0_canTrade h rfl rfl rfl (Nat.le_of_ble_eq_true rfl) (by decide) ?_
        clear h
        rintro r9 h9 ⟨v1, S1, rfl, rfl, h⟩
        refine ws_b rfl ?_
        refine wp_ite (fun q => ?_) (fun q => ?_)
        · replace h := h.1 q
          iterate 6 refine ws_b rfl ?_
          exact wp_weak (wk_s (wk_s (wk_s (wk_s (wk_s wk_0))))) h
        · replace h := h.2 q
          iterate 5 refine ws_b rfl ?_
          refine ws_g rfl h.1 ?_
          replace h := h.2
          iterate 4 refine ws_b rfl ?_
          refine ws_g rfl h.1 ?_
          replace h := h.2
          refine wp_cV rfl rfl o_X1_change v_X1_change h rfl rfl rfl (Nat.le_of_ble_eq_true rfl) (by decide) ?_
          clear h
          rintro r9 h9 ⟨S2, rfl, rfl, h⟩
          refine ws_b rfl ?_
          exact wp_weak (wk_s (wk_s (wk_s (wk_s (wk_s wk_0))))) h
      · replace h := h.2 q
        refine ws_b rfl ?_
        exact wp_weak (wk_s (wk_s (wk_s (wk_s (wk_s wk_0))))) h
    · replace h := h.2 q
      exact wp_weak (wk_s (wk_s (wk_s (wk_s (wk_s wk_0))))) h
set_option maxRecDepth 100000 in
set_option maxHeartbeats 4000000 in
theorem b_X0_goOn_114 {G : ab_G} {fr : Bool} {n0 : Nat} {tl : ab_H} {K : ms_S → Prop} {S : ms_S} {i2 : Int32} {i3 : Int32} {i4 : Int32}
    (h : L_X0_goOn_10 G fr n0 tl K S i2 i3 (i4 + nI 1)) :
    L_X0_goOn_114 G fr n0 tl K S i2 i3 i4 := by
  unfold L_X0_goOn_114
  iterate 2 refine ws_b rfl ?_
  exact wp_weak (wk_s (wk_s (wk_s (wk_s (wk_s wk_0))))) h
set_option maxRecDepth 100000 in
set_option maxHeartbeats 4000000 in
theorem b_X0_goOn_123 {G : ab_G} {fr : Bool} {n0 : Nat} {tl : ab_H} {K : ms_S → Prop} {S : ms_S} {i2 : Int32} {i3 : Int32} {i4 : Int32}
    (h : ((S.1 0 15) ≤ i4 → (L_X0_goOn_193 G fr n0 tl K S i2 i3 (nI 0))) ∧ (¬ (S.1 0 15) ≤ i4 → (vp_in i4 10 ∧ (((S.2.2.2.1 11 i4.toNatClampNeg) = (S.1 46 3) → (vp_in i4 10 ∧ (((S.2.2.2.1 10 i4.toNatClampNeg) = (S.1 36 4) → (L_X0_goOn_184 G fr n0 tl K S i2 i3 i4)) ∧ (¬ (S.2.2.2.1 10 i4.toNatClampNeg) = (S.1 36 4) → (vp_in i4 10 ∧ (ctU G 6 M_X0_drawOrRefuse fr [.ref 36, .ref 46, .int (S.2.2.2.1 10 i4.toNatClampNeg)] lC S tl (fun S1 => L_X0_goOn_184 G fr n0 tl K S1 i2 i3 i4))))))) ∧ (¬ (S.2.2.2.1 11 i4.toNatClampNeg) = (S.1 46 3) → (L_X0_goOn_184 G fr n0 tl K S i2 i3 i4)))))) :
    L_X0_goOn_123 G fr n0 tl K S i2 i3 i4 := by
  unfold L_X0_goOn_123
  iterate 5 refine ws_b rfl ?_
  refine wp_ite (fun q => ?_) (fun q => ?_)
  · replace h := h.1 q
    iterate 2 refine ws_b rfl ?_
    exact wp_weak (wk_s (wk_s (wk_s (wk_s (wk_s wk_0))))) h
  · replace h := h.2 q
    iterate 4 refine ws_b rfl ?_
    refine ws_g rfl h.1 ?_
    replace h := h.2
    iterate 3 refine ws_b rfl ?_
    refine wp_ite (fun q => ?_) (fun q => ?_)
    · replace h := h.1 q
      iterate 4 refine ws_b rfl ?_
      refine ws_g rfl h.1 ?_
      replace h := h.2
      iterate 3 refine ws_b rfl ?_
      refine wp_ite (fun q => ?_) (fun q => ?_)
      · replace h := h.1 q
        exact wp_weak (wk_s (wk_s (wk_s (wk_s (wk_s wk_0))))) h
      · replace h := h.2 q
        iterate 6 refine ws_b rfl ?_
        refine ws_g rfl h.1 ?_
        replace h := h.2
        refine wp_cV rfl rfl o_X0_drawOrRefuse v_X0_drawOrRefuse h rfl rfl rfl (Nat.le_of_ble_eq_true rfl) (by decide) ?_
        clear h
        rintro r9 h9 ⟨S1, rfl, rfl, h⟩
        exact wp_weak (wk_s (wk_s (wk_s (wk_s (wk_s wk_0))))) h
    · replace h := h.2 q
      exact wp_weak (wk_s (wk_s (wk_s (wk_s (wk_s wk_0))))) h
set_option maxRecDepth 100000 in
set_option maxHeartbeats 4000000 in
theorem b_X0_goOn_184 {G : ab_G} {fr : Bool} {n0 : Nat} {tl : ab_H} {K : ms_S → Prop} {S : ms_S} {i2 : Int32} {i3 : Int32} {i4 : Int32}
    (h : L_X0_goOn_123 G fr n0 tl K S i2 i3 (i4 + nI 1)) :
    L_X0_goOn_184 G fr n0 tl K S i2 i3 i4 := by
  unfold L_X0_goOn_184
  iterate 2 refine ws_b rfl ?_
  exact wp_weak (wk_s (wk_s (wk_s (wk_s (wk_s wk_0))))) h
set_option maxRecDepth 100000 in
set_option maxHeartbeats 4000000 in
theorem b_X0_goOn_193 {G : ab_G} {fr : Bool} {n0 : Nat} {tl : ab_H} {K : ms_S → Prop} {S : ms_S} {i2 : Int32} {i3 : Int32} {i4 : Int32}
    (h : ((S.1 0 13) ≤ i4 → (L_X0_goOn_2 G fr n0 tl K (sVa S 46 3 ((S.1 46 3) + (nI 1))) i2 (i3 + nI 1))) ∧ (¬ (S.1 0 13) ≤ i4 → (ctI G 6 M_X0_layRow fr [.ref 36, .ref 46, .int i4] lC S tl (fun v1 S1 => L_X0_goOn_193 G fr n0 tl K S1 i2 i3 (i4 + nI 1))))) :
    L_X0_goOn_193 G fr n0 tl K S i2 i3 i4 := by
  unfold L_X0_goOn_193
  iterate 5 refine ws_b rfl ?_
  refine wp_ite (fun q => ?_) (fun q => ?_)
  · replace h := h.1 q
    iterate 8 refine ws_b rfl ?_
    exact wp_weak (wk_s (wk_s (wk_s (wk_s (wk_n wk_0))))) h
  · replace h := h.2 q
    iterate 3 refine ws_b rfl ?_
    refine wp_cV rfl rfl o_X0_layRow v_X0_layRow h rfl rfl rfl (Nat.le_of_ble_eq_true rfl) (by decide) ?_
    clear h
    rintro r9 h9 ⟨v1, S1, rfl, rfl, h⟩
    iterate 3 refine ws_b rfl ?_
    exact wp_weak (wk_s (wk_s (wk_s (wk_s (wk_s wk_0))))) h
set_option maxRecDepth 100000 in
set_option maxHeartbeats 4000000 in
theorem m_X0_goOn {G : ab_G} {fr : Bool} {tl : ab_H} {K : ms_S → Prop} {S : ms_S} {i2 : Int32}
    (h : ∀ n0 : Nat, L_X0_goOn_2 G fr n0 tl K S i2 (nI 0)) :
    ctU G 7 M_X0_goOn fr [.ref 36, .ref 46, .int i2] lC S tl K := by
  refine wp_ct o_X0_goOn (Nat.le_of_ble_eq_true rfl) ?_
  replace h := h (hLy lC S tl).length
  revert h
  generalize (hLy lC S tl).length = n0
  intro h
  iterate 2 refine ws_b rfl ?_
  exact wp_weak (wk_s (wk_s (wk_s (wk_s (wk_s wk_0))))) h

