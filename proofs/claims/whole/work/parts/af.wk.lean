/-! ===== the program: game, shape, notes, walks ===== -/
def L_J7_filltot_5 (G : ab_G) (fr : Bool) (n0 : Nat) (tl : ab_H) (K : ms_S → Prop) (S : ms_S) (i1 : Int32) (i2 : Int32) (i3 : Int32) : Prop := wp G 1 M_J7_fill fr n0 (poU lC tl K) 5 [some (.ref 39), some (.int i1), some (.int i2), some (.int i3)] [] (hLy lC S tl)
set_option maxRecDepth 100000 in
set_option maxHeartbeats 4000000 in
theorem b_J7_filltot_5 {G : ab_G} {fr : Bool} {n0 : Nat} {tl : ab_H} {K : ms_S → Prop} {S : ms_S} {i1 : Int32} {i2 : Int32} {i3 : Int32}
    (h : (i3 ≤ i2 → (K S)) ∧ (¬ i3 ≤ i2 → (vp_in i2 3584 ∧ (L_J7_filltot_5 G fr n0 tl K (sA S 39 i2.toNatClampNeg i1) i1 (i2 + nI 1) i3)))) :
    L_J7_filltot_5 G fr n0 tl K S i1 i2 i3 := by
  unfold L_J7_filltot_5
  iterate 3 refine ws_b rfl ?_
  refine wp_ite (fun q => ?_) (fun q => ?_)
  · replace h := h.1 q
    exact wp_rv rfl rfl ⟨_, rfl, rfl, h⟩
  · replace h := h.2 q
    iterate 3 refine ws_b rfl ?_
    refine ws_g rfl h.1 ?_
    replace h := h.2
    iterate 2 refine ws_b rfl ?_
    exact wp_weak (wk_s (wk_s (wk_s (wk_s wk_0)))) h
set_option maxRecDepth 100000 in
set_option maxHeartbeats 4000000 in
theorem m_J7_filltot {G : ab_G} {fr : Bool} {tl : ab_H} {K : ms_S → Prop} {S : ms_S} {i1 : Int32}
    (h : ∀ n0 : Nat, L_J7_filltot_5 G fr n0 tl K S i1 (nI 0) (nI 3584)) :
    ctU G 1 M_J7_fill fr [.ref 39, .int i1] lC S tl K := by
  refine wp_ct o_J7_fill (Nat.le_of_ble_eq_true rfl) ?_
  replace h := h (hLy lC S tl).length
  revert h
  generalize (hLy lC S tl).length = n0
  intro h
  iterate 5 refine ws_b rfl ?_
  exact wp_weak (wk_s (wk_s (wk_s (wk_s wk_0)))) h
def L_X2_open_22 (G : ab_G) (fr : Bool) (n0 : Nat) (tl : ab_H) (K : ms_S → Prop) (S : ms_S)  : Prop := wp G 2 M_X2_open fr n0 (poU lC tl K) 22 [none, none, none] [] (hLy lC S tl)
set_option maxRecDepth 100000 in
set_option maxHeartbeats 4000000 in
theorem b_X2_open_22 {G : ab_G} {fr : Bool} {n0 : Nat} {tl : ab_H} {K : ms_S → Prop} {S : ms_S} 
    (h : K S) :
    L_X2_open_22 G fr n0 tl K S  := by
  unfold L_X2_open_22
  exact wp_rv rfl rfl ⟨_, rfl, rfl, h⟩
set_option maxRecDepth 100000 in
set_option maxHeartbeats 4000000 in
theorem m_X2_open {G : ab_G} {fr : Bool} {tl : ab_H} {K : ms_S → Prop} {S : ms_S} {i1 : Int32} {i2 : Int32}
    (h : ∀ n0 : Nat, ctI G 1 M_X2_isBetter fr [.int i2, .int (S.1 37 4), .int (nI 0)] lC S tl (fun v1 S1 => (v1 = 0 → (L_X2_open_22 G fr n0 tl K S1 )) ∧ (¬ v1 = 0 → (L_X2_open_22 G fr n0 tl K (sVa (sVa S1 37 4 i2) 37 5 i1) )))) :
    ctU G 2 M_X2_open fr [.ref 37, .int i1, .int i2] lC S tl K := by
  refine wp_ct o_X2_open (Nat.le_of_ble_eq_true rfl) ?_
  replace h := h (hLy lC S tl).length
  revert h
  generalize (hLy lC S tl).length = n0
  intro h
  iterate 4 refine ws_b rfl ?_
  refine wp_cS rfl rfl o_X2_isBetter s_X2_isBetter h rfl rfl (Nat.le_of_ble_eq_true rfl) (by decide) ?_
  clear h
  rintro r9 h9 ⟨v1, S1, rfl, rfl, h⟩
  refine ws_b rfl ?_
  refine wp_ite (fun q => ?_) (fun q => ?_)
  · replace h := h.1 q
    exact wp_weak (wk_n (wk_n (wk_n wk_0))) h
  · replace h := h.2 q
    iterate 6 refine ws_b rfl ?_
    exact wp_weak (wk_n (wk_n (wk_n wk_0))) h
def L_X2_totalFrom_64 (D : Nat) (G : ab_G) (fr : Bool) (n0 : Nat) (tl : ab_H) (K : Int32 → ms_S → Prop) (S : ms_S) (i1 : Int32) (i2 : Int32) (i3 : Int32) (i4 : Int32) (i5 : Int32) (i7 : Int32) (i8 : Int32) (i9 : Int32) : Prop := wp G (D + 2) M_X2_totalFrom fr n0 (poI lC tl K) 64 [some (.ref 37), some (.int i1), some (.int i2), some (.int i3), some (.int i4), some (.int i5), none, some (.int i7), some (.int i8), some (.int i9), none, none, none, none, none] [] (hLy lC S tl)
def L_X2_totalFrom_97 (D : Nat) (G : ab_G) (fr : Bool) (n0 : Nat) (tl : ab_H) (K : Int32 → ms_S → Prop) (S : ms_S) (i1 : Int32) (i2 : Int32) (i3 : Int32) (i4 : Int32) (i5 : Int32) (i7 : Int32) (i8 : Int32) (i9 : Int32) (i10 : Int32) (t0 : Int32) : Prop := wp G (D + 2) M_X2_totalFrom fr n0 (poI lC tl K) 97 [some (.ref 37), some (.int i1), some (.int i2), some (.int i3), some (.int i4), some (.int i5), none, some (.int i7), some (.int i8), some (.int i9), some (.int i10), none, none, none, none] [.int t0] (hLy lC S tl)
def L_X2_totalFrom_127 (D : Nat) (G : ab_G) (fr : Bool) (n0 : Nat) (tl : ab_H) (K : Int32 → ms_S → Prop) (S : ms_S) (i1 : Int32) (i2 : Int32) (i3 : Int32) (i4 : Int32) (i5 : Int32) (i7 : Int32) (i8 : Int32) (i9 : Int32) (i10 : Int32) (i11 : Int32) (t0 : Int32) : Prop := wp G (D + 2) M_X2_totalFrom fr n0 (poI lC tl K) 127 [some (.ref 37), some (.int i1), some (.int i2), some (.int i3), some (.int i4), some (.int i5), none, some (.int i7), some (.int i8), some (.int i9), some (.int i10), some (.int i11), none, none, none] [.int t0] (hLy lC S tl)
def L_X2_totalFrom_157 (D : Nat) (G : ab_G) (fr : Bool) (n0 : Nat) (tl : ab_H) (K : Int32 → ms_S → Prop) (S : ms_S) (i1 : Int32) (i2 : Int32) (i3 : Int32) (i4 : Int32) (i5 : Int32) (i7 : Int32) (i8 : Int32) (i9 : Int32) (i10 : Int32) (i12 : Int32) (t0 : Int32) : Prop := wp G (D + 2) M_X2_totalFrom fr n0 (poI lC tl K) 157 [some (.ref 37), some (.int i1), some (.int i2), some (.int i3), some (.int i4), some (.int i5), none, some (.int i7), some (.int i8), some (.int i9), some (.int i10), none, some (.int i12), none, none] [.int t0] (hLy lC S tl)
def L_X2_totalFrom_217 (D : Nat) (G : ab_G) (fr : Bool) (n0 : Nat) (tl : ab_H) (K : Int32 → ms_S → Prop) (S : ms_S) (i1 : Int32) (i2 : Int32) (i3 : Int32) (i4 : Int32) (i5 : Int32) (i7 : Int32) (i8 : Int32) (i9 : Int32) (i10 : Int32) (i12 : Int32) (i13 : Int32) (i14 : Int32) : Prop := wp G (D + 2) M_X2_totalFrom fr n0 (poI lC tl K) 217 [some (.ref 37), some (.int i1), some (.int i2), some (.int i3), some (.int i4), some (.int i5), none, some (.int i7), some (.int i8), some (.int i9), some (.int i10), none, some (.int i12), some (.int i13), some (.int i14)] [] (hLy lC S tl)
def L_X2_totalFrom_257 (D : Nat) (G : ab_G) (fr : Bool) (n0 : Nat) (tl : ab_H) (K : Int32 → ms_S → Prop) (S : ms_S) (i1 : Int32) (i2 : Int32) (i3 : Int32) (i4 : Int32) (i5 : Int32) (i7 : Int32) (i8 : Int32) (i9 : Int32) (i14 : Int32) : Prop := wp G (D + 2) M_X2_totalFrom fr n0 (poI lC tl K) 257 [some (.ref 37), some (.int i1), some (.int i2), some (.int i3), some (.int i4), some (.int i5), none, some (.int i7), some (.int i8), some (.int i9), none, none, none, none, some (.int i14)] [] (hLy lC S tl)
def L_X2_totalFrom_276 (D : Nat) (G : ab_G) (fr : Bool) (n0 : Nat) (tl : ab_H) (K : Int32 → ms_S → Prop) (S : ms_S) (i1 : Int32) (i2 : Int32) (i3 : Int32) (i4 : Int32) (i5 : Int32) (i8 : Int32) (i9 : Int32) (t0 : Int32) : Prop := wp G (D + 2) M_X2_totalFrom fr n0 (poI lC tl K) 276 [some (.ref 37), some (.int i1), some (.int i2), some (.int i3), some (.int i4), some (.int i5), none, none, some (.int i8), some (.int i9), none, none, none, none, none] [.int t0] (hLy lC S tl)
def L_X2_totalFrom_278 (D : Nat) (G : ab_G) (fr : Bool) (n0 : Nat) (tl : ab_H) (K : Int32 → ms_S → Prop) (S : ms_S) (i1 : Int32) (i2 : Int32) (i3 : Int32) (i4 : Int32) (i5 : Int32) (i7 : Int32) (i8 : Int32) (i9 : Int32) : Prop := wp G (D + 2) M_X2_totalFrom fr n0 (poI lC tl K) 278 [some (.ref 37), some (.int i1), some (.int i2), some (.int i3), some (.int i4), some (.int i5), none, some (.int i7), some (.int i8), some (.int i9), none, none, none, none, none] [] (hLy lC S tl)
set_option maxRecDepth 100000 in
set_option maxHeartbeats 4000000 in
theorem b_X2_totalFrom_64 {D : Nat} {G : ab_G} {fr : Bool} {n0 : Nat} {tl : ab_H} {K : Int32 → ms_S → Prop} {S : ms_S} {i1 : Int32} {i2 : Int32} {i3 : Int32} {i4 : Int32} {i5 : Int32} {i7 : Int32} {i8 : Int32} {i9 : Int32}
    (h : (((S.1 0 12) * (nI 4)) ≤ i9 → (vp_in i5 3584 ∧ (vp_in i5 3584 ∧ (K i7 (sA S 39 i5.toNatClampNeg ((S.2.2.2.1 39 i5.toNatClampNeg) ||| (i7 <<< ((i3 * (nI 4)) &&& 31)))))))) ∧ (¬ ((S.1 0 12) * (nI 4)) ≤ i9 → (¬ (nI 4) = 0 ∧ (¬ (nI 2) = 0 ∧ (((i9 - i9 / (nI 2) * (nI 2)) = (nI 1) → (L_X2_totalFrom_97 D G fr n0 tl K S i1 i2 i3 i4 i5 i7 i8 i9 (i9 / (nI 4)) (nI 1))) ∧ (¬ (i9 - i9 / (nI 2) * (nI 2)) = (nI 1) → (L_X2_totalFrom_97 D G fr n0 tl K S i1 i2 i3 i4 i5 i7 i8 i9 (i9 / (nI 4)) (nI 0)))))))) :
    L_X2_totalFrom_64 D G fr n0 tl K S i1 i2 i3 i4 i5 i7 i8 i9 := by
  unfold L_X2_totalFrom_64
  iterate 7 refine ws_b rfl ?_
  refine wp_ite (fun q => ?_) (fun q => ?_)
  · replace h := h.1 q
    iterate 4 refine ws_b rfl ?_
    refine ws_g rfl h.1 ?_
    replace h := h.2
    iterate 6 refine ws_b rfl ?_
    refine ws_g rfl h.1 ?_
    replace h := h.2
    refine ws_b rfl ?_
    exact wp_ri rfl rfl rfl ⟨_, _, rfl, rfl, h⟩
  · replace h := h.2 q
    iterate 2 refine ws_b rfl ?_
    refine ws_g rfl h.1 ?_
    replace h := h.2
    iterate 3 refine ws_b rfl ?_
    refine ws_g rfl h.1 ?_
    replace h := h.2
    iterate 2 refine ws_b rfl ?_
    refine wp_ite (fun q => ?_) (fun q => ?_)
    · replace h := h.1 q
      iterate 2 refine ws_b rfl ?_
      exact wp_weak (wk_s (wk_s (wk_s (wk_s (wk_s (wk_s (wk_s (wk_s (wk_s (wk_s (wk_s (wk_s (wk_s (wk_s (wk_s wk_0))))))))))))))) h
    · replace h := h.2 q
      refine ws_b rfl ?_
      exact wp_weak (wk_s (wk_s (wk_s (wk_s (wk_s (wk_s (wk_s (wk_s (wk_s (wk_s (wk_s (wk_s (wk_s (wk_s (wk_s wk_0))))))))))))))) h
set_option maxRecDepth 100000 in
set_option maxHeartbeats 4000000 in
theorem b_X2_totalFrom_97 {D : Nat} {G : ab_G} {fr : Bool} {n0 : Nat} {tl : ab_H} {K : Int32 → ms_S → Prop} {S : ms_S} {i1 : Int32} {i2 : Int32} {i3 : Int32} {i4 : Int32} {i5 : Int32} {i7 : Int32} {i8 : Int32} {i9 : Int32} {i10 : Int32} {t0 : Int32}
    (h : (t0 = 0 → (vp_in i10 9 ∧ (L_X2_totalFrom_127 D G fr n0 tl K S i1 i2 i3 i4 i5 i7 i8 i9 i10 t0 (S.2.2.2.1 2 i10.toNatClampNeg)))) ∧ (¬ t0 = 0 → (vp_in i10 9 ∧ (L_X2_totalFrom_127 D G fr n0 tl K S i1 i2 i3 i4 i5 i7 i8 i9 i10 t0 (S.2.2.2.1 3 i10.toNatClampNeg))))) :
    L_X2_totalFrom_97 D G fr n0 tl K S i1 i2 i3 i4 i5 i7 i8 i9 i10 t0 := by
  unfold L_X2_totalFrom_97
  iterate 3 refine ws_b rfl ?_
  refine wp_ite (fun q => ?_) (fun q => ?_)
  · replace h := h.1 q
    iterate 4 refine ws_b rfl ?_
    refine ws_g rfl h.1 ?_
    replace h := h.2
    exact wp_weak (wk_s (wk_s (wk_s (wk_s (wk_s (wk_s (wk_s (wk_s (wk_s (wk_s (wk_s (wk_s (wk_s (wk_s (wk_s wk_0))))))))))))))) h
  · replace h := h.2 q
    iterate 4 refine ws_b rfl ?_
    refine ws_g rfl h.1 ?_
    replace h := h.2
    refine ws_b rfl ?_
    exact wp_weak (wk_s (wk_s (wk_s (wk_s (wk_s (wk_s (wk_s (wk_s (wk_s (wk_s (wk_s (wk_s (wk_s (wk_s (wk_s wk_0))))))))))))))) h
set_option maxRecDepth 100000 in
set_option maxHeartbeats 4000000 in
theorem b_X2_totalFrom_127 {D : Nat} {G : ab_G} {fr : Bool} {n0 : Nat} {tl : ab_H} {K : Int32 → ms_S → Prop} {S : ms_S} {i1 : Int32} {i2 : Int32} {i3 : Int32} {i4 : Int32} {i5 : Int32} {i7 : Int32} {i8 : Int32} {i9 : Int32} {i10 : Int32} {i11 : Int32} {t0 : Int32}
    (h : (i11 = 0 → (vp_in i10 9 ∧ (L_X2_totalFrom_157 D G fr n0 tl K S i1 i2 i3 i4 i5 i7 i8 i9 i10 t0 (S.2.2.2.1 3 i10.toNatClampNeg)))) ∧ (¬ i11 = 0 → (vp_in i10 9 ∧ (L_X2_totalFrom_157 D G fr n0 tl K S i1 i2 i3 i4 i5 i7 i8 i9 i10 t0 (S.2.2.2.1 2 i10.toNatClampNeg))))) :
    L_X2_totalFrom_127 D G fr n0 tl K S i1 i2 i3 i4 i5 i7 i8 i9 i10 i11 t0 := by
  unfold L_X2_totalFrom_127
  iterate 3 refine ws_b rfl ?_
  refine wp_ite (fun q => ?_) (fun q => ?_)
  · replace h := h.1 q
    iterate 4 refine ws_b rfl ?_
    refine ws_g rfl h.1 ?_
    replace h := h.2
    exact wp_weak (wk_s (wk_s (wk_s (wk_s (wk_s (wk_s (wk_s (wk_s (wk_s (wk_s (wk_s (wk_n (wk_s (wk_s (wk_s wk_0))))))))))))))) h
  · replace h := h.2 q
    iterate 4 refine ws_b rfl ?_
    refine ws_g rfl h.1 ?_
    replace h := h.2
    refine ws_b rfl ?_
    exact wp_weak (wk_s (wk_s (wk_s (wk_s (wk_s (wk_s (wk_s (wk_s (wk_s (wk_s (wk_s (wk_n (wk_s (wk_s (wk_s wk_0))))))))))))))) h
set_option maxRecDepth 100000 in
set_option maxHeartbeats 4000000 in
theorem b_X2_totalFrom_157 {D : Nat} {G : ab_G} {fr : Bool} {n0 : Nat} {tl : ab_H} {K : Int32 → ms_S → Prop} {S : ms_S} {i1 : Int32} {i2 : Int32} {i3 : Int32} {i4 : Int32} {i5 : Int32} {i7 : Int32} {i8 : Int32} {i9 : Int32} {i10 : Int32} {i12 : Int32} {t0 : Int32}
    (h : ((((i8.toUInt32 >>> (i10.toUInt32 &&& Int32.toUInt32 31)).toInt32) &&& (nI 1)) = (nI 1) → (¬ (nI 4) = 0 ∧ (((nI 2) ≤ (i9 - i9 / (nI 4) * (nI 4)) → (L_X2_totalFrom_217 D G fr n0 tl K S i1 i2 i3 i4 i5 i7 i8 i9 i10 i12 t0 i7)) ∧ (¬ (nI 2) ≤ (i9 - i9 / (nI 4) * (nI 4)) → (ctI G 1 M_X9_meets fr [.ref 25, .int i3, .int i12] lC S tl (fun v1 S1 => (v1 = 0 → (L_X2_totalFrom_217 D G fr n0 tl K S1 i1 i2 i3 i4 i5 i7 i8 i9 i10 i12 t0 i7)) ∧ (¬ v1 = 0 → (ctI G (D + 1) M_X2_totalFrom fr [.ref 37, .int (i1 ||| ((nI 1) <<< (i10 &&& 31))), .int i2, .int t0, .int (i4 + (nI 1))] lC S1 tl (fun v2 S2 => L_X2_totalFrom_257 D G fr n0 tl K S2 i1 i2 i3 i4 i5 i7 i8 i9 v2))))))))) ∧ (¬ (((i8.toUInt32 >>> (i10.toUInt32 &&& Int32.toUInt32 31)).toInt32) &&& (nI 1)) = (nI 1) → (L_X2_totalFrom_278 D G fr n0 tl K S i1 i2 i3 i4 i5 i7 i8 i9))) :
    L_X2_totalFrom_157 D G fr n0 tl K S i1 i2 i3 i4 i5 i7 i8 i9 i10 i12 t0 := by
  unfold L_X2_totalFrom_157
  iterate 8 refine ws_b rfl ?_
  refine wp_ite (fun q => ?_) (fun q => ?_)
  · replace h := h.1 q
    iterate 4 refine ws_b rfl ?_
    refine ws_g rfl h.1 ?_
    replace h := h.2
    iterate 2 refine ws_b rfl ?_
    refine wp_ite (fun q => ?_) (fun q => ?_)
    · replace h := h.1 q
      exact wp_weak (wk_s (wk_s (wk_s (wk_s (wk_s (wk_s (wk_s (wk_s (wk_s (wk_s (wk_s (wk_s (wk_s (wk_s (wk_s wk_0))))))))))))))) h
    · replace h := h.2 q
      iterate 4 refine ws_b rfl ?_
      refine wp_cV rfl rfl o_X9_meets v_X9_meets h rfl rfl rfl (Nat.le_of_ble_eq_true rfl) (by omega) ?_
      clear h
      rintro r9 h9 ⟨v1, S1, rfl, rfl, h⟩
      refine ws_b rfl ?_
      refine wp_ite (fun q => ?_) (fun q => ?_)
      · replace h := h.1 q
        exact wp_weak (wk_s (wk_s (wk_s (wk_s (wk_s (wk_s (wk_s (wk_s (wk_s (wk_s (wk_s (wk_s (wk_s (wk_s (wk_s wk_0))))))))))))))) h
      · replace h := h.2 q
        iterate 11 refine ws_b rfl ?_
        refine wp_cV rfl rfl o_X2_totalFrom v_X2_totalFrom h rfl rfl rfl (Nat.le_of_ble_eq_true rfl) (by omega) ?_
        clear h
        rintro r9 h9 ⟨v2, S2, rfl, rfl, h⟩
        iterate 2 refine ws_b rfl ?_
        exact wp_weak (wk_s (wk_s (wk_s (wk_s (wk_s (wk_s (wk_s (wk_s (wk_s (wk_s (wk_n (wk_s (wk_n (wk_n (wk_s wk_0))))))))))))))) h
  · replace h := h.2 q
    exact wp_weak (wk_s (wk_s (wk_s (wk_s (wk_s (wk_s (wk_s (wk_s (wk_s (wk_s (wk_n (wk_s (wk_n (wk_n (wk_s wk_0))))))))))))))) h
set_option maxRecDepth 100000 in
set_option maxHeartbeats 4000000 in
theorem b_X2_totalFrom_217 {D : Nat} {G : ab_G} {fr : Bool} {n0 : Nat} {tl : ab_H} {K : Int32 → ms_S → Prop} {S : ms_S} {i1 : Int32} {i2 : Int32} {i3 : Int32} {i4 : Int32} {i5 : Int32} {i7 : Int32} {i8 : Int32} {i9 : Int32} {i10 : Int32} {i12 : Int32} {i13 : Int32} {i14 : Int32}
    (h : ¬ (nI 4) = 0 ∧ (((i9 - i9 / (nI 4) * (nI 4)) < (nI 2) → (L_X2_totalFrom_257 D G fr n0 tl K S i1 i2 i3 i4 i5 i7 i8 i9 i14)) ∧ (¬ (i9 - i9 / (nI 4) * (nI 4)) < (nI 2) → (ctI G 1 M_X9_meets fr [.ref 25, .int i13, .int i2] lC S tl (fun v1 S1 => (v1 = 0 → (L_X2_totalFrom_257 D G fr n0 tl K S1 i1 i2 i3 i4 i5 i7 i8 i9 i14)) ∧ (¬ v1 = 0 → (ctI G (D + 1) M_X2_totalFrom fr [.ref 37, .int (i1 ||| ((nI 1) <<< (i10 &&& 31))), .int i12, .int i3, .int (i4 + (nI 1))] lC S1 tl (fun v2 S2 => L_X2_totalFrom_257 D G fr n0 tl K S2 i1 i2 i3 i4 i5 i7 i8 i9 v2)))))))) :
    L_X2_totalFrom_217 D G fr n0 tl K S i1 i2 i3 i4 i5 i7 i8 i9 i10 i12 i13 i14 := by
  unfold L_X2_totalFrom_217
  iterate 2 refine ws_b rfl ?_
  refine ws_g rfl h.1 ?_
  replace h := h.2
  iterate 2 refine ws_b rfl ?_
  refine wp_ite (fun q => ?_) (fun q => ?_)
  · replace h := h.1 q
    exact wp_weak (wk_s (wk_s (wk_s (wk_s (wk_s (wk_s (wk_s (wk_s (wk_s (wk_s (wk_n (wk_s (wk_n (wk_n (wk_s wk_0))))))))))))))) h
  · replace h := h.2 q
    iterate 4 refine ws_b rfl ?_
    refine wp_cV rfl rfl o_X9_meets v_X9_meets h rfl rfl rfl (Nat.le_of_ble_eq_true rfl) (by omega) ?_
    clear h
    rintro r9 h9 ⟨v1, S1, rfl, rfl, h⟩
    refine ws_b rfl ?_
    refine wp_ite (fun q => ?_) (fun q => ?_)
    · replace h := h.1 q
      exact wp_weak (wk_s (wk_s (wk_s (wk_s (wk_s (wk_s (wk_s (wk_s (wk_s (wk_s (wk_n (wk_s (wk_n (wk_n (wk_s wk_0))))))))))))))) h
    · replace h := h.2 q
      iterate 11 refine ws_b rfl ?_
      refine wp_cV rfl rfl o_X2_totalFrom v_X2_totalFrom h rfl rfl rfl (Nat.le_of_ble_eq_true rfl) (by omega) ?_
      clear h
      rintro r9 h9 ⟨v2, S2, rfl, rfl, h⟩
      refine ws_b rfl ?_
      exact wp_weak (wk_s (wk_s (wk_s (wk_s (wk_s (wk_s (wk_s (wk_s (wk_s (wk_s (wk_n (wk_s (wk_n (wk_n (wk_s wk_0))))))))))))))) h
set_option maxRecDepth 100000 in
set_option maxHeartbeats 4000000 in
theorem b_X2_totalFrom_257 {D : Nat} {G : ab_G} {fr : Bool} {n0 : Nat} {tl : ab_H} {K : Int32 → ms_S → Prop} {S : ms_S} {i1 : Int32} {i2 : Int32} {i3 : Int32} {i4 : Int32} {i5 : Int32} {i7 : Int32} {i8 : Int32} {i9 : Int32} {i14 : Int32}
    (h : ctI G 1 M_X2_isBetter fr [.int i14, .int i7, .int i4] lC S tl (fun v1 S1 => (v1 = 0 → (L_X2_totalFrom_276 D G fr n0 tl K S1 i1 i2 i3 i4 i5 i8 i9 i7)) ∧ (¬ v1 = 0 → (L_X2_totalFrom_276 D G fr n0 tl K S1 i1 i2 i3 i4 i5 i8 i9 i14)))) :
    L_X2_totalFrom_257 D G fr n0 tl K S i1 i2 i3 i4 i5 i7 i8 i9 i14 := by
  unfold L_X2_totalFrom_257
  iterate 3 refine ws_b rfl ?_
  refine wp_cS rfl rfl o_X2_isBetter s_X2_isBetter h rfl rfl (Nat.le_of_ble_eq_true rfl) (by omega) ?_
  clear h
  rintro r9 h9 ⟨v1, S1, rfl, rfl, h⟩
  refine ws_b rfl ?_
  refine wp_ite (fun q => ?_) (fun q => ?_)
  · replace h := h.1 q
    refine ws_b rfl ?_
    exact wp_weak (wk_s (wk_s (wk_s (wk_s (wk_s (wk_s (wk_s (wk_n (wk_s (wk_s (wk_s (wk_s (wk_s (wk_s (wk_n wk_0))))))))))))))) h
  · replace h := h.2 q
    iterate 2 refine ws_b rfl ?_
    exact wp_weak (wk_s (wk_s (wk_s (wk_s (wk_s (wk_s (wk_s (wk_n (wk_s (wk_s (wk_s (wk_s (wk_s (wk_s (wk_n wk_0))))))))))))))) h
set_option maxRecDepth 100000 in
set_option maxHeartbeats 4000000 in
theorem b_X2_totalFrom_276 {D : Nat} {G : ab_G} {fr : Bool} {n0 : Nat} {tl : ab_H} {K : Int32 → ms_S → Prop} {S : ms_S} {i1 : Int32} {i2 : Int32} {i3 : Int32} {i4 : Int32} {i5 : Int32} {i8 : Int32} {i9 : Int32} {t0 : Int32}
    (h : L_X2_totalFrom_278 D G fr n0 tl K S i1 i2 i3 i4 i5 t0 i8 i9) :
    L_X2_totalFrom_276 D G fr n0 tl K S i1 i2 i3 i4 i5 i8 i9 t0 := by
  unfold L_X2_totalFrom_276
  refine ws_b rfl ?_
  exact wp_weak (wk_s (wk_s (wk_s (wk_s (wk_s (wk_s (wk_s (wk_s (wk_s (wk_s (wk_s (wk_s (wk_s (wk_s (wk_s wk_0))))))))))))))) h
set_option maxRecDepth 100000 in
set_option maxHeartbeats 4000000 in
theorem b_X2_totalFrom_278 {D : Nat} {G : ab_G} {fr : Bool} {n0 : Nat} {tl : ab_H} {K : Int32 → ms_S → Prop} {S : ms_S} {i1 : Int32} {i2 : Int32} {i3 : Int32} {i4 : Int32} {i5 : Int32} {i7 : Int32} {i8 : Int32} {i9 : Int32}
    (h : L_X2_totalFrom_64 D G fr n0 tl K S i1 i2 i3 i4 i5 i7 i8 (i9 + nI 1)) :
    L_X2_totalFrom_278 D G fr n0 tl K S i1 i2 i3 i4 i5 i7 i8 i9 := by
  unfold L_X2_totalFrom_278
  iterate 2 refine ws_b rfl ?_
  exact wp_weak (wk_s (wk_s (wk_s (wk_s (wk_s (wk_s (wk_s (wk_s (wk_s (wk_s (wk_s (wk_s (wk_s (wk_s (wk_s wk_0))))))))))))))) h
set_option maxRecDepth 100000 in
set_option maxHeartbeats 4000000 in
theorem m_X2_totalFrom {D : Nat} {G : ab_G} {fr : Bool} {tl : ab_H} {K : Int32 → ms_S → Prop} {S : ms_S} {i1 : Int32} {i2 : Int32} {i3 : Int32} {i4 : Int32}
    (h : ∀ n0 : Nat, (i4 < (nI 9) → (vp_in ((i1 * (nI 7)) + i2) 3584 ∧ ((((((S.2.2.2.1 39 (((i1 * (nI 7)) + i2).toNatClampNeg)).toUInt32 >>> ((i3 * (nI 4)).toUInt32 &&& Int32.toUInt32 31)).toInt32) &&& (nI 15)) = 0 → (¬ (nI 2) = 0 ∧ (vp_in (i4 - i4 / (nI 2) * (nI 2)) 2 ∧ (L_X2_totalFrom_64 D G fr n0 tl K S i1 i2 i3 i4 ((i1 * (nI 7)) + i2) i4 ((S.2.2.2.1 38 ((i4 - i4 / (nI 2) * (nI 2)).toNatClampNeg)) &&& (i1 ^^^ (-(nI 1)))) (nI 0))))) ∧ (¬ ((((S.2.2.2.1 39 (((i1 * (nI 7)) + i2).toNatClampNeg)).toUInt32 >>> ((i3 * (nI 4)).toUInt32 &&& Int32.toUInt32 31)).toInt32) &&& (nI 15)) = 0 → (K ((((S.2.2.2.1 39 (((i1 * (nI 7)) + i2).toNatClampNeg)).toUInt32 >>> ((i3 * (nI 4)).toUInt32 &&& Int32.toUInt32 31)).toInt32) &&& (nI 15)) S))))) ∧ (¬ i4 < (nI 9) → (K i4 S))) :
    ctI G (D + 2) M_X2_totalFrom fr [.ref 37, .int i1, .int i2, .int i3, .int i4] lC S tl K := by
  refine wp_ct o_X2_totalFrom (Nat.le_of_ble_eq_true rfl) ?_
  replace h := h (hLy lC S tl).length
  revert h
  generalize (hLy lC S tl).length = n0
  intro h
  iterate 3 refine ws_b rfl ?_
  refine wp_ite (fun q => ?_) (fun q => ?_)
  · replace h := h.1 q
    iterate 9 refine ws_b rfl ?_
    refine ws_g rfl h.1 ?_
    replace h := h.2
    iterate 9 refine ws_b rfl ?_
    refine wp_ite (fun q => ?_) (fun q => ?_)
    · replace h := h.1 q
      iterate 6 refine ws_b rfl ?_
      refine ws_g rfl h.1 ?_
      replace h := h.2
      refine ws_g rfl h.1 ?_
      replace h := h.2
      iterate 7 refine ws_b rfl ?_
      exact wp_weak (wk_s (wk_s (wk_s (wk_s (wk_s (wk_s (wk_n (wk_s (wk_s (wk_s (wk_s (wk_s (wk_s (wk_s (wk_s wk_0))))))))))))))) h
    · replace h := h.2 q
      refine ws_b rfl ?_
      exact wp_ri rfl rfl rfl ⟨_, _, rfl, rfl, h⟩
  · replace h := h.2 q
    refine ws_b rfl ?_
    exact wp_ri rfl rfl rfl ⟨_, _, rfl, rfl, h⟩
set_option maxRecDepth 100000 in
set_option maxHeartbeats 4000000 in
theorem m_X6_clear {G : ab_G} {fr : Bool} {tl : ab_H} {K : ms_S → Prop} {S : ms_S} 
    (h : ∀ n0 : Nat, K (sVa (sVa S 40 5 (nI 0)) 40 6 (-(nI 1)))) :
    ctU G 1 M_X6_clear fr [.ref 40] lC S tl K := by
  refine wp_ct o_X6_clear (Nat.le_of_ble_eq_true rfl) ?_
  replace h := h (hLy lC S tl).length
  revert h
  generalize (hLy lC S tl).length = n0
  intro h
  iterate 6 refine ws_b rfl ?_
  exact wp_rv rfl rfl ⟨_, rfl, rfl, h⟩
def L_X6_knownSize_19 (G : ab_G) (fr : Bool) (n0 : Nat) (tl : ab_H) (K : Int32 → ms_S → Prop) (S : ms_S) (t0 : Int32) : Prop := wp G 1 M_X6_knownSize fr n0 (poI lC tl K) 19 [none] [.int t0] (hLy lC S tl)
set_option maxRecDepth 100000 in
set_option maxHeartbeats 4000000 in
theorem b_X6_knownSize_19 {G : ab_G} {fr : Bool} {n0 : Nat} {tl : ab_H} {K : Int32 → ms_S → Prop} {S : ms_S} {t0 : Int32}
    (h : K t0 S) :
    L_X6_knownSize_19 G fr n0 tl K S t0 := by
  unfold L_X6_knownSize_19
  exact wp_ri rfl rfl rfl ⟨_, _, rfl, rfl, h⟩
set_option maxRecDepth 100000 in
set_option maxHeartbeats 4000000 in
theorem m_X6_knownSize {G : ab_G} {fr : Bool} {tl : ab_H} {K : Int32 → ms_S → Prop} {S : ms_S} 
    (h : ∀ n0 : Nat, ((S.1 40 6) = (-(nI 1)) → (L_X6_knownSize_19 G fr n0 tl K S (S.1 40 5))) ∧ (¬ (S.1 40 6) = (-(nI 1)) → (L_X6_knownSize_19 G fr n0 tl K S (S.1 40 6)))) :
    ctI G 1 M_X6_knownSize fr [.ref 40] lC S tl K := by
  refine wp_ct o_X6_knownSize (Nat.le_of_ble_eq_true rfl) ?_
  replace h := h (hLy lC S tl).length
  revert h
  generalize (hLy lC S tl).length = n0
  intro h
  iterate 4 refine ws_b rfl ?_
  refine wp_ite (fun q => ?_) (fun q => ?_)
  · replace h := h.1 q
    iterate 3 refine ws_b rfl ?_
    exact wp_weak (wk_n wk_0) h
  · replace h := h.2 q
    iterate 2 refine ws_b rfl ?_
    exact wp_weak (wk_n wk_0) h
set_option maxRecDepth 100000 in
set_option maxHeartbeats 4000000 in
theorem m_X6_write {G : ab_G} {fr : Bool} {tl : ab_H} {K : Int32 → ms_S → Prop} {S : ms_S} {i1 : Int32} {i2 : Int32} {i3 : Int32} {i4 : Int32} {i5 : Int32}
    (h : ∀ n0 : Nat, ((S.1 40 5) < (nI 24) → (vp_in (S.1 40 5) 24 ∧ (vp_in (S.1 40 5) 24 ∧ (vp_in (S.1 40 5) 24 ∧ (vp_in (S.1 40 5) 24 ∧ (vp_in (S.1 40 5) 24 ∧ (K (((S.1 40 5) + (nI 1)) - (nI 1)) (sVa (sA (sA (sA (sA (sA S 41 ((S.1 40 5).toNatClampNeg) i1) 42 ((S.1 40 5).toNatClampNeg) i2) 43 ((S.1 40 5).toNatClampNeg) i3) 44 ((S.1 40 5).toNatClampNeg) i4) 45 ((S.1 40 5).toNatClampNeg) (i5 &&& 1)) 40 5 ((S.1 40 5) + (nI 1)))))))))) ∧ (¬ (S.1 40 5) < (nI 24) → (K (-(nI 1)) S))) :
    ctI G 1 M_X6_write fr [.ref 40, .int i1, .int i2, .int i3, .int i4, .int i5] lC S tl K := by
  refine wp_ct o_X6_write (Nat.le_of_ble_eq_true rfl) ?_
  replace h := h (hLy lC S tl).length
  revert h
  generalize (hLy lC S tl).length = n0
  intro h
  iterate 4 refine ws_b rfl ?_
  refine wp_ite (fun q => ?_) (fun q => ?_)
  · replace h := h.1 q
    iterate 5 refine ws_b rfl ?_
    refine ws_g rfl h.1 ?_
    replace h := h.2
    iterate 5 refine ws_b rfl ?_
    refine ws_g rfl h.1 ?_
    replace h := h.2
    iterate 5 refine ws_b rfl ?_
    refine ws_g rfl h.1 ?_
    replace h := h.2
    iterate 5 refine ws_b rfl ?_
    refine ws_g rfl h.1 ?_
    replace h := h.2
    iterate 5 refine ws_b rfl ?_
    refine ws_g rfl h.1 ?_
    replace h := h.2
    iterate 10 refine ws_b rfl ?_
    exact wp_ri rfl rfl rfl ⟨_, _, rfl, rfl, h⟩
  · replace h := h.2 q
    refine ws_b rfl ?_
    exact wp_ri rfl rfl rfl ⟨_, _, rfl, rfl, h⟩
def L_X6_standing_16 (G : ab_G) (fr : Bool) (n0 : Nat) (tl : ab_H) (K : Int32 → ms_S → Prop) (S : ms_S) (i1 : Int32) (i2 : Int32) (i3 : Int32) : Prop := wp G 2 M_X6_standing fr n0 (poI lC tl K) 16 [some (.ref 40), some (.int i1), some (.int i2), some (.int i3)] [] (hLy lC S tl)
def L_X6_standing_55 (G : ab_G) (fr : Bool) (n0 : Nat) (tl : ab_H) (K : Int32 → ms_S → Prop) (S : ms_S) (i1 : Int32) (i2 : Int32) (i3 : Int32) : Prop := wp G 2 M_X6_standing fr n0 (poI lC tl K) 55 [some (.ref 40), some (.int i1), some (.int i2), some (.int i3)] [] (hLy lC S tl)
set_option maxRecDepth 100000 in
set_option maxHeartbeats 4000000 in
theorem b_X6_standing_16 {G : ab_G} {fr : Bool} {n0 : Nat} {tl : ab_H} {K : Int32 → ms_S → Prop} {S : ms_S} {i1 : Int32} {i2 : Int32} {i3 : Int32}
    (h : (i3 < 0 → (K i2 S)) ∧ (¬ i3 < 0 → (((((i1.toUInt32 >>> (i3.toUInt32 &&& Int32.toUInt32 31)).toInt32) &&& (nI 1)) = 0 → (vp_in i3 24 ∧ (((S.2.2.2.1 41 i3.toNatClampNeg) = (nI 3) → (vp_in i3 24 ∧ (L_X6_standing_55 G fr n0 tl K S (i1 ||| ((nI 1) <<< ((S.2.2.2.1 42 i3.toNatClampNeg) &&& 31))) (i2 ||| ((nI 1) <<< (i3 &&& 31))) i3))) ∧ (¬ (S.2.2.2.1 41 i3.toNatClampNeg) = (nI 3) → (L_X6_standing_55 G fr n0 tl K S i1 (i2 ||| ((nI 1) <<< (i3 &&& 31))) i3))))) ∧ (¬ (((i1.toUInt32 >>> (i3.toUInt32 &&& Int32.toUInt32 31)).toInt32) &&& (nI 1)) = 0 → (L_X6_standing_55 G fr n0 tl K S i1 i2 i3))))) :
    L_X6_standing_16 G fr n0 tl K S i1 i2 i3 := by
  unfold L_X6_standing_16
  iterate 2 refine ws_b rfl ?_
  refine wp_ite (fun q => ?_) (fun q => ?_)
  · replace h := h.1 q
    refine ws_b rfl ?_
    exact wp_ri rfl rfl rfl ⟨_, _, rfl, rfl, h⟩
  · replace h := h.2 q
    iterate 6 refine ws_b rfl ?_
    refine wp_ite (fun q => ?_) (fun q => ?_)
    · replace h := h.1 q
      iterate 9 refine ws_b rfl ?_
      refine ws_g rfl h.1 ?_
      replace h := h.2
      iterate 2 refine ws_b rfl ?_
      refine wp_ite (fun q => ?_) (fun q => ?_)
      · replace h := h.1 q
        iterate 5 refine ws_b rfl ?_
        refine ws_g rfl h.1 ?_
        replace h := h.2
        iterate 3 refine ws_b rfl ?_
        exact wp_weak (wk_s (wk_s (wk_s (wk_s wk_0)))) h
      · replace h := h.2 q
        exact wp_weak (wk_s (wk_s (wk_s (wk_s wk_0)))) h
    · replace h := h.2 q
      exact wp_weak (wk_s (wk_s (wk_s (wk_s wk_0)))) h
set_option maxRecDepth 100000 in
set_option maxHeartbeats 4000000 in
theorem b_X6_standing_55 {G : ab_G} {fr : Bool} {n0 : Nat} {tl : ab_H} {K : Int32 → ms_S → Prop} {S : ms_S} {i1 : Int32} {i2 : Int32} {i3 : Int32}
    (h : L_X6_standing_16 G fr n0 tl K S i1 i2 (i3 + -(nI 1))) :
    L_X6_standing_55 G fr n0 tl K S i1 i2 i3 := by
  unfold L_X6_standing_55
  iterate 2 refine ws_b rfl ?_
  exact wp_weak (wk_s (wk_s (wk_s (wk_s wk_0)))) h
set_option maxRecDepth 100000 in
set_option maxHeartbeats 4000000 in
theorem m_X6_standing {G : ab_G} {fr : Bool} {tl : ab_H} {K : Int32 → ms_S → Prop} {S : ms_S} 
    (h : ∀ n0 : Nat, ctI G 1 M_X6_knownSize fr [.ref 40] lC S tl (fun v1 S1 => L_X6_standing_16 G fr n0 tl K S1 (nI 0) (nI 0) ((if (nI 24) < v1 then (nI 24) else v1) - (nI 1)))) :
    ctI G 2 M_X6_standing fr [.ref 40] lC S tl K := by
  refine wp_ct o_X6_standing (Nat.le_of_ble_eq_true rfl) ?_
  replace h := h (hLy lC S tl).length
  revert h
  generalize (hLy lC S tl).length = n0
  intro h
  iterate 5 refine ws_b rfl ?_
  refine wp_cV rfl rfl o_X6_knownSize v_X6_knownSize h rfl rfl rfl (Nat.le_of_ble_eq_true rfl) (by decide) ?_
  clear h
  rintro r9 h9 ⟨v1, S1, rfl, rfl, h⟩
  refine ws_b rfl ?_
  refine wp_min rfl rfl (Nat.le_of_ble_eq_true rfl) (by decide) ?_
  iterate 3 refine ws_b rfl ?_
  exact wp_weak (wk_s (wk_s (wk_s (wk_s wk_0)))) h
def L_X6_notesAgree_3 (G : ab_G) (fr : Bool) (n0 : Nat) (tl : ab_H) (K : Int32 → ms_S → Prop) (S : ms_S) (i1 : Int32) (i2 : Int32) (i3 : Int32) (l4 : Int64) (i6 : Int32) : Prop := wp G 2 M_X6_notesAgree fr n0 (poI lC tl K) 3 [some (.ref 40), some (.int i1), some (.int i2), some (.int i3), some (.long l4), none, some (.int i6), none] [] (hLy lC S tl)
def L_X6_notesAgree_63 (G : ab_G) (fr : Bool) (n0 : Nat) (tl : ab_H) (K : Int32 → ms_S → Prop) (S : ms_S) (i1 : Int32) (i2 : Int32) (i3 : Int32) (l4 : Int64) (i6 : Int32) : Prop := wp G 2 M_X6_notesAgree fr n0 (poI lC tl K) 63 [some (.ref 40), some (.int i1), some (.int i2), some (.int i3), some (.long l4), none, some (.int i6), none] [] (hLy lC S tl)
def L_X6_notesAgree_119 (G : ab_G) (fr : Bool) (n0 : Nat) (tl : ab_H) (K : Int32 → ms_S → Prop) (S : ms_S) (i1 : Int32) (i2 : Int32) (i3 : Int32) (l4 : Int64) (i6 : Int32) : Prop := wp G 2 M_X6_notesAgree fr n0 (poI lC tl K) 119 [some (.ref 40), some (.int i1), some (.int i2), some (.int i3), some (.long l4), none, some (.int i6), none] [] (hLy lC S tl)
def L_X6_notesAgree_124 (G : ab_G) (fr : Bool) (n0 : Nat) (tl : ab_H) (K : Int32 → ms_S → Prop) (S : ms_S) (i1 : Int32) (i2 : Int32) (i3 : Int32) (l4 : Int64) (i6 : Int32) (t0 : Int32) : Prop := wp G 2 M_X6_notesAgree fr n0 (poI lC tl K) 124 [some (.ref 40), some (.int i1), some (.int i2), some (.int i3), some (.long l4), none, some (.int i6), none] [.int t0] (hLy lC S tl)
def L_X6_notesAgree_140 (G : ab_G) (fr : Bool) (n0 : Nat) (tl : ab_H) (K : Int32 → ms_S → Prop) (S : ms_S) (i1 : Int32) (i2 : Int32) (i3 : Int32) (l4 : Int64) (i6 : Int32) : Prop := wp G 2 M_X6_notesAgree fr n0 (poI lC tl K) 140 [some (.ref 40), some (.int i1), some (.int i2), some (.int i3), some (.long l4), none, some (.int i6), none] [] (hLy lC S tl)
set_option maxRecDepth 100000 in
set_option maxHeartbeats 4000000 in
theorem b_X6_notesAgree_3 {G : ab_G} {fr : Bool} {n0 : Nat} {tl : ab_H} {K : Int32 → ms_S → Prop} {S : ms_S} {i1 : Int32} {i2 : Int32} {i3 : Int32} {l4 : Int64} {i6 : Int32}
    (h : ((nI 24) ≤ i6 → (K (nI 1) S)) ∧ (¬ (nI 24) ≤ i6 → (((((i1.toUInt32 >>> (i6.toUInt32 &&& Int32.toUInt32 31)).toInt32) &&& (nI 1)) = (nI 1) → (vp_in i6 24 ∧ (((nI 1) < (S.2.2.2.1 41 i6.toNatClampNeg) → (L_X6_notesAgree_140 G fr n0 tl K S i1 i2 i3 l4 i6)) ∧ (¬ (nI 1) < (S.2.2.2.1 41 i6.toNatClampNeg) → (vp_in i6 24 ∧ (((S.2.2.2.1 41 i6.toNatClampNeg) = 0 → (vp_in i6 24 ∧ ((i2 = (S.2.2.2.1 42 i6.toNatClampNeg) → (L_X6_notesAgree_63 G fr n0 tl K S i1 i2 i3 l4 i6)) ∧ (¬ i2 = (S.2.2.2.1 42 i6.toNatClampNeg) → (vp_in i6 24 ∧ ((i3 = (S.2.2.2.1 42 i6.toNatClampNeg) → (L_X6_notesAgree_63 G fr n0 tl K S i1 i2 i3 l4 i6)) ∧ (¬ i3 = (S.2.2.2.1 42 i6.toNatClampNeg) → (L_X6_notesAgree_124 G fr n0 tl K S i1 i2 i3 l4 i6 (nI 0))))))))) ∧ (¬ (S.2.2.2.1 41 i6.toNatClampNeg) = 0 → (vp_in i6 24 ∧ (vp_in i6 24 ∧ (ctI G 1 M_X6_stands fr [.int (S.2.2.2.1 42 i6.toNatClampNeg), .int i2, .int i3, .int (S.2.2.2.1 43 i6.toNatClampNeg), .long l4] lC S tl (fun v1 S1 => (v1 = 0 → (vp_in i6 24 ∧ (vp_in i6 24 ∧ (ctI G 1 M_X6_stands fr [.int (S1.2.2.2.1 42 i6.toNatClampNeg), .int i3, .int i2, .int (S1.2.2.2.1 43 i6.toNatClampNeg), .long l4] lC S1 tl (fun v2 S2 => (v2 = 0 → (L_X6_notesAgree_124 G fr n0 tl K S2 i1 i2 i3 l4 i6 (nI 0))) ∧ (¬ v2 = 0 → (L_X6_notesAgree_119 G fr n0 tl K S2 i1 i2 i3 l4 i6))))))) ∧ (¬ v1 = 0 → (L_X6_notesAgree_119 G fr n0 tl K S1 i1 i2 i3 l4 i6))))))))))))) ∧ (¬ (((i1.toUInt32 >>> (i6.toUInt32 &&& Int32.toUInt32 31)).toInt32) &&& (nI 1)) = (nI 1) → (L_X6_notesAgree_140 G fr n0 tl K S i1 i2 i3 l4 i6))))) :
    L_X6_notesAgree_3 G fr n0 tl K S i1 i2 i3 l4 i6 := by
  unfold L_X6_notesAgree_3
  iterate 3 refine ws_b rfl ?_
  refine wp_ite (fun q => ?_) (fun q => ?_)
  · replace h := h.1 q
    refine ws_b rfl ?_
    exact wp_ri rfl rfl rfl ⟨_, _, rfl, rfl, h⟩
  · replace h := h.2 q
    iterate 7 refine ws_b rfl ?_
    refine wp_ite (fun q => ?_) (fun q => ?_)
    · replace h := h.1 q
      iterate 3 refine ws_b rfl ?_
      refine ws_g rfl h.1 ?_
      replace h := h.2
      iterate 2 refine ws_b rfl ?_
      refine wp_ite (fun q => ?_) (fun q => ?_)
      · replace h := h.1 q
        exact wp_weak (wk_s (wk_s (wk_s (wk_s (wk_s (wk_s (wk_s (wk_s wk_0)))))))) h
      · replace h := h.2 q
        iterate 3 refine ws_b rfl ?_
        refine ws_g rfl h.1 ?_
        replace h := h.2
        refine ws_b rfl ?_
        refine wp_ite (fun q => ?_) (fun q => ?_)
        · replace h := h.1 q
          iterate 4 refine ws_b rfl ?_
          refine ws_g rfl h.1 ?_
          replace h := h.2
          refine ws_b rfl ?_
          refine wp_ite (fun q => ?_) (fun q => ?_)
          · replace h := h.1 q
            exact wp_weak (wk_s (wk_s (wk_s (wk_s (wk_s (wk_s (wk_s (wk_s wk_0)))))))) h
          · replace h := h.2 q
            iterate 4 refine ws_b rfl ?_
            refine ws_g rfl h.1 ?_
            replace h := h.2
            refine ws_b rfl ?_
            refine wp_ite (fun q => ?_) (fun q => ?_)
            · replace h := h.1 q
              exact wp_weak (wk_s (wk_s (wk_s (wk_s (wk_s (wk_s (wk_s (wk_s wk_0)))))))) h
            · replace h := h.2 q
              iterate 2 refine ws_b rfl ?_
              exact wp_weak (wk_s (wk_s (wk_s (wk_s (wk_s (wk_s (wk_s (wk_s wk_0)))))))) h
        · replace h := h.2 q
          iterate 3 refine ws_b rfl ?_
          refine ws_g rfl h.1 ?_
          replace h := h.2
          iterate 5 refine ws_b rfl ?_
          refine ws_g rfl h.1 ?_
          replace h := h.2
          refine ws_b rfl ?_
          refine wp_cS rfl rfl o_X6_stands s_X6_stands h rfl rfl (Nat.le_of_ble_eq_true rfl) (by decide) ?_
          clear h
          rintro r9 h9 ⟨v1, S1, rfl, rfl, h⟩
          refine ws_b rfl ?_
          refine wp_ite (fun q => ?_) (fun q => ?_)
          · replace h := h.1 q
            iterate 3 refine ws_b rfl ?_
            refine ws_g rfl h.1 ?_
            replace h := h.2
            iterate 5 refine ws_b rfl ?_
            refine ws_g rfl h.1 ?_
            replace h := h.2
            refine ws_b rfl ?_
            refine wp_cS rfl rfl o_X6_stands s_X6_stands h rfl rfl (Nat.le_of_ble_eq_true rfl) (by decide) ?_
            clear h
            rintro r9 h9 ⟨v2, S2, rfl, rfl, h⟩
            refine ws_b rfl ?_
            refine wp_ite (fun q => ?_) (fun q => ?_)
            · replace h := h.1 q
              refine ws_b rfl ?_
              exact wp_weak (wk_s (wk_s (wk_s (wk_s (wk_s (wk_s (wk_s (wk_s wk_0)))))))) h
            · replace h := h.2 q
              exact wp_weak (wk_s (wk_s (wk_s (wk_s (wk_s (wk_s (wk_s (wk_s wk_0)))))))) h
          · replace h := h.2 q
            exact wp_weak (wk_s (wk_s (wk_s (wk_s (wk_s (wk_s (wk_s (wk_s wk_0)))))))) h
    · replace h := h.2 q
      exact wp_weak (wk_s (wk_s (wk_s (wk_s (wk_s (wk_s (wk_s (wk_s wk_0)))))))) h
set_option maxRecDepth 100000 in
set_option maxHeartbeats 4000000 in
theorem b_X6_notesAgree_63 {G : ab_G} {fr : Bool} {n0 : Nat} {tl : ab_H} {K : Int32 → ms_S → Prop} {S : ms_S} {i1 : Int32} {i2 : Int32} {i3 : Int32} {l4 : Int64} {i6 : Int32}
    (h : L_X6_notesAgree_124 G fr n0 tl K S i1 i2 i3 l4 i6 (nI 1)) :
    L_X6_notesAgree_63 G fr n0 tl K S i1 i2 i3 l4 i6 := by
  unfold L_X6_notesAgree_63
  iterate 2 refine ws_b rfl ?_
  exact wp_weak (wk_s (wk_s (wk_s (wk_s (wk_s (wk_s (wk_s (wk_s wk_0)))))))) h
set_option maxRecDepth 100000 in
set_option maxHeartbeats 4000000 in
theorem b_X6_notesAgree_119 {G : ab_G} {fr : Bool} {n0 : Nat} {tl : ab_H} {K : Int32 → ms_S → Prop} {S : ms_S} {i1 : Int32} {i2 : Int32} {i3 : Int32} {l4 : Int64} {i6 : Int32}
    (h : L_X6_notesAgree_124 G fr n0 tl K S i1 i2 i3 l4 i6 (nI 1)) :
    L_X6_notesAgree_119 G fr n0 tl K S i1 i2 i3 l4 i6 := by
  unfold L_X6_notesAgree_119
  iterate 2 refine ws_b rfl ?_
  exact wp_weak (wk_s (wk_s (wk_s (wk_s (wk_s (wk_s (wk_s (wk_s wk_0)))))))) h
set_option maxRecDepth 100000 in
set_option maxHeartbeats 4000000 in
theorem b_X6_notesAgree_124 {G : ab_G} {fr : Bool} {n0 : Nat} {tl : ab_H} {K : Int32 → ms_S → Prop} {S : ms_S} {i1 : Int32} {i2 : Int32} {i3 : Int32} {l4 : Int64} {i6 : Int32} {t0 : Int32}
    (h : vp_in i6 24 ∧ ((t0 = (S.2.2.2.1 45 i6.toNatClampNeg) → (L_X6_notesAgree_140 G fr n0 tl K S i1 i2 i3 l4 i6)) ∧ (¬ t0 = (S.2.2.2.1 45 i6.toNatClampNeg) → (K (nI 0) S)))) :
    L_X6_notesAgree_124 G fr n0 tl K S i1 i2 i3 l4 i6 t0 := by
  unfold L_X6_notesAgree_124
  iterate 5 refine ws_b rfl ?_
  refine ws_g rfl h.1 ?_
  replace h := h.2
  refine ws_b rfl ?_
  refine wp_ite (fun q => ?_) (fun q => ?_)
  · replace h := h.1 q
    exact wp_weak (wk_s (wk_s (wk_s (wk_s (wk_s (wk_s (wk_s (wk_n wk_0)))))))) h
  · replace h := h.2 q
    refine ws_b rfl ?_
    exact wp_ri rfl rfl rfl ⟨_, _, rfl, rfl, h⟩
set_option maxRecDepth 100000 in
set_option maxHeartbeats 4000000 in
theorem b_X6_notesAgree_140 {G : ab_G} {fr : Bool} {n0 : Nat} {tl : ab_H} {K : Int32 → ms_S → Prop} {S : ms_S} {i1 : Int32} {i2 : Int32} {i3 : Int32} {l4 : Int64} {i6 : Int32}
    (h : L_X6_notesAgree_3 G fr n0 tl K S i1 i2 i3 l4 (i6 + nI 1)) :
    L_X6_notesAgree_140 G fr n0 tl K S i1 i2 i3 l4 i6 := by
  unfold L_X6_notesAgree_140
  iterate 2 refine ws_b rfl ?_
  exact wp_weak (wk_s (wk_s (wk_s (wk_s (wk_s (wk_s (wk_s (wk_s wk_0)))))))) h
set_option maxRecDepth 100000 in
set_option maxHeartbeats 4000000 in
theorem m_X6_notesAgree {G : ab_G} {fr : Bool} {tl : ab_H} {K : Int32 → ms_S → Prop} {S : ms_S} {i1 : Int32} {i2 : Int32} {i3 : Int32} {l4 : Int64}
    (h : ∀ n0 : Nat, L_X6_notesAgree_3 G fr n0 tl K S i1 i2 i3 l4 (nI 0)) :
    ctI G 2 M_X6_notesAgree fr [.ref 40, .int i1, .int i2, .int i3, .long l4] lC S tl K := by
  refine wp_ct o_X6_notesAgree (Nat.le_of_ble_eq_true rfl) ?_
  replace h := h (hLy lC S tl).length
  revert h
  generalize (hLy lC S tl).length = n0
  intro h
  iterate 2 refine ws_b rfl ?_
  exact wp_weak (wk_s (wk_s (wk_s (wk_s (wk_s (wk_s (wk_s (wk_s wk_0)))))))) h
def L_X6_pairsLeft_12 (G : ab_G) (fr : Bool) (n0 : Nat) (tl : ab_H) (K : Int64 → ms_S → Prop) (S : ms_S) (l2 : Int64) (i4 : Int32) (l5 : Int64) (i7 : Int32) : Prop := wp G 3 M_X6_pairsLeft fr n0 (poL lC tl K) 12 [some (.ref 40), some (.ref 0), some (.long l2), none, some (.int i4), some (.long l5), none, some (.int i7), none, none] [] (hLy lC S tl)
def L_X6_pairsLeft_23 (G : ab_G) (fr : Bool) (n0 : Nat) (tl : ab_H) (K : Int64 → ms_S → Prop) (S : ms_S) (l2 : Int64) (i4 : Int32) (l5 : Int64) (i7 : Int32) (i8 : Int32) : Prop := wp G 3 M_X6_pairsLeft fr n0 (poL lC tl K) 23 [some (.ref 40), some (.ref 0), some (.long l2), none, some (.int i4), some (.long l5), none, some (.int i7), some (.int i8), none] [] (hLy lC S tl)
def L_X6_pairsLeft_59 (G : ab_G) (fr : Bool) (n0 : Nat) (tl : ab_H) (K : Int64 → ms_S → Prop) (S : ms_S) (l2 : Int64) (i4 : Int32) (l5 : Int64) (i7 : Int32) (i8 : Int32) : Prop := wp G 3 M_X6_pairsLeft fr n0 (poL lC tl K) 59 [some (.ref 40), some (.ref 0), some (.long l2), none, some (.int i4), some (.long l5), none, some (.int i7), some (.int i8), none] [] (hLy lC S tl)
def L_X6_pairsLeft_74 (G : ab_G) (fr : Bool) (n0 : Nat) (tl : ab_H) (K : Int64 → ms_S → Prop) (S : ms_S) (l5 : Int64) (i7 : Int32) : Prop := wp G 3 M_X6_pairsLeft fr n0 (poL lC tl K) 74 [none, some (.ref 0), none, none, none, some (.long l5), none, some (.int i7), none, none] [] (hLy lC S tl)
set_option maxRecDepth 100000 in
set_option maxHeartbeats 4000000 in
theorem b_X6_pairsLeft_12 {G : ab_G} {fr : Bool} {n0 : Nat} {tl : ab_H} {K : Int64 → ms_S → Prop} {S : ms_S} {l2 : Int64} {i4 : Int32} {l5 : Int64} {i7 : Int32}
    (h : ((nI 7) ≤ i7 → (L_X6_pairsLeft_74 G fr n0 tl K S l5 (nI 0))) ∧ (¬ (nI 7) ≤ i7 → (L_X6_pairsLeft_23 G fr n0 tl K S l2 i4 l5 i7 i7))) :
    L_X6_pairsLeft_12 G fr n0 tl K S l2 i4 l5 i7 := by
  unfold L_X6_pairsLeft_12
  iterate 3 refine ws_b rfl ?_
  refine wp_ite (fun q => ?_) (fun q => ?_)
  · replace h := h.1 q
    iterate 2 refine ws_b rfl ?_
    exact wp_weak (wk_n (wk_s (wk_n (wk_s (wk_n (wk_s (wk_s (wk_s (wk_s (wk_s wk_0)))))))))) h
  · replace h := h.2 q
    iterate 2 refine ws_b rfl ?_
    exact wp_weak (wk_s (wk_s (wk_s (wk_s (wk_s (wk_s (wk_s (wk_s (wk_s (wk_s wk_0)))))))))) h
set_option maxRecDepth 100000 in
set_option maxHeartbeats 4000000 in
theorem b_X6_pairsLeft_23 {G : ab_G} {fr : Bool} {n0 : Nat} {tl : ab_H} {K : Int64 → ms_S → Prop} {S : ms_S} {l2 : Int64} {i4 : Int32} {l5 : Int64} {i7 : Int32} {i8 : Int32}
    (h : ((nI 7) ≤ i8 → (L_X6_pairsLeft_12 G fr n0 tl K S l2 i4 l5 (i7 + nI 1))) ∧ (¬ (nI 7) ≤ i8 → (ctI G 2 M_X6_notesAgree fr [.ref 40, .int i4, .int i7, .int i8, .long l2] lC S tl (fun v1 S1 => (v1 = 0 → (L_X6_pairsLeft_59 G fr n0 tl K S1 l2 i4 l5 i7 i8)) ∧ (¬ v1 = 0 → (L_X6_pairsLeft_59 G fr n0 tl K S1 l2 i4 (l5 ||| ((lN 1) <<< (((i7 * (nI 8)) + i8).toInt64 &&& 63))) i7 i8)))))) :
    L_X6_pairsLeft_23 G fr n0 tl K S l2 i4 l5 i7 i8 := by
  unfold L_X6_pairsLeft_23
  iterate 3 refine ws_b rfl ?_
  refine wp_ite (fun q => ?_) (fun q => ?_)
  · replace h := h.1 q
    iterate 2 refine ws_b rfl ?_
    exact wp_weak (wk_s (wk_s (wk_s (wk_s (wk_s (wk_s (wk_s (wk_s (wk_n (wk_s wk_0)))))))))) h
  · replace h := h.2 q
    iterate 5 refine ws_b rfl ?_
    refine wp_cV rfl rfl o_X6_notesAgree v_X6_notesAgree h rfl rfl rfl (Nat.le_of_ble_eq_true rfl) (by decide) ?_
    clear h
    rintro r9 h9 ⟨v1, S1, rfl, rfl, h⟩
    refine ws_b rfl ?_
    refine wp_ite (fun q => ?_) (fun q => ?_)
    · replace h := h.1 q
      exact wp_weak (wk_s (wk_s (wk_s (wk_s (wk_s (wk_s (wk_s (wk_s (wk_s (wk_s wk_0)))))))))) h
    · replace h := h.2 q
      iterate 10 refine ws_b rfl ?_
      exact wp_weak (wk_s (wk_s (wk_s (wk_s (wk_s (wk_s (wk_s (wk_s (wk_s (wk_s wk_0)))))))))) h
set_option maxRecDepth 100000 in
set_option maxHeartbeats 4000000 in
theorem b_X6_pairsLeft_59 {G : ab_G} {fr : Bool} {n0 : Nat} {tl : ab_H} {K : Int64 → ms_S → Prop} {S : ms_S} {l2 : Int64} {i4 : Int32} {l5 : Int64} {i7 : Int32} {i8 : Int32}
    (h : L_X6_pairsLeft_23 G fr n0 tl K S l2 i4 l5 i7 (i8 + nI 1)) :
    L_X6_pairsLeft_59 G fr n0 tl K S l2 i4 l5 i7 i8 := by
  unfold L_X6_pairsLeft_59
  iterate 2 refine ws_b rfl ?_
  exact wp_weak (wk_s (wk_s (wk_s (wk_s (wk_s (wk_s (wk_s (wk_s (wk_s (wk_s wk_0)))))))))) h
set_option maxRecDepth 100000 in
set_option maxHeartbeats 4000000 in
theorem b_X6_pairsLeft_74 {G : ab_G} {fr : Bool} {n0 : Nat} {tl : ab_H} {K : Int64 → ms_S → Prop} {S : ms_S} {l5 : Int64} {i7 : Int32}
    (h : ((S.1 0 12) ≤ i7 → (K l5 S)) ∧ (¬ (S.1 0 12) ≤ i7 → (vp_in i7 9 ∧ (vp_in i7 9 ∧ (vp_in i7 9 ∧ (vp_in i7 9 ∧ (L_X6_pairsLeft_74 G fr n0 tl K S (l5 &&& (((lN 1) <<< ((((if (S.2.2.2.1 3 i7.toNatClampNeg) < (S.2.2.2.1 2 i7.toNatClampNeg) then (S.2.2.2.1 3 i7.toNatClampNeg) else (S.2.2.2.1 2 i7.toNatClampNeg)) * (nI 8)) + (if (S.2.2.2.1 2 i7.toNatClampNeg) < (S.2.2.2.1 3 i7.toNatClampNeg) then (S.2.2.2.1 3 i7.toNatClampNeg) else (S.2.2.2.1 2 i7.toNatClampNeg))).toInt64 &&& 63)) ^^^ ((-1 : Int64)))) (i7 + nI 1)))))))) :
    L_X6_pairsLeft_74 G fr n0 tl K S l5 i7 := by
  unfold L_X6_pairsLeft_74
  iterate 4 refine ws_b rfl ?_
  refine wp_ite (fun q => ?_) (fun q => ?_)
  · replace h := h.1 q
    refine ws_b rfl ?_
    exact wp_rl rfl rfl ⟨_, _, rfl, rfl, h⟩
  · replace h := h.2 q
    iterate 3 refine ws_b rfl ?_
    refine ws_g rfl h.1 ?_
    replace h := h.2
    iterate 3 refine ws_b rfl ?_
    refine ws_g rfl h.1 ?_
    replace h := h.2
    refine wp_min rfl rfl (Nat.le_of_ble_eq_true rfl) (by decide) ?_
    iterate 4 refine ws_b rfl ?_
    refine ws_g rfl h.1 ?_
    replace h := h.2
    iterate 3 refine ws_b rfl ?_
    refine ws_g rfl h.1 ?_
    replace h := h.2
    refine wp_max rfl rfl (Nat.le_of_ble_eq_true rfl) (by decide) ?_
    iterate 15 refine ws_b rfl ?_
    exact wp_weak (wk_s (wk_s (wk_s (wk_s (wk_s (wk_s (wk_s (wk_s (wk_n (wk_n wk_0)))))))))) h
set_option maxRecDepth 100000 in
set_option maxHeartbeats 4000000 in
theorem m_X6_pairsLeft {G : ab_G} {fr : Bool} {tl : ab_H} {K : Int64 → ms_S → Prop} {S : ms_S} {l2 : Int64}
    (h : ∀ n0 : Nat, ctI G 2 M_X6_standing fr [.ref 40] lC S tl (fun v1 S1 => L_X6_pairsLeft_12 G fr n0 tl K S1 l2 v1 (lN 0) (nI 0))) :
    ctL G 3 M_X6_pairsLeft fr [.ref 40, .ref 0, .long l2] lC S tl K := by
  refine wp_ct o_X6_pairsLeft (Nat.le_of_ble_eq_true rfl) ?_
  replace h := h (hLy lC S tl).length
  revert h
  generalize (hLy lC S tl).length = n0
  intro h
  refine ws_b rfl ?_
  refine wp_cV rfl rfl o_X6_standing v_X6_standing h rfl rfl rfl (Nat.le_of_ble_eq_true rfl) (by decide) ?_
  clear h
  rintro r9 h9 ⟨v1, S1, rfl, rfl, h⟩
  iterate 5 refine ws_b rfl ?_
  exact wp_weak (wk_s (wk_s (wk_s (wk_s (wk_s (wk_s (wk_s (wk_s (wk_s (wk_s wk_0)))))))))) h
def L_X6_lastSight_4 (G : ab_G) (fr : Bool) (n0 : Nat) (tl : ab_H) (K : Int32 → ms_S → Prop) (S : ms_S) (i1 : Int32) (i2 : Int32) (i3 : Int32) : Prop := wp G 2 M_X6_lastSight fr n0 (poI lC tl K) 4 [some (.ref 40), some (.int i1), some (.int i2), some (.int i3)] [] (hLy lC S tl)
def L_X6_lastSight_40 (G : ab_G) (fr : Bool) (n0 : Nat) (tl : ab_H) (K : Int32 → ms_S → Prop) (S : ms_S) (i1 : Int32) (i2 : Int32) (i3 : Int32) : Prop := wp G 2 M_X6_lastSight fr n0 (poI lC tl K) 40 [some (.ref 40), some (.int i1), some (.int i2), some (.int i3)] [] (hLy lC S tl)
set_option maxRecDepth 100000 in
set_option maxHeartbeats 4000000 in
theorem b_X6_lastSight_4 {G : ab_G} {fr : Bool} {n0 : Nat} {tl : ab_H} {K : Int32 → ms_S → Prop} {S : ms_S} {i1 : Int32} {i2 : Int32} {i3 : Int32}
    (h : ((nI 24) ≤ i3 → (K i2 S)) ∧ (¬ (nI 24) ≤ i3 → (((((i1.toUInt32 >>> (i3.toUInt32 &&& Int32.toUInt32 31)).toInt32) &&& (nI 1)) = (nI 1) → (vp_in i3 24 ∧ (((S.2.2.2.1 41 i3.toNatClampNeg) = (nI 2) → (vp_in i3 24 ∧ (L_X6_lastSight_40 G fr n0 tl K S i1 (if i2 < (S.2.2.2.1 42 i3.toNatClampNeg) then (S.2.2.2.1 42 i3.toNatClampNeg) else i2) i3))) ∧ (¬ (S.2.2.2.1 41 i3.toNatClampNeg) = (nI 2) → (L_X6_lastSight_40 G fr n0 tl K S i1 i2 i3))))) ∧ (¬ (((i1.toUInt32 >>> (i3.toUInt32 &&& Int32.toUInt32 31)).toInt32) &&& (nI 1)) = (nI 1) → (L_X6_lastSight_40 G fr n0 tl K S i1 i2 i3))))) :
    L_X6_lastSight_4 G fr n0 tl K S i1 i2 i3 := by
  unfold L_X6_lastSight_4
  iterate 3 refine ws_b rfl ?_
  refine wp_ite (fun q => ?_) (fun q => ?_)
  · replace h := h.1 q
    refine ws_b rfl ?_
    exact wp_ri rfl rfl rfl ⟨_, _, rfl, rfl, h⟩
  · replace h := h.2 q
    iterate 7 refine ws_b rfl ?_
    refine wp_ite (fun q => ?_) (fun q => ?_)
    · replace h := h.1 q
      iterate 3 refine ws_b rfl ?_
      refine ws_g rfl h.1 ?_
      replace h := h.2
      iterate 2 refine ws_b rfl ?_
      refine wp_ite (fun q => ?_) (fun q => ?_)
      · replace h := h.1 q
        iterate 4 refine ws_b rfl ?_
        refine ws_g rfl h.1 ?_
        replace h := h.2
        refine wp_max rfl rfl (Nat.le_of_ble_eq_true rfl) (by decide) ?_
        refine ws_b rfl ?_
        exact wp_weak (wk_s (wk_s (wk_s (wk_s wk_0)))) h
      · replace h := h.2 q
        exact wp_weak (wk_s (wk_s (wk_s (wk_s wk_0)))) h
    · replace h := h.2 q
      exact wp_weak (wk_s (wk_s (wk_s (wk_s wk_0)))) h
set_option maxRecDepth 100000 in
set_option maxHeartbeats 4000000 in
theorem b_X6_lastSight_40 {G : ab_G} {fr : Bool} {n0 : Nat} {tl : ab_H} {K : Int32 → ms_S → Prop} {S : ms_S} {i1 : Int32} {i2 : Int32} {i3 : Int32}
    (h : L_X6_lastSight_4 G fr n0 tl K S i1 i2 (i3 + nI 1)) :
    L_X6_lastSight_40 G fr n0 tl K S i1 i2 i3 := by
  unfold L_X6_lastSight_40
  iterate 2 refine ws_b rfl ?_
  exact wp_weak (wk_s (wk_s (wk_s (wk_s wk_0)))) h
set_option maxRecDepth 100000 in
set_option maxHeartbeats 4000000 in
theorem m_X6_lastSight {G : ab_G} {fr : Bool} {tl : ab_H} {K : Int32 → ms_S → Prop} {S : ms_S} {i1 : Int32}
    (h : ∀ n0 : Nat, L_X6_lastSight_4 G fr n0 tl K S i1 (nI 0) (nI 0)) :
    ctI G 2 M_X6_lastSight fr [.ref 40, .int i1] lC S tl K := by
  refine wp_ct o_X6_lastSight (Nat.le_of_ble_eq_true rfl) ?_
  replace h := h (hLy lC S tl).length
  revert h
  generalize (hLy lC S tl).length = n0
  intro h
  iterate 4 refine ws_b rfl ?_
  exact wp_weak (wk_s (wk_s (wk_s (wk_s wk_0)))) h
def L_X6_sightsAgree_3 (G : ab_G) (fr : Bool) (n0 : Nat) (tl : ab_H) (K : Int32 → ms_S → Prop) (S : ms_S) (i1 : Int32) (i2 : Int32) (i4 : Int32) : Prop := wp G 1 M_X6_sightsAgree fr n0 (poI lC tl K) 3 [some (.ref 40), some (.int i1), some (.int i2), some (.ref 46), some (.int i4), none] [] (hLy lC S tl)
def L_X6_sightsAgree_84 (G : ab_G) (fr : Bool) (n0 : Nat) (tl : ab_H) (K : Int32 → ms_S → Prop) (S : ms_S) (i1 : Int32) (i2 : Int32) (i4 : Int32) (t0 : Int32) : Prop := wp G 1 M_X6_sightsAgree fr n0 (poI lC tl K) 84 [some (.ref 40), some (.int i1), some (.int i2), some (.ref 46), some (.int i4), none] [.int t0] (hLy lC S tl)
def L_X6_sightsAgree_96 (G : ab_G) (fr : Bool) (n0 : Nat) (tl : ab_H) (K : Int32 → ms_S → Prop) (S : ms_S) (i1 : Int32) (i2 : Int32) (i4 : Int32) : Prop := wp G 1 M_X6_sightsAgree fr n0 (poI lC tl K) 96 [some (.ref 40), some (.int i1), some (.int i2), some (.ref 46), some (.int i4), none] [] (hLy lC S tl)
set_option maxRecDepth 100000 in
set_option maxHeartbeats 4000000 in
theorem b_X6_sightsAgree_3 {G : ab_G} {fr : Bool} {n0 : Nat} {tl : ab_H} {K : Int32 → ms_S → Prop} {S : ms_S} {i1 : Int32} {i2 : Int32} {i4 : Int32}
    (h : ((nI 24) ≤ i4 → (K (nI 1) S)) ∧ (¬ (nI 24) ≤ i4 → (((((i1.toUInt32 >>> (i4.toUInt32 &&& Int32.toUInt32 31)).toInt32) &&& (nI 1)) = (nI 1) → (vp_in i4 24 ∧ (((S.2.2.2.1 41 i4.toNatClampNeg) = (nI 2) → (vp_in i4 24 ∧ (((S.2.2.2.1 42 i4.toNatClampNeg) = i2 → (vp_in i4 24 ∧ (((S.2.2.2.1 43 i4.toNatClampNeg) < 0 → (L_X6_sightsAgree_96 G fr n0 tl K S i1 i2 i4)) ∧ (¬ (S.2.2.2.1 43 i4.toNatClampNeg) < 0 → (((nI 5) ≤ (S.2.2.2.1 43 i4.toNatClampNeg) → (L_X6_sightsAgree_96 G fr n0 tl K S i1 i2 i4)) ∧ (¬ (nI 5) ≤ (S.2.2.2.1 43 i4.toNatClampNeg) → (vp_in (S.2.2.2.1 43 i4.toNatClampNeg) 5 ∧ (vp_in i4 24 ∧ (((S.2.2.2.1 48 ((S.2.2.2.1 43 i4.toNatClampNeg).toNatClampNeg)) < (S.2.2.2.1 44 i4.toNatClampNeg) → (L_X6_sightsAgree_84 G fr n0 tl K S i1 i2 i4 (nI 0))) ∧ (¬ (S.2.2.2.1 48 ((S.2.2.2.1 43 i4.toNatClampNeg).toNatClampNeg)) < (S.2.2.2.1 44 i4.toNatClampNeg) → (L_X6_sightsAgree_84 G fr n0 tl K S i1 i2 i4 (nI 1)))))))))))) ∧ (¬ (S.2.2.2.1 42 i4.toNatClampNeg) = i2 → (L_X6_sightsAgree_96 G fr n0 tl K S i1 i2 i4))))) ∧ (¬ (S.2.2.2.1 41 i4.toNatClampNeg) = (nI 2) → (L_X6_sightsAgree_96 G fr n0 tl K S i1 i2 i4))))) ∧ (¬ (((i1.toUInt32 >>> (i4.toUInt32 &&& Int32.toUInt32 31)).toInt32) &&& (nI 1)) = (nI 1) → (L_X6_sightsAgree_96 G fr n0 tl K S i1 i2 i4))))) :
    L_X6_sightsAgree_3 G fr n0 tl K S i1 i2 i4 := by
  unfold L_X6_sightsAgree_3
  iterate 3 refine ws_b rfl ?_
  refine wp_ite (fun q => ?_) (fun q => ?_)
  · replace h := h.1 q
    refine ws_b rfl ?_
    exact wp_ri rfl rfl rfl ⟨_, _, rfl, rfl, h⟩
  · replace h := h.2 q
    iterate 7 refine ws_b rfl ?_
    refine wp_ite (fun q => ?_) (fun q => ?_)
    · replace h := h.1 q
      iterate 3 refine ws_b rfl ?_
      refine ws_g rfl h.1 ?_
      replace h := h.2
      iterate 2 refine ws_b rfl ?_
      refine wp_ite (fun q => ?_) (fun q => ?_)
      · replace h := h.1 q
        iterate 3 refine ws_b rfl ?_
        refine ws_g rfl h.1 ?_
        replace h := h.2
        iterate 2 refine ws_b rfl ?_
        refine wp_ite (fun q => ?_) (fun q => ?_)
        · replace h := h.1 q
          iterate 3 refine ws_b rfl ?_
          refine ws_g rfl h.1 ?_
          replace h := h.2
          iterate 3 refine ws_b rfl ?_
          refine wp_ite (fun q => ?_) (fun q => ?_)
          · replace h := h.1 q
            exact wp_weak (wk_s (wk_s (wk_s (wk_s (wk_s (wk_n wk_0)))))) h
          · replace h := h.2 q
            iterate 3 refine ws_b rfl ?_
            refine wp_ite (fun q => ?_) (fun q => ?_)
            · replace h := h.1 q
              exact wp_weak (wk_s (wk_s (wk_s (wk_s (wk_s (wk_n wk_0)))))) h
            · replace h := h.2 q
              iterate 3 refine ws_b rfl ?_
              refine ws_g rfl h.1 ?_
              replace h := h.2
              iterate 3 refine ws_b rfl ?_
              refine ws_g rfl h.1 ?_
              replace h := h.2
              refine ws_b rfl ?_
              refine wp_ite (fun q => ?_) (fun q => ?_)
              · replace h := h.1 q
                refine ws_b rfl ?_
                exact wp_weak (wk_s (wk_s (wk_s (wk_s (wk_s (wk_n wk_0)))))) h
              · replace h := h.2 q
                iterate 2 refine ws_b rfl ?_
                exact wp_weak (wk_s (wk_s (wk_s (wk_s (wk_s (wk_n wk_0)))))) h
        · replace h := h.2 q
          exact wp_weak (wk_s (wk_s (wk_s (wk_s (wk_s (wk_s wk_0)))))) h
      · replace h := h.2 q
        exact wp_weak (wk_s (wk_s (wk_s (wk_s (wk_s (wk_s wk_0)))))) h
    · replace h := h.2 q
      exact wp_weak (wk_s (wk_s (wk_s (wk_s (wk_s (wk_s wk_0)))))) h
set_option maxRecDepth 100000 in
set_option maxHeartbeats 4000000 in
theorem b_X6_sightsAgree_84 {G : ab_G} {fr : Bool} {n0 : Nat} {tl : ab_H} {K : Int32 → ms_S → Prop} {S : ms_S} {i1 : Int32} {i2 : Int32} {i4 : Int32} {t0 : Int32}
    (h : vp_in i4 24 ∧ ((t0 = (S.2.2.2.1 45 i4.toNatClampNeg) → (L_X6_sightsAgree_96 G fr n0 tl K S i1 i2 i4)) ∧ (¬ t0 = (S.2.2.2.1 45 i4.toNatClampNeg) → (K (nI 0) S)))) :
    L_X6_sightsAgree_84 G fr n0 tl K S i1 i2 i4 t0 := by
  unfold L_X6_sightsAgree_84
  iterate 3 refine ws_b rfl ?_
  refine ws_g rfl h.1 ?_
  replace h := h.2
  refine ws_b rfl ?_
  refine wp_ite (fun q => ?_) (fun q => ?_)
  · replace h := h.1 q
    exact wp_weak (wk_s (wk_s (wk_s (wk_s (wk_s (wk_s wk_0)))))) h
  · replace h := h.2 q
    refine ws_b rfl ?_
    exact wp_ri rfl rfl rfl ⟨_, _, rfl, rfl, h⟩
set_option maxRecDepth 100000 in
set_option maxHeartbeats 4000000 in
theorem b_X6_sightsAgree_96 {G : ab_G} {fr : Bool} {n0 : Nat} {tl : ab_H} {K : Int32 → ms_S → Prop} {S : ms_S} {i1 : Int32} {i2 : Int32} {i4 : Int32}
    (h : L_X6_sightsAgree_3 G fr n0 tl K S i1 i2 (i4 + nI 1)) :
    L_X6_sightsAgree_96 G fr n0 tl K S i1 i2 i4 := by
  unfold L_X6_sightsAgree_96
  iterate 2 refine ws_b rfl ?_
  exact wp_weak (wk_s (wk_s (wk_s (wk_s (wk_s (wk_s wk_0)))))) h
set_option maxRecDepth 100000 in
set_option maxHeartbeats 4000000 in
theorem m_X6_sightsAgree {G : ab_G} {fr : Bool} {tl : ab_H} {K : Int32 → ms_S → Prop} {S : ms_S} {i1 : Int32} {i2 : Int32}
    (h : ∀ n0 : Nat, L_X6_sightsAgree_3 G fr n0 tl K S i1 i2 (nI 0)) :
    ctI G 1 M_X6_sightsAgree fr [.ref 40, .int i1, .int i2, .ref 46] lC S tl K := by
  refine wp_ct o_X6_sightsAgree (Nat.le_of_ble_eq_true rfl) ?_
  replace h := h (hLy lC S tl).length
  revert h
  generalize (hLy lC S tl).length = n0
  intro h
  iterate 2 refine ws_b rfl ?_
  exact wp_weak (wk_s (wk_s (wk_s (wk_s (wk_s (wk_s wk_0)))))) h

