/-! ===== the reference: how many rows, walks ===== -/
set_option maxRecDepth 100000 in
set_option maxHeartbeats 4000000 in
theorem m_X12_waysWith {G : ab_G} {fr : Bool} {tl : ab_H} {K : Int32 → ms_S → Prop} {S : ms_S} {i1 : Int32}
    (h : ∀ n0 : Nat, vp_in i1 18 ∧ (vp_in i1 18 ∧ (((S.2.2.2.1 6 i1.toNatClampNeg) = (S.2.2.2.1 7 i1.toNatClampNeg) → (K (nI 1) S)) ∧ (¬ (S.2.2.2.1 6 i1.toNatClampNeg) = (S.2.2.2.1 7 i1.toNatClampNeg) → (K (nI 2) S))))) :
    ctI G 1 M_X12_waysWith fr [.ref 0, .int i1] lM S tl K := by
  refine wp_ct o_X12_waysWith (Nat.le_of_ble_eq_true rfl) ?_
  replace h := h (hLy lM S tl).length
  revert h
  generalize (hLy lM S tl).length = n0
  intro h
  iterate 3 refine ws_b rfl ?_
  refine ws_g rfl h.1 ?_
  replace h := h.2
  iterate 3 refine ws_b rfl ?_
  refine ws_g rfl h.1 ?_
  replace h := h.2
  refine ws_b rfl ?_
  refine wp_ite (fun q => ?_) (fun q => ?_)
  · replace h := h.1 q
    iterate 2 refine ws_b rfl ?_
    exact wp_ri rfl rfl rfl ⟨_, _, rfl, rfl, h⟩
  · replace h := h.2 q
    refine ws_b rfl ?_
    exact wp_ri rfl rfl rfl ⟨_, _, rfl, rfl, h⟩
def L_X12_layWays_2 (G : ab_G) (fr : Bool) (n0 : Nat) (tl : ab_H) (K : ms_S → Prop) (S : ms_S) (i1 : Int32) (i2 : Int32) : Prop := wp G 2 M_X12_layWays fr n0 (poU lM tl K) 2 [some (.ref 0), some (.int i1), some (.int i2), none, none, none, none, none] [] (hLy lM S tl)
def L_X12_layWays_26 (G : ab_G) (fr : Bool) (n0 : Nat) (tl : ab_H) (K : ms_S → Prop) (S : ms_S) (i1 : Int32) (i2 : Int32) (w0 : Int64) (t1 : Int32) : Prop := wp G 2 M_X12_layWays fr n0 (poU lM tl K) 26 [some (.ref 0), some (.int i1), some (.int i2), none, none, none, none, none] [.long w0, .int t1, .ref 34] (hLy lM S tl)
def L_X12_layWays_35 (G : ab_G) (fr : Bool) (n0 : Nat) (tl : ab_H) (K : ms_S → Prop) (S : ms_S) (i2 : Int32) : Prop := wp G 2 M_X12_layWays fr n0 (poU lM tl K) 35 [some (.ref 0), none, some (.int i2), none, none, none, none, none] [] (hLy lM S tl)
def L_X12_layWays_47 (G : ab_G) (fr : Bool) (n0 : Nat) (tl : ab_H) (K : ms_S → Prop) (S : ms_S) (i2 : Int32) (i3 : Int32) : Prop := wp G 2 M_X12_layWays fr n0 (poU lM tl K) 47 [some (.ref 0), none, some (.int i2), some (.int i3), none, none, none, none] [] (hLy lM S tl)
def L_X12_layWays_59 (G : ab_G) (fr : Bool) (n0 : Nat) (tl : ab_H) (K : ms_S → Prop) (S : ms_S) (i2 : Int32) (i3 : Int32) (l4 : Int64) (i6 : Int32) : Prop := wp G 2 M_X12_layWays fr n0 (poU lM tl K) 59 [some (.ref 0), none, some (.int i2), some (.int i3), some (.long l4), none, some (.int i6), none] [] (hLy lM S tl)
def L_X12_layWays_133 (G : ab_G) (fr : Bool) (n0 : Nat) (tl : ab_H) (K : ms_S → Prop) (S : ms_S) (i2 : Int32) (i3 : Int32) (i6 : Int32) (i7 : Int32) (w0 : Int64) (w1 : Int64) : Prop := wp G 2 M_X12_layWays fr n0 (poU lM tl K) 133 [some (.ref 0), none, some (.int i2), some (.int i3), none, none, some (.int i6), some (.int i7)] [.long w0, .long w1] (hLy lM S tl)
def L_X12_layWays_185 (G : ab_G) (fr : Bool) (n0 : Nat) (tl : ab_H) (K : ms_S → Prop) (S : ms_S) (i2 : Int32) (i3 : Int32) (i6 : Int32) (w0 : Int64) : Prop := wp G 2 M_X12_layWays fr n0 (poU lM tl K) 185 [some (.ref 0), none, some (.int i2), some (.int i3), none, none, some (.int i6), none] [.long w0] (hLy lM S tl)
def L_X12_layWays_186 (G : ab_G) (fr : Bool) (n0 : Nat) (tl : ab_H) (K : ms_S → Prop) (S : ms_S) (i2 : Int32) (i3 : Int32) (i6 : Int32) (w0 : Int64) (w1 : Int64) : Prop := wp G 2 M_X12_layWays fr n0 (poU lM tl K) 186 [some (.ref 0), none, some (.int i2), some (.int i3), none, none, some (.int i6), none] [.long w0, .long w1] (hLy lM S tl)
def L_X12_layWays_189 (G : ab_G) (fr : Bool) (n0 : Nat) (tl : ab_H) (K : ms_S → Prop) (S : ms_S) (i2 : Int32) (i3 : Int32) (l4 : Int64) (i6 : Int32) : Prop := wp G 2 M_X12_layWays fr n0 (poU lM tl K) 189 [some (.ref 0), none, some (.int i2), some (.int i3), some (.long l4), none, some (.int i6), none] [] (hLy lM S tl)
set_option maxRecDepth 100000 in
set_option maxHeartbeats 4000000 in
theorem b_X12_layWays_2 {G : ab_G} {fr : Bool} {n0 : Nat} {tl : ab_H} {K : ms_S → Prop} {S : ms_S} {i1 : Int32} {i2 : Int32}
    (h : ((nI 7) ≤ i2 → (L_X12_layWays_35 G fr n0 tl K S (nI 1))) ∧ (¬ (nI 7) ≤ i2 → (ctI G 1 M_X12_isOf fr [.int i1, .int i2] lM S tl (fun v1 S1 => (v1 = 0 → (L_X12_layWays_26 G fr n0 tl K S1 i1 i2 (lN 0) i2)) ∧ (¬ v1 = 0 → (L_X12_layWays_26 G fr n0 tl K S1 i1 i2 (lN 1) i2)))))) :
    L_X12_layWays_2 G fr n0 tl K S i1 i2 := by
  unfold L_X12_layWays_2
  iterate 3 refine ws_b rfl ?_
  refine wp_ite (fun q => ?_) (fun q => ?_)
  · replace h := h.1 q
    iterate 2 refine ws_b rfl ?_
    exact wp_weak (wk_s (wk_n (wk_s (wk_s (wk_s (wk_s (wk_s (wk_s wk_0)))))))) h
  · replace h := h.2 q
    iterate 5 refine ws_b rfl ?_
    refine wp_cS rfl rfl o_X12_isOf s_X12_isOf h rfl rfl (Nat.le_of_ble_eq_true rfl) (by decide) ?_
    clear h
    rintro r9 h9 ⟨v1, S1, rfl, rfl, h⟩
    refine ws_b rfl ?_
    refine wp_ite (fun q => ?_) (fun q => ?_)
    · replace h := h.1 q
      refine ws_b rfl ?_
      exact wp_weak (wk_s (wk_s (wk_s (wk_s (wk_s (wk_s (wk_s (wk_s wk_0)))))))) h
    · replace h := h.2 q
      iterate 2 refine ws_b rfl ?_
      exact wp_weak (wk_s (wk_s (wk_s (wk_s (wk_s (wk_s (wk_s (wk_s wk_0)))))))) h
set_option maxRecDepth 100000 in
set_option maxHeartbeats 4000000 in
theorem b_X12_layWays_26 {G : ab_G} {fr : Bool} {n0 : Nat} {tl : ab_H} {K : ms_S → Prop} {S : ms_S} {i1 : Int32} {i2 : Int32} {w0 : Int64} {t1 : Int32}
    (h : vp_in t1 3584 ∧ (L_X12_layWays_2 G fr n0 tl K (sL S 34 t1.toNatClampNeg w0) i1 (i2 + nI 1))) :
    L_X12_layWays_26 G fr n0 tl K S i1 i2 w0 t1 := by
  unfold L_X12_layWays_26
  refine ws_g rfl h.1 ?_
  replace h := h.2
  iterate 2 refine ws_b rfl ?_
  exact wp_weak (wk_s (wk_s (wk_s (wk_s (wk_s (wk_s (wk_s (wk_s wk_0)))))))) h
set_option maxRecDepth 100000 in
set_option maxHeartbeats 4000000 in
theorem b_X12_layWays_35 {G : ab_G} {fr : Bool} {n0 : Nat} {tl : ab_H} {K : ms_S → Prop} {S : ms_S} {i2 : Int32}
    (h : (((nI 1) <<< ((S.1 0 12) &&& 31)) ≤ i2 → (K S)) ∧ (¬ ((nI 1) <<< ((S.1 0 12) &&& 31)) ≤ i2 → (L_X12_layWays_47 G fr n0 tl K S i2 (nI 0)))) :
    L_X12_layWays_35 G fr n0 tl K S i2 := by
  unfold L_X12_layWays_35
  iterate 6 refine ws_b rfl ?_
  refine wp_ite (fun q => ?_) (fun q => ?_)
  · replace h := h.1 q
    exact wp_rv rfl rfl ⟨_, rfl, rfl, h⟩
  · replace h := h.2 q
    iterate 2 refine ws_b rfl ?_
    exact wp_weak (wk_s (wk_s (wk_s (wk_s (wk_s (wk_s (wk_s (wk_s wk_0)))))))) h
set_option maxRecDepth 100000 in
set_option maxHeartbeats 4000000 in
theorem b_X12_layWays_47 {G : ab_G} {fr : Bool} {n0 : Nat} {tl : ab_H} {K : ms_S → Prop} {S : ms_S} {i2 : Int32} {i3 : Int32}
    (h : ((nI 7) ≤ i3 → (L_X12_layWays_35 G fr n0 tl K S (i2 + nI 1))) ∧ (¬ (nI 7) ≤ i3 → (L_X12_layWays_59 G fr n0 tl K S i2 i3 (lN 0) (nI 0)))) :
    L_X12_layWays_47 G fr n0 tl K S i2 i3 := by
  unfold L_X12_layWays_47
  iterate 3 refine ws_b rfl ?_
  refine wp_ite (fun q => ?_) (fun q => ?_)
  · replace h := h.1 q
    iterate 2 refine ws_b rfl ?_
    exact wp_weak (wk_s (wk_s (wk_s (wk_n (wk_s (wk_s (wk_s (wk_s wk_0)))))))) h
  · replace h := h.2 q
    iterate 4 refine ws_b rfl ?_
    exact wp_weak (wk_s (wk_s (wk_s (wk_s (wk_s (wk_s (wk_s (wk_s wk_0)))))))) h
set_option maxRecDepth 100000 in
set_option maxHeartbeats 4000000 in
theorem b_X12_layWays_59 {G : ab_G} {fr : Bool} {n0 : Nat} {tl : ab_H} {K : ms_S → Prop} {S : ms_S} {i2 : Int32} {i3 : Int32} {l4 : Int64} {i6 : Int32}
    (h : ((S.1 0 12) ≤ i6 → (vp_in (((nI 7) * i2) + i3) 3584 ∧ (L_X12_layWays_47 G fr n0 tl K (sL S 34 ((((nI 7) * i2) + i3).toNatClampNeg) l4) i2 (i3 + nI 1)))) ∧ (¬ (S.1 0 12) ≤ i6 → (ctI G 1 M_X12_isOf fr [.int i2, .int i6] lM S tl (fun v1 S1 => (v1 = 0 → (L_X12_layWays_189 G fr n0 tl K S1 i2 i3 l4 i6)) ∧ (¬ v1 = 0 → (vp_in i3 7 ∧ (vp_in i6 18 ∧ (ctI G 1 M_X12_isOf fr [.int (S1.2.2.2.1 31 i3.toNatClampNeg), .int (S1.2.2.2.1 6 i6.toNatClampNeg)] lM S1 tl (fun v2 S2 => (v2 = 0 → (L_X12_layWays_133 G fr n0 tl K S2 i2 i3 i6 ((nI 7) * (i2 &&& (((nI 1) <<< (i6 &&& 31)) ^^^ (-(nI 1))))) (lN 0) l4)) ∧ (¬ v2 = 0 → (vp_in i6 18 ∧ (vp_in (((nI 7) * (i2 &&& (((nI 1) <<< (i6 &&& 31)) ^^^ (-(nI 1))))) + (S2.2.2.2.1 7 i6.toNatClampNeg)) 3584 ∧ (L_X12_layWays_133 G fr n0 tl K S2 i2 i3 i6 ((nI 7) * (i2 &&& (((nI 1) <<< (i6 &&& 31)) ^^^ (-(nI 1))))) (S2.2.2.2.2 34 ((((nI 7) * (i2 &&& (((nI 1) <<< (i6 &&& 31)) ^^^ (-(nI 1))))) + (S2.2.2.2.1 7 i6.toNatClampNeg)).toNatClampNeg)) l4))))))))))))) :
    L_X12_layWays_59 G fr n0 tl K S i2 i3 l4 i6 := by
  unfold L_X12_layWays_59
  iterate 4 refine ws_b rfl ?_
  refine wp_ite (fun q => ?_) (fun q => ?_)
  · replace h := h.1 q
    iterate 8 refine ws_b rfl ?_
    refine ws_g rfl h.1 ?_
    replace h := h.2
    iterate 2 refine ws_b rfl ?_
    exact wp_weak (wk_s (wk_s (wk_s (wk_s (wk_n (wk_s (wk_n (wk_s wk_0)))))))) h
  · replace h := h.2 q
    iterate 2 refine ws_b rfl ?_
    refine wp_cS rfl rfl o_X12_isOf s_X12_isOf h rfl rfl (Nat.le_of_ble_eq_true rfl) (by decide) ?_
    clear h
    rintro r9 h9 ⟨v1, S1, rfl, rfl, h⟩
    refine ws_b rfl ?_
    refine wp_ite (fun q => ?_) (fun q => ?_)
    · replace h := h.1 q
      refine ws_b rfl ?_
      exact wp_weak (wk_s (wk_s (wk_s (wk_s (wk_s (wk_s (wk_s (wk_s wk_0)))))))) h
    · replace h := h.2 q
      iterate 14 refine ws_b rfl ?_
      refine ws_g rfl h.1 ?_
      replace h := h.2
      iterate 3 refine ws_b rfl ?_
      refine ws_g rfl h.1 ?_
      replace h := h.2
      refine wp_cS rfl rfl o_X12_isOf s_X12_isOf h rfl rfl (Nat.le_of_ble_eq_true rfl) (by decide) ?_
      clear h
      rintro r9 h9 ⟨v2, S2, rfl, rfl, h⟩
      refine ws_b rfl ?_
      refine wp_ite (fun q => ?_) (fun q => ?_)
      · replace h := h.1 q
        refine ws_b rfl ?_
        exact wp_weak (wk_s (wk_s (wk_s (wk_s (wk_n (wk_s (wk_s (wk_s wk_0)))))))) h
      · replace h := h.2 q
        iterate 6 refine ws_b rfl ?_
        refine ws_g rfl h.1 ?_
        replace h := h.2
        refine ws_b rfl ?_
        refine ws_g rfl h.1 ?_
        replace h := h.2
        refine ws_b rfl ?_
        exact wp_weak (wk_s (wk_s (wk_s (wk_s (wk_n (wk_s (wk_s (wk_s wk_0)))))))) h
set_option maxRecDepth 100000 in
set_option maxHeartbeats 4000000 in
theorem b_X12_layWays_133 {G : ab_G} {fr : Bool} {n0 : Nat} {tl : ab_H} {K : ms_S → Prop} {S : ms_S} {i2 : Int32} {i3 : Int32} {i6 : Int32} {i7 : Int32} {w0 : Int64} {w1 : Int64}
    (h : ctI G 1 M_X12_waysWith fr [.ref 0, .int i6] lM S tl (fun v1 S1 => (v1 = (nI 2) → (vp_in i3 7 ∧ (vp_in i6 18 ∧ (ctI G 1 M_X12_isOf fr [.int (S1.2.2.2.1 31 i3.toNatClampNeg), .int (S1.2.2.2.1 7 i6.toNatClampNeg)] lM S1 tl (fun v2 S2 => (v2 = 0 → (L_X12_layWays_185 G fr n0 tl K S2 i2 i3 i6 (w1 + w0))) ∧ (¬ v2 = 0 → (vp_in i6 18 ∧ (vp_in (i7 + (S2.2.2.2.1 6 i6.toNatClampNeg)) 3584 ∧ (L_X12_layWays_186 G fr n0 tl K S2 i2 i3 i6 (S2.2.2.2.2 34 ((i7 + (S2.2.2.2.1 6 i6.toNatClampNeg)).toNatClampNeg)) (w1 + w0)))))))))) ∧ (¬ v1 = (nI 2) → (L_X12_layWays_185 G fr n0 tl K S1 i2 i3 i6 (w1 + w0))))) :
    L_X12_layWays_133 G fr n0 tl K S i2 i3 i6 i7 w0 w1 := by
  unfold L_X12_layWays_133
  iterate 5 refine ws_b rfl ?_
  refine wp_cV rfl rfl o_X12_waysWith v_X12_waysWith h rfl rfl rfl (Nat.le_of_ble_eq_true rfl) (by decide) ?_
  clear h
  rintro r9 h9 ⟨v1, S1, rfl, rfl, h⟩
  iterate 2 refine ws_b rfl ?_
  refine wp_ite (fun q => ?_) (fun q => ?_)
  · replace h := h.1 q
    iterate 3 refine ws_b rfl ?_
    refine ws_g rfl h.1 ?_
    replace h := h.2
    iterate 3 refine ws_b rfl ?_
    refine ws_g rfl h.1 ?_
    replace h := h.2
    refine wp_cS rfl rfl o_X12_isOf s_X12_isOf h rfl rfl (Nat.le_of_ble_eq_true rfl) (by decide) ?_
    clear h
    rintro r9 h9 ⟨v2, S2, rfl, rfl, h⟩
    refine ws_b rfl ?_
    refine wp_ite (fun q => ?_) (fun q => ?_)
    · replace h := h.1 q
      exact wp_weak (wk_s (wk_s (wk_s (wk_s (wk_n (wk_s (wk_s (wk_n wk_0)))))))) h
    · replace h := h.2 q
      iterate 6 refine ws_b rfl ?_
      refine ws_g rfl h.1 ?_
      replace h := h.2
      refine ws_b rfl ?_
      refine ws_g rfl h.1 ?_
      replace h := h.2
      refine ws_b rfl ?_
      exact wp_weak (wk_s (wk_s (wk_s (wk_s (wk_n (wk_s (wk_s (wk_n wk_0)))))))) h
  · replace h := h.2 q
    exact wp_weak (wk_s (wk_s (wk_s (wk_s (wk_n (wk_s (wk_s (wk_n wk_0)))))))) h
set_option maxRecDepth 100000 in
set_option maxHeartbeats 4000000 in
theorem b_X12_layWays_185 {G : ab_G} {fr : Bool} {n0 : Nat} {tl : ab_H} {K : ms_S → Prop} {S : ms_S} {i2 : Int32} {i3 : Int32} {i6 : Int32} {w0 : Int64}
    (h : L_X12_layWays_186 G fr n0 tl K S i2 i3 i6 (lN 0) w0) :
    L_X12_layWays_185 G fr n0 tl K S i2 i3 i6 w0 := by
  unfold L_X12_layWays_185
  refine ws_b rfl ?_
  exact wp_weak (wk_s (wk_s (wk_s (wk_s (wk_s (wk_s (wk_s (wk_s wk_0)))))))) h
set_option maxRecDepth 100000 in
set_option maxHeartbeats 4000000 in
theorem b_X12_layWays_186 {G : ab_G} {fr : Bool} {n0 : Nat} {tl : ab_H} {K : ms_S → Prop} {S : ms_S} {i2 : Int32} {i3 : Int32} {i6 : Int32} {w0 : Int64} {w1 : Int64}
    (h : L_X12_layWays_189 G fr n0 tl K S i2 i3 (w1 + w0) i6) :
    L_X12_layWays_186 G fr n0 tl K S i2 i3 i6 w0 w1 := by
  unfold L_X12_layWays_186
  iterate 2 refine ws_b rfl ?_
  exact wp_weak (wk_s (wk_s (wk_s (wk_s (wk_s (wk_s (wk_s (wk_s wk_0)))))))) h
set_option maxRecDepth 100000 in
set_option maxHeartbeats 4000000 in
theorem b_X12_layWays_189 {G : ab_G} {fr : Bool} {n0 : Nat} {tl : ab_H} {K : ms_S → Prop} {S : ms_S} {i2 : Int32} {i3 : Int32} {l4 : Int64} {i6 : Int32}
    (h : L_X12_layWays_59 G fr n0 tl K S i2 i3 l4 (i6 + nI 1)) :
    L_X12_layWays_189 G fr n0 tl K S i2 i3 l4 i6 := by
  unfold L_X12_layWays_189
  iterate 2 refine ws_b rfl ?_
  exact wp_weak (wk_s (wk_s (wk_s (wk_s (wk_s (wk_s (wk_s (wk_s wk_0)))))))) h
set_option maxRecDepth 100000 in
set_option maxHeartbeats 4000000 in
theorem m_X12_layWays {G : ab_G} {fr : Bool} {tl : ab_H} {K : ms_S → Prop} {S : ms_S} {i1 : Int32}
    (h : ∀ n0 : Nat, L_X12_layWays_2 G fr n0 tl K S i1 (nI 0)) :
    ctU G 2 M_X12_layWays fr [.ref 0, .int i1] lM S tl K := by
  refine wp_ct o_X12_layWays (Nat.le_of_ble_eq_true rfl) ?_
  replace h := h (hLy lM S tl).length
  revert h
  generalize (hLy lM S tl).length = n0
  intro h
  iterate 2 refine ws_b rfl ?_
  exact wp_weak (wk_s (wk_s (wk_s (wk_s (wk_s (wk_s (wk_s (wk_s wk_0)))))))) h
def L_X12_rowsOf_5 (G : ab_G) (fr : Bool) (n0 : Nat) (tl : ab_H) (K : Int64 → ms_S → Prop) (S : ms_S) (i1 : Int32) (i2 : Int32) (l3 : Int64) (i5 : Int32) : Prop := wp G 2 M_X12_rowsOf fr n0 (poL lM tl K) 5 [some (.ref 0), some (.int i1), some (.int i2), some (.long l3), none, some (.int i5), none] [] (hLy lM S tl)
def L_X12_rowsOf_56 (G : ab_G) (fr : Bool) (n0 : Nat) (tl : ab_H) (K : Int64 → ms_S → Prop) (S : ms_S) (i1 : Int32) (i2 : Int32) (i5 : Int32) (i6 : Int32) (w0 : Int64) : Prop := wp G 2 M_X12_rowsOf fr n0 (poL lM tl K) 56 [some (.ref 0), some (.int i1), some (.int i2), none, none, some (.int i5), some (.int i6)] [.long w0] (hLy lM S tl)
def L_X12_rowsOf_75 (G : ab_G) (fr : Bool) (n0 : Nat) (tl : ab_H) (K : Int64 → ms_S → Prop) (S : ms_S) (i1 : Int32) (i2 : Int32) (i5 : Int32) (i6 : Int32) (w0 : Int64) (w1 : Int64) : Prop := wp G 2 M_X12_rowsOf fr n0 (poL lM tl K) 75 [some (.ref 0), some (.int i1), some (.int i2), none, none, some (.int i5), some (.int i6)] [.long w0, .long w1] (hLy lM S tl)
def L_X12_rowsOf_104 (G : ab_G) (fr : Bool) (n0 : Nat) (tl : ab_H) (K : Int64 → ms_S → Prop) (S : ms_S) (i1 : Int32) (i2 : Int32) (i5 : Int32) (i6 : Int32) (w0 : Int64) : Prop := wp G 2 M_X12_rowsOf fr n0 (poL lM tl K) 104 [some (.ref 0), some (.int i1), some (.int i2), none, none, some (.int i5), some (.int i6)] [.long w0] (hLy lM S tl)
def L_X12_rowsOf_122 (G : ab_G) (fr : Bool) (n0 : Nat) (tl : ab_H) (K : Int64 → ms_S → Prop) (S : ms_S) (i1 : Int32) (i2 : Int32) (i5 : Int32) (w0 : Int64) : Prop := wp G 2 M_X12_rowsOf fr n0 (poL lM tl K) 122 [some (.ref 0), some (.int i1), some (.int i2), none, none, some (.int i5), none] [.long w0] (hLy lM S tl)
def L_X12_rowsOf_123 (G : ab_G) (fr : Bool) (n0 : Nat) (tl : ab_H) (K : Int64 → ms_S → Prop) (S : ms_S) (i1 : Int32) (i2 : Int32) (i5 : Int32) (w0 : Int64) (w1 : Int64) : Prop := wp G 2 M_X12_rowsOf fr n0 (poL lM tl K) 123 [some (.ref 0), some (.int i1), some (.int i2), none, none, some (.int i5), none] [.long w0, .long w1] (hLy lM S tl)
def L_X12_rowsOf_125 (G : ab_G) (fr : Bool) (n0 : Nat) (tl : ab_H) (K : Int64 → ms_S → Prop) (S : ms_S) (i1 : Int32) (i2 : Int32) (l3 : Int64) (i5 : Int32) : Prop := wp G 2 M_X12_rowsOf fr n0 (poL lM tl K) 125 [some (.ref 0), some (.int i1), some (.int i2), some (.long l3), none, some (.int i5), none] [] (hLy lM S tl)
set_option maxRecDepth 100000 in
set_option maxHeartbeats 4000000 in
theorem b_X12_rowsOf_5 {G : ab_G} {fr : Bool} {n0 : Nat} {tl : ab_H} {K : Int64 → ms_S → Prop} {S : ms_S} {i1 : Int32} {i2 : Int32} {l3 : Int64} {i5 : Int32}
    (h : ((S.1 0 12) ≤ i5 → (K l3 S)) ∧ (¬ (S.1 0 12) ≤ i5 → (ctI G 1 M_X12_isOf fr [.int i1, .int i5] lM S tl (fun v1 S1 => (v1 = 0 → (L_X12_rowsOf_125 G fr n0 tl K S1 i1 i2 l3 i5)) ∧ (¬ v1 = 0 → ((i2 = (-(nI 1)) → (L_X12_rowsOf_56 G fr n0 tl K S1 i1 i2 i5 ((nI 7) * (i1 &&& (((nI 1) <<< (i5 &&& 31)) ^^^ (-(nI 1))))) l3)) ∧ (¬ i2 = (-(nI 1)) → (vp_in i5 18 ∧ ((i2 = (S1.2.2.2.1 6 i5.toNatClampNeg) → (L_X12_rowsOf_56 G fr n0 tl K S1 i1 i2 i5 ((nI 7) * (i1 &&& (((nI 1) <<< (i5 &&& 31)) ^^^ (-(nI 1))))) l3)) ∧ (¬ i2 = (S1.2.2.2.1 6 i5.toNatClampNeg) → (L_X12_rowsOf_75 G fr n0 tl K S1 i1 i2 i5 ((nI 7) * (i1 &&& (((nI 1) <<< (i5 &&& 31)) ^^^ (-(nI 1))))) (lN 0) l3))))))))))) :
    L_X12_rowsOf_5 G fr n0 tl K S i1 i2 l3 i5 := by
  unfold L_X12_rowsOf_5
  iterate 4 refine ws_b rfl ?_
  refine wp_ite (fun q => ?_) (fun q => ?_)
  · replace h := h.1 q
    refine ws_b rfl ?_
    exact wp_rl rfl rfl ⟨_, _, rfl, rfl, h⟩
  · replace h := h.2 q
    iterate 2 refine ws_b rfl ?_
    refine wp_cS rfl rfl o_X12_isOf s_X12_isOf h rfl rfl (Nat.le_of_ble_eq_true rfl) (by decide) ?_
    clear h
    rintro r9 h9 ⟨v1, S1, rfl, rfl, h⟩
    refine ws_b rfl ?_
    refine wp_ite (fun q => ?_) (fun q => ?_)
    · replace h := h.1 q
      refine ws_b rfl ?_
      exact wp_weak (wk_s (wk_s (wk_s (wk_s (wk_s (wk_s (wk_s wk_0))))))) h
    · replace h := h.2 q
      iterate 14 refine ws_b rfl ?_
      refine wp_ite (fun q => ?_) (fun q => ?_)
      · replace h := h.1 q
        exact wp_weak (wk_s (wk_s (wk_s (wk_n (wk_s (wk_s (wk_s wk_0))))))) h
      · replace h := h.2 q
        iterate 4 refine ws_b rfl ?_
        refine ws_g rfl h.1 ?_
        replace h := h.2
        refine ws_b rfl ?_
        refine wp_ite (fun q => ?_) (fun q => ?_)
        · replace h := h.1 q
          exact wp_weak (wk_s (wk_s (wk_s (wk_n (wk_s (wk_s (wk_s wk_0))))))) h
        · replace h := h.2 q
          refine ws_b rfl ?_
          exact wp_weak (wk_s (wk_s (wk_s (wk_n (wk_s (wk_s (wk_s wk_0))))))) h
set_option maxRecDepth 100000 in
set_option maxHeartbeats 4000000 in
theorem b_X12_rowsOf_56 {G : ab_G} {fr : Bool} {n0 : Nat} {tl : ab_H} {K : Int64 → ms_S → Prop} {S : ms_S} {i1 : Int32} {i2 : Int32} {i5 : Int32} {i6 : Int32} {w0 : Int64}
    (h : vp_in i5 18 ∧ (vp_in (i6 + (S.2.2.2.1 7 i5.toNatClampNeg)) 3584 ∧ (L_X12_rowsOf_75 G fr n0 tl K S i1 i2 i5 i6 (S.2.2.2.2 34 ((i6 + (S.2.2.2.1 7 i5.toNatClampNeg)).toNatClampNeg)) w0))) :
    L_X12_rowsOf_56 G fr n0 tl K S i1 i2 i5 i6 w0 := by
  unfold L_X12_rowsOf_56
  iterate 6 refine ws_b rfl ?_
  refine ws_g rfl h.1 ?_
  replace h := h.2
  refine ws_b rfl ?_
  refine ws_g rfl h.1 ?_
  replace h := h.2
  refine ws_b rfl ?_
  exact wp_weak (wk_s (wk_s (wk_s (wk_s (wk_s (wk_s (wk_s wk_0))))))) h
set_option maxRecDepth 100000 in
set_option maxHeartbeats 4000000 in
theorem b_X12_rowsOf_75 {G : ab_G} {fr : Bool} {n0 : Nat} {tl : ab_H} {K : Int64 → ms_S → Prop} {S : ms_S} {i1 : Int32} {i2 : Int32} {i5 : Int32} {i6 : Int32} {w0 : Int64} {w1 : Int64}
    (h : ctI G 1 M_X12_waysWith fr [.ref 0, .int i5] lM S tl (fun v1 S1 => (v1 = (nI 2) → ((i2 = (-(nI 1)) → (L_X12_rowsOf_104 G fr n0 tl K S1 i1 i2 i5 i6 (w1 + w0))) ∧ (¬ i2 = (-(nI 1)) → (vp_in i5 18 ∧ ((i2 = (S1.2.2.2.1 7 i5.toNatClampNeg) → (L_X12_rowsOf_104 G fr n0 tl K S1 i1 i2 i5 i6 (w1 + w0))) ∧ (¬ i2 = (S1.2.2.2.1 7 i5.toNatClampNeg) → (L_X12_rowsOf_122 G fr n0 tl K S1 i1 i2 i5 (w1 + w0)))))))) ∧ (¬ v1 = (nI 2) → (L_X12_rowsOf_122 G fr n0 tl K S1 i1 i2 i5 (w1 + w0))))) :
    L_X12_rowsOf_75 G fr n0 tl K S i1 i2 i5 i6 w0 w1 := by
  unfold L_X12_rowsOf_75
  iterate 5 refine ws_b rfl ?_
  refine wp_cV rfl rfl o_X12_waysWith v_X12_waysWith h rfl rfl rfl (Nat.le_of_ble_eq_true rfl) (by decide) ?_
  clear h
  rintro r9 h9 ⟨v1, S1, rfl, rfl, h⟩
  iterate 2 refine ws_b rfl ?_
  refine wp_ite (fun q => ?_) (fun q => ?_)
  · replace h := h.1 q
    iterate 3 refine ws_b rfl ?_
    refine wp_ite (fun q => ?_) (fun q => ?_)
    · replace h := h.1 q
      exact wp_weak (wk_s (wk_s (wk_s (wk_n (wk_s (wk_s (wk_s wk_0))))))) h
    · replace h := h.2 q
      iterate 4 refine ws_b rfl ?_
      refine ws_g rfl h.1 ?_
      replace h := h.2
      refine ws_b rfl ?_
      refine wp_ite (fun q => ?_) (fun q => ?_)
      · replace h := h.1 q
        exact wp_weak (wk_s (wk_s (wk_s (wk_n (wk_s (wk_s (wk_s wk_0))))))) h
      · replace h := h.2 q
        exact wp_weak (wk_s (wk_s (wk_s (wk_n (wk_s (wk_s (wk_n wk_0))))))) h
  · replace h := h.2 q
    exact wp_weak (wk_s (wk_s (wk_s (wk_n (wk_s (wk_s (wk_n wk_0))))))) h
set_option maxRecDepth 100000 in
set_option maxHeartbeats 4000000 in
theorem b_X12_rowsOf_104 {G : ab_G} {fr : Bool} {n0 : Nat} {tl : ab_H} {K : Int64 → ms_S → Prop} {S : ms_S} {i1 : Int32} {i2 : Int32} {i5 : Int32} {i6 : Int32} {w0 : Int64}
    (h : vp_in i5 18 ∧ (vp_in (i6 + (S.2.2.2.1 6 i5.toNatClampNeg)) 3584 ∧ (L_X12_rowsOf_123 G fr n0 tl K S i1 i2 i5 (S.2.2.2.2 34 ((i6 + (S.2.2.2.1 6 i5.toNatClampNeg)).toNatClampNeg)) w0))) :
    L_X12_rowsOf_104 G fr n0 tl K S i1 i2 i5 i6 w0 := by
  unfold L_X12_rowsOf_104
  iterate 6 refine ws_b rfl ?_
  refine ws_g rfl h.1 ?_
  replace h := h.2
  refine ws_b rfl ?_
  refine ws_g rfl h.1 ?_
  replace h := h.2
  refine ws_b rfl ?_
  exact wp_weak (wk_s (wk_s (wk_s (wk_s (wk_s (wk_s (wk_n wk_0))))))) h
set_option maxRecDepth 100000 in
set_option maxHeartbeats 4000000 in
theorem b_X12_rowsOf_122 {G : ab_G} {fr : Bool} {n0 : Nat} {tl : ab_H} {K : Int64 → ms_S → Prop} {S : ms_S} {i1 : Int32} {i2 : Int32} {i5 : Int32} {w0 : Int64}
    (h : L_X12_rowsOf_123 G fr n0 tl K S i1 i2 i5 (lN 0) w0) :
    L_X12_rowsOf_122 G fr n0 tl K S i1 i2 i5 w0 := by
  unfold L_X12_rowsOf_122
  refine ws_b rfl ?_
  exact wp_weak (wk_s (wk_s (wk_s (wk_s (wk_s (wk_s (wk_s wk_0))))))) h
set_option maxRecDepth 100000 in
set_option maxHeartbeats 4000000 in
theorem b_X12_rowsOf_123 {G : ab_G} {fr : Bool} {n0 : Nat} {tl : ab_H} {K : Int64 → ms_S → Prop} {S : ms_S} {i1 : Int32} {i2 : Int32} {i5 : Int32} {w0 : Int64} {w1 : Int64}
    (h : L_X12_rowsOf_125 G fr n0 tl K S i1 i2 (w1 + w0) i5) :
    L_X12_rowsOf_123 G fr n0 tl K S i1 i2 i5 w0 w1 := by
  unfold L_X12_rowsOf_123
  iterate 2 refine ws_b rfl ?_
  exact wp_weak (wk_s (wk_s (wk_s (wk_s (wk_s (wk_s (wk_s wk_0))))))) h
set_option maxRecDepth 100000 in
set_option maxHeartbeats 4000000 in
theorem b_X12_rowsOf_125 {G : ab_G} {fr : Bool} {n0 : Nat} {tl : ab_H} {K : Int64 → ms_S → Prop} {S : ms_S} {i1 : Int32} {i2 : Int32} {l3 : Int64} {i5 : Int32}
    (h : L_X12_rowsOf_5 G fr n0 tl K S i1 i2 l3 (i5 + nI 1)) :
    L_X12_rowsOf_125 G fr n0 tl K S i1 i2 l3 i5 := by
  unfold L_X12_rowsOf_125
  iterate 2 refine ws_b rfl ?_
  exact wp_weak (wk_s (wk_s (wk_s (wk_s (wk_s (wk_s (wk_s wk_0))))))) h
set_option maxRecDepth 100000 in
set_option maxHeartbeats 4000000 in
theorem m_X12_rowsOf {G : ab_G} {fr : Bool} {tl : ab_H} {K : Int64 → ms_S → Prop} {S : ms_S} {i1 : Int32} {i2 : Int32}
    (h : ∀ n0 : Nat, L_X12_rowsOf_5 G fr n0 tl K S i1 i2 (lN 0) (nI 0)) :
    ctL G 2 M_X12_rowsOf fr [.ref 0, .int i1, .int i2] lM S tl K := by
  refine wp_ct o_X12_rowsOf (Nat.le_of_ble_eq_true rfl) ?_
  replace h := h (hLy lM S tl).length
  revert h
  generalize (hLy lM S tl).length = n0
  intro h
  iterate 4 refine ws_b rfl ?_
  exact wp_weak (wk_s (wk_s (wk_s (wk_s (wk_s (wk_s (wk_s wk_0))))))) h
set_option maxRecDepth 100000 in
set_option maxHeartbeats 4000000 in
theorem m_X12_rows {G : ab_G} {fr : Bool} {tl : ab_H} {K : Int64 → ms_S → Prop} {S : ms_S} {i1 : Int32}
    (h : ∀ n0 : Nat, ctI G 1 M_X12_isHeir fr [.ref 0, .int i1] lM (sV S 2 (nI 0)) tl (fun v1 S1 => (v1 = 0 → (K ((-1 : Int64)) S1)) ∧ (¬ v1 = 0 → (ctU G 1 M_X12_plainTried fr [.ref 0] lM S1 tl (fun S2 => ctU G 4 M_X12_layJoins fr [.ref 0, .int (nI 0)] lM S2 tl (fun S3 => ctU G 2 M_X12_layWays fr [.ref 0, .int (nI 127)] lM S3 tl (fun S4 => ctI G 1 M_X12_heldBy fr [.ref 0, .int (nI 0), .int i1] lM S4 tl (fun v5 S5 => ctL G 2 M_X12_rowsOf fr [.ref 0, .int v5, .int (-(nI 1))] lM S5 tl (fun v6 S6 => K v6 S6))))))))) :
    ctL G 5 M_X12_rows fr [.ref 0, .int i1] lM S tl K := by
  refine wp_ct o_X12_rows (Nat.le_of_ble_eq_true rfl) ?_
  replace h := h (hLy lM S tl).length
  revert h
  generalize (hLy lM S tl).length = n0
  intro h
  iterate 5 refine ws_b rfl ?_
  refine wp_cV rfl rfl o_X12_isHeir v_X12_isHeir h rfl rfl rfl (Nat.le_of_ble_eq_true rfl) (by decide) ?_
  clear h
  rintro r9 h9 ⟨v1, S1, rfl, rfl, h⟩
  refine ws_b rfl ?_
  refine wp_ite (fun q => ?_) (fun q => ?_)
  · replace h := h.1 q
    refine ws_b rfl ?_
    exact wp_rl rfl rfl ⟨_, _, rfl, rfl, h⟩
  · replace h := h.2 q
    refine ws_b rfl ?_
    refine wp_cV rfl rfl o_X12_plainTried v_X12_plainTried h rfl rfl rfl (Nat.le_of_ble_eq_true rfl) (by decide) ?_
    clear h
    rintro r9 h9 ⟨S2, rfl, rfl, h⟩
    iterate 2 refine ws_b rfl ?_
    refine wp_cV rfl rfl o_X12_layJoins v_X12_layJoins h rfl rfl rfl (Nat.le_of_ble_eq_true rfl) (by decide) ?_
    clear h
    rintro r9 h9 ⟨S3, rfl, rfl, h⟩
    iterate 2 refine ws_b rfl ?_
    refine wp_cV rfl rfl o_X12_layWays v_X12_layWays h rfl rfl rfl (Nat.le_of_ble_eq_true rfl) (by decide) ?_
    clear h
    rintro r9 h9 ⟨S4, rfl, rfl, h⟩
    iterate 4 refine ws_b rfl ?_
    refine wp_cV rfl rfl o_X12_heldBy v_X12_heldBy h rfl rfl rfl (Nat.le_of_ble_eq_true rfl) (by decide) ?_
    clear h
    rintro r9 h9 ⟨v5, S5, rfl, rfl, h⟩
    refine ws_b rfl ?_
    refine wp_cV rfl rfl o_X12_rowsOf v_X12_rowsOf h rfl rfl rfl (Nat.le_of_ble_eq_true rfl) (by decide) ?_
    clear h
    rintro r9 h9 ⟨v6, S6, rfl, rfl, h⟩
    exact wp_rl rfl rfl ⟨_, _, rfl, rfl, h⟩
def L_X12_closed_31 (G : ab_G) (fr : Bool) (n0 : Nat) (tl : ab_H) (K : Int64 → ms_S → Prop) (S : ms_S) (i1 : Int32) (l2 : Int64) (i4 : Int32) : Prop := wp G 5 M_X12_closed fr n0 (poL lM tl K) 31 [some (.ref 0), some (.int i1), some (.long l2), none, some (.int i4), none, none] [] (hLy lM S tl)
def L_X12_closed_44 (G : ab_G) (fr : Bool) (n0 : Nat) (tl : ab_H) (K : Int64 → ms_S → Prop) (S : ms_S) (i1 : Int32) (l2 : Int64) (i4 : Int32) (i5 : Int32) (i6 : Int32) : Prop := wp G 5 M_X12_closed fr n0 (poL lM tl K) 44 [some (.ref 0), some (.int i1), some (.long l2), none, some (.int i4), some (.int i5), some (.int i6)] [] (hLy lM S tl)
set_option maxRecDepth 100000 in
set_option maxHeartbeats 4000000 in
theorem b_X12_closed_31 {G : ab_G} {fr : Bool} {n0 : Nat} {tl : ab_H} {K : Int64 → ms_S → Prop} {S : ms_S} {i1 : Int32} {l2 : Int64} {i4 : Int32}
    (h : ((nI 7) ≤ i4 → (K l2 S)) ∧ (¬ (nI 7) ≤ i4 → (L_X12_closed_44 G fr n0 tl K S i1 l2 i4 (nI 0) (nI 0)))) :
    L_X12_closed_31 G fr n0 tl K S i1 l2 i4 := by
  unfold L_X12_closed_31
  iterate 3 refine ws_b rfl ?_
  refine wp_ite (fun q => ?_) (fun q => ?_)
  · replace h := h.1 q
    refine ws_b rfl ?_
    exact wp_rl rfl rfl ⟨_, _, rfl, rfl, h⟩
  · replace h := h.2 q
    iterate 4 refine ws_b rfl ?_
    exact wp_weak (wk_s (wk_s (wk_s (wk_s (wk_s (wk_s (wk_s wk_0))))))) h
set_option maxRecDepth 100000 in
set_option maxHeartbeats 4000000 in
theorem b_X12_closed_44 {G : ab_G} {fr : Bool} {n0 : Nat} {tl : ab_H} {K : Int64 → ms_S → Prop} {S : ms_S} {i1 : Int32} {l2 : Int64} {i4 : Int32} {i5 : Int32} {i6 : Int32}
    (h : ((nI 7) ≤ i6 → (ctU G 2 M_X12_layWays fr [.ref 0, .int i5] lM S tl (fun S1 => ctI G 1 M_X12_heldBy fr [.ref 0, .int (nI 0), .int i1] lM S1 tl (fun v2 S2 => ctL G 2 M_X12_rowsOf fr [.ref 0, .int v2, .int i4] lM S2 tl (fun v3 S3 => L_X12_closed_31 G fr n0 tl K S3 i1 (l2 + v3) (i4 + nI 1)))))) ∧ (¬ (nI 7) ≤ i6 → (vp_in i6 7 ∧ (ctI G 1 M_X12_isOf fr [.int (S.2.2.2.1 31 i6.toNatClampNeg), .int i4] lM S tl (fun v4 S4 => (v4 = 0 → (L_X12_closed_44 G fr n0 tl K S4 i1 l2 i4 (i5 ||| (nI 0)) (i6 + nI 1))) ∧ (¬ v4 = 0 → (L_X12_closed_44 G fr n0 tl K S4 i1 l2 i4 (i5 ||| ((nI 1) <<< (i6 &&& 31))) (i6 + nI 1)))))))) :
    L_X12_closed_44 G fr n0 tl K S i1 l2 i4 i5 i6 := by
  unfold L_X12_closed_44
  iterate 3 refine ws_b rfl ?_
  refine wp_ite (fun q => ?_) (fun q => ?_)
  · replace h := h.1 q
    iterate 2 refine ws_b rfl ?_
    refine wp_cV rfl rfl o_X12_layWays v_X12_layWays h rfl rfl rfl (Nat.le_of_ble_eq_true rfl) (by decide) ?_
    clear h
    rintro r9 h9 ⟨S1, rfl, rfl, h⟩
    iterate 5 refine ws_b rfl ?_
    refine wp_cV rfl rfl o_X12_heldBy v_X12_heldBy h rfl rfl rfl (Nat.le_of_ble_eq_true rfl) (by decide) ?_
    clear h
    rintro r9 h9 ⟨v2, S2, rfl, rfl, h⟩
    refine ws_b rfl ?_
    refine wp_cV rfl rfl o_X12_rowsOf v_X12_rowsOf h rfl rfl rfl (Nat.le_of_ble_eq_true rfl) (by decide) ?_
    clear h
    rintro r9 h9 ⟨v3, S3, rfl, rfl, h⟩
    iterate 4 refine ws_b rfl ?_
    exact wp_weak (wk_s (wk_s (wk_s (wk_s (wk_s (wk_n (wk_n wk_0))))))) h
  · replace h := h.2 q
    iterate 4 refine ws_b rfl ?_
    refine ws_g rfl h.1 ?_
    replace h := h.2
    refine ws_b rfl ?_
    refine wp_cS rfl rfl o_X12_isOf s_X12_isOf h rfl rfl (Nat.le_of_ble_eq_true rfl) (by decide) ?_
    clear h
    rintro r9 h9 ⟨v4, S4, rfl, rfl, h⟩
    refine ws_b rfl ?_
    refine wp_ite (fun q => ?_) (fun q => ?_)
    · replace h := h.1 q
      iterate 5 refine ws_b rfl ?_
      exact wp_weak (wk_s (wk_s (wk_s (wk_s (wk_s (wk_s (wk_s wk_0))))))) h
    · replace h := h.2 q
      iterate 8 refine ws_b rfl ?_
      exact wp_weak (wk_s (wk_s (wk_s (wk_s (wk_s (wk_s (wk_s wk_0))))))) h
set_option maxRecDepth 100000 in
set_option maxHeartbeats 4000000 in
theorem m_X12_closed {G : ab_G} {fr : Bool} {tl : ab_H} {K : Int64 → ms_S → Prop} {S : ms_S} {i1 : Int32}
    (h : ∀ n0 : Nat, ctI G 1 M_X12_isHeir fr [.ref 0, .int i1] lM (sV S 2 (nI 0)) tl (fun v1 S1 => (v1 = 0 → (K ((-1 : Int64)) S1)) ∧ (¬ v1 = 0 → (ctU G 1 M_X12_plainTried fr [.ref 0] lM S1 tl (fun S2 => ctU G 4 M_X12_layJoins fr [.ref 0, .int (nI 0)] lM S2 tl (fun S3 => L_X12_closed_31 G fr n0 tl K S3 i1 (lN 0) (nI 0))))))) :
    ctL G 5 M_X12_closed fr [.ref 0, .int i1] lM S tl K := by
  refine wp_ct o_X12_closed (Nat.le_of_ble_eq_true rfl) ?_
  replace h := h (hLy lM S tl).length
  revert h
  generalize (hLy lM S tl).length = n0
  intro h
  iterate 5 refine ws_b rfl ?_
  refine wp_cV rfl rfl o_X12_isHeir v_X12_isHeir h rfl rfl rfl (Nat.le_of_ble_eq_true rfl) (by decide) ?_
  clear h
  rintro r9 h9 ⟨v1, S1, rfl, rfl, h⟩
  refine ws_b rfl ?_
  refine wp_ite (fun q => ?_) (fun q => ?_)
  · replace h := h.1 q
    refine ws_b rfl ?_
    exact wp_rl rfl rfl ⟨_, _, rfl, rfl, h⟩
  · replace h := h.2 q
    refine ws_b rfl ?_
    refine wp_cV rfl rfl o_X12_plainTried v_X12_plainTried h rfl rfl rfl (Nat.le_of_ble_eq_true rfl) (by decide) ?_
    clear h
    rintro r9 h9 ⟨S2, rfl, rfl, h⟩
    iterate 2 refine ws_b rfl ?_
    refine wp_cV rfl rfl o_X12_layJoins v_X12_layJoins h rfl rfl rfl (Nat.le_of_ble_eq_true rfl) (by decide) ?_
    clear h
    rintro r9 h9 ⟨S3, rfl, rfl, h⟩
    iterate 4 refine ws_b rfl ?_
    exact wp_weak (wk_s (wk_s (wk_s (wk_s (wk_s (wk_s (wk_s wk_0))))))) h
def L_X12_firstRow_23 (G : ab_G) (fr : Bool) (n0 : Nat) (tl : ab_H) (K : Int32 → ms_S → Prop) (S : ms_S)  : Prop := wp G 5 M_X12_firstRow fr n0 (poI lM tl K) 23 [none, none, none, none, none, none, none, none, none, none, none] [] (hLy lM S tl)
def L_X12_firstRow_66 (G : ab_G) (fr : Bool) (n0 : Nat) (tl : ab_H) (K : Int32 → ms_S → Prop) (S : ms_S)  : Prop := wp G 5 M_X12_firstRow fr n0 (poI lM tl K) 66 [none, none, none, none, none, none, none, none, none, none, none] [] (hLy lM S tl)
def L_X12_firstRow_78 (G : ab_G) (fr : Bool) (n0 : Nat) (tl : ab_H) (K : Int32 → ms_S → Prop) (S : ms_S) (i2 : Int32) (i3 : Int32) (i4 : Int32) (i5 : Int32) (i6 : Int32) : Prop := wp G 5 M_X12_firstRow fr n0 (poI lM tl K) 78 [some (.ref 0), none, some (.int i2), some (.int i3), some (.int i4), some (.int i5), some (.int i6), none, none, none, none] [] (hLy lM S tl)
def L_X12_firstRow_90 (G : ab_G) (fr : Bool) (n0 : Nat) (tl : ab_H) (K : Int32 → ms_S → Prop) (S : ms_S) (i2 : Int32) (i3 : Int32) (i4 : Int32) (i5 : Int32) (i6 : Int32) (i7 : Int32) : Prop := wp G 5 M_X12_firstRow fr n0 (poI lM tl K) 90 [some (.ref 0), none, some (.int i2), some (.int i3), some (.int i4), some (.int i5), some (.int i6), some (.int i7), none, none, none] [] (hLy lM S tl)
def L_X12_firstRow_142 (G : ab_G) (fr : Bool) (n0 : Nat) (tl : ab_H) (K : Int32 → ms_S → Prop) (S : ms_S) (i2 : Int32) (i3 : Int32) (i4 : Int32) (i5 : Int32) (i6 : Int32) (i7 : Int32) (i8 : Int32) : Prop := wp G 5 M_X12_firstRow fr n0 (poI lM tl K) 142 [some (.ref 0), none, some (.int i2), some (.int i3), some (.int i4), some (.int i5), some (.int i6), some (.int i7), some (.int i8), none, none] [] (hLy lM S tl)
def L_X12_firstRow_166 (G : ab_G) (fr : Bool) (n0 : Nat) (tl : ab_H) (K : Int32 → ms_S → Prop) (S : ms_S) (i2 : Int32) (i3 : Int32) (i4 : Int32) (i5 : Int32) (i6 : Int32) (i7 : Int32) (i8 : Int32) (t0 : Int32) : Prop := wp G 5 M_X12_firstRow fr n0 (poI lM tl K) 166 [some (.ref 0), none, some (.int i2), some (.int i3), some (.int i4), some (.int i5), some (.int i6), some (.int i7), some (.int i8), none, none] [.int t0] (hLy lM S tl)
def L_X12_firstRow_192 (G : ab_G) (fr : Bool) (n0 : Nat) (tl : ab_H) (K : Int32 → ms_S → Prop) (S : ms_S) (i2 : Int32) (i3 : Int32) (i4 : Int32) (i5 : Int32) (i6 : Int32) (i7 : Int32) (i8 : Int32) (i9 : Int32) (t0 : Int32) : Prop := wp G 5 M_X12_firstRow fr n0 (poI lM tl K) 192 [some (.ref 0), none, some (.int i2), some (.int i3), some (.int i4), some (.int i5), some (.int i6), some (.int i7), some (.int i8), some (.int i9), none] [.int t0] (hLy lM S tl)
def L_X12_firstRow_214 (G : ab_G) (fr : Bool) (n0 : Nat) (tl : ab_H) (K : Int32 → ms_S → Prop) (S : ms_S) (i2 : Int32) (i3 : Int32) (i4 : Int32) (i5 : Int32) (i6 : Int32) (i7 : Int32) (i8 : Int32) (i10 : Int32) : Prop := wp G 5 M_X12_firstRow fr n0 (poI lM tl K) 214 [some (.ref 0), none, some (.int i2), some (.int i3), some (.int i4), some (.int i5), some (.int i6), some (.int i7), some (.int i8), none, some (.int i10)] [] (hLy lM S tl)
def L_X12_firstRow_245 (G : ab_G) (fr : Bool) (n0 : Nat) (tl : ab_H) (K : Int32 → ms_S → Prop) (S : ms_S) (i2 : Int32) (i3 : Int32) (i4 : Int32) (i5 : Int32) (i6 : Int32) (i7 : Int32) : Prop := wp G 5 M_X12_firstRow fr n0 (poI lM tl K) 245 [some (.ref 0), none, some (.int i2), some (.int i3), some (.int i4), some (.int i5), some (.int i6), some (.int i7), none, none, none] [] (hLy lM S tl)
def L_X12_firstRow_251 (G : ab_G) (fr : Bool) (n0 : Nat) (tl : ab_H) (K : Int32 → ms_S → Prop) (S : ms_S) (i2 : Int32) (i3 : Int32) (i5 : Int32) (i6 : Int32) : Prop := wp G 5 M_X12_firstRow fr n0 (poI lM tl K) 251 [some (.ref 0), none, some (.int i2), some (.int i3), none, some (.int i5), some (.int i6), none, none, none, none] [] (hLy lM S tl)
def L_X12_firstRow_290 (G : ab_G) (fr : Bool) (n0 : Nat) (tl : ab_H) (K : Int32 → ms_S → Prop) (S : ms_S) (i2 : Int32) (i3 : Int32) (i5 : Int32) (i6 : Int32) (t0 : Int32) : Prop := wp G 5 M_X12_firstRow fr n0 (poI lM tl K) 290 [some (.ref 0), none, some (.int i2), some (.int i3), none, some (.int i5), some (.int i6), none, none, none, none] [.int t0] (hLy lM S tl)
set_option maxRecDepth 100000 in
set_option maxHeartbeats 4000000 in
theorem b_X12_firstRow_23 {G : ab_G} {fr : Bool} {n0 : Nat} {tl : ab_H} {K : Int32 → ms_S → Prop} {S : ms_S} 
    (h : K (-(nI 1)) S) :
    L_X12_firstRow_23 G fr n0 tl K S  := by
  unfold L_X12_firstRow_23
  refine ws_b rfl ?_
  exact wp_ri rfl rfl rfl ⟨_, _, rfl, rfl, h⟩
set_option maxRecDepth 100000 in
set_option maxHeartbeats 4000000 in
theorem b_X12_firstRow_66 {G : ab_G} {fr : Bool} {n0 : Nat} {tl : ab_H} {K : Int32 → ms_S → Prop} {S : ms_S} 
    (h : K (-(nI 2)) S) :
    L_X12_firstRow_66 G fr n0 tl K S  := by
  unfold L_X12_firstRow_66
  refine ws_b rfl ?_
  exact wp_ri rfl rfl rfl ⟨_, _, rfl, rfl, h⟩
set_option maxRecDepth 100000 in
set_option maxHeartbeats 4000000 in
theorem b_X12_firstRow_78 {G : ab_G} {fr : Bool} {n0 : Nat} {tl : ab_H} {K : Int32 → ms_S → Prop} {S : ms_S} {i2 : Int32} {i3 : Int32} {i4 : Int32} {i5 : Int32} {i6 : Int32}
    (h : (i2 < i6 → (¬ (nI 2) = 0 ∧ (¬ (nI 2) = 0 ∧ (K (((nI 10) * (i5 / (nI 2))) + (i5 - i5 / (nI 2) * (nI 2))) S)))) ∧ (¬ i2 < i6 → (L_X12_firstRow_90 G fr n0 tl K S i2 i3 i4 (-(nI 1)) i6 (nI 0)))) :
    L_X12_firstRow_78 G fr n0 tl K S i2 i3 i4 i5 i6 := by
  unfold L_X12_firstRow_78
  iterate 3 refine ws_b rfl ?_
  refine wp_ite (fun q => ?_) (fun q => ?_)
  · replace h := h.1 q
    iterate 3 refine ws_b rfl ?_
    refine ws_g rfl h.1 ?_
    replace h := h.2
    iterate 3 refine ws_b rfl ?_
    refine ws_g rfl h.1 ?_
    replace h := h.2
    refine ws_b rfl ?_
    exact wp_ri rfl rfl rfl ⟨_, _, rfl, rfl, h⟩
  · replace h := h.2 q
    iterate 4 refine ws_b rfl ?_
    exact wp_weak (wk_s (wk_s (wk_s (wk_s (wk_s (wk_s (wk_s (wk_s (wk_s (wk_s (wk_s wk_0))))))))))) h
set_option maxRecDepth 100000 in
set_option maxHeartbeats 4000000 in
theorem b_X12_firstRow_90 {G : ab_G} {fr : Bool} {n0 : Nat} {tl : ab_H} {K : Int32 → ms_S → Prop} {S : ms_S} {i2 : Int32} {i3 : Int32} {i4 : Int32} {i5 : Int32} {i6 : Int32} {i7 : Int32}
    (h : (((nI 2) * (S.1 0 12)) ≤ i7 → (L_X12_firstRow_251 G fr n0 tl K S i2 i3 i5 i6)) ∧ (¬ ((nI 2) * (S.1 0 12)) ≤ i7 → ((0 ≤ i5 → (L_X12_firstRow_251 G fr n0 tl K S i2 i3 i5 i6)) ∧ (¬ 0 ≤ i5 → (¬ (nI 2) = 0 ∧ (ctI G 1 M_X12_isOf fr [.int i3, .int (i7 / (nI 2))] lM S tl (fun v1 S1 => (v1 = 0 → (L_X12_firstRow_245 G fr n0 tl K S1 i2 i3 i4 i5 i6 i7)) ∧ (¬ v1 = 0 → (¬ (nI 2) = 0 ∧ (((i7 - i7 / (nI 2) * (nI 2)) = (nI 1) → (ctI G 1 M_X12_waysWith fr [.ref 0, .int (i7 / (nI 2))] lM S1 tl (fun v2 S2 => (v2 = (nI 1) → (L_X12_firstRow_245 G fr n0 tl K S2 i2 i3 i4 i5 i6 i7)) ∧ (¬ v2 = (nI 1) → (L_X12_firstRow_142 G fr n0 tl K S2 i2 i3 i4 i5 i6 i7 (i7 / (nI 2))))))) ∧ (¬ (i7 - i7 / (nI 2) * (nI 2)) = (nI 1) → (L_X12_firstRow_142 G fr n0 tl K S1 i2 i3 i4 i5 i6 i7 (i7 / (nI 2)))))))))))))) :
    L_X12_firstRow_90 G fr n0 tl K S i2 i3 i4 i5 i6 i7 := by
  unfold L_X12_firstRow_90
  iterate 6 refine ws_b rfl ?_
  refine wp_ite (fun q => ?_) (fun q => ?_)
  · replace h := h.1 q
    exact wp_weak (wk_s (wk_s (wk_s (wk_s (wk_n (wk_s (wk_s (wk_n (wk_s (wk_s (wk_s wk_0))))))))))) h
  · replace h := h.2 q
    iterate 2 refine ws_b rfl ?_
    refine wp_ite (fun q => ?_) (fun q => ?_)
    · replace h := h.1 q
      exact wp_weak (wk_s (wk_s (wk_s (wk_s (wk_n (wk_s (wk_s (wk_n (wk_s (wk_s (wk_s wk_0))))))))))) h
    · replace h := h.2 q
      iterate 2 refine ws_b rfl ?_
      refine ws_g rfl h.1 ?_
      replace h := h.2
      iterate 3 refine ws_b rfl ?_
      refine wp_cS rfl rfl o_X12_isOf s_X12_isOf h rfl rfl (Nat.le_of_ble_eq_true rfl) (by decide) ?_
      clear h
      rintro r9 h9 ⟨v1, S1, rfl, rfl, h⟩
      refine ws_b rfl ?_
      refine wp_ite (fun q => ?_) (fun q => ?_)
      · replace h := h.1 q
        exact wp_weak (wk_s (wk_s (wk_s (wk_s (wk_s (wk_s (wk_s (wk_s (wk_n (wk_s (wk_s wk_0))))))))))) h
      · replace h := h.2 q
        iterate 2 refine ws_b rfl ?_
        refine ws_g rfl h.1 ?_
        replace h := h.2
        iterate 2 refine ws_b rfl ?_
        refine wp_ite (fun q => ?_) (fun q => ?_)
        · replace h := h.1 q
          iterate 2 refine ws_b rfl ?_
          refine wp_cV rfl rfl o_X12_waysWith v_X12_waysWith h rfl rfl rfl (Nat.le_of_ble_eq_true rfl) (by decide) ?_
          clear h
          rintro r9 h9 ⟨v2, S2, rfl, rfl, h⟩
          iterate 2 refine ws_b rfl ?_
          refine wp_ite (fun q => ?_) (fun q => ?_)
          · replace h := h.1 q
            refine ws_b rfl ?_
            exact wp_weak (wk_s (wk_s (wk_s (wk_s (wk_s (wk_s (wk_s (wk_s (wk_n (wk_s (wk_s wk_0))))))))))) h
          · replace h := h.2 q
            exact wp_weak (wk_s (wk_s (wk_s (wk_s (wk_s (wk_s (wk_s (wk_s (wk_s (wk_s (wk_s wk_0))))))))))) h
        · replace h := h.2 q
          exact wp_weak (wk_s (wk_s (wk_s (wk_s (wk_s (wk_s (wk_s (wk_s (wk_s (wk_s (wk_s wk_0))))))))))) h
set_option maxRecDepth 100000 in
set_option maxHeartbeats 4000000 in
theorem b_X12_firstRow_142 {G : ab_G} {fr : Bool} {n0 : Nat} {tl : ab_H} {K : Int32 → ms_S → Prop} {S : ms_S} {i2 : Int32} {i3 : Int32} {i4 : Int32} {i5 : Int32} {i6 : Int32} {i7 : Int32} {i8 : Int32}
    (h : ¬ (nI 2) = 0 ∧ (((i7 - i7 / (nI 2) * (nI 2)) = 0 → (vp_in i8 18 ∧ (L_X12_firstRow_166 G fr n0 tl K S i2 i3 i4 i5 i6 i7 i8 (S.2.2.2.1 6 i8.toNatClampNeg)))) ∧ (¬ (i7 - i7 / (nI 2) * (nI 2)) = 0 → (vp_in i8 18 ∧ (L_X12_firstRow_166 G fr n0 tl K S i2 i3 i4 i5 i6 i7 i8 (S.2.2.2.1 7 i8.toNatClampNeg)))))) :
    L_X12_firstRow_142 G fr n0 tl K S i2 i3 i4 i5 i6 i7 i8 := by
  unfold L_X12_firstRow_142
  iterate 2 refine ws_b rfl ?_
  refine ws_g rfl h.1 ?_
  replace h := h.2
  refine ws_b rfl ?_
  refine wp_ite (fun q => ?_) (fun q => ?_)
  · replace h := h.1 q
    iterate 3 refine ws_b rfl ?_
    refine ws_g rfl h.1 ?_
    replace h := h.2
    refine ws_b rfl ?_
    exact wp_weak (wk_s (wk_s (wk_s (wk_s (wk_s (wk_s (wk_s (wk_s (wk_s (wk_s (wk_s wk_0))))))))))) h
  · replace h := h.2 q
    iterate 3 refine ws_b rfl ?_
    refine ws_g rfl h.1 ?_
    replace h := h.2
    exact wp_weak (wk_s (wk_s (wk_s (wk_s (wk_s (wk_s (wk_s (wk_s (wk_s (wk_s (wk_s wk_0))))))))))) h
set_option maxRecDepth 100000 in
set_option maxHeartbeats 4000000 in
theorem b_X12_firstRow_166 {G : ab_G} {fr : Bool} {n0 : Nat} {tl : ab_H} {K : Int32 → ms_S → Prop} {S : ms_S} {i2 : Int32} {i3 : Int32} {i4 : Int32} {i5 : Int32} {i6 : Int32} {i7 : Int32} {i8 : Int32} {t0 : Int32}
    (h : ¬ (nI 2) = 0 ∧ (((i7 - i7 / (nI 2) * (nI 2)) = 0 → (vp_in i8 18 ∧ (L_X12_firstRow_192 G fr n0 tl K S i2 i3 i4 i5 i6 i7 i8 t0 (S.2.2.2.1 7 i8.toNatClampNeg)))) ∧ (¬ (i7 - i7 / (nI 2) * (nI 2)) = 0 → (vp_in i8 18 ∧ (L_X12_firstRow_192 G fr n0 tl K S i2 i3 i4 i5 i6 i7 i8 t0 (S.2.2.2.1 6 i8.toNatClampNeg)))))) :
    L_X12_firstRow_166 G fr n0 tl K S i2 i3 i4 i5 i6 i7 i8 t0 := by
  unfold L_X12_firstRow_166
  iterate 3 refine ws_b rfl ?_
  refine ws_g rfl h.1 ?_
  replace h := h.2
  refine ws_b rfl ?_
  refine wp_ite (fun q => ?_) (fun q => ?_)
  · replace h := h.1 q
    iterate 3 refine ws_b rfl ?_
    refine ws_g rfl h.1 ?_
    replace h := h.2
    refine ws_b rfl ?_
    exact wp_weak (wk_s (wk_s (wk_s (wk_s (wk_s (wk_s (wk_s (wk_s (wk_s (wk_s (wk_s wk_0))))))))))) h
  · replace h := h.2 q
    iterate 3 refine ws_b rfl ?_
    refine ws_g rfl h.1 ?_
    replace h := h.2
    exact wp_weak (wk_s (wk_s (wk_s (wk_s (wk_s (wk_s (wk_s (wk_s (wk_s (wk_s (wk_s wk_0))))))))))) h
set_option maxRecDepth 100000 in
set_option maxHeartbeats 4000000 in
theorem b_X12_firstRow_192 {G : ab_G} {fr : Bool} {n0 : Nat} {tl : ab_H} {K : Int32 → ms_S → Prop} {S : ms_S} {i2 : Int32} {i3 : Int32} {i4 : Int32} {i5 : Int32} {i6 : Int32} {i7 : Int32} {i8 : Int32} {i9 : Int32} {t0 : Int32}
    (h : (i4 < 0 → (L_X12_firstRow_214 G fr n0 tl K S i2 i3 i4 i5 i6 i7 i8 t0)) ∧ (¬ i4 < 0 → (vp_in i4 7 ∧ (ctI G 1 M_X12_isOf fr [.int (S.2.2.2.1 31 i4.toNatClampNeg), .int i9] lM S tl (fun v1 S1 => (v1 = 0 → (L_X12_firstRow_245 G fr n0 tl K S1 i2 i3 i4 i5 i6 i7)) ∧ (¬ v1 = 0 → (L_X12_firstRow_214 G fr n0 tl K S1 i2 i3 i4 i5 i6 i7 i8 t0))))))) :
    L_X12_firstRow_192 G fr n0 tl K S i2 i3 i4 i5 i6 i7 i8 i9 t0 := by
  unfold L_X12_firstRow_192
  iterate 3 refine ws_b rfl ?_
  refine wp_ite (fun q => ?_) (fun q => ?_)
  · replace h := h.1 q
    exact wp_weak (wk_s (wk_s (wk_s (wk_s (wk_s (wk_s (wk_s (wk_s (wk_s (wk_n (wk_s wk_0))))))))))) h
  · replace h := h.2 q
    iterate 3 refine ws_b rfl ?_
    refine ws_g rfl h.1 ?_
    replace h := h.2
    refine ws_b rfl ?_
    refine wp_cS rfl rfl o_X12_isOf s_X12_isOf h rfl rfl (Nat.le_of_ble_eq_true rfl) (by decide) ?_
    clear h
    rintro r9 h9 ⟨v1, S1, rfl, rfl, h⟩
    refine ws_b rfl ?_
    refine wp_ite (fun q => ?_) (fun q => ?_)
    · replace h := h.1 q
      exact wp_weak (wk_s (wk_s (wk_s (wk_s (wk_s (wk_s (wk_s (wk_s (wk_n (wk_n (wk_n wk_0))))))))))) h
    · replace h := h.2 q
      exact wp_weak (wk_s (wk_s (wk_s (wk_s (wk_s (wk_s (wk_s (wk_s (wk_s (wk_n (wk_s wk_0))))))))))) h
set_option maxRecDepth 100000 in
set_option maxHeartbeats 4000000 in
theorem b_X12_firstRow_214 {G : ab_G} {fr : Bool} {n0 : Nat} {tl : ab_H} {K : Int32 → ms_S → Prop} {S : ms_S} {i2 : Int32} {i3 : Int32} {i4 : Int32} {i5 : Int32} {i6 : Int32} {i7 : Int32} {i8 : Int32} {i10 : Int32}
    (h : vp_in (((nI 7) * (i3 &&& (((nI 1) <<< (i8 &&& 31)) ^^^ (-(nI 1))))) + i10) 3584 ∧ (((lg_cmp (S.2.2.2.2 34 ((((nI 7) * (i3 &&& (((nI 1) <<< (i8 &&& 31)) ^^^ (-(nI 1))))) + i10).toNatClampNeg)) (lN 0)) = 0 → (L_X12_firstRow_245 G fr n0 tl K S i2 i3 i4 i5 i6 i7)) ∧ (¬ (lg_cmp (S.2.2.2.2 34 ((((nI 7) * (i3 &&& (((nI 1) <<< (i8 &&& 31)) ^^^ (-(nI 1))))) + i10).toNatClampNeg)) (lN 0)) = 0 → (L_X12_firstRow_245 G fr n0 tl K S i2 i3 i4 i7 i6 i7)))) :
    L_X12_firstRow_214 G fr n0 tl K S i2 i3 i4 i5 i6 i7 i8 i10 := by
  unfold L_X12_firstRow_214
  iterate 13 refine ws_b rfl ?_
  refine ws_g rfl h.1 ?_
  replace h := h.2
  iterate 3 refine ws_b rfl ?_
  refine wp_ite (fun q => ?_) (fun q => ?_)
  · replace h := h.1 q
    refine ws_b rfl ?_
    exact wp_weak (wk_s (wk_s (wk_s (wk_s (wk_s (wk_s (wk_s (wk_s (wk_n (wk_s (wk_n wk_0))))))))))) h
  · replace h := h.2 q
    iterate 2 refine ws_b rfl ?_
    exact wp_weak (wk_s (wk_s (wk_s (wk_s (wk_s (wk_s (wk_s (wk_s (wk_n (wk_s (wk_n wk_0))))))))))) h
set_option maxRecDepth 100000 in
set_option maxHeartbeats 4000000 in
theorem b_X12_firstRow_245 {G : ab_G} {fr : Bool} {n0 : Nat} {tl : ab_H} {K : Int32 → ms_S → Prop} {S : ms_S} {i2 : Int32} {i3 : Int32} {i4 : Int32} {i5 : Int32} {i6 : Int32} {i7 : Int32}
    (h : L_X12_firstRow_90 G fr n0 tl K S i2 i3 i4 i5 i6 (i7 + nI 1)) :
    L_X12_firstRow_245 G fr n0 tl K S i2 i3 i4 i5 i6 i7 := by
  unfold L_X12_firstRow_245
  iterate 2 refine ws_b rfl ?_
  exact wp_weak (wk_s (wk_s (wk_s (wk_s (wk_s (wk_s (wk_s (wk_s (wk_s (wk_s (wk_s wk_0))))))))))) h
set_option maxRecDepth 100000 in
set_option maxHeartbeats 4000000 in
theorem b_X12_firstRow_251 {G : ab_G} {fr : Bool} {n0 : Nat} {tl : ab_H} {K : Int32 → ms_S → Prop} {S : ms_S} {i2 : Int32} {i3 : Int32} {i5 : Int32} {i6 : Int32}
    (h : ¬ (nI 2) = 0 ∧ (¬ (nI 2) = 0 ∧ (((i5 - i5 / (nI 2) * (nI 2)) = 0 → (vp_in (i5 / (nI 2)) 18 ∧ (L_X12_firstRow_290 G fr n0 tl K S i2 (i3 &&& (((nI 1) <<< ((i5 / (nI 2)) &&& 31)) ^^^ (-(nI 1)))) i5 i6 (S.2.2.2.1 7 ((i5 / (nI 2)).toNatClampNeg))))) ∧ (¬ (i5 - i5 / (nI 2) * (nI 2)) = 0 → (vp_in (i5 / (nI 2)) 18 ∧ (L_X12_firstRow_290 G fr n0 tl K S i2 (i3 &&& (((nI 1) <<< ((i5 / (nI 2)) &&& 31)) ^^^ (-(nI 1)))) i5 i6 (S.2.2.2.1 6 ((i5 / (nI 2)).toNatClampNeg)))))))) :
    L_X12_firstRow_251 G fr n0 tl K S i2 i3 i5 i6 := by
  unfold L_X12_firstRow_251
  iterate 2 refine ws_b rfl ?_
  refine ws_g rfl h.1 ?_
  replace h := h.2
  iterate 11 refine ws_b rfl ?_
  refine ws_g rfl h.1 ?_
  replace h := h.2
  refine ws_b rfl ?_
  refine wp_ite (fun q => ?_) (fun q => ?_)
  · replace h := h.1 q
    iterate 3 refine ws_b rfl ?_
    refine ws_g rfl h.1 ?_
    replace h := h.2
    refine ws_b rfl ?_
    exact wp_weak (wk_s (wk_s (wk_s (wk_s (wk_s (wk_s (wk_s (wk_n (wk_s (wk_s (wk_s wk_0))))))))))) h
  · replace h := h.2 q
    iterate 3 refine ws_b rfl ?_
    refine ws_g rfl h.1 ?_
    replace h := h.2
    exact wp_weak (wk_s (wk_s (wk_s (wk_s (wk_s (wk_s (wk_s (wk_n (wk_s (wk_s (wk_s wk_0))))))))))) h
set_option maxRecDepth 100000 in
set_option maxHeartbeats 4000000 in
theorem b_X12_firstRow_290 {G : ab_G} {fr : Bool} {n0 : Nat} {tl : ab_H} {K : Int32 → ms_S → Prop} {S : ms_S} {i2 : Int32} {i3 : Int32} {i5 : Int32} {i6 : Int32} {t0 : Int32}
    (h : L_X12_firstRow_78 G fr n0 tl K S i2 i3 t0 i5 (i6 + nI 1)) :
    L_X12_firstRow_290 G fr n0 tl K S i2 i3 i5 i6 t0 := by
  unfold L_X12_firstRow_290
  iterate 3 refine ws_b rfl ?_
  exact wp_weak (wk_s (wk_s (wk_s (wk_s (wk_s (wk_s (wk_s (wk_s (wk_s (wk_s (wk_s wk_0))))))))))) h
set_option maxRecDepth 100000 in
set_option maxHeartbeats 4000000 in
theorem m_X12_firstRow {G : ab_G} {fr : Bool} {tl : ab_H} {K : Int32 → ms_S → Prop} {S : ms_S} {i1 : Int32} {i2 : Int32}
    (h : ∀ n0 : Nat, ctI G 1 M_X12_isHeir fr [.ref 0, .int i1] lM (sV S 2 (nI 0)) tl (fun v1 S1 => (v1 = 0 → (L_X12_firstRow_23 G fr n0 tl K S1 )) ∧ (¬ v1 = 0 → (ctI G 1 M_X12_isIn fr [.int i2, .int (nI 0), .int (nI 8)] lM S1 tl (fun v2 S2 => (v2 = 0 → (L_X12_firstRow_23 G fr n0 tl K S2 )) ∧ (¬ v2 = 0 → (ctU G 1 M_X12_plainTried fr [.ref 0] lM S2 tl (fun S3 => ctU G 4 M_X12_layJoins fr [.ref 0, .int (nI 0)] lM S3 tl (fun S4 => ctU G 2 M_X12_layWays fr [.ref 0, .int (nI 127)] lM S4 tl (fun S5 => ctI G 1 M_X12_heldBy fr [.ref 0, .int (nI 0), .int i1] lM S5 tl (fun v6 S6 => ctI G 1 M_X12_manyOf fr [.int v6] lM S6 tl (fun v7 S7 => (v7 ≤ i2 → (L_X12_firstRow_66 G fr n0 tl K S7 )) ∧ (¬ v7 ≤ i2 → (ctL G 2 M_X12_rowsOf fr [.ref 0, .int v6, .int (-(nI 1))] lM S7 tl (fun v8 S8 => ((lg_cmp v8 (lN 0)) = 0 → (L_X12_firstRow_66 G fr n0 tl K S8 )) ∧ (¬ (lg_cmp v8 (lN 0)) = 0 → (L_X12_firstRow_78 G fr n0 tl K S8 i2 v6 (-(nI 1)) (-(nI 1)) (nI 0)))))))))))))))))) :
    ctI G 5 M_X12_firstRow fr [.ref 0, .int i1, .int i2] lM S tl K := by
  refine wp_ct o_X12_firstRow (Nat.le_of_ble_eq_true rfl) ?_
  replace h := h (hLy lM S tl).length
  revert h
  generalize (hLy lM S tl).length = n0
  intro h
  iterate 5 refine ws_b rfl ?_
  refine wp_cV rfl rfl o_X12_isHeir v_X12_isHeir h rfl rfl rfl (Nat.le_of_ble_eq_true rfl) (by decide) ?_
  clear h
  rintro r9 h9 ⟨v1, S1, rfl, rfl, h⟩
  refine ws_b rfl ?_
  refine wp_ite (fun q => ?_) (fun q => ?_)
  · replace h := h.1 q
    exact wp_weak (wk_n (wk_n (wk_n (wk_s (wk_s (wk_s (wk_s (wk_s (wk_s (wk_s (wk_s wk_0))))))))))) h
  · replace h := h.2 q
    iterate 3 refine ws_b rfl ?_
    refine wp_cS rfl rfl o_X12_isIn s_X12_isIn h rfl rfl (Nat.le_of_ble_eq_true rfl) (by decide) ?_
    clear h
    rintro r9 h9 ⟨v2, S2, rfl, rfl, h⟩
    refine ws_b rfl ?_
    refine wp_ite (fun q => ?_) (fun q => ?_)
    · replace h := h.1 q
      exact wp_weak (wk_n (wk_n (wk_n (wk_s (wk_s (wk_s (wk_s (wk_s (wk_s (wk_s (wk_s wk_0))))))))))) h
    · replace h := h.2 q
      refine ws_b rfl ?_
      refine wp_cV rfl rfl o_X12_plainTried v_X12_plainTried h rfl rfl rfl (Nat.le_of_ble_eq_true rfl) (by decide) ?_
      clear h
      rintro r9 h9 ⟨S3, rfl, rfl, h⟩
      iterate 2 refine ws_b rfl ?_
      refine wp_cV rfl rfl o_X12_layJoins v_X12_layJoins h rfl rfl rfl (Nat.le_of_ble_eq_true rfl) (by decide) ?_
      clear h
      rintro r9 h9 ⟨S4, rfl, rfl, h⟩
      iterate 2 refine ws_b rfl ?_
      refine wp_cV rfl rfl o_X12_layWays v_X12_layWays h rfl rfl rfl (Nat.le_of_ble_eq_true rfl) (by decide) ?_
      clear h
      rintro r9 h9 ⟨S5, rfl, rfl, h⟩
      iterate 3 refine ws_b rfl ?_
      refine wp_cV rfl rfl o_X12_heldBy v_X12_heldBy h rfl rfl rfl (Nat.le_of_ble_eq_true rfl) (by decide) ?_
      clear h
      rintro r9 h9 ⟨v6, S6, rfl, rfl, h⟩
      iterate 3 refine ws_b rfl ?_
      refine wp_cS rfl rfl o_X12_manyOf s_X12_manyOf h rfl rfl (Nat.le_of_ble_eq_true rfl) (by decide) ?_
      clear h
      rintro r9 h9 ⟨v7, S7, rfl, rfl, h⟩
      refine ws_b rfl ?_
      refine wp_ite (fun q => ?_) (fun q => ?_)
      · replace h := h.1 q
        exact wp_weak (wk_n (wk_n (wk_n (wk_n (wk_s (wk_s (wk_s (wk_s (wk_s (wk_s (wk_s wk_0))))))))))) h
      · replace h := h.2 q
        iterate 3 refine ws_b rfl ?_
        refine wp_cV rfl rfl o_X12_rowsOf v_X12_rowsOf h rfl rfl rfl (Nat.le_of_ble_eq_true rfl) (by decide) ?_
        clear h
        rintro r9 h9 ⟨v8, S8, rfl, rfl, h⟩
        iterate 3 refine ws_b rfl ?_
        refine wp_ite (fun q => ?_) (fun q => ?_)
        · replace h := h.1 q
          exact wp_weak (wk_n (wk_n (wk_n (wk_n (wk_s (wk_s (wk_s (wk_s (wk_s (wk_s (wk_s wk_0))))))))))) h
        · replace h := h.2 q
          iterate 6 refine ws_b rfl ?_
          exact wp_weak (wk_s (wk_n (wk_s (wk_s (wk_s (wk_s (wk_s (wk_s (wk_s (wk_s (wk_s wk_0))))))))))) h
def L_X12_fewest_40 (G : ab_G) (fr : Bool) (n0 : Nat) (tl : ab_H) (K : Int32 → ms_S → Prop) (S : ms_S) (i2 : Int32) (i3 : Int32) : Prop := wp G 6 M_X12_fewest fr n0 (poI lM tl K) 40 [some (.ref 0), none, some (.int i2), some (.int i3), none] [] (hLy lM S tl)
def L_X12_fewest_69 (G : ab_G) (fr : Bool) (n0 : Nat) (tl : ab_H) (K : Int32 → ms_S → Prop) (S : ms_S) (i2 : Int32) (i3 : Int32) (i4 : Int32) : Prop := wp G 6 M_X12_fewest fr n0 (poI lM tl K) 69 [some (.ref 0), none, some (.int i2), some (.int i3), some (.int i4)] [] (hLy lM S tl)
set_option maxRecDepth 100000 in
set_option maxHeartbeats 4000000 in
theorem b_X12_fewest_40 {G : ab_G} {fr : Bool} {n0 : Nat} {tl : ab_H} {K : Int32 → ms_S → Prop} {S : ms_S} {i2 : Int32} {i3 : Int32}
    (h : ((nI 512) ≤ i3 → (vp_in i2 512 ∧ (K (S.2.2.2.1 35 i2.toNatClampNeg) S))) ∧ (¬ (nI 512) ≤ i3 → (((i3 &&& (i2 ^^^ (-(nI 1)))) = 0 → (vp_in i3 512 ∧ (L_X12_fewest_69 G fr n0 tl K (sA S 35 i3.toNatClampNeg (nI 99)) i2 i3 i3))) ∧ (¬ (i3 &&& (i2 ^^^ (-(nI 1)))) = 0 → (L_X12_fewest_40 G fr n0 tl K S i2 (i3 + nI 1)))))) :
    L_X12_fewest_40 G fr n0 tl K S i2 i3 := by
  unfold L_X12_fewest_40
  iterate 3 refine ws_b rfl ?_
  refine wp_ite (fun q => ?_) (fun q => ?_)
  · replace h := h.1 q
    iterate 3 refine ws_b rfl ?_
    refine ws_g rfl h.1 ?_
    replace h := h.2
    exact wp_ri rfl rfl rfl ⟨_, _, rfl, rfl, h⟩
  · replace h := h.2 q
    iterate 6 refine ws_b rfl ?_
    refine wp_ite (fun q => ?_) (fun q => ?_)
    · replace h := h.1 q
      iterate 4 refine ws_b rfl ?_
      refine ws_g rfl h.1 ?_
      replace h := h.2
      iterate 2 refine ws_b rfl ?_
      exact wp_weak (wk_s (wk_s (wk_s (wk_s (wk_s wk_0))))) h
    · replace h := h.2 q
      iterate 3 refine ws_b rfl ?_
      exact wp_weak (wk_s (wk_s (wk_s (wk_s (wk_s wk_0))))) h
set_option maxRecDepth 100000 in
set_option maxHeartbeats 4000000 in
theorem b_X12_fewest_69 {G : ab_G} {fr : Bool} {n0 : Nat} {tl : ab_H} {K : Int32 → ms_S → Prop} {S : ms_S} {i2 : Int32} {i3 : Int32} {i4 : Int32}
    (h : (i4 ≤ 0 → (L_X12_fewest_40 G fr n0 tl K S i2 (i3 + nI 1))) ∧ (¬ i4 ≤ 0 → (ctI G 1 M_X12_isRow fr [.ref 0, .int i4] lM S tl (fun v1 S1 => (v1 = 0 → (L_X12_fewest_69 G fr n0 tl K S1 i2 i3 ((i4 - (nI 1)) &&& i3))) ∧ (¬ v1 = 0 → (vp_in (i3 &&& (i4 ^^^ (-(nI 1)))) 512 ∧ (vp_in i3 512 ∧ (((S1.2.2.2.1 35 i3.toNatClampNeg) ≤ ((S1.2.2.2.1 35 ((i3 &&& (i4 ^^^ (-(nI 1)))).toNatClampNeg)) + (nI 1)) → (L_X12_fewest_69 G fr n0 tl K S1 i2 i3 ((i4 - (nI 1)) &&& i3))) ∧ (¬ (S1.2.2.2.1 35 i3.toNatClampNeg) ≤ ((S1.2.2.2.1 35 ((i3 &&& (i4 ^^^ (-(nI 1)))).toNatClampNeg)) + (nI 1)) → (vp_in (i3 &&& (i4 ^^^ (-(nI 1)))) 512 ∧ (vp_in i3 512 ∧ (L_X12_fewest_69 G fr n0 tl K (sA S1 35 i3.toNatClampNeg ((S1.2.2.2.1 35 ((i3 &&& (i4 ^^^ (-(nI 1)))).toNatClampNeg)) + (nI 1))) i2 i3 ((i4 - (nI 1)) &&& i3))))))))))))) :
    L_X12_fewest_69 G fr n0 tl K S i2 i3 i4 := by
  unfold L_X12_fewest_69
  iterate 2 refine ws_b rfl ?_
  refine wp_ite (fun q => ?_) (fun q => ?_)
  · replace h := h.1 q
    iterate 2 refine ws_b rfl ?_
    exact wp_weak (wk_s (wk_s (wk_s (wk_s (wk_n wk_0))))) h
  · replace h := h.2 q
    iterate 2 refine ws_b rfl ?_
    refine wp_cV rfl rfl o_X12_isRow v_X12_isRow h rfl rfl rfl (Nat.le_of_ble_eq_true rfl) (by decide) ?_
    clear h
    rintro r9 h9 ⟨v1, S1, rfl, rfl, h⟩
    refine ws_b rfl ?_
    refine wp_ite (fun q => ?_) (fun q => ?_)
    · replace h := h.1 q
      iterate 7 refine ws_b rfl ?_
      exact wp_weak (wk_s (wk_s (wk_s (wk_s (wk_s wk_0))))) h
    · replace h := h.2 q
      iterate 7 refine ws_b rfl ?_
      refine ws_g rfl h.1 ?_
      replace h := h.2
      iterate 5 refine ws_b rfl ?_
      refine ws_g rfl h.1 ?_
      replace h := h.2
      refine ws_b rfl ?_
      refine wp_ite (fun q => ?_) (fun q => ?_)
      · replace h := h.1 q
        iterate 7 refine ws_b rfl ?_
        exact wp_weak (wk_s (wk_s (wk_s (wk_s (wk_s wk_0))))) h
      · replace h := h.2 q
        iterate 10 refine ws_b rfl ?_
        refine ws_g rfl h.1 ?_
        replace h := h.2
        iterate 2 refine ws_b rfl ?_
        refine ws_g rfl h.1 ?_
        replace h := h.2
        iterate 7 refine ws_b rfl ?_
        exact wp_weak (wk_s (wk_s (wk_s (wk_s (wk_s wk_0))))) h
set_option maxRecDepth 100000 in
set_option maxHeartbeats 4000000 in
theorem m_X12_fewest {G : ab_G} {fr : Bool} {tl : ab_H} {K : Int32 → ms_S → Prop} {S : ms_S} {i1 : Int32}
    (h : ∀ n0 : Nat, ctI G 1 M_X12_isHeir fr [.ref 0, .int i1] lM (sV S 2 (nI 0)) tl (fun v1 S1 => (v1 = 0 → (K (-(nI 1)) S1)) ∧ (¬ v1 = 0 → (ctU G 1 M_X12_plainTried fr [.ref 0] lM S1 tl (fun S2 => ctU G 5 M_X12_layRows fr [.ref 0, .int (nI 0)] lM S2 tl (fun S3 => ctI G 1 M_X12_heldBy fr [.ref 0, .int (nI 0), .int i1] lM S3 tl (fun v4 S4 => vp_in (nI 0) 512 ∧ (L_X12_fewest_40 G fr n0 tl K (sA S4 35 ((nI 0).toNatClampNeg) (nI 0)) v4 (nI 1))))))))) :
    ctI G 6 M_X12_fewest fr [.ref 0, .int i1] lM S tl K := by
  refine wp_ct o_X12_fewest (Nat.le_of_ble_eq_true rfl) ?_
  replace h := h (hLy lM S tl).length
  revert h
  generalize (hLy lM S tl).length = n0
  intro h
  iterate 5 refine ws_b rfl ?_
  refine wp_cV rfl rfl o_X12_isHeir v_X12_isHeir h rfl rfl rfl (Nat.le_of_ble_eq_true rfl) (by decide) ?_
  clear h
  rintro r9 h9 ⟨v1, S1, rfl, rfl, h⟩
  refine ws_b rfl ?_
  refine wp_ite (fun q => ?_) (fun q => ?_)
  · replace h := h.1 q
    refine ws_b rfl ?_
    exact wp_ri rfl rfl rfl ⟨_, _, rfl, rfl, h⟩
  · replace h := h.2 q
    refine ws_b rfl ?_
    refine wp_cV rfl rfl o_X12_plainTried v_X12_plainTried h rfl rfl rfl (Nat.le_of_ble_eq_true rfl) (by decide) ?_
    clear h
    rintro r9 h9 ⟨S2, rfl, rfl, h⟩
    iterate 2 refine ws_b rfl ?_
    refine wp_cV rfl rfl o_X12_layRows v_X12_layRows h rfl rfl rfl (Nat.le_of_ble_eq_true rfl) (by decide) ?_
    clear h
    rintro r9 h9 ⟨S3, rfl, rfl, h⟩
    iterate 3 refine ws_b rfl ?_
    refine wp_cV rfl rfl o_X12_heldBy v_X12_heldBy h rfl rfl rfl (Nat.le_of_ble_eq_true rfl) (by decide) ?_
    clear h
    rintro r9 h9 ⟨v4, S4, rfl, rfl, h⟩
    iterate 5 refine ws_b rfl ?_
    refine ws_g rfl h.1 ?_
    replace h := h.2
    iterate 2 refine ws_b rfl ?_
    exact wp_weak (wk_s (wk_n (wk_s (wk_s (wk_s wk_0))))) h
def L_X12_shape_37 (G : ab_G) (fr : Bool) (n0 : Nat) (tl : ab_H) (K : Int32 → ms_S → Prop) (S : ms_S) (i2 : Int32) (i3 : Int32) (i4 : Int32) (i5 : Int32) : Prop := wp G 2 M_X12_shape fr n0 (poI lM tl K) 37 [some (.ref 0), none, some (.int i2), some (.int i3), some (.int i4), some (.int i5), none, none, none] [] (hLy lM S tl)
def L_X12_shape_98 (G : ab_G) (fr : Bool) (n0 : Nat) (tl : ab_H) (K : Int32 → ms_S → Prop) (S : ms_S) (i3 : Int32) (i5 : Int32) : Prop := wp G 2 M_X12_shape fr n0 (poI lM tl K) 98 [some (.ref 0), none, none, some (.int i3), none, some (.int i5), none, none, none] [] (hLy lM S tl)
def L_X12_shape_112 (G : ab_G) (fr : Bool) (n0 : Nat) (tl : ab_H) (K : Int32 → ms_S → Prop) (S : ms_S) (i3 : Int32) (i5 : Int32) (i6 : Int32) (i7 : Int32) : Prop := wp G 2 M_X12_shape fr n0 (poI lM tl K) 112 [some (.ref 0), none, none, some (.int i3), none, some (.int i5), some (.int i6), some (.int i7), none] [] (hLy lM S tl)
def L_X12_shape_156 (G : ab_G) (fr : Bool) (n0 : Nat) (tl : ab_H) (K : Int32 → ms_S → Prop) (S : ms_S) (i3 : Int32) (i5 : Int32) (i6 : Int32) (i7 : Int32) : Prop := wp G 2 M_X12_shape fr n0 (poI lM tl K) 156 [some (.ref 0), none, none, some (.int i3), none, some (.int i5), some (.int i6), some (.int i7), none] [] (hLy lM S tl)
def L_X12_shape_166 (G : ab_G) (fr : Bool) (n0 : Nat) (tl : ab_H) (K : Int32 → ms_S → Prop) (S : ms_S) (i3 : Int32) (i5 : Int32) (i6 : Int32) (i7 : Int32) (i8 : Int32) : Prop := wp G 2 M_X12_shape fr n0 (poI lM tl K) 166 [some (.ref 0), none, none, some (.int i3), none, some (.int i5), some (.int i6), some (.int i7), some (.int i8)] [] (hLy lM S tl)
set_option maxRecDepth 100000 in
set_option maxHeartbeats 4000000 in
theorem b_X12_shape_37 {G : ab_G} {fr : Bool} {n0 : Nat} {tl : ab_H} {K : Int32 → ms_S → Prop} {S : ms_S} {i2 : Int32} {i3 : Int32} {i4 : Int32} {i5 : Int32}
    (h : ((S.1 0 12) ≤ i5 → ((i2 = 0 → (ctI G 1 M_X12_manyOf fr [.int i4] lM S tl (fun v1 S1 => K v1 S1))) ∧ (¬ i2 = 0 → (L_X12_shape_98 G fr n0 tl K S i3 (nI 0))))) ∧ (¬ (S.1 0 12) ≤ i5 → (ctI G 1 M_X12_isOf fr [.int i3, .int i5] lM S tl (fun v2 S2 => (v2 = 0 → (L_X12_shape_37 G fr n0 tl K S2 i2 i3 i4 (i5 + nI 1))) ∧ (¬ v2 = 0 → (vp_in i5 18 ∧ (vp_in i5 18 ∧ (L_X12_shape_37 G fr n0 tl K S2 i2 i3 (i4 ^^^ (((nI 1) <<< ((S2.2.2.2.1 6 i5.toNatClampNeg) &&& 31)) ^^^ ((nI 1) <<< ((S2.2.2.2.1 7 i5.toNatClampNeg) &&& 31)))) (i5 + nI 1))))))))) :
    L_X12_shape_37 G fr n0 tl K S i2 i3 i4 i5 := by
  unfold L_X12_shape_37
  iterate 4 refine ws_b rfl ?_
  refine wp_ite (fun q => ?_) (fun q => ?_)
  · replace h := h.1 q
    iterate 2 refine ws_b rfl ?_
    refine wp_ite (fun q => ?_) (fun q => ?_)
    · replace h := h.1 q
      refine ws_b rfl ?_
      refine wp_cS rfl rfl o_X12_manyOf s_X12_manyOf h rfl rfl (Nat.le_of_ble_eq_true rfl) (by decide) ?_
      clear h
      rintro r9 h9 ⟨v1, S1, rfl, rfl, h⟩
      exact wp_ri rfl rfl rfl ⟨_, _, rfl, rfl, h⟩
    · replace h := h.2 q
      iterate 2 refine ws_b rfl ?_
      exact wp_weak (wk_s (wk_s (wk_n (wk_s (wk_n (wk_s (wk_s (wk_s (wk_s wk_0))))))))) h
  · replace h := h.2 q
    iterate 2 refine ws_b rfl ?_
    refine wp_cS rfl rfl o_X12_isOf s_X12_isOf h rfl rfl (Nat.le_of_ble_eq_true rfl) (by decide) ?_
    clear h
    rintro r9 h9 ⟨v2, S2, rfl, rfl, h⟩
    refine ws_b rfl ?_
    refine wp_ite (fun q => ?_) (fun q => ?_)
    · replace h := h.1 q
      iterate 2 refine ws_b rfl ?_
      exact wp_weak (wk_s (wk_s (wk_s (wk_s (wk_s (wk_s (wk_s (wk_s (wk_s wk_0))))))))) h
    · replace h := h.2 q
      iterate 5 refine ws_b rfl ?_
      refine ws_g rfl h.1 ?_
      replace h := h.2
      iterate 5 refine ws_b rfl ?_
      refine ws_g rfl h.1 ?_
      replace h := h.2
      iterate 6 refine ws_b rfl ?_
      exact wp_weak (wk_s (wk_s (wk_s (wk_s (wk_s (wk_s (wk_s (wk_s (wk_s wk_0))))))))) h
set_option maxRecDepth 100000 in
set_option maxHeartbeats 4000000 in
theorem b_X12_shape_98 {G : ab_G} {fr : Bool} {n0 : Nat} {tl : ab_H} {K : Int32 → ms_S → Prop} {S : ms_S} {i3 : Int32} {i5 : Int32}
    (h : (i3 = 0 → (K i5 S)) ∧ (¬ i3 = 0 → (L_X12_shape_112 G fr n0 tl K S i3 (i5 + nI 1) (nI 0) (nI 8)))) :
    L_X12_shape_98 G fr n0 tl K S i3 i5 := by
  unfold L_X12_shape_98
  iterate 2 refine ws_b rfl ?_
  refine wp_ite (fun q => ?_) (fun q => ?_)
  · replace h := h.1 q
    refine ws_b rfl ?_
    exact wp_ri rfl rfl rfl ⟨_, _, rfl, rfl, h⟩
  · replace h := h.2 q
    iterate 5 refine ws_b rfl ?_
    exact wp_weak (wk_s (wk_s (wk_s (wk_s (wk_s (wk_s (wk_s (wk_s (wk_s wk_0))))))))) h
set_option maxRecDepth 100000 in
set_option maxHeartbeats 4000000 in
theorem b_X12_shape_112 {G : ab_G} {fr : Bool} {n0 : Nat} {tl : ab_H} {K : Int32 → ms_S → Prop} {S : ms_S} {i3 : Int32} {i5 : Int32} {i6 : Int32} {i7 : Int32}
    (h : (i7 < 0 → (L_X12_shape_156 G fr n0 tl K S i3 i5 i6 (nI 0))) ∧ (¬ i7 < 0 → (ctI G 1 M_X12_isOf fr [.int i3, .int i7] lM S tl (fun v1 S1 => (v1 = 0 → (L_X12_shape_112 G fr n0 tl K S1 i3 i5 i6 (i7 + -(nI 1)))) ∧ (¬ v1 = 0 → (vp_in i7 18 ∧ (vp_in i7 18 ∧ (L_X12_shape_112 G fr n0 tl K S1 i3 i5 (((nI 1) <<< ((S1.2.2.2.1 6 i7.toNatClampNeg) &&& 31)) ||| ((nI 1) <<< ((S1.2.2.2.1 7 i7.toNatClampNeg) &&& 31))) (i7 + -(nI 1)))))))))) :
    L_X12_shape_112 G fr n0 tl K S i3 i5 i6 i7 := by
  unfold L_X12_shape_112
  iterate 2 refine ws_b rfl ?_
  refine wp_ite (fun q => ?_) (fun q => ?_)
  · replace h := h.1 q
    iterate 2 refine ws_b rfl ?_
    exact wp_weak (wk_s (wk_s (wk_s (wk_s (wk_s (wk_s (wk_s (wk_s (wk_s wk_0))))))))) h
  · replace h := h.2 q
    iterate 2 refine ws_b rfl ?_
    refine wp_cS rfl rfl o_X12_isOf s_X12_isOf h rfl rfl (Nat.le_of_ble_eq_true rfl) (by decide) ?_
    clear h
    rintro r9 h9 ⟨v1, S1, rfl, rfl, h⟩
    refine ws_b rfl ?_
    refine wp_ite (fun q => ?_) (fun q => ?_)
    · replace h := h.1 q
      iterate 2 refine ws_b rfl ?_
      exact wp_weak (wk_s (wk_s (wk_s (wk_s (wk_s (wk_s (wk_s (wk_s (wk_s wk_0))))))))) h
    · replace h := h.2 q
      iterate 4 refine ws_b rfl ?_
      refine ws_g rfl h.1 ?_
      replace h := h.2
      iterate 5 refine ws_b rfl ?_
      refine ws_g rfl h.1 ?_
      replace h := h.2
      iterate 5 refine ws_b rfl ?_
      exact wp_weak (wk_s (wk_s (wk_s (wk_s (wk_s (wk_s (wk_s (wk_s (wk_s wk_0))))))))) h
set_option maxRecDepth 100000 in
set_option maxHeartbeats 4000000 in
theorem b_X12_shape_156 {G : ab_G} {fr : Bool} {n0 : Nat} {tl : ab_H} {K : Int32 → ms_S → Prop} {S : ms_S} {i3 : Int32} {i5 : Int32} {i6 : Int32} {i7 : Int32}
    (h : ((nI 9) ≤ i7 → (L_X12_shape_98 G fr n0 tl K S i3 i5)) ∧ (¬ (nI 9) ≤ i7 → (L_X12_shape_166 G fr n0 tl K S i3 i5 i6 i7 (nI 0)))) :
    L_X12_shape_156 G fr n0 tl K S i3 i5 i6 i7 := by
  unfold L_X12_shape_156
  iterate 3 refine ws_b rfl ?_
  refine wp_ite (fun q => ?_) (fun q => ?_)
  · replace h := h.1 q
    refine ws_b rfl ?_
    exact wp_weak (wk_s (wk_s (wk_s (wk_s (wk_s (wk_s (wk_n (wk_n (wk_s wk_0))))))))) h
  · replace h := h.2 q
    iterate 2 refine ws_b rfl ?_
    exact wp_weak (wk_s (wk_s (wk_s (wk_s (wk_s (wk_s (wk_s (wk_s (wk_s wk_0))))))))) h
set_option maxRecDepth 100000 in
set_option maxHeartbeats 4000000 in
theorem b_X12_shape_166 {G : ab_G} {fr : Bool} {n0 : Nat} {tl : ab_H} {K : Int32 → ms_S → Prop} {S : ms_S} {i3 : Int32} {i5 : Int32} {i6 : Int32} {i7 : Int32} {i8 : Int32}
    (h : ((S.1 0 12) ≤ i8 → (L_X12_shape_156 G fr n0 tl K S i3 i5 i6 (i7 + nI 1))) ∧ (¬ (S.1 0 12) ≤ i8 → (ctI G 1 M_X12_isOf fr [.int i3, .int i8] lM S tl (fun v1 S1 => (v1 = 0 → (L_X12_shape_166 G fr n0 tl K S1 i3 i5 i6 i7 (i8 + nI 1))) ∧ (¬ v1 = 0 → (vp_in i8 18 ∧ (vp_in i8 18 ∧ (((((i6 >>> ((S1.2.2.2.1 6 i8.toNatClampNeg) &&& 31)) &&& (nI 1)) + ((i6 >>> ((S1.2.2.2.1 7 i8.toNatClampNeg) &&& 31)) &&& (nI 1))) = 0 → (L_X12_shape_166 G fr n0 tl K S1 i3 i5 i6 i7 (i8 + nI 1))) ∧ (¬ (((i6 >>> ((S1.2.2.2.1 6 i8.toNatClampNeg) &&& 31)) &&& (nI 1)) + ((i6 >>> ((S1.2.2.2.1 7 i8.toNatClampNeg) &&& 31)) &&& (nI 1))) = 0 → (vp_in i8 18 ∧ (vp_in i8 18 ∧ (L_X12_shape_166 G fr n0 tl K S1 (i3 &&& (((nI 1) <<< (i8 &&& 31)) ^^^ (-(nI 1)))) i5 (i6 ||| (((nI 1) <<< ((S1.2.2.2.1 6 i8.toNatClampNeg) &&& 31)) ||| ((nI 1) <<< ((S1.2.2.2.1 7 i8.toNatClampNeg) &&& 31)))) i7 (i8 + nI 1))))))))))))) :
    L_X12_shape_166 G fr n0 tl K S i3 i5 i6 i7 i8 := by
  unfold L_X12_shape_166
  iterate 4 refine ws_b rfl ?_
  refine wp_ite (fun q => ?_) (fun q => ?_)
  · replace h := h.1 q
    iterate 2 refine ws_b rfl ?_
    exact wp_weak (wk_s (wk_s (wk_s (wk_s (wk_s (wk_s (wk_s (wk_s (wk_n wk_0))))))))) h
  · replace h := h.2 q
    iterate 2 refine ws_b rfl ?_
    refine wp_cS rfl rfl o_X12_isOf s_X12_isOf h rfl rfl (Nat.le_of_ble_eq_true rfl) (by decide) ?_
    clear h
    rintro r9 h9 ⟨v1, S1, rfl, rfl, h⟩
    refine ws_b rfl ?_
    refine wp_ite (fun q => ?_) (fun q => ?_)
    · replace h := h.1 q
      iterate 2 refine ws_b rfl ?_
      exact wp_weak (wk_s (wk_s (wk_s (wk_s (wk_s (wk_s (wk_s (wk_s (wk_s wk_0))))))))) h
    · replace h := h.2 q
      iterate 4 refine ws_b rfl ?_
      refine ws_g rfl h.1 ?_
      replace h := h.2
      iterate 7 refine ws_b rfl ?_
      refine ws_g rfl h.1 ?_
      replace h := h.2
      iterate 5 refine ws_b rfl ?_
      refine wp_ite (fun q => ?_) (fun q => ?_)
      · replace h := h.1 q
        iterate 3 refine ws_b rfl ?_
        exact wp_weak (wk_s (wk_s (wk_s (wk_s (wk_s (wk_s (wk_s (wk_s (wk_s wk_0))))))))) h
      · replace h := h.2 q
        iterate 5 refine ws_b rfl ?_
        refine ws_g rfl h.1 ?_
        replace h := h.2
        iterate 5 refine ws_b rfl ?_
        refine ws_g rfl h.1 ?_
        replace h := h.2
        iterate 14 refine ws_b rfl ?_
        exact wp_weak (wk_s (wk_s (wk_s (wk_s (wk_s (wk_s (wk_s (wk_s (wk_s wk_0))))))))) h
set_option maxRecDepth 100000 in
set_option maxHeartbeats 4000000 in
theorem m_X12_shape {G : ab_G} {fr : Bool} {tl : ab_H} {K : Int32 → ms_S → Prop} {S : ms_S} {i1 : Int32} {i2 : Int32}
    (h : ∀ n0 : Nat, ctI G 1 M_X12_isHeir fr [.ref 0, .int i1] lM (sV S 2 (nI 0)) tl (fun v1 S1 => (v1 = 0 → (K (-(nI 1)) S1)) ∧ (¬ v1 = 0 → (ctI G 1 M_X12_isIn fr [.int i2, .int (nI 0), .int (nI 1)] lM S1 tl (fun v2 S2 => (v2 = 0 → (K (-(nI 1)) S2)) ∧ (¬ v2 = 0 → (ctI G 1 M_X12_heldBy fr [.ref 0, .int (nI 0), .int i1] lM S2 tl (fun v3 S3 => L_X12_shape_37 G fr n0 tl K S3 i2 v3 (nI 0) (nI 0))))))))) :
    ctI G 2 M_X12_shape fr [.ref 0, .int i1, .int i2] lM S tl K := by
  refine wp_ct o_X12_shape (Nat.le_of_ble_eq_true rfl) ?_
  replace h := h (hLy lM S tl).length
  revert h
  generalize (hLy lM S tl).length = n0
  intro h
  iterate 5 refine ws_b rfl ?_
  refine wp_cV rfl rfl o_X12_isHeir v_X12_isHeir h rfl rfl rfl (Nat.le_of_ble_eq_true rfl) (by decide) ?_
  clear h
  rintro r9 h9 ⟨v1, S1, rfl, rfl, h⟩
  refine ws_b rfl ?_
  refine wp_ite (fun q => ?_) (fun q => ?_)
  · replace h := h.1 q
    refine ws_b rfl ?_
    exact wp_ri rfl rfl rfl ⟨_, _, rfl, rfl, h⟩
  · replace h := h.2 q
    iterate 3 refine ws_b rfl ?_
    refine wp_cS rfl rfl o_X12_isIn s_X12_isIn h rfl rfl (Nat.le_of_ble_eq_true rfl) (by decide) ?_
    clear h
    rintro r9 h9 ⟨v2, S2, rfl, rfl, h⟩
    refine ws_b rfl ?_
    refine wp_ite (fun q => ?_) (fun q => ?_)
    · replace h := h.1 q
      refine ws_b rfl ?_
      exact wp_ri rfl rfl rfl ⟨_, _, rfl, rfl, h⟩
    · replace h := h.2 q
      iterate 3 refine ws_b rfl ?_
      refine wp_cV rfl rfl o_X12_heldBy v_X12_heldBy h rfl rfl rfl (Nat.le_of_ble_eq_true rfl) (by decide) ?_
      clear h
      rintro r9 h9 ⟨v3, S3, rfl, rfl, h⟩
      iterate 5 refine ws_b rfl ?_
      exact wp_weak (wk_s (wk_n (wk_s (wk_s (wk_s (wk_s (wk_s (wk_s (wk_s wk_0))))))))) h
set_option maxRecDepth 100000 in
set_option maxHeartbeats 4000000 in
theorem m_X12_isSwap {G : ab_G} {fr : Bool} {tl : ab_H} {K : Int32 → ms_S → Prop} {S : ms_S} {i1 : Int32} {i2 : Int32} {i3 : Int32}
    (h : ∀ n0 : Nat, vp_in i3 18 ∧ (vp_in i2 18 ∧ (((S.2.2.2.1 26 i2.toNatClampNeg) = i1 → (((S.2.2.2.1 26 i3.toNatClampNeg) < 0 → (K (nI 0) S)) ∧ (¬ (S.2.2.2.1 26 i3.toNatClampNeg) < 0 → (((S.2.2.2.1 26 i3.toNatClampNeg) = i1 → (K (nI 0) S)) ∧ (¬ (S.2.2.2.1 26 i3.toNatClampNeg) = i1 → (ctI G 4 M_X12_may fr [.ref 0, .int (nI 0), .int i1, .int i3] lM S tl (fun v1 S1 => (v1 = 0 → (K (nI 0) S1)) ∧ (¬ v1 = 0 → (ctI G 4 M_X12_may fr [.ref 0, .int (nI 0), .int (S.2.2.2.1 26 i3.toNatClampNeg), .int i2] lM S1 tl (fun v2 S2 => (v2 = 0 → (K (nI 0) S2)) ∧ (¬ v2 = 0 → (K (nI 1) S2)))))))))))) ∧ (¬ (S.2.2.2.1 26 i2.toNatClampNeg) = i1 → (K (nI 0) S))))) :
    ctI G 5 M_X12_isSwap fr [.ref 0, .int i1, .int i2, .int i3] lM S tl K := by
  refine wp_ct o_X12_isSwap (Nat.le_of_ble_eq_true rfl) ?_
  replace h := h (hLy lM S tl).length
  revert h
  generalize (hLy lM S tl).length = n0
  intro h
  iterate 3 refine ws_b rfl ?_
  refine ws_g rfl h.1 ?_
  replace h := h.2
  iterate 4 refine ws_b rfl ?_
  refine ws_g rfl h.1 ?_
  replace h := h.2
  iterate 2 refine ws_b rfl ?_
  refine wp_ite (fun q => ?_) (fun q => ?_)
  · replace h := h.1 q
    iterate 2 refine ws_b rfl ?_
    refine wp_ite (fun q => ?_) (fun q => ?_)
    · replace h := h.1 q
      refine ws_b rfl ?_
      exact wp_ri rfl rfl rfl ⟨_, _, rfl, rfl, h⟩
    · replace h := h.2 q
      iterate 3 refine ws_b rfl ?_
      refine wp_ite (fun q => ?_) (fun q => ?_)
      · replace h := h.1 q
        refine ws_b rfl ?_
        exact wp_ri rfl rfl rfl ⟨_, _, rfl, rfl, h⟩
      · replace h := h.2 q
        iterate 4 refine ws_b rfl ?_
        refine wp_cV rfl rfl o_X12_may v_X12_may h rfl rfl rfl (Nat.le_of_ble_eq_true rfl) (by decide) ?_
        clear h
        rintro r9 h9 ⟨v1, S1, rfl, rfl, h⟩
        refine ws_b rfl ?_
        refine wp_ite (fun q => ?_) (fun q => ?_)
        · replace h := h.1 q
          refine ws_b rfl ?_
          exact wp_ri rfl rfl rfl ⟨_, _, rfl, rfl, h⟩
        · replace h := h.2 q
          iterate 4 refine ws_b rfl ?_
          refine wp_cV rfl rfl o_X12_may v_X12_may h rfl rfl rfl (Nat.le_of_ble_eq_true rfl) (by decide) ?_
          clear h
          rintro r9 h9 ⟨v2, S2, rfl, rfl, h⟩
          refine ws_b rfl ?_
          refine wp_ite (fun q => ?_) (fun q => ?_)
          · replace h := h.1 q
            refine ws_b rfl ?_
            exact wp_ri rfl rfl rfl ⟨_, _, rfl, rfl, h⟩
          · replace h := h.2 q
            iterate 2 refine ws_b rfl ?_
            exact wp_ri rfl rfl rfl ⟨_, _, rfl, rfl, h⟩
  · replace h := h.2 q
    refine ws_b rfl ?_
    exact wp_ri rfl rfl rfl ⟨_, _, rfl, rfl, h⟩
def L_X12_swaps_53 (G : ab_G) (fr : Bool) (n0 : Nat) (tl : ab_H) (K : Int32 → ms_S → Prop) (S : ms_S) (i1 : Int32) (i2 : Int32) (i3 : Int32) (i4 : Int32) : Prop := wp G 6 M_X12_swaps fr n0 (poI lM tl K) 53 [some (.ref 0), some (.int i1), some (.int i2), some (.int i3), some (.int i4), none, none, none, none] [] (hLy lM S tl)
def L_X12_swaps_65 (G : ab_G) (fr : Bool) (n0 : Nat) (tl : ab_H) (K : Int32 → ms_S → Prop) (S : ms_S) (i1 : Int32) (i2 : Int32) (i3 : Int32) (i4 : Int32) (i5 : Int32) : Prop := wp G 6 M_X12_swaps fr n0 (poI lM tl K) 65 [some (.ref 0), some (.int i1), some (.int i2), some (.int i3), some (.int i4), some (.int i5), none, none, none] [] (hLy lM S tl)
def L_X12_swaps_118 (G : ab_G) (fr : Bool) (n0 : Nat) (tl : ab_H) (K : Int32 → ms_S → Prop) (S : ms_S) (i1 : Int32) (i2 : Int32) (i3 : Int32) (i4 : Int32) (i5 : Int32) (i6 : Int32) (i7 : Int32) : Prop := wp G 6 M_X12_swaps fr n0 (poI lM tl K) 118 [some (.ref 0), some (.int i1), some (.int i2), some (.int i3), some (.int i4), some (.int i5), some (.int i6), some (.int i7), none] [] (hLy lM S tl)
def L_X12_swaps_134 (G : ab_G) (fr : Bool) (n0 : Nat) (tl : ab_H) (K : Int32 → ms_S → Prop) (S : ms_S) (i1 : Int32) (i2 : Int32) (i3 : Int32) (i4 : Int32) (i5 : Int32) (i6 : Int32) (i7 : Int32) (i8 : Int32) : Prop := wp G 6 M_X12_swaps fr n0 (poI lM tl K) 134 [some (.ref 0), some (.int i1), some (.int i2), some (.int i3), some (.int i4), some (.int i5), some (.int i6), some (.int i7), some (.int i8)] [] (hLy lM S tl)
set_option maxRecDepth 100000 in
set_option maxHeartbeats 4000000 in
theorem b_X12_swaps_53 {G : ab_G} {fr : Bool} {n0 : Nat} {tl : ab_H} {K : Int32 → ms_S → Prop} {S : ms_S} {i1 : Int32} {i2 : Int32} {i3 : Int32} {i4 : Int32}
    (h : ((S.1 0 12) ≤ i4 → ((i3 = 0 → (K (-(nI 2)) S)) ∧ (¬ i3 = 0 → (K (nI 2) S)))) ∧ (¬ (S.1 0 12) ≤ i4 → (L_X12_swaps_65 G fr n0 tl K S i1 i2 i3 i4 (nI 0)))) :
    L_X12_swaps_53 G fr n0 tl K S i1 i2 i3 i4 := by
  unfold L_X12_swaps_53
  iterate 4 refine ws_b rfl ?_
  refine wp_ite (fun q => ?_) (fun q => ?_)
  · replace h := h.1 q
    iterate 2 refine ws_b rfl ?_
    refine wp_ite (fun q => ?_) (fun q => ?_)
    · replace h := h.1 q
      refine ws_b rfl ?_
      exact wp_ri rfl rfl rfl ⟨_, _, rfl, rfl, h⟩
    · replace h := h.2 q
      iterate 2 refine ws_b rfl ?_
      exact wp_ri rfl rfl rfl ⟨_, _, rfl, rfl, h⟩
  · replace h := h.2 q
    iterate 2 refine ws_b rfl ?_
    exact wp_weak (wk_s (wk_s (wk_s (wk_s (wk_s (wk_s (wk_s (wk_s (wk_s wk_0))))))))) h
set_option maxRecDepth 100000 in
set_option maxHeartbeats 4000000 in
theorem b_X12_swaps_65 {G : ab_G} {fr : Bool} {n0 : Nat} {tl : ab_H} {K : Int32 → ms_S → Prop} {S : ms_S} {i1 : Int32} {i2 : Int32} {i3 : Int32} {i4 : Int32} {i5 : Int32}
    (h : ((S.1 0 12) ≤ i5 → (L_X12_swaps_53 G fr n0 tl K S i1 i2 i3 (i4 + nI 1))) ∧ (¬ (S.1 0 12) ≤ i5 → (ctI G 5 M_X12_isSwap fr [.ref 0, .int i1, .int i4, .int i5] lM S tl (fun v1 S1 => (v1 = 0 → (L_X12_swaps_65 G fr n0 tl K S1 i1 i2 i3 i4 (i5 + nI 1))) ∧ (¬ v1 = 0 → (ctI G 1 M_X12_isRow fr [.ref 0, .int ((i2 &&& (((nI 1) <<< (i4 &&& 31)) ^^^ (-(nI 1)))) ||| ((nI 1) <<< (i5 &&& 31)))] lM S1 tl (fun v2 S2 => (v2 = 0 → (L_X12_swaps_118 G fr n0 tl K S2 i1 i2 i3 i4 i5 ((i2 &&& (((nI 1) <<< (i4 &&& 31)) ^^^ (-(nI 1)))) ||| ((nI 1) <<< (i5 &&& 31))) (nI 0))) ∧ (¬ v2 = 0 → (K (nI 1) S2))))))))) :
    L_X12_swaps_65 G fr n0 tl K S i1 i2 i3 i4 i5 := by
  unfold L_X12_swaps_65
  iterate 4 refine ws_b rfl ?_
  refine wp_ite (fun q => ?_) (fun q => ?_)
  · replace h := h.1 q
    iterate 2 refine ws_b rfl ?_
    exact wp_weak (wk_s (wk_s (wk_s (wk_s (wk_s (wk_n (wk_s (wk_s (wk_s wk_0))))))))) h
  · replace h := h.2 q
    iterate 4 refine ws_b rfl ?_
    refine wp_cV rfl rfl o_X12_isSwap v_X12_isSwap h rfl rfl rfl (Nat.le_of_ble_eq_true rfl) (by decide) ?_
    clear h
    rintro r9 h9 ⟨v1, S1, rfl, rfl, h⟩
    refine ws_b rfl ?_
    refine wp_ite (fun q => ?_) (fun q => ?_)
    · replace h := h.1 q
      iterate 3 refine ws_b rfl ?_
      exact wp_weak (wk_s (wk_s (wk_s (wk_s (wk_s (wk_s (wk_s (wk_s (wk_s wk_0))))))))) h
    · replace h := h.2 q
      iterate 14 refine ws_b rfl ?_
      refine wp_cV rfl rfl o_X12_isRow v_X12_isRow h rfl rfl rfl (Nat.le_of_ble_eq_true rfl) (by decide) ?_
      clear h
      rintro r9 h9 ⟨v2, S2, rfl, rfl, h⟩
      refine ws_b rfl ?_
      refine wp_ite (fun q => ?_) (fun q => ?_)
      · replace h := h.1 q
        iterate 2 refine ws_b rfl ?_
        exact wp_weak (wk_s (wk_s (wk_s (wk_s (wk_s (wk_s (wk_s (wk_s (wk_s wk_0))))))))) h
      · replace h := h.2 q
        refine ws_b rfl ?_
        exact wp_ri rfl rfl rfl ⟨_, _, rfl, rfl, h⟩
set_option maxRecDepth 100000 in
set_option maxHeartbeats 4000000 in
theorem b_X12_swaps_118 {G : ab_G} {fr : Bool} {n0 : Nat} {tl : ab_H} {K : Int32 → ms_S → Prop} {S : ms_S} {i1 : Int32} {i2 : Int32} {i3 : Int32} {i4 : Int32} {i5 : Int32} {i6 : Int32} {i7 : Int32}
    (h : ((S.1 0 12) ≤ i7 → (L_X12_swaps_65 G fr n0 tl K S i1 i2 i3 i4 (i5 + nI 1))) ∧ (¬ (S.1 0 12) ≤ i7 → ((i3 = 0 → (L_X12_swaps_134 G fr n0 tl K S i1 i2 i3 i4 i5 i6 i7 (nI 0))) ∧ (¬ i3 = 0 → (L_X12_swaps_65 G fr n0 tl K S i1 i2 i3 i4 (i5 + nI 1)))))) :
    L_X12_swaps_118 G fr n0 tl K S i1 i2 i3 i4 i5 i6 i7 := by
  unfold L_X12_swaps_118
  iterate 4 refine ws_b rfl ?_
  refine wp_ite (fun q => ?_) (fun q => ?_)
  · replace h := h.1 q
    iterate 2 refine ws_b rfl ?_
    exact wp_weak (wk_s (wk_s (wk_s (wk_s (wk_s (wk_s (wk_n (wk_n (wk_s wk_0))))))))) h
  · replace h := h.2 q
    iterate 2 refine ws_b rfl ?_
    refine wp_ite (fun q => ?_) (fun q => ?_)
    · replace h := h.1 q
      iterate 2 refine ws_b rfl ?_
      exact wp_weak (wk_s (wk_s (wk_s (wk_s (wk_s (wk_s (wk_s (wk_s (wk_s wk_0))))))))) h
    · replace h := h.2 q
      iterate 2 refine ws_b rfl ?_
      exact wp_weak (wk_s (wk_s (wk_s (wk_s (wk_s (wk_s (wk_n (wk_n (wk_s wk_0))))))))) h
set_option maxRecDepth 100000 in
set_option maxHeartbeats 4000000 in
theorem b_X12_swaps_134 {G : ab_G} {fr : Bool} {n0 : Nat} {tl : ab_H} {K : Int32 → ms_S → Prop} {S : ms_S} {i1 : Int32} {i2 : Int32} {i3 : Int32} {i4 : Int32} {i5 : Int32} {i6 : Int32} {i7 : Int32} {i8 : Int32}
    (h : ((S.1 0 12) ≤ i8 → (L_X12_swaps_118 G fr n0 tl K S i1 i2 i3 i4 i5 i6 (i7 + nI 1))) ∧ (¬ (S.1 0 12) ≤ i8 → ((i3 = 0 → ((i7 = i4 → (L_X12_swaps_134 G fr n0 tl K S i1 i2 (nI 0) i4 i5 i6 i7 (i8 + nI 1))) ∧ (¬ i7 = i4 → ((i8 = i5 → (L_X12_swaps_134 G fr n0 tl K S i1 i2 (nI 0) i4 i5 i6 i7 (i8 + nI 1))) ∧ (¬ i8 = i5 → (ctI G 5 M_X12_isSwap fr [.ref 0, .int i1, .int i7, .int i8] lM S tl (fun v1 S1 => (v1 = 0 → (L_X12_swaps_134 G fr n0 tl K S1 i1 i2 (nI 0) i4 i5 i6 i7 (i8 + nI 1))) ∧ (¬ v1 = 0 → (ctI G 1 M_X12_isRow fr [.ref 0, .int ((i6 &&& (((nI 1) <<< (i7 &&& 31)) ^^^ (-(nI 1)))) ||| ((nI 1) <<< (i8 &&& 31)))] lM S1 tl (fun v2 S2 => (v2 = 0 → (L_X12_swaps_134 G fr n0 tl K S2 i1 i2 (nI 0) i4 i5 i6 i7 (i8 + nI 1))) ∧ (¬ v2 = 0 → (L_X12_swaps_134 G fr n0 tl K S2 i1 i2 (nI 1) i4 i5 i6 i7 (i8 + nI 1))))))))))))) ∧ (¬ i3 = 0 → (L_X12_swaps_118 G fr n0 tl K S i1 i2 i3 i4 i5 i6 (i7 + nI 1)))))) :
    L_X12_swaps_134 G fr n0 tl K S i1 i2 i3 i4 i5 i6 i7 i8 := by
  unfold L_X12_swaps_134
  iterate 4 refine ws_b rfl ?_
  refine wp_ite (fun q => ?_) (fun q => ?_)
  · replace h := h.1 q
    iterate 2 refine ws_b rfl ?_
    exact wp_weak (wk_s (wk_s (wk_s (wk_s (wk_s (wk_s (wk_s (wk_s (wk_n wk_0))))))))) h
  · replace h := h.2 q
    iterate 2 refine ws_b rfl ?_
    refine wp_ite (fun q => ?_) (fun q => ?_)
    · replace h := h.1 q
      iterate 3 refine ws_b rfl ?_
      refine wp_ite (fun q => ?_) (fun q => ?_)
      · replace h := h.1 q
        iterate 4 refine ws_b rfl ?_
        exact wp_weak (wk_s (wk_s (wk_s (wk_s (wk_s (wk_s (wk_s (wk_s (wk_s wk_0))))))))) h
      · replace h := h.2 q
        iterate 3 refine ws_b rfl ?_
        refine wp_ite (fun q => ?_) (fun q => ?_)
        · replace h := h.1 q
          iterate 4 refine ws_b rfl ?_
          exact wp_weak (wk_s (wk_s (wk_s (wk_s (wk_s (wk_s (wk_s (wk_s (wk_s wk_0))))))))) h
        · replace h := h.2 q
          iterate 4 refine ws_b rfl ?_
          refine wp_cV rfl rfl o_X12_isSwap v_X12_isSwap h rfl rfl rfl (Nat.le_of_ble_eq_true rfl) (by decide) ?_
          clear h
          rintro r9 h9 ⟨v1, S1, rfl, rfl, h⟩
          refine ws_b rfl ?_
          refine wp_ite (fun q => ?_) (fun q => ?_)
          · replace h := h.1 q
            iterate 4 refine ws_b rfl ?_
            exact wp_weak (wk_s (wk_s (wk_s (wk_s (wk_s (wk_s (wk_s (wk_s (wk_s wk_0))))))))) h
          · replace h := h.2 q
            iterate 12 refine ws_b rfl ?_
            refine wp_cV rfl rfl o_X12_isRow v_X12_isRow h rfl rfl rfl (Nat.le_of_ble_eq_true rfl) (by decide) ?_
            clear h
            rintro r9 h9 ⟨v2, S2, rfl, rfl, h⟩
            refine ws_b rfl ?_
            refine wp_ite (fun q => ?_) (fun q => ?_)
            · replace h := h.1 q
              iterate 4 refine ws_b rfl ?_
              exact wp_weak (wk_s (wk_s (wk_s (wk_s (wk_s (wk_s (wk_s (wk_s (wk_s wk_0))))))))) h
            · replace h := h.2 q
              iterate 5 refine ws_b rfl ?_
              exact wp_weak (wk_s (wk_s (wk_s (wk_s (wk_s (wk_s (wk_s (wk_s (wk_s wk_0))))))))) h
    · replace h := h.2 q
      iterate 2 refine ws_b rfl ?_
      exact wp_weak (wk_s (wk_s (wk_s (wk_s (wk_s (wk_s (wk_s (wk_s (wk_n wk_0))))))))) h
set_option maxRecDepth 100000 in
set_option maxHeartbeats 4000000 in
theorem m_X12_swaps {G : ab_G} {fr : Bool} {tl : ab_H} {K : Int32 → ms_S → Prop} {S : ms_S} {i1 : Int32}
    (h : ∀ n0 : Nat, ctI G 1 M_X12_isHeir fr [.ref 0, .int i1] lM (sV S 2 (nI 0)) tl (fun v1 S1 => (v1 = 0 → (K (-(nI 1)) S1)) ∧ (¬ v1 = 0 → (ctU G 1 M_X12_plainTried fr [.ref 0] lM S1 tl (fun S2 => ctU G 5 M_X12_layRows fr [.ref 0, .int (nI 0)] lM S2 tl (fun S3 => ctI G 1 M_X12_heldBy fr [.ref 0, .int (nI 0), .int i1] lM S3 tl (fun v4 S4 => (v4 = 0 → (K (-(nI 2)) S4)) ∧ (¬ v4 = 0 → (ctI G 1 M_X12_isRow fr [.ref 0, .int v4] lM S4 tl (fun v5 S5 => (v5 = 0 → (L_X12_swaps_53 G fr n0 tl K S5 i1 v4 (nI 0) (nI 0))) ∧ (¬ v5 = 0 → (K (nI 0) S5)))))))))))) :
    ctI G 6 M_X12_swaps fr [.ref 0, .int i1] lM S tl K := by
  refine wp_ct o_X12_swaps (Nat.le_of_ble_eq_true rfl) ?_
  replace h := h (hLy lM S tl).length
  revert h
  generalize (hLy lM S tl).length = n0
  intro h
  iterate 5 refine ws_b rfl ?_
  refine wp_cV rfl rfl o_X12_isHeir v_X12_isHeir h rfl rfl rfl (Nat.le_of_ble_eq_true rfl) (by decide) ?_
  clear h
  rintro r9 h9 ⟨v1, S1, rfl, rfl, h⟩
  refine ws_b rfl ?_
  refine wp_ite (fun q => ?_) (fun q => ?_)
  · replace h := h.1 q
    refine ws_b rfl ?_
    exact wp_ri rfl rfl rfl ⟨_, _, rfl, rfl, h⟩
  · replace h := h.2 q
    refine ws_b rfl ?_
    refine wp_cV rfl rfl o_X12_plainTried v_X12_plainTried h rfl rfl rfl (Nat.le_of_ble_eq_true rfl) (by decide) ?_
    clear h
    rintro r9 h9 ⟨S2, rfl, rfl, h⟩
    iterate 2 refine ws_b rfl ?_
    refine wp_cV rfl rfl o_X12_layRows v_X12_layRows h rfl rfl rfl (Nat.le_of_ble_eq_true rfl) (by decide) ?_
    clear h
    rintro r9 h9 ⟨S3, rfl, rfl, h⟩
    iterate 3 refine ws_b rfl ?_
    refine wp_cV rfl rfl o_X12_heldBy v_X12_heldBy h rfl rfl rfl (Nat.le_of_ble_eq_true rfl) (by decide) ?_
    clear h
    rintro r9 h9 ⟨v4, S4, rfl, rfl, h⟩
    iterate 3 refine ws_b rfl ?_
    refine wp_ite (fun q => ?_) (fun q => ?_)
    · replace h := h.1 q
      refine ws_b rfl ?_
      exact wp_ri rfl rfl rfl ⟨_, _, rfl, rfl, h⟩
    · replace h := h.2 q
      iterate 2 refine ws_b rfl ?_
      refine wp_cV rfl rfl o_X12_isRow v_X12_isRow h rfl rfl rfl (Nat.le_of_ble_eq_true rfl) (by decide) ?_
      clear h
      rintro r9 h9 ⟨v5, S5, rfl, rfl, h⟩
      refine ws_b rfl ?_
      refine wp_ite (fun q => ?_) (fun q => ?_)
      · replace h := h.1 q
        iterate 4 refine ws_b rfl ?_
        exact wp_weak (wk_s (wk_s (wk_s (wk_s (wk_s (wk_s (wk_s (wk_s (wk_s wk_0))))))))) h
      · replace h := h.2 q
        refine ws_b rfl ?_
        exact wp_ri rfl rfl rfl ⟨_, _, rfl, rfl, h⟩
def L_X12_lacks_36 (G : ab_G) (fr : Bool) (n0 : Nat) (tl : ab_H) (K : Int32 → ms_S → Prop) (S : ms_S) (i1 : Int32) (i2 : Int32) (i3 : Int32) (i4 : Int32) : Prop := wp G 6 M_X12_lacks fr n0 (poI lM tl K) 36 [some (.ref 0), some (.int i1), some (.int i2), some (.int i3), some (.int i4)] [] (hLy lM S tl)
set_option maxRecDepth 100000 in
set_option maxHeartbeats 4000000 in
theorem b_X12_lacks_36 {G : ab_G} {fr : Bool} {n0 : Nat} {tl : ab_H} {K : Int32 → ms_S → Prop} {S : ms_S} {i1 : Int32} {i2 : Int32} {i3 : Int32} {i4 : Int32}
    (h : ((S.1 0 12) ≤ i4 → (K i3 S)) ∧ (¬ (S.1 0 12) ≤ i4 → (vp_in i4 18 ∧ (((S.2.2.2.1 26 i4.toNatClampNeg) = i1 → (L_X12_lacks_36 G fr n0 tl K S i1 i2 i3 (i4 + nI 1))) ∧ (¬ (S.2.2.2.1 26 i4.toNatClampNeg) = i1 → (vp_in i4 18 ∧ (((S.2.2.2.1 26 i4.toNatClampNeg) = (-(nI 3)) → (L_X12_lacks_36 G fr n0 tl K S i1 i2 i3 (i4 + nI 1))) ∧ (¬ (S.2.2.2.1 26 i4.toNatClampNeg) = (-(nI 3)) → (ctI G 4 M_X12_may fr [.ref 0, .int (nI 0), .int i1, .int i4] lM S tl (fun v1 S1 => (v1 = 0 → (L_X12_lacks_36 G fr n0 tl K S1 i1 i2 i3 (i4 + nI 1))) ∧ (¬ v1 = 0 → (ctI G 1 M_X12_isRow fr [.ref 0, .int (i2 ||| ((nI 1) <<< (i4 &&& 31)))] lM S1 tl (fun v2 S2 => (v2 = 0 → (L_X12_lacks_36 G fr n0 tl K S2 i1 i2 i3 (i4 + nI 1))) ∧ (¬ v2 = 0 → (L_X12_lacks_36 G fr n0 tl K S2 i1 i2 (i3 ||| ((nI 1) <<< (i4 &&& 31))) (i4 + nI 1)))))))))))))))) :
    L_X12_lacks_36 G fr n0 tl K S i1 i2 i3 i4 := by
  unfold L_X12_lacks_36
  iterate 4 refine ws_b rfl ?_
  refine wp_ite (fun q => ?_) (fun q => ?_)
  · replace h := h.1 q
    refine ws_b rfl ?_
    exact wp_ri rfl rfl rfl ⟨_, _, rfl, rfl, h⟩
  · replace h := h.2 q
    iterate 3 refine ws_b rfl ?_
    refine ws_g rfl h.1 ?_
    replace h := h.2
    iterate 2 refine ws_b rfl ?_
    refine wp_ite (fun q => ?_) (fun q => ?_)
    · replace h := h.1 q
      iterate 2 refine ws_b rfl ?_
      exact wp_weak (wk_s (wk_s (wk_s (wk_s (wk_s wk_0))))) h
    · replace h := h.2 q
      iterate 3 refine ws_b rfl ?_
      refine ws_g rfl h.1 ?_
      replace h := h.2
      iterate 2 refine ws_b rfl ?_
      refine wp_ite (fun q => ?_) (fun q => ?_)
      · replace h := h.1 q
        iterate 2 refine ws_b rfl ?_
        exact wp_weak (wk_s (wk_s (wk_s (wk_s (wk_s wk_0))))) h
      · replace h := h.2 q
        iterate 4 refine ws_b rfl ?_
        refine wp_cV rfl rfl o_X12_may v_X12_may h rfl rfl rfl (Nat.le_of_ble_eq_true rfl) (by decide) ?_
        clear h
        rintro r9 h9 ⟨v1, S1, rfl, rfl, h⟩
        refine ws_b rfl ?_
        refine wp_ite (fun q => ?_) (fun q => ?_)
        · replace h := h.1 q
          iterate 2 refine ws_b rfl ?_
          exact wp_weak (wk_s (wk_s (wk_s (wk_s (wk_s wk_0))))) h
        · replace h := h.2 q
          iterate 6 refine ws_b rfl ?_
          refine wp_cV rfl rfl o_X12_isRow v_X12_isRow h rfl rfl rfl (Nat.le_of_ble_eq_true rfl) (by decide) ?_
          clear h
          rintro r9 h9 ⟨v2, S2, rfl, rfl, h⟩
          refine ws_b rfl ?_
          refine wp_ite (fun q => ?_) (fun q => ?_)
          · replace h := h.1 q
            iterate 2 refine ws_b rfl ?_
            exact wp_weak (wk_s (wk_s (wk_s (wk_s (wk_s wk_0))))) h
          · replace h := h.2 q
            iterate 8 refine ws_b rfl ?_
            exact wp_weak (wk_s (wk_s (wk_s (wk_s (wk_s wk_0))))) h
set_option maxRecDepth 100000 in
set_option maxHeartbeats 4000000 in
theorem m_X12_lacks {G : ab_G} {fr : Bool} {tl : ab_H} {K : Int32 → ms_S → Prop} {S : ms_S} {i1 : Int32}
    (h : ∀ n0 : Nat, ctI G 1 M_X12_isHeir fr [.ref 0, .int i1] lM (sV S 2 (nI 0)) tl (fun v1 S1 => (v1 = 0 → (K (-(nI 1)) S1)) ∧ (¬ v1 = 0 → (ctU G 1 M_X12_plainTried fr [.ref 0] lM S1 tl (fun S2 => ctU G 5 M_X12_layRows fr [.ref 0, .int (nI 0)] lM S2 tl (fun S3 => ctI G 1 M_X12_heldBy fr [.ref 0, .int (nI 0), .int i1] lM S3 tl (fun v4 S4 => L_X12_lacks_36 G fr n0 tl K S4 i1 v4 (nI 0) (nI 0)))))))) :
    ctI G 6 M_X12_lacks fr [.ref 0, .int i1] lM S tl K := by
  refine wp_ct o_X12_lacks (Nat.le_of_ble_eq_true rfl) ?_
  replace h := h (hLy lM S tl).length
  revert h
  generalize (hLy lM S tl).length = n0
  intro h
  iterate 5 refine ws_b rfl ?_
  refine wp_cV rfl rfl o_X12_isHeir v_X12_isHeir h rfl rfl rfl (Nat.le_of_ble_eq_true rfl) (by decide) ?_
  clear h
  rintro r9 h9 ⟨v1, S1, rfl, rfl, h⟩
  refine ws_b rfl ?_
  refine wp_ite (fun q => ?_) (fun q => ?_)
  · replace h := h.1 q
    refine ws_b rfl ?_
    exact wp_ri rfl rfl rfl ⟨_, _, rfl, rfl, h⟩
  · replace h := h.2 q
    refine ws_b rfl ?_
    refine wp_cV rfl rfl o_X12_plainTried v_X12_plainTried h rfl rfl rfl (Nat.le_of_ble_eq_true rfl) (by decide) ?_
    clear h
    rintro r9 h9 ⟨S2, rfl, rfl, h⟩
    iterate 2 refine ws_b rfl ?_
    refine wp_cV rfl rfl o_X12_layRows v_X12_layRows h rfl rfl rfl (Nat.le_of_ble_eq_true rfl) (by decide) ?_
    clear h
    rintro r9 h9 ⟨S3, rfl, rfl, h⟩
    iterate 3 refine ws_b rfl ?_
    refine wp_cV rfl rfl o_X12_heldBy v_X12_heldBy h rfl rfl rfl (Nat.le_of_ble_eq_true rfl) (by decide) ?_
    clear h
    rintro r9 h9 ⟨v4, S4, rfl, rfl, h⟩
    iterate 5 refine ws_b rfl ?_
    exact wp_weak (wk_s (wk_s (wk_s (wk_s (wk_s wk_0))))) h
def L_X12_tooMany_36 (G : ab_G) (fr : Bool) (n0 : Nat) (tl : ab_H) (K : Int32 → ms_S → Prop) (S : ms_S) (i2 : Int32) (i3 : Int32) (i4 : Int32) : Prop := wp G 6 M_X12_tooMany fr n0 (poI lM tl K) 36 [some (.ref 0), none, some (.int i2), some (.int i3), some (.int i4)] [] (hLy lM S tl)
set_option maxRecDepth 100000 in
set_option maxHeartbeats 4000000 in
theorem b_X12_tooMany_36 {G : ab_G} {fr : Bool} {n0 : Nat} {tl : ab_H} {K : Int32 → ms_S → Prop} {S : ms_S} {i2 : Int32} {i3 : Int32} {i4 : Int32}
    (h : ((S.1 0 12) ≤ i4 → (K i3 S)) ∧ (¬ (S.1 0 12) ≤ i4 → (ctI G 1 M_X12_isOf fr [.int i2, .int i4] lM S tl (fun v1 S1 => (v1 = 0 → (L_X12_tooMany_36 G fr n0 tl K S1 i2 i3 (i4 + nI 1))) ∧ (¬ v1 = 0 → (ctI G 1 M_X12_isRow fr [.ref 0, .int (i2 &&& (((nI 1) <<< (i4 &&& 31)) ^^^ (-(nI 1))))] lM S1 tl (fun v2 S2 => (v2 = 0 → (L_X12_tooMany_36 G fr n0 tl K S2 i2 i3 (i4 + nI 1))) ∧ (¬ v2 = 0 → (L_X12_tooMany_36 G fr n0 tl K S2 i2 (i3 ||| ((nI 1) <<< (i4 &&& 31))) (i4 + nI 1)))))))))) :
    L_X12_tooMany_36 G fr n0 tl K S i2 i3 i4 := by
  unfold L_X12_tooMany_36
  iterate 4 refine ws_b rfl ?_
  refine wp_ite (fun q => ?_) (fun q => ?_)
  · replace h := h.1 q
    refine ws_b rfl ?_
    exact wp_ri rfl rfl rfl ⟨_, _, rfl, rfl, h⟩
  · replace h := h.2 q
    iterate 2 refine ws_b rfl ?_
    refine wp_cS rfl rfl o_X12_isOf s_X12_isOf h rfl rfl (Nat.le_of_ble_eq_true rfl) (by decide) ?_
    clear h
    rintro r9 h9 ⟨v1, S1, rfl, rfl, h⟩
    refine ws_b rfl ?_
    refine wp_ite (fun q => ?_) (fun q => ?_)
    · replace h := h.1 q
      iterate 2 refine ws_b rfl ?_
      exact wp_weak (wk_s (wk_s (wk_s (wk_s (wk_s wk_0))))) h
    · replace h := h.2 q
      iterate 8 refine ws_b rfl ?_
      refine wp_cV rfl rfl o_X12_isRow v_X12_isRow h rfl rfl rfl (Nat.le_of_ble_eq_true rfl) (by decide) ?_
      clear h
      rintro r9 h9 ⟨v2, S2, rfl, rfl, h⟩
      refine ws_b rfl ?_
      refine wp_ite (fun q => ?_) (fun q => ?_)
      · replace h := h.1 q
        iterate 2 refine ws_b rfl ?_
        exact wp_weak (wk_s (wk_s (wk_s (wk_s (wk_s wk_0))))) h
      · replace h := h.2 q
        iterate 8 refine ws_b rfl ?_
        exact wp_weak (wk_s (wk_s (wk_s (wk_s (wk_s wk_0))))) h
set_option maxRecDepth 100000 in
set_option maxHeartbeats 4000000 in
theorem m_X12_tooMany {G : ab_G} {fr : Bool} {tl : ab_H} {K : Int32 → ms_S → Prop} {S : ms_S} {i1 : Int32}
    (h : ∀ n0 : Nat, ctI G 1 M_X12_isHeir fr [.ref 0, .int i1] lM (sV S 2 (nI 0)) tl (fun v1 S1 => (v1 = 0 → (K (-(nI 1)) S1)) ∧ (¬ v1 = 0 → (ctU G 1 M_X12_plainTried fr [.ref 0] lM S1 tl (fun S2 => ctU G 5 M_X12_layRows fr [.ref 0, .int (nI 0)] lM S2 tl (fun S3 => ctI G 1 M_X12_heldBy fr [.ref 0, .int (nI 0), .int i1] lM S3 tl (fun v4 S4 => L_X12_tooMany_36 G fr n0 tl K S4 v4 (nI 0) (nI 0)))))))) :
    ctI G 6 M_X12_tooMany fr [.ref 0, .int i1] lM S tl K := by
  refine wp_ct o_X12_tooMany (Nat.le_of_ble_eq_true rfl) ?_
  replace h := h (hLy lM S tl).length
  revert h
  generalize (hLy lM S tl).length = n0
  intro h
  iterate 5 refine ws_b rfl ?_
  refine wp_cV rfl rfl o_X12_isHeir v_X12_isHeir h rfl rfl rfl (Nat.le_of_ble_eq_true rfl) (by decide) ?_
  clear h
  rintro r9 h9 ⟨v1, S1, rfl, rfl, h⟩
  refine ws_b rfl ?_
  refine wp_ite (fun q => ?_) (fun q => ?_)
  · replace h := h.1 q
    refine ws_b rfl ?_
    exact wp_ri rfl rfl rfl ⟨_, _, rfl, rfl, h⟩
  · replace h := h.2 q
    refine ws_b rfl ?_
    refine wp_cV rfl rfl o_X12_plainTried v_X12_plainTried h rfl rfl rfl (Nat.le_of_ble_eq_true rfl) (by decide) ?_
    clear h
    rintro r9 h9 ⟨S2, rfl, rfl, h⟩
    iterate 2 refine ws_b rfl ?_
    refine wp_cV rfl rfl o_X12_layRows v_X12_layRows h rfl rfl rfl (Nat.le_of_ble_eq_true rfl) (by decide) ?_
    clear h
    rintro r9 h9 ⟨S3, rfl, rfl, h⟩
    iterate 3 refine ws_b rfl ?_
    refine wp_cV rfl rfl o_X12_heldBy v_X12_heldBy h rfl rfl rfl (Nat.le_of_ble_eq_true rfl) (by decide) ?_
    clear h
    rintro r9 h9 ⟨v4, S4, rfl, rfl, h⟩
    iterate 5 refine ws_b rfl ?_
    exact wp_weak (wk_s (wk_n (wk_s (wk_s (wk_s wk_0))))) h
def L_X12_deal_24 (G : ab_G) (fr : Bool) (n0 : Nat) (tl : ab_H) (K : Int32 → ms_S → Prop) (S : ms_S) (i1 : Int32) (i2 : Int32) : Prop := wp G 6 M_X12_deal fr n0 (poI lM tl K) 24 [some (.ref 0), some (.int i1), some (.int i2), none, none, none, none, none, none, none] [] (hLy lM S tl)
def L_X12_deal_46 (G : ab_G) (fr : Bool) (n0 : Nat) (tl : ab_H) (K : Int32 → ms_S → Prop) (S : ms_S) (i1 : Int32) (i2 : Int32) : Prop := wp G 6 M_X12_deal fr n0 (poI lM tl K) 46 [some (.ref 0), some (.int i1), some (.int i2), none, none, none, none, none, none, none] [] (hLy lM S tl)
def L_X12_deal_67 (G : ab_G) (fr : Bool) (n0 : Nat) (tl : ab_H) (K : Int32 → ms_S → Prop) (S : ms_S) (i1 : Int32) (i2 : Int32) (i3 : Int32) (i4 : Int32) (i5 : Int32) : Prop := wp G 6 M_X12_deal fr n0 (poI lM tl K) 67 [some (.ref 0), some (.int i1), some (.int i2), some (.int i3), some (.int i4), some (.int i5), none, none, none, none] [] (hLy lM S tl)
def L_X12_deal_105 (G : ab_G) (fr : Bool) (n0 : Nat) (tl : ab_H) (K : Int32 → ms_S → Prop) (S : ms_S) (i1 : Int32) (i2 : Int32) (i3 : Int32) (i5 : Int32) (t0 : Int32) : Prop := wp G 6 M_X12_deal fr n0 (poI lM tl K) 105 [some (.ref 0), some (.int i1), some (.int i2), some (.int i3), none, some (.int i5), none, none, none, none] [.int t0] (hLy lM S tl)
def L_X12_deal_106 (G : ab_G) (fr : Bool) (n0 : Nat) (tl : ab_H) (K : Int32 → ms_S → Prop) (S : ms_S) (i1 : Int32) (i2 : Int32) (i3 : Int32) (i5 : Int32) (t0 : Int32) (t1 : Int32) : Prop := wp G 6 M_X12_deal fr n0 (poI lM tl K) 106 [some (.ref 0), some (.int i1), some (.int i2), some (.int i3), none, some (.int i5), none, none, none, none] [.int t0, .int t1] (hLy lM S tl)
def L_X12_deal_120 (G : ab_G) (fr : Bool) (n0 : Nat) (tl : ab_H) (K : Int32 → ms_S → Prop) (S : ms_S) (i1 : Int32) (i2 : Int32) (i3 : Int32) (i4 : Int32) (i5 : Int32) : Prop := wp G 6 M_X12_deal fr n0 (poI lM tl K) 120 [some (.ref 0), some (.int i1), some (.int i2), some (.int i3), some (.int i4), some (.int i5), none, none, none, none] [] (hLy lM S tl)
def L_X12_deal_151 (G : ab_G) (fr : Bool) (n0 : Nat) (tl : ab_H) (K : Int32 → ms_S → Prop) (S : ms_S) (i1 : Int32) (i2 : Int32) (i3 : Int32) (i4 : Int32) (i5 : Int32) (i6 : Int32) (i7 : Int32) (i8 : Int32) : Prop := wp G 6 M_X12_deal fr n0 (poI lM tl K) 151 [some (.ref 0), some (.int i1), some (.int i2), some (.int i3), some (.int i4), some (.int i5), some (.int i6), some (.int i7), some (.int i8), none] [] (hLy lM S tl)
def L_X12_deal_184 (G : ab_G) (fr : Bool) (n0 : Nat) (tl : ab_H) (K : Int32 → ms_S → Prop) (S : ms_S) (i1 : Int32) (i2 : Int32) (i3 : Int32) (i4 : Int32) (i5 : Int32) (i6 : Int32) (i7 : Int32) (i8 : Int32) (t0 : Int32) (t1 : Int32) : Prop := wp G 6 M_X12_deal fr n0 (poI lM tl K) 184 [some (.ref 0), some (.int i1), some (.int i2), some (.int i3), some (.int i4), some (.int i5), some (.int i6), some (.int i7), some (.int i8), none] [.int t0, .int t1] (hLy lM S tl)
def L_X12_deal_201 (G : ab_G) (fr : Bool) (n0 : Nat) (tl : ab_H) (K : Int32 → ms_S → Prop) (S : ms_S) (i1 : Int32) (i2 : Int32) (i3 : Int32) (i4 : Int32) (i5 : Int32) (i7 : Int32) (i8 : Int32) (t0 : Int32) : Prop := wp G 6 M_X12_deal fr n0 (poI lM tl K) 201 [some (.ref 0), some (.int i1), some (.int i2), some (.int i3), some (.int i4), some (.int i5), none, some (.int i7), some (.int i8), none] [.int t0] (hLy lM S tl)
def L_X12_deal_219 (G : ab_G) (fr : Bool) (n0 : Nat) (tl : ab_H) (K : Int32 → ms_S → Prop) (S : ms_S) (i1 : Int32) (i2 : Int32) (i3 : Int32) (i4 : Int32) (i5 : Int32) (i6 : Int32) (i7 : Int32) (t0 : Int32) : Prop := wp G 6 M_X12_deal fr n0 (poI lM tl K) 219 [some (.ref 0), some (.int i1), some (.int i2), some (.int i3), some (.int i4), some (.int i5), some (.int i6), some (.int i7), none, none] [.int t0] (hLy lM S tl)
def L_X12_deal_233 (G : ab_G) (fr : Bool) (n0 : Nat) (tl : ab_H) (K : Int32 → ms_S → Prop) (S : ms_S) (i1 : Int32) (i2 : Int32) (i3 : Int32) (i4 : Int32) (i5 : Int32) : Prop := wp G 6 M_X12_deal fr n0 (poI lM tl K) 233 [some (.ref 0), some (.int i1), some (.int i2), some (.int i3), some (.int i4), some (.int i5), none, none, none, none] [] (hLy lM S tl)
set_option maxRecDepth 100000 in
set_option maxHeartbeats 4000000 in
theorem b_X12_deal_24 {G : ab_G} {fr : Bool} {n0 : Nat} {tl : ab_H} {K : Int32 → ms_S → Prop} {S : ms_S} {i1 : Int32} {i2 : Int32}
    (h : ((nI 512) ≤ i2 → (L_X12_deal_46 G fr n0 tl K S i1 (nI 0))) ∧ (¬ (nI 512) ≤ i2 → (vp_in i2 512 ∧ (L_X12_deal_24 G fr n0 tl K (sA S 35 i2.toNatClampNeg (nI 0)) i1 (i2 + nI 1))))) :
    L_X12_deal_24 G fr n0 tl K S i1 i2 := by
  unfold L_X12_deal_24
  iterate 3 refine ws_b rfl ?_
  refine wp_ite (fun q => ?_) (fun q => ?_)
  · replace h := h.1 q
    iterate 2 refine ws_b rfl ?_
    exact wp_weak (wk_s (wk_s (wk_s (wk_s (wk_s (wk_s (wk_s (wk_s (wk_s (wk_s wk_0)))))))))) h
  · replace h := h.2 q
    iterate 4 refine ws_b rfl ?_
    refine ws_g rfl h.1 ?_
    replace h := h.2
    iterate 2 refine ws_b rfl ?_
    exact wp_weak (wk_s (wk_s (wk_s (wk_s (wk_s (wk_s (wk_s (wk_s (wk_s (wk_s wk_0)))))))))) h
set_option maxRecDepth 100000 in
set_option maxHeartbeats 4000000 in
theorem b_X12_deal_46 {G : ab_G} {fr : Bool} {n0 : Nat} {tl : ab_H} {K : Int32 → ms_S → Prop} {S : ms_S} {i1 : Int32} {i2 : Int32}
    (h : ((S.1 0 13) ≤ i2 → (vp_in i1 512 ∧ (K (S.2.2.2.1 35 i1.toNatClampNeg) S))) ∧ (¬ (S.1 0 13) ≤ i2 → (ctI G 1 M_X12_heldBy fr [.ref 0, .int (nI 0), .int i2] lM S tl (fun v1 S1 => L_X12_deal_67 G fr n0 tl K S1 i1 i2 v1 (nI 0) (nI 0))))) :
    L_X12_deal_46 G fr n0 tl K S i1 i2 := by
  unfold L_X12_deal_46
  iterate 4 refine ws_b rfl ?_
  refine wp_ite (fun q => ?_) (fun q => ?_)
  · replace h := h.1 q
    iterate 3 refine ws_b rfl ?_
    refine ws_g rfl h.1 ?_
    replace h := h.2
    exact wp_ri rfl rfl rfl ⟨_, _, rfl, rfl, h⟩
  · replace h := h.2 q
    iterate 3 refine ws_b rfl ?_
    refine wp_cV rfl rfl o_X12_heldBy v_X12_heldBy h rfl rfl rfl (Nat.le_of_ble_eq_true rfl) (by decide) ?_
    clear h
    rintro r9 h9 ⟨v1, S1, rfl, rfl, h⟩
    iterate 5 refine ws_b rfl ?_
    exact wp_weak (wk_s (wk_s (wk_s (wk_s (wk_s (wk_s (wk_s (wk_s (wk_s (wk_s wk_0)))))))))) h
set_option maxRecDepth 100000 in
set_option maxHeartbeats 4000000 in
theorem b_X12_deal_67 {G : ab_G} {fr : Bool} {n0 : Nat} {tl : ab_H} {K : Int32 → ms_S → Prop} {S : ms_S} {i1 : Int32} {i2 : Int32} {i3 : Int32} {i4 : Int32} {i5 : Int32}
    (h : ((S.1 0 12) ≤ i5 → (L_X12_deal_120 G fr n0 tl K S i1 i2 i3 i4 (nI 511))) ∧ (¬ (S.1 0 12) ≤ i5 → (ctI G 1 M_X12_isOf fr [.int i1, .int i5] lM S tl (fun v1 S1 => (v1 = 0 → (L_X12_deal_105 G fr n0 tl K S1 i1 i2 i3 i5 i4)) ∧ (¬ v1 = 0 → (ctI G 4 M_X12_may fr [.ref 0, .int (nI 0), .int i2, .int i5] lM S1 tl (fun v2 S2 => (v2 = 0 → (L_X12_deal_105 G fr n0 tl K S2 i1 i2 i3 i5 i4)) ∧ (¬ v2 = 0 → (L_X12_deal_106 G fr n0 tl K S2 i1 i2 i3 i5 ((nI 1) <<< (i5 &&& 31)) i4))))))))) :
    L_X12_deal_67 G fr n0 tl K S i1 i2 i3 i4 i5 := by
  unfold L_X12_deal_67
  iterate 4 refine ws_b rfl ?_
  refine wp_ite (fun q => ?_) (fun q => ?_)
  · replace h := h.1 q
    iterate 2 refine ws_b rfl ?_
    exact wp_weak (wk_s (wk_s (wk_s (wk_s (wk_s (wk_s (wk_s (wk_s (wk_s (wk_s wk_0)))))))))) h
  · replace h := h.2 q
    iterate 3 refine ws_b rfl ?_
    refine wp_cS rfl rfl o_X12_isOf s_X12_isOf h rfl rfl (Nat.le_of_ble_eq_true rfl) (by decide) ?_
    clear h
    rintro r9 h9 ⟨v1, S1, rfl, rfl, h⟩
    refine ws_b rfl ?_
    refine wp_ite (fun q => ?_) (fun q => ?_)
    · replace h := h.1 q
      exact wp_weak (wk_s (wk_s (wk_s (wk_s (wk_n (wk_s (wk_s (wk_s (wk_s (wk_s wk_0)))))))))) h
    · replace h := h.2 q
      iterate 4 refine ws_b rfl ?_
      refine wp_cV rfl rfl o_X12_may v_X12_may h rfl rfl rfl (Nat.le_of_ble_eq_true rfl) (by decide) ?_
      clear h
      rintro r9 h9 ⟨v2, S2, rfl, rfl, h⟩
      refine ws_b rfl ?_
      refine wp_ite (fun q => ?_) (fun q => ?_)
      · replace h := h.1 q
        exact wp_weak (wk_s (wk_s (wk_s (wk_s (wk_n (wk_s (wk_s (wk_s (wk_s (wk_s wk_0)))))))))) h
      · replace h := h.2 q
        iterate 4 refine ws_b rfl ?_
        exact wp_weak (wk_s (wk_s (wk_s (wk_s (wk_n (wk_s (wk_s (wk_s (wk_s (wk_s wk_0)))))))))) h
set_option maxRecDepth 100000 in
set_option maxHeartbeats 4000000 in
theorem b_X12_deal_105 {G : ab_G} {fr : Bool} {n0 : Nat} {tl : ab_H} {K : Int32 → ms_S → Prop} {S : ms_S} {i1 : Int32} {i2 : Int32} {i3 : Int32} {i5 : Int32} {t0 : Int32}
    (h : L_X12_deal_106 G fr n0 tl K S i1 i2 i3 i5 (nI 0) t0) :
    L_X12_deal_105 G fr n0 tl K S i1 i2 i3 i5 t0 := by
  unfold L_X12_deal_105
  refine ws_b rfl ?_
  exact wp_weak (wk_s (wk_s (wk_s (wk_s (wk_s (wk_s (wk_s (wk_s (wk_s (wk_s wk_0)))))))))) h
set_option maxRecDepth 100000 in
set_option maxHeartbeats 4000000 in
theorem b_X12_deal_106 {G : ab_G} {fr : Bool} {n0 : Nat} {tl : ab_H} {K : Int32 → ms_S → Prop} {S : ms_S} {i1 : Int32} {i2 : Int32} {i3 : Int32} {i5 : Int32} {t0 : Int32} {t1 : Int32}
    (h : L_X12_deal_67 G fr n0 tl K S i1 i2 i3 (t1 ||| t0) (i5 + nI 1)) :
    L_X12_deal_106 G fr n0 tl K S i1 i2 i3 i5 t0 t1 := by
  unfold L_X12_deal_106
  iterate 4 refine ws_b rfl ?_
  exact wp_weak (wk_s (wk_s (wk_s (wk_s (wk_s (wk_s (wk_s (wk_s (wk_s (wk_s wk_0)))))))))) h
set_option maxRecDepth 100000 in
set_option maxHeartbeats 4000000 in
theorem b_X12_deal_120 {G : ab_G} {fr : Bool} {n0 : Nat} {tl : ab_H} {K : Int32 → ms_S → Prop} {S : ms_S} {i1 : Int32} {i2 : Int32} {i3 : Int32} {i4 : Int32} {i5 : Int32}
    (h : (i5 < 0 → (L_X12_deal_46 G fr n0 tl K S i1 (i2 + nI 1))) ∧ (¬ i5 < 0 → (((i5 &&& (i1 ^^^ (-(nI 1)))) = 0 → (L_X12_deal_151 G fr n0 tl K S i1 i2 i3 i4 i5 (nI 0) (i5 &&& i4) (i5 &&& i4))) ∧ (¬ (i5 &&& (i1 ^^^ (-(nI 1)))) = 0 → (L_X12_deal_233 G fr n0 tl K S i1 i2 i3 i4 i5))))) :
    L_X12_deal_120 G fr n0 tl K S i1 i2 i3 i4 i5 := by
  unfold L_X12_deal_120
  iterate 2 refine ws_b rfl ?_
  refine wp_ite (fun q => ?_) (fun q => ?_)
  · replace h := h.1 q
    iterate 2 refine ws_b rfl ?_
    exact wp_weak (wk_s (wk_s (wk_s (wk_n (wk_n (wk_n (wk_s (wk_s (wk_s (wk_s wk_0)))))))))) h
  · replace h := h.2 q
    iterate 6 refine ws_b rfl ?_
    refine wp_ite (fun q => ?_) (fun q => ?_)
    · replace h := h.1 q
      iterate 8 refine ws_b rfl ?_
      exact wp_weak (wk_s (wk_s (wk_s (wk_s (wk_s (wk_s (wk_s (wk_s (wk_s (wk_s wk_0)))))))))) h
    · replace h := h.2 q
      refine ws_b rfl ?_
      exact wp_weak (wk_s (wk_s (wk_s (wk_s (wk_s (wk_s (wk_s (wk_s (wk_s (wk_s wk_0)))))))))) h
set_option maxRecDepth 100000 in
set_option maxHeartbeats 4000000 in
theorem b_X12_deal_151 {G : ab_G} {fr : Bool} {n0 : Nat} {tl : ab_H} {K : Int32 → ms_S → Prop} {S : ms_S} {i1 : Int32} {i2 : Int32} {i3 : Int32} {i4 : Int32} {i5 : Int32} {i6 : Int32} {i7 : Int32} {i8 : Int32}
    (h : (i8 < 0 → (vp_in i5 512 ∧ (L_X12_deal_233 G fr n0 tl K (sA S 35 i5.toNatClampNeg i6) i1 i2 i3 i4 i5))) ∧ (¬ i8 < 0 → (vp_in (i5 &&& (i8 ^^^ (-(nI 1)))) 512 ∧ (ctI G 1 M_X12_isRow fr [.ref 0, .int (i3 ||| i8)] lM S tl (fun v1 S1 => (v1 = 0 → (L_X12_deal_184 G fr n0 tl K S1 i1 i2 i3 i4 i5 i6 i7 i8 (nI 0) (S.2.2.2.1 35 ((i5 &&& (i8 ^^^ (-(nI 1)))).toNatClampNeg)))) ∧ (¬ v1 = 0 → (L_X12_deal_184 G fr n0 tl K S1 i1 i2 i3 i4 i5 i6 i7 i8 (nI 1) (S.2.2.2.1 35 ((i5 &&& (i8 ^^^ (-(nI 1)))).toNatClampNeg))))))))) :
    L_X12_deal_151 G fr n0 tl K S i1 i2 i3 i4 i5 i6 i7 i8 := by
  unfold L_X12_deal_151
  iterate 2 refine ws_b rfl ?_
  refine wp_ite (fun q => ?_) (fun q => ?_)
  · replace h := h.1 q
    iterate 4 refine ws_b rfl ?_
    refine ws_g rfl h.1 ?_
    replace h := h.2
    exact wp_weak (wk_s (wk_s (wk_s (wk_s (wk_s (wk_s (wk_n (wk_n (wk_n (wk_s wk_0)))))))))) h
  · replace h := h.2 q
    iterate 7 refine ws_b rfl ?_
    refine ws_g rfl h.1 ?_
    replace h := h.2
    iterate 4 refine ws_b rfl ?_
    refine wp_cV rfl rfl o_X12_isRow v_X12_isRow h rfl rfl rfl (Nat.le_of_ble_eq_true rfl) (by decide) ?_
    clear h
    rintro r9 h9 ⟨v1, S1, rfl, rfl, h⟩
    refine ws_b rfl ?_
    refine wp_ite (fun q => ?_) (fun q => ?_)
    · replace h := h.1 q
      refine ws_b rfl ?_
      exact wp_weak (wk_s (wk_s (wk_s (wk_s (wk_s (wk_s (wk_s (wk_s (wk_s (wk_s wk_0)))))))))) h
    · replace h := h.2 q
      iterate 2 refine ws_b rfl ?_
      exact wp_weak (wk_s (wk_s (wk_s (wk_s (wk_s (wk_s (wk_s (wk_s (wk_s (wk_s wk_0)))))))))) h
set_option maxRecDepth 100000 in
set_option maxHeartbeats 4000000 in
theorem b_X12_deal_184 {G : ab_G} {fr : Bool} {n0 : Nat} {tl : ab_H} {K : Int32 → ms_S → Prop} {S : ms_S} {i1 : Int32} {i2 : Int32} {i3 : Int32} {i4 : Int32} {i5 : Int32} {i6 : Int32} {i7 : Int32} {i8 : Int32} {t0 : Int32} {t1 : Int32}
    (h : ((t1 + t0) ≤ i6 → (L_X12_deal_201 G fr n0 tl K S i1 i2 i3 i4 i5 i7 i8 i6)) ∧ (¬ (t1 + t0) ≤ i6 → (L_X12_deal_201 G fr n0 tl K S i1 i2 i3 i4 i5 i7 i8 (t1 + t0)))) :
    L_X12_deal_184 G fr n0 tl K S i1 i2 i3 i4 i5 i6 i7 i8 t0 t1 := by
  unfold L_X12_deal_184
  iterate 5 refine ws_b rfl ?_
  refine wp_ite (fun q => ?_) (fun q => ?_)
  · replace h := h.1 q
    refine ws_b rfl ?_
    exact wp_weak (wk_s (wk_s (wk_s (wk_s (wk_s (wk_s (wk_n (wk_s (wk_s (wk_n wk_0)))))))))) h
  · replace h := h.2 q
    iterate 2 refine ws_b rfl ?_
    exact wp_weak (wk_s (wk_s (wk_s (wk_s (wk_s (wk_s (wk_n (wk_s (wk_s (wk_n wk_0)))))))))) h
set_option maxRecDepth 100000 in
set_option maxHeartbeats 4000000 in
theorem b_X12_deal_201 {G : ab_G} {fr : Bool} {n0 : Nat} {tl : ab_H} {K : Int32 → ms_S → Prop} {S : ms_S} {i1 : Int32} {i2 : Int32} {i3 : Int32} {i4 : Int32} {i5 : Int32} {i7 : Int32} {i8 : Int32} {t0 : Int32}
    (h : (i8 = 0 → (L_X12_deal_219 G fr n0 tl K S i1 i2 i3 i4 i5 t0 i7 (-(nI 1)))) ∧ (¬ i8 = 0 → (L_X12_deal_219 G fr n0 tl K S i1 i2 i3 i4 i5 t0 i7 ((i8 - (nI 1)) &&& i7)))) :
    L_X12_deal_201 G fr n0 tl K S i1 i2 i3 i4 i5 i7 i8 t0 := by
  unfold L_X12_deal_201
  iterate 3 refine ws_b rfl ?_
  refine wp_ite (fun q => ?_) (fun q => ?_)
  · replace h := h.1 q
    iterate 2 refine ws_b rfl ?_
    exact wp_weak (wk_s (wk_s (wk_s (wk_s (wk_s (wk_s (wk_s (wk_s (wk_n (wk_s wk_0)))))))))) h
  · replace h := h.2 q
    iterate 5 refine ws_b rfl ?_
    exact wp_weak (wk_s (wk_s (wk_s (wk_s (wk_s (wk_s (wk_s (wk_s (wk_n (wk_s wk_0)))))))))) h
set_option maxRecDepth 100000 in
set_option maxHeartbeats 4000000 in
theorem b_X12_deal_219 {G : ab_G} {fr : Bool} {n0 : Nat} {tl : ab_H} {K : Int32 → ms_S → Prop} {S : ms_S} {i1 : Int32} {i2 : Int32} {i3 : Int32} {i4 : Int32} {i5 : Int32} {i6 : Int32} {i7 : Int32} {t0 : Int32}
    (h : L_X12_deal_151 G fr n0 tl K S i1 i2 i3 i4 i5 i6 i7 t0) :
    L_X12_deal_219 G fr n0 tl K S i1 i2 i3 i4 i5 i6 i7 t0 := by
  unfold L_X12_deal_219
  iterate 2 refine ws_b rfl ?_
  exact wp_weak (wk_s (wk_s (wk_s (wk_s (wk_s (wk_s (wk_s (wk_s (wk_s (wk_s wk_0)))))))))) h
set_option maxRecDepth 100000 in
set_option maxHeartbeats 4000000 in
theorem b_X12_deal_233 {G : ab_G} {fr : Bool} {n0 : Nat} {tl : ab_H} {K : Int32 → ms_S → Prop} {S : ms_S} {i1 : Int32} {i2 : Int32} {i3 : Int32} {i4 : Int32} {i5 : Int32}
    (h : L_X12_deal_120 G fr n0 tl K S i1 i2 i3 i4 (i5 + -(nI 1))) :
    L_X12_deal_233 G fr n0 tl K S i1 i2 i3 i4 i5 := by
  unfold L_X12_deal_233
  iterate 2 refine ws_b rfl ?_
  exact wp_weak (wk_s (wk_s (wk_s (wk_s (wk_s (wk_s (wk_s (wk_s (wk_s (wk_s wk_0)))))))))) h
set_option maxRecDepth 100000 in
set_option maxHeartbeats 4000000 in
theorem m_X12_deal {G : ab_G} {fr : Bool} {tl : ab_H} {K : Int32 → ms_S → Prop} {S : ms_S} 
    (h : ∀ n0 : Nat, ctU G 1 M_X12_plainTried fr [.ref 0] lM (sV S 2 (nI 0)) tl (fun S1 => ctU G 5 M_X12_layRows fr [.ref 0, .int (nI 0)] lM S1 tl (fun S2 => ctI G 1 M_X12_heldBy fr [.ref 0, .int (nI 0), .int (-(nI 2))] lM S2 tl (fun v3 S3 => L_X12_deal_24 G fr n0 tl K S3 v3 (nI 0))))) :
    ctI G 6 M_X12_deal fr [.ref 0] lM S tl K := by
  refine wp_ct o_X12_deal (Nat.le_of_ble_eq_true rfl) ?_
  replace h := h (hLy lM S tl).length
  revert h
  generalize (hLy lM S tl).length = n0
  intro h
  iterate 4 refine ws_b rfl ?_
  refine wp_cV rfl rfl o_X12_plainTried v_X12_plainTried h rfl rfl rfl (Nat.le_of_ble_eq_true rfl) (by decide) ?_
  clear h
  rintro r9 h9 ⟨S1, rfl, rfl, h⟩
  iterate 2 refine ws_b rfl ?_
  refine wp_cV rfl rfl o_X12_layRows v_X12_layRows h rfl rfl rfl (Nat.le_of_ble_eq_true rfl) (by decide) ?_
  clear h
  rintro r9 h9 ⟨S2, rfl, rfl, h⟩
  iterate 3 refine ws_b rfl ?_
  refine wp_cV rfl rfl o_X12_heldBy v_X12_heldBy h rfl rfl rfl (Nat.le_of_ble_eq_true rfl) (by decide) ?_
  clear h
  rintro r9 h9 ⟨v3, S3, rfl, rfl, h⟩
  iterate 3 refine ws_b rfl ?_
  exact wp_weak (wk_s (wk_s (wk_s (wk_s (wk_s (wk_s (wk_s (wk_s (wk_s (wk_s wk_0)))))))))) h
set_option maxRecDepth 100000 in
set_option maxHeartbeats 4000000 in
theorem m_X12_stateOf {G : ab_G} {fr : Bool} {tl : ab_H} {K : Int32 → ms_S → Prop} {S : ms_S} {i0 : Int32} {i1 : Int32} {i2 : Int32}
    (h : ∀ n0 : Nat, K ((((nI 49) * i0) + ((nI 7) * i1)) + i2) S) :
    ctI G 1 M_X12_stateOf fr [.int i0, .int i1, .int i2] lM S tl K := by
  refine wp_ct o_X12_stateOf (Nat.le_of_ble_eq_true rfl) ?_
  replace h := h (hLy lM S tl).length
  revert h
  generalize (hLy lM S tl).length = n0
  intro h
  iterate 9 refine ws_b rfl ?_
  exact wp_ri rfl rfl rfl ⟨_, _, rfl, rfl, h⟩
set_option maxRecDepth 100000 in
set_option maxHeartbeats 4000000 in
theorem m_X12_better {G : ab_G} {fr : Bool} {tl : ab_H} {K : Int32 → ms_S → Prop} {S : ms_S} {i0 : Int32} {i1 : Int32}
    (h : ∀ n0 : Nat, (0 ≤ i1 → ((i0 = 0 → (K ((-i1) - (nI 1)) S)) ∧ (¬ i0 = 0 → ((((-i1) - (nI 1)) ≤ 0 → ((0 ≤ i0 → (K i0 S)) ∧ (¬ 0 ≤ i0 → ((i0 ≤ ((-i1) - (nI 1)) → (K i0 S)) ∧ (¬ i0 ≤ ((-i1) - (nI 1)) → (K ((-i1) - (nI 1)) S)))))) ∧ (¬ ((-i1) - (nI 1)) ≤ 0 → ((i0 < 0 → (K ((-i1) - (nI 1)) S)) ∧ (¬ i0 < 0 → ((i0 ≤ ((-i1) - (nI 1)) → (K i0 S)) ∧ (¬ i0 ≤ ((-i1) - (nI 1)) → (K ((-i1) - (nI 1)) S)))))))))) ∧ (¬ 0 ≤ i1 → ((i0 = 0 → (K ((-i1) + (nI 1)) S)) ∧ (¬ i0 = 0 → ((((-i1) + (nI 1)) ≤ 0 → ((0 ≤ i0 → (K i0 S)) ∧ (¬ 0 ≤ i0 → ((i0 ≤ ((-i1) + (nI 1)) → (K i0 S)) ∧ (¬ i0 ≤ ((-i1) + (nI 1)) → (K ((-i1) + (nI 1)) S)))))) ∧ (¬ ((-i1) + (nI 1)) ≤ 0 → ((i0 < 0 → (K ((-i1) + (nI 1)) S)) ∧ (¬ i0 < 0 → ((i0 ≤ ((-i1) + (nI 1)) → (K i0 S)) ∧ (¬ i0 ≤ ((-i1) + (nI 1)) → (K ((-i1) + (nI 1)) S))))))))))) :
    ctI G 1 M_X12_better fr [.int i0, .int i1] lM S tl K := by
  refine wp_ct o_X12_better (Nat.le_of_ble_eq_true rfl) ?_
  replace h := h (hLy lM S tl).length
  revert h
  generalize (hLy lM S tl).length = n0
  intro h
  iterate 2 refine ws_b rfl ?_
  refine wp_ite (fun q => ?_) (fun q => ?_)
  · replace h := h.1 q
    iterate 7 refine ws_b rfl ?_
    refine wp_ite (fun q => ?_) (fun q => ?_)
    · replace h := h.1 q
      refine ws_b rfl ?_
      exact wp_ri rfl rfl rfl ⟨_, _, rfl, rfl, h⟩
    · replace h := h.2 q
      iterate 2 refine ws_b rfl ?_
      refine wp_ite (fun q => ?_) (fun q => ?_)
      · replace h := h.1 q
        iterate 2 refine ws_b rfl ?_
        refine wp_ite (fun q => ?_) (fun q => ?_)
        · replace h := h.1 q
          refine ws_b rfl ?_
          exact wp_ri rfl rfl rfl ⟨_, _, rfl, rfl, h⟩
        · replace h := h.2 q
          iterate 3 refine ws_b rfl ?_
          refine wp_ite (fun q => ?_) (fun q => ?_)
          · replace h := h.1 q
            refine ws_b rfl ?_
            exact wp_ri rfl rfl rfl ⟨_, _, rfl, rfl, h⟩
          · replace h := h.2 q
            iterate 2 refine ws_b rfl ?_
            exact wp_ri rfl rfl rfl ⟨_, _, rfl, rfl, h⟩
      · replace h := h.2 q
        iterate 2 refine ws_b rfl ?_
        refine wp_ite (fun q => ?_) (fun q => ?_)
        · replace h := h.1 q
          iterate 2 refine ws_b rfl ?_
          exact wp_ri rfl rfl rfl ⟨_, _, rfl, rfl, h⟩
        · replace h := h.2 q
          iterate 3 refine ws_b rfl ?_
          refine wp_ite (fun q => ?_) (fun q => ?_)
          · replace h := h.1 q
            refine ws_b rfl ?_
            exact wp_ri rfl rfl rfl ⟨_, _, rfl, rfl, h⟩
          · replace h := h.2 q
            iterate 2 refine ws_b rfl ?_
            exact wp_ri rfl rfl rfl ⟨_, _, rfl, rfl, h⟩
  · replace h := h.2 q
    iterate 8 refine ws_b rfl ?_
    refine wp_ite (fun q => ?_) (fun q => ?_)
    · replace h := h.1 q
      refine ws_b rfl ?_
      exact wp_ri rfl rfl rfl ⟨_, _, rfl, rfl, h⟩
    · replace h := h.2 q
      iterate 2 refine ws_b rfl ?_
      refine wp_ite (fun q => ?_) (fun q => ?_)
      · replace h := h.1 q
        iterate 2 refine ws_b rfl ?_
        refine wp_ite (fun q => ?_) (fun q => ?_)
        · replace h := h.1 q
          refine ws_b rfl ?_
          exact wp_ri rfl rfl rfl ⟨_, _, rfl, rfl, h⟩
        · replace h := h.2 q
          iterate 3 refine ws_b rfl ?_
          refine wp_ite (fun q => ?_) (fun q => ?_)
          · replace h := h.1 q
            refine ws_b rfl ?_
            exact wp_ri rfl rfl rfl ⟨_, _, rfl, rfl, h⟩
          · replace h := h.2 q
            iterate 2 refine ws_b rfl ?_
            exact wp_ri rfl rfl rfl ⟨_, _, rfl, rfl, h⟩
      · replace h := h.2 q
        iterate 2 refine ws_b rfl ?_
        refine wp_ite (fun q => ?_) (fun q => ?_)
        · replace h := h.1 q
          iterate 2 refine ws_b rfl ?_
          exact wp_ri rfl rfl rfl ⟨_, _, rfl, rfl, h⟩
        · replace h := h.2 q
          iterate 3 refine ws_b rfl ?_
          refine wp_ite (fun q => ?_) (fun q => ?_)
          · replace h := h.1 q
            refine ws_b rfl ?_
            exact wp_ri rfl rfl rfl ⟨_, _, rfl, rfl, h⟩
          · replace h := h.2 q
            iterate 2 refine ws_b rfl ?_
            exact wp_ri rfl rfl rfl ⟨_, _, rfl, rfl, h⟩
def L_X12_endsBy_6 (G : ab_G) (fr : Bool) (n0 : Nat) (tl : ab_H) (K : Int32 → ms_S → Prop) (S : ms_S) (i1 : Int32) (i2 : Int32) (i3 : Int32) (i4 : Int32) (i5 : Int32) (i6 : Int32) : Prop := wp G 2 M_X12_endsBy fr n0 (poI lM tl K) 6 [some (.ref 0), some (.int i1), some (.int i2), some (.int i3), some (.int i4), some (.int i5), some (.int i6), none, none, none] [] (hLy lM S tl)
def L_X12_endsBy_39 (G : ab_G) (fr : Bool) (n0 : Nat) (tl : ab_H) (K : Int32 → ms_S → Prop) (S : ms_S) (i1 : Int32) (i2 : Int32) (i3 : Int32) (i4 : Int32) (i5 : Int32) (i6 : Int32) (i7 : Int32) : Prop := wp G 2 M_X12_endsBy fr n0 (poI lM tl K) 39 [some (.ref 0), some (.int i1), some (.int i2), some (.int i3), some (.int i4), some (.int i5), some (.int i6), some (.int i7), none, none] [] (hLy lM S tl)
def L_X12_endsBy_67 (G : ab_G) (fr : Bool) (n0 : Nat) (tl : ab_H) (K : Int32 → ms_S → Prop) (S : ms_S) (i1 : Int32) (i2 : Int32) (i3 : Int32) (i4 : Int32) (i5 : Int32) (i6 : Int32) (i7 : Int32) (t0 : Int32) : Prop := wp G 2 M_X12_endsBy fr n0 (poI lM tl K) 67 [some (.ref 0), some (.int i1), some (.int i2), some (.int i3), some (.int i4), some (.int i5), some (.int i6), some (.int i7), none, none] [.int t0] (hLy lM S tl)
def L_X12_endsBy_91 (G : ab_G) (fr : Bool) (n0 : Nat) (tl : ab_H) (K : Int32 → ms_S → Prop) (S : ms_S) (i1 : Int32) (i2 : Int32) (i3 : Int32) (i4 : Int32) (i5 : Int32) (i6 : Int32) (i7 : Int32) (i8 : Int32) (t0 : Int32) : Prop := wp G 2 M_X12_endsBy fr n0 (poI lM tl K) 91 [some (.ref 0), some (.int i1), some (.int i2), some (.int i3), some (.int i4), some (.int i5), some (.int i6), some (.int i7), some (.int i8), none] [.int t0] (hLy lM S tl)
def L_X12_endsBy_132 (G : ab_G) (fr : Bool) (n0 : Nat) (tl : ab_H) (K : Int32 → ms_S → Prop) (S : ms_S) (i1 : Int32) (i2 : Int32) (i3 : Int32) (i4 : Int32) (i5 : Int32) (i6 : Int32) (i7 : Int32) (i8 : Int32) (i9 : Int32) : Prop := wp G 2 M_X12_endsBy fr n0 (poI lM tl K) 132 [some (.ref 0), some (.int i1), some (.int i2), some (.int i3), some (.int i4), some (.int i5), some (.int i6), some (.int i7), some (.int i8), some (.int i9)] [] (hLy lM S tl)
def L_X12_endsBy_171 (G : ab_G) (fr : Bool) (n0 : Nat) (tl : ab_H) (K : Int32 → ms_S → Prop) (S : ms_S) (i1 : Int32) (i2 : Int32) (i3 : Int32) (i4 : Int32) (i5 : Int32) (i6 : Int32) (i7 : Int32) : Prop := wp G 2 M_X12_endsBy fr n0 (poI lM tl K) 171 [some (.ref 0), some (.int i1), some (.int i2), some (.int i3), some (.int i4), some (.int i5), some (.int i6), some (.int i7), none, none] [] (hLy lM S tl)
def L_X12_endsBy_177 (G : ab_G) (fr : Bool) (n0 : Nat) (tl : ab_H) (K : Int32 → ms_S → Prop) (S : ms_S) (i1 : Int32) (i2 : Int32) (i3 : Int32) (i4 : Int32) (i5 : Int32) (i6 : Int32) : Prop := wp G 2 M_X12_endsBy fr n0 (poI lM tl K) 177 [some (.ref 0), some (.int i1), some (.int i2), some (.int i3), some (.int i4), some (.int i5), some (.int i6), none, none, none] [] (hLy lM S tl)
def L_X12_endsBy_194 (G : ab_G) (fr : Bool) (n0 : Nat) (tl : ab_H) (K : Int32 → ms_S → Prop) (S : ms_S) (t0 : Int32) : Prop := wp G 2 M_X12_endsBy fr n0 (poI lM tl K) 194 [none, none, none, none, none, none, none, none, none, none] [.int t0] (hLy lM S tl)
set_option maxRecDepth 100000 in
set_option maxHeartbeats 4000000 in
theorem b_X12_endsBy_6 {G : ab_G} {fr : Bool} {n0 : Nat} {tl : ab_H} {K : Int32 → ms_S → Prop} {S : ms_S} {i1 : Int32} {i2 : Int32} {i3 : Int32} {i4 : Int32} {i5 : Int32} {i6 : Int32}
    (h : ((S.1 0 12) ≤ i6 → ((i5 = 0 → (L_X12_endsBy_194 G fr n0 tl K S (-(nI 1)))) ∧ (¬ i5 = 0 → (L_X12_endsBy_194 G fr n0 tl K S i5)))) ∧ (¬ (S.1 0 12) ≤ i6 → (ctI G 1 M_X12_isOf fr [.int i1, .int i6] lM S tl (fun v1 S1 => (v1 = 0 → (L_X12_endsBy_177 G fr n0 tl K S1 i1 i2 i3 i4 i5 i6)) ∧ (¬ v1 = 0 → (ctI G 1 M_X12_isOf fr [.int i2, .int i6] lM S1 tl (fun v2 S2 => (v2 = 0 → (L_X12_endsBy_39 G fr n0 tl K S2 i1 i2 i3 i4 i5 i6 (nI 0))) ∧ (¬ v2 = 0 → (L_X12_endsBy_177 G fr n0 tl K S2 i1 i2 i3 i4 i5 i6))))))))) :
    L_X12_endsBy_6 G fr n0 tl K S i1 i2 i3 i4 i5 i6 := by
  unfold L_X12_endsBy_6
  iterate 4 refine ws_b rfl ?_
  refine wp_ite (fun q => ?_) (fun q => ?_)
  · replace h := h.1 q
    iterate 2 refine ws_b rfl ?_
    refine wp_ite (fun q => ?_) (fun q => ?_)
    · replace h := h.1 q
      iterate 2 refine ws_b rfl ?_
      exact wp_weak (wk_n (wk_n (wk_n (wk_n (wk_n (wk_n (wk_n (wk_s (wk_s (wk_s wk_0)))))))))) h
    · replace h := h.2 q
      refine ws_b rfl ?_
      exact wp_weak (wk_n (wk_n (wk_n (wk_n (wk_n (wk_n (wk_n (wk_s (wk_s (wk_s wk_0)))))))))) h
  · replace h := h.2 q
    iterate 2 refine ws_b rfl ?_
    refine wp_cS rfl rfl o_X12_isOf s_X12_isOf h rfl rfl (Nat.le_of_ble_eq_true rfl) (by decide) ?_
    clear h
    rintro r9 h9 ⟨v1, S1, rfl, rfl, h⟩
    refine ws_b rfl ?_
    refine wp_ite (fun q => ?_) (fun q => ?_)
    · replace h := h.1 q
      exact wp_weak (wk_s (wk_s (wk_s (wk_s (wk_s (wk_s (wk_s (wk_s (wk_s (wk_s wk_0)))))))))) h
    · replace h := h.2 q
      iterate 2 refine ws_b rfl ?_
      refine wp_cS rfl rfl o_X12_isOf s_X12_isOf h rfl rfl (Nat.le_of_ble_eq_true rfl) (by decide) ?_
      clear h
      rintro r9 h9 ⟨v2, S2, rfl, rfl, h⟩
      refine ws_b rfl ?_
      refine wp_ite (fun q => ?_) (fun q => ?_)
      · replace h := h.1 q
        iterate 2 refine ws_b rfl ?_
        exact wp_weak (wk_s (wk_s (wk_s (wk_s (wk_s (wk_s (wk_s (wk_s (wk_s (wk_s wk_0)))))))))) h
      · replace h := h.2 q
        refine ws_b rfl ?_
        exact wp_weak (wk_s (wk_s (wk_s (wk_s (wk_s (wk_s (wk_s (wk_s (wk_s (wk_s wk_0)))))))))) h
set_option maxRecDepth 100000 in
set_option maxHeartbeats 4000000 in
theorem b_X12_endsBy_39 {G : ab_G} {fr : Bool} {n0 : Nat} {tl : ab_H} {K : Int32 → ms_S → Prop} {S : ms_S} {i1 : Int32} {i2 : Int32} {i3 : Int32} {i4 : Int32} {i5 : Int32} {i6 : Int32} {i7 : Int32}
    (h : ((nI 2) ≤ i7 → (L_X12_endsBy_177 G fr n0 tl K S i1 i2 i3 i4 i5 i6)) ∧ (¬ (nI 2) ≤ i7 → ((i7 = 0 → (vp_in i6 18 ∧ (L_X12_endsBy_67 G fr n0 tl K S i1 i2 i3 i4 i5 i6 i7 (S.2.2.2.1 6 i6.toNatClampNeg)))) ∧ (¬ i7 = 0 → (vp_in i6 18 ∧ (L_X12_endsBy_67 G fr n0 tl K S i1 i2 i3 i4 i5 i6 i7 (S.2.2.2.1 7 i6.toNatClampNeg))))))) :
    L_X12_endsBy_39 G fr n0 tl K S i1 i2 i3 i4 i5 i6 i7 := by
  unfold L_X12_endsBy_39
  iterate 3 refine ws_b rfl ?_
  refine wp_ite (fun q => ?_) (fun q => ?_)
  · replace h := h.1 q
    exact wp_weak (wk_s (wk_s (wk_s (wk_s (wk_s (wk_s (wk_s (wk_n (wk_s (wk_s wk_0)))))))))) h
  · replace h := h.2 q
    iterate 2 refine ws_b rfl ?_
    refine wp_ite (fun q => ?_) (fun q => ?_)
    · replace h := h.1 q
      iterate 3 refine ws_b rfl ?_
      refine ws_g rfl h.1 ?_
      replace h := h.2
      refine ws_b rfl ?_
      exact wp_weak (wk_s (wk_s (wk_s (wk_s (wk_s (wk_s (wk_s (wk_s (wk_s (wk_s wk_0)))))))))) h
    · replace h := h.2 q
      iterate 3 refine ws_b rfl ?_
      refine ws_g rfl h.1 ?_
      replace h := h.2
      exact wp_weak (wk_s (wk_s (wk_s (wk_s (wk_s (wk_s (wk_s (wk_s (wk_s (wk_s wk_0)))))))))) h
set_option maxRecDepth 100000 in
set_option maxHeartbeats 4000000 in
theorem b_X12_endsBy_67 {G : ab_G} {fr : Bool} {n0 : Nat} {tl : ab_H} {K : Int32 → ms_S → Prop} {S : ms_S} {i1 : Int32} {i2 : Int32} {i3 : Int32} {i4 : Int32} {i5 : Int32} {i6 : Int32} {i7 : Int32} {t0 : Int32}
    (h : (i7 = 0 → (vp_in i6 18 ∧ (L_X12_endsBy_91 G fr n0 tl K S i1 i2 i3 i4 i5 i6 i7 t0 (S.2.2.2.1 7 i6.toNatClampNeg)))) ∧ (¬ i7 = 0 → (vp_in i6 18 ∧ (L_X12_endsBy_91 G fr n0 tl K S i1 i2 i3 i4 i5 i6 i7 t0 (S.2.2.2.1 6 i6.toNatClampNeg))))) :
    L_X12_endsBy_67 G fr n0 tl K S i1 i2 i3 i4 i5 i6 i7 t0 := by
  unfold L_X12_endsBy_67
  iterate 3 refine ws_b rfl ?_
  refine wp_ite (fun q => ?_) (fun q => ?_)
  · replace h := h.1 q
    iterate 3 refine ws_b rfl ?_
    refine ws_g rfl h.1 ?_
    replace h := h.2
    refine ws_b rfl ?_
    exact wp_weak (wk_s (wk_s (wk_s (wk_s (wk_s (wk_s (wk_s (wk_s (wk_s (wk_s wk_0)))))))))) h
  · replace h := h.2 q
    iterate 3 refine ws_b rfl ?_
    refine ws_g rfl h.1 ?_
    replace h := h.2
    exact wp_weak (wk_s (wk_s (wk_s (wk_s (wk_s (wk_s (wk_s (wk_s (wk_s (wk_s wk_0)))))))))) h
set_option maxRecDepth 100000 in
set_option maxHeartbeats 4000000 in
theorem b_X12_endsBy_91 {G : ab_G} {fr : Bool} {n0 : Nat} {tl : ab_H} {K : Int32 → ms_S → Prop} {S : ms_S} {i1 : Int32} {i2 : Int32} {i3 : Int32} {i4 : Int32} {i5 : Int32} {i6 : Int32} {i7 : Int32} {i8 : Int32} {t0 : Int32}
    (h : vp_in i4 7 ∧ (ctI G 1 M_X12_isOf fr [.int (S.2.2.2.1 31 i4.toNatClampNeg), .int i8] lM S tl (fun v1 S1 => (v1 = 0 → (L_X12_endsBy_132 G fr n0 tl K S1 i1 i2 i3 i4 i5 i6 i7 i8 t0)) ∧ (¬ v1 = 0 → (ctI G 1 M_X12_stateOf fr [.int (i2 ||| ((nI 1) <<< (i6 &&& 31))), .int i3, .int t0] lM S1 tl (fun v2 S2 => vp_in v2 25088 ∧ (ctI G 1 M_X12_better fr [.int i5, .int (S2.2.2.2.1 36 v2.toNatClampNeg)] lM S2 tl (fun v3 S3 => L_X12_endsBy_132 G fr n0 tl K S3 i1 i2 i3 i4 v3 i6 i7 i8 t0)))))))) :
    L_X12_endsBy_91 G fr n0 tl K S i1 i2 i3 i4 i5 i6 i7 i8 t0 := by
  unfold L_X12_endsBy_91
  iterate 4 refine ws_b rfl ?_
  refine ws_g rfl h.1 ?_
  replace h := h.2
  refine ws_b rfl ?_
  refine wp_cS rfl rfl o_X12_isOf s_X12_isOf h rfl rfl (Nat.le_of_ble_eq_true rfl) (by decide) ?_
  clear h
  rintro r9 h9 ⟨v1, S1, rfl, rfl, h⟩
  refine ws_b rfl ?_
  refine wp_ite (fun q => ?_) (fun q => ?_)
  · replace h := h.1 q
    exact wp_weak (wk_s (wk_s (wk_s (wk_s (wk_s (wk_s (wk_s (wk_s (wk_s (wk_s wk_0)))))))))) h
  · replace h := h.2 q
    iterate 10 refine ws_b rfl ?_
    refine wp_cS rfl rfl o_X12_stateOf s_X12_stateOf h rfl rfl (Nat.le_of_ble_eq_true rfl) (by decide) ?_
    clear h
    rintro r9 h9 ⟨v2, S2, rfl, rfl, h⟩
    refine ws_g rfl h.1 ?_
    replace h := h.2
    refine wp_cS rfl rfl o_X12_better s_X12_better h rfl rfl (Nat.le_of_ble_eq_true rfl) (by decide) ?_
    clear h
    rintro r9 h9 ⟨v3, S3, rfl, rfl, h⟩
    refine ws_b rfl ?_
    exact wp_weak (wk_s (wk_s (wk_s (wk_s (wk_s (wk_s (wk_s (wk_s (wk_s (wk_s wk_0)))))))))) h
set_option maxRecDepth 100000 in
set_option maxHeartbeats 4000000 in
theorem b_X12_endsBy_132 {G : ab_G} {fr : Bool} {n0 : Nat} {tl : ab_H} {K : Int32 → ms_S → Prop} {S : ms_S} {i1 : Int32} {i2 : Int32} {i3 : Int32} {i4 : Int32} {i5 : Int32} {i6 : Int32} {i7 : Int32} {i8 : Int32} {i9 : Int32}
    (h : vp_in i9 7 ∧ (ctI G 1 M_X12_isOf fr [.int (S.2.2.2.1 31 i9.toNatClampNeg), .int i3] lM S tl (fun v1 S1 => (v1 = 0 → (L_X12_endsBy_171 G fr n0 tl K S1 i1 i2 i3 i4 i5 i6 i7)) ∧ (¬ v1 = 0 → (ctI G 1 M_X12_stateOf fr [.int (i2 ||| ((nI 1) <<< (i6 &&& 31))), .int i8, .int i4] lM S1 tl (fun v2 S2 => vp_in v2 25088 ∧ (ctI G 1 M_X12_better fr [.int i5, .int (S2.2.2.2.1 36 v2.toNatClampNeg)] lM S2 tl (fun v3 S3 => L_X12_endsBy_171 G fr n0 tl K S3 i1 i2 i3 i4 v3 i6 i7)))))))) :
    L_X12_endsBy_132 G fr n0 tl K S i1 i2 i3 i4 i5 i6 i7 i8 i9 := by
  unfold L_X12_endsBy_132
  iterate 3 refine ws_b rfl ?_
  refine ws_g rfl h.1 ?_
  replace h := h.2
  refine ws_b rfl ?_
  refine wp_cS rfl rfl o_X12_isOf s_X12_isOf h rfl rfl (Nat.le_of_ble_eq_true rfl) (by decide) ?_
  clear h
  rintro r9 h9 ⟨v1, S1, rfl, rfl, h⟩
  refine ws_b rfl ?_
  refine wp_ite (fun q => ?_) (fun q => ?_)
  · replace h := h.1 q
    exact wp_weak (wk_s (wk_s (wk_s (wk_s (wk_s (wk_s (wk_s (wk_s (wk_n (wk_n wk_0)))))))))) h
  · replace h := h.2 q
    iterate 10 refine ws_b rfl ?_
    refine wp_cS rfl rfl o_X12_stateOf s_X12_stateOf h rfl rfl (Nat.le_of_ble_eq_true rfl) (by decide) ?_
    clear h
    rintro r9 h9 ⟨v2, S2, rfl, rfl, h⟩
    refine ws_g rfl h.1 ?_
    replace h := h.2
    refine wp_cS rfl rfl o_X12_better s_X12_better h rfl rfl (Nat.le_of_ble_eq_true rfl) (by decide) ?_
    clear h
    rintro r9 h9 ⟨v3, S3, rfl, rfl, h⟩
    refine ws_b rfl ?_
    exact wp_weak (wk_s (wk_s (wk_s (wk_s (wk_s (wk_s (wk_s (wk_s (wk_n (wk_n wk_0)))))))))) h
set_option maxRecDepth 100000 in
set_option maxHeartbeats 4000000 in
theorem b_X12_endsBy_171 {G : ab_G} {fr : Bool} {n0 : Nat} {tl : ab_H} {K : Int32 → ms_S → Prop} {S : ms_S} {i1 : Int32} {i2 : Int32} {i3 : Int32} {i4 : Int32} {i5 : Int32} {i6 : Int32} {i7 : Int32}
    (h : L_X12_endsBy_39 G fr n0 tl K S i1 i2 i3 i4 i5 i6 (i7 + nI 1)) :
    L_X12_endsBy_171 G fr n0 tl K S i1 i2 i3 i4 i5 i6 i7 := by
  unfold L_X12_endsBy_171
  iterate 2 refine ws_b rfl ?_
  exact wp_weak (wk_s (wk_s (wk_s (wk_s (wk_s (wk_s (wk_s (wk_s (wk_s (wk_s wk_0)))))))))) h
set_option maxRecDepth 100000 in
set_option maxHeartbeats 4000000 in
theorem b_X12_endsBy_177 {G : ab_G} {fr : Bool} {n0 : Nat} {tl : ab_H} {K : Int32 → ms_S → Prop} {S : ms_S} {i1 : Int32} {i2 : Int32} {i3 : Int32} {i4 : Int32} {i5 : Int32} {i6 : Int32}
    (h : L_X12_endsBy_6 G fr n0 tl K S i1 i2 i3 i4 i5 (i6 + nI 1)) :
    L_X12_endsBy_177 G fr n0 tl K S i1 i2 i3 i4 i5 i6 := by
  unfold L_X12_endsBy_177
  iterate 2 refine ws_b rfl ?_
  exact wp_weak (wk_s (wk_s (wk_s (wk_s (wk_s (wk_s (wk_s (wk_s (wk_s (wk_s wk_0)))))))))) h
set_option maxRecDepth 100000 in
set_option maxHeartbeats 4000000 in
theorem b_X12_endsBy_194 {G : ab_G} {fr : Bool} {n0 : Nat} {tl : ab_H} {K : Int32 → ms_S → Prop} {S : ms_S} {t0 : Int32}
    (h : K t0 S) :
    L_X12_endsBy_194 G fr n0 tl K S t0 := by
  unfold L_X12_endsBy_194
  exact wp_ri rfl rfl rfl ⟨_, _, rfl, rfl, h⟩
set_option maxRecDepth 100000 in
set_option maxHeartbeats 4000000 in
theorem m_X12_endsBy {G : ab_G} {fr : Bool} {tl : ab_H} {K : Int32 → ms_S → Prop} {S : ms_S} {i1 : Int32} {i2 : Int32} {i3 : Int32} {i4 : Int32}
    (h : ∀ n0 : Nat, L_X12_endsBy_6 G fr n0 tl K S i1 i2 i3 i4 (nI 0) (nI 0)) :
    ctI G 2 M_X12_endsBy fr [.ref 0, .int i1, .int i2, .int i3, .int i4] lM S tl K := by
  refine wp_ct o_X12_endsBy (Nat.le_of_ble_eq_true rfl) ?_
  replace h := h (hLy lM S tl).length
  revert h
  generalize (hLy lM S tl).length = n0
  intro h
  iterate 4 refine ws_b rfl ?_
  exact wp_weak (wk_s (wk_s (wk_s (wk_s (wk_s (wk_s (wk_s (wk_s (wk_s (wk_s wk_0)))))))))) h
def L_X12_layGame_14 (G : ab_G) (fr : Bool) (n0 : Nat) (tl : ab_H) (K : ms_S → Prop) (S : ms_S) (i1 : Int32) (i2 : Int32) (i3 : Int32) (i4 : Int32) : Prop := wp G 5 M_X12_layGame fr n0 (poU lM tl K) 14 [some (.ref 0), some (.int i1), some (.int i2), some (.int i3), some (.int i4), none, none, none] [] (hLy lM S tl)
def L_X12_layGame_51 (G : ab_G) (fr : Bool) (n0 : Nat) (tl : ab_H) (K : ms_S → Prop) (S : ms_S) (i1 : Int32) (i2 : Int32) (i3 : Int32) (i4 : Int32) (i5 : Int32) (i6 : Int32) : Prop := wp G 5 M_X12_layGame fr n0 (poU lM tl K) 51 [some (.ref 0), some (.int i1), some (.int i2), some (.int i3), some (.int i4), some (.int i5), some (.int i6), none] [] (hLy lM S tl)
def L_X12_layGame_61 (G : ab_G) (fr : Bool) (n0 : Nat) (tl : ab_H) (K : ms_S → Prop) (S : ms_S) (i1 : Int32) (i2 : Int32) (i3 : Int32) (i4 : Int32) (i5 : Int32) (i6 : Int32) (i7 : Int32) : Prop := wp G 5 M_X12_layGame fr n0 (poU lM tl K) 61 [some (.ref 0), some (.int i1), some (.int i2), some (.int i3), some (.int i4), some (.int i5), some (.int i6), some (.int i7)] [] (hLy lM S tl)
set_option maxRecDepth 100000 in
set_option maxHeartbeats 4000000 in
theorem b_X12_layGame_14 {G : ab_G} {fr : Bool} {n0 : Nat} {tl : ab_H} {K : ms_S → Prop} {S : ms_S} {i1 : Int32} {i2 : Int32} {i3 : Int32} {i4 : Int32}
    (h : (i4 ≤ 0 → (K S)) ∧ (¬ i4 ≤ 0 → (((i4 &&& (i3 ^^^ (-(nI 1)))) = 0 → (ctI G 1 M_X12_manyOf fr [.int i4] lM S tl (fun v1 S1 => ¬ (nI 2) = 0 ∧ (((v1 - v1 / (nI 2) * (nI 2)) = 0 → (L_X12_layGame_51 G fr n0 tl K S1 i1 i2 i3 i4 i1 (nI 0))) ∧ (¬ (v1 - v1 / (nI 2) * (nI 2)) = 0 → (L_X12_layGame_51 G fr n0 tl K S1 i1 i2 i3 i4 i2 (nI 0))))))) ∧ (¬ (i4 &&& (i3 ^^^ (-(nI 1)))) = 0 → (L_X12_layGame_14 G fr n0 tl K S i1 i2 i3 (i4 + -(nI 1))))))) :
    L_X12_layGame_14 G fr n0 tl K S i1 i2 i3 i4 := by
  unfold L_X12_layGame_14
  iterate 2 refine ws_b rfl ?_
  refine wp_ite (fun q => ?_) (fun q => ?_)
  · replace h := h.1 q
    exact wp_rv rfl rfl ⟨_, rfl, rfl, h⟩
  · replace h := h.2 q
    iterate 6 refine ws_b rfl ?_
    refine wp_ite (fun q => ?_) (fun q => ?_)
    · replace h := h.1 q
      refine ws_b rfl ?_
      refine wp_cS rfl rfl o_X12_manyOf s_X12_manyOf h rfl rfl (Nat.le_of_ble_eq_true rfl) (by decide) ?_
      clear h
      rintro r9 h9 ⟨v1, S1, rfl, rfl, h⟩
      refine ws_b rfl ?_
      refine ws_g rfl h.1 ?_
      replace h := h.2
      refine ws_b rfl ?_
      refine wp_ite (fun q => ?_) (fun q => ?_)
      · replace h := h.1 q
        iterate 5 refine ws_b rfl ?_
        exact wp_weak (wk_s (wk_s (wk_s (wk_s (wk_s (wk_s (wk_s (wk_s wk_0)))))))) h
      · replace h := h.2 q
        iterate 4 refine ws_b rfl ?_
        exact wp_weak (wk_s (wk_s (wk_s (wk_s (wk_s (wk_s (wk_s (wk_s wk_0)))))))) h
    · replace h := h.2 q
      iterate 3 refine ws_b rfl ?_
      exact wp_weak (wk_s (wk_s (wk_s (wk_s (wk_s (wk_s (wk_s (wk_s wk_0)))))))) h
set_option maxRecDepth 100000 in
set_option maxHeartbeats 4000000 in
theorem b_X12_layGame_51 {G : ab_G} {fr : Bool} {n0 : Nat} {tl : ab_H} {K : ms_S → Prop} {S : ms_S} {i1 : Int32} {i2 : Int32} {i3 : Int32} {i4 : Int32} {i5 : Int32} {i6 : Int32}
    (h : ((nI 7) ≤ i6 → (L_X12_layGame_14 G fr n0 tl K S i1 i2 i3 (i4 + -(nI 1)))) ∧ (¬ (nI 7) ≤ i6 → (L_X12_layGame_61 G fr n0 tl K S i1 i2 i3 i4 i5 i6 (nI 0)))) :
    L_X12_layGame_51 G fr n0 tl K S i1 i2 i3 i4 i5 i6 := by
  unfold L_X12_layGame_51
  iterate 3 refine ws_b rfl ?_
  refine wp_ite (fun q => ?_) (fun q => ?_)
  · replace h := h.1 q
    iterate 2 refine ws_b rfl ?_
    exact wp_weak (wk_s (wk_s (wk_s (wk_s (wk_s (wk_n (wk_n (wk_s wk_0)))))))) h
  · replace h := h.2 q
    iterate 2 refine ws_b rfl ?_
    exact wp_weak (wk_s (wk_s (wk_s (wk_s (wk_s (wk_s (wk_s (wk_s wk_0)))))))) h
set_option maxRecDepth 100000 in
set_option maxHeartbeats 4000000 in
theorem b_X12_layGame_61 {G : ab_G} {fr : Bool} {n0 : Nat} {tl : ab_H} {K : ms_S → Prop} {S : ms_S} {i1 : Int32} {i2 : Int32} {i3 : Int32} {i4 : Int32} {i5 : Int32} {i6 : Int32} {i7 : Int32}
    (h : ((nI 7) ≤ i7 → (L_X12_layGame_51 G fr n0 tl K S i1 i2 i3 i4 i5 (i6 + nI 1))) ∧ (¬ (nI 7) ≤ i7 → (ctI G 1 M_X12_stateOf fr [.int i4, .int i6, .int i7] lM S tl (fun v1 S1 => ctI G 2 M_X12_endsBy fr [.ref 0, .int i5, .int i4, .int i6, .int i7] lM S1 tl (fun v2 S2 => vp_in v1 25088 ∧ (L_X12_layGame_61 G fr n0 tl K (sA S2 36 v1.toNatClampNeg v2) i1 i2 i3 i4 i5 i6 (i7 + nI 1))))))) :
    L_X12_layGame_61 G fr n0 tl K S i1 i2 i3 i4 i5 i6 i7 := by
  unfold L_X12_layGame_61
  iterate 3 refine ws_b rfl ?_
  refine wp_ite (fun q => ?_) (fun q => ?_)
  · replace h := h.1 q
    iterate 2 refine ws_b rfl ?_
    exact wp_weak (wk_s (wk_s (wk_s (wk_s (wk_s (wk_s (wk_s (wk_n wk_0)))))))) h
  · replace h := h.2 q
    iterate 5 refine ws_b rfl ?_
    refine wp_cS rfl rfl o_X12_stateOf s_X12_stateOf h rfl rfl (Nat.le_of_ble_eq_true rfl) (by decide) ?_
    clear h
    rintro r9 h9 ⟨v1, S1, rfl, rfl, h⟩
    iterate 5 refine ws_b rfl ?_
    refine wp_cV rfl rfl o_X12_endsBy v_X12_endsBy h rfl rfl rfl (Nat.le_of_ble_eq_true rfl) (by decide) ?_
    clear h
    rintro r9 h9 ⟨v2, S2, rfl, rfl, h⟩
    refine ws_g rfl h.1 ?_
    replace h := h.2
    iterate 2 refine ws_b rfl ?_
    exact wp_weak (wk_s (wk_s (wk_s (wk_s (wk_s (wk_s (wk_s (wk_s wk_0)))))))) h
set_option maxRecDepth 100000 in
set_option maxHeartbeats 4000000 in
theorem m_X12_layGame {G : ab_G} {fr : Bool} {tl : ab_H} {K : ms_S → Prop} {S : ms_S} {i1 : Int32} {i2 : Int32}
    (h : ∀ n0 : Nat, ctU G 4 M_X12_layJoins fr [.ref 0, .int (nI 0)] lM S tl (fun S1 => L_X12_layGame_14 G fr n0 tl K S1 i1 i2 (i1 ||| i2) (nI 511))) :
    ctU G 5 M_X12_layGame fr [.ref 0, .int i1, .int i2] lM S tl K := by
  refine wp_ct o_X12_layGame (Nat.le_of_ble_eq_true rfl) ?_
  replace h := h (hLy lM S tl).length
  revert h
  generalize (hLy lM S tl).length = n0
  intro h
  iterate 2 refine ws_b rfl ?_
  refine wp_cV rfl rfl o_X12_layJoins v_X12_layJoins h rfl rfl rfl (Nat.le_of_ble_eq_true rfl) (by decide) ?_
  clear h
  rintro r9 h9 ⟨S1, rfl, rfl, h⟩
  iterate 6 refine ws_b rfl ?_
  exact wp_weak (wk_s (wk_s (wk_s (wk_s (wk_s (wk_s (wk_s (wk_s wk_0)))))))) h
def L_X12_game_71 (G : ab_G) (fr : Bool) (n0 : Nat) (tl : ab_H) (K : Int32 → ms_S → Prop) (S : ms_S) (i3 : Int32) (i4 : Int32) (i5 : Int32) (i6 : Int32) (i7 : Int32) : Prop := wp G 6 M_X12_game fr n0 (poI lM tl K) 71 [some (.ref 0), none, none, some (.int i3), some (.int i4), some (.int i5), some (.int i6), some (.int i7), none] [] (hLy lM S tl)
set_option maxRecDepth 100000 in
set_option maxHeartbeats 4000000 in
theorem b_X12_game_71 {G : ab_G} {fr : Bool} {n0 : Nat} {tl : ab_H} {K : Int32 → ms_S → Prop} {S : ms_S} {i3 : Int32} {i4 : Int32} {i5 : Int32} {i6 : Int32} {i7 : Int32}
    (h : ((S.1 0 12) ≤ i7 → ((i3 = (nI 2) → (K i6 S)) ∧ (¬ i3 = (nI 2) → ((i3 = 0 → ((i5 ≤ 0 → (K (nI 1) S)) ∧ (¬ i5 ≤ 0 → (K (nI 0) S)))) ∧ (¬ i3 = 0 → ((i5 = 0 → (K (nI 0) S)) ∧ (¬ i5 = 0 → ((i5 ≤ 0 → (K ((-i5) - (nI 1)) S)) ∧ (¬ i5 ≤ 0 → (K (i5 - (nI 1)) S)))))))))) ∧ (¬ (S.1 0 12) ≤ i7 → (ctI G 1 M_X12_isOf fr [.int i4, .int i7] lM S tl (fun v1 S1 => (v1 = 0 → (L_X12_game_71 G fr n0 tl K S1 i3 i4 i5 i6 (i7 + nI 1))) ∧ (¬ v1 = 0 → (vp_in i7 18 ∧ (vp_in i7 18 ∧ (ctI G 1 M_X12_stateOf fr [.int ((nI 1) <<< (i7 &&& 31)), .int (S1.2.2.2.1 6 i7.toNatClampNeg), .int (S1.2.2.2.1 7 i7.toNatClampNeg)] lM S1 tl (fun v2 S2 => vp_in v2 25088 ∧ (ctI G 1 M_X12_better fr [.int i5, .int (S2.2.2.2.1 36 v2.toNatClampNeg)] lM S2 tl (fun v3 S3 => vp_in i7 18 ∧ (vp_in i7 18 ∧ (ctI G 1 M_X12_stateOf fr [.int ((nI 1) <<< (i7 &&& 31)), .int (S3.2.2.2.1 7 i7.toNatClampNeg), .int (S3.2.2.2.1 6 i7.toNatClampNeg)] lM S3 tl (fun v4 S4 => vp_in v4 25088 ∧ (ctI G 1 M_X12_better fr [.int v3, .int (S4.2.2.2.1 36 v4.toNatClampNeg)] lM S4 tl (fun v5 S5 => (v5 = i5 → (L_X12_game_71 G fr n0 tl K S5 i3 i4 v5 i6 (i7 + nI 1))) ∧ (¬ v5 = i5 → (L_X12_game_71 G fr n0 tl K S5 i3 i4 v5 i7 (i7 + nI 1))))))))))))))))))) :
    L_X12_game_71 G fr n0 tl K S i3 i4 i5 i6 i7 := by
  unfold L_X12_game_71
  iterate 4 refine ws_b rfl ?_
  refine wp_ite (fun q => ?_) (fun q => ?_)
  · replace h := h.1 q
    iterate 3 refine ws_b rfl ?_
    refine wp_ite (fun q => ?_) (fun q => ?_)
    · replace h := h.1 q
      refine ws_b rfl ?_
      exact wp_ri rfl rfl rfl ⟨_, _, rfl, rfl, h⟩
    · replace h := h.2 q
      iterate 2 refine ws_b rfl ?_
      refine wp_ite (fun q => ?_) (fun q => ?_)
      · replace h := h.1 q
        iterate 2 refine ws_b rfl ?_
        refine wp_ite (fun q => ?_) (fun q => ?_)
        · replace h := h.1 q
          refine ws_b rfl ?_
          exact wp_ri rfl rfl rfl ⟨_, _, rfl, rfl, h⟩
        · replace h := h.2 q
          iterate 2 refine ws_b rfl ?_
          exact wp_ri rfl rfl rfl ⟨_, _, rfl, rfl, h⟩
      · replace h := h.2 q
        iterate 2 refine ws_b rfl ?_
        refine wp_ite (fun q => ?_) (fun q => ?_)
        · replace h := h.1 q
          iterate 2 refine ws_b rfl ?_
          exact wp_ri rfl rfl rfl ⟨_, _, rfl, rfl, h⟩
        · replace h := h.2 q
          iterate 2 refine ws_b rfl ?_
          refine wp_ite (fun q => ?_) (fun q => ?_)
          · replace h := h.1 q
            iterate 4 refine ws_b rfl ?_
            exact wp_ri rfl rfl rfl ⟨_, _, rfl, rfl, h⟩
          · replace h := h.2 q
            iterate 4 refine ws_b rfl ?_
            exact wp_ri rfl rfl rfl ⟨_, _, rfl, rfl, h⟩
  · replace h := h.2 q
    iterate 2 refine ws_b rfl ?_
    refine wp_cS rfl rfl o_X12_isOf s_X12_isOf h rfl rfl (Nat.le_of_ble_eq_true rfl) (by decide) ?_
    clear h
    rintro r9 h9 ⟨v1, S1, rfl, rfl, h⟩
    refine ws_b rfl ?_
    refine wp_ite (fun q => ?_) (fun q => ?_)
    · replace h := h.1 q
      iterate 3 refine ws_b rfl ?_
      exact wp_weak (wk_s (wk_s (wk_s (wk_s (wk_s (wk_s (wk_s (wk_s (wk_s wk_0))))))))) h
    · replace h := h.2 q
      iterate 9 refine ws_b rfl ?_
      refine ws_g rfl h.1 ?_
      replace h := h.2
      iterate 3 refine ws_b rfl ?_
      refine ws_g rfl h.1 ?_
      replace h := h.2
      refine wp_cS rfl rfl o_X12_stateOf s_X12_stateOf h rfl rfl (Nat.le_of_ble_eq_true rfl) (by decide) ?_
      clear h
      rintro r9 h9 ⟨v2, S2, rfl, rfl, h⟩
      refine ws_g rfl h.1 ?_
      replace h := h.2
      refine wp_cS rfl rfl o_X12_better s_X12_better h rfl rfl (Nat.le_of_ble_eq_true rfl) (by decide) ?_
      clear h
      rintro r9 h9 ⟨v3, S3, rfl, rfl, h⟩
      iterate 10 refine ws_b rfl ?_
      refine ws_g rfl h.1 ?_
      replace h := h.2
      iterate 3 refine ws_b rfl ?_
      refine ws_g rfl h.1 ?_
      replace h := h.2
      refine wp_cS rfl rfl o_X12_stateOf s_X12_stateOf h rfl rfl (Nat.le_of_ble_eq_true rfl) (by decide) ?_
      clear h
      rintro r9 h9 ⟨v4, S4, rfl, rfl, h⟩
      refine ws_g rfl h.1 ?_
      replace h := h.2
      refine wp_cS rfl rfl o_X12_better s_X12_better h rfl rfl (Nat.le_of_ble_eq_true rfl) (by decide) ?_
      clear h
      rintro r9 h9 ⟨v5, S5, rfl, rfl, h⟩
      iterate 4 refine ws_b rfl ?_
      refine wp_ite (fun q => ?_) (fun q => ?_)
      · replace h := h.1 q
        iterate 4 refine ws_b rfl ?_
        exact wp_weak (wk_s (wk_s (wk_s (wk_s (wk_s (wk_s (wk_s (wk_s (wk_n wk_0))))))))) h
      · replace h := h.2 q
        iterate 6 refine ws_b rfl ?_
        exact wp_weak (wk_s (wk_s (wk_s (wk_s (wk_s (wk_s (wk_s (wk_s (wk_n wk_0))))))))) h
set_option maxRecDepth 100000 in
set_option maxHeartbeats 4000000 in
theorem m_X12_game {G : ab_G} {fr : Bool} {tl : ab_H} {K : Int32 → ms_S → Prop} {S : ms_S} {i1 : Int32} {i2 : Int32} {i3 : Int32}
    (h : ∀ n0 : Nat, ctI G 1 M_X12_isHeir fr [.ref 0, .int i1] lM (sV S 2 (nI 0)) tl (fun v1 S1 => (v1 = 0 → (K (-(nI 1)) S1)) ∧ (¬ v1 = 0 → (ctI G 1 M_X12_isHeir fr [.ref 0, .int i2] lM S1 tl (fun v2 S2 => (v2 = 0 → (K (-(nI 1)) S2)) ∧ (¬ v2 = 0 → ((i1 = i2 → (K (-(nI 1)) S2)) ∧ (¬ i1 = i2 → (ctI G 1 M_X12_isIn fr [.int i3, .int (nI 0), .int (nI 2)] lM S2 tl (fun v3 S3 => (v3 = 0 → (K (-(nI 1)) S3)) ∧ (¬ v3 = 0 → (ctU G 1 M_X12_plainTried fr [.ref 0] lM S3 tl (fun S4 => ctI G 1 M_X12_heldBy fr [.ref 0, .int (nI 0), .int i1] lM S4 tl (fun v5 S5 => ctI G 1 M_X12_heldBy fr [.ref 0, .int (nI 0), .int i2] lM S5 tl (fun v6 S6 => ctU G 5 M_X12_layGame fr [.ref 0, .int v5, .int v6] lM S6 tl (fun S7 => L_X12_game_71 G fr n0 tl K S7 i3 v5 (nI 0) (-(nI 2)) (nI 0))))))))))))))))) :
    ctI G 6 M_X12_game fr [.ref 0, .int i1, .int i2, .int i3] lM S tl K := by
  refine wp_ct o_X12_game (Nat.le_of_ble_eq_true rfl) ?_
  replace h := h (hLy lM S tl).length
  revert h
  generalize (hLy lM S tl).length = n0
  intro h
  iterate 5 refine ws_b rfl ?_
  refine wp_cV rfl rfl o_X12_isHeir v_X12_isHeir h rfl rfl rfl (Nat.le_of_ble_eq_true rfl) (by decide) ?_
  clear h
  rintro r9 h9 ⟨v1, S1, rfl, rfl, h⟩
  refine ws_b rfl ?_
  refine wp_ite (fun q => ?_) (fun q => ?_)
  · replace h := h.1 q
    refine ws_b rfl ?_
    exact wp_ri rfl rfl rfl ⟨_, _, rfl, rfl, h⟩
  · replace h := h.2 q
    iterate 2 refine ws_b rfl ?_
    refine wp_cV rfl rfl o_X12_isHeir v_X12_isHeir h rfl rfl rfl (Nat.le_of_ble_eq_true rfl) (by decide) ?_
    clear h
    rintro r9 h9 ⟨v2, S2, rfl, rfl, h⟩
    refine ws_b rfl ?_
    refine wp_ite (fun q => ?_) (fun q => ?_)
    · replace h := h.1 q
      refine ws_b rfl ?_
      exact wp_ri rfl rfl rfl ⟨_, _, rfl, rfl, h⟩
    · replace h := h.2 q
      iterate 3 refine ws_b rfl ?_
      refine wp_ite (fun q => ?_) (fun q => ?_)
      · replace h := h.1 q
        refine ws_b rfl ?_
        exact wp_ri rfl rfl rfl ⟨_, _, rfl, rfl, h⟩
      · replace h := h.2 q
        iterate 3 refine ws_b rfl ?_
        refine wp_cS rfl rfl o_X12_isIn s_X12_isIn h rfl rfl (Nat.le_of_ble_eq_true rfl) (by decide) ?_
        clear h
        rintro r9 h9 ⟨v3, S3, rfl, rfl, h⟩
        refine ws_b rfl ?_
        refine wp_ite (fun q => ?_) (fun q => ?_)
        · replace h := h.1 q
          refine ws_b rfl ?_
          exact wp_ri rfl rfl rfl ⟨_, _, rfl, rfl, h⟩
        · replace h := h.2 q
          refine ws_b rfl ?_
          refine wp_cV rfl rfl o_X12_plainTried v_X12_plainTried h rfl rfl rfl (Nat.le_of_ble_eq_true rfl) (by decide) ?_
          clear h
          rintro r9 h9 ⟨S4, rfl, rfl, h⟩
          iterate 3 refine ws_b rfl ?_
          refine wp_cV rfl rfl o_X12_heldBy v_X12_heldBy h rfl rfl rfl (Nat.le_of_ble_eq_true rfl) (by decide) ?_
          clear h
          rintro r9 h9 ⟨v5, S5, rfl, rfl, h⟩
          iterate 6 refine ws_b rfl ?_
          refine wp_cV rfl rfl o_X12_heldBy v_X12_heldBy h rfl rfl rfl (Nat.le_of_ble_eq_true rfl) (by decide) ?_
          clear h
          rintro r9 h9 ⟨v6, S6, rfl, rfl, h⟩
          refine wp_cV rfl rfl o_X12_layGame v_X12_layGame h rfl rfl rfl (Nat.le_of_ble_eq_true rfl) (by decide) ?_
          clear h
          rintro r9 h9 ⟨S7, rfl, rfl, h⟩
          iterate 6 refine ws_b rfl ?_
          exact wp_weak (wk_s (wk_n (wk_n (wk_s (wk_s (wk_s (wk_s (wk_s (wk_s wk_0))))))))) h
def L_X12_common_4 (G : ab_G) (fr : Bool) (n0 : Nat) (tl : ab_H) (K : Int32 → ms_S → Prop) (S : ms_S) (i2 : Int32) (i3 : Int32) : Prop := wp G 1 M_X12_common fr n0 (poI lM tl K) 4 [none, none, some (.int i2), some (.int i3), none] [] (hLy lM S tl)
set_option maxRecDepth 100000 in
set_option maxHeartbeats 4000000 in
theorem b_X12_common_4 {G : ab_G} {fr : Bool} {n0 : Nat} {tl : ab_H} {K : Int32 → ms_S → Prop} {S : ms_S} {i2 : Int32} {i3 : Int32}
    (h : (i3 = 0 → (K i2 S)) ∧ (¬ i3 = 0 → (¬ i3 = 0 ∧ (L_X12_common_4 G fr n0 tl K S i3 (i2 - i2 / i3 * i3))))) :
    L_X12_common_4 G fr n0 tl K S i2 i3 := by
  unfold L_X12_common_4
  iterate 2 refine ws_b rfl ?_
  refine wp_ite (fun q => ?_) (fun q => ?_)
  · replace h := h.1 q
    refine ws_b rfl ?_
    exact wp_ri rfl rfl rfl ⟨_, _, rfl, rfl, h⟩
  · replace h := h.2 q
    iterate 2 refine ws_b rfl ?_
    refine ws_g rfl h.1 ?_
    replace h := h.2
    iterate 6 refine ws_b rfl ?_
    exact wp_weak (wk_s (wk_s (wk_s (wk_s (wk_n wk_0))))) h
set_option maxRecDepth 100000 in
set_option maxHeartbeats 4000000 in
theorem m_X12_common {G : ab_G} {fr : Bool} {tl : ab_H} {K : Int32 → ms_S → Prop} {S : ms_S} {i0 : Int32} {i1 : Int32}
    (h : ∀ n0 : Nat, L_X12_common_4 G fr n0 tl K S i0 i1) :
    ctI G 1 M_X12_common fr [.int i0, .int i1] lM S tl K := by
  refine wp_ct o_X12_common (Nat.le_of_ble_eq_true rfl) ?_
  replace h := h (hLy lM S tl).length
  revert h
  generalize (hLy lM S tl).length = n0
  intro h
  iterate 4 refine ws_b rfl ?_
  exact wp_weak (wk_n (wk_n (wk_s (wk_s (wk_s wk_0))))) h
def L_X12_likely_81 (G : ab_G) (fr : Bool) (n0 : Nat) (tl : ab_H) (K : Int32 → ms_S → Prop) (S : ms_S) (i2 : Int32) (i3 : Int32) (i4 : Int32) (i5 : Int32) (i6 : Int32) (i7 : Int32) (i8 : Int32) : Prop := wp G 6 M_X12_likely fr n0 (poI lM tl K) 81 [some (.ref 0), none, some (.int i2), some (.int i3), some (.int i4), some (.int i5), some (.int i6), some (.int i7), some (.int i8)] [] (hLy lM S tl)
set_option maxRecDepth 100000 in
set_option maxHeartbeats 4000000 in
theorem b_X12_likely_81 {G : ab_G} {fr : Bool} {n0 : Nat} {tl : ab_H} {K : Int32 → ms_S → Prop} {S : ms_S} {i2 : Int32} {i3 : Int32} {i4 : Int32} {i5 : Int32} {i6 : Int32} {i7 : Int32} {i8 : Int32}
    (h : ((nI 512) ≤ i8 → (ctI G 1 M_X12_common fr [.int i7, .int i6] lM S tl (fun v1 S1 => (i3 = 0 → (¬ v1 = 0 ∧ (K (i6 / v1) S1))) ∧ (¬ i3 = 0 → (¬ v1 = 0 ∧ (K (i7 / v1) S1)))))) ∧ (¬ (nI 512) ≤ i8 → (((i8 &&& (i4 ^^^ (-(nI 1)))) = 0 → (ctI G 1 M_X12_manyOf fr [.int i8] lM S tl (fun v2 S2 => (v2 = i2 → (ctI G 1 M_X12_isRow fr [.ref 0, .int (i5 ||| i8)] lM S2 tl (fun v3 S3 => (v3 = 0 → (L_X12_likely_81 G fr n0 tl K S3 i2 i3 i4 i5 (i6 + (nI 0)) (i7 + nI 1) (i8 + nI 1))) ∧ (¬ v3 = 0 → (L_X12_likely_81 G fr n0 tl K S3 i2 i3 i4 i5 (i6 + (nI 1)) (i7 + nI 1) (i8 + nI 1)))))) ∧ (¬ v2 = i2 → (L_X12_likely_81 G fr n0 tl K S2 i2 i3 i4 i5 i6 i7 (i8 + nI 1)))))) ∧ (¬ (i8 &&& (i4 ^^^ (-(nI 1)))) = 0 → (L_X12_likely_81 G fr n0 tl K S i2 i3 i4 i5 i6 i7 (i8 + nI 1)))))) :
    L_X12_likely_81 G fr n0 tl K S i2 i3 i4 i5 i6 i7 i8 := by
  unfold L_X12_likely_81
  iterate 3 refine ws_b rfl ?_
  refine wp_ite (fun q => ?_) (fun q => ?_)
  · replace h := h.1 q
    iterate 2 refine ws_b rfl ?_
    refine wp_cS rfl rfl o_X12_common s_X12_common h rfl rfl (Nat.le_of_ble_eq_true rfl) (by decide) ?_
    clear h
    rintro r9 h9 ⟨v1, S1, rfl, rfl, h⟩
    iterate 3 refine ws_b rfl ?_
    refine wp_ite (fun q => ?_) (fun q => ?_)
    · replace h := h.1 q
      iterate 2 refine ws_b rfl ?_
      refine ws_g rfl h.1 ?_
      replace h := h.2
      refine ws_b rfl ?_
      exact wp_ri rfl rfl rfl ⟨_, _, rfl, rfl, h⟩
    · replace h := h.2 q
      iterate 2 refine ws_b rfl ?_
      refine ws_g rfl h.1 ?_
      replace h := h.2
      exact wp_ri rfl rfl rfl ⟨_, _, rfl, rfl, h⟩
  · replace h := h.2 q
    iterate 6 refine ws_b rfl ?_
    refine wp_ite (fun q => ?_) (fun q => ?_)
    · replace h := h.1 q
      refine ws_b rfl ?_
      refine wp_cS rfl rfl o_X12_manyOf s_X12_manyOf h rfl rfl (Nat.le_of_ble_eq_true rfl) (by decide) ?_
      clear h
      rintro r9 h9 ⟨v2, S2, rfl, rfl, h⟩
      iterate 2 refine ws_b rfl ?_
      refine wp_ite (fun q => ?_) (fun q => ?_)
      · replace h := h.1 q
        iterate 6 refine ws_b rfl ?_
        refine wp_cV rfl rfl o_X12_isRow v_X12_isRow h rfl rfl rfl (Nat.le_of_ble_eq_true rfl) (by decide) ?_
        clear h
        rintro r9 h9 ⟨v3, S3, rfl, rfl, h⟩
        refine ws_b rfl ?_
        refine wp_ite (fun q => ?_) (fun q => ?_)
        · replace h := h.1 q
          iterate 5 refine ws_b rfl ?_
          exact wp_weak (wk_s (wk_s (wk_s (wk_s (wk_s (wk_s (wk_s (wk_s (wk_s wk_0))))))))) h
        · replace h := h.2 q
          iterate 6 refine ws_b rfl ?_
          exact wp_weak (wk_s (wk_s (wk_s (wk_s (wk_s (wk_s (wk_s (wk_s (wk_s wk_0))))))))) h
      · replace h := h.2 q
        iterate 3 refine ws_b rfl ?_
        exact wp_weak (wk_s (wk_s (wk_s (wk_s (wk_s (wk_s (wk_s (wk_s (wk_s wk_0))))))))) h
    · replace h := h.2 q
      iterate 2 refine ws_b rfl ?_
      exact wp_weak (wk_s (wk_s (wk_s (wk_s (wk_s (wk_s (wk_s (wk_s (wk_s wk_0))))))))) h
set_option maxRecDepth 100000 in
set_option maxHeartbeats 4000000 in
theorem m_X12_likely {G : ab_G} {fr : Bool} {tl : ab_H} {K : Int32 → ms_S → Prop} {S : ms_S} {i1 : Int32} {i2 : Int32} {i3 : Int32}
    (h : ∀ n0 : Nat, ctI G 1 M_X12_isHeir fr [.ref 0, .int i1] lM (sV S 2 (nI 0)) tl (fun v1 S1 => (v1 = 0 → (K (-(nI 1)) S1)) ∧ (¬ v1 = 0 → (ctI G 1 M_X12_isIn fr [.int i2, .int (nI 0), .int (nI 9)] lM S1 tl (fun v2 S2 => (v2 = 0 → (K (-(nI 1)) S2)) ∧ (¬ v2 = 0 → (ctI G 1 M_X12_isIn fr [.int i3, .int (nI 0), .int (nI 1)] lM S2 tl (fun v3 S3 => (v3 = 0 → (K (-(nI 1)) S3)) ∧ (¬ v3 = 0 → (ctU G 1 M_X12_plainTried fr [.ref 0] lM S3 tl (fun S4 => ctU G 5 M_X12_layRows fr [.ref 0, .int (nI 0)] lM S4 tl (fun S5 => ctI G 1 M_X12_heldBy fr [.ref 0, .int (nI 0), .int (-(nI 2))] lM S5 tl (fun v6 S6 => ctI G 1 M_X12_manyOf fr [.int v6] lM S6 tl (fun v7 S7 => (i2 ≤ v7 → (ctI G 1 M_X12_heldBy fr [.ref 0, .int (nI 0), .int i1] lM S7 tl (fun v8 S8 => L_X12_likely_81 G fr n0 tl K S8 i2 i3 v6 v8 (nI 0) (nI 0) (nI 0)))) ∧ (¬ i2 ≤ v7 → (K (-(nI 2)) S7)))))))))))))))) :
    ctI G 6 M_X12_likely fr [.ref 0, .int i1, .int i2, .int i3] lM S tl K := by
  refine wp_ct o_X12_likely (Nat.le_of_ble_eq_true rfl) ?_
  replace h := h (hLy lM S tl).length
  revert h
  generalize (hLy lM S tl).length = n0
  intro h
  iterate 5 refine ws_b rfl ?_
  refine wp_cV rfl rfl o_X12_isHeir v_X12_isHeir h rfl rfl rfl (Nat.le_of_ble_eq_true rfl) (by decide) ?_
  clear h
  rintro r9 h9 ⟨v1, S1, rfl, rfl, h⟩
  refine ws_b rfl ?_
  refine wp_ite (fun q => ?_) (fun q => ?_)
  · replace h := h.1 q
    refine ws_b rfl ?_
    exact wp_ri rfl rfl rfl ⟨_, _, rfl, rfl, h⟩
  · replace h := h.2 q
    iterate 3 refine ws_b rfl ?_
    refine wp_cS rfl rfl o_X12_isIn s_X12_isIn h rfl rfl (Nat.le_of_ble_eq_true rfl) (by decide) ?_
    clear h
    rintro r9 h9 ⟨v2, S2, rfl, rfl, h⟩
    refine ws_b rfl ?_
    refine wp_ite (fun q => ?_) (fun q => ?_)
    · replace h := h.1 q
      refine ws_b rfl ?_
      exact wp_ri rfl rfl rfl ⟨_, _, rfl, rfl, h⟩
    · replace h := h.2 q
      iterate 3 refine ws_b rfl ?_
      refine wp_cS rfl rfl o_X12_isIn s_X12_isIn h rfl rfl (Nat.le_of_ble_eq_true rfl) (by decide) ?_
      clear h
      rintro r9 h9 ⟨v3, S3, rfl, rfl, h⟩
      refine ws_b rfl ?_
      refine wp_ite (fun q => ?_) (fun q => ?_)
      · replace h := h.1 q
        refine ws_b rfl ?_
        exact wp_ri rfl rfl rfl ⟨_, _, rfl, rfl, h⟩
      · replace h := h.2 q
        refine ws_b rfl ?_
        refine wp_cV rfl rfl o_X12_plainTried v_X12_plainTried h rfl rfl rfl (Nat.le_of_ble_eq_true rfl) (by decide) ?_
        clear h
        rintro r9 h9 ⟨S4, rfl, rfl, h⟩
        iterate 2 refine ws_b rfl ?_
        refine wp_cV rfl rfl o_X12_layRows v_X12_layRows h rfl rfl rfl (Nat.le_of_ble_eq_true rfl) (by decide) ?_
        clear h
        rintro r9 h9 ⟨S5, rfl, rfl, h⟩
        iterate 3 refine ws_b rfl ?_
        refine wp_cV rfl rfl o_X12_heldBy v_X12_heldBy h rfl rfl rfl (Nat.le_of_ble_eq_true rfl) (by decide) ?_
        clear h
        rintro r9 h9 ⟨v6, S6, rfl, rfl, h⟩
        iterate 2 refine ws_b rfl ?_
        refine wp_cS rfl rfl o_X12_manyOf s_X12_manyOf h rfl rfl (Nat.le_of_ble_eq_true rfl) (by decide) ?_
        clear h
        rintro r9 h9 ⟨v7, S7, rfl, rfl, h⟩
        iterate 2 refine ws_b rfl ?_
        refine wp_ite (fun q => ?_) (fun q => ?_)
        · replace h := h.1 q
          iterate 3 refine ws_b rfl ?_
          refine wp_cV rfl rfl o_X12_heldBy v_X12_heldBy h rfl rfl rfl (Nat.le_of_ble_eq_true rfl) (by decide) ?_
          clear h
          rintro r9 h9 ⟨v8, S8, rfl, rfl, h⟩
          iterate 7 refine ws_b rfl ?_
          exact wp_weak (wk_s (wk_n (wk_s (wk_s (wk_s (wk_s (wk_s (wk_s (wk_s wk_0))))))))) h
        · replace h := h.2 q
          refine ws_b rfl ?_
          exact wp_ri rfl rfl rfl ⟨_, _, rfl, rfl, h⟩

