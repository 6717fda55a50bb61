/-! ===== the program: the tape, walks ===== -/
def L_X10_append_3 (G : ab_G) (fr : Bool) (n0 : Nat) (tl : ab_H) (K : ms_S → Prop) (S : ms_S) (i1 : Int32) (i2 : Int32) : Prop := wp G 1 M_X10_append fr n0 (poU lTp tl K) 3 [some (.ref 0), some (.int i1), some (.int i2)] [] (hLy lTp S tl)
def L_X10_append_49 (G : ab_G) (fr : Bool) (n0 : Nat) (tl : ab_H) (K : ms_S → Prop) (S : ms_S)  : Prop := wp G 1 M_X10_append fr n0 (poU lTp tl K) 49 [none, none, none] [] (hLy lTp S tl)
set_option maxRecDepth 100000 in
set_option maxHeartbeats 4000000 in
theorem b_X10_append_3 {G : ab_G} {fr : Bool} {n0 : Nat} {tl : ab_H} {K : ms_S → Prop} {S : ms_S} {i1 : Int32} {i2 : Int32}
    (h : (i2 < 0 → (L_X10_append_49 G fr n0 tl K S )) ∧ (¬ i2 < 0 → (((nI 700) ≤ (S.1 0 2) → (L_X10_append_49 G fr n0 tl K S )) ∧ (¬ (nI 700) ≤ (S.1 0 2) → (vp_in (S.1 0 2) 700 ∧ (L_X10_append_3 G fr n0 tl K (sV (sA S 1 ((S.1 0 2).toNatClampNeg) (((i1.toUInt32 >>> (i2.toUInt32 &&& Int32.toUInt32 31)).toInt32) &&& (nI 255))) 2 ((S.1 0 2) + (nI 1))) i1 (i2 + -(nI 8)))))))) :
    L_X10_append_3 G fr n0 tl K S i1 i2 := by
  unfold L_X10_append_3
  iterate 2 refine ws_b rfl ?_
  refine wp_ite (fun q => ?_) (fun q => ?_)
  · replace h := h.1 q
    exact wp_weak (wk_n (wk_n (wk_n wk_0))) h
  · replace h := h.2 q
    iterate 4 refine ws_b rfl ?_
    refine wp_ite (fun q => ?_) (fun q => ?_)
    · replace h := h.1 q
      exact wp_weak (wk_n (wk_n (wk_n wk_0))) h
    · replace h := h.2 q
      iterate 9 refine ws_b rfl ?_
      refine ws_g rfl h.1 ?_
      replace h := h.2
      iterate 8 refine ws_b rfl ?_
      exact wp_weak (wk_s (wk_s (wk_s wk_0))) h
set_option maxRecDepth 100000 in
set_option maxHeartbeats 4000000 in
theorem b_X10_append_49 {G : ab_G} {fr : Bool} {n0 : Nat} {tl : ab_H} {K : ms_S → Prop} {S : ms_S} 
    (h : K S) :
    L_X10_append_49 G fr n0 tl K S  := by
  unfold L_X10_append_49
  exact wp_rv rfl rfl ⟨_, rfl, rfl, h⟩
set_option maxRecDepth 100000 in
set_option maxHeartbeats 4000000 in
theorem m_X10_append {G : ab_G} {fr : Bool} {tl : ab_H} {K : ms_S → Prop} {S : ms_S} {i1 : Int32}
    (h : ∀ n0 : Nat, L_X10_append_3 G fr n0 tl K S i1 (nI 24)) :
    ctU G 1 M_X10_append fr [.ref 0, .int i1] lTp S tl K := by
  refine wp_ct o_X10_append (Nat.le_of_ble_eq_true rfl) ?_
  replace h := h (hLy lTp S tl).length
  revert h
  generalize (hLy lTp S tl).length = n0
  intro h
  iterate 2 refine ws_b rfl ?_
  exact wp_weak (wk_s (wk_s (wk_s wk_0))) h
set_option maxRecDepth 100000 in
set_option maxHeartbeats 4000000 in
theorem m_X10_rewind {G : ab_G} {fr : Bool} {tl : ab_H} {K : ms_S → Prop} {S : ms_S} {i1 : Int32}
    (h : ∀ n0 : Nat, K (sV (sV (sV (sV S 3 (if (nI 700) < i1 then (nI 700) else i1)) 4 (nI 0)) 5 (nI 38)) 6 (nI 0))) :
    ctU G 2 M_X10_rewind fr [.ref 0, .int i1] lTp S tl K := by
  refine wp_ct o_X10_rewind (Nat.le_of_ble_eq_true rfl) ?_
  replace h := h (hLy lTp S tl).length
  revert h
  generalize (hLy lTp S tl).length = n0
  intro h
  iterate 3 refine ws_b rfl ?_
  refine wp_min rfl rfl (Nat.le_of_ble_eq_true rfl) (by decide) ?_
  iterate 10 refine ws_b rfl ?_
  exact wp_rv rfl rfl ⟨_, rfl, rfl, h⟩
set_option maxRecDepth 100000 in
set_option maxHeartbeats 4000000 in
theorem m_X10_byteAt {G : ab_G} {fr : Bool} {tl : ab_H} {K : Int32 → ms_S → Prop} {S : ms_S} {i1 : Int32}
    (h : ∀ n0 : Nat, (i1 < 0 → (K (nI 0) S)) ∧ (¬ i1 < 0 → (((S.1 0 3) ≤ i1 → (K (nI 0) S)) ∧ (¬ (S.1 0 3) ≤ i1 → (vp_in i1 700 ∧ (K (S.2.2.2.1 1 i1.toNatClampNeg) S)))))) :
    ctI G 1 M_X10_byteAt fr [.ref 0, .int i1] lTp S tl K := by
  refine wp_ct o_X10_byteAt (Nat.le_of_ble_eq_true rfl) ?_
  replace h := h (hLy lTp S tl).length
  revert h
  generalize (hLy lTp S tl).length = n0
  intro h
  iterate 2 refine ws_b rfl ?_
  refine wp_ite (fun q => ?_) (fun q => ?_)
  · replace h := h.1 q
    refine ws_b rfl ?_
    exact wp_ri rfl rfl rfl ⟨_, _, rfl, rfl, h⟩
  · replace h := h.2 q
    iterate 4 refine ws_b rfl ?_
    refine wp_ite (fun q => ?_) (fun q => ?_)
    · replace h := h.1 q
      refine ws_b rfl ?_
      exact wp_ri rfl rfl rfl ⟨_, _, rfl, rfl, h⟩
    · replace h := h.2 q
      iterate 3 refine ws_b rfl ?_
      refine ws_g rfl h.1 ?_
      replace h := h.2
      refine ws_b rfl ?_
      exact wp_ri rfl rfl rfl ⟨_, _, rfl, rfl, h⟩
def L_X10_wordToken_2 (G : ab_G) (fr : Bool) (n0 : Nat) (tl : ab_H) (K : Int32 → ms_S → Prop) (S : ms_S) (i1 : Int32) : Prop := wp G 1 M_X10_wordToken fr n0 (poI lTp tl K) 2 [some (.ref 0), some (.int i1)] [] (hLy lTp S tl)
set_option maxRecDepth 100000 in
set_option maxHeartbeats 4000000 in
theorem b_X10_wordToken_2 {G : ab_G} {fr : Bool} {n0 : Nat} {tl : ab_H} {K : Int32 → ms_S → Prop} {S : ms_S} {i1 : Int32}
    (h : ((nI 32) ≤ i1 → (K (nI 35) S)) ∧ (¬ (nI 32) ≤ i1 → (vp_in i1 32 ∧ (((S.2.2.2.1 2 i1.toNatClampNeg) = (S.1 0 7) → (K i1 S)) ∧ (¬ (S.2.2.2.1 2 i1.toNatClampNeg) = (S.1 0 7) → (L_X10_wordToken_2 G fr n0 tl K S (i1 + nI 1))))))) :
    L_X10_wordToken_2 G fr n0 tl K S i1 := by
  unfold L_X10_wordToken_2
  iterate 3 refine ws_b rfl ?_
  refine wp_ite (fun q => ?_) (fun q => ?_)
  · replace h := h.1 q
    refine ws_b rfl ?_
    exact wp_ri rfl rfl rfl ⟨_, _, rfl, rfl, h⟩
  · replace h := h.2 q
    iterate 3 refine ws_b rfl ?_
    refine ws_g rfl h.1 ?_
    replace h := h.2
    iterate 3 refine ws_b rfl ?_
    refine wp_ite (fun q => ?_) (fun q => ?_)
    · replace h := h.1 q
      refine ws_b rfl ?_
      exact wp_ri rfl rfl rfl ⟨_, _, rfl, rfl, h⟩
    · replace h := h.2 q
      iterate 2 refine ws_b rfl ?_
      exact wp_weak (wk_s (wk_s wk_0)) h
set_option maxRecDepth 100000 in
set_option maxHeartbeats 4000000 in
theorem m_X10_wordToken {G : ab_G} {fr : Bool} {tl : ab_H} {K : Int32 → ms_S → Prop} {S : ms_S} 
    (h : ∀ n0 : Nat, L_X10_wordToken_2 G fr n0 tl K S (nI 1)) :
    ctI G 1 M_X10_wordToken fr [.ref 0] lTp S tl K := by
  refine wp_ct o_X10_wordToken (Nat.le_of_ble_eq_true rfl) ?_
  replace h := h (hLy lTp S tl).length
  revert h
  generalize (hLy lTp S tl).length = n0
  intro h
  iterate 2 refine ws_b rfl ?_
  exact wp_weak (wk_s (wk_s wk_0)) h
def L_X10_readWord_0 (G : ab_G) (fr : Bool) (n0 : Nat) (tl : ab_H) (K : ms_S → Prop) (S : ms_S)  : Prop := wp G 2 M_X10_readWord fr n0 (poU lTp tl K) 0 [some (.ref 0)] [] (hLy lTp S tl)
def L_X10_readWord_66 (G : ab_G) (fr : Bool) (n0 : Nat) (tl : ab_H) (K : ms_S → Prop) (S : ms_S)  : Prop := wp G 2 M_X10_readWord fr n0 (poU lTp tl K) 66 [some (.ref 0)] [] (hLy lTp S tl)
def L_X10_readWord_79 (G : ab_G) (fr : Bool) (n0 : Nat) (tl : ab_H) (K : ms_S → Prop) (S : ms_S)  : Prop := wp G 2 M_X10_readWord fr n0 (poU lTp tl K) 79 [some (.ref 0)] [] (hLy lTp S tl)
def L_X10_readWord_114 (G : ab_G) (fr : Bool) (n0 : Nat) (tl : ab_H) (K : ms_S → Prop) (S : ms_S) (t0 : Int32) : Prop := wp G 2 M_X10_readWord fr n0 (poU lTp tl K) 114 [none] [.int t0, .ref 0] (hLy lTp S tl)
set_option maxRecDepth 100000 in
set_option maxHeartbeats 4000000 in
theorem b_X10_readWord_0 {G : ab_G} {fr : Bool} {n0 : Nat} {tl : ab_H} {K : ms_S → Prop} {S : ms_S} 
    (h : ((S.1 0 3) ≤ (S.1 0 4) → (L_X10_readWord_79 G fr n0 tl K S )) ∧ (¬ (S.1 0 3) ≤ (S.1 0 4) → (vp_in (S.1 0 4) 700 ∧ (ctI G 1 M_X10_isLetter fr [.int (S.2.2.2.1 1 ((S.1 0 4).toNatClampNeg))] lTp S tl (fun v1 S1 => (v1 = 0 → (L_X10_readWord_79 G fr n0 tl K S1 )) ∧ (¬ v1 = 0 → (((nI 6) ≤ ((S1.1 0 4) - (S1.1 0 6)) → (L_X10_readWord_66 G fr n0 tl K S1 )) ∧ (¬ (nI 6) ≤ ((S1.1 0 4) - (S1.1 0 6)) → (vp_in (S1.1 0 4) 700 ∧ (L_X10_readWord_66 G fr n0 tl K (sV S1 7 (((((S1.1 0 7) * (nI 32)) + (S1.2.2.2.1 1 ((S1.1 0 4).toNatClampNeg))) - (nI 97)) + (nI 1))) )))))))))) :
    L_X10_readWord_0 G fr n0 tl K S  := by
  unfold L_X10_readWord_0
  iterate 5 refine ws_b rfl ?_
  refine wp_ite (fun q => ?_) (fun q => ?_)
  · replace h := h.1 q
    exact wp_weak (wk_s wk_0) h
  · replace h := h.2 q
    iterate 4 refine ws_b rfl ?_
    refine ws_g rfl h.1 ?_
    replace h := h.2
    refine wp_cS rfl rfl o_X10_isLetter s_X10_isLetter h rfl rfl (Nat.le_of_ble_eq_true rfl) (by decide) ?_
    clear h
    rintro r9 h9 ⟨v1, S1, rfl, rfl, h⟩
    refine ws_b rfl ?_
    refine wp_ite (fun q => ?_) (fun q => ?_)
    · replace h := h.1 q
      exact wp_weak (wk_s wk_0) h
    · replace h := h.2 q
      iterate 7 refine ws_b rfl ?_
      refine wp_ite (fun q => ?_) (fun q => ?_)
      · replace h := h.1 q
        exact wp_weak (wk_s wk_0) h
      · replace h := h.2 q
        iterate 9 refine ws_b rfl ?_
        refine ws_g rfl h.1 ?_
        replace h := h.2
        iterate 6 refine ws_b rfl ?_
        exact wp_weak (wk_s wk_0) h
set_option maxRecDepth 100000 in
set_option maxHeartbeats 4000000 in
theorem b_X10_readWord_66 {G : ab_G} {fr : Bool} {n0 : Nat} {tl : ab_H} {K : ms_S → Prop} {S : ms_S} 
    (h : L_X10_readWord_0 G fr n0 tl K (sV S 4 ((S.1 0 4) + (nI 1))) ) :
    L_X10_readWord_66 G fr n0 tl K S  := by
  unfold L_X10_readWord_66
  iterate 7 refine ws_b rfl ?_
  exact wp_weak (wk_s wk_0) h
set_option maxRecDepth 100000 in
set_option maxHeartbeats 4000000 in
theorem b_X10_readWord_79 {G : ab_G} {fr : Bool} {n0 : Nat} {tl : ab_H} {K : ms_S → Prop} {S : ms_S} 
    (h : ctI G 1 M_X10_padded fr [.int (S.1 0 7)] lTp S tl (fun v1 S1 => (((S1.1 0 4) - (S1.1 0 6)) ≤ (nI 6) → (ctI G 1 M_X10_wordToken fr [.ref 0] lTp (sV S1 7 v1) tl (fun v2 S2 => L_X10_readWord_114 G fr n0 tl K S2 v2))) ∧ (¬ ((S1.1 0 4) - (S1.1 0 6)) ≤ (nI 6) → (L_X10_readWord_114 G fr n0 tl K (sV S1 7 v1) (nI 38))))) :
    L_X10_readWord_79 G fr n0 tl K S  := by
  unfold L_X10_readWord_79
  iterate 3 refine ws_b rfl ?_
  refine wp_cS rfl rfl o_X10_padded s_X10_padded h rfl rfl (Nat.le_of_ble_eq_true rfl) (by decide) ?_
  clear h
  rintro r9 h9 ⟨v1, S1, rfl, rfl, h⟩
  iterate 9 refine ws_b rfl ?_
  refine wp_ite (fun q => ?_) (fun q => ?_)
  · replace h := h.1 q
    refine ws_b rfl ?_
    refine wp_cV rfl rfl o_X10_wordToken v_X10_wordToken h rfl rfl rfl (Nat.le_of_ble_eq_true rfl) (by decide) ?_
    clear h
    rintro r9 h9 ⟨v2, S2, rfl, rfl, h⟩
    exact wp_weak (wk_n wk_0) h
  · replace h := h.2 q
    iterate 2 refine ws_b rfl ?_
    exact wp_weak (wk_n wk_0) h
set_option maxRecDepth 100000 in
set_option maxHeartbeats 4000000 in
theorem b_X10_readWord_114 {G : ab_G} {fr : Bool} {n0 : Nat} {tl : ab_H} {K : ms_S → Prop} {S : ms_S} {t0 : Int32}
    (h : K (sV S 5 t0)) :
    L_X10_readWord_114 G fr n0 tl K S t0 := by
  unfold L_X10_readWord_114
  refine ws_b rfl ?_
  exact wp_rv rfl rfl ⟨_, rfl, rfl, h⟩
set_option maxRecDepth 100000 in
set_option maxHeartbeats 4000000 in
theorem m_X10_readWord {G : ab_G} {fr : Bool} {tl : ab_H} {K : ms_S → Prop} {S : ms_S} 
    (h : ∀ n0 : Nat, L_X10_readWord_0 G fr n0 tl K S ) :
    ctU G 2 M_X10_readWord fr [.ref 0] lTp S tl K := by
  refine wp_ct o_X10_readWord (Nat.le_of_ble_eq_true rfl) ?_
  replace h := h (hLy lTp S tl).length
  revert h
  generalize (hLy lTp S tl).length = n0
  intro h
  exact wp_weak (wk_s wk_0) h
def L_X10_readNumber_0 (G : ab_G) (fr : Bool) (n0 : Nat) (tl : ab_H) (K : ms_S → Prop) (S : ms_S)  : Prop := wp G 2 M_X10_readNumber fr n0 (poU lTp tl K) 0 [some (.ref 0)] [] (hLy lTp S tl)
def L_X10_readNumber_68 (G : ab_G) (fr : Bool) (n0 : Nat) (tl : ab_H) (K : ms_S → Prop) (S : ms_S)  : Prop := wp G 2 M_X10_readNumber fr n0 (poU lTp tl K) 68 [some (.ref 0)] [] (hLy lTp S tl)
set_option maxRecDepth 100000 in
set_option maxHeartbeats 4000000 in
theorem b_X10_readNumber_0 {G : ab_G} {fr : Bool} {n0 : Nat} {tl : ab_H} {K : ms_S → Prop} {S : ms_S} 
    (h : ((S.1 0 3) ≤ (S.1 0 4) → (L_X10_readNumber_68 G fr n0 tl K S )) ∧ (¬ (S.1 0 3) ≤ (S.1 0 4) → (vp_in (S.1 0 4) 700 ∧ (ctI G 1 M_X10_isDigit fr [.int (S.2.2.2.1 1 ((S.1 0 4).toNatClampNeg))] lTp S tl (fun v1 S1 => (v1 = 0 → (L_X10_readNumber_68 G fr n0 tl K S1 )) ∧ (¬ v1 = 0 → (vp_in (S1.1 0 4) 700 ∧ (L_X10_readNumber_0 G fr n0 tl K (sV (sV S1 7 (if ((99999999 : Int32)) < ((((S1.1 0 7) * (nI 10)) + (S1.2.2.2.1 1 ((S1.1 0 4).toNatClampNeg))) - (nI 48)) then ((99999999 : Int32)) else ((((S1.1 0 7) * (nI 10)) + (S1.2.2.2.1 1 ((S1.1 0 4).toNatClampNeg))) - (nI 48)))) 4 ((S1.1 0 4) + (nI 1))) )))))))) :
    L_X10_readNumber_0 G fr n0 tl K S  := by
  unfold L_X10_readNumber_0
  iterate 5 refine ws_b rfl ?_
  refine wp_ite (fun q => ?_) (fun q => ?_)
  · replace h := h.1 q
    exact wp_weak (wk_s wk_0) h
  · replace h := h.2 q
    iterate 4 refine ws_b rfl ?_
    refine ws_g rfl h.1 ?_
    replace h := h.2
    refine wp_cS rfl rfl o_X10_isDigit s_X10_isDigit h rfl rfl (Nat.le_of_ble_eq_true rfl) (by decide) ?_
    clear h
    rintro r9 h9 ⟨v1, S1, rfl, rfl, h⟩
    refine ws_b rfl ?_
    refine wp_ite (fun q => ?_) (fun q => ?_)
    · replace h := h.1 q
      exact wp_weak (wk_s wk_0) h
    · replace h := h.2 q
      iterate 9 refine ws_b rfl ?_
      refine ws_g rfl h.1 ?_
      replace h := h.2
      iterate 4 refine ws_b rfl ?_
      refine wp_min rfl rfl (Nat.le_of_ble_eq_true rfl) (by decide) ?_
      iterate 8 refine ws_b rfl ?_
      exact wp_weak (wk_s wk_0) h
set_option maxRecDepth 100000 in
set_option maxHeartbeats 4000000 in
theorem b_X10_readNumber_68 {G : ab_G} {fr : Bool} {n0 : Nat} {tl : ab_H} {K : ms_S → Prop} {S : ms_S} 
    (h : K (sV S 5 (nI 36))) :
    L_X10_readNumber_68 G fr n0 tl K S  := by
  unfold L_X10_readNumber_68
  iterate 3 refine ws_b rfl ?_
  exact wp_rv rfl rfl ⟨_, rfl, rfl, h⟩
set_option maxRecDepth 100000 in
set_option maxHeartbeats 4000000 in
theorem m_X10_readNumber {G : ab_G} {fr : Bool} {tl : ab_H} {K : ms_S → Prop} {S : ms_S} 
    (h : ∀ n0 : Nat, L_X10_readNumber_0 G fr n0 tl K S ) :
    ctU G 2 M_X10_readNumber fr [.ref 0] lTp S tl K := by
  refine wp_ct o_X10_readNumber (Nat.le_of_ble_eq_true rfl) ?_
  replace h := h (hLy lTp S tl).length
  revert h
  generalize (hLy lTp S tl).length = n0
  intro h
  exact wp_weak (wk_s wk_0) h
def L_X10_readSign_50 (G : ab_G) (fr : Bool) (n0 : Nat) (tl : ab_H) (K : ms_S → Prop) (S : ms_S) (i1 : Int32) (i2 : Int32) : Prop := wp G 2 M_X10_readSign fr n0 (poU lTp tl K) 50 [some (.ref 0), some (.int i1), some (.int i2)] [] (hLy lTp S tl)
def L_X10_readSign_71 (G : ab_G) (fr : Bool) (n0 : Nat) (tl : ab_H) (K : ms_S → Prop) (S : ms_S) (i1 : Int32) (i2 : Int32) : Prop := wp G 2 M_X10_readSign fr n0 (poU lTp tl K) 71 [some (.ref 0), some (.int i1), some (.int i2)] [] (hLy lTp S tl)
def L_X10_readSign_89 (G : ab_G) (fr : Bool) (n0 : Nat) (tl : ab_H) (K : ms_S → Prop) (S : ms_S)  : Prop := wp G 2 M_X10_readSign fr n0 (poU lTp tl K) 89 [some (.ref 0), none, none] [] (hLy lTp S tl)
def L_X10_readSign_121 (G : ab_G) (fr : Bool) (n0 : Nat) (tl : ab_H) (K : ms_S → Prop) (S : ms_S) (t0 : Int32) : Prop := wp G 2 M_X10_readSign fr n0 (poU lTp tl K) 121 [none, none, none] [.int t0, .ref 0] (hLy lTp S tl)
def L_X10_readSign_126 (G : ab_G) (fr : Bool) (n0 : Nat) (tl : ab_H) (K : ms_S → Prop) (S : ms_S) (t0 : Int32) (t1 : Int32) : Prop := wp G 2 M_X10_readSign fr n0 (poU lTp tl K) 126 [none, none, none] [.int t0, .int t1, .ref 0] (hLy lTp S tl)
set_option maxRecDepth 100000 in
set_option maxHeartbeats 4000000 in
theorem b_X10_readSign_50 {G : ab_G} {fr : Bool} {n0 : Nat} {tl : ab_H} {K : ms_S → Prop} {S : ms_S} {i1 : Int32} {i2 : Int32}
    (h : (i1 = (nI 60) → ((i2 = (nI 62) → (L_X10_readSign_89 G fr n0 tl K (sV S 5 (nI 14)) )) ∧ (¬ i2 = (nI 62) → (L_X10_readSign_71 G fr n0 tl K S i1 i2)))) ∧ (¬ i1 = (nI 60) → (L_X10_readSign_71 G fr n0 tl K S i1 i2))) :
    L_X10_readSign_50 G fr n0 tl K S i1 i2 := by
  unfold L_X10_readSign_50
  iterate 3 refine ws_b rfl ?_
  refine wp_ite (fun q => ?_) (fun q => ?_)
  · replace h := h.1 q
    iterate 3 refine ws_b rfl ?_
    refine wp_ite (fun q => ?_) (fun q => ?_)
    · replace h := h.1 q
      iterate 4 refine ws_b rfl ?_
      exact wp_weak (wk_s (wk_n (wk_n wk_0))) h
    · replace h := h.2 q
      exact wp_weak (wk_s (wk_s (wk_s wk_0))) h
  · replace h := h.2 q
    exact wp_weak (wk_s (wk_s (wk_s wk_0))) h
set_option maxRecDepth 100000 in
set_option maxHeartbeats 4000000 in
theorem b_X10_readSign_71 {G : ab_G} {fr : Bool} {n0 : Nat} {tl : ab_H} {K : ms_S → Prop} {S : ms_S} {i1 : Int32} {i2 : Int32}
    (h : (i1 = (nI 62) → ((i2 = (nI 61) → (L_X10_readSign_89 G fr n0 tl K (sV S 5 (nI 15)) )) ∧ (¬ i2 = (nI 61) → (L_X10_readSign_89 G fr n0 tl K S )))) ∧ (¬ i1 = (nI 62) → (L_X10_readSign_89 G fr n0 tl K S ))) :
    L_X10_readSign_71 G fr n0 tl K S i1 i2 := by
  unfold L_X10_readSign_71
  iterate 3 refine ws_b rfl ?_
  refine wp_ite (fun q => ?_) (fun q => ?_)
  · replace h := h.1 q
    iterate 3 refine ws_b rfl ?_
    refine wp_ite (fun q => ?_) (fun q => ?_)
    · replace h := h.1 q
      iterate 3 refine ws_b rfl ?_
      exact wp_weak (wk_s (wk_n (wk_n wk_0))) h
    · replace h := h.2 q
      exact wp_weak (wk_s (wk_n (wk_n wk_0))) h
  · replace h := h.2 q
    exact wp_weak (wk_s (wk_n (wk_n wk_0))) h
set_option maxRecDepth 100000 in
set_option maxHeartbeats 4000000 in
theorem b_X10_readSign_89 {G : ab_G} {fr : Bool} {n0 : Nat} {tl : ab_H} {K : ms_S → Prop} {S : ms_S} 
    (h : ((S.1 0 5) = (nI 12) → (L_X10_readSign_121 G fr n0 tl K S (S.1 0 4))) ∧ (¬ (S.1 0 5) = (nI 12) → (((S.1 0 5) = (nI 14) → (L_X10_readSign_121 G fr n0 tl K S (S.1 0 4))) ∧ (¬ (S.1 0 5) = (nI 14) → (((S.1 0 5) = (nI 15) → (L_X10_readSign_121 G fr n0 tl K S (S.1 0 4))) ∧ (¬ (S.1 0 5) = (nI 15) → (L_X10_readSign_126 G fr n0 tl K S (nI 1) (S.1 0 4)))))))) :
    L_X10_readSign_89 G fr n0 tl K S  := by
  unfold L_X10_readSign_89
  iterate 7 refine ws_b rfl ?_
  refine wp_ite (fun q => ?_) (fun q => ?_)
  · replace h := h.1 q
    exact wp_weak (wk_n (wk_s (wk_s wk_0))) h
  · replace h := h.2 q
    iterate 4 refine ws_b rfl ?_
    refine wp_ite (fun q => ?_) (fun q => ?_)
    · replace h := h.1 q
      exact wp_weak (wk_n (wk_s (wk_s wk_0))) h
    · replace h := h.2 q
      iterate 4 refine ws_b rfl ?_
      refine wp_ite (fun q => ?_) (fun q => ?_)
      · replace h := h.1 q
        exact wp_weak (wk_n (wk_s (wk_s wk_0))) h
      · replace h := h.2 q
        refine ws_b rfl ?_
        exact wp_weak (wk_n (wk_s (wk_s wk_0))) h
set_option maxRecDepth 100000 in
set_option maxHeartbeats 4000000 in
theorem b_X10_readSign_121 {G : ab_G} {fr : Bool} {n0 : Nat} {tl : ab_H} {K : ms_S → Prop} {S : ms_S} {t0 : Int32}
    (h : L_X10_readSign_126 G fr n0 tl K S (nI 2) t0) :
    L_X10_readSign_121 G fr n0 tl K S t0 := by
  unfold L_X10_readSign_121
  iterate 2 refine ws_b rfl ?_
  exact wp_weak (wk_s (wk_s (wk_s wk_0))) h
set_option maxRecDepth 100000 in
set_option maxHeartbeats 4000000 in
theorem b_X10_readSign_126 {G : ab_G} {fr : Bool} {n0 : Nat} {tl : ab_H} {K : ms_S → Prop} {S : ms_S} {t0 : Int32} {t1 : Int32}
    (h : K (sV S 4 (t1 + t0))) :
    L_X10_readSign_126 G fr n0 tl K S t0 t1 := by
  unfold L_X10_readSign_126
  iterate 2 refine ws_b rfl ?_
  exact wp_rv rfl rfl ⟨_, rfl, rfl, h⟩
set_option maxRecDepth 100000 in
set_option maxHeartbeats 4000000 in
theorem m_X10_readSign {G : ab_G} {fr : Bool} {tl : ab_H} {K : ms_S → Prop} {S : ms_S} 
    (h : ∀ n0 : Nat, vp_in (S.1 0 4) 700 ∧ (ctI G 1 M_X10_byteAt fr [.ref 0, .int ((S.1 0 4) + (nI 1))] lTp S tl (fun v1 S1 => ctI G 1 M_X10_signToken fr [.int (S.2.2.2.1 1 ((S.1 0 4).toNatClampNeg))] lTp S1 tl (fun v2 S2 => ((S.2.2.2.1 1 ((S.1 0 4).toNatClampNeg)) = (nI 60) → ((v1 = (nI 61) → (L_X10_readSign_89 G fr n0 tl K (sV (sV S2 5 v2) 5 (nI 12)) )) ∧ (¬ v1 = (nI 61) → (L_X10_readSign_50 G fr n0 tl K (sV S2 5 v2) (S.2.2.2.1 1 ((S.1 0 4).toNatClampNeg)) v1)))) ∧ (¬ (S.2.2.2.1 1 ((S.1 0 4).toNatClampNeg)) = (nI 60) → (L_X10_readSign_50 G fr n0 tl K (sV S2 5 v2) (S.2.2.2.1 1 ((S.1 0 4).toNatClampNeg)) v1)))))) :
    ctU G 2 M_X10_readSign fr [.ref 0] lTp S tl K := by
  refine wp_ct o_X10_readSign (Nat.le_of_ble_eq_true rfl) ?_
  replace h := h (hLy lTp S tl).length
  revert h
  generalize (hLy lTp S tl).length = n0
  intro h
  iterate 4 refine ws_b rfl ?_
  refine ws_g rfl h.1 ?_
  replace h := h.2
  iterate 6 refine ws_b rfl ?_
  refine wp_cV rfl rfl o_X10_byteAt v_X10_byteAt h rfl rfl rfl (Nat.le_of_ble_eq_true rfl) (by decide) ?_
  clear h
  rintro r9 h9 ⟨v1, S1, rfl, rfl, h⟩
  iterate 3 refine ws_b rfl ?_
  refine wp_cS rfl rfl o_X10_signToken s_X10_signToken h rfl rfl (Nat.le_of_ble_eq_true rfl) (by decide) ?_
  clear h
  rintro r9 h9 ⟨v2, S2, rfl, rfl, h⟩
  iterate 4 refine ws_b rfl ?_
  refine wp_ite (fun q => ?_) (fun q => ?_)
  · replace h := h.1 q
    iterate 3 refine ws_b rfl ?_
    refine wp_ite (fun q => ?_) (fun q => ?_)
    · replace h := h.1 q
      iterate 4 refine ws_b rfl ?_
      exact wp_weak (wk_s (wk_n (wk_n wk_0))) h
    · replace h := h.2 q
      exact wp_weak (wk_s (wk_s (wk_s wk_0))) h
  · replace h := h.2 q
    exact wp_weak (wk_s (wk_s (wk_s wk_0))) h
def L_X10_advance_0 (G : ab_G) (fr : Bool) (n0 : Nat) (tl : ab_H) (K : ms_S → Prop) (S : ms_S)  : Prop := wp G 3 M_X10_advance fr n0 (poU lTp tl K) 0 [some (.ref 0)] [] (hLy lTp S tl)
def L_X10_advance_39 (G : ab_G) (fr : Bool) (n0 : Nat) (tl : ab_H) (K : ms_S → Prop) (S : ms_S)  : Prop := wp G 3 M_X10_advance fr n0 (poU lTp tl K) 39 [some (.ref 0)] [] (hLy lTp S tl)
def L_X10_advance_52 (G : ab_G) (fr : Bool) (n0 : Nat) (tl : ab_H) (K : ms_S → Prop) (S : ms_S)  : Prop := wp G 3 M_X10_advance fr n0 (poU lTp tl K) 52 [some (.ref 0)] [] (hLy lTp S tl)
def L_X10_advance_133 (G : ab_G) (fr : Bool) (n0 : Nat) (tl : ab_H) (K : ms_S → Prop) (S : ms_S)  : Prop := wp G 3 M_X10_advance fr n0 (poU lTp tl K) 133 [none] [] (hLy lTp S tl)
set_option maxRecDepth 100000 in
set_option maxHeartbeats 4000000 in
theorem b_X10_advance_0 {G : ab_G} {fr : Bool} {n0 : Nat} {tl : ab_H} {K : ms_S → Prop} {S : ms_S} 
    (h : ((S.1 0 3) ≤ (S.1 0 4) → (L_X10_advance_52 G fr n0 tl K S )) ∧ (¬ (S.1 0 3) ≤ (S.1 0 4) → (vp_in (S.1 0 4) 700 ∧ (((S.2.2.2.1 1 ((S.1 0 4).toNatClampNeg)) = (nI 10) → (L_X10_advance_39 G fr n0 tl K S )) ∧ (¬ (S.2.2.2.1 1 ((S.1 0 4).toNatClampNeg)) = (nI 10) → (vp_in (S.1 0 4) 700 ∧ (((S.2.2.2.1 1 ((S.1 0 4).toNatClampNeg)) = (nI 32) → (L_X10_advance_39 G fr n0 tl K S )) ∧ (¬ (S.2.2.2.1 1 ((S.1 0 4).toNatClampNeg)) = (nI 32) → (L_X10_advance_52 G fr n0 tl K S ))))))))) :
    L_X10_advance_0 G fr n0 tl K S  := by
  unfold L_X10_advance_0
  iterate 5 refine ws_b rfl ?_
  refine wp_ite (fun q => ?_) (fun q => ?_)
  · replace h := h.1 q
    exact wp_weak (wk_s wk_0) h
  · replace h := h.2 q
    iterate 4 refine ws_b rfl ?_
    refine ws_g rfl h.1 ?_
    replace h := h.2
    iterate 2 refine ws_b rfl ?_
    refine wp_ite (fun q => ?_) (fun q => ?_)
    · replace h := h.1 q
      exact wp_weak (wk_s wk_0) h
    · replace h := h.2 q
      iterate 4 refine ws_b rfl ?_
      refine ws_g rfl h.1 ?_
      replace h := h.2
      iterate 2 refine ws_b rfl ?_
      refine wp_ite (fun q => ?_) (fun q => ?_)
      · replace h := h.1 q
        exact wp_weak (wk_s wk_0) h
      · replace h := h.2 q
        exact wp_weak (wk_s wk_0) h
set_option maxRecDepth 100000 in
set_option maxHeartbeats 4000000 in
theorem b_X10_advance_39 {G : ab_G} {fr : Bool} {n0 : Nat} {tl : ab_H} {K : ms_S → Prop} {S : ms_S} 
    (h : L_X10_advance_0 G fr n0 tl K (sV S 4 ((S.1 0 4) + (nI 1))) ) :
    L_X10_advance_39 G fr n0 tl K S  := by
  unfold L_X10_advance_39
  iterate 7 refine ws_b rfl ?_
  exact wp_weak (wk_s wk_0) h
set_option maxRecDepth 100000 in
set_option maxHeartbeats 4000000 in
theorem b_X10_advance_52 {G : ab_G} {fr : Bool} {n0 : Nat} {tl : ab_H} {K : ms_S → Prop} {S : ms_S} 
    (h : ((S.1 0 4) < (S.1 0 3) → (vp_in (S.1 0 4) 700 ∧ (ctI G 1 M_X10_isLetter fr [.int (S.2.2.2.1 1 ((S.1 0 4).toNatClampNeg))] lTp (sV (sV S 6 (S.1 0 4)) 7 (nI 0)) tl (fun v1 S1 => (v1 = 0 → (vp_in (S1.1 0 4) 700 ∧ (ctI G 1 M_X10_isDigit fr [.int (S1.2.2.2.1 1 ((S1.1 0 4).toNatClampNeg))] lTp S1 tl (fun v2 S2 => (v2 = 0 → (ctU G 2 M_X10_readSign fr [.ref 0] lTp S2 tl (fun S3 => L_X10_advance_133 G fr n0 tl K S3 ))) ∧ (¬ v2 = 0 → (ctU G 2 M_X10_readNumber fr [.ref 0] lTp S2 tl (fun S4 => L_X10_advance_133 G fr n0 tl K S4 ))))))) ∧ (¬ v1 = 0 → (ctU G 2 M_X10_readWord fr [.ref 0] lTp S1 tl (fun S5 => L_X10_advance_133 G fr n0 tl K S5 ))))))) ∧ (¬ (S.1 0 4) < (S.1 0 3) → (L_X10_advance_133 G fr n0 tl K (sV (sV (sV S 6 (S.1 0 4)) 7 (nI 0)) 5 (nI 37)) ))) :
    L_X10_advance_52 G fr n0 tl K S  := by
  unfold L_X10_advance_52
  iterate 12 refine ws_b rfl ?_
  refine wp_ite (fun q => ?_) (fun q => ?_)
  · replace h := h.1 q
    iterate 4 refine ws_b rfl ?_
    refine ws_g rfl h.1 ?_
    replace h := h.2
    refine wp_cS rfl rfl o_X10_isLetter s_X10_isLetter h rfl rfl (Nat.le_of_ble_eq_true rfl) (by decide) ?_
    clear h
    rintro r9 h9 ⟨v1, S1, rfl, rfl, h⟩
    refine ws_b rfl ?_
    refine wp_ite (fun q => ?_) (fun q => ?_)
    · replace h := h.1 q
      iterate 4 refine ws_b rfl ?_
      refine ws_g rfl h.1 ?_
      replace h := h.2
      refine wp_cS rfl rfl o_X10_isDigit s_X10_isDigit h rfl rfl (Nat.le_of_ble_eq_true rfl) (by decide) ?_
      clear h
      rintro r9 h9 ⟨v2, S2, rfl, rfl, h⟩
      refine ws_b rfl ?_
      refine wp_ite (fun q => ?_) (fun q => ?_)
      · replace h := h.1 q
        refine ws_b rfl ?_
        refine wp_cV rfl rfl o_X10_readSign v_X10_readSign h rfl rfl rfl (Nat.le_of_ble_eq_true rfl) (by decide) ?_
        clear h
        rintro r9 h9 ⟨S3, rfl, rfl, h⟩
        exact wp_weak (wk_n wk_0) h
      · replace h := h.2 q
        refine ws_b rfl ?_
        refine wp_cV rfl rfl o_X10_readNumber v_X10_readNumber h rfl rfl rfl (Nat.le_of_ble_eq_true rfl) (by decide) ?_
        clear h
        rintro r9 h9 ⟨S4, rfl, rfl, h⟩
        refine ws_b rfl ?_
        exact wp_weak (wk_n wk_0) h
    · replace h := h.2 q
      refine ws_b rfl ?_
      refine wp_cV rfl rfl o_X10_readWord v_X10_readWord h rfl rfl rfl (Nat.le_of_ble_eq_true rfl) (by decide) ?_
      clear h
      rintro r9 h9 ⟨S5, rfl, rfl, h⟩
      refine ws_b rfl ?_
      exact wp_weak (wk_n wk_0) h
  · replace h := h.2 q
    iterate 4 refine ws_b rfl ?_
    exact wp_weak (wk_n wk_0) h
set_option maxRecDepth 100000 in
set_option maxHeartbeats 4000000 in
theorem b_X10_advance_133 {G : ab_G} {fr : Bool} {n0 : Nat} {tl : ab_H} {K : ms_S → Prop} {S : ms_S} 
    (h : K S) :
    L_X10_advance_133 G fr n0 tl K S  := by
  unfold L_X10_advance_133
  exact wp_rv rfl rfl ⟨_, rfl, rfl, h⟩
set_option maxRecDepth 100000 in
set_option maxHeartbeats 4000000 in
theorem m_X10_advance {G : ab_G} {fr : Bool} {tl : ab_H} {K : ms_S → Prop} {S : ms_S} 
    (h : ∀ n0 : Nat, L_X10_advance_0 G fr n0 tl K S ) :
    ctU G 3 M_X10_advance fr [.ref 0] lTp S tl K := by
  refine wp_ct o_X10_advance (Nat.le_of_ble_eq_true rfl) ?_
  replace h := h (hLy lTp S tl).length
  revert h
  generalize (hLy lTp S tl).length = n0
  intro h
  exact wp_weak (wk_s wk_0) h

