/-! ===== the program: methods that look at no cell, walks ===== -/
def lZ : List ms_D := []
theorem ctI.pu {G : ab_G} {d : Nat} {M : ab_MD} {fr : Bool} {as : List Value} {lay : List ms_D} {S : ms_S} {tl : ab_H} {K : Int32 → ms_S → Prop} {v9 : Int32} (c : ctI G d M fr as lZ ms_0 (hLy lay S tl) (fun v _ => v = v9)) (k : K v9 S) : ctI G d M fr as lay S tl K := Met_mono c (fun _ _ ⟨_, _, e1, e2, e3⟩ => ⟨v9, S, by rw [e1, e3], e2, k⟩)
theorem ctL.pu {G : ab_G} {d : Nat} {M : ab_MD} {fr : Bool} {as : List Value} {lay : List ms_D} {S : ms_S} {tl : ab_H} {K : Int64 → ms_S → Prop} {v9 : Int64} (c : ctL G d M fr as lZ ms_0 (hLy lay S tl) (fun v _ => v = v9)) (k : K v9 S) : ctL G d M fr as lay S tl K := Met_mono c (fun _ _ ⟨_, _, e1, e2, e3⟩ => ⟨v9, S, by rw [e1, e3], e2, k⟩)
def L_J6_bitCount_10 (G : ab_G) (fr : Bool) (n0 : Nat) (tl : ab_H) (K : Int32 → ms_S → Prop) (S : ms_S) (i0 : Int32) : Prop := wp G 1 M_J6_bitCount fr n0 (poI lZ tl K) 10 [some (.int i0)] [] (hLy lZ S tl)
def L_J6_bitCount_24 (G : ab_G) (fr : Bool) (n0 : Nat) (tl : ab_H) (K : Int32 → ms_S → Prop) (S : ms_S) (i0 : Int32) : Prop := wp G 1 M_J6_bitCount fr n0 (poI lZ tl K) 24 [some (.int i0)] [] (hLy lZ S tl)
def L_J6_bitCount_34 (G : ab_G) (fr : Bool) (n0 : Nat) (tl : ab_H) (K : Int32 → ms_S → Prop) (S : ms_S) (i0 : Int32) : Prop := wp G 1 M_J6_bitCount fr n0 (poI lZ tl K) 34 [some (.int i0)] [] (hLy lZ S tl)
def L_J6_bitCount_41 (G : ab_G) (fr : Bool) (n0 : Nat) (tl : ab_H) (K : Int32 → ms_S → Prop) (S : ms_S) (i0 : Int32) : Prop := wp G 1 M_J6_bitCount fr n0 (poI lZ tl K) 41 [some (.int i0)] [] (hLy lZ S tl)
def L_J6_bitCount_48 (G : ab_G) (fr : Bool) (n0 : Nat) (tl : ab_H) (K : Int32 → ms_S → Prop) (S : ms_S) (i0 : Int32) : Prop := wp G 1 M_J6_bitCount fr n0 (poI lZ tl K) 48 [some (.int i0)] [] (hLy lZ S tl)
set_option maxRecDepth 100000 in
set_option maxHeartbeats 4000000 in
theorem b_J6_bitCount_10 {G : ab_G} {fr : Bool} {n0 : Nat} {tl : ab_H} {K : Int32 → ms_S → Prop} {S : ms_S} {i0 : Int32}
    (h : L_J6_bitCount_24 G fr n0 tl K S ((i0 &&& ((858993459 : Int32))) + (((i0.toUInt32 >>> ((nI 2).toUInt32 &&& Int32.toUInt32 31)).toInt32) &&& ((858993459 : Int32))))) :
    L_J6_bitCount_10 G fr n0 tl K S i0 := by
  unfold L_J6_bitCount_10
  iterate 10 refine ws_b rfl ?_
  exact wp_weak (wk_s wk_0) h
set_option maxRecDepth 100000 in
set_option maxHeartbeats 4000000 in
theorem b_J6_bitCount_24 {G : ab_G} {fr : Bool} {n0 : Nat} {tl : ab_H} {K : Int32 → ms_S → Prop} {S : ms_S} {i0 : Int32}
    (h : L_J6_bitCount_34 G fr n0 tl K S ((i0 + ((i0.toUInt32 >>> ((nI 4).toUInt32 &&& Int32.toUInt32 31)).toInt32)) &&& ((252645135 : Int32)))) :
    L_J6_bitCount_24 G fr n0 tl K S i0 := by
  unfold L_J6_bitCount_24
  iterate 8 refine ws_b rfl ?_
  exact wp_weak (wk_s wk_0) h
set_option maxRecDepth 100000 in
set_option maxHeartbeats 4000000 in
theorem b_J6_bitCount_34 {G : ab_G} {fr : Bool} {n0 : Nat} {tl : ab_H} {K : Int32 → ms_S → Prop} {S : ms_S} {i0 : Int32}
    (h : L_J6_bitCount_41 G fr n0 tl K S (i0 + ((i0.toUInt32 >>> ((nI 8).toUInt32 &&& Int32.toUInt32 31)).toInt32))) :
    L_J6_bitCount_34 G fr n0 tl K S i0 := by
  unfold L_J6_bitCount_34
  iterate 6 refine ws_b rfl ?_
  exact wp_weak (wk_s wk_0) h
set_option maxRecDepth 100000 in
set_option maxHeartbeats 4000000 in
theorem b_J6_bitCount_41 {G : ab_G} {fr : Bool} {n0 : Nat} {tl : ab_H} {K : Int32 → ms_S → Prop} {S : ms_S} {i0 : Int32}
    (h : L_J6_bitCount_48 G fr n0 tl K S (i0 + ((i0.toUInt32 >>> ((nI 16).toUInt32 &&& Int32.toUInt32 31)).toInt32))) :
    L_J6_bitCount_41 G fr n0 tl K S i0 := by
  unfold L_J6_bitCount_41
  iterate 6 refine ws_b rfl ?_
  exact wp_weak (wk_s wk_0) h
set_option maxRecDepth 100000 in
set_option maxHeartbeats 4000000 in
theorem b_J6_bitCount_48 {G : ab_G} {fr : Bool} {n0 : Nat} {tl : ab_H} {K : Int32 → ms_S → Prop} {S : ms_S} {i0 : Int32}
    (h : K (i0 &&& (nI 63)) S) :
    L_J6_bitCount_48 G fr n0 tl K S i0 := by
  unfold L_J6_bitCount_48
  iterate 3 refine ws_b rfl ?_
  exact wp_ri rfl rfl rfl ⟨_, _, rfl, rfl, h⟩
set_option maxRecDepth 100000 in
set_option maxHeartbeats 4000000 in
theorem m_J6_bitCount {G : ab_G} {fr : Bool} {tl : ab_H} {K : Int32 → ms_S → Prop} {S : ms_S} {i0 : Int32}
    (h : ∀ n0 : Nat, L_J6_bitCount_10 G fr n0 tl K S (i0 - (((i0.toUInt32 >>> ((nI 1).toUInt32 &&& Int32.toUInt32 31)).toInt32) &&& ((1431655765 : Int32))))) :
    ctI G 1 M_J6_bitCount fr [.int i0] lZ S tl K := by
  refine wp_ct o_J6_bitCount (Nat.le_of_ble_eq_true rfl) ?_
  replace h := h (hLy lZ S tl).length
  revert h
  generalize (hLy lZ S tl).length = n0
  intro h
  iterate 8 refine ws_b rfl ?_
  exact wp_weak (wk_s wk_0) h
def L_J6_numberOfTrailingZeros_34 (G : ab_G) (fr : Bool) (n0 : Nat) (tl : ab_H) (K : Int32 → ms_S → Prop) (S : ms_S) (i0 : Int32) (i1 : Int32) : Prop := wp G 1 M_J6_numberOfTrailingZeros fr n0 (poI lZ tl K) 34 [some (.int i0), some (.int i1)] [] (hLy lZ S tl)
def L_J6_numberOfTrailingZeros_49 (G : ab_G) (fr : Bool) (n0 : Nat) (tl : ab_H) (K : Int32 → ms_S → Prop) (S : ms_S) (i0 : Int32) (i1 : Int32) : Prop := wp G 1 M_J6_numberOfTrailingZeros fr n0 (poI lZ tl K) 49 [some (.int i0), some (.int i1)] [] (hLy lZ S tl)
def L_J6_numberOfTrailingZeros_62 (G : ab_G) (fr : Bool) (n0 : Nat) (tl : ab_H) (K : Int32 → ms_S → Prop) (S : ms_S) (i0 : Int32) (i1 : Int32) : Prop := wp G 1 M_J6_numberOfTrailingZeros fr n0 (poI lZ tl K) 62 [some (.int i0), some (.int i1)] [] (hLy lZ S tl)
def L_J6_numberOfTrailingZeros_74 (G : ab_G) (fr : Bool) (n0 : Nat) (tl : ab_H) (K : Int32 → ms_S → Prop) (S : ms_S) (i0 : Int32) (i1 : Int32) : Prop := wp G 1 M_J6_numberOfTrailingZeros fr n0 (poI lZ tl K) 74 [some (.int i0), some (.int i1)] [] (hLy lZ S tl)
set_option maxRecDepth 100000 in
set_option maxHeartbeats 4000000 in
theorem b_J6_numberOfTrailingZeros_34 {G : ab_G} {fr : Bool} {n0 : Nat} {tl : ab_H} {K : Int32 → ms_S → Prop} {S : ms_S} {i0 : Int32} {i1 : Int32}
    (h : (i0 ≤ (nI 256) → (L_J6_numberOfTrailingZeros_49 G fr n0 tl K S i0 i1)) ∧ (¬ i0 ≤ (nI 256) → (L_J6_numberOfTrailingZeros_49 G fr n0 tl K S ((i0.toUInt32 >>> ((nI 8).toUInt32 &&& Int32.toUInt32 31)).toInt32) (i1 + nI 8)))) :
    L_J6_numberOfTrailingZeros_34 G fr n0 tl K S i0 i1 := by
  unfold L_J6_numberOfTrailingZeros_34
  iterate 3 refine ws_b rfl ?_
  refine wp_ite (fun q => ?_) (fun q => ?_)
  · replace h := h.1 q
    exact wp_weak (wk_s (wk_s wk_0)) h
  · replace h := h.2 q
    iterate 5 refine ws_b rfl ?_
    exact wp_weak (wk_s (wk_s wk_0)) h
set_option maxRecDepth 100000 in
set_option maxHeartbeats 4000000 in
theorem b_J6_numberOfTrailingZeros_49 {G : ab_G} {fr : Bool} {n0 : Nat} {tl : ab_H} {K : Int32 → ms_S → Prop} {S : ms_S} {i0 : Int32} {i1 : Int32}
    (h : (i0 ≤ (nI 16) → (L_J6_numberOfTrailingZeros_62 G fr n0 tl K S i0 i1)) ∧ (¬ i0 ≤ (nI 16) → (L_J6_numberOfTrailingZeros_62 G fr n0 tl K S ((i0.toUInt32 >>> ((nI 4).toUInt32 &&& Int32.toUInt32 31)).toInt32) (i1 + nI 4)))) :
    L_J6_numberOfTrailingZeros_49 G fr n0 tl K S i0 i1 := by
  unfold L_J6_numberOfTrailingZeros_49
  iterate 3 refine ws_b rfl ?_
  refine wp_ite (fun q => ?_) (fun q => ?_)
  · replace h := h.1 q
    exact wp_weak (wk_s (wk_s wk_0)) h
  · replace h := h.2 q
    iterate 5 refine ws_b rfl ?_
    exact wp_weak (wk_s (wk_s wk_0)) h
set_option maxRecDepth 100000 in
set_option maxHeartbeats 4000000 in
theorem b_J6_numberOfTrailingZeros_62 {G : ab_G} {fr : Bool} {n0 : Nat} {tl : ab_H} {K : Int32 → ms_S → Prop} {S : ms_S} {i0 : Int32} {i1 : Int32}
    (h : (i0 ≤ (nI 4) → (L_J6_numberOfTrailingZeros_74 G fr n0 tl K S i0 i1)) ∧ (¬ i0 ≤ (nI 4) → (L_J6_numberOfTrailingZeros_74 G fr n0 tl K S ((i0.toUInt32 >>> ((nI 2).toUInt32 &&& Int32.toUInt32 31)).toInt32) (i1 + nI 2)))) :
    L_J6_numberOfTrailingZeros_62 G fr n0 tl K S i0 i1 := by
  unfold L_J6_numberOfTrailingZeros_62
  iterate 3 refine ws_b rfl ?_
  refine wp_ite (fun q => ?_) (fun q => ?_)
  · replace h := h.1 q
    exact wp_weak (wk_s (wk_s wk_0)) h
  · replace h := h.2 q
    iterate 5 refine ws_b rfl ?_
    exact wp_weak (wk_s (wk_s wk_0)) h
set_option maxRecDepth 100000 in
set_option maxHeartbeats 4000000 in
theorem b_J6_numberOfTrailingZeros_74 {G : ab_G} {fr : Bool} {n0 : Nat} {tl : ab_H} {K : Int32 → ms_S → Prop} {S : ms_S} {i0 : Int32} {i1 : Int32}
    (h : K (i1 + ((i0.toUInt32 >>> ((nI 1).toUInt32 &&& Int32.toUInt32 31)).toInt32)) S) :
    L_J6_numberOfTrailingZeros_74 G fr n0 tl K S i0 i1 := by
  unfold L_J6_numberOfTrailingZeros_74
  iterate 5 refine ws_b rfl ?_
  exact wp_ri rfl rfl rfl ⟨_, _, rfl, rfl, h⟩
set_option maxRecDepth 100000 in
set_option maxHeartbeats 4000000 in
theorem m_J6_numberOfTrailingZeros {G : ab_G} {fr : Bool} {tl : ab_H} {K : Int32 → ms_S → Prop} {S : ms_S} {i0 : Int32}
    (h : ∀ n0 : Nat, (0 < ((i0 ^^^ (-(nI 1))) &&& (i0 - (nI 1))) → ((((i0 ^^^ (-(nI 1))) &&& (i0 - (nI 1))) ≤ ((65536 : Int32)) → (L_J6_numberOfTrailingZeros_34 G fr n0 tl K S ((i0 ^^^ (-(nI 1))) &&& (i0 - (nI 1))) (nI 1))) ∧ (¬ ((i0 ^^^ (-(nI 1))) &&& (i0 - (nI 1))) ≤ ((65536 : Int32)) → (L_J6_numberOfTrailingZeros_34 G fr n0 tl K S ((((i0 ^^^ (-(nI 1))) &&& (i0 - (nI 1))).toUInt32 >>> ((nI 16).toUInt32 &&& Int32.toUInt32 31)).toInt32) ((nI 1) + nI 16))))) ∧ (¬ 0 < ((i0 ^^^ (-(nI 1))) &&& (i0 - (nI 1))) → (K (((i0 ^^^ (-(nI 1))) &&& (i0 - (nI 1))) &&& (nI 32)) S))) :
    ctI G 1 M_J6_numberOfTrailingZeros fr [.int i0] lZ S tl K := by
  refine wp_ct o_J6_numberOfTrailingZeros (Nat.le_of_ble_eq_true rfl) ?_
  replace h := h (hLy lZ S tl).length
  revert h
  generalize (hLy lZ S tl).length = n0
  intro h
  iterate 10 refine ws_b rfl ?_
  refine wp_ite (fun q => ?_) (fun q => ?_)
  · replace h := h.1 q
    iterate 5 refine ws_b rfl ?_
    refine wp_ite (fun q => ?_) (fun q => ?_)
    · replace h := h.1 q
      exact wp_weak (wk_s (wk_s wk_0)) h
    · replace h := h.2 q
      iterate 5 refine ws_b rfl ?_
      exact wp_weak (wk_s (wk_s wk_0)) h
  · replace h := h.2 q
    iterate 3 refine ws_b rfl ?_
    exact wp_ri rfl rfl rfl ⟨_, _, rfl, rfl, h⟩
def L_J13_bitCount_l_10 (G : ab_G) (fr : Bool) (n0 : Nat) (tl : ab_H) (K : Int32 → ms_S → Prop) (S : ms_S) (l0 : Int64) : Prop := wp G 1 M_J13_bitCount_l fr n0 (poI lZ tl K) 10 [some (.long l0), none] [] (hLy lZ S tl)
def L_J13_bitCount_l_24 (G : ab_G) (fr : Bool) (n0 : Nat) (tl : ab_H) (K : Int32 → ms_S → Prop) (S : ms_S) (l0 : Int64) : Prop := wp G 1 M_J13_bitCount_l fr n0 (poI lZ tl K) 24 [some (.long l0), none] [] (hLy lZ S tl)
def L_J13_bitCount_l_34 (G : ab_G) (fr : Bool) (n0 : Nat) (tl : ab_H) (K : Int32 → ms_S → Prop) (S : ms_S) (l0 : Int64) : Prop := wp G 1 M_J13_bitCount_l fr n0 (poI lZ tl K) 34 [some (.long l0), none] [] (hLy lZ S tl)
def L_J13_bitCount_l_41 (G : ab_G) (fr : Bool) (n0 : Nat) (tl : ab_H) (K : Int32 → ms_S → Prop) (S : ms_S) (l0 : Int64) : Prop := wp G 1 M_J13_bitCount_l fr n0 (poI lZ tl K) 41 [some (.long l0), none] [] (hLy lZ S tl)
def L_J13_bitCount_l_48 (G : ab_G) (fr : Bool) (n0 : Nat) (tl : ab_H) (K : Int32 → ms_S → Prop) (S : ms_S) (l0 : Int64) : Prop := wp G 1 M_J13_bitCount_l fr n0 (poI lZ tl K) 48 [some (.long l0), none] [] (hLy lZ S tl)
def L_J13_bitCount_l_55 (G : ab_G) (fr : Bool) (n0 : Nat) (tl : ab_H) (K : Int32 → ms_S → Prop) (S : ms_S) (l0 : Int64) : Prop := wp G 1 M_J13_bitCount_l fr n0 (poI lZ tl K) 55 [some (.long l0), none] [] (hLy lZ S tl)
set_option maxRecDepth 100000 in
set_option maxHeartbeats 4000000 in
theorem b_J13_bitCount_l_10 {G : ab_G} {fr : Bool} {n0 : Nat} {tl : ab_H} {K : Int32 → ms_S → Prop} {S : ms_S} {l0 : Int64}
    (h : L_J13_bitCount_l_24 G fr n0 tl K S ((l0 &&& ((3689348814741910323 : Int64))) + (((l0.toUInt64 >>> ((nI 2).toInt64.toUInt64 &&& Int64.toUInt64 63)).toInt64) &&& ((3689348814741910323 : Int64))))) :
    L_J13_bitCount_l_10 G fr n0 tl K S l0 := by
  unfold L_J13_bitCount_l_10
  iterate 10 refine ws_b rfl ?_
  exact wp_weak (wk_s (wk_s wk_0)) h
set_option maxRecDepth 100000 in
set_option maxHeartbeats 4000000 in
theorem b_J13_bitCount_l_24 {G : ab_G} {fr : Bool} {n0 : Nat} {tl : ab_H} {K : Int32 → ms_S → Prop} {S : ms_S} {l0 : Int64}
    (h : L_J13_bitCount_l_34 G fr n0 tl K S ((l0 + ((l0.toUInt64 >>> ((nI 4).toInt64.toUInt64 &&& Int64.toUInt64 63)).toInt64)) &&& ((1085102592571150095 : Int64)))) :
    L_J13_bitCount_l_24 G fr n0 tl K S l0 := by
  unfold L_J13_bitCount_l_24
  iterate 8 refine ws_b rfl ?_
  exact wp_weak (wk_s (wk_s wk_0)) h
set_option maxRecDepth 100000 in
set_option maxHeartbeats 4000000 in
theorem b_J13_bitCount_l_34 {G : ab_G} {fr : Bool} {n0 : Nat} {tl : ab_H} {K : Int32 → ms_S → Prop} {S : ms_S} {l0 : Int64}
    (h : L_J13_bitCount_l_41 G fr n0 tl K S (l0 + ((l0.toUInt64 >>> ((nI 8).toInt64.toUInt64 &&& Int64.toUInt64 63)).toInt64))) :
    L_J13_bitCount_l_34 G fr n0 tl K S l0 := by
  unfold L_J13_bitCount_l_34
  iterate 6 refine ws_b rfl ?_
  exact wp_weak (wk_s (wk_s wk_0)) h
set_option maxRecDepth 100000 in
set_option maxHeartbeats 4000000 in
theorem b_J13_bitCount_l_41 {G : ab_G} {fr : Bool} {n0 : Nat} {tl : ab_H} {K : Int32 → ms_S → Prop} {S : ms_S} {l0 : Int64}
    (h : L_J13_bitCount_l_48 G fr n0 tl K S (l0 + ((l0.toUInt64 >>> ((nI 16).toInt64.toUInt64 &&& Int64.toUInt64 63)).toInt64))) :
    L_J13_bitCount_l_41 G fr n0 tl K S l0 := by
  unfold L_J13_bitCount_l_41
  iterate 6 refine ws_b rfl ?_
  exact wp_weak (wk_s (wk_s wk_0)) h
set_option maxRecDepth 100000 in
set_option maxHeartbeats 4000000 in
theorem b_J13_bitCount_l_48 {G : ab_G} {fr : Bool} {n0 : Nat} {tl : ab_H} {K : Int32 → ms_S → Prop} {S : ms_S} {l0 : Int64}
    (h : L_J13_bitCount_l_55 G fr n0 tl K S (l0 + ((l0.toUInt64 >>> ((nI 32).toInt64.toUInt64 &&& Int64.toUInt64 63)).toInt64))) :
    L_J13_bitCount_l_48 G fr n0 tl K S l0 := by
  unfold L_J13_bitCount_l_48
  iterate 6 refine ws_b rfl ?_
  exact wp_weak (wk_s (wk_s wk_0)) h
set_option maxRecDepth 100000 in
set_option maxHeartbeats 4000000 in
theorem b_J13_bitCount_l_55 {G : ab_G} {fr : Bool} {n0 : Nat} {tl : ab_H} {K : Int32 → ms_S → Prop} {S : ms_S} {l0 : Int64}
    (h : K (l0.toInt32 &&& (nI 127)) S) :
    L_J13_bitCount_l_55 G fr n0 tl K S l0 := by
  unfold L_J13_bitCount_l_55
  iterate 4 refine ws_b rfl ?_
  exact wp_ri rfl rfl rfl ⟨_, _, rfl, rfl, h⟩
set_option maxRecDepth 100000 in
set_option maxHeartbeats 4000000 in
theorem m_J13_bitCount_l {G : ab_G} {fr : Bool} {tl : ab_H} {K : Int32 → ms_S → Prop} {S : ms_S} {l0 : Int64}
    (h : ∀ n0 : Nat, L_J13_bitCount_l_10 G fr n0 tl K S (l0 - (((l0.toUInt64 >>> ((nI 1).toInt64.toUInt64 &&& Int64.toUInt64 63)).toInt64) &&& ((6148914691236517205 : Int64))))) :
    ctI G 1 M_J13_bitCount_l fr [.long l0] lZ S tl K := by
  refine wp_ct o_J13_bitCount_l (Nat.le_of_ble_eq_true rfl) ?_
  replace h := h (hLy lZ S tl).length
  revert h
  generalize (hLy lZ S tl).length = n0
  intro h
  iterate 8 refine ws_b rfl ?_
  exact wp_weak (wk_s (wk_s wk_0)) h
def L_J13_numberOfTrailingZeros_l_25 (G : ab_G) (fr : Bool) (n0 : Nat) (tl : ab_H) (K : Int32 → ms_S → Prop) (S : ms_S) (t0 : Int32) : Prop := wp G 2 M_J13_numberOfTrailingZeros_l fr n0 (poI lZ tl K) 25 [none, none, none] [.int t0] (hLy lZ S tl)
set_option maxRecDepth 100000 in
set_option maxHeartbeats 4000000 in
theorem b_J13_numberOfTrailingZeros_l_25 {G : ab_G} {fr : Bool} {n0 : Nat} {tl : ab_H} {K : Int32 → ms_S → Prop} {S : ms_S} {t0 : Int32}
    (h : K t0 S) :
    L_J13_numberOfTrailingZeros_l_25 G fr n0 tl K S t0 := by
  unfold L_J13_numberOfTrailingZeros_l_25
  exact wp_ri rfl rfl rfl ⟨_, _, rfl, rfl, h⟩
set_option maxRecDepth 100000 in
set_option maxHeartbeats 4000000 in
theorem m_J13_numberOfTrailingZeros_l {G : ab_G} {fr : Bool} {tl : ab_H} {K : Int32 → ms_S → Prop} {S : ms_S} {l0 : Int64}
    (h : ∀ n0 : Nat, (l0.toInt32 = 0 → (ctI G 1 M_J6_numberOfTrailingZeros fr [.int (((l0.toUInt64 >>> ((nI 32).toInt64.toUInt64 &&& Int64.toUInt64 63)).toInt64).toInt32)] lZ S tl (fun v1 S1 => L_J13_numberOfTrailingZeros_l_25 G fr n0 tl K S1 ((nI 32) + v1)))) ∧ (¬ l0.toInt32 = 0 → (ctI G 1 M_J6_numberOfTrailingZeros fr [.int l0.toInt32] lZ S tl (fun v2 S2 => L_J13_numberOfTrailingZeros_l_25 G fr n0 tl K S2 v2)))) :
    ctI G 2 M_J13_numberOfTrailingZeros_l fr [.long l0] lZ S tl K := by
  refine wp_ct o_J13_numberOfTrailingZeros_l (Nat.le_of_ble_eq_true rfl) ?_
  replace h := h (hLy lZ S tl).length
  revert h
  generalize (hLy lZ S tl).length = n0
  intro h
  iterate 5 refine ws_b rfl ?_
  refine wp_ite (fun q => ?_) (fun q => ?_)
  · replace h := h.1 q
    iterate 5 refine ws_b rfl ?_
    refine wp_cS rfl rfl o_J6_numberOfTrailingZeros s_J6_numberOfTrailingZeros h rfl rfl (Nat.le_of_ble_eq_true rfl) (by decide) ?_
    clear h
    rintro r9 h9 ⟨v1, S1, rfl, e9, h⟩
    rw [e9]
    clear e9
    iterate 2 refine ws_b rfl ?_
    exact wp_weak (wk_n (wk_s (wk_n wk_0))) h
  · replace h := h.2 q
    refine ws_b rfl ?_
    refine wp_cS rfl rfl o_J6_numberOfTrailingZeros s_J6_numberOfTrailingZeros h rfl rfl (Nat.le_of_ble_eq_true rfl) (by decide) ?_
    clear h
    rintro r9 h9 ⟨v2, S2, rfl, e9, h⟩
    rw [e9]
    clear e9
    exact wp_weak (wk_n (wk_s (wk_n wk_0))) h
def L_X4_product_12 (G : ab_G) (fr : Bool) (n0 : Nat) (tl : ab_H) (K : Int64 → ms_S → Prop) (S : ms_S) (l0 : Int64) (l2 : Int64) (w0 : Int64) : Prop := wp G 1 M_X4_product fr n0 (poL lZ tl K) 12 [some (.long l0), none, some (.long l2), none, none, none, none, none] [.long w0] (hLy lZ S tl)
def L_X4_product_26 (G : ab_G) (fr : Bool) (n0 : Nat) (tl : ab_H) (K : Int64 → ms_S → Prop) (S : ms_S) (l0 : Int64) (l2 : Int64) (l4 : Int64) (w0 : Int64) : Prop := wp G 1 M_X4_product fr n0 (poL lZ tl K) 26 [some (.long l0), none, some (.long l2), none, some (.long l4), none, none, none] [.long w0] (hLy lZ S tl)
def L_X4_product_53 (G : ab_G) (fr : Bool) (n0 : Nat) (tl : ab_H) (K : Int64 → ms_S → Prop) (S : ms_S) (l0 : Int64) (l2 : Int64) : Prop := wp G 1 M_X4_product fr n0 (poL lZ tl K) 53 [some (.long l0), none, some (.long l2), none, none, none, none, none] [] (hLy lZ S tl)
def L_X4_product_56 (G : ab_G) (fr : Bool) (n0 : Nat) (tl : ab_H) (K : Int64 → ms_S → Prop) (S : ms_S) (w0 : Int64) : Prop := wp G 1 M_X4_product fr n0 (poL lZ tl K) 56 [none, none, none, none, none, none, none, none] [.long w0] (hLy lZ S tl)
set_option maxRecDepth 100000 in
set_option maxHeartbeats 4000000 in
theorem b_X4_product_12 {G : ab_G} {fr : Bool} {n0 : Nat} {tl : ab_H} {K : Int64 → ms_S → Prop} {S : ms_S} {l0 : Int64} {l2 : Int64} {w0 : Int64}
    (h : (0 ≤ (lg_cmp l2 (lN 0)) → (L_X4_product_26 G fr n0 tl K S l0 l2 w0 l2)) ∧ (¬ 0 ≤ (lg_cmp l2 (lN 0)) → (L_X4_product_26 G fr n0 tl K S l0 l2 w0 (-l2)))) :
    L_X4_product_12 G fr n0 tl K S l0 l2 w0 := by
  unfold L_X4_product_12
  iterate 5 refine ws_b rfl ?_
  refine wp_ite (fun q => ?_) (fun q => ?_)
  · replace h := h.1 q
    refine ws_b rfl ?_
    exact wp_weak (wk_s (wk_s (wk_s (wk_s (wk_s (wk_s (wk_s (wk_s wk_0)))))))) h
  · replace h := h.2 q
    iterate 3 refine ws_b rfl ?_
    exact wp_weak (wk_s (wk_s (wk_s (wk_s (wk_s (wk_s (wk_s (wk_s wk_0)))))))) h
set_option maxRecDepth 100000 in
set_option maxHeartbeats 4000000 in
theorem b_X4_product_26 {G : ab_G} {fr : Bool} {n0 : Nat} {tl : ab_H} {K : Int64 → ms_S → Prop} {S : ms_S} {l0 : Int64} {l2 : Int64} {l4 : Int64} {w0 : Int64}
    (h : ((lg_cmp l4 (lN 0)) = 0 → (L_X4_product_53 G fr n0 tl K S l0 l2)) ∧ (¬ (lg_cmp l4 (lN 0)) = 0 → (¬ l4 = 0 ∧ (((lg_cmp w0 (((1000000000000 : Int64)) / l4)) ≤ 0 → (L_X4_product_53 G fr n0 tl K S l0 l2)) ∧ (¬ (lg_cmp w0 (((1000000000000 : Int64)) / l4)) ≤ 0 → (L_X4_product_56 G fr n0 tl K S ((-9223372036854775808 : Int64)))))))) :
    L_X4_product_26 G fr n0 tl K S l0 l2 l4 w0 := by
  unfold L_X4_product_26
  iterate 5 refine ws_b rfl ?_
  refine wp_ite (fun q => ?_) (fun q => ?_)
  · replace h := h.1 q
    exact wp_weak (wk_s (wk_s (wk_s (wk_s (wk_n (wk_s (wk_n (wk_s wk_0)))))))) h
  · replace h := h.2 q
    iterate 3 refine ws_b rfl ?_
    refine ws_g rfl h.1 ?_
    replace h := h.2
    iterate 2 refine ws_b rfl ?_
    refine wp_ite (fun q => ?_) (fun q => ?_)
    · replace h := h.1 q
      exact wp_weak (wk_s (wk_s (wk_s (wk_s (wk_n (wk_s (wk_n (wk_s wk_0)))))))) h
    · replace h := h.2 q
      iterate 2 refine ws_b rfl ?_
      exact wp_weak (wk_n (wk_s (wk_n (wk_s (wk_n (wk_s (wk_n (wk_s wk_0)))))))) h
set_option maxRecDepth 100000 in
set_option maxHeartbeats 4000000 in
theorem b_X4_product_53 {G : ab_G} {fr : Bool} {n0 : Nat} {tl : ab_H} {K : Int64 → ms_S → Prop} {S : ms_S} {l0 : Int64} {l2 : Int64}
    (h : L_X4_product_56 G fr n0 tl K S (l0 * l2)) :
    L_X4_product_53 G fr n0 tl K S l0 l2 := by
  unfold L_X4_product_53
  iterate 3 refine ws_b rfl ?_
  exact wp_weak (wk_n (wk_s (wk_n (wk_s (wk_s (wk_s (wk_s (wk_s wk_0)))))))) h
set_option maxRecDepth 100000 in
set_option maxHeartbeats 4000000 in
theorem b_X4_product_56 {G : ab_G} {fr : Bool} {n0 : Nat} {tl : ab_H} {K : Int64 → ms_S → Prop} {S : ms_S} {w0 : Int64}
    (h : K w0 S) :
    L_X4_product_56 G fr n0 tl K S w0 := by
  unfold L_X4_product_56
  exact wp_rl rfl rfl ⟨_, _, rfl, rfl, h⟩
set_option maxRecDepth 100000 in
set_option maxHeartbeats 4000000 in
theorem m_X4_product {G : ab_G} {fr : Bool} {tl : ab_H} {K : Int64 → ms_S → Prop} {S : ms_S} {l0 : Int64} {l2 : Int64}
    (h : ∀ n0 : Nat, (0 ≤ (lg_cmp l0 (lN 0)) → (L_X4_product_12 G fr n0 tl K S l0 l2 l0)) ∧ (¬ 0 ≤ (lg_cmp l0 (lN 0)) → (L_X4_product_12 G fr n0 tl K S l0 l2 (-l0)))) :
    ctL G 1 M_X4_product fr [.long l0, .long l2] lZ S tl K := by
  refine wp_ct o_X4_product (Nat.le_of_ble_eq_true rfl) ?_
  replace h := h (hLy lZ S tl).length
  revert h
  generalize (hLy lZ S tl).length = n0
  intro h
  iterate 4 refine ws_b rfl ?_
  refine wp_ite (fun q => ?_) (fun q => ?_)
  · replace h := h.1 q
    refine ws_b rfl ?_
    exact wp_weak (wk_s (wk_s (wk_s (wk_s (wk_s (wk_s (wk_s (wk_s wk_0)))))))) h
  · replace h := h.2 q
    iterate 3 refine ws_b rfl ?_
    exact wp_weak (wk_s (wk_s (wk_s (wk_s (wk_s (wk_s (wk_s (wk_s wk_0)))))))) h
set_option maxRecDepth 100000 in
set_option maxHeartbeats 4000000 in
theorem m_X4_resultOf {G : ab_G} {fr : Bool} {tl : ab_H} {K : Int64 → ms_S → Prop} {S : ms_S} {i0 : Int32} {l1 : Int64} {l3 : Int64}
    (h : ∀ n0 : Nat, (i0 = nI 8 → (((lg_cmp l1 (lN 0)) = 0 → (((lg_cmp l3 (lN 0)) = 0 → (K (lN 0) S)) ∧ (¬ (lg_cmp l3 (lN 0)) = 0 → (K (lN 1) S)))) ∧ (¬ (lg_cmp l1 (lN 0)) = 0 → (K (lN 1) S)))) ∧ (i0 = nI 9 → (((lg_cmp l1 (lN 0)) = 0 → (K (lN 0) S)) ∧ (¬ (lg_cmp l1 (lN 0)) = 0 → (((lg_cmp l3 (lN 0)) = 0 → (K (lN 0) S)) ∧ (¬ (lg_cmp l3 (lN 0)) = 0 → (K (lN 1) S)))))) ∧ (i0 = nI 11 → ((0 ≤ (lg_cmp l1 l3) → (K (lN 0) S)) ∧ (¬ 0 ≤ (lg_cmp l1 l3) → (K (lN 1) S)))) ∧ (i0 = nI 12 → ((0 < (lg_cmp l1 l3) → (K (lN 0) S)) ∧ (¬ 0 < (lg_cmp l1 l3) → (K (lN 1) S)))) ∧ (i0 = nI 13 → (((lg_cmp l1 l3) = 0 → (K (lN 1) S)) ∧ (¬ (lg_cmp l1 l3) = 0 → (K (lN 0) S)))) ∧ (i0 = nI 14 → (((lg_cmp l1 l3) = 0 → (K (lN 0) S)) ∧ (¬ (lg_cmp l1 l3) = 0 → (K (lN 1) S)))) ∧ (i0 = nI 15 → (((lg_cmp l1 l3) < 0 → (K (lN 0) S)) ∧ (¬ (lg_cmp l1 l3) < 0 → (K (lN 1) S)))) ∧ (i0 = nI 16 → (((lg_cmp l1 l3) ≤ 0 → (K (lN 0) S)) ∧ (¬ (lg_cmp l1 l3) ≤ 0 → (K (lN 1) S)))) ∧ (i0 = nI 17 → (K (l1 + l3) S)) ∧ (i0 = nI 18 → (K (l1 - l3) S)) ∧ (i0 = nI 19 → (ctL G 1 M_X4_product fr [.long l1, .long l3] lZ S tl (fun v1 S1 => K v1 S1))) ∧ (i0 = nI 20 → (((lg_cmp l3 (lN 0)) = 0 → (K ((-9223372036854775808 : Int64)) S)) ∧ (¬ (lg_cmp l3 (lN 0)) = 0 → (¬ l3 = 0 ∧ (K (l1 / l3) S))))) ∧ (¬ i0 = nI 8 → ¬ i0 = nI 9 → ¬ i0 = nI 11 → ¬ i0 = nI 12 → ¬ i0 = nI 13 → ¬ i0 = nI 14 → ¬ i0 = nI 15 → ¬ i0 = nI 16 → ¬ i0 = nI 17 → ¬ i0 = nI 18 → ¬ i0 = nI 19 → ¬ i0 = nI 20 → (K ((-9223372036854775808 : Int64)) S))) :
    ctL G 2 M_X4_resultOf fr [.int i0, .long l1, .long l3] lZ S tl K := by
  refine wp_ct o_X4_resultOf (Nat.le_of_ble_eq_true rfl) ?_
  replace h := h (hLy lZ S tl).length
  revert h
  generalize (hLy lZ S tl).length = n0
  intro h
  refine ws_b rfl ?_
  by_cases q8 : i0 = nI 8
  · refine wp_tswN (nI 8) 68 (67) rfl q8 rfl rfl rfl rfl ?_
    replace h := h.1 q8
    iterate 4 refine ws_b rfl ?_
    refine wp_ite (fun q => ?_) (fun q => ?_)
    · replace h := h.1 q
      iterate 4 refine ws_b rfl ?_
      refine wp_ite (fun q => ?_) (fun q => ?_)
      · replace h := h.1 q
        refine ws_b rfl ?_
        exact wp_rl rfl rfl ⟨_, _, rfl, rfl, h⟩
      · replace h := h.2 q
        iterate 2 refine ws_b rfl ?_
        exact wp_rl rfl rfl ⟨_, _, rfl, rfl, h⟩
    · replace h := h.2 q
      iterate 2 refine ws_b rfl ?_
      exact wp_rl rfl rfl ⟨_, _, rfl, rfl, h⟩
  replace h := h.2
  by_cases q9 : i0 = nI 9
  · refine wp_tswN (nI 9) 86 (85) rfl q9 rfl rfl rfl rfl ?_
    replace h := h.1 q9
    iterate 4 refine ws_b rfl ?_
    refine wp_ite (fun q => ?_) (fun q => ?_)
    · replace h := h.1 q
      refine ws_b rfl ?_
      exact wp_rl rfl rfl ⟨_, _, rfl, rfl, h⟩
    · replace h := h.2 q
      iterate 4 refine ws_b rfl ?_
      refine wp_ite (fun q => ?_) (fun q => ?_)
      · replace h := h.1 q
        refine ws_b rfl ?_
        exact wp_rl rfl rfl ⟨_, _, rfl, rfl, h⟩
      · replace h := h.2 q
        iterate 2 refine ws_b rfl ?_
        exact wp_rl rfl rfl ⟨_, _, rfl, rfl, h⟩
  replace h := h.2
  by_cases q11 : i0 = nI 11
  · refine wp_tswN (nI 11) 104 (103) rfl q11 rfl rfl rfl rfl ?_
    replace h := h.1 q11
    iterate 4 refine ws_b rfl ?_
    refine wp_ite (fun q => ?_) (fun q => ?_)
    · replace h := h.1 q
      refine ws_b rfl ?_
      exact wp_rl rfl rfl ⟨_, _, rfl, rfl, h⟩
    · replace h := h.2 q
      iterate 2 refine ws_b rfl ?_
      exact wp_rl rfl rfl ⟨_, _, rfl, rfl, h⟩
  replace h := h.2
  by_cases q12 : i0 = nI 12
  · refine wp_tswN (nI 12) 116 (115) rfl q12 rfl rfl rfl rfl ?_
    replace h := h.1 q12
    iterate 4 refine ws_b rfl ?_
    refine wp_ite (fun q => ?_) (fun q => ?_)
    · replace h := h.1 q
      refine ws_b rfl ?_
      exact wp_rl rfl rfl ⟨_, _, rfl, rfl, h⟩
    · replace h := h.2 q
      iterate 2 refine ws_b rfl ?_
      exact wp_rl rfl rfl ⟨_, _, rfl, rfl, h⟩
  replace h := h.2
  by_cases q13 : i0 = nI 13
  · refine wp_tswN (nI 13) 128 (127) rfl q13 rfl rfl rfl rfl ?_
    replace h := h.1 q13
    iterate 4 refine ws_b rfl ?_
    refine wp_ite (fun q => ?_) (fun q => ?_)
    · replace h := h.1 q
      iterate 2 refine ws_b rfl ?_
      exact wp_rl rfl rfl ⟨_, _, rfl, rfl, h⟩
    · replace h := h.2 q
      refine ws_b rfl ?_
      exact wp_rl rfl rfl ⟨_, _, rfl, rfl, h⟩
  replace h := h.2
  by_cases q14 : i0 = nI 14
  · refine wp_tswN (nI 14) 140 (139) rfl q14 rfl rfl rfl rfl ?_
    replace h := h.1 q14
    iterate 4 refine ws_b rfl ?_
    refine wp_ite (fun q => ?_) (fun q => ?_)
    · replace h := h.1 q
      refine ws_b rfl ?_
      exact wp_rl rfl rfl ⟨_, _, rfl, rfl, h⟩
    · replace h := h.2 q
      iterate 2 refine ws_b rfl ?_
      exact wp_rl rfl rfl ⟨_, _, rfl, rfl, h⟩
  replace h := h.2
  by_cases q15 : i0 = nI 15
  · refine wp_tswN (nI 15) 152 (151) rfl q15 rfl rfl rfl rfl ?_
    replace h := h.1 q15
    iterate 4 refine ws_b rfl ?_
    refine wp_ite (fun q => ?_) (fun q => ?_)
    · replace h := h.1 q
      refine ws_b rfl ?_
      exact wp_rl rfl rfl ⟨_, _, rfl, rfl, h⟩
    · replace h := h.2 q
      iterate 2 refine ws_b rfl ?_
      exact wp_rl rfl rfl ⟨_, _, rfl, rfl, h⟩
  replace h := h.2
  by_cases q16 : i0 = nI 16
  · refine wp_tswN (nI 16) 164 (163) rfl q16 rfl rfl rfl rfl ?_
    replace h := h.1 q16
    iterate 4 refine ws_b rfl ?_
    refine wp_ite (fun q => ?_) (fun q => ?_)
    · replace h := h.1 q
      refine ws_b rfl ?_
      exact wp_rl rfl rfl ⟨_, _, rfl, rfl, h⟩
    · replace h := h.2 q
      iterate 2 refine ws_b rfl ?_
      exact wp_rl rfl rfl ⟨_, _, rfl, rfl, h⟩
  replace h := h.2
  by_cases q17 : i0 = nI 17
  · refine wp_tswN (nI 17) 176 (175) rfl q17 rfl rfl rfl rfl ?_
    replace h := h.1 q17
    iterate 3 refine ws_b rfl ?_
    exact wp_rl rfl rfl ⟨_, _, rfl, rfl, h⟩
  replace h := h.2
  by_cases q18 : i0 = nI 18
  · refine wp_tswN (nI 18) 180 (179) rfl q18 rfl rfl rfl rfl ?_
    replace h := h.1 q18
    iterate 3 refine ws_b rfl ?_
    exact wp_rl rfl rfl ⟨_, _, rfl, rfl, h⟩
  replace h := h.2
  by_cases q19 : i0 = nI 19
  · refine wp_tswN (nI 19) 184 (183) rfl q19 rfl rfl rfl rfl ?_
    replace h := h.1 q19
    iterate 2 refine ws_b rfl ?_
    refine wp_cS rfl rfl o_X4_product s_X4_product h rfl rfl (Nat.le_of_ble_eq_true rfl) (by decide) ?_
    clear h
    rintro r9 h9 ⟨v1, S1, rfl, e9, h⟩
    rw [e9]
    clear e9
    exact wp_rl rfl rfl ⟨_, _, rfl, rfl, h⟩
  replace h := h.2
  by_cases q20 : i0 = nI 20
  · refine wp_tswN (nI 20) 190 (189) rfl q20 rfl rfl rfl rfl ?_
    replace h := h.1 q20
    iterate 4 refine ws_b rfl ?_
    refine wp_ite (fun q => ?_) (fun q => ?_)
    · replace h := h.1 q
      iterate 2 refine ws_b rfl ?_
      exact wp_rl rfl rfl ⟨_, _, rfl, rfl, h⟩
    · replace h := h.2 q
      iterate 2 refine ws_b rfl ?_
      refine ws_g rfl h.1 ?_
      replace h := h.2
      exact wp_rl rfl rfl ⟨_, _, rfl, rfl, h⟩
  replace h := h.2
  refine wp_tswD 206 [nI 8, nI 9, nI 11, nI 12, nI 13, nI 14, nI 15, nI 16, nI 17, nI 18, nI 19, nI 20] rfl (by decide) (by intro k9 hk9; rcases List.mem_cons.mp hk9 with rfl | hk9; exact q8; rcases List.mem_cons.mp hk9 with rfl | hk9; exact q9; rcases List.mem_cons.mp hk9 with rfl | hk9; exact q11; rcases List.mem_cons.mp hk9 with rfl | hk9; exact q12; rcases List.mem_cons.mp hk9 with rfl | hk9; exact q13; rcases List.mem_cons.mp hk9 with rfl | hk9; exact q14; rcases List.mem_cons.mp hk9 with rfl | hk9; exact q15; rcases List.mem_cons.mp hk9 with rfl | hk9; exact q16; rcases List.mem_cons.mp hk9 with rfl | hk9; exact q17; rcases List.mem_cons.mp hk9 with rfl | hk9; exact q18; rcases List.mem_cons.mp hk9 with rfl | hk9; exact q19; rcases List.mem_cons.mp hk9 with rfl | hk9; exact q20; exact nomatch hk9) rfl ?_
  replace h := h q8 q9 q11 q12 q13 q14 q15 q16 q17 q18 q19 q20
  refine ws_b rfl ?_
  exact wp_rl rfl rfl ⟨_, _, rfl, rfl, h⟩
def L_X2_isBetter_14 (G : ab_G) (fr : Bool) (n0 : Nat) (tl : ab_H) (K : Int32 → ms_S → Prop) (S : ms_S) (i0 : Int32) (i1 : Int32) (i2 : Int32) (t0 : Int32) : Prop := wp G 1 M_X2_isBetter fr n0 (poI lZ tl K) 14 [some (.int i0), some (.int i1), some (.int i2), none, none] [.int t0] (hLy lZ S tl)
def L_X2_isBetter_29 (G : ab_G) (fr : Bool) (n0 : Nat) (tl : ab_H) (K : Int32 → ms_S → Prop) (S : ms_S) (i0 : Int32) (i1 : Int32) (i3 : Int32) (t0 : Int32) : Prop := wp G 1 M_X2_isBetter fr n0 (poI lZ tl K) 29 [some (.int i0), some (.int i1), none, some (.int i3), none] [.int t0] (hLy lZ S tl)
def L_X2_isBetter_66 (G : ab_G) (fr : Bool) (n0 : Nat) (tl : ab_H) (K : Int32 → ms_S → Prop) (S : ms_S) (t0 : Int32) : Prop := wp G 1 M_X2_isBetter fr n0 (poI lZ tl K) 66 [none, none, none, none, none] [.int t0] (hLy lZ S tl)
set_option maxRecDepth 100000 in
set_option maxHeartbeats 4000000 in
theorem b_X2_isBetter_14 {G : ab_G} {fr : Bool} {n0 : Nat} {tl : ab_H} {K : Int32 → ms_S → Prop} {S : ms_S} {i0 : Int32} {i1 : Int32} {i2 : Int32} {t0 : Int32}
    (h : ¬ (nI 2) = 0 ∧ ((((i1 - i2) - (i1 - i2) / (nI 2) * (nI 2)) = (nI 1) → (L_X2_isBetter_29 G fr n0 tl K S i0 i1 t0 (nI 1))) ∧ (¬ ((i1 - i2) - (i1 - i2) / (nI 2) * (nI 2)) = (nI 1) → (L_X2_isBetter_29 G fr n0 tl K S i0 i1 t0 (nI 0))))) :
    L_X2_isBetter_14 G fr n0 tl K S i0 i1 i2 t0 := by
  unfold L_X2_isBetter_14
  iterate 5 refine ws_b rfl ?_
  refine ws_g rfl h.1 ?_
  replace h := h.2
  iterate 2 refine ws_b rfl ?_
  refine wp_ite (fun q => ?_) (fun q => ?_)
  · replace h := h.1 q
    iterate 2 refine ws_b rfl ?_
    exact wp_weak (wk_s (wk_s (wk_n (wk_s (wk_s wk_0))))) h
  · replace h := h.2 q
    refine ws_b rfl ?_
    exact wp_weak (wk_s (wk_s (wk_n (wk_s (wk_s wk_0))))) h
set_option maxRecDepth 100000 in
set_option maxHeartbeats 4000000 in
theorem b_X2_isBetter_29 {G : ab_G} {fr : Bool} {n0 : Nat} {tl : ab_H} {K : Int32 → ms_S → Prop} {S : ms_S} {i0 : Int32} {i1 : Int32} {i3 : Int32} {t0 : Int32}
    (h : (i3 = t0 → ((i3 = 0 → ((i0 ≤ i1 → (L_X2_isBetter_66 G fr n0 tl K S (nI 0))) ∧ (¬ i0 ≤ i1 → (L_X2_isBetter_66 G fr n0 tl K S (nI 1))))) ∧ (¬ i3 = 0 → ((i1 ≤ i0 → (L_X2_isBetter_66 G fr n0 tl K S (nI 0))) ∧ (¬ i1 ≤ i0 → (L_X2_isBetter_66 G fr n0 tl K S (nI 1))))))) ∧ (¬ i3 = t0 → ((i3 = 0 ∨ i3 = 1) ∧ K i3 S))) :
    L_X2_isBetter_29 G fr n0 tl K S i0 i1 i3 t0 := by
  unfold L_X2_isBetter_29
  iterate 4 refine ws_b rfl ?_
  refine wp_ite (fun q => ?_) (fun q => ?_)
  · replace h := h.1 q
    iterate 2 refine ws_b rfl ?_
    refine wp_ite (fun q => ?_) (fun q => ?_)
    · replace h := h.1 q
      iterate 3 refine ws_b rfl ?_
      refine wp_ite (fun q => ?_) (fun q => ?_)
      · replace h := h.1 q
        refine ws_b rfl ?_
        exact wp_weak (wk_n (wk_n (wk_s (wk_n (wk_n wk_0))))) h
      · replace h := h.2 q
        iterate 2 refine ws_b rfl ?_
        exact wp_weak (wk_n (wk_n (wk_s (wk_n (wk_n wk_0))))) h
    · replace h := h.2 q
      iterate 3 refine ws_b rfl ?_
      refine wp_ite (fun q => ?_) (fun q => ?_)
      · replace h := h.1 q
        iterate 2 refine ws_b rfl ?_
        exact wp_weak (wk_n (wk_n (wk_s (wk_n (wk_n wk_0))))) h
      · replace h := h.2 q
        iterate 2 refine ws_b rfl ?_
        exact wp_weak (wk_n (wk_n (wk_s (wk_n (wk_n wk_0))))) h
  · replace h := h.2 q
    refine ws_b rfl ?_
    exact wp_ri rfl rfl (nw_b h.1) ⟨_, _, rfl, rfl, h.2⟩
set_option maxRecDepth 100000 in
set_option maxHeartbeats 4000000 in
theorem b_X2_isBetter_66 {G : ab_G} {fr : Bool} {n0 : Nat} {tl : ab_H} {K : Int32 → ms_S → Prop} {S : ms_S} {t0 : Int32}
    (h : (t0 = 0 ∨ t0 = 1) ∧ K t0 S) :
    L_X2_isBetter_66 G fr n0 tl K S t0 := by
  unfold L_X2_isBetter_66
  exact wp_ri rfl rfl (nw_b h.1) ⟨_, _, rfl, rfl, h.2⟩
set_option maxRecDepth 100000 in
set_option maxHeartbeats 4000000 in
theorem m_X2_isBetter {G : ab_G} {fr : Bool} {tl : ab_H} {K : Int32 → ms_S → Prop} {S : ms_S} {i0 : Int32} {i1 : Int32} {i2 : Int32}
    (h : ∀ n0 : Nat, ¬ (nI 2) = 0 ∧ ((((i0 - i2) - (i0 - i2) / (nI 2) * (nI 2)) = (nI 1) → (L_X2_isBetter_14 G fr n0 tl K S i0 i1 i2 (nI 1))) ∧ (¬ ((i0 - i2) - (i0 - i2) / (nI 2) * (nI 2)) = (nI 1) → (L_X2_isBetter_14 G fr n0 tl K S i0 i1 i2 (nI 0))))) :
    ctI G 1 M_X2_isBetter fr [.int i0, .int i1, .int i2] lZ S tl K := by
  refine wp_ct o_X2_isBetter (Nat.le_of_ble_eq_true rfl) ?_
  replace h := h (hLy lZ S tl).length
  revert h
  generalize (hLy lZ S tl).length = n0
  intro h
  iterate 4 refine ws_b rfl ?_
  refine ws_g rfl h.1 ?_
  replace h := h.2
  iterate 2 refine ws_b rfl ?_
  refine wp_ite (fun q => ?_) (fun q => ?_)
  · replace h := h.1 q
    iterate 2 refine ws_b rfl ?_
    exact wp_weak (wk_s (wk_s (wk_s (wk_s (wk_s wk_0))))) h
  · replace h := h.2 q
    refine ws_b rfl ?_
    exact wp_weak (wk_s (wk_s (wk_s (wk_s (wk_s wk_0))))) h
set_option maxRecDepth 100000 in
set_option maxHeartbeats 4000000 in
theorem m_X5_isSign {G : ab_G} {fr : Bool} {tl : ab_H} {K : Int32 → ms_S → Prop} {S : ms_S} {i0 : Int32}
    (h : ∀ n0 : Nat, (i0 < (nI 8) → (K (nI 0) S)) ∧ (¬ i0 < (nI 8) → (((nI 20) < i0 → (K (nI 0) S)) ∧ (¬ (nI 20) < i0 → ((i0 = (nI 10) → (K (nI 0) S)) ∧ (¬ i0 = (nI 10) → (K (nI 1) S))))))) :
    ctI G 1 M_X5_isSign fr [.int i0] lZ S tl K := by
  refine wp_ct o_X5_isSign (Nat.le_of_ble_eq_true rfl) ?_
  replace h := h (hLy lZ S tl).length
  revert h
  generalize (hLy lZ S tl).length = n0
  intro h
  iterate 3 refine ws_b rfl ?_
  refine wp_ite (fun q => ?_) (fun q => ?_)
  · replace h := h.1 q
    refine ws_b rfl ?_
    exact wp_ri rfl rfl rfl ⟨_, _, rfl, rfl, h⟩
  · replace h := h.2 q
    iterate 3 refine ws_b rfl ?_
    refine wp_ite (fun q => ?_) (fun q => ?_)
    · replace h := h.1 q
      refine ws_b rfl ?_
      exact wp_ri rfl rfl rfl ⟨_, _, rfl, rfl, h⟩
    · replace h := h.2 q
      iterate 3 refine ws_b rfl ?_
      refine wp_ite (fun q => ?_) (fun q => ?_)
      · replace h := h.1 q
        refine ws_b rfl ?_
        exact wp_ri rfl rfl rfl ⟨_, _, rfl, rfl, h⟩
      · replace h := h.2 q
        iterate 2 refine ws_b rfl ?_
        exact wp_ri rfl rfl rfl ⟨_, _, rfl, rfl, h⟩
set_option maxRecDepth 100000 in
set_option maxHeartbeats 4000000 in
theorem m_X5_isComparison {G : ab_G} {fr : Bool} {tl : ab_H} {K : Int32 → ms_S → Prop} {S : ms_S} {i0 : Int32}
    (h : ∀ n0 : Nat, (i0 < (nI 11) → (K (nI 0) S)) ∧ (¬ i0 < (nI 11) → (((nI 16) < i0 → (K (nI 0) S)) ∧ (¬ (nI 16) < i0 → (K (nI 1) S))))) :
    ctI G 1 M_X5_isComparison fr [.int i0] lZ S tl K := by
  refine wp_ct o_X5_isComparison (Nat.le_of_ble_eq_true rfl) ?_
  replace h := h (hLy lZ S tl).length
  revert h
  generalize (hLy lZ S tl).length = n0
  intro h
  iterate 3 refine ws_b rfl ?_
  refine wp_ite (fun q => ?_) (fun q => ?_)
  · replace h := h.1 q
    refine ws_b rfl ?_
    exact wp_ri rfl rfl rfl ⟨_, _, rfl, rfl, h⟩
  · replace h := h.2 q
    iterate 3 refine ws_b rfl ?_
    refine wp_ite (fun q => ?_) (fun q => ?_)
    · replace h := h.1 q
      refine ws_b rfl ?_
      exact wp_ri rfl rfl rfl ⟨_, _, rfl, rfl, h⟩
    · replace h := h.2 q
      iterate 2 refine ws_b rfl ?_
      exact wp_ri rfl rfl rfl ⟨_, _, rfl, rfl, h⟩
set_option maxRecDepth 100000 in
set_option maxHeartbeats 4000000 in
theorem m_X5_strengthOf {G : ab_G} {fr : Bool} {tl : ab_H} {K : Int32 → ms_S → Prop} {S : ms_S} {i0 : Int32}
    (h : ∀ n0 : Nat, (i0 = (nI 32) → (K (nI 0) S)) ∧ (¬ i0 = (nI 32) → (((nI 10) < i0 → (((nI 16) < i0 → (((nI 18) < i0 → (K (nI 6) S)) ∧ (¬ (nI 18) < i0 → (K (nI 5) S)))) ∧ (¬ (nI 16) < i0 → (K (nI 4) S)))) ∧ (¬ (nI 10) < i0 → (K ((i0 - (nI 8)) + (nI 1)) S))))) :
    ctI G 1 M_X5_strengthOf fr [.int i0] lZ S tl K := by
  refine wp_ct o_X5_strengthOf (Nat.le_of_ble_eq_true rfl) ?_
  replace h := h (hLy lZ S tl).length
  revert h
  generalize (hLy lZ S tl).length = n0
  intro h
  iterate 3 refine ws_b rfl ?_
  refine wp_ite (fun q => ?_) (fun q => ?_)
  · replace h := h.1 q
    refine ws_b rfl ?_
    exact wp_ri rfl rfl rfl ⟨_, _, rfl, rfl, h⟩
  · replace h := h.2 q
    iterate 3 refine ws_b rfl ?_
    refine wp_ite (fun q => ?_) (fun q => ?_)
    · replace h := h.1 q
      iterate 3 refine ws_b rfl ?_
      refine wp_ite (fun q => ?_) (fun q => ?_)
      · replace h := h.1 q
        iterate 3 refine ws_b rfl ?_
        refine wp_ite (fun q => ?_) (fun q => ?_)
        · replace h := h.1 q
          refine ws_b rfl ?_
          exact wp_ri rfl rfl rfl ⟨_, _, rfl, rfl, h⟩
        · replace h := h.2 q
          iterate 2 refine ws_b rfl ?_
          exact wp_ri rfl rfl rfl ⟨_, _, rfl, rfl, h⟩
      · replace h := h.2 q
        refine ws_b rfl ?_
        exact wp_ri rfl rfl rfl ⟨_, _, rfl, rfl, h⟩
    · replace h := h.2 q
      iterate 5 refine ws_b rfl ?_
      exact wp_ri rfl rfl rfl ⟨_, _, rfl, rfl, h⟩
set_option maxRecDepth 100000 in
set_option maxHeartbeats 4000000 in
theorem m_X6_stands {G : ab_G} {fr : Bool} {tl : ab_H} {K : Int32 → ms_S → Prop} {S : ms_S} {i0 : Int32} {i1 : Int32} {i2 : Int32} {i3 : Int32} {l4 : Int64}
    (h : ∀ n0 : Nat, ((lg_cmp ((((l4.toUInt64 >>> (((i0 * (nI 8)) + i1).toInt64.toUInt64 &&& Int64.toUInt64 63)).toInt64) &&& ((l4.toUInt64 >>> (((i2 * (nI 8)) + i3).toInt64.toUInt64 &&& Int64.toUInt64 63)).toInt64)) &&& (lN 1)) (lN 1)) = 0 → (K (nI 1) S)) ∧ (¬ (lg_cmp ((((l4.toUInt64 >>> (((i0 * (nI 8)) + i1).toInt64.toUInt64 &&& Int64.toUInt64 63)).toInt64) &&& ((l4.toUInt64 >>> (((i2 * (nI 8)) + i3).toInt64.toUInt64 &&& Int64.toUInt64 63)).toInt64)) &&& (lN 1)) (lN 1)) = 0 → (K (nI 0) S))) :
    ctI G 1 M_X6_stands fr [.int i0, .int i1, .int i2, .int i3, .long l4] lZ S tl K := by
  refine wp_ct o_X6_stands (Nat.le_of_ble_eq_true rfl) ?_
  replace h := h (hLy lZ S tl).length
  revert h
  generalize (hLy lZ S tl).length = n0
  intro h
  iterate 20 refine ws_b rfl ?_
  refine wp_ite (fun q => ?_) (fun q => ?_)
  · replace h := h.1 q
    iterate 2 refine ws_b rfl ?_
    exact wp_ri rfl rfl rfl ⟨_, _, rfl, rfl, h⟩
  · replace h := h.2 q
    refine ws_b rfl ?_
    exact wp_ri rfl rfl rfl ⟨_, _, rfl, rfl, h⟩
set_option maxRecDepth 100000 in
set_option maxHeartbeats 4000000 in
theorem m_X9_firstsOf {G : ab_G} {fr : Bool} {tl : ab_H} {K : Int64 → ms_S → Prop} {S : ms_S} {l0 : Int64}
    (h : ∀ n0 : Nat, K ((((l0 + ((35887507618889599 : Int64))).toUInt64 >>> ((nI 7).toInt64.toUInt64 &&& Int64.toUInt64 63)).toInt64) &&& ((282578800148737 : Int64))) S) :
    ctL G 1 M_X9_firstsOf fr [.long l0] lZ S tl K := by
  refine wp_ct o_X9_firstsOf (Nat.le_of_ble_eq_true rfl) ?_
  replace h := h (hLy lZ S tl).length
  revert h
  generalize (hLy lZ S tl).length = n0
  intro h
  iterate 7 refine ws_b rfl ?_
  exact wp_rl rfl rfl ⟨_, _, rfl, rfl, h⟩
def L_X10_padded_4 (G : ab_G) (fr : Bool) (n0 : Nat) (tl : ab_H) (K : Int32 → ms_S → Prop) (S : ms_S) (i1 : Int32) (i2 : Int32) : Prop := wp G 1 M_X10_padded fr n0 (poI lZ tl K) 4 [none, some (.int i1), some (.int i2)] [] (hLy lZ S tl)
set_option maxRecDepth 100000 in
set_option maxHeartbeats 4000000 in
theorem b_X10_padded_4 {G : ab_G} {fr : Bool} {n0 : Nat} {tl : ab_H} {K : Int32 → ms_S → Prop} {S : ms_S} {i1 : Int32} {i2 : Int32}
    (h : ((nI 6) ≤ i2 → (K i1 S)) ∧ (¬ (nI 6) ≤ i2 → ((i1 = 0 → (K i1 S)) ∧ (¬ i1 = 0 → ((((33554432 : Int32)) ≤ i1 → (K i1 S)) ∧ (¬ ((33554432 : Int32)) ≤ i1 → (L_X10_padded_4 G fr n0 tl K S (i1 * (nI 32)) (i2 + nI 1)))))))) :
    L_X10_padded_4 G fr n0 tl K S i1 i2 := by
  unfold L_X10_padded_4
  iterate 3 refine ws_b rfl ?_
  refine wp_ite (fun q => ?_) (fun q => ?_)
  · replace h := h.1 q
    refine ws_b rfl ?_
    exact wp_ri rfl rfl rfl ⟨_, _, rfl, rfl, h⟩
  · replace h := h.2 q
    iterate 2 refine ws_b rfl ?_
    refine wp_ite (fun q => ?_) (fun q => ?_)
    · replace h := h.1 q
      refine ws_b rfl ?_
      exact wp_ri rfl rfl rfl ⟨_, _, rfl, rfl, h⟩
    · replace h := h.2 q
      iterate 3 refine ws_b rfl ?_
      refine wp_ite (fun q => ?_) (fun q => ?_)
      · replace h := h.1 q
        refine ws_b rfl ?_
        exact wp_ri rfl rfl rfl ⟨_, _, rfl, rfl, h⟩
      · replace h := h.2 q
        iterate 6 refine ws_b rfl ?_
        exact wp_weak (wk_s (wk_s (wk_s wk_0))) h
set_option maxRecDepth 100000 in
set_option maxHeartbeats 4000000 in
theorem m_X10_padded {G : ab_G} {fr : Bool} {tl : ab_H} {K : Int32 → ms_S → Prop} {S : ms_S} {i0 : Int32}
    (h : ∀ n0 : Nat, L_X10_padded_4 G fr n0 tl K S i0 (nI 0)) :
    ctI G 1 M_X10_padded fr [.int i0] lZ S tl K := by
  refine wp_ct o_X10_padded (Nat.le_of_ble_eq_true rfl) ?_
  replace h := h (hLy lZ S tl).length
  revert h
  generalize (hLy lZ S tl).length = n0
  intro h
  iterate 4 refine ws_b rfl ?_
  exact wp_weak (wk_n (wk_s (wk_s wk_0))) h
set_option maxRecDepth 100000 in
set_option maxHeartbeats 4000000 in
theorem m_X10_isLetter {G : ab_G} {fr : Bool} {tl : ab_H} {K : Int32 → ms_S → Prop} {S : ms_S} {i0 : Int32}
    (h : ∀ n0 : Nat, (i0 < (nI 97) → (K (nI 0) S)) ∧ (¬ i0 < (nI 97) → (((nI 122) < i0 → (K (nI 0) S)) ∧ (¬ (nI 122) < i0 → (K (nI 1) S))))) :
    ctI G 1 M_X10_isLetter fr [.int i0] lZ S tl K := by
  refine wp_ct o_X10_isLetter (Nat.le_of_ble_eq_true rfl) ?_
  replace h := h (hLy lZ S tl).length
  revert h
  generalize (hLy lZ S tl).length = n0
  intro h
  iterate 3 refine ws_b rfl ?_
  refine wp_ite (fun q => ?_) (fun q => ?_)
  · replace h := h.1 q
    refine ws_b rfl ?_
    exact wp_ri rfl rfl rfl ⟨_, _, rfl, rfl, h⟩
  · replace h := h.2 q
    iterate 3 refine ws_b rfl ?_
    refine wp_ite (fun q => ?_) (fun q => ?_)
    · replace h := h.1 q
      refine ws_b rfl ?_
      exact wp_ri rfl rfl rfl ⟨_, _, rfl, rfl, h⟩
    · replace h := h.2 q
      iterate 2 refine ws_b rfl ?_
      exact wp_ri rfl rfl rfl ⟨_, _, rfl, rfl, h⟩
set_option maxRecDepth 100000 in
set_option maxHeartbeats 4000000 in
theorem m_X10_isDigit {G : ab_G} {fr : Bool} {tl : ab_H} {K : Int32 → ms_S → Prop} {S : ms_S} {i0 : Int32}
    (h : ∀ n0 : Nat, (i0 < (nI 48) → (K (nI 0) S)) ∧ (¬ i0 < (nI 48) → (((nI 57) < i0 → (K (nI 0) S)) ∧ (¬ (nI 57) < i0 → (K (nI 1) S))))) :
    ctI G 1 M_X10_isDigit fr [.int i0] lZ S tl K := by
  refine wp_ct o_X10_isDigit (Nat.le_of_ble_eq_true rfl) ?_
  replace h := h (hLy lZ S tl).length
  revert h
  generalize (hLy lZ S tl).length = n0
  intro h
  iterate 3 refine ws_b rfl ?_
  refine wp_ite (fun q => ?_) (fun q => ?_)
  · replace h := h.1 q
    refine ws_b rfl ?_
    exact wp_ri rfl rfl rfl ⟨_, _, rfl, rfl, h⟩
  · replace h := h.2 q
    iterate 3 refine ws_b rfl ?_
    refine wp_ite (fun q => ?_) (fun q => ?_)
    · replace h := h.1 q
      refine ws_b rfl ?_
      exact wp_ri rfl rfl rfl ⟨_, _, rfl, rfl, h⟩
    · replace h := h.2 q
      iterate 2 refine ws_b rfl ?_
      exact wp_ri rfl rfl rfl ⟨_, _, rfl, rfl, h⟩
set_option maxRecDepth 100000 in
set_option maxHeartbeats 4000000 in
theorem m_X10_signToken {G : ab_G} {fr : Bool} {tl : ab_H} {K : Int32 → ms_S → Prop} {S : ms_S} {i0 : Int32}
    (h : ∀ n0 : Nat, (i0 = nI 40 → (K (nI 32) S)) ∧ (i0 = nI 41 → (K (nI 33) S)) ∧ (i0 = nI 42 → (K (nI 19) S)) ∧ (i0 = nI 43 → (K (nI 17) S)) ∧ (i0 = nI 45 → (K (nI 18) S)) ∧ (i0 = nI 47 → (K (nI 20) S)) ∧ (i0 = nI 59 → (K (nI 34) S)) ∧ (i0 = nI 60 → (K (nI 11) S)) ∧ (i0 = nI 61 → (K (nI 13) S)) ∧ (i0 = nI 62 → (K (nI 16) S)) ∧ (¬ i0 = nI 40 → ¬ i0 = nI 41 → ¬ i0 = nI 42 → ¬ i0 = nI 43 → ¬ i0 = nI 45 → ¬ i0 = nI 47 → ¬ i0 = nI 59 → ¬ i0 = nI 60 → ¬ i0 = nI 61 → ¬ i0 = nI 62 → (K (nI 38) S))) :
    ctI G 1 M_X10_signToken fr [.int i0] lZ S tl K := by
  refine wp_ct o_X10_signToken (Nat.le_of_ble_eq_true rfl) ?_
  replace h := h (hLy lZ S tl).length
  revert h
  generalize (hLy lZ S tl).length = n0
  intro h
  refine ws_b rfl ?_
  by_cases q40 : i0 = nI 40
  · refine wp_tswN (nI 40) 111 (110) rfl q40 rfl rfl rfl rfl ?_
    replace h := h.1 q40
    refine ws_b rfl ?_
    exact wp_ri rfl rfl rfl ⟨_, _, rfl, rfl, h⟩
  replace h := h.2
  by_cases q41 : i0 = nI 41
  · refine wp_tswN (nI 41) 114 (113) rfl q41 rfl rfl rfl rfl ?_
    replace h := h.1 q41
    refine ws_b rfl ?_
    exact wp_ri rfl rfl rfl ⟨_, _, rfl, rfl, h⟩
  replace h := h.2
  by_cases q42 : i0 = nI 42
  · refine wp_tswN (nI 42) 132 (131) rfl q42 rfl rfl rfl rfl ?_
    replace h := h.1 q42
    refine ws_b rfl ?_
    exact wp_ri rfl rfl rfl ⟨_, _, rfl, rfl, h⟩
  replace h := h.2
  by_cases q43 : i0 = nI 43
  · refine wp_tswN (nI 43) 126 (125) rfl q43 rfl rfl rfl rfl ?_
    replace h := h.1 q43
    refine ws_b rfl ?_
    exact wp_ri rfl rfl rfl ⟨_, _, rfl, rfl, h⟩
  replace h := h.2
  by_cases q45 : i0 = nI 45
  · refine wp_tswN (nI 45) 129 (128) rfl q45 rfl rfl rfl rfl ?_
    replace h := h.1 q45
    refine ws_b rfl ?_
    exact wp_ri rfl rfl rfl ⟨_, _, rfl, rfl, h⟩
  replace h := h.2
  by_cases q47 : i0 = nI 47
  · refine wp_tswN (nI 47) 135 (134) rfl q47 rfl rfl rfl rfl ?_
    replace h := h.1 q47
    refine ws_b rfl ?_
    exact wp_ri rfl rfl rfl ⟨_, _, rfl, rfl, h⟩
  replace h := h.2
  by_cases q59 : i0 = nI 59
  · refine wp_tswN (nI 59) 108 (107) rfl q59 rfl rfl rfl rfl ?_
    replace h := h.1 q59
    refine ws_b rfl ?_
    exact wp_ri rfl rfl rfl ⟨_, _, rfl, rfl, h⟩
  replace h := h.2
  by_cases q60 : i0 = nI 60
  · refine wp_tswN (nI 60) 117 (116) rfl q60 rfl rfl rfl rfl ?_
    replace h := h.1 q60
    refine ws_b rfl ?_
    exact wp_ri rfl rfl rfl ⟨_, _, rfl, rfl, h⟩
  replace h := h.2
  by_cases q61 : i0 = nI 61
  · refine wp_tswN (nI 61) 120 (119) rfl q61 rfl rfl rfl rfl ?_
    replace h := h.1 q61
    refine ws_b rfl ?_
    exact wp_ri rfl rfl rfl ⟨_, _, rfl, rfl, h⟩
  replace h := h.2
  by_cases q62 : i0 = nI 62
  · refine wp_tswN (nI 62) 123 (122) rfl q62 rfl rfl rfl rfl ?_
    replace h := h.1 q62
    refine ws_b rfl ?_
    exact wp_ri rfl rfl rfl ⟨_, _, rfl, rfl, h⟩
  replace h := h.2
  refine wp_tswD 138 [nI 40, nI 41, nI 42, nI 43, nI 45, nI 47, nI 59, nI 60, nI 61, nI 62] rfl (by decide) (by intro k9 hk9; rcases List.mem_cons.mp hk9 with rfl | hk9; exact q40; rcases List.mem_cons.mp hk9 with rfl | hk9; exact q41; rcases List.mem_cons.mp hk9 with rfl | hk9; exact q42; rcases List.mem_cons.mp hk9 with rfl | hk9; exact q43; rcases List.mem_cons.mp hk9 with rfl | hk9; exact q45; rcases List.mem_cons.mp hk9 with rfl | hk9; exact q47; rcases List.mem_cons.mp hk9 with rfl | hk9; exact q59; rcases List.mem_cons.mp hk9 with rfl | hk9; exact q60; rcases List.mem_cons.mp hk9 with rfl | hk9; exact q61; rcases List.mem_cons.mp hk9 with rfl | hk9; exact q62; exact nomatch hk9) rfl ?_
  replace h := h q40 q41 q42 q43 q45 q47 q59 q60 q61 q62
  refine ws_b rfl ?_
  exact wp_ri rfl rfl rfl ⟨_, _, rfl, rfl, h⟩
set_option maxRecDepth 100000 in
set_option maxHeartbeats 4000000 in
theorem m_X11_isEnd {G : ab_G} {fr : Bool} {tl : ab_H} {K : Int32 → ms_S → Prop} {S : ms_S} {i0 : Int32}
    (h : ∀ n0 : Nat, (i0 < 0 → (K (nI 0) S)) ∧ (¬ i0 < 0 → (((nI 7) ≤ i0 → (K (nI 0) S)) ∧ (¬ (nI 7) ≤ i0 → (K (nI 1) S))))) :
    ctI G 1 M_X11_isEnd fr [.int i0] lZ S tl K := by
  refine wp_ct o_X11_isEnd (Nat.le_of_ble_eq_true rfl) ?_
  replace h := h (hLy lZ S tl).length
  revert h
  generalize (hLy lZ S tl).length = n0
  intro h
  iterate 2 refine ws_b rfl ?_
  refine wp_ite (fun q => ?_) (fun q => ?_)
  · replace h := h.1 q
    refine ws_b rfl ?_
    exact wp_ri rfl rfl rfl ⟨_, _, rfl, rfl, h⟩
  · replace h := h.2 q
    iterate 3 refine ws_b rfl ?_
    refine wp_ite (fun q => ?_) (fun q => ?_)
    · replace h := h.1 q
      refine ws_b rfl ?_
      exact wp_ri rfl rfl rfl ⟨_, _, rfl, rfl, h⟩
    · replace h := h.2 q
      iterate 2 refine ws_b rfl ?_
      exact wp_ri rfl rfl rfl ⟨_, _, rfl, rfl, h⟩
set_option maxRecDepth 100000 in
set_option maxHeartbeats 4000000 in
theorem m_X11_isSpan {G : ab_G} {fr : Bool} {tl : ab_H} {K : Int32 → ms_S → Prop} {S : ms_S} {i0 : Int32}
    (h : ∀ n0 : Nat, (i0 < 0 → (K (nI 0) S)) ∧ (¬ i0 < 0 → (((nI 99) < i0 → (K (nI 0) S)) ∧ (¬ (nI 99) < i0 → (K (nI 1) S))))) :
    ctI G 1 M_X11_isSpan fr [.int i0] lZ S tl K := by
  refine wp_ct o_X11_isSpan (Nat.le_of_ble_eq_true rfl) ?_
  replace h := h (hLy lZ S tl).length
  revert h
  generalize (hLy lZ S tl).length = n0
  intro h
  iterate 2 refine ws_b rfl ?_
  refine wp_ite (fun q => ?_) (fun q => ?_)
  · replace h := h.1 q
    refine ws_b rfl ?_
    exact wp_ri rfl rfl rfl ⟨_, _, rfl, rfl, h⟩
  · replace h := h.2 q
    iterate 3 refine ws_b rfl ?_
    refine wp_ite (fun q => ?_) (fun q => ?_)
    · replace h := h.1 q
      refine ws_b rfl ?_
      exact wp_ri rfl rfl rfl ⟨_, _, rfl, rfl, h⟩
    · replace h := h.2 q
      iterate 2 refine ws_b rfl ?_
      exact wp_ri rfl rfl rfl ⟨_, _, rfl, rfl, h⟩
set_option maxRecDepth 100000 in
set_option maxHeartbeats 4000000 in
theorem m_X11_isGold {G : ab_G} {fr : Bool} {tl : ab_H} {K : Int32 → ms_S → Prop} {S : ms_S} {i0 : Int32}
    (h : ∀ n0 : Nat, (i0 < 0 → (K (nI 0) S)) ∧ (¬ i0 < 0 → ((((99999 : Int32)) < i0 → (K (nI 0) S)) ∧ (¬ ((99999 : Int32)) < i0 → (K (nI 1) S))))) :
    ctI G 1 M_X11_isGold fr [.int i0] lZ S tl K := by
  refine wp_ct o_X11_isGold (Nat.le_of_ble_eq_true rfl) ?_
  replace h := h (hLy lZ S tl).length
  revert h
  generalize (hLy lZ S tl).length = n0
  intro h
  iterate 2 refine ws_b rfl ?_
  refine wp_ite (fun q => ?_) (fun q => ?_)
  · replace h := h.1 q
    refine ws_b rfl ?_
    exact wp_ri rfl rfl rfl ⟨_, _, rfl, rfl, h⟩
  · replace h := h.2 q
    iterate 3 refine ws_b rfl ?_
    refine wp_ite (fun q => ?_) (fun q => ?_)
    · replace h := h.1 q
      refine ws_b rfl ?_
      exact wp_ri rfl rfl rfl ⟨_, _, rfl, rfl, h⟩
    · replace h := h.2 q
      iterate 2 refine ws_b rfl ?_
      exact wp_ri rfl rfl rfl ⟨_, _, rfl, rfl, h⟩
def L_X11_setsOf_4 (G : ab_G) (fr : Bool) (n0 : Nat) (tl : ab_H) (K : Int32 → ms_S → Prop) (S : ms_S) (i0 : Int32) (i1 : Int32) (i2 : Int32) (i3 : Int32) : Prop := wp G 1 M_X11_setsOf fr n0 (poI lZ tl K) 4 [some (.int i0), some (.int i1), some (.int i2), some (.int i3)] [] (hLy lZ S tl)
set_option maxRecDepth 100000 in
set_option maxHeartbeats 4000000 in
theorem b_X11_setsOf_4 {G : ab_G} {fr : Bool} {n0 : Nat} {tl : ab_H} {K : Int32 → ms_S → Prop} {S : ms_S} {i0 : Int32} {i1 : Int32} {i2 : Int32} {i3 : Int32}
    (h : (i1 < i3 → (K i2 S)) ∧ (¬ i1 < i3 → (¬ i3 = 0 ∧ (L_X11_setsOf_4 G fr n0 tl K S i0 i1 ((i2 * ((i0 - i3) + (nI 1))) / i3) (i3 + nI 1))))) :
    L_X11_setsOf_4 G fr n0 tl K S i0 i1 i2 i3 := by
  unfold L_X11_setsOf_4
  iterate 3 refine ws_b rfl ?_
  refine wp_ite (fun q => ?_) (fun q => ?_)
  · replace h := h.1 q
    refine ws_b rfl ?_
    exact wp_ri rfl rfl rfl ⟨_, _, rfl, rfl, h⟩
  · replace h := h.2 q
    iterate 8 refine ws_b rfl ?_
    refine ws_g rfl h.1 ?_
    replace h := h.2
    iterate 3 refine ws_b rfl ?_
    exact wp_weak (wk_s (wk_s (wk_s (wk_s wk_0)))) h
set_option maxRecDepth 100000 in
set_option maxHeartbeats 4000000 in
theorem m_X11_setsOf {G : ab_G} {fr : Bool} {tl : ab_H} {K : Int32 → ms_S → Prop} {S : ms_S} {i0 : Int32} {i1 : Int32}
    (h : ∀ n0 : Nat, L_X11_setsOf_4 G fr n0 tl K S i0 i1 (nI 1) (nI 1)) :
    ctI G 1 M_X11_setsOf fr [.int i0, .int i1] lZ S tl K := by
  refine wp_ct o_X11_setsOf (Nat.le_of_ble_eq_true rfl) ?_
  replace h := h (hLy lZ S tl).length
  revert h
  generalize (hLy lZ S tl).length = n0
  intro h
  iterate 4 refine ws_b rfl ?_
  exact wp_weak (wk_s (wk_s (wk_s (wk_s wk_0)))) h
def L_X11_commonDivisor_7 (G : ab_G) (fr : Bool) (n0 : Nat) (tl : ab_H) (K : Int32 → ms_S → Prop) (S : ms_S) (i2 : Int32) (i3 : Int32) (i4 : Int32) : Prop := wp G 1 M_X11_commonDivisor fr n0 (poI lZ tl K) 7 [none, none, some (.int i2), some (.int i3), some (.int i4), none] [] (hLy lZ S tl)
set_option maxRecDepth 100000 in
set_option maxHeartbeats 4000000 in
theorem b_X11_commonDivisor_7 {G : ab_G} {fr : Bool} {n0 : Nat} {tl : ab_H} {K : Int32 → ms_S → Prop} {S : ms_S} {i2 : Int32} {i3 : Int32} {i4 : Int32}
    (h : ((nI 64) ≤ i4 → (K i2 S)) ∧ (¬ (nI 64) ≤ i4 → ((i3 = 0 → (K i2 S)) ∧ (¬ i3 = 0 → (¬ i3 = 0 ∧ (L_X11_commonDivisor_7 G fr n0 tl K S i3 (i2 - i2 / i3 * i3) (i4 + nI 1))))))) :
    L_X11_commonDivisor_7 G fr n0 tl K S i2 i3 i4 := by
  unfold L_X11_commonDivisor_7
  iterate 3 refine ws_b rfl ?_
  refine wp_ite (fun q => ?_) (fun q => ?_)
  · replace h := h.1 q
    refine ws_b rfl ?_
    exact wp_ri rfl rfl rfl ⟨_, _, rfl, rfl, h⟩
  · replace h := h.2 q
    iterate 2 refine ws_b rfl ?_
    refine wp_ite (fun q => ?_) (fun q => ?_)
    · replace h := h.1 q
      refine ws_b rfl ?_
      exact wp_ri rfl rfl rfl ⟨_, _, rfl, rfl, h⟩
    · replace h := h.2 q
      iterate 2 refine ws_b rfl ?_
      refine ws_g rfl h.1 ?_
      replace h := h.2
      iterate 7 refine ws_b rfl ?_
      exact wp_weak (wk_s (wk_s (wk_s (wk_s (wk_s (wk_n wk_0)))))) h
set_option maxRecDepth 100000 in
set_option maxHeartbeats 4000000 in
theorem m_X11_commonDivisor {G : ab_G} {fr : Bool} {tl : ab_H} {K : Int32 → ms_S → Prop} {S : ms_S} {i0 : Int32} {i1 : Int32}
    (h : ∀ n0 : Nat, L_X11_commonDivisor_7 G fr n0 tl K S i0 i1 (nI 0)) :
    ctI G 1 M_X11_commonDivisor fr [.int i0, .int i1] lZ S tl K := by
  refine wp_ct o_X11_commonDivisor (Nat.le_of_ble_eq_true rfl) ?_
  replace h := h (hLy lZ S tl).length
  revert h
  generalize (hLy lZ S tl).length = n0
  intro h
  iterate 6 refine ws_b rfl ?_
  exact wp_weak (wk_n (wk_n (wk_s (wk_s (wk_s (wk_s wk_0)))))) h
def L_X11_pairsWith_4 (G : ab_G) (fr : Bool) (n0 : Nat) (tl : ab_H) (K : Int64 → ms_S → Prop) (S : ms_S) (i0 : Int32) (l1 : Int64) (i3 : Int32) : Prop := wp G 2 M_X11_pairsWith fr n0 (poL lZ tl K) 4 [some (.int i0), some (.long l1), none, some (.int i3)] [] (hLy lZ S tl)
set_option maxRecDepth 100000 in
set_option maxHeartbeats 4000000 in
theorem b_X11_pairsWith_4 {G : ab_G} {fr : Bool} {n0 : Nat} {tl : ab_H} {K : Int64 → ms_S → Prop} {S : ms_S} {i0 : Int32} {l1 : Int64} {i3 : Int32}
    (h : ((nI 7) ≤ i3 → (K l1 S)) ∧ (¬ (nI 7) ≤ i3 → (L_X11_pairsWith_4 G fr n0 tl K S i0 (l1 ||| ((lN 1) <<< ((((if i3 < i0 then i3 else i0) * (nI 8)) + (if i0 < i3 then i3 else i0)).toInt64 &&& 63))) (i3 + nI 1)))) :
    L_X11_pairsWith_4 G fr n0 tl K S i0 l1 i3 := by
  unfold L_X11_pairsWith_4
  iterate 3 refine ws_b rfl ?_
  refine wp_ite (fun q => ?_) (fun q => ?_)
  · replace h := h.1 q
    refine ws_b rfl ?_
    exact wp_rl rfl rfl ⟨_, _, rfl, rfl, h⟩
  · replace h := h.2 q
    iterate 4 refine ws_b rfl ?_
    refine wp_min rfl rfl (Nat.le_of_ble_eq_true rfl) (by decide) ?_
    iterate 4 refine ws_b rfl ?_
    refine wp_max rfl rfl (Nat.le_of_ble_eq_true rfl) (by decide) ?_
    iterate 6 refine ws_b rfl ?_
    exact wp_weak (wk_s (wk_s (wk_s (wk_s wk_0)))) h
set_option maxRecDepth 100000 in
set_option maxHeartbeats 4000000 in
theorem m_X11_pairsWith {G : ab_G} {fr : Bool} {tl : ab_H} {K : Int64 → ms_S → Prop} {S : ms_S} {i0 : Int32}
    (h : ∀ n0 : Nat, L_X11_pairsWith_4 G fr n0 tl K S i0 (lN 0) (nI 0)) :
    ctL G 2 M_X11_pairsWith fr [.int i0] lZ S tl K := by
  refine wp_ct o_X11_pairsWith (Nat.le_of_ble_eq_true rfl) ?_
  replace h := h (hLy lZ S tl).length
  revert h
  generalize (hLy lZ S tl).length = n0
  intro h
  iterate 4 refine ws_b rfl ?_
  exact wp_weak (wk_s (wk_s (wk_s (wk_s wk_0)))) h

