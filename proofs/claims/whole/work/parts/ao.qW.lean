/-! ===== the program: the game ===== -/
def L_X2_playOut_35 (G : ab_G) (fr : Bool) (n0 : Nat) (tl : ab_H) (K : ms_S → Prop) (S : ms_S) (i1 : Int32) (i3 : Int32) : Prop := wp G 11 M_X2_playOut fr n0 (poU lC tl K) 35 [some (.ref 37), some (.int i1), none, some (.int i3)] [] (hLy lC S tl)
def L_X2_playOut_117 (G : ab_G) (fr : Bool) (n0 : Nat) (tl : ab_H) (K : ms_S → Prop) (S : ms_S) (i1 : Int32) (i3 : Int32) : Prop := wp G 11 M_X2_playOut fr n0 (poU lC tl K) 117 [some (.ref 37), some (.int i1), none, some (.int i3)] [] (hLy lC S tl)
set_option maxRecDepth 100000 in
set_option maxHeartbeats 4000000 in
theorem b_X2_playOut_35 {G : ab_G} {fr : Bool} {n0 : Nat} {tl : ab_H} {K : ms_S → Prop} {S : ms_S} {i1 : Int32} {i3 : Int32}
    (h : ((S.1 0 12) ≤ i3 → (K S)) ∧ (¬ (S.1 0 12) ≤ i3 → (((((i1.toUInt32 >>> (i3.toUInt32 &&& Int32.toUInt32 31)).toInt32) &&& (nI 1)) = (nI 1) → (vp_in i3 9 ∧ (vp_in i3 9 ∧ (ctI G 10 M_X2_totalFrom fr [.ref 37, .int ((nI 1) <<< (i3 &&& 31)), .int (S.2.2.2.1 2 i3.toNatClampNeg), .int (S.2.2.2.1 3 i3.toNatClampNeg), .int (nI 1)] lC S tl (fun v1 S1 => ctU G 2 M_X2_open fr [.ref 37, .int i3, .int v1] lC S1 tl (fun S2 => vp_in i3 9 ∧ (vp_in i3 9 ∧ (ctI G 10 M_X2_totalFrom fr [.ref 37, .int ((nI 1) <<< (i3 &&& 31)), .int (S2.2.2.2.1 3 i3.toNatClampNeg), .int (S2.2.2.2.1 2 i3.toNatClampNeg), .int (nI 1)] lC S2 tl (fun v3 S3 => ctU G 2 M_X2_open fr [.ref 37, .int i3, .int v3] lC S3 tl (fun S4 => L_X2_playOut_117 G fr n0 tl K S4 i1 i3)))))))))) ∧ (¬ (((i1.toUInt32 >>> (i3.toUInt32 &&& Int32.toUInt32 31)).toInt32) &&& (nI 1)) = (nI 1) → (L_X2_playOut_117 G fr n0 tl K S i1 i3))))) :
    L_X2_playOut_35 G fr n0 tl K S i1 i3 := by
  unfold L_X2_playOut_35
  iterate 5 refine ws_b rfl ?_
  refine wp_ite (fun q => ?_) (fun q => ?_)
  · replace h := h.1 q
    exact wp_rv rfl rfl ⟨_, rfl, rfl, h⟩
  · replace h := h.2 q
    iterate 7 refine ws_b rfl ?_
    refine wp_ite (fun q => ?_) (fun q => ?_)
    · replace h := h.1 q
      iterate 10 refine ws_b rfl ?_
      refine ws_g rfl h.1 ?_
      replace h := h.2
      iterate 4 refine ws_b rfl ?_
      refine ws_g rfl h.1 ?_
      replace h := h.2
      refine ws_b rfl ?_
      refine wp_cV rfl rfl o_X2_totalFrom v_X2_totalFrom h rfl rfl rfl (Nat.le_of_ble_eq_true rfl) (by decide) ?_
      clear h
      rintro r9 h9 ⟨v1, S1, rfl, rfl, h⟩
      refine wp_cV rfl rfl o_X2_open v_X2_open h rfl rfl rfl (Nat.le_of_ble_eq_true rfl) (by decide) ?_
      clear h
      rintro r9 h9 ⟨S2, rfl, rfl, h⟩
      iterate 10 refine ws_b rfl ?_
      refine ws_g rfl h.1 ?_
      replace h := h.2
      iterate 4 refine ws_b rfl ?_
      refine ws_g rfl h.1 ?_
      replace h := h.2
      refine ws_b rfl ?_
      refine wp_cV rfl rfl o_X2_totalFrom v_X2_totalFrom h rfl rfl rfl (Nat.le_of_ble_eq_true rfl) (by decide) ?_
      clear h
      rintro r9 h9 ⟨v3, S3, rfl, rfl, h⟩
      refine wp_cV rfl rfl o_X2_open v_X2_open h rfl rfl rfl (Nat.le_of_ble_eq_true rfl) (by decide) ?_
      clear h
      rintro r9 h9 ⟨S4, rfl, rfl, h⟩
      exact wp_weak (wk_s (wk_s (wk_s (wk_s wk_0)))) h
    · replace h := h.2 q
      exact wp_weak (wk_s (wk_s (wk_s (wk_s wk_0)))) h
set_option maxRecDepth 100000 in
set_option maxHeartbeats 4000000 in
theorem b_X2_playOut_117 {G : ab_G} {fr : Bool} {n0 : Nat} {tl : ab_H} {K : ms_S → Prop} {S : ms_S} {i1 : Int32} {i3 : Int32}
    (h : L_X2_playOut_35 G fr n0 tl K S i1 (i3 + nI 1)) :
    L_X2_playOut_117 G fr n0 tl K S i1 i3 := by
  unfold L_X2_playOut_117
  iterate 2 refine ws_b rfl ?_
  exact wp_weak (wk_s (wk_s (wk_s (wk_s wk_0)))) h
set_option maxRecDepth 100000 in
set_option maxHeartbeats 4000000 in
theorem m_X2_playOut {G : ab_G} {fr : Bool} {tl : ab_H} {K : ms_S → Prop} {S : ms_S} {i1 : Int32} {i2 : Int32}
    (h : ∀ n0 : Nat, ctU G 1 M_J7_fill fr [.ref 39, .int (nI 0)] lC S tl (fun S1 => vp_in (nI 0) 2 ∧ (vp_in (nI 1) 2 ∧ (L_X2_playOut_35 G fr n0 tl K (sVa (sVa (sA (sA S1 38 ((nI 0).toNatClampNeg) i1) 38 ((nI 1).toNatClampNeg) i2) 37 4 (nI 0)) 37 5 (-(nI 2))) i1 (nI 0))))) :
    ctU G 11 M_X2_playOut fr [.ref 37, .int i1, .int i2] lC S tl K := by
  refine wp_ct o_X2_playOut (Nat.le_of_ble_eq_true rfl) ?_
  replace h := h (hLy lC S tl).length
  revert h
  generalize (hLy lC S tl).length = n0
  intro h
  iterate 3 refine ws_b rfl ?_
  refine wp_cS rfl rfl o_J7_fill s_J7_fill h rfl rfl (Nat.le_of_ble_eq_true rfl) (by decide) ?_
  clear h
  rintro r9 h9 ⟨S1, rfl, rfl, h⟩
  iterate 4 refine ws_b rfl ?_
  refine ws_g rfl h.1 ?_
  replace h := h.2
  iterate 4 refine ws_b rfl ?_
  refine ws_g rfl h.1 ?_
  replace h := h.2
  iterate 8 refine ws_b rfl ?_
  exact wp_weak (wk_s (wk_s (wk_n (wk_s wk_0)))) h
theorem pop_1 : ∀ p, p < 9 → pop (2 ^ p) 9 = 1 ∧ 2 ^ p < 512 ∧ ¬ 2 ^ p = 0 := by decide +kernel
theorem op_tab : ∀ b, b < 11 → ∀ k, k < 11 → ∀ l, l < 11 → (gB (some (gB (some b) k)) l = b ↔ (btB k b = false ∧ btB l (gB (some b) k) = false)) := by decide +kernel
theorem bt_zero : ∀ k, k < 11 → ¬ k = 0 → btB k 0 = true := by decide +kernel
def aPy : Nat → Bool := fun a => Nat.beq a 37 || Nat.beq a 38 || Nat.beq a 39
theorem aPy_pl : plA aPy := ⟨rfl, rfl, rfl, rfl, rfl, rfl, rfl, rfl, rfl, rfl⟩
theorem py_G (a : Nat) (h : aPy a = false) : aGm a = false := by
  unfold aPy at h
  simp only [Bool.or_eq_false_iff] at h
  exact h.2
section CORE22
variable {G : ab_G} {S : ms_S} {tl : ab_H} {P : tPL} {o : Nat → Option tDQ} {v : Nat} {jb : Nat → Nat} {one two : Nat}
theorem u_open (p k b : Nat) (hk : k < 20) (hb : b < 20) (ht : S.1 37 4 = nI b) (K : ms_S → Prop) (c : ∀ S', (S' = if btB k b = true then sVa (sVa S 37 4 (nI k)) 37 5 (nI p) else S) → K S') : ctU G 2 M_X2_open false [.ref 37, .int (nI p), .int (nI k)] lC S tl K := by
  refine m_X2_open (fun n0 => ?_)
  rw [ht]
  have h := u_better G (lay := lC) S tl 0 k b (by decide) hk hb (fun v1 S1 => (v1 = 0 → (L_X2_open_22 G false n0 tl K S1 )) ∧ (¬ v1 = 0 → (L_X2_open_22 G false n0 tl K (sVa (sVa S1 37 4 (nI k)) 37 5 (nI p)) ))) (by
    rw [x_b0]
    refine ⟨fun z => b_X2_open_22 (c _ ?_), fun z => b_X2_open_22 (c _ ?_)⟩
    · rw [z, if_neg (by decide)]
    · rw [if_pos (bl_t z)])
  rw [Nat.zero_add, Nat.zero_add] at h
  exact h
theorem u_fillT (K : ms_S → Prop) (k : ∀ S', cF aGm S S' → (∀ r, r < 3584 → S'.2.2.2.1 39 r = nI 0) → K S') : ctU G 1 M_J7_fill false [.ref 39, .int (nI 0)] lC S tl K := by
  refine m_J7_filltot (fun n0 => ?_)
  suffices KL : ∀ t i (X : ms_S), i + t = 3584 → cF aGm S X → (∀ r, r < i → X.2.2.2.1 39 r = nI 0) → L_J7_filltot_5 G false n0 tl K X (nI 0) (nI i) (nI 3584) from KL 3584 0 S (Nat.zero_add _) cF.rf (fun r hr => absurd hr (Nat.not_lt_zero _))
  intro t
  induction t with
  | zero =>
    intro i X hi x1 x2
    have hi : i = 3584 := hi
    subst hi
    exact b_J7_filltot_5 ⟨fun _ => k X x1 x2, fun z => absurd (Int32.le_refl _) z⟩
  | succ t ih =>
    intro i X hi x1 x2
    refine b_J7_filltot_5 ?_
    rw [nI_leI (by decide) (by omega), show (nI i).toNatClampNeg = i from nI_clamp (by omega), nI_add]
    refine ⟨fun z => absurd z (by omega), fun _ => ⟨(x_vp (by omega)).mpr (by omega), ih (i + 1) _ (by omega) (x1.tr (cF.sA rfl)) (fun r hr => ?_)⟩⟩
    show upd (X.2.2.2.1 39) i (nI 0) r = _
    by_cases e : r = i
    · rw [e, pk_us]
    · rw [pk_un e]
      exact x2 r (by omega)
theorem u_play (hP : bPl S P o) (hR : bRT S P v jb) (h1 : one < 512) (h2 : two < 512) (K : ms_S → Prop) (k : ∀ S', cF aPy S S' → S'.1 37 4 = nI (opN (gmP P jb one two P.1).1) → S'.1 37 5 = (gmP P jb one two P.1).2 → K S') : ctU G 11 M_X2_playOut false [.ref 37, .int (nI one), .int (nI two)] lC S tl K := by
  have p1 := hP.1
  refine m_X2_playOut (fun n0 => u_fillT _ (fun S1 f1 z1 => ⟨(x_vp (by decide)).mpr (by decide), (x_vp (by decide)).mpr (by decide), ?_⟩))
  suffices KL : ∀ t p (X : ms_S), p + t = P.1 → cF aPy S X → gmC X P o v jb one two → mGM X P jb one two → X.1 37 4 = nI (opN (gmP P jb one two p).1) → X.1 37 5 = (gmP P jb one two p).2 → L_X2_playOut_35 G false n0 tl K X (nI one) (nI p) by
    have g1 : cF aPy S (sVa (sVa (sA (sA S1 38 ((nI 0).toNatClampNeg) (nI one)) 38 ((nI 1).toNatClampNeg) (nI two)) 37 4 (nI 0)) 37 5 (-(nI 2))) := (((((f1.mono py_G).tr (cF.sA rfl)).tr (cF.sA rfl)).tr (cF.sVa rfl)).tr (cF.sVa rfl))
    refine KL P.1 0 _ (Nat.zero_add _) g1 ⟨bPl_F g1 aPy_pl hP, bRT_F g1 rfl rfl rfl rfl hR, rfl, rfl, h1, h2⟩ (fun set hs f hf => ⟨0, by decide, z1 (set * 7 + f) (by omega), fun e _ => Or.inl (by rw [Nat.zero_div])⟩) rfl rfl
  intro t
  induction t with
  | zero =>
    intro p X hp x1 xC xM x2 x3
    have hp : p = P.1 := hp
    subst hp
    refine b_X2_playOut_35 ?_
    rw [xC.1.2.2.1]
    exact ⟨fun _ => k X x1 x2 x3, fun z => absurd (Int32.le_refl _) z⟩
  | succ t ih =>
    intro p X hp x1 xC xM x2 x3
    have hp9 : p < 9 := by omega
    obtain ⟨o1, o2, o3, o4, _⟩ := xC.1.2.2.2.2.1 p (by omega)
    obtain ⟨q1, q2, q3⟩ := pop_1 p hp9
    have hv9 : vp_in (nI p) 9 := (x_vp (by omega)).mpr (by omega)
    have hc : (nI p).toNatClampNeg = p := nI_clamp (by omega)
    have hgl := gmP_le P jb one two p1 p (by omega)
    have hn := fun Y y1 yC yM => ih (p + 1) Y (by omega) y1 yC yM
    rw [show gmP P jb one two (p + 1) = if one.testBit p = true then (some (gB (some (gB (gmP P jb one two p).1 (gvT P jb one two (2 ^ p) (P.2.2.1 p) (P.2.2.2.1 p) + 1))) (gvT P jb one two (2 ^ p) (P.2.2.2.1 p) (P.2.2.1 p) + 1)), if some (gB (some (gB (gmP P jb one two p).1 (gvT P jb one two (2 ^ p) (P.2.2.1 p) (P.2.2.2.1 p) + 1))) (gvT P jb one two (2 ^ p) (P.2.2.2.1 p) (P.2.2.1 p) + 1)) = (gmP P jb one two p).1 then (gmP P jb one two p).2 else nI p) else gmP P jb one two p from rfl] at hn
    have k1l := gv9 P jb one two (2 ^ p) (P.2.2.1 p) (P.2.2.2.1 p) p1 q2
    have k2l := gv9 P jb one two (2 ^ p) (P.2.2.2.1 p) (P.2.2.1 p) p1 q2
    generalize hg : gmP P jb one two p = g0 at x2 x3 hgl hn
    obtain ⟨gv, go⟩ := g0
    have hb11 : opN gv < 11 := by
      cases gv with
      | none => decide
      | some b => exact Nat.lt_succ_of_le hgl
    have hp0 : 2 ^ p < 2 ^ 31 := by omega
    refine b_X2_playOut_35 ?_
    rw [xC.1.2.2.1, nI_leI (by omega) (by omega), tb_u (by omega) (by omega), hc, o1, o3, nu_1shl (by omega)]
    refine ⟨fun z => absurd z (by omega), fun _ => ⟨fun tb => ⟨hv9, hv9, ?_⟩, fun tb => b_X2_playOut_117 ?_⟩⟩
    · rw [if_pos tb] at hn
      dsimp only at hn x2 x3
      have kb : gB gv (gvT P jb one two (2 ^ p) (P.2.2.1 p) (P.2.2.2.1 p) + 1) = gB (some (opN gv)) (gvT P jb one two (2 ^ p) (P.2.2.1 p) (P.2.2.2.1 p) + 1) := by
        cases gv with
        | none => exact (gB_n0 (gvT P jb one two (2 ^ p) (P.2.2.1 p) (P.2.2.2.1 p) + 1) (by omega) (by omega)).symm
        | some b => rfl
      rw [kb] at hn
      have t1 := u_tot (G := G) (tl := tl) 8 (2 ^ p) (P.2.2.1 p) (P.2.2.2.1 p) X q2 q3 (by omega) o2 o4 xC xM
      rw [q1] at t1
      refine t1 _ (fun S2 f2 m2 => ?_)
      have y4 : S2.1 37 4 = nI (opN gv) := (congrFun (f2.1 37 rfl) 4).trans x2
      have y5 : S2.1 37 5 = go := (congrFun (f2.1 37 rfl) 5).trans x3
      have y1 := x1.tr (f2.mono py_G)
      have yC := gmC_F f2 xC
      rw [Nat.add_comm 1]
      generalize hk1 : gvT P jb one two (2 ^ p) (P.2.2.1 p) (P.2.2.2.1 p) + 1 = ka at hn ⊢
      have hka : ka < 11 ∧ ¬ ka = 0 := by omega
      refine u_open p ka (opN gv) (by omega) (by omega) y4 _ (fun S3 e3 => ?_)
      have f3 : cF aPy S2 S3 := by
        rw [e3]
        split
        · exact (cF.sVa rfl).tr (cF.sVa rfl)
        · exact cF.rf
      have s34 : S3.1 37 4 = nI (gB (some (opN gv)) ka) := by
        rw [e3, gB_bt]
        split
        · rfl
        · exact y4
      have s35 : S3.1 37 5 = if btB ka (opN gv) = true then nI p else go := by
        rw [e3]
        split
        · rfl
        · exact y5
      have s3a : S3.2.2.2.1 = S2.2.2.2.1 := by rw [e3]; split <;> rfl
      have zC : gmC S3 P o v jb one two := ⟨bPl_F f3 aPy_pl yC.1, bRT_F f3 rfl rfl rfl rfl yC.2.1, by rw [s3a]; exact yC.2.2.1, by rw [s3a]; exact yC.2.2.2.1, yC.2.2.2.2⟩
      have zM : mGM S3 P jb one two := by unfold mGM; rw [s3a]; exact m2
      obtain ⟨w1, _, w3, _⟩ := zC.1.2.2.2.2.1 p (by omega)
      rw [w1, w3]
      have t2 := u_tot (G := G) (tl := tl) 8 (2 ^ p) (P.2.2.2.1 p) (P.2.2.1 p) S3 q2 q3 (by omega) o4 o2 zC zM
      rw [q1] at t2
      refine ⟨hv9, hv9, t2 _ (fun S4 f4 m4 => ?_)⟩
      have v4 : S4.1 37 4 = nI (gB (some (opN gv)) ka) := (congrFun (f4.1 37 rfl) 4).trans s34
      have v5 : S4.1 37 5 = if btB ka (opN gv) = true then nI p else go := (congrFun (f4.1 37 rfl) 5).trans s35
      rw [Nat.add_comm 1]
      generalize hk2 : gvT P jb one two (2 ^ p) (P.2.2.2.1 p) (P.2.2.1 p) + 1 = kc at hn ⊢
      have hb1 : gB (some (opN gv)) ka < 11 := gB_lt hb11 (by omega)
      refine u_open p kc (gB (some (opN gv)) ka) (by omega) (by omega) v4 _ (fun S5 e5 => b_X2_playOut_117 ?_)
      have f5 : cF aPy S4 S5 := by
        rw [e5]
        split
        · exact (cF.sVa rfl).tr (cF.sVa rfl)
        · exact cF.rf
      have s5a : S5.2.2.2.1 = S4.2.2.2.1 := by rw [e5]; split <;> rfl
      have uC := gmC_F f4 zC
      rw [nI_add]
      refine hn S5 (((y1.tr f3).tr (f4.mono py_G)).tr f5) ⟨bPl_F f5 aPy_pl uC.1, bRT_F f5 rfl rfl rfl rfl uC.2.1, by rw [s5a]; exact uC.2.2.1, by rw [s5a]; exact uC.2.2.2.1, uC.2.2.2.2⟩ (by unfold mGM; rw [s5a]; exact m4) ?_ ?_
      · show S5.1 37 4 = nI (gB (some (gB (some (opN gv)) ka)) kc)
        rw [e5, gB_bt (gB (some (opN gv)) ka) kc]
        split
        · rfl
        · exact v4
      · show S5.1 37 5 = _
        have ot := op_tab (opN gv) hb11 ka hka.1 kc (by omega)
        have e55 : S5.1 37 5 = if btB kc (gB (some (opN gv)) ka) = true then nI p else if btB ka (opN gv) = true then nI p else go := by
          rw [e5]
          split
          · rfl
          · exact v5
        rw [e55]
        by_cases d1 : btB kc (gB (some (opN gv)) ka) = true
        · rw [if_pos d1, if_neg (fun q => by
            cases gv with
            | none => cases q
            | some b => have := (ot.mp (Option.some.inj q)).2; rw [d1] at this; cases this)]
        · rw [if_neg d1]
          by_cases d2 : btB ka (opN gv) = true
          · rw [if_pos d2, if_neg (fun q => by
              cases gv with
              | none => cases q
              | some b => have := (ot.mp (Option.some.inj q)).1; rw [d2] at this; cases this)]
          · rw [if_neg d2]
            cases gv with
            | none => exact absurd (bt_zero ka hka.1 hka.2) d2
            | some b =>
              have hz : ∀ {x : Bool}, ¬ x = true → x = false := fun {x} h => by cases x with | false => rfl | true => exact absurd rfl h
              exact (if_pos (congrArg some (ot.mpr ⟨hz d2, hz d1⟩))).symm
    · rw [if_neg tb] at hn
      rw [nI_add]
      exact hn X x1 xC xM x2 x3
end CORE22

