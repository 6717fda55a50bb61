/-! ===== the program: laws, lines, a text read ===== -/
def L_J7_fillshr_5 (G : ab_G) (fr : Bool) (n0 : Nat) (tl : ab_H) (K : ms_S → Prop) (S : ms_S) (i1 : Int32) (i2 : Int32) (i3 : Int32) : Prop := wp G 1 M_J7_fill fr n0 (poU lPl tl K) 5 [some (.ref 6), some (.int i1), some (.int i2), some (.int i3)] [] (hLy lPl S tl)
set_option maxRecDepth 100000 in
set_option maxHeartbeats 4000000 in
theorem b_J7_fillshr_5 {G : ab_G} {fr : Bool} {n0 : Nat} {tl : ab_H} {K : ms_S → Prop} {S : ms_S} {i1 : Int32} {i2 : Int32} {i3 : Int32}
    (h : (i3 ≤ i2 → (K S)) ∧ (¬ i3 ≤ i2 → (vp_in i2 5 ∧ (L_J7_fillshr_5 G fr n0 tl K (sA S 6 i2.toNatClampNeg i1) i1 (i2 + nI 1) i3)))) :
    L_J7_fillshr_5 G fr n0 tl K S i1 i2 i3 := by
  unfold L_J7_fillshr_5
  iterate 3 refine ws_b rfl ?_
  refine wp_ite (fun q => ?_) (fun q => ?_)
  · replace h := h.1 q
    exact wp_rv rfl rfl ⟨_, rfl, rfl, h⟩
  · replace h := h.2 q
    iterate 3 refine ws_b rfl ?_
    refine ws_g rfl h.1 ?_
    replace h := h.2
    iterate 2 refine ws_b rfl ?_
    exact wp_weak (wk_s (wk_s (wk_s (wk_s wk_0)))) h
set_option maxRecDepth 100000 in
set_option maxHeartbeats 4000000 in
theorem m_J7_fillshr {G : ab_G} {fr : Bool} {tl : ab_H} {K : ms_S → Prop} {S : ms_S} {i1 : Int32}
    (h : ∀ n0 : Nat, L_J7_fillshr_5 G fr n0 tl K S i1 (nI 0) (nI 5)) :
    ctU G 1 M_J7_fill fr [.ref 6, .int i1] lPl S tl K := by
  refine wp_ct o_J7_fill (Nat.le_of_ble_eq_true rfl) ?_
  replace h := h (hLy lPl S tl).length
  revert h
  generalize (hLy lPl S tl).length = n0
  intro h
  iterate 5 refine ws_b rfl ?_
  exact wp_weak (wk_s (wk_s (wk_s (wk_s wk_0)))) h
set_option maxRecDepth 100000 in
set_option maxHeartbeats 4000000 in
theorem m_X4_cleara {G : ab_G} {fr : Bool} {tl : ab_H} {K : ms_S → Prop} {S : ms_S} 
    (h : ∀ n0 : Nat, K (sVa (sVa S 13 3 (nI 0)) 13 4 (nI 0))) :
    ctU G 1 M_X4_clear fr [.ref 13] lPl S tl K := by
  refine wp_ct o_X4_clear (Nat.le_of_ble_eq_true rfl) ?_
  replace h := h (hLy lPl S tl).length
  revert h
  generalize (hLy lPl S tl).length = n0
  intro h
  iterate 5 refine ws_b rfl ?_
  refine ws_g rfl (Or.inl rfl) ?_
  exact wp_rv rfl rfl ⟨_, rfl, rfl, h⟩
set_option maxRecDepth 100000 in
set_option maxHeartbeats 4000000 in
theorem m_X4_clearb {G : ab_G} {fr : Bool} {tl : ab_H} {K : ms_S → Prop} {S : ms_S} 
    (h : ∀ n0 : Nat, K (sVa (sVa S 17 3 (nI 0)) 17 4 (nI 0))) :
    ctU G 1 M_X4_clear fr [.ref 17] lPl S tl K := by
  refine wp_ct o_X4_clear (Nat.le_of_ble_eq_true rfl) ?_
  replace h := h (hLy lPl S tl).length
  revert h
  generalize (hLy lPl S tl).length = n0
  intro h
  iterate 5 refine ws_b rfl ?_
  refine ws_g rfl (Or.inl rfl) ?_
  exact wp_rv rfl rfl ⟨_, rfl, rfl, h⟩
set_option maxRecDepth 100000 in
set_option maxHeartbeats 4000000 in
theorem m_X4_clearc {G : ab_G} {fr : Bool} {tl : ab_H} {K : ms_S → Prop} {S : ms_S} 
    (h : ∀ n0 : Nat, K (sVa (sVa S 21 3 (nI 0)) 21 4 (nI 0))) :
    ctU G 1 M_X4_clear fr [.ref 21] lPl S tl K := by
  refine wp_ct o_X4_clear (Nat.le_of_ble_eq_true rfl) ?_
  replace h := h (hLy lPl S tl).length
  revert h
  generalize (hLy lPl S tl).length = n0
  intro h
  iterate 5 refine ws_b rfl ?_
  refine ws_g rfl (Or.inl rfl) ?_
  exact wp_rv rfl rfl ⟨_, rfl, rfl, h⟩
set_option maxRecDepth 100000 in
set_option maxHeartbeats 4000000 in
theorem m_X10_rewindB {G : ab_G} {fr : Bool} {tl : ab_H} {K : ms_S → Prop} {S : ms_S} {i1 : Int32}
    (h : ∀ n0 : Nat, K (sVa (sVa (sVa (sVa S 1 3 (if (nI 700) < i1 then (nI 700) else i1)) 1 4 (nI 0)) 1 5 (nI 38)) 1 6 (nI 0))) :
    ctU G 2 M_X10_rewind fr [.ref 1, .int i1] lB S tl K := by
  refine wp_ct o_X10_rewind (Nat.le_of_ble_eq_true rfl) ?_
  replace h := h (hLy lB S tl).length
  revert h
  generalize (hLy lB S tl).length = n0
  intro h
  iterate 3 refine ws_b rfl ?_
  refine wp_min rfl rfl (Nat.le_of_ble_eq_true rfl) (by decide) ?_
  iterate 10 refine ws_b rfl ?_
  exact wp_rv rfl rfl ⟨_, rfl, rfl, h⟩
section LINES4
variable {G : ab_G} {tl : ab_H} {b : Nat → Nat} {n i : Nat} {S S0 : ms_S} {D : tDR}
theorem lwO_s {T : ms_S} {p : Nat} {o : Option tDQ} (h : lwO T p o) : T.1 p 3 = nI (szQ o) ∧ (szQ o = 0 ↔ o = none) ∧ szQ o ≤ 64 := by
  cases o with
  | none => exact ⟨h.1, ⟨fun _ => rfl, fun _ => rfl⟩, Nat.zero_le _⟩
  | some q =>
    have := h.2.1
    exact ⟨h.1.1, ⟨fun z => absurd (show q.1 = 0 from z) (by omega), fun z => by cases z⟩, h.2.2.1⟩
theorem tL_c {x : Int32} {o : Option tDQ} (h : x = nI (szQ o)) (h0 : szQ o = 0 ↔ o = none) (h64 : szQ o ≤ 64) {K : Int32 → Prop} (k : K (bI o.isSome)) : (x ≤ 0 → K (nI 0)) ∧ (¬ x ≤ 0 → K (nI 1)) := by
  rw [h, show (0 : Int32) = nI 0 from rfl, nI_leI (by omega) (by decide)]
  cases o with
  | none => exact ⟨fun _ => k, fun z => absurd (Nat.le_refl _) z⟩
  | some q => exact ⟨fun z => absurd (h0.mp (Nat.le_zero.mp z)) (fun w => by cases w), fun _ => k⟩
theorem u_toldL {w : Nat} (hw : w < 3) {o : Option tDQ} (h : lwO (rsS e_PlD S) (13 + 4 * w) o) (K : Int32 → ms_S → Prop) (k : K (bI o.isSome) S) : ctI G 1 M_X4_isTold false [.ref (43 + 4 * w)] lB S tl K := by
  obtain ⟨h1, h2, h3⟩ := lwO_s h
  rcases (show w = 0 ∨ w = 1 ∨ w = 2 by omega) with rfl | rfl | rfl
  · exact ctI.tr e_LwD0 e_LwD0_i e_LwD0_n (as' := [.ref 0]) rfl (fun G' => m_X4_isTold (fun n0 => by rw [mgS_rs]; exact tL_c (K := fun v => K v S) h1 h2 h3 k))
  · exact ctI.tr e_LwD1 e_LwD1_i e_LwD1_n (as' := [.ref 0]) rfl (fun G' => m_X4_isTold (fun n0 => by rw [mgS_rs]; exact tL_c (K := fun v => K v S) h1 h2 h3 k))
  · exact ctI.tr e_LwD2 e_LwD2_i e_LwD2_n (as' := [.ref 0]) rfl (fun G' => m_X4_isTold (fun n0 => by rw [mgS_rs]; exact tL_c (K := fun v => K v S) h1 h2 h3 k))
theorem bD6_at {T : ms_S} {x : tDL} (h : bD6 T x) {w : Nat} (hw : w < 3) : lwO T (13 + 4 * w) (x.2 w) := by
  rcases (show w = 0 ∨ w = 1 ∨ w = 2 by omega) with rfl | rfl | rfl
  · exact h.2.2.1
  · exact h.2.2.2.1
  · exact h.2.2.2.2
theorem u_knotsD {T : ms_S} {fr : Bool} {x : tDL} (h : bD6 T x) (K : Int32 → ms_S → Prop) (k : K (nI x.1) T) : ctI G 1 M_X7_knots fr [.ref 0] lPl T tl K := by
  refine m_X7_knots (fun n0 => ?_)
  rw [(lwO_s h.2.2.1).1, (lwO_s h.2.2.2.1).1, (lwO_s h.2.2.2.2).1, nI_add, nI_add, ← h.1]
  exact k
theorem pLw_w {w : Nat} (hw : w < 3) : pLw (43 + 4 * w) := by
  rcases (show w = 0 ∨ w = 1 ∨ w = 2 by omega) with rfl | rfl | rfl
  · exact Or.inl rfl
  · exact Or.inr (Or.inl rfl)
  · exact Or.inr (Or.inr rfl)
theorem ePl_g : ∀ a, a < 25 → e_PlD.getD a 0 = 30 + a := by decide
theorem aRd_n {p a : Nat} (h1 : ¬ a = 55) (h2 : ¬ a = 56) (h3 : ¬ a = p) (h4 : ¬ a = p + 1) : aRd p a = false := by
  unfold aRd
  rw [bq_ne h1, bq_ne h2, bq_ne h3, bq_ne h4]
  rfl
theorem bDr_law {S' : ms_S} {w : Nat} {q : tDQ} (hw : w < 3) (h : bDr (rsS e_PlD S) D) (hd : rdG (43 + 4 * w) S S') (hn : (lwD D).2 w = none) (hq : lwAt S' (43 + 4 * w) q) (hv : vQ q) (h64 : (lwD D).1 + q.1 ≤ 64) : bDr (rsS e_PlD S') (D.1, D.2.1, D.2.2.1, D.2.2.2.1, D.2.2.2.2.1, ((lwD D).1 + q.1, up (lwD D).2 w (some q))) := by
  obtain ⟨d1, d2, d3, d4, d5, d6⟩ := h
  have f0 : S'.1 30 = S.1 30 := hd.1 30 rfl (aRd_n (by decide) (by decide) (by omega) (by omega))
  have fa : ∀ a, a < 43 → S'.2.2.2.1 a = S.2.2.2.1 a := fun a ha => (hd.2.1 a (aRd_n (by omega) (by omega) (by omega) (by omega))).2.1
  have L : ∀ v, v < 3 → ¬ v = w → lwO (rsS e_PlD S') (13 + 4 * v) ((lwD D).2 v) := by
    intro v hv3 hne
    refine lwO_F (bD6_at d6 hv3) ?_ ?_
    · show S'.1 (e_PlD.getD (13 + 4 * v) 0) = S.1 (e_PlD.getD (13 + 4 * v) 0)
      rw [ePl_g _ (by omega)]
      exact hd.1 _ (bq_ne (by omega)) (aRd_n (by omega) (by omega) (by omega) (by omega))
    · show S'.2.2.2.1 (e_PlD.getD (13 + 4 * v + 1) 0) = S.2.2.2.1 (e_PlD.getD (13 + 4 * v + 1) 0)
      rw [ePl_g _ (by omega)]
      exact (hd.2.1 _ (aRd_n (by omega) (by omega) (by omega) (by omega))).2.1
  have N : lwO (rsS e_PlD S') (13 + 4 * w) (some q) := by
    refine ⟨?_, hv⟩
    unfold lwAt
    show S'.1 (e_PlD.getD (13 + 4 * w) 0) 3 = _ ∧ S'.1 (e_PlD.getD (13 + 4 * w) 0) 4 = _ ∧ ∀ j, j < q.1 → S'.2.2.2.1 (e_PlD.getD (13 + 4 * w + 1) 0) j = _
    rw [ePl_g _ (by omega), ePl_g _ (by omega), show 30 + (13 + 4 * w) = 43 + 4 * w by omega, show 30 + (13 + 4 * w + 1) = 43 + 4 * w + 1 by omega]
    exact hq
  have U : ∀ v, v < 3 → lwO (rsS e_PlD S') (13 + 4 * v) (up (lwD D).2 w (some q) v) := by
    intro v hv3
    by_cases z : v = w
    · subst z
      rw [up_at]
      exact N
    · rw [up_no z]
      exact L v hv3 z
  refine ⟨bD1_F d1 (congrFun f0 12) (fun a h1 h2 => ?_), bD2_F d2 (congrFun f0 13) (fa 35 (by decide)) (fa 36 (by decide)), bD3_F d3 (congrFun f0 14) (fa 37 (by decide)) (fa 38 (by decide)) (fa 39 (by decide)), bD4_F d4 (congrFun f0 15) (fa 40 (by decide)) (fa 41 (by decide)), bD5_F d5 (congrFun f0 16) (congrFun f0 17), ?_, h64, U 0 (by decide), U 1 (by decide), U 2 (by decide)⟩
  · show S'.2.2.2.1 (e_PlD.getD a 0) = S.2.2.2.1 (e_PlD.getD a 0)
    rw [ePl_g _ (by omega)]
    exact fa _ (by omega)
  · have h1 := d6.1
    show (lwD D).1 + q.1 = szQ (up (lwD D).2 w (some q) 0) + szQ (up (lwD D).2 w (some q) 1) + szQ (up (lwD D).2 w (some q) 2)
    have h1 : (lwD D).1 = szQ ((lwD D).2 0) + szQ ((lwD D).2 1) + szQ ((lwD D).2 2) := h1
    rcases (show w = 0 ∨ w = 1 ∨ w = 2 by omega) with rfl | rfl | rfl
    · rw [up_at, up_no (by decide), up_no (by decide), h1, hn]
      show 0 + _ + _ + q.1 = q.1 + _ + _
      omega
    · rw [up_at, up_no (by decide), up_no (by decide), h1, hn]
      show _ + 0 + _ + q.1 = _ + q.1 + _
      omega
    · rw [up_at, up_no (by decide), up_no (by decide), h1, hn]
      show _ + _ + 0 + q.1 = _ + _ + q.1
      omega
theorem u_rLaw (h : vPl S0 b n D i S) (K : Int32 → ms_S → Prop)
    (kE : ∀ S' e p', 1 ≤ e → e ≤ 5 → pLaw b n D i = .error (e, p') → rG S0 S' → S'.1 1 6 = nI p' → K (nI e) S')
    (kN : ∀ S' j, pLaw b n D i = .error (1, tkP b n j) → ¬ tT b n j = 34 → bTk (rsS e_TpB S') (tk b n j) → rG S0 S' → K (nI 0) S')
    (kO : ∀ S' D' j, pLaw b n D i = .ok (D', j) → vPl S0 b n D' j S' → K (nI 0) S') : ctI G 5 M_X8_readLaw false [.ref 29] lB S tl K := by
  obtain ⟨z1, z2, zD⟩ := h
  refine m_X8_readLaw (fun n0 => u_nxtT z2 _ (fun S1 t1 c1 => ?_))
  have hD1 := bDr_tp zD t1
  have r1 : rG S0 S1 := z1.tr (rG.tp t1)
  obtain ⟨a1, -⟩ := tk_qA b n (tkN b n i)
  obtain ⟨-, -, -, c4, c5⟩ := tk_qC b n (tkN b n i)
  have e5 : S1.1 1 5 = nI (tT b n (tkN b n i)) := c1.2.1.1
  have e6 : S1.1 1 6 = nI (tkP b n (tkN b n i)) := c1.2.1.2.1
  rw [e5]
  have K27 : ¬ (29 ≤ tT b n (tkN b n i) ∧ tT b n (tkN b n i) ≤ 31) → L_X8_readLaw_27 G false n0 tl K S1 := fun q => b_X8_readLaw_27 (kE S1 1 _ (by decide) (by decide) (by unfold pLaw; rw [if_neg (fun w => q (c5.mp w))]) r1 e6)
  by_cases hlt : tT b n (tkN b n i) < 29
  · exact ⟨fun _ => K27 (by omega), fun q => absurd (T29 _ hlt) q⟩
  rw [pk_sub (by omega), show (nI (tT b n (tkN b n i) - 29) < 0) = False from by rw [show (0 : Int32) = nI 0 from rfl, nI_ltI (by omega) (by decide)]; exact eq_false (Nat.not_lt_zero _), nI_leI (by omega) (by decide)]
  refine ⟨fun q => q.elim, fun _ => ⟨fun h31 => ?_, fun q => K27 (by omega)⟩⟩
  obtain ⟨k1, k8, k10⟩ := c5.mpr ⟨by omega, by omega⟩
  have kT := c4 k1 k10
  have KR : ∀ w, w < 3 → tT b n (tkN b n i) - 29 = w → (lwD D).2 w = none → ctI G 1 M_X7_knots false [.ref 30] lB S1 tl (fun v S' => ctI G 4 M_X5_read false [.ref 55, .ref (43 + 4 * w), .int (nI 64 - v)] lB S' tl (fun v S' => K v S')) := by
    intro w hw eT hn
    have ew : tkW b n (tkN b n i) - 8 = w := by omega
    refine ctI.tr e_PlD e_PlD_i e_PlD_n (as' := [.ref 0]) rfl (fun G' => u_knotsD (G := G') (T := rsS e_PlD S1) hD1.2.2.2.2.2 _ ?_)
    rw [mgS_rs, pk_sub hD1.2.2.2.2.2.2.1]
    have hz := bD6_at hD1.2.2.2.2.2 hw
    rw [show D.2.2.2.2.2.2 w = none from hn] at hz
    have hz : S1.1 (e_PlD.getD (13 + 4 * w) 0) 3 = nI 0 ∧ S1.1 (e_PlD.getD (13 + 4 * w) 0) 4 = nI 0 := hz
    rw [ePl_g _ (by omega), show 30 + (13 + 4 * w) = 43 + 4 * w by omega] at hz
    have eL : pLaw b n D i = bE (sumS b n 701 (u0 (lwD D).1) (tkN b n (tkN b n i))) (fun r => .ok ((D.1, D.2.1, D.2.2.1, D.2.2.2.1, D.2.2.2.2.1, ((lwD D).1 + r.1.1, up (lwD D).2 w (some r.1))), r.2)) := by
      unfold pLaw
      rw [if_pos ⟨k1, k8, k10⟩, ew, if_neg (by rw [hn]; exact Bool.false_ne_true)]
    refine u_readL (pLw_w hw) c1.2.2.2.2 c1.1 c1.2.2.2.1 c1.2.1.2.2.1 hD1.2.2.2.2.2.2.1 hz _ (fun S' e p' he hE h6 hg => ?_) (fun S' j hE h34 hx hk hg => ?_) (fun S' q j hO h34 hjn hx hk hg hl hv h64 => ?_)
    · exact kE S' e p' (by omega) (by omega) (by rw [eL]; exact congrArg (fun r => bE r _) hE |>.trans bE_er) (r1.tr (rG.rd (pLw_w hw) hg)) h6
    · exact kN S' j (by rw [eL]; exact congrArg (fun r => bE r _) hE |>.trans bE_er) h34 hk (r1.tr (rG.rd (pLw_w hw) hg))
    · refine kO S' _ j (by rw [eL]; exact congrArg (fun r => bE r _) hO |>.trans bE_ok) ⟨r1.tr (rG.rd (pLw_w hw) hg), ⟨hx, hk, hjn, (tk_b c1.2.2.2.2 hjn hx.1).2.2.2.2.1, c1.2.2.2.2⟩, bDr_law hw hD1 hg hn hl hv h64⟩
  have KT : ∀ w (A : Prop), w < 3 → tT b n (tkN b n i) - 29 = w → ((lwD D).2 w = none → A) → (bI ((lwD D).2 w).isSome = 0 → A) ∧ (¬ bI ((lwD D).2 w).isSome = 0 → K (nI 3) S1) := by
    intro w A hw eT hA
    refine ⟨fun q => hA ?_, fun q => ?_⟩
    · cases y : (lwD D).2 w with
      | none => rfl
      | some x => rw [y] at q; exact absurd (show bI true = 0 from q) (by decide)
    · refine kE S1 3 _ (by decide) (by decide) ?_ r1 e6
      unfold pLaw
      rw [if_pos ⟨k1, k8, k10⟩, show tkW b n (tkN b n i) - 8 = w by omega, if_pos]
      cases y : (lwD D).2 w with
      | none => rw [y] at q; exact absurd rfl q
      | some x => rfl
  generalize tT b n (tkN b n i) - 29 = t at *
  have hv3 : vp_in (nI t) 3 := (x_vp (by omega)).mpr (by omega)
  simp only [nI_eq (show t < 2 ^ 31 by omega) (show 0 < 2 ^ 31 by decide), nI_eq (show t < 2 ^ 31 by omega) (show 1 < 2 ^ 31 by decide), nI_eq (show t < 2 ^ 31 by omega) (show 2 < 2 ^ 31 by decide)]
  refine ⟨hv3, fun z => ?_, fun z => ?_, fun z => ?_⟩
  · refine u_toldL (w := 0) (by decide) (bD6_at hD1.2.2.2.2.2 (w := 0) (by decide)) _ (KT 0 _ (by decide) z (fun hn => ⟨hv3, fun _ => KR 0 (by decide) z hn, fun y => absurd (z.symm.trans y) (by decide), fun y => absurd (z.symm.trans y) (by decide)⟩))
  · refine u_toldL (w := 1) (by decide) (bD6_at hD1.2.2.2.2.2 (w := 1) (by decide)) _ (KT 1 _ (by decide) z (fun hn => ⟨hv3, fun y => absurd (z.symm.trans y) (by decide), fun _ => KR 1 (by decide) z hn, fun y => absurd (z.symm.trans y) (by decide)⟩))
  · refine u_toldL (w := 2) (by decide) (bD6_at hD1.2.2.2.2.2 (w := 2) (by decide)) _ (KT 2 _ (by decide) z (fun hn => ⟨hv3, fun y => absurd (z.symm.trans y) (by decide), fun y => absurd (z.symm.trans y) (by decide), fun _ => KR 2 (by decide) z hn⟩))
end LINES4

