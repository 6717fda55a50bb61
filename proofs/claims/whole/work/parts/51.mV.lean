/-! ===== the reference: acts ===== -/
def pA (tl : ab_H) (g : tSG) (a : Value) (r : Option Value) (h' : ab_H) : Prop := ∃ S', h' = hM S' tl ∧ mI S' g ∧ m_thrown S' = nI 0 ∧ r = some a
theorem pA.i {X : ms_S} {tl : ab_H} {g : tSG} {a b : Int32} (h2 : mI X g) (h3 : m_thrown X = nI 0) (h4 : b = a) : pA tl g (.int a) (some (.int b)) (hM X tl) := ⟨X, rfl, h2, h3, by rw [h4]⟩
theorem th_I {S : ms_S} {g : tSG} (h : mI S g) (x : Int32) : mI (sV S 2 x) g := ⟨th_C h.1 x, mU_F (S := S) rfl rfl h.2.1, mIm_F (S := S) rfl rfl rfl rfl rfl h.2.2.1, mRs_W (S := S) (mW.sV rfl) h.2.2.2⟩
abbrev gS (g : tSG) (s : tES) (dn : Nat) (U : tU) (im : tIm) : tSG := ((g.1.1, g.1.2.1, g.1.2.2.1, s, dn), U, im, g.2.2.2)
theorem fUn_U (k : Nat) (h : fU k = false) : fUn k = false := by
  unfold fUn
  cases hb : Nat.beq k 79 with
  | false => rfl
  | true =>
    have := Nat.eq_of_beq_eq_true hb
    subst this
    exact absurd h (by decide)
theorem a39_U (k : Nat) (h : aU k = false) : aO 39 k = false := by
  unfold aO
  cases hb : Nat.beq k 39 with
  | false => rfl
  | true =>
    have := Nat.eq_of_beq_eq_true hb
    subst this
    exact absurd h (by decide)
theorem a40_U (k : Nat) (h : aU k = false) : aO 40 k = false := by
  unfold aO
  cases hb : Nat.beq k 40 with
  | false => rfl
  | true =>
    have := Nat.eq_of_beq_eq_true hb
    subst this
    exact absurd h (by decide)
theorem mES_A {F A : Nat → Bool} {S S' : ms_S} {b : Nat} {s : tES} (h : mE F A S S') (h6 : A 26 = false) (h7 : A 27 = false) (h8 : A 28 = false) (h9 : A 29 = false) (h10 : A 30 = false) (hs : mES S b s) : mES S' b s :=
  ⟨fun p hp => (congrFun (h.2.2.2.1 26 h6) _).trans (hs.1 p hp), fun q hq => ⟨(congrFun (h.2.2.2.1 27 h7) _).trans (hs.2.1 q hq).1, (hs.2.1 q hq).2⟩, fun q hq => (congrFun (h.2.2.2.1 28 h8) _).trans (hs.2.2.1 q hq), (congrFun (h.2.2.2.1 29 h9) _).trans hs.2.2.2.1, (congrFun (h.2.2.2.1 30 h10) _).trans hs.2.2.2.2.1, hs.2.2.2.2.2⟩
/-! undo -/
def N_undo (g : tSG) : tSG := if g.2.1.1 = 0 then g else gS g ((g.2.1.2 (g.2.1.1 - 1)).1, (g.2.1.2 (g.2.1.1 - 1)).2.1, (g.2.1.2 (g.2.1.1 - 1)).2.2, g.1.2.2.2.1.2.2.2) g.1.2.2.2.2 (g.2.1.1 - 1, g.2.1.2) g.2.2.1
def A_undo (g : tSG) : Int32 := if g.2.1.1 = 0 then -(nI 1) else nI (g.2.1.1 - 1)
set_option maxRecDepth 100000 in
set_option maxHeartbeats 4000000 in
theorem c_undo (G : ab_G) (fr : Bool) (S : ms_S) (tl : ab_H) (g : tSG) (hI : mI S g)  :
    ab_CT G 2 M_X12_undo fr [.ref 0] (hM S tl) 0 0 (pA tl (N_undo g) (.int (A_undo g))) := by
  refine wp_ct o_X12_undo (Nat.le_of_ble_eq_true rfl) ?_
  generalize (hM S tl).length = n0
  have hI0 : mI (sV S 2 (nI 0)) g := th_I hI (nI 0)
  generalize hS0 : sV S 2 (nI 0) = S0 at hI0
  have ht0 : m_thrown S0 = nI 0 := by rw [← hS0]; rfl
  obtain ⟨hC0, hU0, hM0, hR0⟩ := id hI0
  obtain ⟨c1, c2, c3, c4, c5, c6, c7, c8, c9, c10⟩ := id hC0
  obtain ⟨q1, q2, q3, q4, q5, q6⟩ := id c1
  iterate 3 refine ws_s rfl ?_
  refine wp_eqS hS0.symm ?_
  obtain ⟨u1, u2', u3⟩ := id hU0
  repeat refine ws_s rfl ?_
  refine wp_eq (x := g.2.1.1) (y := 0) u2' rfl (by omega) (by decide) (fun hq => ?_) (fun hq => ?_)
  · have e1 : N_undo g = g := if_pos hq
    have e2 : A_undo g = -(nI 1) := if_pos hq
    rw [e1, e2]
    repeat refine ws_s rfl ?_
    exact wp_ri rfl rfl rfl (pA.i hI0 ht0 rfl)
  · have e1 : N_undo g = gS g ((g.2.1.2 (g.2.1.1 - 1)).1, (g.2.1.2 (g.2.1.1 - 1)).2.1, (g.2.1.2 (g.2.1.1 - 1)).2.2, g.1.2.2.2.1.2.2.2) g.1.2.2.2.2 (g.2.1.1 - 1, g.2.1.2) g.2.2.1 := if_neg hq
    have e2 : A_undo g = nI (g.2.1.1 - 1) := if_neg hq
    rw [e1, e2]
    obtain ⟨r1, r2⟩ := u3 (g.2.1.1 - 1) (by omega)
    iterate 6 refine ws_s rfl ?_
    rw [show S0.1 0 79 = nI g.2.1.1 from u2', show nI g.2.1.1 - nI 1 = nI (g.2.1.1 - 1) from pk_sub (by omega)]
    have ct := c_take39 G fr (sV S0 79 (nI (g.2.1.1 - 1))) tl (g.2.1.2 (g.2.1.1 - 1)) (19 * (g.2.1.1 - 1)) r1 (by omega)
    rw [show nI (19 * (g.2.1.1 - 1)) = nI 19 * nI (g.2.1.1 - 1) from (pk_mul _ _).symm] at ct
    repeat refine ws_s rfl ?_
    refine wp_cV rfl rfl o_X12_take v_X12_take (ct) rfl rfl rfl (Nat.le_of_ble_eq_true rfl) (by decide) ?_
    rintro r h' ⟨Y, rfl, y1, y2, y3, y4, y5, y6, rfl⟩
    have hw : mW S0 Y := (mW.sV rfl).tr ⟨fun k _ => y1.1 0 k (Or.inr rfl), fun a q => y1.2.2.2.1 a rfl (aUZ q).2⟩
    repeat refine ws_s rfl ?_
    refine wp_ri rfl rfl rfl (pA.i (mI_mk hI0 hw ⟨fun p hp => ?_, fun q hq => ⟨?_, (r1.2 q hq).2.1⟩, fun q hq => ?_, (congrFun y3 0).trans c5.2.2.2.1, (congrFun y4 0).trans c5.2.2.2.2.1, c5.2.2.2.2.2⟩ r2 c7 ((congrFun (congrFun y2 0) 57).trans c8) c9 (mRW_F2 (S := S0) (y1.1 0 68 (Or.inr rfl)) (y1.2.2.2.1 32 rfl rfl) (y1.2.2.2.1 33 rfl rfl) c10) ⟨by show g.2.1.1 - 1 ≤ 20; omega, y1.1 0 79 (Or.inr rfl), fun k hk => ?_⟩ (mIm_F (S := S0) (y1.1 0 81 (Or.inr rfl)) (y1.2.2.2.1 40 rfl rfl) (y1.1 0 83 (Or.inr rfl)) (y1.1 0 84 (Or.inr rfl)) (congrFun (congrFun y2 0) 85) hM0)) ((y1.1 0 2 (Or.inr rfl)).trans ht0) (y1.1 0 79 (Or.inr rfl)))
    · rw [show 9 * 0 + p = p by omega]
      exact y5 p hp
    · rw [show 5 * 0 + q = q by omega]
      exact (y6 q hq).1
    · rw [show 5 * 0 + q = q by omega]
      exact (y6 q hq).2
    · have hk2 : k < g.2.1.1 - 1 := hk
      rw [show a_undo Y = a_undo S0 from y1.2.2.2.1 39 rfl rfl]
      exact u3 k (by omega)
/-! keep -/
def N_keep (g : tSG) : tSG := gS g g.1.2.2.2.1 g.1.2.2.2.2 g.2.1 (some (rwS g.1.2.2.2.1, g.1.2.2.2.1.2.2.2.1, g.1.2.2.2.1.2.2.2.2, g.1.2.2.2.2))
set_option maxRecDepth 100000 in
set_option maxHeartbeats 4000000 in
theorem c_keep (G : ab_G) (fr : Bool) (S : ms_S) (tl : ab_H) (g : tSG) (hI : mI S g)  :
    ab_CT G 2 M_X12_keep fr [.ref 0] (hM S tl) 0 0 (pA tl (N_keep g) (.int (nI g.1.2.2.2.1.2.2.2.2))) := by
  refine wp_ct o_X12_keep (Nat.le_of_ble_eq_true rfl) ?_
  generalize (hM S tl).length = n0
  have hI0 : mI (sV S 2 (nI 0)) g := th_I hI (nI 0)
  generalize hS0 : sV S 2 (nI 0) = S0 at hI0
  have ht0 : m_thrown S0 = nI 0 := by rw [← hS0]; rfl
  obtain ⟨hC0, hU0, hM0, hR0⟩ := id hI0
  obtain ⟨c1, c2, c3, c4, c5, c6, c7, c8, c9, c10⟩ := id hC0
  obtain ⟨q1, q2, q3, q4, q5, q6⟩ := id c1
  iterate 3 refine ws_s rfl ?_
  refine wp_eqS hS0.symm ?_
  repeat refine ws_s rfl ?_
  refine ws_g rfl (Or.inr rfl) ?_
  repeat refine ws_s rfl ?_
  refine wp_cV rfl rfl o_X12_put v_X12_put (c_put40 G fr (sV S0 81 (nI 1)) tl g.1.2.2.2.1 0 c5 (by decide)) rfl rfl rfl (Nat.le_of_ble_eq_true rfl) (by decide) ?_
  rintro r h' ⟨Y, rfl, y1, y2, y3, rfl⟩
  have sY : mES Y 0 g.1.2.2.2.1 := mES_A y1 rfl rfl rfl rfl rfl c5
  have hw : mW S0 Y := (mW.sV rfl).tr (y1.W (fun _ _ => rfl) a40_U)
  repeat refine ws_s rfl ?_
  refine ws_ld (k := 0) rfl (by first | rfl | (simp only [pk_mul, nI_add]; done)) (by omega) (by decide) (sY.2.2.2.1) ?_
  repeat refine ws_s rfl ?_
  refine ws_ld (k := 0) rfl (by first | rfl | (simp only [pk_mul, nI_add]; done)) (by omega) (by decide) (sY.2.2.2.2.1) ?_
  repeat refine ws_s rfl ?_
  refine ws_ld (k := 0) rfl (by first | rfl | (simp only [pk_mul, nI_add]; done)) (by omega) (by decide) (sY.2.2.2.2.1) ?_
  have hdr : m_drawn Y = lN g.1.2.2.2.2 := (congrFun (congrFun y1.2.1 0) 57).trans c8
  refine wp_ri rfl rfl rfl (pA.i (mI_mk hI0 ((hw.tr ((mW.sV rfl).tr (mW.sV rfl))).tr mW.sW) sY c6 c7 hdr c9 (mRW_F2 (S := S0) (y1.1 0 68 (Or.inr rfl)) (y1.2.2.2.1 32 rfl) (y1.2.2.2.1 33 rfl) c10) (mU_F (S := S0) (y1.1 0 79 (Or.inr rfl)) (y1.2.2.2.1 39 rfl) hU0) ⟨y1.1 0 81 (Or.inr rfl), fun x hx => ?_⟩) ((y1.1 0 2 (Or.inr rfl)).trans ht0) rfl)
  cases hx
  exact ⟨y2, c6, rfl, rfl, c7, hdr, c9⟩
/-! back -/
def N_back (g : tSG) : tSG := match g.2.2.1 with | none => g | some x => gS g (x.1.1, x.1.2.1, x.1.2.2, x.2.1, x.2.2.1) x.2.2.2 (0, g.2.1.2) g.2.2.1
def A_back (g : tSG) : Int32 := match g.2.2.1 with | none => -(nI 1) | some x => nI x.2.2.1
set_option maxRecDepth 100000 in
set_option maxHeartbeats 4000000 in
theorem c_back (G : ab_G) (fr : Bool) (S : ms_S) (tl : ab_H) (g : tSG) (hI : mI S g)  :
    ab_CT G 2 M_X12_back fr [.ref 0] (hM S tl) 0 0 (pA tl (N_back g) (.int (A_back g))) := by
  refine wp_ct o_X12_back (Nat.le_of_ble_eq_true rfl) ?_
  generalize (hM S tl).length = n0
  have hI0 : mI (sV S 2 (nI 0)) g := th_I hI (nI 0)
  generalize hS0 : sV S 2 (nI 0) = S0 at hI0
  have ht0 : m_thrown S0 = nI 0 := by rw [← hS0]; rfl
  obtain ⟨hC0, hU0, hM0, hR0⟩ := id hI0
  obtain ⟨c1, c2, c3, c4, c5, c6, c7, c8, c9, c10⟩ := id hC0
  obtain ⟨q1, q2, q3, q4, q5, q6⟩ := id c1
  iterate 3 refine ws_s rfl ?_
  refine wp_eqS hS0.symm ?_
  obtain ⟨m1, m2⟩ := id hM0
  unfold N_back A_back
  cases him : g.2.2.1 with
  | none =>
    rw [him] at m1
    repeat refine ws_s rfl ?_
    refine wp_bn m1 (fun _ => ?_) (fun q => by cases q)
    repeat refine ws_s rfl ?_
    exact wp_ri rfl rfl rfl (pA.i hI0 ht0 rfl)
  | some x =>
    obtain ⟨x1, x2, x3, x4, x5, x6, x7⟩ := m2 x him
    rw [him] at m1
    repeat refine ws_s rfl ?_
    refine wp_bn m1 (fun q => by cases q) (fun _ => ?_)
    repeat refine ws_s rfl ?_
    refine wp_cV rfl rfl o_X12_take v_X12_take (c_take40 G fr S0 tl x.1 0 x1 (by decide)) rfl rfl rfl (Nat.le_of_ble_eq_true rfl) (by decide) ?_
    rintro r h' ⟨Y, rfl, y1, y2, y3, y4, y5, y6, rfl⟩
    have hw : mW S0 Y := ⟨fun k _ => y1.1 0 k (Or.inr rfl), fun a q => y1.2.2.2.1 a rfl (aUZ q).2⟩
    repeat refine ws_s rfl ?_
    refine ws_sa (k := 0) rfl (by first | rfl | (simp only [pk_mul, nI_add]; done)) (by omega) (by decide) ((y1.1 0 83 (Or.inr rfl)).trans x3) ?_
    repeat refine ws_s rfl ?_
    refine ws_sa (k := 0) rfl (by first | rfl | (simp only [pk_mul, nI_add]; done)) (by omega) (by decide) ((y1.1 0 84 (Or.inr rfl)).trans x4) ?_
    repeat refine ws_s rfl ?_
    refine ws_ld (k := 0) rfl rfl (by decide) (by decide) (show _ = nI x.2.2.1 from rfl) ?_
    refine wp_ri rfl rfl rfl (pA.i (mI_mk hI0 ((((hw.tr (mW.sA rfl)).tr (mW.sA rfl)).tr mW.sW).tr (mW.sV rfl)) ⟨fun p hp => ?_, fun q hq => ⟨?_, (x1.2 q hq).2.1⟩, fun q hq => ?_, rfl, rfl, by show x.2.2.1 < 2 ^ 20; omega⟩ x2 x5 ((congrFun (congrFun y2 0) 85).trans x6) x7 (mRW_F2 (S := S0) (y1.1 0 68 (Or.inr rfl)) (y1.2.2.2.1 32 rfl rfl) (y1.2.2.2.1 33 rfl rfl) c10) ⟨by show 0 ≤ 20; decide, rfl, fun k hk => absurd hk (Nat.not_lt_zero k)⟩ (mIm_F (S := S0) (y1.1 0 81 (Or.inr rfl)) (y1.2.2.2.1 40 rfl rfl) (y1.1 0 83 (Or.inr rfl)) (y1.1 0 84 (Or.inr rfl)) (congrFun (congrFun y2 0) 85) (him ▸ hM0))) ((y1.1 0 2 (Or.inr rfl)).trans ht0) rfl)
    · show a_holder Y (9 * 0 + p) = _
      rw [show 9 * 0 + p = p by omega]
      exact y5 p hp
    · show a_gold Y (5 * 0 + q) = _
      rw [show 5 * 0 + q = q by omega]
      exact (y6 q hq).1
    · show a_laid Y (5 * 0 + q) = _
      rw [show 5 * 0 + q = q by omega]
      exact (y6 q hq).2
