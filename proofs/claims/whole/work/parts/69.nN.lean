/-! ===== the reference: who wins ===== -/
def qJ (g : tSG) (S : ms_S) : Prop := qE g S ∧ ∀ x, x < 7 → a_joined S x = nI (jbC g.1 x)
theorem qJ_O {a : Nat} {g : tSG} {S S' : ms_S} (ha : aZ a = true) (h31 : aO a 31 = false) (h32 : aO a 32 = false) (h33 : aO a 33 = false) (h : qJ g S) (x : mE fN (aO a) S S') : qJ g S' := ⟨qE_Z (S := S) h.1 (oZ ha x) (mRW_F x rfl h32 h33 h.1.1.1.2.2.2.2.2.2.2.2.2), fun y hy => (congrFun (x.2.2.2.1 31 h31) y).trans (h.2 y hy)⟩
theorem c_layGame (G : ab_G) (fr : Bool) (S : ms_S) (tl : ab_H) (g : tSG) (one two : Nat) (h : qE g S) (h1 : one < 2 ^ 9) (h2 : two < 2 ^ 9) :
    ctU G 5 M_X12_layGame fr [.ref 0, .int (nI one), .int (nI two)] lM (ptS S) tl (fun S' => qJ g S' ∧ mGV S' g.1.1 (jbC g.1) one two 0) := by
  refine ctU.ab (fun K hK => m_X12_layGame (fun n0 => q_joins G fr S tl g h _ (fun S1 q1 _ j1 => ?_)))
  rw [nu_or]
  have p1 := h.1.1.1.1
  have hall : one ||| two < 2 ^ 9 := Nat.or_lt_two_pow h1 h2
  have KS : ∀ f (X : ms_S), f < 512 → qJ g X → mGV X g.1.1 (jbC g.1) one two f → L_X12_layGame_14 G fr n0 tl K X (nI one) (nI two) (nI (one ||| two)) (nI f) := by
    intro f
    induction f with
    | zero =>
      intro X hf x1 x2
      exact b_X12_layGame_14 ⟨fun _ => hK _ ⟨x1, x2⟩, fun q => absurd (Int32.le_refl _) q⟩
    | succ f ih =>
      intro X hf x1 x2
      have es : nI (f + 1) + -(nI 1) = nI f := by rw [← Int32.sub_eq_add_neg, pk_sub (by omega)]; rfl
      have hdl := dif_le (f + 1) (one ||| two)
      refine b_X12_layGame_14 ?_
      rw [es, nu_dif, x_eq0 (by omega), dif_0 (by omega), x_le0 (by omega)]
      refine ⟨fun q => by omega, fun _ => ⟨fun hz => ctI.eq (c_manyOf G fr _ _ (by omega)) ?_, fun hz => ih X (by omega) x1 (fun s hs1 hs2 hs3 => ?_)⟩⟩
      · have hp9 := pop_le (f + 1) 9
        rw [pk_mod (by omega) (by decide) (by decide), x_eq0 (k := pop (f + 1) 9 % 2) (by omega)]
        have hmi : tuN one two (f + 1) < 2 ^ 9 := by
          show (if _ then one else two) < _
          split <;> assumption
        have KF : ∀ d x (X : ms_S), x + d = 7 → qJ g X → mGV X g.1.1 (jbC g.1) one two (f + 1) → (∀ y, y < x → ∀ e, e < 7 → X.2.2.2.1 36 (49 * (f + 1) + 7 * y + e) = enc (gvT g.1.1 (jbC g.1) one two (f + 1) y e)) → L_X12_layGame_51 G fr n0 tl K X (nI one) (nI two) (nI (one ||| two)) (nI (f + 1)) (nI (tuN one two (f + 1))) (nI x) := by
          intro d
          induction d with
          | zero =>
            intro x X hd y1 y2 y3
            refine b_X12_layGame_51 ?_
            rw [es]
            simp (disch := omega) only [x_vp, x_lt0, x_0le, x_eq0, x_0lt, x_le0, x_b0, x_b1, nI_leI, nI_ltI, nI_eq, nI_add, pk_mul, nI_clamp, true_and, and_true, true_implies, false_implies, implies_true, not_true_eq_false, not_false_eq_true]
            refine ⟨fun _ => ih X (by omega) y1 (fun s hs1 hs2 hs3 u hu e he => ?_), fun q => absurd q (by omega)⟩
            by_cases z : s = f + 1
            · subst z
              exact y3 u (by omega) e he
            · exact y2 s (by omega) hs2 hs3 u hu e he
          | succ d ihx =>
            intro x X hd y1 y2 y3
            refine b_X12_layGame_51 ?_
            rw [es]
            simp (disch := omega) only [x_vp, x_lt0, x_0le, x_eq0, x_0lt, x_le0, x_b0, x_b1, nI_leI, nI_ltI, nI_eq, nI_add, pk_mul, nI_clamp, true_and, and_true, true_implies, false_implies, implies_true, not_true_eq_false, not_false_eq_true]
            refine ⟨fun q => absurd q (by omega), fun _ => ?_⟩
            have KE : ∀ d e (X : ms_S), e + d = 7 → qJ g X → mGV X g.1.1 (jbC g.1) one two (f + 1) → (∀ y, y < x → ∀ e, e < 7 → X.2.2.2.1 36 (49 * (f + 1) + 7 * y + e) = enc (gvT g.1.1 (jbC g.1) one two (f + 1) y e)) → (∀ u, u < e → X.2.2.2.1 36 (49 * (f + 1) + 7 * x + u) = enc (gvT g.1.1 (jbC g.1) one two (f + 1) x u)) → L_X12_layGame_61 G fr n0 tl K X (nI one) (nI two) (nI (one ||| two)) (nI (f + 1)) (nI (tuN one two (f + 1))) (nI x) (nI e) := by
              intro d
              induction d with
              | zero =>
                intro e X hd z1 z2 z3 z4
                refine b_X12_layGame_61 ?_
                simp (disch := omega) only [x_vp, x_lt0, x_0le, x_eq0, x_0lt, x_le0, x_b0, x_b1, nI_leI, nI_ltI, nI_eq, nI_add, pk_mul, nI_clamp, true_and, and_true, true_implies, false_implies, implies_true, not_true_eq_false, not_false_eq_true]
                refine ⟨fun _ => ihx (x + 1) X (by omega) z1 z2 (fun y hy u hu => ?_), fun q => absurd q (by omega)⟩
                by_cases z : y = x
                · subst z
                  exact z4 u (by omega)
                · exact z3 y (by omega) u hu
              | succ d ihe =>
                intro e X hd z1 z2 z3 z4
                refine b_X12_layGame_61 ?_
                simp (disch := omega) only [x_vp, x_lt0, x_0le, x_eq0, x_0lt, x_le0, x_b0, x_b1, nI_leI, nI_ltI, nI_eq, nI_add, pk_mul, nI_clamp, true_and, and_true, true_implies, false_implies, implies_true, not_true_eq_false, not_false_eq_true]
                refine ⟨fun q => absurd q (by omega), fun _ => c_stateOf G fr X tl _ x e _ (ctI.e1 (c_endsBy G fr X tl g.1.1 (jbC g.1) one two (f + 1) x e z1.1.1.1.1 (fun y hy => ⟨z1.2 y hy, bitsN_lt _ _⟩) z2 (by omega) h1 h2 hz (by omega) (by omega)) ⟨(x_vp (by omega)).mpr (by omega), ?_⟩)⟩
                rw [nI_clamp (by omega)]
                have xo : mE fN (aO 36) X (sA X 36 (49 * (f + 1) + 7 * x + e) (enc (gvT g.1.1 (jbC g.1) one two (f + 1) x e))) := mE.sA rfl
                refine ihe (e + 1) _ (by omega) (qJ_O rfl rfl rfl rfl z1 xo) (fun s hs1 hs2 hs3 y hy u hu => ?_) (fun y hy u hu => ?_) (fun u hu => ?_)
                · show upd (X.2.2.2.1 36) (49 * (f + 1) + 7 * x + e) _ (49 * s + 7 * y + u) = _
                  rw [upd_no (by omega)]
                  exact z2 s hs1 hs2 hs3 y hy u hu
                · show upd (X.2.2.2.1 36) (49 * (f + 1) + 7 * x + e) _ (49 * (f + 1) + 7 * y + u) = _
                  rw [upd_no (by omega)]
                  exact z3 y hy u hu
                · show upd (X.2.2.2.1 36) (49 * (f + 1) + 7 * x + e) _ (49 * (f + 1) + 7 * x + u) = _
                  by_cases z : u = e
                  · subst z
                    exact upd_at
                  · rw [upd_no (by omega)]
                    exact z4 u (by omega)
            exact KE 7 0 X rfl y1 y2 y3 (fun u hu => by omega)
        have h9 := KF 7 0 X rfl x1 x2 (fun y hy => by omega)
        refine ⟨by decide, fun q => ?_, fun q => ?_⟩
        · rw [show tuN one two (f + 1) = one from if_pos q] at h9
          exact h9
        · rw [show tuN one two (f + 1) = two from if_neg q] at h9
          exact h9
      · by_cases z : s = f + 1
        · subst z
          exact absurd hs3 hz
        · exact x2 s (by omega) hs2 hs3
  exact KS 511 S1 (by decide) ⟨q1, j1⟩ (fun s hs1 hs2 => by omega)
/-- the best of the first moves, and the piece -/
def gmP (P : tPL) (jb : Nat → Nat) (one two : Nat) : Nat → Option Nat × Int32
  | 0 => (none, -(nI 2))
  | p + 1 => if one.testBit p = true then
      (some (gB (some (gB (gmP P jb one two p).1 (gvT P jb one two (2 ^ p) (P.2.2.1 p) (P.2.2.2.1 p) + 1))) (gvT P jb one two (2 ^ p) (P.2.2.2.1 p) (P.2.2.1 p) + 1)),
        if some (gB (some (gB (gmP P jb one two p).1 (gvT P jb one two (2 ^ p) (P.2.2.1 p) (P.2.2.2.1 p) + 1))) (gvT P jb one two (2 ^ p) (P.2.2.2.1 p) (P.2.2.1 p) + 1)) = (gmP P jb one two p).1 then (gmP P jb one two p).2 else nI p)
    else gmP P jb one two p
theorem gmP_le (P : tPL) (jb : Nat → Nat) (one two : Nat) (hp : P.1 ≤ 9) : ∀ p, p ≤ 9 → gbM 10 (gmP P jb one two p).1
  | 0, _ => trivial
  | p + 1, h9 => by
    have ih := gmP_le P jb one two hp p (by omega)
    have h512 : 2 ^ p < 512 := p2_lt (n := 9) (by omega)
    have h1 := gv9 P jb one two (2 ^ p) (P.2.2.1 p) (P.2.2.2.1 p) hp h512
    have h2 := gv9 P jb one two (2 ^ p) (P.2.2.2.1 p) (P.2.2.1 p) hp h512
    unfold gmP
    split
    · exact gB_le (m := 10) (b := some _) (gB_le ih (by omega)) (by omega)
    · exact ih
theorem en_in : ∀ a, a < 11 → ∀ b, b < 11 → (enc a = enc b ↔ a = b) := by decide +kernel
theorem en_n0 : ∀ a, a < 11 → ¬ enc a = nI 0 := by decide +kernel
theorem enO_in {n : Nat} {b : Option Nat} (hn : n < 11) (hb : gbL b) : enc n = enO b ↔ some n = b := by
  cases b with
  | none => exact ⟨fun q => absurd q (en_n0 n hn), fun q => by cases q⟩
  | some b => rw [show enO (some b) = enc b from rfl, en_in n hn b hb]; exact ⟨fun q => by rw [q], fun q => by cases q; rfl⟩
def gmB (g : tSG) (a c w : Int32) : Bool := hrK g.1.1 a && (hrK g.1.1 c && (decide (¬ a = c) && inK w 0 2))
abbrev gmO (g : tSG) (a c : Int32) : Option Nat × Int32 := gmP g.1.1 (jbC g.1) (shN g a) (shN g c) g.1.1.1
def A_game (g : tSG) (a c w : Int32) : Int32 := if gmB g a c w = true then (if w = nI 2 then (gmO g a c).2 else if w = 0 then (if opN (gmO g a c).1 % 2 = 1 then nI 0 else nI 1) else nI (opN (gmO g a c).1)) else -(nI 1)
theorem en_le0 : ∀ n, n < 11 → (enc n ≤ 0 ↔ ¬ n % 2 = 1) := by decide +kernel
theorem en_m1 : ∀ n, n < 11 → (n % 2 = 1 → enc n - nI 1 = nI n) ∧ (¬ n % 2 = 1 → -(enc n) - nI 1 = nI n) := by decide +kernel
theorem c_game (G : ab_G) (fr : Bool) (S : ms_S) (tl : ab_H) (g : tSG) (hI : mI S g) (a c w : Int32) :
    ctI G 6 M_X12_game fr [.ref 0, .int a, .int c, .int w] lM S tl (fun v S' => qE g S' ∧ v = A_game g a c w) := by
  refine ctI.ab (fun K hK => m_X12_game (fun n0 => ?_))
  have h0 := qE_0 hI
  have p1 := h0.1.1.1.1
  have kN : gmB g a c w = false → ∀ S', qE g S' → K (-(nI 1)) S' := fun hf S' hq => hK _ _ ⟨hq, by unfold A_game; rw [if_neg (by rw [hf]; decide)]⟩
  refine ctI.eq (c_isHeirK G fr _ tl g.1.1 a h0.1.1.1.2.2.2.1) ?_
  rw [x_b0]
  refine ⟨fun hb => kN (by unfold gmB; rw [hb]; rfl) _ h0, fun hb => ctI.eq (c_isHeirK G fr _ tl g.1.1 c h0.1.1.1.2.2.2.1) ?_⟩
  rw [x_b0]
  refine ⟨fun hb2 => kN (by unfold gmB; rw [hb2, Bool.false_and, Bool.and_false]) _ h0, fun hb2 => ⟨fun hq => kN (by unfold gmB; rw [decide_eq_false (p := ¬ a = c) (fun z => z hq), Bool.false_and, Bool.and_false, Bool.and_false]) _ h0, fun hq => ctI.eq (c_isInK G fr _ w 0 2) ?_⟩⟩
  rw [x_b0]
  refine ⟨fun hb3 => kN (by unfold gmB; rw [hb3, Bool.and_false, Bool.and_false, Bool.and_false]) _ h0, fun hb3 => ?_⟩
  have hB : gmB g a c w = true := by
    unfold gmB
    rw [nf_t hb, nf_t hb2, nf_t hb3, decide_eq_true hq]
    rfl
  unfold A_game at hK
  rw [if_pos hB] at hK
  have h1 : shN g a < 2 ^ 9 := held9 p1
  have h2 : shN g c < 2 ^ 9 := held9 p1
  refine ctU.eq (c_plainTried G fr _ tl) (q_held G fr _ tl g a (qE_pt h0) _ (q_held G fr _ tl g c (qE_pt h0) _ (ctU.mo (c_layGame G fr _ tl g (shN g a) (shN g c) h0 h1 h2) ?_)))
  rintro X ⟨x1, x2⟩
  unfold gmO at hK
  generalize shN g a = one at *
  generalize shN g c = two at *
  obtain ⟨q1, q2, q3, q4, q5, q6⟩ := id x1.1.1.1.1
  have e12 : X.1 0 12 = nI g.1.1.1 := q3
  have KP : ∀ d p, p + d = g.1.1.1 → L_X12_game_71 G fr n0 tl K X w (nI one) (enO (gmP g.1.1 (jbC g.1) one two p).1) (gmP g.1.1 (jbC g.1) one two p).2 (nI p) := by
    intro d
    induction d with
    | zero =>
      intro p hd
      rw [show p = g.1.1.1 by omega]
      have hM := gmP_le g.1.1 (jbC g.1) one two p1 g.1.1.1 p1
      have hL := gbL_M hM (by decide)
      generalize gmP g.1.1 (jbC g.1) one two g.1.1.1 = r at *
      refine b_X12_game_71 ?_
      rw [e12, enO_0 _ hL]
      refine ⟨fun _ => ⟨fun z => hK _ _ ⟨x1.1, by rw [if_pos z]⟩, fun z => ?_⟩, fun q => absurd (Int32.le_refl _) q⟩
      rw [if_neg z] at hK
      obtain ⟨b, fs⟩ := r
      cases b with
      | none =>
        refine ⟨fun z2 => ⟨fun _ => hK _ _ ⟨x1.1, by rw [if_pos z2]; rfl⟩, fun q => absurd (Int32.le_refl _) q⟩, fun z2 => ⟨fun _ => hK _ _ ⟨x1.1, by rw [if_neg z2]; rfl⟩, fun q => absurd rfl q⟩⟩
      | some n =>
        have hn : n < 11 := hL
        obtain ⟨m1, m2⟩ := en_m1 n hn
        rw [show opN (some n, fs).1 = n from rfl] at hK
        show (w = 0 → (enc n ≤ 0 → _) ∧ (¬ enc n ≤ 0 → _)) ∧ (¬ w = 0 → (_ → _) ∧ (_ → (enc n ≤ 0 → K (-(enc n) - nI 1) X) ∧ (¬ enc n ≤ 0 → K (enc n - nI 1) X)))
        rw [en_le0 n hn]
        refine ⟨fun z2 => ⟨fun z3 => hK _ _ ⟨x1.1, by rw [if_pos z2, if_neg z3]⟩, fun z3 => hK _ _ ⟨x1.1, by rw [if_pos z2, if_pos (Classical.not_not.mp z3)]⟩⟩, fun z2 => ⟨fun q => (by cases q), fun _ => ⟨fun z3 => hK _ _ ⟨x1.1, by rw [if_neg z2]; exact m2 z3⟩, fun z3 => hK _ _ ⟨x1.1, by rw [if_neg z2]; exact m1 (Classical.not_not.mp z3)⟩⟩⟩⟩
    | succ d ih =>
      intro p hd
      have h9 := ih (p + 1) (by omega)
      unfold gmP at h9
      have hM := gmP_le g.1.1 (jbC g.1) one two p1 p (by omega)
      generalize gmP g.1.1 (jbC g.1) one two p = r at *
      obtain ⟨f1, f2, f3, f4, f5, f6⟩ := q5 p (by omega)
      have f1 : X.2.2.2.1 6 p = nI (g.1.1.2.2.1 p) := f1
      have f3 : X.2.2.2.1 7 p = nI (g.1.1.2.2.2.1 p) := f3
      have hv : vp_in (nI p) 18 := (x_vp (by omega)).mpr (by omega)
      refine b_X12_game_71 ?_
      rw [e12]
      refine ⟨fun q => absurd q (nI_ge (by omega) (by omega)), fun _ => ctI.eq (c_isOfN G fr _ one p (by omega) (by omega)) ?_⟩
      cases hb1 : one.testBit p with
      | false =>
        rw [if_neg (by rw [hb1]; decide)] at h9
        rw [nI_add]
        exact ⟨fun _ => h9, fun q => absurd rfl q⟩
      | true =>
        rw [if_pos hb1] at h9
        have h512 : 2 ^ p < 512 := p2_lt (n := 9) (by omega)
        have v1 := gv9 g.1.1 (jbC g.1) one two (2 ^ p) (g.1.1.2.2.1 p) (g.1.1.2.2.2.1 p) p1 h512
        have v2 := gv9 g.1.1 (jbC g.1) one two (2 ^ p) (g.1.1.2.2.2.1 p) (g.1.1.2.2.1 p) p1 h512
        have hin : 2 ^ p &&& (one ||| two) = 2 ^ p := sb_of (fun i hi => by
          rw [Nat.testBit_two_pow] at hi
          rw [← of_decide_eq_true hi, Nat.testBit_or, hb1, Bool.true_or])
        have g1 := x2 (2 ^ p) (Nat.pow_pos (by decide)) h512 hin _ f2 _ f4
        have g2 := x2 (2 ^ p) (Nat.pow_pos (by decide)) h512 hin _ f4 _ f2
        rw [nI_clamp (by omega), f1, f3, nu_1shl (by omega)]
        refine ⟨fun q => absurd q (by decide), fun _ => ⟨hv, hv, c_stateOf G fr X tl _ _ _ _ ⟨(x_vp (by omega)).mpr (by omega), ?_⟩⟩⟩
        rw [nI_clamp (by omega), g1]
        refine c_better G fr X tl r.1 _ (gbL_M hM (by decide)) (by omega) _ ⟨hv, hv, ?_⟩
        rw [f1, f3]
        refine c_stateOf G fr X tl _ _ _ _ ⟨(x_vp (by omega)).mpr (by omega), ?_⟩
        rw [nI_clamp (by omega), g2]
        have hM2 : gbM 10 (some (gB r.1 (gvT g.1.1 (jbC g.1) one two (2 ^ p) (g.1.1.2.2.1 p) (g.1.1.2.2.2.1 p) + 1))) := gB_le hM (by omega)
        have hM3 := gB_le hM2 (show gvT g.1.1 (jbC g.1) one two (2 ^ p) (g.1.1.2.2.2.1 p) (g.1.1.2.2.1 p) + 1 ≤ 10 by omega)
        refine c_better G fr X tl (some _) _ (gbL_M hM2 (by decide)) (by omega) _ ?_
        rw [enO_in (by omega) (gbL_M hM (by decide)), nI_add]
        refine ⟨fun q => ?_, fun q => ?_⟩
        · rw [if_pos q] at h9
          exact h9
        · rw [if_neg q] at h9
          exact h9
  exact KP g.1.1.1 0 (by omega)
