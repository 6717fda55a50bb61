/-! ===== the program: what only looks, the rest ===== -/
section LOOKS3
variable {G : ab_G} {tl : ab_H} {S : ms_S} {g : tSG} {o : Nat → Option tDQ} {V : Nat}
theorem d_law (hQ : bQ S g o V) (w a c : Int32) : ctL G 5 M_X11_law false [.ref 0, .int w, .int a, .int c] lB S tl (fun v S' => bQ S' g o (V + 5000) ∧ v = A_law g.1 w a c) := by
  refine ctL.ab (fun K hK => m_X11_law (fun n0 => ?_))
  have q0 : bQ S g o (V + 5000) := bQ_m hQ (by omega)
  have p5 := hQ.1.1.2.1
  have p9 := hQ.1.1.1
  have h4 := hQ.2.2.2.1
  have hL := hQ.1.1.2.2.2.2.2.2.2.2
  have q1 : ∀ T, cF aW (cN S) T → bQ (mgS e_CN S T) g o (V + 5000) := fun T f => bQ_m (bQ_nw hQ f (by decide) rfl rfl rfl rfl rfl rfl rfl) (by omega)
  unfold A_law at hK
  have hN : ¬ A_lawB g.1 w a c = true → K (-9223372036854775808 : Int64) S := fun q => hK _ _ ⟨q0, by rw [if_neg q]⟩
  -- what a law that isn't told answers
  have hA : ∀ (j : Nat) (e : Nat → Int64), j < 3 → w = nI j → (if w = 0 then enK a && enK c else pcK g.1.1 a && hrK g.1.1 c) = true → lwA g.1 j (cl a) (cl c) = evW (o j) e → (if A_lawB g.1 w a c = true then (lwA g.1 (cl w) (cl a) (cl c)).getD NTH else NTH) = (evW (o j) e).getD NTM := by
    intro j e hj hw hb he
    have hcl : cl w = j := by rw [hw]; exact nI_clamp (by omega)
    have hin : inK w 0 2 = true := by
      rw [hw]
      unfold inK
      rw [decide_eq_true_eq, nI_ltI (by omega) (by decide), nI_ltI (by decide) (by omega)]
      omega
    unfold A_lawB
    rw [hin, hb, hcl, (hL j hj).1, he, Bool.true_and, Bool.and_true]
    cases hz : o j with
    | none => rfl
    | some q => rfl
  refine ⟨fun z => u_en a _ ?_, fun z => u_pc hQ.1.1.2.2.1 a _ ?_, fun z => u_pc hQ.1.1.2.2.1 a _ ?_, fun z1 z2 z3 => hN (fun q => ?_)⟩
  · have nB : ¬ (enK a && enK c) = true → ¬ A_lawB g.1 w a c = true := fun q r => by
      unfold A_lawB at r
      rw [if_pos (show w = 0 from z)] at r
      simp only [Bool.and_eq_true] at r q
      exact q r.2.2
    rw [x_b0]
    refine ⟨fun y => b_X11_law_61 (b_X11_law_64 (hN (nB (by rw [y]; exact Bool.false_ne_true)))), fun y => u_en c _ ?_⟩
    have y := nf_t y
    rw [x_b0]
    refine ⟨fun x => b_X11_law_61 (b_X11_law_64 (hN (nB (by rw [x, Bool.and_false]; exact Bool.false_ne_true)))), fun x => ?_⟩
    have x := nf_t x
    obtain ⟨i, hi, rfl⟩ := en_t y
    obtain ⟨j, hj, rfl⟩ := en_t x
    rw [show S.1 82 3 = nI g.1.2.2.2.1.2.2.2.2 from h4.2.2.2.1]
    refine ctL.tr e_CN e_CN_i e_CN_n (as' := [.ref 31, .int (nI g.1.2.2.2.1.2.2.2.2), .int (nI i), .int (nI j)]) rfl (fun G' => u_joinV (G := G') (S := cN S) hQ.1.1 _ i j (by have := h4.2.2.2.2.1; omega) hi hj _ (fun T f => b_X11_law_64 (hK _ _ ⟨q1 T f, ?_⟩)))
    refine (hA 0 _ (by decide) z (by rw [if_pos (show w = 0 from z), y, x]; rfl) ?_).symm
    rw [show cl (nI i) = i from nI_clamp (by omega), show cl (nI j) = j from nI_clamp (by omega), ← (hL 0 (by decide)).2]
    rfl
  · have hw0 : ¬ w = 0 := fun q => absurd (z.symm.trans q) (by decide)
    have nB : ¬ (pcK g.1.1 a && hrK g.1.1 c) = true → ¬ A_lawB g.1 w a c = true := fun q r => by
      unfold A_lawB at r
      rw [if_neg hw0] at r
      simp only [Bool.and_eq_true] at r q
      exact q r.2.2
    rw [x_b0]
    refine ⟨fun y => b_X11_law_97 (b_X11_law_100 (hN (nB (by rw [y]; exact Bool.false_ne_true)))), fun y => u_hr hQ.1.1.2.2.2.1 c _ ?_⟩
    have y := nf_t y
    rw [x_b0]
    refine ⟨fun x => b_X11_law_97 (b_X11_law_100 (hN (nB (by rw [x, Bool.and_false]; exact Bool.false_ne_true)))), fun x => ?_⟩
    have x := nf_t x
    obtain ⟨i, hi, rfl⟩ := pc_t p9 y
    obtain ⟨j, hj, rfl⟩ := hr_t p5 x
    refine ctL.tr e_CN e_CN_i e_CN_n (as' := [.ref 31, .ref 46, .int (nI i), .int (nI j)]) rfl (fun G' => u_mayV (G := G') (S := cN S) hQ.1.1 h4 i j hi hj _ (fun T f => b_X11_law_100 (hK _ _ ⟨q1 T f, ?_⟩)))
    refine (hA 1 _ (by decide) z (by rw [if_neg hw0, y, x]; rfl) ?_).symm
    rw [show cl (nI i) = i from nI_clamp (by omega), show cl (nI j) = j from nI_clamp (by omega), ← (hL 1 (by decide)).2]
    rfl
  · have hw0 : ¬ w = 0 := fun q => absurd (z.symm.trans q) (by decide)
    have nB : ¬ (pcK g.1.1 a && hrK g.1.1 c) = true → ¬ A_lawB g.1 w a c = true := fun q r => by
      unfold A_lawB at r
      rw [if_neg hw0] at r
      simp only [Bool.and_eq_true] at r q
      exact q r.2.2
    rw [x_b0]
    refine ⟨fun y => b_X11_law_133 (b_X11_law_136 (hN (nB (by rw [y]; exact Bool.false_ne_true)))), fun y => u_hr hQ.1.1.2.2.2.1 c _ ?_⟩
    have y := nf_t y
    rw [x_b0]
    refine ⟨fun x => b_X11_law_133 (b_X11_law_136 (hN (nB (by rw [x, Bool.and_false]; exact Bool.false_ne_true)))), fun x => ?_⟩
    have x := nf_t x
    obtain ⟨i, hi, rfl⟩ := pc_t p9 y
    obtain ⟨j, hj, rfl⟩ := hr_t p5 x
    refine ctL.tr e_CN e_CN_i e_CN_n (as' := [.ref 31, .ref 46, .int (nI i), .int (nI j)]) rfl (fun G' => u_goldV (G := G') (S := cN S) hQ.1.1 h4 i j hi hj _ (fun T f => b_X11_law_136 (hK _ _ ⟨q1 T f, ?_⟩)))
    refine (hA 2 _ (by decide) z (by rw [if_neg hw0, y, x]; rfl) ?_).symm
    rw [show cl (nI i) = i from nI_clamp (by omega), show cl (nI j) = j from nI_clamp (by omega), ← (hL 2 (by decide)).2, db_1, if_pos hi]
    rfl
  · unfold A_lawB at q
    simp only [Bool.and_eq_true] at q
    obtain ⟨d, hd, e9⟩ := in_t (by decide) q.1
    rcases (show d = 0 ∨ d = 1 ∨ d = 2 by omega) with rfl | rfl | rfl
    · exact z1 e9
    · exact z2 e9
    · exact z3 e9
theorem bitsN_t {f : Nat → Bool} {c : Nat} (h : f c = true) : bitsN f (c + 1) = bitsN f c ||| 2 ^ c := by
  show bitsN f c ||| (if f c = true then 2 ^ c else 0) = _
  rw [if_pos h]
theorem bitsN_f {f : Nat → Bool} {c : Nat} (h : f c = false) : bitsN f (c + 1) = bitsN f c := by
  show bitsN f c ||| (if f c = true then 2 ^ c else 0) = _
  rw [if_neg (by rw [h]; exact Bool.false_ne_true), Nat.or_zero]
theorem tb_mask {s p : Nat} (hs : s < 2 ^ 31) (hp : p < 31) : (nI s &&& (nI 1 <<< (nI p &&& 31)) = 0) ↔ s.testBit p = false := by
  rw [nu_shl (by omega) (by rw [Nat.one_mul]; exact Nat.pow_lt_pow_right (by decide) (by omega)), Nat.one_mul, nu_and, show (0 : Int32) = nI 0 from rfl, nI_eq (Nat.lt_of_le_of_lt Nat.and_le_left hs) (by decide)]
  constructor
  · intro h
    cases z : s.testBit p with
    | false => rfl
    | true =>
      have : (s &&& 2 ^ p).testBit p = true := by rw [Nat.testBit_and, z, Nat.testBit_two_pow_self]; rfl
      rw [h, Nat.zero_testBit] at this
      cases this
  · intro h
    apply Nat.eq_of_testBit_eq
    intro i
    rw [Nat.testBit_and, Nat.zero_testBit]
    by_cases z : i = p
    · rw [z, h, Bool.false_and]
    · rw [Nat.testBit_two_pow_of_ne (fun w => z w.symm), Bool.and_false]
theorem d_tooMany (hQ : bQ S g o V) (hV : V + 5000 < 2 ^ 30) (h : Int32) : ctI G 6 M_X11_tooMany false [.ref 0, .int h] lB S tl (fun v S' => bQ S' g o (V + 5000) ∧ v = A_tooMany g h) := by
  refine ctI.ab (fun K hK => m_X11_tooMany (fun n0 => u_hr hQ.1.1.2.2.2.1 h _ ?_))
  have q0 : bQ S g o (V + 5000) := bQ_m hQ (by omega)
  have p5 := hQ.1.1.2.1
  have p9 := hQ.1.1.1
  rw [x_b0]
  unfold A_tooMany at hK
  refine ⟨fun z => hK _ _ ⟨q0, by rw [z, if_neg Bool.false_ne_true]⟩, fun z => ?_⟩
  have z := nf_t z
  obtain ⟨j, hj, rfl⟩ := hr_t p5 z
  have hs := sh_lt g (nI j)
  have hs9 : shN g (nI j) < 512 := Nat.lt_of_lt_of_le hs (p2_9 p9)
  rw [if_pos z] at hK
  refine u_joinNow hQ (by omega) _ (fun S2 v q2 hv r2 f2 => ⟨(x_vp (by omega)).mpr (by omega), ?_⟩)
  rw [show (nI j).toNatClampNeg = j from nI_clamp (by omega), show S2.2.2.2.1 83 j = nI (shN g (nI j)) from q2.2.2.2.1.1 j (by omega)]
  generalize hset : shN g (nI j) = set at *
  suffices KL : ∀ t p (X : ms_S), p + t = g.1.1.1 → bQ X g o (V + 1) → bRT (cN X) g.1.1 v (jbC g.1) → L_X11_tooMany_29 G false n0 tl K X (nI set) (nI (bitsN (fun p => set.testBit p && isRowK g.1.1 (jbC g.1) (set - 2 ^ p) 7) p)) (nI p) from KL g.1.1.1 0 S2 (Nat.zero_add _) q2 r2
  intro t
  induction t with
  | zero =>
    intro p X hp qX rX
    have hp : p = g.1.1.1 := hp
    subst hp
    refine b_X11_tooMany_29 ?_
    rw [show X.1 4 12 = nI g.1.1.1 from qX.1.1.2.2.1]
    exact ⟨fun _ => hK _ _ ⟨bQ_m qX (by omega), rfl⟩, fun w => absurd (Int32.le_refl _) w⟩
  | succ t ih =>
    intro p X hp qX rX
    refine b_X11_tooMany_29 ?_
    have hp9 : p < 9 := by omega
    rw [show X.1 4 12 = nI g.1.1.1 from qX.1.1.2.2.1, nI_leI (by omega) (by omega), tb_mask (by omega) (by omega)]
    refine ⟨fun w => absurd w (by omega), fun _ => ⟨fun y => b_X11_tooMany_75 ?_, fun y => ?_⟩⟩
    · rw [nI_add]
      have := ih (p + 1) X (by omega) qX rX
      rw [bitsN_f (by show (set.testBit p && _) = false; rw [y, Bool.false_and])] at this
      exact this
    · have y := nf_t y
      rw [show nI 1 <<< (nI p &&& 31) = nI (2 ^ p) from by rw [nu_shl (by omega) (by rw [Nat.one_mul]; exact Nat.pow_lt_pow_right (by decide) (by omega)), Nat.one_mul], nu_clr set hs9 p hp9, if_pos y]
      refine ctI.tr e_CN e_CN_i e_CN_n (as' := [.ref 25, .int (nI (set - 2 ^ p))]) rfl (fun G' => u_isRow (G := G') (S := cN X) qX.1.1 rX _ (Nat.lt_of_le_of_lt (Nat.sub_le _ _) hs) _ (fun T f r => ?_))
      have q3 := bQ_rt qX f (by decide) rfl rfl rfl r hv
      have r3 : bRT (cN (mgS e_CN X T)) g.1.1 v (jbC g.1) := bRT_F (cN_mg f.2.2.2.2) rfl rfl rfl rfl r
      generalize mgS e_CN X T = S3 at q3 r3
      have hI := ih (p + 1) S3 (by omega) q3 r3
      rw [x_b0]
      refine ⟨fun x => b_X11_tooMany_75 ?_, fun x => b_X11_tooMany_75 ?_⟩
      · rw [nI_add]
        rw [bitsN_f (by show (set.testBit p && _) = false; rw [x, Bool.and_false])] at hI
        exact hI
      · rw [nI_add, nu_or]
        rw [bitsN_t (by show (set.testBit p && _) = true; rw [y, nf_t x]; rfl)] at hI
        exact hI
theorem d_lacks (hQ : bQ S g o V) (hV : V + 5000 < 2 ^ 30) (h : Int32) : ctI G 6 M_X11_lacks false [.ref 0, .int h] lB S tl (fun v S' => bQ S' g o (V + 5000) ∧ v = A_lacks g h) := by
  refine ctI.ab (fun K hK => m_X11_lacks (fun n0 => u_hr hQ.1.1.2.2.2.1 h _ ?_))
  have q0 : bQ S g o (V + 5000) := bQ_m hQ (by omega)
  have p5 := hQ.1.1.2.1
  have p9 := hQ.1.1.1
  rw [x_b0]
  unfold A_lacks at hK
  refine ⟨fun z => hK _ _ ⟨q0, by rw [z, if_neg Bool.false_ne_true]⟩, fun z => ?_⟩
  have z := nf_t z
  obtain ⟨j, hj, rfl⟩ := hr_t p5 z
  have hs := sh_lt g (nI j)
  have hs9 : shN g (nI j) < 512 := Nat.lt_of_lt_of_le hs (p2_9 p9)
  have ht := sh_lt g (-(nI 3))
  have ht9 : shN g (-(nI 3)) < 512 := Nat.lt_of_lt_of_le ht (p2_9 p9)
  rw [if_pos z, show cl (nI j) = j from nI_clamp (by omega)] at hK
  refine u_joinNow hQ (by omega) _ (fun S2 v q2 hv r2 f2 => ⟨(x_vp (by omega)).mpr (by omega), ?_⟩)
  rw [show (nI j).toNatClampNeg = j from nI_clamp (by omega), show S2.2.2.2.1 83 j = nI (shN g (nI j)) from q2.2.2.2.1.1 j (by omega)]
  suffices KL : ∀ t p (X : ms_S), p + t = g.1.1.1 → bQ X g o (V + 1) → bRT (cN X) g.1.1 v (jbC g.1) → L_X11_lacks_29 G false n0 tl K X (nI j) (nI (shN g (nI j))) (nI (bitsN (lkB g j) p)) (nI p) from KL g.1.1.1 0 S2 (Nat.zero_add _) q2 r2
  intro t
  induction t with
  | zero =>
    intro p X hp qX rX
    have hp : p = g.1.1.1 := hp
    subst hp
    refine b_X11_lacks_29 ?_
    rw [show X.1 4 12 = nI g.1.1.1 from qX.1.1.2.2.1]
    exact ⟨fun _ => hK _ _ ⟨bQ_m qX (by omega), rfl⟩, fun w => absurd (Int32.le_refl _) w⟩
  | succ t ih =>
    intro p X hp qX rX
    refine b_X11_lacks_29 ?_
    have hp9 : p < 9 := by omega
    have hpn : p < g.1.1.1 := by omega
    have hor : shN g (nI j) ||| shN g (-(nI 3)) < 512 := Nat.or_lt_two_pow (n := 9) hs9 ht9
    have e1 : (shN g (nI j) ||| shN g (-(nI 3))).testBit p = (decide (g.1.2.2.2.1.1 p = nI j) || decide (g.1.2.2.2.1.1 p = -(nI 3))) := by
      rw [Nat.testBit_or, heldN_tb, heldN_tb, decide_eq_true hpn, Bool.true_and, Bool.true_and]
    rw [show X.1 4 12 = nI g.1.1.1 from qX.1.1.2.2.1, show X.1 82 5 = nI (shN g (-(nI 3))) from qX.2.2.2.1.2.2.2.2.2.2.1, nI_leI (by omega) (by omega), nu_or, tb_mask (by omega) (by omega), e1]
    refine ⟨fun w => absurd w (by omega), fun _ => ⟨fun y => ?_, fun y => b_X11_lacks_98 ?_⟩⟩
    · rw [Bool.or_eq_false_iff] at y
      have y1 := of_decide_eq_false y.1
      have y2 := of_decide_eq_false y.2
      have e2 : lkB g j p = (mayK g.1.1 g.1.2.2.2.1 false j p && isRowK g.1.1 (jbC g.1) (shN g (nI j) ||| 2 ^ p) 7) := by
        unfold lkB
        rw [decide_eq_true y1, decide_eq_true y2, Bool.true_and, Bool.true_and]
      rw [show nI 1 <<< (nI p &&& 31) = nI (2 ^ p) from by rw [nu_shl (by omega) (by rw [Nat.one_mul]; exact Nat.pow_lt_pow_right (by decide) (by omega)), Nat.one_mul], nu_or]
      refine ctI.tr e_CN e_CN_i e_CN_n (as' := [.ref 25, .int (nI (shN g (nI j) ||| 2 ^ p))]) rfl (fun G' => u_isRow (G := G') (S := cN X) qX.1.1 rX _ (Nat.or_lt_two_pow hs (Nat.pow_lt_pow_right (by decide) hpn)) _ (fun T f r => ?_))
      have q3 := bQ_rt qX f (by decide) rfl rfl rfl r hv
      have r3 : bRT (cN (mgS e_CN X T)) g.1.1 v (jbC g.1) := bRT_F (cN_mg f.2.2.2.2) rfl rfl rfl rfl r
      generalize mgS e_CN X T = S3 at q3 r3
      rw [x_b0]
      refine ⟨fun x => b_X11_lacks_98 ?_, fun x => ?_⟩
      · rw [nI_add]
        have hI := ih (p + 1) S3 (by omega) q3 r3
        rw [bitsN_f (by rw [e2, x, Bool.and_false])] at hI
        exact hI
      · have x := nf_t x
        refine ctI.tr e_CN e_CN_i e_CN_n (as' := [.ref 31, .ref 46, .int (nI p), .int (nI j)]) rfl (fun G' => u_may (G := G') (S := cN S3) q3.1.1 q3.2.2.2.1 p j hpn hj false q3.2.1.2.2.2 _ (fun T2 f2 => ?_))
        have q4 := bQ_nw q3 f2 (by decide) rfl rfl rfl rfl rfl rfl rfl
        have r4 : bRT (cN (mgS e_CN S3 T2)) g.1.1 v (jbC g.1) := bRT_F (cN_mg f2.2.2.2.2) rfl rfl rfl rfl (bRT_F f2 rfl rfl rfl rfl r3)
        generalize mgS e_CN S3 T2 = S4 at q4 r4
        have hI := ih (p + 1) S4 (by omega) q4 r4
        rw [x_b0]
        refine ⟨fun w => b_X11_lacks_98 ?_, fun w => b_X11_lacks_98 ?_⟩
        · rw [nI_add]
          rw [bitsN_f (by rw [e2, w, Bool.false_and])] at hI
          exact hI
        · rw [nI_add, nu_or]
          rw [bitsN_t (by rw [e2, nf_t w, x]; rfl)] at hI
          exact hI
    · rw [nI_add]
      have hI := ih (p + 1) X (by omega) qX rX
      rw [bitsN_f ?_] at hI
      · exact hI
      · unfold lkB
        have y := nf_t y
        rw [Bool.or_eq_true, decide_eq_true_eq, decide_eq_true_eq] at y
        rcases y with y | y
        · rw [decide_eq_false (fun q => q y), Bool.false_and]
        · rw [decide_eq_false (p := ¬ g.1.2.2.2.1.1 p = -(nI 3)) (fun q => q y), Bool.false_and, Bool.and_false]
theorem d_named (hQ : bQ S g o V) (w x : Int32) : ctI G 3 M_X11_named false [.ref 0, .int w, .int x] lB S tl (fun v S' => bQ S' g o (V + 5000) ∧ v = A_named g w x) := by
  refine ctI.ab (fun K hK => m_X11_named (fun n0 => ?_))
  have q0 : bQ S g o (V + 5000) := bQ_m hQ (by omega)
  obtain ⟨h1, h2, h3, h4, h5, h6, h7, h8, h9, h10⟩ := hQ.1
  unfold A_named at hK
  refine ⟨fun z => ?_, fun z => ?_, fun z y => hK _ _ ⟨q0, by rw [if_neg (show ¬ w = 0 from z), if_neg y]⟩⟩
  · rw [if_pos (show w = 0 from z)] at hK
    exact ctI.tr e_PlB e_PlB_i e_PlB_n (as' := [.ref 0, .int x]) rfl (fun G' => u_calledP (G := G') (T := rsS e_PlB S) h1.1 h1.2.2.1 h8 _ (by rw [mgS_rs]; exact hK _ _ ⟨q0, rfl⟩))
  · rw [if_neg (fun q => absurd (z.symm.trans q) (by decide)), if_pos z] at hK
    exact ctI.tr e_PlB e_PlB_i e_PlB_n (as' := [.ref 0, .int x]) rfl (fun G' => u_calledH (G := G') (T := rsS e_PlB S) h1.2.1 h1.2.2.2.1 h9 _ (by rw [mgS_rs]; exact hK _ _ ⟨q0, rfl⟩))
theorem d_count (hQ : bQ S g o V) (w : Int32) : ctI G 2 M_X11_count false [.ref 0, .int w] lB S tl (fun v S' => bQ S' g o (V + 5000) ∧ v = A_count g w) := by
  refine ctI.ab (fun K hK => m_X11_count (fun n0 => ?_))
  have q0 : bQ S g o (V + 5000) := bQ_m hQ (by omega)
  obtain ⟨h1, h2, h3, h4, h5, h6, h7, h8⟩ := id hQ
  have p9 := h1.1.1
  have hb9 : bxN g.1.1 g.1.2.2.2.1 < 512 := Nat.lt_of_lt_of_le (heldN_lt _ _ _) (p2_9 p9)
  have hs9 : heldN g.1.2.2.2.1.1 (-(nI 3)) g.1.1.1 < 512 := Nat.lt_of_lt_of_le (heldN_lt _ _ _) (p2_9 p9)
  have N : ∀ a b : Nat, a < 12 → b < 12 → ¬ a = b → w = nI a → ¬ w = nI b := fun a b ha hb hab e q => hab ((nI_eq (by omega) (by omega)).mp (e.symm.trans q))
  unfold A_count at hK
  refine ⟨fun z => ?_, fun z => ?_, fun z => ?_, fun z => ?_, fun z => ?_, fun z => ?_, fun z => ?_, fun z => ?_, fun z => ?_, fun z => ?_, fun z => ?_, fun z => ?_, fun x0 x1 x2 x3 x4 x5 x6 x7 x8 x9 x10 x11 => ?_⟩
  · exact hK _ _ ⟨q0, by rw [if_pos z]; exact h1.1.2.2.1⟩
  · exact hK _ _ ⟨q0, by rw [if_neg (N 1 0 (by decide) (by decide) (by decide) z), if_pos z]; exact h1.1.2.2.2.1⟩
  · refine ctI.tr e_PlB e_PlB_i e_PlB_n (as' := [.ref 0]) rfl (fun G' => m_X7_knots (fun n1 => ?_))
    rw [mgS_rs]
    have l0 : (rsS e_PlB S).1 13 3 = nI (szQ (o 0)) := h1.1.2.2.2.2.2.1.1
    have l1 : (rsS e_PlB S).1 17 3 = nI (szQ (o 1)) := h1.1.2.2.2.2.2.2.1.1
    have l2 : (rsS e_PlB S).1 21 3 = nI (szQ (o 2)) := h1.1.2.2.2.2.2.2.2.1.1
    rw [l0, l1, l2, nI_add, nI_add, ← h1.2.2.2.2.2.2.2.2.2.1]
    exact hK _ _ ⟨q0, by rw [if_neg (N 2 0 (by decide) (by decide) (by decide) z), if_neg (N 2 1 (by decide) (by decide) (by decide) z), if_pos z]⟩
  · exact hK _ _ ⟨q0, by rw [if_neg (N 3 0 (by decide) (by decide) (by decide) z), if_neg (N 3 1 (by decide) (by decide) (by decide) z), if_neg (N 3 2 (by decide) (by decide) (by decide) z), if_pos z]; exact h4.2.2.2.1⟩
  · rw [show S.1 82 4 = nI (bxN g.1.1 g.1.2.2.2.1) from h4.2.2.2.2.2.1]
    refine u_bitCount G false S tl _ hb9 _ (hK _ _ ⟨q0, ?_⟩)
    rw [if_neg (N 4 0 (by decide) (by decide) (by decide) z), if_neg (N 4 1 (by decide) (by decide) (by decide) z), if_neg (N 4 2 (by decide) (by decide) (by decide) z), if_neg (N 4 3 (by decide) (by decide) (by decide) z), if_pos z]
  · rw [show S.1 82 5 = nI (heldN g.1.2.2.2.1.1 (-(nI 3)) g.1.1.1) from h4.2.2.2.2.2.2.1]
    refine u_bitCount G false S tl _ hs9 _ (hK _ _ ⟨q0, ?_⟩)
    rw [if_neg (N 5 0 (by decide) (by decide) (by decide) z), if_neg (N 5 1 (by decide) (by decide) (by decide) z), if_neg (N 5 2 (by decide) (by decide) (by decide) z), if_neg (N 5 3 (by decide) (by decide) (by decide) z), if_neg (N 5 4 (by decide) (by decide) (by decide) z), if_pos z]
  · refine ctI.tr e_CN e_CN_i e_CN_n (as' := [.ref 46]) rfl (fun G' => u_gold (G := G') (S := cN S) false h4 h1.1.2.1 _ ?_)
    rw [mgS_rs]
    refine hK _ _ ⟨q0, ?_⟩
    rw [if_neg (N 6 0 (by decide) (by decide) (by decide) z), if_neg (N 6 1 (by decide) (by decide) (by decide) z), if_neg (N 6 2 (by decide) (by decide) (by decide) z), if_neg (N 6 3 (by decide) (by decide) (by decide) z), if_neg (N 6 4 (by decide) (by decide) (by decide) z), if_neg (N 6 5 (by decide) (by decide) (by decide) z), if_pos z]
  · refine ctI.tr e_CN e_CN_i e_CN_n (as' := [.ref 46]) rfl (fun G' => u_laid (G := G') (S := cN S) false h4 h1.1.2.1 _ ?_)
    rw [mgS_rs]
    refine hK _ _ ⟨q0, ?_⟩
    rw [if_neg (N 7 0 (by decide) (by decide) (by decide) z), if_neg (N 7 1 (by decide) (by decide) (by decide) z), if_neg (N 7 2 (by decide) (by decide) (by decide) z), if_neg (N 7 3 (by decide) (by decide) (by decide) z), if_neg (N 7 4 (by decide) (by decide) (by decide) z), if_neg (N 7 5 (by decide) (by decide) (by decide) z), if_neg (N 7 6 (by decide) (by decide) (by decide) z), if_pos z]
  · refine hK _ _ ⟨q0, ?_⟩
    rw [if_neg (N 8 0 (by decide) (by decide) (by decide) z), if_neg (N 8 1 (by decide) (by decide) (by decide) z), if_neg (N 8 2 (by decide) (by decide) (by decide) z), if_neg (N 8 3 (by decide) (by decide) (by decide) z), if_neg (N 8 4 (by decide) (by decide) (by decide) z), if_neg (N 8 5 (by decide) (by decide) (by decide) z), if_neg (N 8 6 (by decide) (by decide) (by decide) z), if_neg (N 8 7 (by decide) (by decide) (by decide) z), if_pos z]
    exact h4.2.2.2.2.2.2.2.1
  · refine hK _ _ ⟨q0, ?_⟩
    rw [if_neg (N 9 0 (by decide) (by decide) (by decide) z), if_neg (N 9 1 (by decide) (by decide) (by decide) z), if_neg (N 9 2 (by decide) (by decide) (by decide) z), if_neg (N 9 3 (by decide) (by decide) (by decide) z), if_neg (N 9 4 (by decide) (by decide) (by decide) z), if_neg (N 9 5 (by decide) (by decide) (by decide) z), if_neg (N 9 6 (by decide) (by decide) (by decide) z), if_neg (N 9 7 (by decide) (by decide) (by decide) z), if_neg (N 9 8 (by decide) (by decide) (by decide) z), if_pos z]
    exact h3.2.1
  · refine ctI.tr e_CN e_CN_i e_CN_n (as' := [.ref 40]) rfl (fun G' => u_knSz (G := G') (S := cN S) h3 _ ?_)
    rw [mgS_rs]
    refine hK _ _ ⟨q0, ?_⟩
    rw [if_neg (N 10 0 (by decide) (by decide) (by decide) z), if_neg (N 10 1 (by decide) (by decide) (by decide) z), if_neg (N 10 2 (by decide) (by decide) (by decide) z), if_neg (N 10 3 (by decide) (by decide) (by decide) z), if_neg (N 10 4 (by decide) (by decide) (by decide) z), if_neg (N 10 5 (by decide) (by decide) (by decide) z), if_neg (N 10 6 (by decide) (by decide) (by decide) z), if_neg (N 10 7 (by decide) (by decide) (by decide) z), if_neg (N 10 8 (by decide) (by decide) (by decide) z), if_neg (N 10 9 (by decide) (by decide) (by decide) z), if_pos z]
  · refine hK _ _ ⟨q0, ?_⟩
    rw [if_neg (N 11 0 (by decide) (by decide) (by decide) z), if_neg (N 11 1 (by decide) (by decide) (by decide) z), if_neg (N 11 2 (by decide) (by decide) (by decide) z), if_neg (N 11 3 (by decide) (by decide) (by decide) z), if_neg (N 11 4 (by decide) (by decide) (by decide) z), if_neg (N 11 5 (by decide) (by decide) (by decide) z), if_neg (N 11 6 (by decide) (by decide) (by decide) z), if_neg (N 11 7 (by decide) (by decide) (by decide) z), if_neg (N 11 8 (by decide) (by decide) (by decide) z), if_neg (N 11 9 (by decide) (by decide) (by decide) z), if_neg (N 11 10 (by decide) (by decide) (by decide) z), if_pos z]
    exact h7.2.1
  · exact hK _ _ ⟨q0, by rw [if_neg x0, if_neg x1, if_neg x2, if_neg x3, if_neg x4, if_neg x5, if_neg x6, if_neg x7, if_neg x8, if_neg x9, if_neg x10, if_neg x11]⟩
end LOOKS3

