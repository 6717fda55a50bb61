/-! ===== the reference: a line ===== -/
theorem fTX (k : Nat) (h : fT k = false) : fXQ k = false := by
  unfold fT at h
  unfold fXQ fX
  simp only [Bool.or_eq_false_iff] at h ⊢
  obtain ⟨⟨⟨⟨h1, h2⟩, h3⟩, h4⟩, h5⟩ := h
  have q3 : ¬ (4 ≤ k ∧ k ≤ 11) := fun z => by rw [Nat.ble_eq_true_of_le z.1, Nat.ble_eq_true_of_le z.2] at h3; cases h3
  have q4 : ¬ (17 ≤ k ∧ k ≤ 21) := fun z => by rw [Nat.ble_eq_true_of_le z.1, Nat.ble_eq_true_of_le z.2] at h4; cases h4
  refine ⟨⟨?_, ?_⟩, ⟨?_, ?_⟩, h5⟩
  · cases z : Nat.beq k 4 with
    | false => rfl
    | true => have := Nat.eq_of_beq_eq_true z; omega
  · cases z : Nat.beq k 5 with
    | false => rfl
    | true => have := Nat.eq_of_beq_eq_true z; omega
  · cases z : Nat.ble 7 k with
    | false => rfl
    | true =>
      cases y : Nat.ble k 11 with
      | false => rfl
      | true =>
        have := Nat.le_of_ble_eq_true z
        have := Nat.le_of_ble_eq_true y
        omega
  · cases z : Nat.beq k 21 with
    | false => rfl
    | true => have := Nat.eq_of_beq_eq_true z; omega
theorem mSg.Lo {f : Nat} {S X : ms_S} (h : mSg fXQ f S X) : mLo S X := by
  refine ⟨fun k q => h.1 k (fTX k q), h.2.1, fun a i q => ?_⟩
  cases ha : aS a with
  | false => exact congrFun (h.2.2.1 a ha) i
  | true =>
    have h1 : 19 ≤ a ∧ a ≤ 23 := by
      unfold aS at ha
      simp only [Bool.and_eq_true] at ha
      exact ⟨Nat.le_of_ble_eq_true ha.1, Nat.le_of_ble_eq_true ha.2⟩
    rcases (show a = 19 ∨ a = 20 ∨ a = 21 ∨ a = 22 ∨ a = 23 by omega) with rfl | rfl | rfl | rfl | rfl
    · have q : i < 64 := q
      exact h.2.2.2 19 i (by decide) (by decide) (by omega)
    · have q : i < 64 := q
      exact h.2.2.2 20 i (by decide) (by decide) (by omega)
    · have q : i < 64 := q
      exact h.2.2.2 21 i (by decide) (by decide) (by omega)
    · exact absurd q (Nat.not_lt_zero _)
    · exact absurd q (Nat.not_lt_zero _)
theorem knR_lo {S X : ms_S} {f m : Nat} {kn : Nat → Nat × Nat} (h : knR S f m kn) (hs : ∀ a i, 19 ≤ a → a ≤ 21 → i < 64 + (f + m) → X.2.2.2.1 a i = S.2.2.2.1 a i) : knR X f m kn := by
  intro j hj
  obtain ⟨g1, g2, g3, g4, g5, g6, g7⟩ := h j hj
  have e19 := hs 19 (64 + (f + j)) (by decide) (by decide) (by omega)
  have e20 := hs 20 (64 + (f + j)) (by decide) (by decide) (by omega)
  have e21 := hs 21 (64 + (f + j)) (by decide) (by decide) (by omega)
  refine ⟨e19.trans g1, g2, fun q => e20.trans (g3 q), g4, g5, fun q => ?_, fun q => ?_⟩
  · obtain ⟨a, r, w1, w2⟩ := g6 q
    exact ⟨a, r, w1, e20.trans w2⟩
  · obtain ⟨c, a, r, w1, w2, w3⟩ := g7 q
    exact ⟨c, a, r, w1, e20.trans w2, e21.trans w3⟩
abbrev lwD (D : tDR) : tDL := D.2.2.2.2.2
def pLaw (b : Nat → Nat) (n : Nat) (D : tDR) (i : Nat) : Except (Nat × Nat) (tDR × Nat) :=
  if tkK b n (tkN b n i) = 1 ∧ 8 ≤ tkW b n (tkN b n i) ∧ tkW b n (tkN b n i) ≤ 10 then
    (if ((lwD D).2 (tkW b n (tkN b n i) - 8)).isSome = true then .error (3, tkP b n (tkN b n i))
    else bE (sumS b n 701 (u0 (lwD D).1) (tkN b n (tkN b n i))) (fun r => .ok ((D.1, D.2.1, D.2.2.1, D.2.2.2.1, D.2.2.2.2.1, ((lwD D).1 + r.1.1, up (lwD D).2 (tkW b n (tkN b n i) - 8) (some r.1))), r.2)))
  else .error (1, tkP b n (tkN b n i))
def pBody (b : Nat → Nat) (n : Nat) (D : tDR) (i : Nat) : Except (Nat × Nat) (tDR × Nat) :=
  if tkW b n i = 0 then pPiece b n D i else if tkW b n i = 1 then pHeir b n D i else if tkW b n i = 2 then pShare b n D i else if tkW b n i = 3 then pTrade b n D i else if tkW b n i = 4 then pDraw b n D i else if tkW b n i = 5 then pOnce b n D 0 1 9 i else if tkW b n i = 6 then pOnce b n D 1 0 99999 i else pLaw b n D i
def pLine (b : Nat → Nat) (n : Nat) (D : tDR) (i : Nat) : Except (Nat × Nat) (tDR × Nat) :=
  if tkK b n i = 1 ∧ tkW b n i ≤ 7 then bE (pBody b n D i) (fun r => if isTk b n r.2 4 59 = true then .ok (r.1, tkN b n r.2) else .error (1, tkP b n r.2)) else .error (1, tkP b n i)
set_option maxHeartbeats 1000000 in
theorem c_lineRead (G : ab_G) (fr : Bool) (S0 S : ms_S) (tl : ab_H) (b : Nat → Nat) (n i : Nat) (D : tDR) (h : mPz S0 b n D i S) (K : Int32 → ms_S → Prop)
    (kE : ∀ S' f p, pLine b n D i = .error (f, p) → mEr S0 f p S' → K (nI 0) S')
    (kO : ∀ S' D' j, pLine b n D i = .ok (D', j) → mPz S0 b n D' j S' → K (nI 1) S') : ctI G 5 M_X12_lineRead fr [.ref 0] lM S tl K := by
  obtain ⟨z1, z2, z3, zd⟩ := id h
  have zk : mKp S0 S := ⟨z1, z2⟩
  obtain ⟨b1, b2, b3, b4, b5, b6⟩ := mCu_b z3
  obtain ⟨t1, t2, t3, t4⟩ := z3.2.2
  have e8 : S.1 0 8 = nI (tkK b n i) := t1
  refine m_X12_lineRead (fun n0 => ?_)
  have K17 : (¬ (tkK b n i = 1 ∧ tkW b n i ≤ 7)) → L_X12_lineRead_17 G fr n0 tl K S := fun q => b_X12_lineRead_17 (u_wrong G fr S tl 1 _ t3 _ (fun S' x1 x2 x3 => ⟨Or.inl rfl, kE S' _ _ (by unfold pLine; rw [if_neg q]) (mEr_Q zk x1 x2 x3)⟩))
  rw [e8, nI_eq (by omega) (by decide)]
  refine ⟨fun q1 => ?_, fun q1 => K17 (fun z => q1 z.1)⟩
  have e9 : S.1 0 9 = nI (tkW b n i) := t2 (by show ¬ tkK b n i = 0; omega) (by show ¬ tkK b n i = 6; omega)
  rw [e9, nI_leI (by omega) (by decide)]
  refine ⟨fun q2 => ?_, fun q2 => K17 (fun z => q2 z.2)⟩
  have hP : pLine b n D i = bE (pBody b n D i) (fun r => if isTk b n r.2 4 59 = true then .ok (r.1, tkN b n r.2) else .error (1, tkP b n r.2)) := by unfold pLine; rw [if_pos ⟨q1, q2⟩]
  have KO : ∀ S' D' j, pBody b n D i = .ok (D', j) → mPz S0 b n D' j S' → L_X12_lineRead_229 G fr n0 tl K S' (nI 1) := by
    intro S' D' j hb hz
    obtain ⟨y1, y2, y3, yd⟩ := id hz
    rw [hb, bE_ok] at hP
    refine b_X12_lineRead_229 ⟨fun z => absurd z (by decide), fun _ => u_isSign G fr S' tl b n j 59 y3 (by decide) _ ?_⟩
    rw [x_b0]
    refine ⟨fun z => u_wrong G fr S' tl 1 _ y3.2.2.2.2.1 _ (fun X x1 x2 x3 => ⟨Or.inl rfl, kE X _ _ (by rw [hP, if_neg (by rw [z]; decide)]) (mEr_Q ⟨y1, y2⟩ x1 x2 x3)⟩), fun z => u_tok G fr S' tl b n j y3 _ (fun X x1 x2 => kO X _ _ (by rw [hP, if_pos (nf_t z)]) ?_)⟩
    have k1 := mKp_G ⟨y1, y2⟩ x1
    exact ⟨k1.1, k1.2, x2, mDr_G x1 rfl rfl rfl rfl rfl rfl yd⟩
  have KE : ∀ S' f p, pBody b n D i = .error (f, p) → mEr S0 f p S' → L_X12_lineRead_229 G fr n0 tl K S' (nI 0) := fun S' f p hb hz => b_X12_lineRead_229 ⟨fun _ => kE S' f p (by rw [hP, hb]; rfl) hz, fun z => absurd rfl z⟩
  rw [nI_eq (a := tkW b n i) (b := 0) (by omega) (by decide), nI_eq (a := tkW b n i) (b := 1) (by omega) (by decide), nI_eq (a := tkW b n i) (b := 2) (by omega) (by decide), nI_eq (a := tkW b n i) (b := 3) (by omega) (by decide), nI_eq (a := tkW b n i) (b := 4) (by omega) (by decide), nI_eq (a := tkW b n i) (b := 5) (by omega) (by decide), nI_eq (a := tkW b n i) (b := 6) (by omega) (by decide)]
  refine ⟨fun q => ?_, fun q => ?_, fun q => ?_, fun q => ?_, fun q => ?_, fun q => ?_, fun q => ?_, fun q10 q11 q12 q13 q14 q15 q16 => ?_⟩
  · have hB : pBody b n D i = pPiece b n D i := by unfold pBody; rw [if_pos q]
    exact c_pieceLine G fr S0 S tl b n i D h _ (fun S' f p hx hy => KE S' f p (hB.trans hx) hy) (fun S' D' j hx hy => KO S' D' j (hB.trans hx) hy)
  · have hB : pBody b n D i = pHeir b n D i := by unfold pBody; rw [if_neg (by omega), if_pos q]
    exact c_heirLine G fr S0 S tl b n i D h _ (fun S' f p hx hy => KE S' f p (hB.trans hx) hy) (fun S' D' j hx hy => KO S' D' j (hB.trans hx) hy)
  · have hB : pBody b n D i = pShare b n D i := by unfold pBody; rw [if_neg (by omega), if_neg (by omega), if_pos q]
    exact c_shareLine G fr S0 S tl b n i D h _ (fun S' f p hx hy => KE S' f p (hB.trans hx) hy) (fun S' D' j hx hy => KO S' D' j (hB.trans hx) hy)
  · have hB : pBody b n D i = pTrade b n D i := by unfold pBody; rw [if_neg (by omega), if_neg (by omega), if_neg (by omega), if_pos q]
    exact c_tradeLine G fr S0 S tl b n i D h _ (fun S' f p hx hy => KE S' f p (hB.trans hx) hy) (fun S' D' j hx hy => KO S' D' j (hB.trans hx) hy)
  · have hB : pBody b n D i = pDraw b n D i := by unfold pBody; rw [if_neg (by omega), if_neg (by omega), if_neg (by omega), if_neg (by omega), if_pos q]
    exact c_drawLine G fr S0 S tl b n i D h _ (fun S' f p hx hy => KE S' f p (hB.trans hx) hy) (fun S' D' j hx hy => KO S' D' j (hB.trans hx) hy)
  · have hB : pBody b n D i = pOnce b n D 0 1 9 i := by unfold pBody; rw [if_neg (by omega), if_neg (by omega), if_neg (by omega), if_neg (by omega), if_neg (by omega), if_pos q]
    exact c_onceLine G fr S0 S tl b n i 0 1 9 D (by decide) (fun _ => ⟨rfl, rfl⟩) (fun z => by cases z) h _ (fun S' f p hx hy => KE S' f p (hB.trans hx) hy) (fun S' D' j hx hy => KO S' D' j (hB.trans hx) hy)
  · have hB : pBody b n D i = pOnce b n D 1 0 99999 i := by unfold pBody; rw [if_neg (by omega), if_neg (by omega), if_neg (by omega), if_neg (by omega), if_neg (by omega), if_neg (by omega), if_pos q]
    exact c_onceLine G fr S0 S tl b n i 1 0 99999 D (by decide) (fun z => by cases z) (fun _ => ⟨rfl, rfl⟩) h _ (fun S' f p hx hy => KE S' f p (hB.trans hx) hy) (fun S' D' j hx hy => KO S' D' j (hB.trans hx) hy)
  have hB : pBody b n D i = pLaw b n D i := by unfold pBody; rw [if_neg q10, if_neg q11, if_neg q12, if_neg q13, if_neg q14, if_neg q15, if_neg q16]
  refine u_tok G fr S tl b n i z3 _ (fun S8 m8 c8 => ?_)
  have k8 := mKp_G zk m8
  unfold pLaw at hB
  obtain ⟨d1, d2, d3, d4, d5, d6⟩ := mCu_b c8
  obtain ⟨s1, s2, s3, s4⟩ := c8.2.2
  generalize hi1 : tkN b n i = i1 at *
  have f8 : S8.1 0 8 = nI (tkK b n i1) := s1
  have K162 : ¬ (tkK b n i1 = 1 ∧ 8 ≤ tkW b n i1 ∧ tkW b n i1 ≤ 10) → L_X12_lineRead_162 G fr n0 tl K S8 := fun q => b_X12_lineRead_162 (u_wrong G fr S8 tl 1 _ s3 _ (fun S' x1 x2 x3 => ⟨Or.inl rfl, kE S' _ _ (by rw [hP, hB, if_neg q]; rfl) (mEr_Q k8 x1 x2 x3)⟩))
  rw [f8, nI_eq (by omega) (by decide)]
  refine ⟨fun r1 => ?_, fun r1 => K162 (fun z => r1 z.1)⟩
  have f9 : S8.1 0 9 = nI (tkW b n i1) := s2 (by show ¬ tkK b n i1 = 0; omega) (by show ¬ tkK b n i1 = 6; omega)
  rw [f9, nI_ltI (by omega) (by decide), nI_leI (by omega) (by decide)]
  refine ⟨fun r2 => K162 (fun z => by omega), fun r2 => ⟨fun r3 => ?_, fun r3 => K162 (fun z => r3 z.2.2)⟩⟩
  rw [if_pos ⟨r1, by omega, r3⟩] at hB
  obtain ⟨w, hw⟩ : ∃ w, w = tkW b n i1 - 8 := ⟨_, rfl⟩
  have hw3 : w < 3 := by omega
  rw [← hw] at hB
  rw [show nI 3 + nI (tkW b n i1) - nI 8 = nI (3 + w) from by rw [nI_add, pk_sub (by omega), show 3 + tkW b n i1 - 8 = 3 + w by omega], nI_clamp (by omega)]
  have hv : vp_in (nI (3 + w)) 6 := (x_vp (by omega)).mpr (by omega)
  obtain ⟨dd1, dd2, dd3, dd4, dd5, ⟨l1, l2, l3, l4⟩⟩ := zd
  have e16 : S8.2.2.2.1 16 (3 + w) = bI ((lwD D).2 w).isSome := (congrFun (m8.2.2.2.1 16 rfl) _).trans (l4 w hw3).1
  rw [e16, x_b0]
  have hlo : ∀ a, loB a = 3 → loB a ≤ 3 + w := fun a ha => by omega
  refine ⟨hv, fun r4 => ⟨hv, ?_⟩, fun r4 => u_wrong G fr S8 tl 3 _ s3 _ (fun S' x1 x2 x3 => ⟨Or.inl rfl, kE S' _ _ (by rw [hP, hB, if_pos (nf_t r4)]; rfl) (mEr_Q k8 x1 x2 x3)⟩)⟩
  rw [if_neg (by rw [r4]; decide)] at hB
  refine u_tok G fr (sA S8 16 (3 + w) (nI 1 &&& 1)) tl b n i1 (mCu_A c8 rfl rfl) _ (fun S9 m9 c9 => ⟨hv, ?_⟩)
  have e21 : S9.1 0 21 = nI (lwD D).1 := (m9.1 0 21 (Or.inr rfl)).trans ((m8.1 0 21 (Or.inr rfl)).trans l2)
  have e46 : S9.1 0 46 = nI (lwD D).1 := (m9.1 0 46 (Or.inr rfl)).trans ((m8.1 0 46 (Or.inr rfl)).trans l3)
  have k9 := mKp_G (mKp_A k8 (hlo 16 rfl)) m9
  rw [e21]
  have k9A := mKp_A (x := nI (lwD D).1) k9 (hlo 17 rfl)
  refine c_sumRead G fr (sA S9 17 (3 + w) (nI (lwD D).1)) tl b n (lwD D).1 _ l1 e21 e46 (mCu_A c9 rfl rfl) _ (fun X fl p hx hy => ⟨hv, KE _ fl p (by rw [hB, hx]; rfl) ?_⟩) (fun X q j hx x1 x2 x3 x4 x5 x6 x7 x8 => ⟨hv, KO _ _ j (by rw [hB, hx]; rfl) ?_⟩)
  · exact ⟨(k9A.1.tr hy.1.Lo).tr (mLo.sA (hlo 18 rfl)), (hy.1.1 1 rfl).trans k9A.2.1, (hy.1.1 2 rfl).trans k9A.2.2.1, hy.2.1, hy.2.2⟩
  have kX := (k9A.1.tr (x1.mono fXq).Lo).tr (mLo.sA (x := X.1 0 21) (hlo 18 rfl))
  have ao : ∀ a, aS a = false → aO 16 a = false → aO 17 a = false → aO 18 a = false → (sA X 18 (3 + w) (X.1 0 21)).2.2.2.1 a = S.2.2.2.1 a := fun a yS y16 y17 y18 => by rw [sA_o a y18, x1.2.2.1 a yS, sA_o a y17, m9.2.2.2.1 a rfl, sA_o a y16, m8.2.2.2.1 a rfl]
  have fo : ∀ k, fX k = false → X.1 0 k = S.1 0 k := fun k hk => by
    rw [x1.1 k hk]
    show S9.1 0 k = _
    rw [m9.1 0 k (Or.inr (fGX k hk))]
    show S8.1 0 k = _
    rw [m8.1 0 k (Or.inr (fGX k hk))]
  refine ⟨kX, ⟨(x1.1 1 rfl).trans k9A.2.1, (x1.1 2 rfl).trans k9A.2.2.1, (x1.1 4 rfl).trans k9A.2.2.2.1, (x1.1 5 rfl).trans k9A.2.2.2.2⟩, mCu_A x4 rfl rfl, mD1_F dd1 (fo 17 rfl) (ao 5 rfl rfl rfl rfl) (ao 6 rfl rfl rfl rfl) (ao 7 rfl rfl rfl rfl) (ao 8 rfl rfl rfl rfl), mD2_F dd2 (fo 18 rfl) (ao 10 rfl rfl rfl rfl) (ao 9 rfl rfl rfl rfl), mD3_F dd3 (fo 19 rfl) (ao 11 rfl rfl rfl rfl) (ao 12 rfl rfl rfl rfl) (ao 13 rfl rfl rfl rfl), mD4_F dd4 (fo 20 rfl) (ao 14 rfl rfl rfl rfl) (ao 15 rfl rfl rfl rfl), mD5_F dd5 (ao 3 rfl rfl rfl rfl) (ao 4 rfl rfl rfl rfl), ⟨x7, x2, x3, fun w' hw' => ?_⟩⟩
  have a16 : X.2.2.2.1 16 = upd (S.2.2.2.1 16) (3 + w) (nI 1) := by
    rw [x1.2.2.1 16 rfl]
    show S9.2.2.2.1 16 = _
    rw [m9.2.2.2.1 16 rfl]
    show upd (S8.2.2.2.1 16) (3 + w) (nI 1 &&& 1) = _
    rw [m8.2.2.2.1 16 rfl]
    rfl
  have a17 : X.2.2.2.1 17 = upd (S.2.2.2.1 17) (3 + w) (nI (lwD D).1) := by
    rw [x1.2.2.1 17 rfl]
    show upd (S9.2.2.2.1 17) (3 + w) _ = _
    rw [m9.2.2.2.1 17 rfl]
    show upd (S8.2.2.2.1 17) (3 + w) _ = _
    rw [m8.2.2.2.1 17 rfl]
  have a18 : X.2.2.2.1 18 = S.2.2.2.1 18 := by
    rw [x1.2.2.1 18 rfl]
    show S9.2.2.2.1 18 = _
    rw [m9.2.2.2.1 18 rfl]
    show S8.2.2.2.1 18 = _
    rw [m8.2.2.2.1 18 rfl]
  have ak : ∀ a i, 19 ≤ a → a ≤ 21 → i < 64 + (lwD D).1 → X.2.2.2.1 a i = S.2.2.2.1 a i := by
    intro a i y1 y2 y3
    rw [x1.2.2.2 a i y1 y2 y3]
    rcases (show a = 19 ∨ a = 20 ∨ a = 21 by omega) with rfl | rfl | rfl
    · show S9.2.2.2.1 19 i = _
      rw [m9.2.2.2.1 19 rfl]
      show S8.2.2.2.1 19 i = _
      rw [m8.2.2.2.1 19 rfl]
    · show S9.2.2.2.1 20 i = _
      rw [m9.2.2.2.1 20 rfl]
      show S8.2.2.2.1 20 i = _
      rw [m8.2.2.2.1 20 rfl]
    · show S9.2.2.2.1 21 i = _
      rw [m9.2.2.2.1 21 rfl]
      show S8.2.2.2.1 21 i = _
      rw [m8.2.2.2.1 21 rfl]
  show X.2.2.2.1 16 (3 + w') = bI (up (lwD D).2 w (some q) w').isSome ∧ ∀ q', up (lwD D).2 w (some q) w' = some q' → ∃ f, X.2.2.2.1 17 (3 + w') = nI f ∧ upd (X.2.2.2.1 18) (3 + w) (X.1 0 21) (3 + w') = nI (f + q'.1) ∧ 0 < q'.1 ∧ f + q'.1 ≤ (lwD D).1 + q.1 ∧ knR (sA X 18 (3 + w) (X.1 0 21)) f q'.1 q'.2 ∧ ixF q'.2 q'.1 = [q'.1 - 1]
  rw [a16, a17, a18, x2]
  by_cases y : w' = w
  · subst y
    rw [upd_at, upd_at, upd_at, up_at]
    refine ⟨rfl, fun q' hq' => ?_⟩
    cases hq'
    exact ⟨(lwD D).1, rfl, rfl, x6, Nat.le_refl _, knR_F (S := X) x5 rfl rfl rfl, x8⟩
  · rw [upd_no (by omega), upd_no (by omega), upd_no (by omega), up_no y]
    refine ⟨(l4 w' hw').1, fun q' hq' => ?_⟩
    obtain ⟨f, y1, y2, y3, y4, y5, y6⟩ := (l4 w' hw').2 q' hq'
    have y4 : f + q'.1 ≤ (lwD D).1 := y4
    exact ⟨f, y1, y2, y3, by omega, knR_F (S := X) (knR_lo y5 (fun a i w1 w2 w3 => ak a i w1 w2 (by omega))) rfl rfl rfl, y6⟩

