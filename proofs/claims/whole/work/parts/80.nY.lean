/-! ===== the reference: signs of a law, the whole sum ===== -/
theorem mCu_Bd {f : Nat} {S X : ms_S} {b : Nat → Nat} {n i : Nat} (h : mSg fBd f S X) (c : mCu S b n i) : mCu X b n i := mCu_F c (fun k z1 z2 => h.1 k (by rcases (show k = 6 ∨ k = 7 ∨ k = 8 ∨ k = 9 ∨ k = 10 by omega) with rfl | rfl | rfl | rfl | rfl <;> rfl)) (h.2.2.1 1 rfl) (h.2.2.1 2 rfl)
theorem hd_bd {ls : Nat} : ∀ {W : List Nat} {q : tDQ}, (bdW ls W q).2 = [] ∨ ∃ k r, (bdW ls W q).2 = k :: r ∧ rkN k < ls
  | [], q => Or.inl rfl
  | k :: r, q => by
    unfold bdW
    split
    · exact hd_bd
    · rename_i h
      exact Or.inr ⟨k, r, rfl, by omega⟩
theorem rk_0 {k : Nat} (h : rkN k < 1) (h1 : k ≤ 14) (h2 : ¬ k = 1) : k = 0 := by
  revert h
  unfold rkN
  (repeat' split) <;> omega
theorem rk_1 {k : Nat} (h : 3 ≤ k) : 1 ≤ rkN k := by
  unfold rkN
  (repeat' split) <;> omega
theorem tk5 {b : Nat → Nat} {n i : Nat} : tkK b n i = 5 → tkW b n i ≤ 5 := by
  show (tk b n i).1 = 5 → (tk b n i).2.1 ≤ 5
  unfold tk tkA
  split
  · intro q; cases q
  · split
    · split
      · intro q; cases q
      · split <;> (intro q; cases q)
    · split
      · intro q; cases q
      · unfold sgT
        (repeat' split) <;> (intro q; first | exact Nat.le_of_ble_eq_true rfl | (cases q; done))
theorem sgK_b (b : Nat → Nat) (n i : Nat) : sgK b n i = 0 ∨ (3 ≤ sgK b n i ∧ sgK b n i ≤ 14) := by
  unfold sgK
  split
  · exact Or.inr ⟨by decide, by decide⟩
  · split
    · exact Or.inr ⟨by decide, by decide⟩
    · split
      · rename_i q
        have := tk5 q
        exact Or.inr ⟨by omega, by omega⟩
      · (repeat' split) <;> first | exact Or.inr ⟨by decide, by decide⟩ | exact Or.inl rfl
theorem mSu_t {S : ms_S} {f k : Nat} {q : tDQ} {W : List Nat} (h : mSu S f q (k :: W)) : mSu (sV S 43 (nI W.length)) f q W := ⟨h.1, rfl, h.2.2.1.2, h.2.2.2.1, h.2.2.2.2.1, knR_F (S := S) h.2.2.2.2.2 rfl rfl rfl⟩
theorem c_signs (G : ab_G) (fr : Bool) (S1 S : ms_S) (tl : ab_H) (b : Nat → Nat) (n f : Nat) (u : tSU) (i : Nat) (h : mSm S1 b n f u i S) (hw : u.2.2.2.2.1 = false) (K : Int32 → ms_S → Prop)
    (kE : ∀ X fl p, signS b n u i = .error (fl, p) → mSe S1 f fl p X → K (nI 0) X)
    (kO : ∀ X u' j, signS b n u i = .ok (u', j) → mSm S1 b n f u' j X → K (nI 1) X) : ctI G 3 M_X12_signs fr [.ref 0] lM S tl K := by
  obtain ⟨g1, g2, g3, g4, g5, g6, g7, i1, i2, i3, i4, i5, i6⟩ := h
  rw [if_neg (by rw [hw]; decide)] at i6
  obtain ⟨b1, b2, b3, b4, b5, b6⟩ := mCu_b g7
  obtain ⟨t1, t2, t3, t4⟩ := g7.2.2
  have e8 : S.1 0 8 = nI (tkK b n i) := t1
  have hlen := len_C u.2.1
  have hbn := bn_le u.2.1
  refine m_X12_signs (fun n0 => u_isSign G fr S tl b n i 41 g7 (by decide) _ ?_)
  have K47 : (isTk b n i 4 41 && decide (0 < u.2.2.1)) = false → L_X12_signs_47 G fr n0 tl K S := by
    intro hN
    have hNn : ¬ (isTk b n i 4 41 && decide (0 < u.2.2.1)) = true := by rw [hN]; decide
    have K147 : L_X12_signs_147 G fr n0 tl K S (nI (sgK b n i)) := by
      have hs := sgK_b b n i
      refine b_X12_signs_147 ?_
      rw [x_eq0 (by omega)]
      refine ⟨fun z => u_wrong G fr S tl 1 _ t3 _ (fun X x1 x2 x3 => ⟨Or.inl rfl, kE X 1 _ (by unfold signS; rw [if_neg hNn, if_pos z]) ⟨(g1.mono fXq).tr (x1.Sg fQX), x2, x3⟩⟩), fun z => ?_⟩
      have hk3 : 3 ≤ sgK b n i ∧ sgK b n i ≤ 14 := by omega
      have hr := rk_le (sgK b n i)
      have K175 : ∀ ls, 1 ≤ ls → ls ≤ 6 → (if rkN (sgK b n i) = 4 then 5 else rkN (sgK b n i)) = ls → L_X12_signs_175 G fr n0 tl K S (nI (sgK b n i)) (nI ls) := by
        intro ls l1 l6 hls
        refine b_X12_signs_175 (c_bind G fr S tl f ls u.1 u.2.1 l1 l6 g2 i5 (by omega) (by omega) (by omega) _ (fun X x1 x2 x3 x4 x5 => ?_))
        have hbd : (bdW ls u.2.1 u.1).1.1 + nzC (bdW ls u.2.1 u.1).2 = u.1.1 + nzC u.2.1 := by
          rcases bn_bd (ls := ls) (W := u.2.1) (q := u.1) with e | e
          · exact e
          · omega
        generalize hB : bdW ls u.2.1 u.1 = B at x2 x3 x4 x5 hbd
        have cX : mCu X b n i := mCu_Bd x1 g7
        have tX : m_at X = nI (tkP b n i) := cX.2.2.2.2.1
        have hlB := len_C B.2
        have gX : mSg fX f S1 X := g1.tr (x1.mono fBX)
        have e46 : X.1 0 46 = nI u.2.2.2.1 := (x1.1 46 rfl).trans g4
        refine c_rank G fr X tl _ hk3.2 _ ?_
        have K217 : (decide (rkN (sgK b n i) = 4) && hd4 B.2) = false → L_X12_signs_217 G fr n0 tl K X (nI (sgK b n i)) := by
          intro hh
          have hhn : ¬ (decide (rkN (sgK b n i) = 4) && hd4 B.2) = true := by rw [hh]; decide
          refine b_X12_signs_217 (u_counted G fr X tl _ _ e46 i1 tX _ (fun q Y y1 y2 y3 => ⟨fun _ => kE Y 2 _ (by unfold signS; rw [if_neg hNn, if_neg z, hls, hB, if_neg hhn, if_pos q]) ⟨(gX.mono fXq).tr (y1.Sg fQX), y2, y3⟩, fun z => absurd rfl z⟩) (fun q => ⟨fun z => absurd z (by decide), fun _ => ?_⟩))
          refine u_waits G fr (sV X 46 (nI (u.2.2.2.1 + 1))) tl (sgK b n i) B.2.length x2.2.1 (by omega) _ ?_
          refine c_rank G fr _ tl _ hk3.2 _ ?_
          have KF : ∀ bb : Bool, bb = decide (rkN (sgK b n i) < 3) → L_X12_signs_250 G fr n0 tl K (sV (sV (sA (sV X 46 (nI (u.2.2.2.1 + 1))) 22 B.2.length (nI (sgK b n i))) 43 (nI (B.2.length + 1))) 47 (nI 1)) (bI bb) := by
            intro bb hb
            refine b_X12_signs_250 ⟨bI_01 bb, ?_⟩
            generalize hZ : sV (sV (sV (sA (sV X 46 (nI (u.2.2.2.1 + 1))) 22 B.2.length (nI (sgK b n i))) 43 (nI (B.2.length + 1))) 47 (nI 1)) 48 (bI bb) = Z0
            have c3 : mCu Z0 b n i := by
              rw [← hZ]
              exact mCu_F cX (fun k z1 z2 => (((u2_ne (Or.inr (by omega))).trans (u2_ne (Or.inr (by omega)))).trans (u2_ne (Or.inr (by omega)))).trans (u2_ne (Or.inr (by omega)))) rfl rfl
            have y3 : mSg fX f S1 Z0 := by
              rw [← hZ]
              exact ((((gX.tr (mSg.sV rfl)).tr (mSg.sA rfl (fun z => absurd z (by decide)))).tr (mSg.sV rfl)).tr (mSg.sV rfl)).tr (mSg.sV rfl)
            have s3 : mSu (sV X 46 (nI (u.2.2.2.1 + 1))) f B.1 B.2 := mSu_F x2 rfl rfl rfl rfl rfl rfl rfl rfl
            have s4 : mSu Z0 f B.1 (sgK b n i :: B.2) := by
              rw [← hZ]
              exact mSu_F (S := sV (sA (sV X 46 (nI (u.2.2.2.1 + 1))) 22 B.2.length (nI (sgK b n i))) 43 (nI (B.2.length + 1))) (mSu_w s3) rfl rfl rfl rfl rfl rfl rfl rfl
            have f45 : Z0.1 0 45 = nI u.2.2.1 := by
              rw [← hZ]
              exact (x1.1 45 rfl).trans g3
            have f46 : Z0.1 0 46 = nI (u.2.2.2.1 + 1) := by rw [← hZ]; rfl
            have f47 : Z0.1 0 47 = nI 1 := by rw [← hZ]; rfl
            have f48 : Z0.1 0 48 = bI bb := by rw [← hZ]; rfl
            refine u_tok G fr Z0 tl b n i c3 _ (fun Z z1 z2 => kO Z (B.1, sgK b n i :: B.2, u.2.2.1, u.2.2.2.1 + 1, true, bb) (tkN b n i) (by unfold signS; rw [if_neg hNn, if_neg z, hls, hB, if_neg hhn, if_neg q, hb]) ⟨y3.tr (z1.Sg fGX), mSu_G s4 z1, (z1.1 0 45 (Or.inr rfl)).trans f45, (z1.1 0 46 (Or.inr rfl)).trans f46, (z1.1 0 47 (Or.inr rfl)).trans f47, (z1.1 0 48 (Or.inr rfl)).trans f48, z2, ⟨show u.2.2.2.1 + 1 ≤ 64 by omega, ?_, ?_, i4, ?_, ?_⟩⟩)
            · show f + B.1.1 + ((if sgK b n i = 0 then 0 else 1) + nzC B.2) = u.2.2.2.1 + 1
              rw [if_neg z]
              omega
            · show (if sgK b n i = 0 then 1 else 0) + zrC B.2 = u.2.2.1
              rw [if_neg z]
              omega
            · intro k hk
              rcases List.mem_cons.mp hk with rfl | hk
              · exact ⟨hk3.2, by omega⟩
              · exact x3 k hk
            · show (ixF B.1.2 B.1.1).length = ((if 3 ≤ sgK b n i then 1 else 0) + bnC B.2) + (if true = true then 0 else 1)
              rw [if_pos hk3.1, if_pos rfl]
              omega
          rw [nI_leI (by decide) (by omega)]
          exact ⟨fun y => KF false (decide_eq_false (by omega)).symm, fun y => KF true (decide_eq_true (by omega)).symm⟩
        rw [nI_eq (by omega) (by decide)]
        refine ⟨fun y => ?_, fun y => K217 (by rw [decide_eq_false y]; rfl)⟩
        rw [x2.2.1, x_le0 (by omega)]
        refine ⟨fun w => K217 (by rw [List.length_eq_zero_iff.mp w, decide_eq_true y]; rfl), fun w => ?_⟩
        cases hB2 : B.2 with
        | nil =>
          rw [hB2] at w
          exact absurd rfl w
        | cons k2 r2 =>
          have e22 : X.2.2.2.1 22 r2.length = nI k2 := by
            have := x2.2.2.1
            rw [hB2] at this
            exact this.1
          have hk2 := (x3 k2 (by rw [hB2]; exact List.mem_cons_self)).1
          have hr2 := rk_le k2
          rw [hB2] at hlB x5 hbd
          have hlB : r2.length + 1 = _ := hlB
          rw [show (k2 :: r2).length = r2.length + 1 from rfl, pk_sub (by omega), show r2.length + 1 - 1 = r2.length by omega, nI_clamp (by omega), e22]
          refine ⟨(x_vp (by omega)).mpr (by omega), c_rank G fr X tl k2 hk2 _ ?_⟩
          rw [nI_eq (by omega) (by decide)]
          refine ⟨fun v => u_wrong G fr X tl 1 _ tX _ (fun Y y1 y2 y3 => ⟨Or.inl rfl, kE Y 1 _ (by unfold signS; rw [if_neg hNn, if_neg z, hls, hB, hB2, if_pos (by rw [decide_eq_true y]; exact decide_eq_true v)]) ⟨(gX.mono fXq).tr (y1.Sg fQX), y2, y3⟩⟩), fun v => K217 (by rw [hB2, decide_eq_true y]; exact decide_eq_false v)⟩
      refine c_rank G fr S tl _ hk3.2 _ ?_
      rw [nI_eq (by omega) (by decide)]
      exact ⟨fun y => K175 5 (by decide) (by decide) (if_pos y), fun y => c_rank G fr S tl _ hk3.2 _ (K175 _ (rk_1 hk3.1) hr (if_neg y))⟩
    -- which sign it is
    refine b_X12_signs_47 (u_isKey G fr S tl b n i 11 g7 (by decide) _ ?_)
    rw [x_b0]
    refine ⟨fun q1 => ?_, fun q1 => by rw [show sgK b n i = 3 from by unfold sgK; rw [if_pos (nf_t q1)]] at K147; exact K147⟩
    have q1 : ¬ isTk b n i 1 11 = true := by rw [q1]; decide
    refine u_isKey G fr S tl b n i 12 g7 (by decide) _ ?_
    rw [x_b0]
    refine ⟨fun q2 => ?_, fun q2 => by rw [show sgK b n i = 4 from by unfold sgK; rw [if_neg q1, if_pos (nf_t q2)]] at K147; exact K147⟩
    have q2 : ¬ isTk b n i 1 12 = true := by rw [q2]; decide
    rw [e8, nI_eq (by omega) (by decide)]
    refine ⟨fun q3 => ?_, fun q3 => ?_⟩
    · have e9 : S.1 0 9 = nI (tkW b n i) := t2 (by show ¬ tkK b n i = 0; omega) (by show ¬ tkK b n i = 6; omega)
      rw [e9, nI_add]
      rw [show sgK b n i = 5 + tkW b n i from by unfold sgK; rw [if_neg q1, if_neg q2, if_pos q3]] at K147
      exact K147
    refine u_isSign G fr S tl b n i 43 g7 (by decide) _ ?_
    rw [x_b0]
    refine ⟨fun q4 => ?_, fun q4 => by rw [show sgK b n i = 11 from by unfold sgK; rw [if_neg q1, if_neg q2, if_neg q3, if_pos (nf_t q4)]] at K147; exact K147⟩
    have q4 : ¬ isTk b n i 4 43 = true := by rw [q4]; decide
    refine u_isSign G fr S tl b n i 45 g7 (by decide) _ ?_
    rw [x_b0]
    refine ⟨fun q5 => ?_, fun q5 => by rw [show sgK b n i = 12 from by unfold sgK; rw [if_neg q1, if_neg q2, if_neg q3, if_neg q4, if_pos (nf_t q5)]] at K147; exact K147⟩
    have q5 : ¬ isTk b n i 4 45 = true := by rw [q5]; decide
    refine u_isSign G fr S tl b n i 42 g7 (by decide) _ ?_
    rw [x_b0]
    refine ⟨fun q6 => ?_, fun q6 => by rw [show sgK b n i = 13 from by unfold sgK; rw [if_neg q1, if_neg q2, if_neg q3, if_neg q4, if_neg q5, if_pos (nf_t q6)]] at K147; exact K147⟩
    have q6 : ¬ isTk b n i 4 42 = true := by rw [q6]; decide
    refine u_isSign G fr S tl b n i 47 g7 (by decide) _ ?_
    rw [x_b0]
    refine ⟨fun q7 => ?_, fun q7 => by rw [show sgK b n i = 14 from by unfold sgK; rw [if_neg q1, if_neg q2, if_neg q3, if_neg q4, if_neg q5, if_neg q6, if_pos (nf_t q7)]] at K147; exact K147⟩
    have q7 : ¬ isTk b n i 4 47 = true := by rw [q7]; decide
    rw [show sgK b n i = 0 from by unfold sgK; rw [if_neg q1, if_neg q2, if_neg q3, if_neg q4, if_neg q5, if_neg q6, if_neg q7]] at K147
    exact K147
  rw [x_b0]
  refine ⟨fun q => K47 (by rw [q]; rfl), fun q => ?_⟩
  rw [g3, x_le0 (by omega)]
  refine ⟨fun z => K47 (by rw [decide_eq_false (show ¬ 0 < u.2.2.1 by omega), Bool.and_false]), fun z => ?_⟩
  have hY : (isTk b n i 4 41 && decide (0 < u.2.2.1)) = true := by rw [nf_t q, decide_eq_true (show 0 < u.2.2.1 by omega)]; rfl
  refine c_bind G fr S tl f 1 u.1 u.2.1 (by decide) (by decide) g2 i5 (by omega) (by omega) (by omega) _ (fun X x1 x2 x3 x4 x5 => ?_)
  have hbd : (bdW 1 u.2.1 u.1).1.1 + nzC (bdW 1 u.2.1 u.1).2 = u.1.1 + nzC u.2.1 := by
    rcases bn_bd (ls := 1) (W := u.2.1) (q := u.1) with e | e
    · exact e
    · omega
  have hhd := hd_bd (ls := 1) (W := u.2.1) (q := u.1)
  generalize hB : bdW 1 u.2.1 u.1 = B at x2 x3 x4 x5 hbd hhd
  rcases hhd with hhd | ⟨k2, r2, hB2, hk2⟩
  · rw [hhd] at x5
    have x5 : 0 = zrC u.2.1 := x5
    omega
  rw [hB2] at x2 x3 x4 x5 hbd
  obtain ⟨h14, h1⟩ := x3 k2 List.mem_cons_self
  have hk0 := rk_0 hk2 h14 h1
  subst hk0
  have x5 : 1 + zrC r2 = zrC u.2.1 := x5
  have hbd : B.1.1 + (0 + nzC r2) = u.1.1 + nzC u.2.1 := hbd
  have x4 : (ixF B.1.2 B.1.1).length = (0 + bnC r2) + 1 := x4
  have hlr := len_C r2
  have cX : mCu X b n i := mCu_Bd x1 g7
  have gX : mSg fX f S1 X := g1.tr (x1.mono fBX)
  rw [x2.2.1, show (0 :: r2).length = r2.length + 1 from rfl, pk_sub (by omega), show r2.length + 1 - 1 = r2.length by omega]
  have e45 : X.1 0 45 = nI u.2.2.1 := (x1.1 45 rfl).trans g3
  rw [e45, pk_sub (by omega)]
  have c3 : mCu (sV (sV X 43 (nI r2.length)) 45 (nI (u.2.2.1 - 1))) b n i := mCu_F cX (fun k z1 z2 => (u2_ne (Or.inr (by omega))).trans (u2_ne (Or.inr (by omega)))) rfl rfl
  have s4 : mSu (sV (sV X 43 (nI r2.length)) 45 (nI (u.2.2.1 - 1))) f B.1 r2 := mSu_F (S := sV X 43 (nI r2.length)) (mSu_t x2) rfl rfl rfl rfl rfl rfl rfl rfl
  refine u_tok G fr _ tl b n i c3 _ (fun Z z1 z2 => kO Z (B.1, r2, u.2.2.1 - 1, u.2.2.2.1, u.2.2.2.2.1, u.2.2.2.2.2) (tkN b n i) (by unfold signS; rw [if_pos hY, hB, hB2]; rfl) ⟨((gX.tr (mSg.sV rfl)).tr (mSg.sV rfl)).tr (z1.Sg fGX), mSu_G s4 z1, (z1.1 0 45 (Or.inr rfl)).trans rfl, (z1.1 0 46 (Or.inr rfl)).trans ((x1.1 46 rfl).trans g4), (z1.1 0 47 (Or.inr rfl)).trans ((x1.1 47 rfl).trans g5), (z1.1 0 48 (Or.inr rfl)).trans ((x1.1 48 rfl).trans g6), z2, ⟨i1, ?_, ?_, ?_, fun k hk => x3 k (List.mem_cons_of_mem _ hk), ?_⟩⟩)
  · show f + B.1.1 + nzC r2 = u.2.2.2.1
    omega
  · show zrC r2 = u.2.2.1 - 1
    omega
  · show u.2.2.1 - 1 ≤ 8
    omega
  · show (ixF B.1.2 B.1.1).length = bnC r2 + (if u.2.2.2.2.1 = true then 0 else 1)
    rw [hw, if_neg (by decide)]
    omega

