/-! ===== the program: what only looks, more ===== -/
theorem bn_pos : ∀ m n, n ≤ m → 0 < bnN m n
  | m, 0, _ => by rw [bn_ge m 0]; decide
  | 0, n + 1, h => absurd h (Nat.not_succ_le_zero _)
  | m + 1, n + 1, h => by
    show 0 < bnN m (n + 1) + bnN m n
    have := bn_pos m n (by omega)
    omega
section LOOKS2
variable {G : ab_G} {tl : ab_H} {S : ms_S} {g : tSG} {o : Nat → Option tDQ} {V : Nat}
theorem d_dearest (hQ : bQ S g o V) (hV : V + 5000 < 2 ^ 30) (h w : Int32) : ctI G 6 M_X11_dearest false [.ref 0, .int h, .int w] lB S tl (fun v S' => bQ S' g o (V + 5000) ∧ v = A_dearest g.1 h w) := by
  refine ctI.ab (fun K hK => m_X11_dearest (fun n0 => u_hr hQ.1.1.2.2.2.1 h _ ?_))
  have q0 : bQ S g o (V + 5000) := bQ_m hQ (by omega)
  have p5 := hQ.1.1.2.1
  obtain ⟨w1, ⟨v, jb, w2, w2b⟩, w3, w4⟩ := id hQ.2.1
  rw [x_b0]
  unfold A_dearest at hK
  refine ⟨fun z => b_X11_dearest_17 (hK _ _ ⟨q0, by rw [z, if_neg (fun q => Bool.false_ne_true q.1)]⟩), fun z => ?_⟩
  have z := nf_t z
  have hB : ∀ (hi : ¬ inK w 0 2 = true), L_X11_dearest_17 G false n0 tl K S := fun hi => b_X11_dearest_17 (hK _ _ ⟨q0, by rw [if_neg (fun q => hi q.2)]⟩)
  refine ⟨fun y => hB (fun w => (of_decide_eq_true w).1 y), fun y => ⟨fun x => ?_, fun x => hB (fun w => x (Int32.not_lt.mp (of_decide_eq_true w).2))⟩⟩
  have hi : inK w 0 2 = true := decide_eq_true ⟨y, Int32.not_lt.mpr x⟩
  obtain ⟨j, hj, rfl⟩ := hr_t p5 z
  rw [if_pos ⟨z, hi⟩, show cl (nI j) = j from nI_clamp (by omega)] at hK
  refine ctI.tr e_CN e_CN_i e_CN_n (as' := [.ref 31, .ref 46, .int (nI j)]) rfl (fun G' => u_dear (G := G') (S := cN S) hQ.1.1 hQ.2.2.2.1 w1 w2b (by omega) false w3 j hj _ (fun T v' f e6 e7 hv' j2 r2 hd => ?_))
  have c1 := cN_mg (S := S) (T := T) f.2.2.2.2
  have q1 : bQ (mgS e_CN S T) g o (V + 5000) := by
    refine bQ_m (V := V + 1) (bQ_W hQ (wN f (by decide)) ⟨bJd_F c1 rfl rfl j2, ⟨v', _, by omega, bRT_F c1 rfl rfl rfl rfl r2⟩, ?_, ?_⟩) (by omega)
    · rw [congrFun (c1.1 31 rfl) 6, e6]; exact w3
    · rw [congrFun (c1.1 31 rfl) 7, e7]; exact w4
  rw [x_b0]
  refine ⟨fun x => hK _ _ ⟨q1, ?_⟩, fun x => ?_⟩
  · cases hd2 : dOut g.1.1 g.1.2.2.2.1 (jbK g.1.1 g.1.2.2.2.1.2.2.2.2 false) j 7 with
    | none => rfl
    | some q => rw [hd2] at x; cases x
  · have x := nf_t x
    have hd := hd x
    cases hd2 : dOut g.1.1 g.1.2.2.2.1 (jbK g.1.1 g.1.2.2.2.1.2.2.2.2 false) j 7 with
    | none => rw [hd2] at x; cases x
    | some q =>
      rw [hd2] at hd hK
      obtain ⟨d1, d2, d3, -⟩ := hd
      have e31 : (mgS e_CN S T).1 67 = T.1 31 := c1.1 31 rfl
      rw [e31]
      dsimp only at hK
      refine ⟨fun y => hK _ _ ⟨q1, ?_⟩, fun y => hK _ _ ⟨q1, ?_⟩, fun y1 y2 => hK _ _ ⟨q1, ?_⟩⟩
      · rw [if_pos (show w = 0 from y)]; exact d1
      · rw [if_neg (fun q => absurd (y.symm.trans q) (by decide)), if_pos y]; exact d2
      · rw [if_neg (show ¬ w = 0 from y1), if_neg y2]; exact d3
theorem d_shape (hQ : bQ S g o V) (h w : Int32) : ctI G 3 M_X11_shape false [.ref 0, .int h, .int w] lB S tl (fun v S' => bQ S' g o (V + 5000) ∧ v = A_shape g h w) := by
  refine ctI.ab (fun K hK => m_X11_shape (fun n0 => u_hr hQ.1.1.2.2.2.1 h _ ?_))
  have q0 : bQ S g o (V + 5000) := bQ_m hQ (by omega)
  have p5 := hQ.1.1.2.1
  rw [x_b0]
  unfold A_shape at hK
  refine ⟨fun z => hK _ _ ⟨q0, by rw [z, if_neg (fun q => Bool.false_ne_true q.1)]⟩, fun z => ?_⟩
  have z := nf_t z
  obtain ⟨j, hj, rfl⟩ := hr_t p5 z
  have hv : vp_in (nI j) 5 := (x_vp (by omega)).mpr (by omega)
  rw [show (nI j).toNatClampNeg = j from nI_clamp (by omega), show S.2.2.2.1 83 j = nI (shN g (nI j)) from hQ.2.2.2.1.1 j (by omega)]
  refine ⟨fun y => ⟨hv, ?_⟩, fun y => ⟨hv, ?_⟩, fun y1 y2 => hK _ _ ⟨q0, ?_⟩⟩
  · subst y
    rw [if_pos ⟨z, by decide⟩, if_pos (show nI 0 = 0 from rfl)] at hK
    exact ctI.tr e_CN e_CN_i e_CN_n (as' := [.ref 0, .int (nI (shN g (nI j)))]) rfl (fun G' => u_odd (G := G') (S := cN S) hQ.1.1 _ (sh_lt g _) _ (by rw [mgS_rs]; exact hK _ _ ⟨q0, rfl⟩))
  · subst y
    rw [if_pos ⟨z, by decide⟩, if_neg (show ¬ nI 1 = 0 by decide)] at hK
    exact ctI.tr e_CN e_CN_i e_CN_n (as' := [.ref 0, .int (nI (shN g (nI j)))]) rfl (fun G' => u_hang (G := G') (S := cN S) hQ.1.1 _ (sh_lt g _) _ (by rw [mgS_rs]; exact hK _ _ ⟨q0, rfl⟩))
  · rw [if_neg]
    intro q
    obtain ⟨c, hc, e⟩ := in_t (by decide) q.2
    rcases (show c = 0 ∨ c = 1 by omega) with rfl | rfl
    · exact y1 e
    · exact y2 e
theorem d_deal (hQ : bQ S g o V) (hV : V + 5000 < 2 ^ 30) : ctI G 8 M_X11_deal false [.ref 0] lB S tl (fun v S' => bQ S' g o (V + 5000) ∧ v = A_deal g) := by
  refine ctI.ab (fun K hK => m_X11_deal (fun n0 => u_joinNow hQ (by omega) _ (fun S2 v q2 hv r2 f2 => ?_)))
  exact ctI.tr e_CN e_CN_i e_CN_n (as' := [.ref 31, .ref 46]) rfl (fun G' => u_deal (G := G') (S := cN S2) q2.1.1 q2.2.2.2.1 r2 q2.2.1.2.2.2 _ (fun T f r => hK _ _ ⟨bQ_m (bQ_rt q2 f (by decide) rfl rfl rfl r hv) (by omega), rfl⟩))
theorem d_swaps (hQ : bQ S g o V) (hV : V + 5000 < 2 ^ 30) (h : Int32) : ctI G 7 M_X11_swaps false [.ref 0, .int h] lB S tl (fun v S' => bQ S' g o (V + 5000) ∧ v = A_swaps g h) := by
  refine ctI.ab (fun K hK => m_X11_swaps (fun n0 => u_hr hQ.1.1.2.2.2.1 h _ ?_))
  have q0 : bQ S g o (V + 5000) := bQ_m hQ (by omega)
  have p5 := hQ.1.1.2.1
  have p9 := hQ.1.1.1
  rw [x_b0]
  unfold A_swaps at hK
  refine ⟨fun z => hK _ _ ⟨q0, by rw [z, if_neg Bool.false_ne_true]⟩, fun z => ?_⟩
  have z := nf_t z
  obtain ⟨j, hj, rfl⟩ := hr_t p5 z
  have hs := sh_lt g (nI j)
  have hs9 : shN g (nI j) < 512 := Nat.lt_of_lt_of_le hs (p2_9 p9)
  rw [if_pos z, show cl (nI j) = j from nI_clamp (by omega)] at hK
  rw [show (nI j).toNatClampNeg = j from nI_clamp (by omega), show S.2.2.2.1 83 j = nI (shN g (nI j)) from hQ.2.2.2.1.1 j (by omega)]
  refine ⟨(x_vp (by omega)).mpr (by omega), fun y => ?_, fun y => ?_⟩
  · rw [show (0 : Int32) = nI 0 from rfl, nI_eq (by omega) (by decide)] at y
    rw [if_pos y] at hK
    exact hK _ _ ⟨q0, rfl⟩
  · rw [show (0 : Int32) = nI 0 from rfl, nI_eq (by omega) (by decide)] at y
    rw [if_neg y] at hK
    refine u_joinNow hQ (by omega) _ (fun S2 v q2 hv r2 f2 => ?_)
    refine ctI.tr e_CN e_CN_i e_CN_n (as' := [.ref 25, .int (nI (shN g (nI j)))]) rfl (fun G' => u_isRow (G := G') (S := cN S2) q2.1.1 r2 _ hs _ (fun T f r => ?_))
    have q3 := bQ_rt q2 f (by decide) rfl rfl rfl r hv
    have r3 : bRT (cN (mgS e_CN S2 T)) g.1.1 v (jbC g.1) := bRT_F (cN_mg f.2.2.2.2) rfl rfl rfl rfl r
    generalize mgS e_CN S2 T = S3 at q3 r3
    rw [x_b0]
    refine ⟨fun x => ?_, fun x => hK _ _ ⟨bQ_m q3 (by omega), by rw [if_pos (nf_t x)]⟩⟩
    rw [if_neg (by rw [x]; exact Bool.false_ne_true)] at hK
    refine ctU.tr e_CN e_CN_i e_CN_n (as' := [.ref 31, .ref 46, .int (nI j)]) rfl (fun G' => u_fEx (G := G') (S := cN S3) q3.1.1 q3.2.2.2.1 q3.2.1.2.2.2 j hj _ (fun T2 f2 hx2 => ?_))
    have q4 := bQ_nw q3 f2 (by decide) rfl rfl rfl rfl rfl rfl rfl
    have c4 := cN_mg (S := S3) (T := T2) f2.2.2.2.2
    have r4 : bRT (cN (mgS e_CN S3 T2)) g.1.1 v (jbC g.1) := bRT_F c4 rfl rfl rfl rfl (bRT_F f2 rfl rfl rfl rfl r3)
    have x4 : ∀ x, x < g.1.1.1 → (cN (mgS e_CN S3 T2)).2.2.2.1 34 x = nI (sxE g.1.1 g.1.2.2.2.1 j x) := fun x hx => by rw [c4.2.2.1 34 rfl]; exact hx2 x hx
    generalize mgS e_CN S3 T2 = S4 at q4 c4 r4 x4
    refine ctI.tr e_CN e_CN_i e_CN_n (as' := [.ref 31, .int (nI (shN g (nI j)))]) rfl (fun G' => u_ex1 (G := G') (S := cN S4) q4.1.1 r4 j _ hs x4 _ (fun T3 f3 r5 => ?_))
    have q5 := bQ_rt q4 f3 (by decide) rfl rfl rfl r5 hv
    have c5 := cN_mg (S := S4) (T := T3) f3.2.2.2.2
    have r6 : bRT (cN (mgS e_CN S4 T3)) g.1.1 v (jbC g.1) := bRT_F c5 rfl rfl rfl rfl r5
    have x5 : ∀ x, x < g.1.1.1 → (cN (mgS e_CN S4 T3)).2.2.2.1 34 x = nI (sxE g.1.1 g.1.2.2.2.1 j x) := fun x hx => by rw [c5.2.2.1 34 rfl, f3.2.2.1 34 rfl]; exact x4 x hx
    generalize mgS e_CN S4 T3 = S5 at q5 r6 x5
    rw [x_b0, ex1_sw]
    refine ⟨fun x => ?_, fun x => hK _ _ ⟨bQ_m q5 (by omega), by rw [if_pos (nf_t x)]⟩⟩
    rw [if_neg (by rw [x]; exact Bool.false_ne_true)] at hK
    refine ctI.tr e_CN e_CN_i e_CN_n (as' := [.ref 31, .int (nI (shN g (nI j)))]) rfl (fun G' => u_ex2 (G := G') (S := cN S5) q5.1.1 r6 j _ hs x5 _ (fun T4 f4 r7 => ?_))
    have q6 := bQ_rt q5 f4 (by decide) rfl rfl rfl r7 hv
    rw [x_b0, ex2_sw p9 hs9]
    refine ⟨fun x => b_X11_swaps_86 (hK _ _ ⟨bQ_m q6 (by omega), by rw [if_neg (by rw [x]; exact Bool.false_ne_true)]⟩), fun x => b_X11_swaps_86 (hK _ _ ⟨bQ_m q6 (by omega), by rw [if_pos (nf_t x)]⟩)⟩
theorem d_game (hQ : bQ S g o V) (hV : V + 5000 < 2 ^ 30) (a c w : Int32) : ctI G 12 M_X11_game false [.ref 0, .int a, .int c, .int w] lB S tl (fun v S' => bQ S' g o (V + 5000) ∧ v = A_game g a c w) := by
  refine ctI.ab (fun K hK => m_X11_game (fun n0 => u_hr hQ.1.1.2.2.2.1 a _ ?_))
  have q0 : bQ S g o (V + 5000) := bQ_m hQ (by omega)
  have p5 := hQ.1.1.2.1
  have p9 := hQ.1.1.1
  unfold A_game at hK
  have hB : ¬ gmB g a c w = true → L_X11_game_30 G false n0 tl K S := fun q => b_X11_game_30 (hK _ _ ⟨q0, by rw [if_neg q]⟩)
  have hB2 : gmB g a c w = true → hrK g.1.1 a = true ∧ hrK g.1.1 c = true ∧ ¬ a = c ∧ inK w 0 2 = true := by
    intro q
    unfold gmB at q
    simp only [Bool.and_eq_true, decide_eq_true_eq] at q
    exact ⟨q.1, q.2.1, q.2.2.1, q.2.2.2⟩
  rw [x_b0]
  refine ⟨fun z => hB (fun q => by rw [(hB2 q).1] at z; cases z), fun z => u_hr hQ.1.1.2.2.2.1 c _ ?_⟩
  have z := nf_t z
  rw [x_b0]
  refine ⟨fun y => hB (fun q => by rw [(hB2 q).2.1] at y; cases y), fun y => ⟨fun x => hB (fun q => (hB2 q).2.2.1 x), fun x => ⟨fun t => hB (fun q => (of_decide_eq_true (hB2 q).2.2.2).1 t), fun t => ⟨fun u => ?_, fun u => hB (fun q => u (Int32.not_lt.mp (of_decide_eq_true (hB2 q).2.2.2).2))⟩⟩⟩⟩
  have y := nf_t y
  have hi : inK w 0 2 = true := decide_eq_true ⟨t, Int32.not_lt.mpr u⟩
  have hT : gmB g a c w = true := by
    unfold gmB
    rw [z, y, hi, decide_eq_true x]
    rfl
  rw [if_pos hT] at hK
  obtain ⟨i, hi5, rfl⟩ := hr_t p5 z
  obtain ⟨j, hj5, rfl⟩ := hr_t p5 y
  refine u_joinNow hQ (by omega) _ (fun S2 v q2 hv r2 f2 => ⟨(x_vp (by omega)).mpr (by omega), (x_vp (by omega)).mpr (by omega), ?_⟩)
  rw [show (nI i).toNatClampNeg = i from nI_clamp (by omega), show (nI j).toNatClampNeg = j from nI_clamp (by omega), show S2.2.2.2.1 83 i = nI (shN g (nI i)) from q2.2.2.2.1.1 i (by omega), show S2.2.2.2.1 83 j = nI (shN g (nI j)) from q2.2.2.2.1.1 j (by omega)]
  refine ctU.tr e_CN e_CN_i e_CN_n (as' := [.ref 37, .int (nI (shN g (nI i))), .int (nI (shN g (nI j)))]) rfl (fun G' => u_play (G := G') (S := cN S2) q2.1.1 r2 (Nat.lt_of_lt_of_le (sh_lt g _) (p2_9 p9)) (Nat.lt_of_lt_of_le (sh_lt g _) (p2_9 p9)) _ (fun T f e4 e5 => ?_))
  have q3 := bQ_m (bQ_nw q2 f (by decide) rfl rfl rfl rfl rfl rfl rfl) (V' := V + 5000) (by omega)
  have c3 := cN_mg (S := S2) (T := T) f.2.2.2.2
  have f4 : (mgS e_CN S2 T).1 73 4 = nI (opN (gmO g (nI i) (nI j)).1) := (congrFun (c3.1 37 rfl) 4).trans e4
  have f5 : (mgS e_CN S2 T).1 73 5 = (gmO g (nI i) (nI j)).2 := (congrFun (c3.1 37 rfl) 5).trans e5
  have hop : opN (gmO g (nI i) (nI j)).1 ≤ 10 := by
    have h9 := gmP_le g.1.1 (jbC g.1) (shN g (nI i)) (shN g (nI j)) p9 g.1.1.1 p9
    show opN (gmP g.1.1 (jbC g.1) (shN g (nI i)) (shN g (nI j)) g.1.1.1).1 ≤ 10
    cases h8 : (gmP g.1.1 (jbC g.1) (shN g (nI i)) (shN g (nI j)) g.1.1.1).1 with
    | none => exact Nat.zero_le _
    | some m => rw [h8] at h9; exact h9
  rw [f4, f5]
  refine ⟨fun e => ⟨by decide, ?_⟩, fun e => hK _ _ ⟨q3, ?_⟩, fun e1 e2 => hK _ _ ⟨q3, ?_⟩⟩
  · rw [pk_mod (by omega) (by decide) (by decide), nI_eq (by omega) (by decide)]
    rw [if_neg (fun q => absurd (e.symm.trans q) (by decide)), if_pos (show w = 0 from e)] at hK
    exact ⟨fun q => b_X11_game_106 (hK _ _ ⟨q3, by rw [if_pos q]⟩), fun q => b_X11_game_106 (hK _ _ ⟨q3, by rw [if_neg q]⟩)⟩
  · rw [if_neg (fun q => absurd (e.symm.trans q) (by decide)), if_neg (fun q => absurd (e.symm.trans q) (by decide))]
  · obtain ⟨d, hd, e9⟩ := in_t (by decide) hi
    rcases (show d = 0 ∨ d = 1 ∨ d = 2 by omega) with rfl | rfl | rfl
    · exact absurd e9 e1
    · exact absurd e9 e2
    · rw [if_pos e9]
theorem d_likely (hQ : bQ S g o V) (hV : V + 5000 < 2 ^ 30) (h n w : Int32) : ctI G 6 M_X11_likely false [.ref 0, .int h, .int n, .int w] lB S tl (fun v S' => bQ S' g o (V + 5000) ∧ v = A_likely g h n w) := by
  refine ctI.ab (fun K hK => m_X11_likely (fun n0 => u_hr hQ.1.1.2.2.2.1 h _ ?_))
  have q0 : bQ S g o (V + 5000) := bQ_m hQ (by omega)
  have p5 := hQ.1.1.2.1
  have p9 := hQ.1.1.1
  unfold A_likely at hK
  have hB : ¬ (hrK g.1.1 h = true ∧ inK n 0 9 = true ∧ inK w 0 1 = true) → L_X11_likely_27 G false n0 tl K S := fun q => b_X11_likely_27 (hK _ _ ⟨q0, by rw [if_neg q]⟩)
  rw [x_b0]
  refine ⟨fun z => hB (fun q => by rw [q.1] at z; cases z), fun z => ⟨fun y => hB (fun q => (of_decide_eq_true q.2.1).1 y), fun y => ⟨fun x => hB (fun q => (of_decide_eq_true q.2.1).2 x), fun x => ⟨fun t => hB (fun q => (of_decide_eq_true q.2.2).1 t), fun t => ⟨fun u => ?_, fun u => hB (fun q => u (Int32.not_lt.mp (of_decide_eq_true q.2.2).2))⟩⟩⟩⟩⟩
  have z := nf_t z
  have hi1 : inK n 0 9 = true := decide_eq_true ⟨y, x⟩
  have hi2 : inK w 0 1 = true := decide_eq_true ⟨t, Int32.not_lt.mpr u⟩
  rw [if_pos ⟨z, hi1, hi2⟩] at hK
  obtain ⟨j, hj5, rfl⟩ := hr_t p5 z
  obtain ⟨m, hm, rfl⟩ := in_t (by decide) hi1
  rw [show cl (nI m) = m from nI_clamp (by omega)] at hK
  have hb := sh_lt g (-(nI 2))
  have hb9 : bxG g < 512 := Nat.lt_of_lt_of_le hb (p2_9 p9)
  have e4 : ∀ X, bQ X g o (V + 1) → X.1 82 4 = nI (bxG g) := fun X q => q.2.2.2.1.2.2.2.2.2.1
  rw [e4 S (bQ_m hQ (by omega))]
  refine u_bitCount G false S tl _ hb9 _ ?_
  have hp := pop_le (bxG g) 9
  rw [nI_leI (by omega) (by omega)]
  refine ⟨fun s => ?_, fun s => hK _ _ ⟨q0, by rw [if_neg s]⟩⟩
  rw [if_pos s] at hK
  refine u_joinNow hQ (by omega) _ (fun S2 v q2 hv r2 f2 => ⟨(x_vp (by omega)).mpr (by omega), ?_⟩)
  rw [show (nI j).toNatClampNeg = j from nI_clamp (by omega), show S2.2.2.2.1 83 j = nI (shN g (nI j)) from q2.2.2.2.1.1 j (by omega), e4 S2 q2]
  refine ctI.tr e_CN e_CN_i e_CN_n (as' := [.ref 25, .int (nI (shN g (nI j))), .int (nI (bxG g)), .int (nI m)]) rfl (fun G' => u_stm (G := G') (S := cN S2) q2.1.1 r2 _ _ m (sh_lt g _) hb hm _ (fun T f r => ?_))
  have q3 := bQ_rt q2 f (by decide) rfl rfl rfl r hv
  generalize mgS e_CN S2 T = S3 at q3
  rw [e4 S3 q3]
  refine u_bitCount G false S3 tl _ hb9 _ (u_setsOf G S3 tl _ m (by omega) s _ ?_)
  obtain ⟨k1, k2⟩ := lkN_le (rwB g) (bxG g) (shN g (nI j)) m 512
  have k3 : (lkN (rwB g) (bxG g) (shN g (nI j)) m 512).2 = bnN (pop (bxG g) 9) m := lk_2 _ _ _ 9 (Nat.le_refl _) m
  have k4 := bn_pos (pop (bxG g) 9) m s
  rw [k3] at k1 k2 hK
  have k5 : 0 < Nat.gcd (bnN (pop (bxG g) 9) m) (lkN (rwB g) (bxG g) (shN g (nI j)) m 512).1 := Nat.gcd_pos_of_pos_left _ k4
  have k6 : Nat.gcd (bnN (pop (bxG g) 9) m) (lkN (rwB g) (bxG g) (shN g (nI j)) m 512).1 ≤ bnN (pop (bxG g) 9) m := Nat.gcd_le_left _ k4
  refine u_gcd G S3 tl _ _ (Nat.lt_of_le_of_lt k1 (by omega)) (by omega) _ ?_
  show (nI 1 ≤ nI (Nat.gcd (bnN (pop (bxG g) 9) m) (lkN (rwB g) (bxG g) (shN g (nI j)) m 512).1) → _) ∧ (¬ nI 1 ≤ nI (Nat.gcd (bnN (pop (bxG g) 9) m) (lkN (rwB g) (bxG g) (shN g (nI j)) m 512).1) → _)
  rw [nI_leI (by decide) (by omega)]
  refine ⟨fun _ => ?_, fun q => absurd k5 q⟩
  have k7 : ¬ nI (Nat.gcd (bnN (pop (bxG g) 9) m) (lkN (rwB g) (bxG g) (shN g (nI j)) m 512).1) = 0 := by
    rw [show (0 : Int32) = nI 0 from rfl, nI_eq (by omega) (by decide)]
    omega
  refine ⟨fun e => ⟨k7, b_X11_likely_127 (hK _ _ ⟨bQ_m q3 (by omega), ?_⟩)⟩, fun e => ⟨k7, b_X11_likely_127 (hK _ _ ⟨bQ_m q3 (by omega), ?_⟩)⟩⟩
  · rw [if_pos e]
    exact pk_div (show (lkN (rwB g) (bxG g) (shN g (nI j)) m 512).1 < 2 ^ 31 by omega) k5 (by omega)
  · rw [if_neg e]
    exact pk_div (by omega) k5 (by omega)
end LOOKS2

