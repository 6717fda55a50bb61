/-! ===== the program: signs, brackets, the end of a law ===== -/
section LAWR3
variable {G : ab_G} {fr : Bool} {tl : ab_H}
theorem u_isCmp {lay : List ms_D} {S : ms_S} {t : Nat} (h : t < 64) (K : Int32 → ms_S → Prop) (k : K (bI (decide (11 ≤ t ∧ t ≤ 16))) S) : ctI G 1 M_X5_isComparison fr [.int (nI t)] lay S tl K := by
  refine ctI.pu (v9 := bI (decide (11 ≤ t ∧ t ≤ 16))) (m_X5_isComparison (fun n0 => ?_)) k
  rw [nI_ltI (by omega) (by decide), nI_ltI (by decide) (by omega)]
  refine ⟨fun z => ?_, fun z => ⟨fun y => ?_, fun y => ?_⟩⟩
  · rw [decide_eq_false (by omega)]; rfl
  · rw [decide_eq_false (by omega)]; rfl
  · rw [decide_eq_true (by omega)]; rfl
theorem u_isSgn {lay : List ms_D} {S : ms_S} {t : Nat} (h : t < 64) (K : Int32 → ms_S → Prop) (k : K (bI (decide (8 ≤ t ∧ t ≤ 20 ∧ ¬ t = 10))) S) : ctI G 1 M_X5_isSign fr [.int (nI t)] lay S tl K := by
  refine ctI.pu (v9 := bI (decide (8 ≤ t ∧ t ≤ 20 ∧ ¬ t = 10))) (m_X5_isSign (fun n0 => ?_)) k
  rw [nI_ltI (by omega) (by decide), nI_ltI (by decide) (by omega), nI_eq (b := 10) (by omega) (by decide)]
  refine ⟨fun z => ?_, fun z => ⟨fun y => ?_, fun y => ⟨fun w => ?_, fun w => ?_⟩⟩⟩
  · rw [decide_eq_false (by omega)]; rfl
  · rw [decide_eq_false (by omega)]; rfl
  · rw [decide_eq_false (by omega)]; rfl
  · rw [decide_eq_true (by omega)]; rfl
theorem u_addSgn {S : ms_S} {u : tSU} {f : Nat} {b : Nat → Nat} {n i : Nat} (hJ : jLR S u) (hP : iPu f u) (hw : u.2.2.2.2.1 = false) (h0 : ¬ sgK b n i = 0) (K : Int32 → ms_S → Prop)
    (kE : ∀ e S', (e = 1 ∨ e = 2) → signS b n u i = .error (e, tkP b n i) → cF aQL S S' → K (nI e) S') (kO : ∀ S' u', signS b n u i = .ok (u', tkN b n i) → cF aQL S S' → jLR S' u' → K (nI 0) S') : ctI G 3 M_X5_addSign fr [.ref 3, .int (nI (tT b n i))] lLR S tl K := by
  obtain ⟨l1, l2, l3, l4, l5, l6⟩ := iPu_len hP
  obtain ⟨j1, j2, j3, cw, c1, c2, c3⟩ := id hJ
  obtain ⟨s1, s2⟩ := sgN_b b n i h0
  obtain ⟨r1, r2, r3, r4, r5, r6, r7, r8⟩ := rk_s s1 s2
  obtain ⟨q1, q2, q3, q4⟩ := tk_qB b n i
  have eT := q4 h0
  have h41 : isTk b n i 4 41 = false := by rw [is_41]; exact decide_eq_false (by omega)
  have eS : signS b n u i = (if (decide (rkN (sgK b n i) = 4) && c4 u.2.1) = true then .error (1, tkP b n i) else if u.2.2.2.1 = 64 then .error (2, tkP b n i)
      else .ok (((bdW (lsK (sgK b n i)) u.2.1 u.1).1, sgK b n i :: (bdW (lsK (sgK b n i)) u.2.1 u.1).2, u.2.2.1, u.2.2.2.1 + 1, true, decide (rkN (sgK b n i) < 3)), tkN b n i)) := by
    unfold signS
    rw [h41, if_neg (show ¬ (false && decide (0 < u.2.2.1)) = true from Bool.false_ne_true), if_neg h0]
    by_cases z : rkN (sgK b n i) = 4
    · rw [decide_eq_true z]
      show (if (true && hd4 (bdW (if rkN (sgK b n i) = 4 then 5 else rkN (sgK b n i)) u.2.1 u.1).2) = true then _ else _) = _
      rw [if_pos z, Bool.true_and, Bool.true_and, bd_h4 hP.2.2.1]
      show _ = if c4 u.2.1 = true then _ else if u.2.2.2.1 = 64 then _ else Except.ok (((bdW (if rkN (sgK b n i) = 4 then 5 else rkN (sgK b n i)) u.2.1 u.1).1, sgK b n i :: (bdW (if rkN (sgK b n i) = 4 then 5 else rkN (sgK b n i)) u.2.1 u.1).2, u.2.2.1, u.2.2.2.1 + 1, true, decide (rkN (sgK b n i) < 3)), tkN b n i)
      rw [if_pos z]
    · rw [decide_eq_false z, Bool.false_and, Bool.false_and]
  rw [eS] at kE kO
  clear eS
  rw [eT]
  generalize hs : sgK b n i = s at *
  have K71 : ∀ X cv, cF aQL S X → jLW X u.1 u.2.1 → X.1 3 3 = nI u.2.2.1 → X.1 3 5 = nI (64 - u.2.2.2.1) → cv < 512 → X.1 3 4 = nI cv → cmR cv (s :: (bdW (lsK s) u.2.1 u.1).2) u.2.2.1 → ¬ (decide (rkN s = 4) && c4 u.2.1) = true → ∀ n0, L_X5_addSign_71 G fr n0 tl K X (nI (wk s)) := by
    intro X cv x0 x1 x2 x3 x4 x5 x6 h4 n0
    rw [if_neg h4] at kO kE
    refine b_X5_addSign_71 ?_
    rw [x3, show (0 : Int32) = nI 0 from rfl, nI_eq (by omega) (by decide)]
    refine ⟨fun y => kE 2 X (Or.inr rfl) (if_pos (by omega)) x0, fun y => ?_⟩
    rw [pk_sub (by omega), show 64 - u.2.2.2.1 - 1 = 64 - (u.2.2.2.1 + 1) by omega]
    refine u_str s2 (by omega) _ ?_
    have eB : bdW (rkN s) u.2.1 u.1 = bdW (lsK s) u.2.1 u.1 := by
      unfold lsK
      by_cases z : rkN s = 4
      · rw [if_pos z, z]
        rw [decide_eq_true z, Bool.true_and] at h4
        refine bd_45 ?_
        cases w : c4 u.2.1 with
        | false => rfl
        | true => exact absurd w h4
      · rw [if_neg z]
    refine u_rel (S := sVa X 3 5 (nI (64 - (u.2.2.2.1 + 1)))) (ls := rkN s) (W := u.2.1) (q := u.1) r1 r2 hP.1.2.2.2.2.1 l3 (by omega) x1 _ (fun S1 t0 t1 t2 => ?_)
    rw [eB] at t2
    have hlen : (bdW (lsK s) u.2.1 u.1).2.length < 72 := by
      obtain ⟨-, -, g3, g4⟩ := bd_ix (ls := lsK s) (by unfold lsK; split <;> omega) (q := u.1) hP.1.2.2.2.2.1 (by have := hP.1.2.2.2.2.2; rw [hw, if_neg (by decide)] at this; exact this) hP.2.1
      have g5 := len_C (bdW (lsK s) u.2.1 u.1).2
      have g6 : zrC u.2.1 = u.2.2.1 := hP.1.2.2.1
      have g7 : f + u.1.1 + nzC u.2.1 = u.2.2.2.1 := hP.1.2.1
      omega
    refine u_pushW (q := (bdW (lsK s) u.2.1 u.1).1) (W := (bdW (lsK s) u.2.1 u.1).2) s hlen t2 _ (fun S' p0 p1 p2 => kO S' _ (if_neg (by omega)) ((x0.tr (cF.sVa rfl)).tr (t0.tr p0)) ⟨p2, ?_, ?_, cv, x4, ?_, x6⟩)
    · exact (p1 3 (by decide)).trans ((t1 3 (by decide)).trans x2)
    · exact (p1 5 (by decide)).trans ((t1 5 (by decide)).trans rfl)
    · exact (p1 4 (by decide)).trans ((t1 4 (by decide)).trans x5)
  refine m_X5_addSign (fun n0 => u_isCmp (wk_lt s2) _ ?_)
  have hw64 := wk_lt s2
  rw [x_b0, c2, j2, tb_u (by omega) (by omega), nI_eq (b := 9) (by omega) (by decide), nI_eq (b := 8) (by omega) (by decide)]
  have hdz : dz (s :: (bdW (lsK s) u.2.1 u.1).2) = dz u.2.1 := by
    show (if s = 0 then _ else dz _) = _
    rw [if_neg (by omega)]
    exact bd_dz (by unfold lsK; split <;> omega)
  have ho : nI 1 <<< (nI u.2.2.1 &&& 31) = nI (2 ^ u.2.2.1) := by rw [nu_shl (by omega) (by rw [Nat.one_mul]; exact Nat.pow_lt_pow_right (by decide) (by omega)), Nat.one_mul]
  refine ⟨fun z => ?_, fun z => ?_⟩
  · have z := of_decide_eq_false z
    have z4 : ¬ rkN s = 4 := fun w => z (r4.mp w)
    have h4 : ¬ (decide (rkN s = 4) && c4 u.2.1) = true := by rw [decide_eq_false z4]; exact Bool.false_ne_true
    have hls : lsK s = rkN s := if_neg z4
    have K54 : rkN s < 3 → L_X5_addSign_54 G fr n0 tl K S (nI (wk s)) := by
      intro hr
      refine b_X5_addSign_54 ?_
      rw [c2, j2, ho, nu_clr cw c1 _ (by omega)]
      obtain ⟨t1, t2⟩ := clr_t cw c1 u.2.2.1 (by omega)
      generalize (if cw.testBit u.2.2.1 = true then cw - 2 ^ u.2.2.1 else cw) = cv at t1 t2 ⊢
      refine K71 (sVa S 3 4 (nI cv)) cv (cF.sVa rfl) j1 j2 j3 t1 rfl (cmR_c (cw := cw) (W := u.2.1) ?_ hdz (fun i hi => ?_) c3) h4 n0
      · rw [t2 _ (by omega), if_pos rfl, c4_n (by omega) z4, hls]
        have g := bd_hdr (ls := rkN s) (W := u.2.1) (q := u.1) r1
        exact c4_no (bd_srt hP.2.2.1) (by omega)
      · rw [t2 i (by omega), if_neg (by omega)]
    have K71' : ¬ rkN s < 3 → L_X5_addSign_71 G fr n0 tl K S (nI (wk s)) := by
      intro hr
      refine K71 S cw cF.rf j1 j2 j3 c1 c2 (cmR_c (cw := cw) (W := u.2.1) ?_ hdz (fun _ _ => rfl) c3) h4 n0
      rw [c4_n (by omega) z4, hls, bd_c5 (by omega)]
      exact (cmR_t c3).symm
    exact ⟨fun y => K54 (r5.mpr (Or.inr y)), fun y => ⟨fun w => K54 (r5.mpr (Or.inl w)), fun w => K71' (fun q => by rcases r5.mp q with q | q; exact w q; exact y q)⟩⟩
  · have z := of_decide_eq_true (nf_t z)
    have z4 := r4.mpr z
    rw [decide_eq_true z4, Bool.true_and] at kE kO K71
    rw [cmR_t c3]
    refine ⟨fun y => kE 1 S (Or.inl rfl) (if_pos y) cF.rf, fun y => ?_⟩
    rw [ho, nu_or]
    have hb : cw ||| 2 ^ u.2.2.1 < 512 := Nat.or_lt_two_pow (n := 9) c1 (Nat.pow_lt_pow_right (by decide) (by omega))
    refine K71 (sVa S 3 4 (nI (cw ||| 2 ^ u.2.2.1))) _ (cF.sVa rfl) j1 j2 j3 hb rfl (cmR_c (cw := cw) (W := u.2.1) ?_ hdz (fun i hi => ?_) c3) y n0
    · rw [c4_y z4, Nat.testBit_or, Nat.testBit_two_pow_self, Bool.or_true]
    · rw [Nat.testBit_or, Nat.testBit_two_pow_of_ne (by omega), Bool.or_false]
theorem u_clsP {S : ms_S} {u : tSU} {f : Nat} (hJ : jLR S u) (hP : iPu f u) (ho : 0 < u.2.2.1) (K : Int32 → ms_S → Prop)
    (kO : ∀ S', cF aQL S S' → jLR S' ((bdW 1 u.2.1 u.1).1, (bdW 1 u.2.1 u.1).2.tail, u.2.2.1 - 1, u.2.2.2.1, u.2.2.2.2.1, u.2.2.2.2.2) → K (nI 0) S') : ctI G 3 M_X5_closeParenthesis fr [.ref 3] lLR S tl K := by
  obtain ⟨l1, l2, l3, l4, l5, l6⟩ := iPu_len hP
  obtain ⟨j1, j2, j3, cw, c1, c2, c3⟩ := id hJ
  refine m_X5_closeParenthesis (fun n0 => ?_)
  refine u_rel (ls := 1) (W := u.2.1) (q := u.1) (by decide) (by decide) hP.1.2.2.2.2.1 l3 (by omega) j1 _ (fun S1 t0 t1 t2 => ?_)
  obtain ⟨r, hr⟩ := bd_zr1 (q := u.1) hP.1.2.2.2.2.1 (by have := hP.1.2.2.1; omega)
  have htl := bd_tl (q := u.1) hP.1.2.2.2.2.1
  rw [hr] at htl t2 kO
  have htl : r = dz u.2.1 := htl
  obtain ⟨t2, t3, t4, t5, t6, t7⟩ := t2
  have t5 : S1.1 3 2 = nI (r.length + 1) := t5
  have hl : r.length + 1 ≤ 2000 := by
    have g5 : ∀ (W : List Nat) (q : tDQ), (bdW 1 W q).2.length ≤ W.length := by
      intro W
      induction W with
      | nil => intro q; exact Nat.le_refl _
      | cons k W ih =>
        intro q
        by_cases z : 1 ≤ rkN k
        · rw [bdW_y z]; exact Nat.le_trans (ih _) (Nat.le_succ _)
        · rw [bdW_n z]; exact Nat.le_refl _
    have := g5 u.2.1 u.1
    rw [hr] at this
    have : r.length + 1 ≤ u.2.1.length := this
    omega
  rw [t5, pk_sub (by omega), show r.length + 1 - 1 = r.length by omega, if_neg (fun w => Nat.not_lt_zero _ ((nI_ltI (by omega) (by decide)).mp w))]
  refine kO _ ((t0.tr (cF.sVa rfl)).tr (cF.sVa rfl)) ⟨⟨t2, t3, t4, rfl, t7⟩, ?_, ?_, cw, c1, ?_, ?_⟩
  · show S1.1 3 3 - nI 1 = _
    rw [t1 3 (by decide), j2, pk_sub (by omega)]
  · exact (t1 5 (by decide)).trans j3
  · exact (t1 4 (by decide)).trans c2
  · show cmR cw r (u.2.2.1 - 1)
    obtain ⟨o, e⟩ : ∃ o, u.2.2.1 = o + 1 := ⟨u.2.2.1 - 1, by omega⟩
    rw [e] at c3 ⊢
    rw [htl]
    exact c3.2
theorem u_finL {S : ms_S} {u : tSU} {f : Nat} (hJ : jLR S u) (hP : iPu f u) (hw : u.2.2.2.2.1 = false) (K : Int32 → ms_S → Prop) (kE : ¬ u.2.2.1 = 0 → K (nI 1) S)
    (kO : u.2.2.1 = 0 → ∀ S', cF aQL S S' → jLW S' (bdW 1 u.2.1 u.1).1 [] → vQ (bdW 1 u.2.1 u.1).1 → f + (bdW 1 u.2.1 u.1).1.1 = u.2.2.2.1 → K (nI 0) S') : ctI G 3 M_X5_finish fr [.ref 3] lLR S tl K := by
  obtain ⟨l1, l2, l3, l4, l5, l6⟩ := iPu_len hP
  obtain ⟨j1, j2, j3, cw, c1, c2, c3⟩ := id hJ
  refine m_X5_finish (fun n0 => ?_)
  rw [j2, show (0 : Int32) = nI 0 from rfl, nI_leI (by omega) (by decide)]
  refine ⟨fun z => ?_, fun z => kE (by omega)⟩
  have z0 : u.2.2.1 = 0 := by omega
  refine u_rel (ls := 1) (W := u.2.1) (q := u.1) (by decide) (by decide) hP.1.2.2.2.2.1 l3 (by omega) j1 _ (fun S1 t0 t1 t2 => ?_)
  obtain ⟨b1, b2, b3, b4⟩ := bd_ix (ls := 1) (by decide) (q := u.1) hP.1.2.2.2.2.1 (by have := hP.1.2.2.2.2.2; rw [hw, if_neg (by decide)] at this; exact this) hP.2.1
  have hz := bd_zr0 (q := u.1) hP.1.2.2.2.2.1 (by have := hP.1.2.2.1; omega)
  rw [hz] at t2 b1 b3
  have b1 : _ = 0 + 1 := b1
  have b3 : _ + 0 = _ := b3
  obtain ⟨x1, x2⟩ := ixF_one b1
  have g7 : f + u.1.1 + nzC u.2.1 = u.2.2.2.1 := hP.1.2.1
  exact kO z0 S1 t0 t2 ⟨x1, by omega, x2, b2⟩ (by omega)
end LAWR3

