/-! ===== the program: shares, need, seed and laws read ===== -/
theorem heldN_up {f : Nat → Int32} {p n : Nat} {x y : Int32} (hp : p < n) (hf : ¬ f p = y) : heldN (up f p x) y n = if x = y then heldN f y n ||| 2 ^ p else heldN f y n := by
  apply Nat.eq_of_testBit_eq
  intro j
  rw [heldN_tb]
  by_cases e : x = y
  · rw [if_pos e, Nat.testBit_or, heldN_tb]
    by_cases z : j = p
    · subst z
      rw [up_at, Nat.testBit_two_pow_self, decide_eq_true hp, decide_eq_true e, Bool.or_true]
      rfl
    · rw [up_no z, Nat.testBit_two_pow_of_ne (fun w => z w.symm), Bool.or_false]
  · rw [if_neg e, heldN_tb]
    by_cases z : j = p
    · subst z
      rw [up_at, decide_eq_false e, decide_eq_false hf]
    · rw [up_no z]
theorem n2_ne : ∀ k, k < 5 → ¬ -(nI 2) = nI k := by decide
theorem n2_lt : -(nI 2) < (0 : Int32) := by decide
theorem T29 : ∀ t, t < 29 → nI t - nI 29 < 0 := by decide
section LINES3
variable {G : ab_G} {tl : ab_H} {b : Nat → Nat} {n i : Nat} {S S0 : ms_S} {D : tDR}
theorem u_sharedD {fr : Bool} {T : ms_S} {np : Nat} {x : tDH} (h : bD2 T np x) (K : Int32 → ms_S → Prop) (k : K (nI (orH x.2.2 np x.1)) T) : ctI G 1 M_X7_sharedPieces fr [.ref 0] lPl T tl K := by
  obtain ⟨h1, h2, h3, h4, h5⟩ := h
  refine m_X7_sharedPieces (fun n0 => ?_)
  suffices KL : ∀ t j, j + t = x.1 → L_X7_sharedPieces_4 G fr n0 tl K T (nI (orH x.2.2 np j)) (nI j) from KL x.1 0 (Nat.zero_add _)
  intro t
  induction t with
  | zero =>
    intro j hj
    have hj : j = x.1 := hj
    subst hj
    refine b_X7_sharedPieces_4 ?_
    rw [h2]
    exact ⟨fun _ => k, fun z => absurd (Int32.le_refl _) z⟩
  | succ t ih =>
    intro j hj
    refine b_X7_sharedPieces_4 ?_
    rw [h2, nI_leI (by omega) (by omega), show (nI j).toNatClampNeg = j from nI_clamp (by omega), h4 j (by omega), nu_or, nI_add]
    exact ⟨fun z => absurd z (by omega), fun _ => ⟨(x_vp (by omega)).mpr (by omega), ih (j + 1) (by omega)⟩⟩
theorem u_rShare (h : vPl S0 b n D i S) (K : Int32 → ms_S → Prop)
    (kE : ∀ S' e p', 1 ≤ e → e ≤ 5 → pShare b n D i = .error (e, p') → rG S0 S' → S'.1 1 6 = nI p' → K (nI e) S')
    (kO : ∀ S' D' j, pShare b n D i = .ok (D', j) → vPl S0 b n D' j S' → K (nI 0) S') : ctI G 5 M_X8_readShare false [.ref 29] lB S tl K := by
  obtain ⟨z1, z2, d1, d2, d3, d4, d5, d6⟩ := h
  obtain ⟨g1, g2, g3, g4, g5⟩ := id d2
  obtain ⟨f1, f2, f3⟩ := id d1
  refine m_X8_readShare (fun n0 => ?_)
  refine u_toldH (g := D.2.1.2.1) z2 g1 g2 (fun j hj => g3 j hj) _ (fun S1 e p' he hE t0 e6 => ?_) (fun S1 hh hj hjk hfd t1 c1 => ?_)
  · refine ⟨fun z => ?_, fun _ => kE S1 e p' (by omega) (by omega) (by simp only [pShare, hE, bE_er]) (z1.tr (rG.tp t0)) e6⟩
    exfalso
    rcases he with rfl | rfl <;> exact absurd z (by decide)
  · refine ⟨fun _ => ?_, fun z => absurd rfl z⟩
    have e30 : S1.1 30 = S.1 30 := t1.1 30 (by decide)
    refine u_calledHB (g := D.2.1.2.1) g1 ((congrFun e30 13).trans g2) (fun k hk => by rw [show S1.2.2.2.1 35 = S.2.2.2.1 35 by rw [t1.2.2]]; exact g3 k hk) _ ?_
    rw [hfd]
    refine u_toldP (g := D.1.2.1) c1 f1 ((congrFun e30 12).trans f2) (fun k hk => by rw [show S1.2.2.2.1 31 = S.2.2.2.1 31 by rw [t1.2.2]]; exact (f3 k hk).1) _ (fun S2 e p' he hE t0 e6 => ?_) (fun S2 q hq hqk hfq t2 c2 => ?_)
    · refine ⟨fun z => ?_, fun _ => kE S2 e p' (by omega) (by omega) (by simp only [pShare, hj, bE_ok, hE, bE_er]) ((z1.tr (rG.tp t1)).tr (rG.tp t0)) e6⟩
      exfalso
      rcases he with rfl | rfl <;> exact absurd z (by decide)
    · refine ⟨fun _ => ?_, fun z => absurd rfl z⟩
      have t12 := t1.tr t2
      have e30b : S2.1 30 = S.1 30 := t12.1 30 (by decide)
      refine u_calledPB (g := D.1.2.1) f1 ((congrFun e30b 12).trans f2) (fun k hk => by rw [show S2.2.2.2.1 31 = S.2.2.2.1 31 by rw [t12.2.2]]; exact (f3 k hk).1) _ ?_
      rw [hfq]
      have d2b : bD2 (rsS e_PlD S2) D.1.1 D.2.1 := (bDr_tp ⟨d1, d2, d3, d4, d5, d6⟩ t12).2.1
      refine ctI.tr e_PlD e_PlD_i e_PlD_n (as' := [.ref 0]) rfl (fun G' => u_sharedD (G := G') (T := rsS e_PlD S2) d2b _ ?_)
      rw [mgS_rs]
      have hol := orH_lt D.2.1.2.2 D.1.1 D.2.1.1
      have h512 : orH D.2.1.2.2 D.1.1 D.2.1.1 < 2 ^ 32 := Nat.lt_of_lt_of_le hol (Nat.pow_le_pow_right (by decide) (by omega))
      rw [tb_u (by omega) h512, orH_tb _ _ _ _ (by omega)]
      have r2 : rG S0 S2 := z1.tr (rG.tp t12)
      refine ⟨fun z => ?_, fun z => ?_⟩
      · refine kE S2 3 (tkP b n (tkN b n (tkN b n i))) (by decide) (by decide) ?_ r2 c2.2.1.2.1
        have : ¬ D.2.1.2.2 q < 0 := by
          obtain ⟨-, j, j1, j2⟩ := z
          rw [j2, show (0 : Int32) = nI 0 from rfl, nI_ltI (by omega) (by decide)]
          exact Nat.not_lt_zero _
        simp only [pShare, hj, bE_ok, hq, if_neg this]
      · have hq2 : D.2.1.2.2 q = -(nI 2) := by
          rcases g5 q (by omega) with w | ⟨j, j1, j2, j3⟩
          · exact w
          · exact absurd ⟨hqk, j, j1, j3⟩ z
        rw [show (0 : Int32) = nI 0 from rfl, nI_ltI (by omega) (by decide), nI_leI (by decide) (by omega), show (nI hh).toNatClampNeg = hh from nI_clamp (by omega)]
        have hv : vp_in (nI hh) 5 := (x_vp (by omega)).mpr (by omega)
        refine ⟨fun w => absurd w (Nat.not_lt_zero _), fun _ => ⟨fun w => absurd w (by omega), fun _ => ⟨hv, hv, b_X8_readShare_93 ?_⟩⟩⟩
        have e36 : S2.2.2.2.1 36 hh = nI (heldN D.2.1.2.2 (nI hh) D.1.1) := d2b.2.2.2.1 hh (by omega)
        rw [e36, show nI 1 <<< (nI q &&& 31) = nI (2 ^ q) from by rw [nu_shl (by omega) (by rw [Nat.one_mul]; exact Nat.pow_lt_pow_right (by decide) (by omega)), Nat.one_mul], nu_or]
        refine u_nxtT (S := sA S2 36 hh (nI (heldN D.2.1.2.2 (nI hh) D.1.1 ||| 2 ^ q))) (atT_F c2 rfl rfl rfl) _ (fun S5 t5 c5 => kO S5 _ _ (by simp only [pShare, hj, bE_ok, hq, if_pos (show D.2.1.2.2 q < 0 by rw [hq2]; exact n2_lt)]; rfl) ⟨((r2.tr (rG.sA rfl)).tr (rG.tp t5)), c5, ?_⟩)
        have eF : ∀ a k, ¬ a = 1 → ¬ (a = 30 ∧ k = 99) → S5.1 a k = S.1 a k := fun a k h1 _ => (congrFun (t5.1 a h1) k).trans (congrFun (t12.1 a h1) k)
        have eA : S5.2.2.2.1 = u1 S.2.2.2.1 36 (upd (S.2.2.2.1 36) hh (nI (heldN D.2.1.2.2 (nI hh) D.1.1 ||| 2 ^ q))) := by
          rw [t5.2.2]
          show u1 S2.2.2.2.1 36 (upd (S2.2.2.2.1 36) hh _) = _
          rw [t12.2.2]
        have eA' : ∀ a, ¬ a = 36 → S5.2.2.2.1 a = S.2.2.2.1 a := by
          intro a h1
          rw [eA, u1_ne h1]
        refine ⟨bD1_F d1 (eF 30 12 (by decide) (by decide)) (fun a h1 h2 => ?_), ⟨g1, (eF 30 13 (by decide) (by decide)).trans g2, fun k hk => ?_, fun k hk => ?_, fun c hc => ?_⟩, bD3_F d3 (eF 30 14 (by decide) (by decide)) (eA' 37 (by decide)) (eA' 38 (by decide)) (eA' 39 (by decide)), bD4_F d4 (eF 30 15 (by decide) (by decide)) (eA' 40 (by decide)) (eA' 41 (by decide)), bD5_F d5 (eF 30 16 (by decide) (by decide)) (eF 30 17 (by decide) (by decide)), bDr_W 0 99 (fun a => Nat.beq a 36) eF (fun a q => eA' a (fun z => by rw [z] at q; cases q)) (fun a q => bq_ne (by omega)) _ d6⟩
        · rcases (show a = 1 ∨ a = 2 ∨ a = 3 ∨ a = 4 by omega) with rfl | rfl | rfl | rfl
          · exact eA' 31 (by decide)
          · exact eA' 32 (by decide)
          · exact eA' 33 (by decide)
          · exact eA' 34 (by decide)
        · show S5.2.2.2.1 35 k = _
          rw [eA' 35 (by decide)]
          exact g3 k hk
        · show S5.2.2.2.1 36 k = nI (heldN (up D.2.1.2.2 q (nI hh)) (nI k) D.1.1)
          rw [eA, heldN_up hqk (by rw [hq2]; exact n2_ne k hk)]
          show upd (S.2.2.2.1 36) hh _ k = _
          by_cases z : k = hh
          · subst z
            rw [pk_us, if_pos rfl]
          · rw [pk_un z, if_neg (fun w => z ((nI_eq (by omega) (by omega)).mp w).symm)]
            exact g4 k hk
        · show up D.2.1.2.2 q (nI hh) c = _ ∨ _
          by_cases z : c = q
          · subst z
            exact Or.inr ⟨hh, hjk, hqk, up_at⟩
          · rcases g5 c hc with w | ⟨j, j1, j2, j3⟩
            · exact Or.inl (by rw [up_no z]; exact w)
            · exact Or.inr ⟨j, j1, j2, by show up D.2.1.2.2 q (nI hh) c = _; rw [up_no z]; exact j3⟩
theorem u_rNeed (h : vPl S0 b n D i S) (K : Int32 → ms_S → Prop)
    (kE : ∀ S' e p', 1 ≤ e → e ≤ 5 → pOnce b n D 0 1 9 i = .error (e, p') → rG S0 S' → S'.1 1 6 = nI p' → K (nI e) S')
    (kO : ∀ S' D' j, pOnce b n D 0 1 9 i = .ok (D', j) → vPl S0 b n D' j S' → K (nI 0) S') : ctI G 4 M_X8_readNeed false [.ref 29] lB S tl K := by
  obtain ⟨z1, z2, d1, d2, d3, d4, d5, d6⟩ := h
  obtain ⟨g1, g2, g3, g4⟩ := id d5
  have g1 : S.1 30 16 = nI (D.2.2.2.2.1.1.getD 0) := g1
  refine m_X8_readNeed (fun n0 => ?_)
  have hb9 : D.2.2.2.2.1.1.getD 0 ≤ 9 := by
    cases y : D.2.2.2.2.1.1 with
    | none => exact Nat.zero_le _
    | some v => exact (g2 v y).2
  rw [g1, show (0 : Int32) = nI 0 from rfl, nI_eq (by omega) (by decide)]
  cases y : D.2.2.2.2.1.1 with
  | some v =>
    refine ⟨fun q => absurd q (by have := (g2 v y).1; show ¬ v = 0; omega), fun _ => kE S 3 _ (by decide) (by decide) (by unfold pOnce; rw [if_pos rfl, y]; rfl) z1 z2.2.1.2.1⟩
  | none =>
    have e0 : pOnce b n D 0 1 9 i = bE (pNum b n 1 9 (tkN b n i)) (fun v => .ok ((D.1, D.2.1, D.2.2.1, D.2.2.2.1, (some v.1, D.2.2.2.2.1.2), D.2.2.2.2.2), v.2)) := by
      unfold pOnce
      rw [if_pos rfl, y]
      rfl
    refine ⟨fun _ => u_nxtT z2 _ (fun S1 t1 c1 => ?_), fun q => absurd rfl q⟩
    obtain ⟨a1, a2, a3, a4, a5, a6⟩ := tk_qA b n (tkN b n i)
    have e5 : S1.1 1 5 = nI (tT b n (tkN b n i)) := c1.2.1.1
    have e6 : S1.1 1 6 = nI (tkP b n (tkN b n i)) := c1.2.1.2.1
    rw [e5, nI_eq (b := 36) (by omega) (by decide)]
    refine ⟨fun z => ?_, fun z => kE S1 1 (tkP b n (tkN b n i)) (by decide) (by decide) (by rw [e0]; unfold pNum; rw [if_neg (fun q => z (a6.mp q)), bE_er]) (z1.tr (rG.tp t1)) e6⟩
    obtain ⟨v, v1, v2, v3⟩ := c1.2.1.2.2.2.2 (a6.mpr z)
    have v1 : S1.1 1 7 = nI v := v1
    have v3 : v = tkW b n (tkN b n i) ∨ (99999 < v ∧ 99999 < tkW b n (tkN b n i)) := v3
    have K56 : ¬ (1 ≤ tkW b n (tkN b n i) ∧ tkW b n (tkN b n i) ≤ 9) → L_X8_readNeed_56 G false n0 tl K S1 := fun q => b_X8_readNeed_56 (kE S1 2 (tkP b n (tkN b n i)) (by decide) (by decide) (by rw [e0]; unfold pNum; rw [if_pos (a6.mpr z), if_neg q, bE_er]) (z1.tr (rG.tp t1)) e6)
    rw [v1, nI_ltI (by omega) (by decide), nI_leI (by omega) (by decide)]
    refine ⟨fun q => K56 (by omega), fun q => ⟨fun q2 => ?_, fun q2 => K56 (by omega)⟩⟩
    refine u_nxtT (S := sVa S1 30 16 (nI v)) (atT_F c1 rfl rfl rfl) _ (fun S5 t5 c5 => kO S5 (D.1, D.2.1, D.2.2.1, D.2.2.2.1, (some v, D.2.2.2.2.1.2), D.2.2.2.2.2) _ (by rw [e0]; unfold pNum; rw [if_pos (a6.mpr z), if_pos ⟨by omega, by omega⟩, bE_ok, show tkW b n (tkN b n i) = v by omega]) ⟨(((z1.tr (rG.tp t1)).tr (rG.sVa rfl (by decide))).tr (rG.tp t5)), c5, ?_⟩)
    have eF : ∀ a k, ¬ a = 1 → ¬ (a = 30 ∧ k = 16) → S5.1 a k = S.1 a k := by
      intro a k h1 h2
      rw [t5.1 a h1]
      show u2 S1.1 30 16 _ a k = _
      rw [u2_ne (by omega), congrFun (t1.1 a h1) k]
    have eA : ∀ a, S5.2.2.2.1 a = S.2.2.2.1 a := by
      intro a
      rw [t5.2.2]
      show S1.2.2.2.1 a = _
      rw [t1.2.2]
    have e16 : S5.1 30 16 = nI v := by rw [t5.1 30 (by decide)]; rfl
    exact ⟨bD1_F d1 (eF 30 12 (by decide) (by decide)) (fun a _ _ => eA _), bD2_F d2 (eF 30 13 (by decide) (by decide)) (eA 35) (eA 36), bD3_F d3 (eF 30 14 (by decide) (by decide)) (eA 37) (eA 38) (eA 39), bD4_F d4 (eF 30 15 (by decide) (by decide)) (eA 40) (eA 41), ⟨e16, fun w hw => by cases hw; omega, (eF 30 17 (by decide) (by decide)).trans g3, g4⟩, bDr_W 0 16 (fun _ => false) eF (fun a _ => eA a) (fun _ _ => rfl) _ d6⟩
theorem u_rSeed (h : vPl S0 b n D i S) (K : Int32 → ms_S → Prop)
    (kE : ∀ S' e p', 1 ≤ e → e ≤ 5 → pOnce b n D 1 0 99999 i = .error (e, p') → rG S0 S' → S'.1 1 6 = nI p' → K (nI e) S')
    (kO : ∀ S' D' j, pOnce b n D 1 0 99999 i = .ok (D', j) → vPl S0 b n D' j S' → K (nI 0) S') : ctI G 4 M_X8_readSeed false [.ref 29] lB S tl K := by
  obtain ⟨z1, z2, d1, d2, d3, d4, d5, d6⟩ := h
  obtain ⟨g1, g2, g3, g4⟩ := id d5
  have g3 : S.1 30 17 = sdI D.2.2.2.2.1.2 := g3
  refine m_X8_readSeed (fun n0 => ?_)
  rw [g3]
  cases y : D.2.2.2.2.1.2 with
  | some v =>
    have hv := g4 v y
    refine ⟨fun q => ?_, fun _ => kE S 3 _ (by decide) (by decide) (by unfold pOnce; rw [if_neg (show ¬ (1 : Nat) = 0 by decide), y]; rfl) z1 z2.2.1.2.1⟩
    exfalso
    have g : (0 : Int32) ≤ nI v := by
      rw [show (0 : Int32) = nI 0 from rfl, nI_leI (by decide) (by omega)]
      exact Nat.zero_le _
    rw [show nI v = -(nI 1) from q] at g
    exact absurd g (by decide)
  | none =>
    have e0 : pOnce b n D 1 0 99999 i = bE (pNum b n 0 99999 (tkN b n i)) (fun v => .ok ((D.1, D.2.1, D.2.2.1, D.2.2.2.1, (D.2.2.2.2.1.1, some v.1), D.2.2.2.2.2), v.2)) := by
      unfold pOnce
      rw [if_neg (show ¬ (1 : Nat) = 0 by decide), y]
      rfl
    refine ⟨fun _ => u_nxtT z2 _ (fun S1 t1 c1 => ?_), fun q => absurd rfl q⟩
    obtain ⟨a1, a2, a3, a4, a5, a6⟩ := tk_qA b n (tkN b n i)
    have e5 : S1.1 1 5 = nI (tT b n (tkN b n i)) := c1.2.1.1
    have e6 : S1.1 1 6 = nI (tkP b n (tkN b n i)) := c1.2.1.2.1
    rw [e5, nI_eq (b := 36) (by omega) (by decide)]
    refine ⟨fun z => ?_, fun z => kE S1 1 (tkP b n (tkN b n i)) (by decide) (by decide) (by rw [e0]; unfold pNum; rw [if_neg (fun q => z (a6.mp q)), bE_er]) (z1.tr (rG.tp t1)) e6⟩
    obtain ⟨v, v1, v2, v3⟩ := c1.2.1.2.2.2.2 (a6.mpr z)
    have v1 : S1.1 1 7 = nI v := v1
    have v3 : v = tkW b n (tkN b n i) ∨ (99999 < v ∧ 99999 < tkW b n (tkN b n i)) := v3
    rw [v1, show (99999 : Int32) = nI 99999 from rfl, nI_leI (by omega) (by decide)]
    refine ⟨fun q2 => ?_, fun q2 => kE S1 2 (tkP b n (tkN b n i)) (by decide) (by decide) (by rw [e0]; unfold pNum; rw [if_pos (a6.mpr z), if_neg (fun w => by omega), bE_er]) (z1.tr (rG.tp t1)) e6⟩
    refine u_nxtT (S := sVa S1 30 17 (nI v)) (atT_F c1 rfl rfl rfl) _ (fun S5 t5 c5 => kO S5 (D.1, D.2.1, D.2.2.1, D.2.2.2.1, (D.2.2.2.2.1.1, some v), D.2.2.2.2.2) _ (by rw [e0]; unfold pNum; rw [if_pos (a6.mpr z), if_pos ⟨by omega, by omega⟩, bE_ok, show tkW b n (tkN b n i) = v by omega]) ⟨(((z1.tr (rG.tp t1)).tr (rG.sVa rfl (by decide))).tr (rG.tp t5)), c5, ?_⟩)
    have eF : ∀ a k, ¬ a = 1 → ¬ (a = 30 ∧ k = 17) → S5.1 a k = S.1 a k := by
      intro a k h1 h2
      rw [t5.1 a h1]
      show u2 S1.1 30 17 _ a k = _
      rw [u2_ne (by omega), congrFun (t1.1 a h1) k]
    have eA : ∀ a, S5.2.2.2.1 a = S.2.2.2.1 a := by
      intro a
      rw [t5.2.2]
      show S1.2.2.2.1 a = _
      rw [t1.2.2]
    have e17 : S5.1 30 17 = nI v := by rw [t5.1 30 (by decide)]; rfl
    exact ⟨bD1_F d1 (eF 30 12 (by decide) (by decide)) (fun a _ _ => eA _), bD2_F d2 (eF 30 13 (by decide) (by decide)) (eA 35) (eA 36), bD3_F d3 (eF 30 14 (by decide) (by decide)) (eA 37) (eA 38) (eA 39), bD4_F d4 (eF 30 15 (by decide) (by decide)) (eA 40) (eA 41), ⟨(eF 30 16 (by decide) (by decide)).trans g1, g2, e17, fun w hw => by cases hw; omega⟩, bDr_W 0 17 (fun _ => false) eF (fun a _ => eA a) (fun _ _ => rfl) _ d6⟩
end LINES3

