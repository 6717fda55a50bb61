/-! ===== the program: heirs, shares, trades, draws, need and seed ===== -/
theorem bDr_W {S S' : ms_S} (c f : Nat) (A : Nat → Bool) (hF : ∀ a k, ¬ a = 1 → ¬ (a = 30 ∧ k = f) → S'.1 a k = S.1 a k) (hA : ∀ a, A a = false → S'.2.2.2.1 a = S.2.2.2.1 a) (h43 : ∀ a, 42 < a → A a = false) (x : tDL) (h : bD6 (rsS e_PlD S) x) : bD6 (rsS e_PlD S') x :=
  bD6_F h (fun a h1 h2 => funext fun k => hF _ k (ePl_t a h2 h1).1 (fun w => (ePl_t a h2 h1).2.1 w.1)) (fun a h1 h2 => hA _ (h43 _ (ePl_t a h2 h1).2.2))
section LINES2
variable {G : ab_G} {tl : ab_H} {b : Nat → Nat} {n i : Nat} {S S0 : ms_S} {D : tDR}
theorem u_rHeir (h : vPl S0 b n D i S) (K : Int32 → ms_S → Prop)
    (kE : ∀ S' e p', 1 ≤ e → e ≤ 5 → pHeir b n D i = .error (e, p') → rG S0 S' → S'.1 1 6 = nI p' → K (nI e) S')
    (kO : ∀ S' D' j, pHeir b n D i = .ok (D', j) → vPl S0 b n D' j S' → K (nI 0) S') : ctI G 5 M_X8_readHeir false [.ref 29] lB S tl K := by
  obtain ⟨z1, z2, d1, d2, d3, d4, d5, d6⟩ := h
  obtain ⟨g1, g2, g3, g4, g5⟩ := id d2
  have q2 : S.1 30 13 = nI D.2.1.1 := g2
  refine m_X8_readHeir (fun n0 => ?_)
  rw [q2, nI_ltI (by omega) (by decide)]
  refine ⟨fun h9 => ?_, fun h9 => kE S 2 _ (by decide) (by decide) (by unfold pHeir; rw [if_pos (by omega)]) z1 z2.2.1.2.1⟩
  have h9' : ¬ D.2.1.1 = 5 := by omega
  refine u_newNH (g := D.2.1.2.1) z2 h9 q2 (fun j hj => g3 j hj) _ (fun S1 e p' he hE t0 e6 => ?_) (fun S1 v hv t1 c1 => ?_)
  · refine ⟨fun z => ?_, fun _ => b_X8_readHeir_53 (kE S1 e p' (by omega) (by omega) (by simp only [pHeir, if_neg h9', hE, bE_er]) (z1.tr (rG.tp t0)) e6)⟩
    exfalso
    rcases he with rfl | rfl <;> exact absurd z (by decide)
  · refine ⟨fun _ => ?_, fun z => absurd rfl z⟩
    have e30 : S1.1 30 = S.1 30 := t1.1 30 (by decide)
    show ctU G 3 M_X10_advance false [.ref 1] lB (sVa (sA S1 35 D.2.1.1 (nI v)) 30 13 (S1.1 30 13 + nI 1)) tl _
    rw [congrFun e30 13, q2, nI_add]
    refine u_nxtT (S := sVa (sA S1 35 D.2.1.1 (nI v)) 30 13 (nI (D.2.1.1 + 1))) (atT_F c1 rfl rfl rfl) _ (fun S5 t5 c5 => b_X8_readHeir_53 (kO S5 _ _ (by simp only [pHeir, if_neg h9', hv, bE_ok]; rfl) ⟨((((z1.tr (rG.tp t1)).tr (rG.sA rfl)).tr (rG.sVa rfl (by decide))).tr (rG.tp t5)), c5, ?_⟩))
    have eA : S5.2.2.2.1 = u1 S.2.2.2.1 35 (upd (S.2.2.2.1 35) D.2.1.1 (nI v)) := by
      rw [t5.2.2]
      show u1 S1.2.2.2.1 35 (upd (S1.2.2.2.1 35) D.2.1.1 (nI v)) = _
      rw [t1.2.2]
    have eF : ∀ a k, ¬ a = 1 → ¬ (a = 30 ∧ k = 13) → S5.1 a k = S.1 a k := by
      intro a k h1 h2
      rw [t5.1 a h1]
      show u2 S1.1 30 13 _ a k = _
      rw [u2_ne (by omega), congrFun (t1.1 a h1) k]
    have eA' : ∀ a, ¬ a = 35 → S5.2.2.2.1 a = S.2.2.2.1 a := by
      intro a h1
      rw [eA, u1_ne h1]
    have e13 : S5.1 30 13 = nI (D.2.1.1 + 1) := by rw [t5.1 30 (by decide)]; rfl
    refine ⟨bD1_F d1 (eF 30 12 (by decide) (by decide)) (fun a h1 h2 => ?_), ⟨by show D.2.1.1 + 1 ≤ 5; omega, e13, fun k hk => ?_, fun k hk => ?_, fun c hc => ?_⟩, bD3_F d3 (eF 30 14 (by decide) (by decide)) (eA' 37 (by decide)) (eA' 38 (by decide)) (eA' 39 (by decide)), bD4_m (bD4_F d4 (eF 30 15 (by decide) (by decide)) (eA' 40 (by decide)) (eA' 41 (by decide))), bD5_F d5 (eF 30 16 (by decide) (by decide)) (eF 30 17 (by decide) (by decide)), bDr_W 0 13 (fun a => Nat.beq a 35) eF (fun a q => eA' a (fun z => by rw [z] at q; cases q)) (fun a q => bq_ne (by omega)) _ d6⟩
    · rcases (show a = 1 ∨ a = 2 ∨ a = 3 ∨ a = 4 by omega) with rfl | rfl | rfl | rfl
      · exact eA' 31 (by decide)
      · exact eA' 32 (by decide)
      · exact eA' 33 (by decide)
      · exact eA' 34 (by decide)
    · show S5.2.2.2.1 35 k = up D.2.1.2.1 D.2.1.1 (nI v) k
      rw [eA]
      show upd (S.2.2.2.1 35) D.2.1.1 (nI v) k = _
      by_cases z : k = D.2.1.1
      · subst z
        rw [pk_us, up_at]
      · rw [pk_un z, up_no z]
        exact g3 k (by have : k < D.2.1.1 + 1 := hk; omega)
    · show S5.2.2.2.1 36 k = _
      rw [eA' 36 (by decide)]
      exact g4 k hk
    · rcases g5 c hc with w | ⟨hh, w1, w2, w3⟩
      · exact Or.inl w
      · exact Or.inr ⟨hh, by show hh < D.2.1.1 + 1; omega, w2, w3⟩
theorem u_rDraw (h : vPl S0 b n D i S) (K : Int32 → ms_S → Prop)
    (kE : ∀ S' e p', 1 ≤ e → e ≤ 5 → pDraw b n D i = .error (e, p') → rG S0 S' → S'.1 1 6 = nI p' → K (nI e) S')
    (kO : ∀ S' D' j, pDraw b n D i = .ok (D', j) → vPl S0 b n D' j S' → K (nI 0) S') : ctI G 5 M_X8_readDraw false [.ref 29] lB S tl K := by
  obtain ⟨z1, z2, d1, d2, d3, d4, d5, d6⟩ := h
  obtain ⟨g1, g2, g3, g4, g5⟩ := id d2
  obtain ⟨f1, f2, f3⟩ := id d4
  have q2 : S.1 30 15 = nI D.2.2.2.1.1 := f2
  refine m_X8_readDraw (fun n0 => ?_)
  rw [q2, nI_ltI (by omega) (by decide), show (nI D.2.2.2.1.1).toNatClampNeg = D.2.2.2.1.1 from nI_clamp (by omega)]
  refine ⟨fun h9 => ?_, fun h9 => kE S 2 _ (by decide) (by decide) (by unfold pDraw; rw [if_pos (by omega)]) z1 z2.2.1.2.1⟩
  have h9' : ¬ D.2.2.2.1.1 = 10 := by omega
  refine u_toldH (g := D.2.1.2.1) z2 g1 g2 (fun j hj => g3 j hj) _ (fun S1 e p' he hE t0 e6 => ?_) (fun S1 j hj hjk hfd t1 c1 => ?_)
  · refine ⟨fun z => ?_, fun _ => kE S1 e p' (by omega) (by omega) (by simp only [pDraw, if_neg h9', hE, bE_er]) (z1.tr (rG.tp t0)) e6⟩
    exfalso
    rcases he with rfl | rfl <;> exact absurd z (by decide)
  · refine ⟨fun _ => ?_, fun z => absurd rfl z⟩
    have e30 : S1.1 30 = S.1 30 := t1.1 30 (by decide)
    refine u_calledHB (g := D.2.1.2.1) g1 ((congrFun e30 13).trans g2) (fun k hk => by rw [show S1.2.2.2.1 35 = S.2.2.2.1 35 by rw [t1.2.2]]; exact g3 k hk) _ ⟨(x_vp (by omega)).mpr h9, ?_⟩
    rw [hfd]
    refine u_numD (S := sA S1 40 D.2.2.2.1.1 (nI j)) (atT_F c1 rfl rfl rfl) h9 (by decide) _ (fun S2 e p' he hE t0 e6 => ?_) (fun S2 x hx hx6 t2 c2 => ?_)
    · refine ⟨fun z => ?_, fun _ => b_X8_readDraw_89 (kE S2 e p' (by omega) (by omega) (by simp only [pDraw, if_neg h9', hj, bE_ok, hE, bE_er]) (((z1.tr (rG.tp t1)).tr (rG.sA rfl)).tr (rG.tp t0)) e6)⟩
      exfalso
      rcases he with rfl | rfl <;> exact absurd z (by decide)
    · refine ⟨fun _ => ?_, fun z => absurd rfl z⟩
      show ctU G 3 M_X10_advance false [.ref 1] lB (sVa (sA S2 41 D.2.2.2.1.1 (nI x)) 30 15 (S2.1 30 15 + nI 1)) tl _
      rw [show S2.1 30 15 = nI D.2.2.2.1.1 from (congrFun (t2.1 30 (by decide)) 15).trans ((congrFun e30 15).trans q2), nI_add]
      refine u_nxtT (S := sVa (sA S2 41 D.2.2.2.1.1 (nI x)) 30 15 (nI (D.2.2.2.1.1 + 1))) (atT_F c2 rfl rfl rfl) _ (fun S5 t5 c5 => b_X8_readDraw_89 (kO S5 _ _ (by simp only [pDraw, if_neg h9', hj, bE_ok, hx]; rfl) ⟨((((((z1.tr (rG.tp t1)).tr (rG.sA rfl)).tr (rG.tp t2)).tr (rG.sA rfl)).tr (rG.sVa rfl (by decide))).tr (rG.tp t5)), c5, ?_⟩))
      have eA : S5.2.2.2.1 = u1 (u1 S.2.2.2.1 40 (upd (S.2.2.2.1 40) D.2.2.2.1.1 (nI j))) 41 (upd (S.2.2.2.1 41) D.2.2.2.1.1 (nI x)) := by
        rw [t5.2.2]
        show u1 S2.2.2.2.1 41 (upd (S2.2.2.2.1 41) D.2.2.2.1.1 (nI x)) = _
        rw [t2.2.2]
        show u1 (u1 S1.2.2.2.1 40 (upd (S1.2.2.2.1 40) D.2.2.2.1.1 (nI j))) 41 (upd (S1.2.2.2.1 41) D.2.2.2.1.1 (nI x)) = _
        rw [t1.2.2]
      have eF : ∀ a k, ¬ a = 1 → ¬ (a = 30 ∧ k = 15) → S5.1 a k = S.1 a k := by
        intro a k h1 h2
        rw [t5.1 a h1]
        show u2 S2.1 30 15 _ a k = _
        rw [u2_ne (by omega), congrFun (t2.1 a h1) k]
        exact congrFun (t1.1 a h1) k
      have eA' : ∀ a, ¬ a = 40 → ¬ a = 41 → S5.2.2.2.1 a = S.2.2.2.1 a := by
        intro a h1 h2
        rw [eA, u1_ne h2, u1_ne h1]
      have e15 : S5.1 30 15 = nI (D.2.2.2.1.1 + 1) := by rw [t5.1 30 (by decide)]; rfl
      refine ⟨bD1_F d1 (eF 30 12 (by decide) (by decide)) (fun a h1 h2 => ?_), bD2_F d2 (eF 30 13 (by decide) (by decide)) (eA' 35 (by decide) (by decide)) (eA' 36 (by decide) (by decide)), bD3_F d3 (eF 30 14 (by decide) (by decide)) (eA' 37 (by decide) (by decide)) (eA' 38 (by decide) (by decide)) (eA' 39 (by decide) (by decide)), ⟨by show D.2.2.2.1.1 + 1 ≤ 10; omega, e15, fun k hk => ?_⟩, bD5_F d5 (eF 30 16 (by decide) (by decide)) (eF 30 17 (by decide) (by decide)), bDr_W 0 15 (fun a => Nat.beq a 40 || Nat.beq a 41) eF (fun a q => eA' a (fun z => by rw [z] at q; cases q) (fun z => by rw [z] at q; cases q)) (fun a q => by show (Nat.beq a 40 || Nat.beq a 41) = false; rw [bq_ne (show ¬ a = 40 by omega), bq_ne (show ¬ a = 41 by omega)]; rfl) _ d6⟩
      · rcases (show a = 1 ∨ a = 2 ∨ a = 3 ∨ a = 4 by omega) with rfl | rfl | rfl | rfl
        · exact eA' 31 (by decide) (by decide)
        · exact eA' 32 (by decide) (by decide)
        · exact eA' 33 (by decide) (by decide)
        · exact eA' 34 (by decide) (by decide)
      · show S5.2.2.2.1 40 k = nI (up D.2.2.2.1.2.1 D.2.2.2.1.1 j k) ∧ up D.2.2.2.1.2.1 D.2.2.2.1.1 j k < _ ∧ S5.2.2.2.1 41 k = nI (up D.2.2.2.1.2.2 D.2.2.2.1.1 x k) ∧ up D.2.2.2.1.2.2 D.2.2.2.1.1 x k ≤ 99
        rw [eA]
        show upd (S.2.2.2.1 40) D.2.2.2.1.1 (nI j) k = _ ∧ _ ∧ upd (S.2.2.2.1 41) D.2.2.2.1.1 (nI x) k = _ ∧ _
        by_cases z : k = D.2.2.2.1.1
        · subst z
          simp only [pk_us, up_at]
          exact ⟨trivial, hjk, trivial, hx6⟩
        · simp only [pk_un z, up_no z]
          exact f3 k (by have : k < D.2.2.2.1.1 + 1 := hk; omega)
theorem u_rTrade (h : vPl S0 b n D i S) (K : Int32 → ms_S → Prop)
    (kE : ∀ S' e p', 1 ≤ e → e ≤ 5 → pTrade b n D i = .error (e, p') → rG S0 S' → S'.1 1 6 = nI p' → K (nI e) S')
    (kO : ∀ S' D' j, pTrade b n D i = .ok (D', j) → vPl S0 b n D' j S' → K (nI 0) S') : ctI G 5 M_X8_readTrade false [.ref 29] lB S tl K := by
  obtain ⟨z1, z2, d1, d2, d3, d4, d5, d6⟩ := h
  obtain ⟨g1, g2, g3⟩ := id d1
  obtain ⟨f1, f2, f3⟩ := id d3
  have q2 : S.1 30 14 = nI D.2.2.1.1 := f2
  refine m_X8_readTrade (fun n0 => ?_)
  rw [q2, nI_ltI (by omega) (by decide), show (nI D.2.2.1.1).toNatClampNeg = D.2.2.1.1 from nI_clamp (by omega)]
  refine ⟨fun h9 => ?_, fun h9 => kE S 2 _ (by decide) (by decide) (by unfold pTrade; rw [if_pos (by omega)]) z1 z2.2.1.2.1⟩
  have h9' : ¬ D.2.2.1.1 = 8 := by omega
  have hv8 : vp_in (nI D.2.2.1.1) 8 := (x_vp (by omega)).mpr h9
  refine u_toldP (g := D.1.2.1) z2 g1 g2 (fun j hj => (g3 j hj).1) _ (fun S1 e p' he hE t0 e6 => ?_) (fun S1 j hj hjk hfd t1 c1 => ?_)
  · refine ⟨fun z => ?_, fun _ => kE S1 e p' (by omega) (by omega) (by simp only [pTrade, if_neg h9', hE, bE_er]) (z1.tr (rG.tp t0)) e6⟩
    exfalso
    rcases he with rfl | rfl <;> exact absurd z (by decide)
  · refine ⟨fun _ => ?_, fun z => absurd rfl z⟩
    have e30 : S1.1 30 = S.1 30 := t1.1 30 (by decide)
    have e31 : ∀ k, k < D.1.1 → S1.2.2.2.1 31 k = D.1.2.1 k := fun k hk => by rw [show S1.2.2.2.1 31 = S.2.2.2.1 31 by rw [t1.2.2]]; exact (g3 k hk).1
    refine u_calledPB (g := D.1.2.1) g1 ((congrFun e30 12).trans g2) e31 _ ⟨hv8, ?_⟩
    rw [hfd]
    have r1 : rG S0 (sA S1 37 D.2.2.1.1 (nI j)) := (z1.tr (rG.tp t1)).tr (rG.sA rfl)
    refine u_toldP (S := sA S1 37 D.2.2.1.1 (nI j)) (g := D.1.2.1) (atT_F c1 rfl rfl rfl) g1 ((congrFun e30 12).trans g2) e31 _ (fun S2 e p' he hE t0 e6 => ?_) (fun S2 q hq hqk hfq t2 c2 => ?_)
    · refine ⟨fun z => ?_, fun _ => kE S2 e p' (by omega) (by omega) (by simp only [pTrade, if_neg h9', hj, bE_ok, hE, bE_er]) (r1.tr (rG.tp t0)) e6⟩
      exfalso
      rcases he with rfl | rfl <;> exact absurd z (by decide)
    · refine ⟨fun _ => ?_, fun z => absurd rfl z⟩
      have e30b : S2.1 30 = S.1 30 := (t2.1 30 (by decide)).trans e30
      have e31b : ∀ k, k < D.1.1 → S2.2.2.2.1 31 k = D.1.2.1 k := fun k hk => by rw [show S2.2.2.2.1 31 = S1.2.2.2.1 31 by rw [t2.2.2]; rfl]; exact e31 k hk
      refine u_calledPB (g := D.1.2.1) g1 ((congrFun e30b 12).trans g2) e31b _ ⟨hv8, hv8, hv8, ?_⟩
      have e37 : S2.2.2.2.1 37 D.2.2.1.1 = nI j := by
        rw [t2.2.2]
        show upd (S1.2.2.2.1 37) D.2.2.1.1 (nI j) D.2.2.1.1 = nI j
        rw [pk_us]
      rw [hfq, pk_us, e37, nI_eq (by omega) (by omega)]
      have r2 : rG S0 (sA S2 38 D.2.2.1.1 (nI q)) := (r1.tr (rG.tp t2)).tr (rG.sA rfl)
      refine ⟨fun z => kE _ 5 (tkP b n (tkN b n (tkN b n i))) (by decide) (by decide) (by simp only [pTrade, if_neg h9', hj, bE_ok, hq, if_pos z.symm]) r2 c2.2.1.2.1, fun z => ?_⟩
      have z' : ¬ q = j := fun w => z w.symm
      refine u_numT (S := sA S2 38 D.2.2.1.1 (nI q)) (atT_F c2 rfl rfl rfl) h9 (by decide) _ (fun S3 e p' he hE t0 e6 => ?_) (fun S3 x hx hx6 t3 c3 => ?_)
      · refine ⟨fun z => ?_, fun _ => b_X8_readTrade_146 (kE S3 e p' (by omega) (by omega) (by simp only [pTrade, if_neg h9', hj, bE_ok, hq, if_neg z', hE, bE_er]) (r2.tr (rG.tp t0)) e6)⟩
        exfalso
        rcases he with rfl | rfl <;> exact absurd z (by decide)
      · refine ⟨fun _ => ?_, fun z => absurd rfl z⟩
        show ctU G 3 M_X10_advance false [.ref 1] lB (sVa (sA S3 39 D.2.2.1.1 (nI x)) 30 14 (S3.1 30 14 + nI 1)) tl _
        rw [show S3.1 30 14 = nI D.2.2.1.1 from (congrFun (t3.1 30 (by decide)) 14).trans ((congrFun e30b 14).trans q2), nI_add]
        refine u_nxtT (S := sVa (sA S3 39 D.2.2.1.1 (nI x)) 30 14 (nI (D.2.2.1.1 + 1))) (atT_F c3 rfl rfl rfl) _ (fun S5 t5 c5 => b_X8_readTrade_146 (kO S5 _ _ (by simp only [pTrade, if_neg h9', hj, bE_ok, hq, if_neg z', hx]; rfl) ⟨((((r2.tr (rG.tp t3)).tr (rG.sA rfl)).tr (rG.sVa rfl (by decide))).tr (rG.tp t5)), c5, ?_⟩))
        have eA : S5.2.2.2.1 = u1 (u1 (u1 S.2.2.2.1 37 (upd (S.2.2.2.1 37) D.2.2.1.1 (nI j))) 38 (upd (S.2.2.2.1 38) D.2.2.1.1 (nI q))) 39 (upd (S.2.2.2.1 39) D.2.2.1.1 (nI x)) := by
          rw [t5.2.2]
          show u1 S3.2.2.2.1 39 (upd (S3.2.2.2.1 39) D.2.2.1.1 (nI x)) = _
          rw [t3.2.2]
          show u1 (u1 S2.2.2.2.1 38 (upd (S2.2.2.2.1 38) D.2.2.1.1 (nI q))) 39 (upd (S2.2.2.2.1 39) D.2.2.1.1 (nI x)) = _
          rw [t2.2.2]
          show u1 (u1 (u1 S1.2.2.2.1 37 (upd (S1.2.2.2.1 37) D.2.2.1.1 (nI j))) 38 (upd (S1.2.2.2.1 38) D.2.2.1.1 (nI q))) 39 (upd (S1.2.2.2.1 39) D.2.2.1.1 (nI x)) = _
          rw [t1.2.2]
        have eF : ∀ a k, ¬ a = 1 → ¬ (a = 30 ∧ k = 14) → S5.1 a k = S.1 a k := by
          intro a k h1 h2
          rw [t5.1 a h1]
          show u2 S3.1 30 14 _ a k = _
          rw [u2_ne (by omega), congrFun (t3.1 a h1) k]
          exact (congrFun (t2.1 a h1) k).trans (congrFun (t1.1 a h1) k)
        have eA' : ∀ a, ¬ a = 37 → ¬ a = 38 → ¬ a = 39 → S5.2.2.2.1 a = S.2.2.2.1 a := by
          intro a h1 h2 h3
          rw [eA, u1_ne h3, u1_ne h2, u1_ne h1]
        have e14 : S5.1 30 14 = nI (D.2.2.1.1 + 1) := by rw [t5.1 30 (by decide)]; rfl
        refine ⟨bD1_F d1 (eF 30 12 (by decide) (by decide)) (fun a h1 h2 => ?_), bD2_F d2 (eF 30 13 (by decide) (by decide)) (eA' 35 (by decide) (by decide) (by decide)) (eA' 36 (by decide) (by decide) (by decide)), ⟨by show D.2.2.1.1 + 1 ≤ 8; omega, e14, fun k hk => ?_⟩, bD4_F d4 (eF 30 15 (by decide) (by decide)) (eA' 40 (by decide) (by decide) (by decide)) (eA' 41 (by decide) (by decide) (by decide)), bD5_F d5 (eF 30 16 (by decide) (by decide)) (eF 30 17 (by decide) (by decide)), bDr_W 0 14 (fun a => Nat.beq a 37 || Nat.beq a 38 || Nat.beq a 39) eF (fun a q => eA' a (fun z => by rw [z] at q; cases q) (fun z => by rw [z] at q; cases q) (fun z => by rw [z] at q; cases q)) (fun a q => by show (Nat.beq a 37 || Nat.beq a 38 || Nat.beq a 39) = false; rw [bq_ne (show ¬ a = 37 by omega), bq_ne (show ¬ a = 38 by omega), bq_ne (show ¬ a = 39 by omega)]; rfl) _ d6⟩
        · rcases (show a = 1 ∨ a = 2 ∨ a = 3 ∨ a = 4 by omega) with rfl | rfl | rfl | rfl
          · exact eA' 31 (by decide) (by decide) (by decide)
          · exact eA' 32 (by decide) (by decide) (by decide)
          · exact eA' 33 (by decide) (by decide) (by decide)
          · exact eA' 34 (by decide) (by decide) (by decide)
        · show S5.2.2.2.1 37 k = nI (up D.2.2.1.2.1 D.2.2.1.1 j k) ∧ up D.2.2.1.2.1 D.2.2.1.1 j k < _ ∧ S5.2.2.2.1 38 k = nI (up D.2.2.1.2.2.1 D.2.2.1.1 q k) ∧ up D.2.2.1.2.2.1 D.2.2.1.1 q k < _ ∧ S5.2.2.2.1 39 k = nI (up D.2.2.1.2.2.2 D.2.2.1.1 x k) ∧ up D.2.2.1.2.2.2 D.2.2.1.1 x k ≤ 99
          rw [eA]
          show upd (S.2.2.2.1 37) D.2.2.1.1 (nI j) k = _ ∧ _ ∧ upd (S.2.2.2.1 38) D.2.2.1.1 (nI q) k = _ ∧ _ ∧ upd (S.2.2.2.1 39) D.2.2.1.1 (nI x) k = _ ∧ _
          by_cases z : k = D.2.2.1.1
          · subst z
            simp only [pk_us, up_at]
            exact ⟨trivial, hjk, trivial, hqk, trivial, hx6⟩
          · simp only [pk_un z, up_no z]
            exact f3 k (by have : k < D.2.2.1.1 + 1 := hk; omega)
end LINES2

