/-! ===== the reference: the other lines ===== -/
theorem sA_o {S : ms_S} {a i : Nat} {x : Int32} (c : Nat) (h : aO a c = false) : (sA S a i x).2.2.2.1 c = S.2.2.2.1 c := (mE.sA (F := fN) (A := aO a) (S := S) (by unfold aO; exact Nat.beq_refl a)).2.2.2.1 c h
def pHeir (b : Nat → Nat) (n : Nat) (D : tDR) (i : Nat) : Except (Nat × Nat) (tDR × Nat) :=
  if D.2.1.1 = 5 then .error (2, tkP b n i) else bE (pNew b n D.2.1.2.1 D.2.1.1 (tkN b n i)) (fun r => .ok ((D.1, (D.2.1.1 + 1, up D.2.1.2.1 D.2.1.1 (nI r.1), D.2.1.2.2), D.2.2), r.2))
theorem c_heirLine (G : ab_G) (fr : Bool) (S0 S : ms_S) (tl : ab_H) (b : Nat → Nat) (n i : Nat) (D : tDR) (h : mPz S0 b n D i S) (K : Int32 → ms_S → Prop)
    (kE : ∀ S' f p, pHeir b n D i = .error (f, p) → mEr S0 f p S' → K (nI 0) S')
    (kO : ∀ S' D' j, pHeir b n D i = .ok (D', j) → mPz S0 b n D' j S' → K (nI 1) S') : ctI G 4 M_X12_heirLine fr [.ref 0] lM S tl K := by
  obtain ⟨z1, z2, z3, ⟨d1, d2, d3, d4, d5, d6⟩⟩ := h
  have zk : mKp S0 S := ⟨z1, z2⟩
  obtain ⟨q1, q2, q3, q4⟩ := id d2
  refine m_X12_heirLine (fun n0 => ?_)
  rw [q2, nI_eq (by omega) (by decide)]
  refine ⟨fun h9 => u_wrong G fr S tl 2 _ z3.2.2.2.2.1 _ (fun S' x1 x2 x3 => ⟨Or.inl rfl, kE S' _ _ (by unfold pHeir; rw [if_pos h9]) (mEr_Q zk x1 x2 x3)⟩), fun h9 => ?_⟩
  refine u_tok G fr S tl b n i z3 _ (fun S2 m2 c2 => ?_)
  have e2 : S2.1 0 18 = nI D.2.1.1 := (m2.1 0 18 (Or.inr rfl)).trans q2
  rw [e2]
  have k2 := mKp_G zk m2
  refine u_newH G fr S2 tl b n _ 5 D.2.1.1 D.2.1.2.1 c2 (fun k hk => (congrFun (m2.2.2.2.1 10 rfl) _).trans (q3 k hk)) (by omega) _ (fun S' x p hx x1 x2 x3 => ⟨fun _ => kE S' _ _ (by simp only [pHeir, if_neg h9, hx, bE_er]) (mEr_Q k2 x1 x2 x3), fun z => absurd rfl z⟩) (fun S3 v i2 hv m3 c3 => ⟨fun z => absurd z (by decide), fun _ => ?_⟩)
  have k3 := mKp_G (mKp_A k2 (show loB 10 ≤ 5 + D.2.1.1 from (show 5 ≤ 5 + D.2.1.1 by omega))) m3
  have e3 : S3.1 0 18 = nI D.2.1.1 := (m3.1 0 18 (Or.inr rfl)).trans e2
  rw [e3, nI_add]
  have a10 : S3.2.2.2.1 10 = upd (S.2.2.2.1 10) (5 + D.2.1.1) (nI v) := by
    rw [m3.2.2.2.1 10 rfl]
    show upd (S2.2.2.2.1 10) _ _ = _
    rw [m2.2.2.2.1 10 rfl]
  have ao : ∀ a, aO 10 a = false → S3.2.2.2.1 a = S.2.2.2.1 a := fun a z => by rw [m3.2.2.2.1 a rfl, sA_o a z, m2.2.2.2.1 a rfl]
  have fo : ∀ k, fG k = false → S3.1 0 k = S.1 0 k := fun k hk => by
    rw [m3.1 0 k (Or.inr hk)]
    show S2.1 0 k = _
    rw [m2.1 0 k (Or.inr hk)]
  refine kO _ _ _ (by simp only [pHeir, if_neg h9, hv, bE_ok]; rfl) ?_
  refine ⟨k3.1.tr (mLo.sV rfl), k3.2, c3, mD1_F d1 (fo 17 rfl) (ao 5 rfl) (ao 6 rfl) (ao 7 rfl) (ao 8 rfl), ⟨show D.2.1.1 + 1 ≤ 5 by omega, rfl, fun p hp => ?_, fun p hp => ?_⟩, mD3_F d3 (fo 19 rfl) (ao 11 rfl) (ao 12 rfl) (ao 13 rfl), ?_, mD5_F d5 (ao 3 rfl) (ao 4 rfl), mD6_F d6 (fo 21 rfl) (fo 46 rfl) (ao 16 rfl) (ao 17 rfl) (ao 18 rfl) (ao 19 rfl) (ao 20 rfl) (ao 21 rfl)⟩
  · show S3.2.2.2.1 10 (5 + p) = up D.2.1.2.1 D.2.1.1 (nI v) p
    rw [a10]
    by_cases z : p = D.2.1.1
    · subst z
      rw [upd_at, up_at]
    · rw [upd_no (by omega), up_no z]
      exact q3 p (by
        have : p < D.2.1.1 + 1 := hp
        omega)
  · show S3.2.2.2.1 9 (9 + p) = D.2.1.2.2 p ∧ (D.2.1.2.2 p = -(nI 2) ∨ ∃ h, h < D.2.1.1 + 1 ∧ D.2.1.2.2 p = nI h)
    rw [ao 9 rfl]
    refine ⟨(q4 p hp).1, (q4 p hp).2.imp id (fun ⟨h, h1, h2⟩ => ⟨h, by omega, h2⟩)⟩
  · have d4' : mD4 _ D.2.1.1 D.2.2.2.1 := mD4_F (S' := sV S3 18 (nI (D.2.1.1 + 1))) d4 (fo 20 rfl) (ao 14 rfl) (ao 15 rfl)
    exact ⟨d4'.1, d4'.2.1, fun t ht => ⟨(d4'.2.2 t ht).1, Nat.lt_succ_of_lt (d4'.2.2 t ht).2.1, (d4'.2.2 t ht).2.2⟩⟩
def pShare (b : Nat → Nat) (n : Nat) (D : tDR) (i : Nat) : Except (Nat × Nat) (tDR × Nat) :=
  bE (pThr b n D.2.1.2.1 D.2.1.1 (tkN b n i)) (fun h => bE (pThr b n D.1.2.1 D.1.1 h.2) (fun p => if D.2.1.2.2 p.1 < 0 then .ok ((D.1, (D.2.1.1, D.2.1.2.1, up D.2.1.2.2 p.1 (nI h.1)), D.2.2), p.2) else .error (3, tkP b n h.2)))
theorem c_shareLine (G : ab_G) (fr : Bool) (S0 S : ms_S) (tl : ab_H) (b : Nat → Nat) (n i : Nat) (D : tDR) (h : mPz S0 b n D i S) (K : Int32 → ms_S → Prop)
    (kE : ∀ S' f p, pShare b n D i = .error (f, p) → mEr S0 f p S' → K (nI 0) S')
    (kO : ∀ S' D' j, pShare b n D i = .ok (D', j) → mPz S0 b n D' j S' → K (nI 1) S') : ctI G 4 M_X12_shareLine fr [.ref 0] lM S tl K := by
  obtain ⟨z1, z2, z3, ⟨d1, d2, d3, d4, d5, d6⟩⟩ := h
  have zk : mKp S0 S := ⟨z1, z2⟩
  obtain ⟨q1, q2, q3, q4⟩ := id d2
  obtain ⟨r1, r2, r3⟩ := id d1
  refine m_X12_shareLine (fun n0 => ?_)
  refine u_tok G fr S tl b n i z3 _ (fun S2 m2 c2 => ?_)
  rw [show S2.1 0 18 = nI D.2.1.1 from (m2.1 0 18 (Or.inr rfl)).trans q2]
  have k2 := mKp_G zk m2
  refine u_thrH G fr S2 tl b n _ 5 D.2.1.1 D.2.1.2.1 c2 (fun k hk => (congrFun (m2.2.2.2.1 10 rfl) _).trans (q3 k hk)) (by omega) _ (fun S' x p hx x1 x2 x3 => ⟨fun _ => kE S' _ _ (by simp only [pShare, hx, bE_er]) (mEr_Q k2 x1 x2 x3), fun z => absurd rfl z⟩) (fun S3 hh i2 hv hlt m3 c3 g3 => ⟨fun z => absurd z (by decide), fun _ => ?_⟩)
  have k3 := mKp_G k2 m3
  have m23 := m2.tr m3
  rw [show S3.1 0 17 = nI D.1.1 from (m23.1 0 17 (Or.inr rfl)).trans r2]
  refine u_thrP G fr S3 tl b n _ 9 D.1.1 D.1.2.1 c3 (fun k hk => (congrFun (m23.2.2.2.1 5 rfl) _).trans (r3 k hk).1) (by omega) _ (fun S' x p hx x1 x2 x3 => ⟨fun _ => kE S' _ _ (by simp only [pShare, hv, bE_ok, hx, bE_er]) (mEr_Q k3 x1 x2 x3), fun z => absurd rfl z⟩) (fun S4 pp i3 hp plt m4 c4 g4 => ⟨fun z => absurd z (by decide), fun _ => ?_⟩)
  have k4 := mKp_G k3 m4
  have m24 := m23.tr m4
  have e9 : S4.2.2.2.1 9 (9 + pp) = D.2.1.2.2 pp := (congrFun (m24.2.2.2.1 9 rfl) _).trans (q4 pp (by omega)).1
  rw [show S4.1 0 11 = nI pp from g4, show S3.1 0 11 = nI hh from g3, nI_add, nI_clamp (by omega), e9]
  have hv9 : vp_in (nI (9 + pp)) 18 := (x_vp (by omega)).mpr (by omega)
  refine ⟨hv9, fun q => ⟨hv9, ?_⟩, fun q => ?_⟩
  · refine kO _ _ _ (by simp only [pShare, hv, bE_ok, hp, if_pos q]; rfl) ?_
    have a := fun k (hk : aO 9 k = false) => (sA_o (S := S4) (a := 9) (i := 9 + pp) (x := nI hh) k hk).trans (m24.2.2.2.1 k rfl)
    have fo := fun k (hk : fG k = false) => m24.1 0 k (Or.inr hk)
    have k5 := mKp_A (x := nI hh) k4 (show loB 9 ≤ 9 + pp from (show 9 ≤ 9 + pp by omega))
    refine ⟨k5.1, k5.2, mCu_A c4 rfl rfl, mD1_F d1 (fo 17 rfl) (a 5 rfl) (a 6 rfl) (a 7 rfl) (a 8 rfl), ⟨q1, (fo 18 rfl).trans q2, fun p hp => ?_, fun p hp => ?_⟩, mD3_F d3 (fo 19 rfl) (a 11 rfl) (a 12 rfl) (a 13 rfl), mD4_F d4 (fo 20 rfl) (a 14 rfl) (a 15 rfl), mD5_F d5 (a 3 rfl) (a 4 rfl), mD6_F d6 (fo 21 rfl) (fo 46 rfl) (a 16 rfl) (a 17 rfl) (a 18 rfl) (a 19 rfl) (a 20 rfl) (a 21 rfl)⟩
    · show S4.2.2.2.1 10 (5 + p) = _
      rw [m24.2.2.2.1 10 rfl]
      exact q3 p hp
    · show upd (S4.2.2.2.1 9) (9 + pp) (nI hh) (9 + p) = up D.2.1.2.2 pp (nI hh) p ∧ (up D.2.1.2.2 pp (nI hh) p = -(nI 2) ∨ ∃ h, h < D.2.1.1 ∧ up D.2.1.2.2 pp (nI hh) p = nI h)
      by_cases z : p = pp
      · subst z
        rw [upd_at, up_at]
        exact ⟨rfl, Or.inr ⟨hh, hlt, rfl⟩⟩
      · rw [upd_no (by omega), up_no z, m24.2.2.2.1 9 rfl]
        exact q4 p hp
  · have m5 : mE fG fN S4 (sV S4 10 (S3.1 0 10)) := mE.sV rfl
    exact u_wrong G fr (sV S4 10 (S3.1 0 10)) tl 3 _ (show S3.1 0 10 = nI (tkP b n i2) from c3.2.2.2.2.1) _ (fun S' x1 x2 x3 => ⟨Or.inl rfl, kE S' _ _ (by simp only [pShare, hv, bE_ok, hp, if_neg q]) (mEr_Q (mKp_G k4 m5) x1 x2 x3)⟩)
def pTrade (b : Nat → Nat) (n : Nat) (D : tDR) (i : Nat) : Except (Nat × Nat) (tDR × Nat) :=
  if D.2.2.1.1 = 8 then .error (2, tkP b n i) else bE (pThr b n D.1.2.1 D.1.1 (tkN b n i)) (fun p => bE (pThr b n D.1.2.1 D.1.1 p.2) (fun q => if q.1 = p.1 then .error (5, tkP b n p.2) else bE (pNum b n 0 99 q.2) (fun w => .ok ((D.1, D.2.1, (D.2.2.1.1 + 1, up D.2.2.1.2.1 D.2.2.1.1 p.1, up D.2.2.1.2.2.1 D.2.2.1.1 q.1, up D.2.2.1.2.2.2 D.2.2.1.1 w.1), D.2.2.2), w.2))))
theorem c_tradeLine (G : ab_G) (fr : Bool) (S0 S : ms_S) (tl : ab_H) (b : Nat → Nat) (n i : Nat) (D : tDR) (h : mPz S0 b n D i S) (K : Int32 → ms_S → Prop)
    (kE : ∀ S' f p, pTrade b n D i = .error (f, p) → mEr S0 f p S' → K (nI 0) S')
    (kO : ∀ S' D' j, pTrade b n D i = .ok (D', j) → mPz S0 b n D' j S' → K (nI 1) S') : ctI G 4 M_X12_tradeLine fr [.ref 0] lM S tl K := by
  obtain ⟨z1, z2, z3, ⟨d1, d2, d3, d4, d5, d6⟩⟩ := h
  have zk : mKp S0 S := ⟨z1, z2⟩
  obtain ⟨q1, q2, q3⟩ := id d3
  obtain ⟨r1, r2, r3⟩ := id d1
  refine m_X12_tradeLine (fun n0 => ?_)
  rw [q2, nI_eq (by omega) (by decide)]
  refine ⟨fun h9 => u_wrong G fr S tl 2 _ z3.2.2.2.2.1 _ (fun S' x1 x2 x3 => ⟨Or.inl rfl, kE S' _ _ (by unfold pTrade; rw [if_pos h9]) (mEr_Q zk x1 x2 x3)⟩), fun h9 => ?_⟩
  refine u_tok G fr S tl b n i z3 _ (fun S2 m2 c2 => ?_)
  rw [show S2.1 0 17 = nI D.1.1 from (m2.1 0 17 (Or.inr rfl)).trans r2, show S2.1 0 19 = nI D.2.2.1.1 from (m2.1 0 19 (Or.inr rfl)).trans q2, nI_add, nI_clamp (by omega)]
  have hv8 : vp_in (nI (8 + D.2.2.1.1)) 16 := (x_vp (by omega)).mpr (by omega)
  have hlo : ∀ a, loB a = 8 → loB a ≤ 8 + D.2.2.1.1 := fun a ha => by omega
  have k2 := mKp_G zk m2
  refine u_thrP G fr S2 tl b n _ 9 D.1.1 D.1.2.1 c2 (fun k hk => (congrFun (m2.2.2.2.1 5 rfl) _).trans (r3 k hk).1) (by omega) _ (fun S' x p hx x1 x2 x3 => ⟨fun _ => kE S' _ _ (by simp only [pTrade, if_neg h9, hx, bE_er]) (mEr_Q k2 x1 x2 x3), fun z => absurd rfl z⟩) (fun S3 pp i2 hp plt m3 c3 g3 => ⟨fun z => absurd z (by decide), fun _ => ⟨hv8, ?_⟩⟩)
  have k3 := mKp_G k2 m3
  have m23 := m2.tr m3
  rw [show S3.1 0 11 = nI pp from g3, show S3.1 0 17 = nI D.1.1 from (m23.1 0 17 (Or.inr rfl)).trans r2]
  have k3A := mKp_A (x := nI pp) k3 (hlo 11 rfl)
  refine u_thrP G fr (sA S3 11 (8 + D.2.2.1.1) (nI pp)) tl b n _ 9 D.1.1 D.1.2.1 (mCu_A c3 rfl rfl) (fun k hk => (congrFun (m23.2.2.2.1 5 rfl) _).trans (r3 k hk).1) (by omega) _ (fun S' x p hx x1 x2 x3 => ⟨fun _ => kE S' _ _ (by simp only [pTrade, if_neg h9, hp, bE_ok, hx, bE_er]) (mEr_Q k3A x1 x2 x3), fun z => absurd rfl z⟩) (fun S4 qq i3 hq qlt m4 c4 g4 => ⟨fun z => absurd z (by decide), fun _ => ⟨hv8, ?_⟩⟩)
  have k4 := mKp_G k3A m4
  have e11 : S4.2.2.2.1 11 = upd (S.2.2.2.1 11) (8 + D.2.2.1.1) (nI pp) := by
    rw [m4.2.2.2.1 11 rfl]
    show upd (S3.2.2.2.1 11) _ _ = _
    rw [m23.2.2.2.1 11 rfl]
  rw [e11, upd_at, show S4.1 0 11 = nI qq from g4, nI_eq (by omega) (by omega)]
  refine ⟨fun q => ?_, fun q => ⟨hv8, ?_⟩⟩
  · have m5 : mE fG fN S4 (sV S4 10 (S3.1 0 10)) := mE.sV rfl
    exact u_wrong G fr (sV S4 10 (S3.1 0 10)) tl 5 _ (show S3.1 0 10 = nI (tkP b n i2) from c3.2.2.2.2.1) _ (fun S' x1 x2 x3 => ⟨Or.inl rfl, kE S' _ _ (by simp only [pTrade, if_neg h9, hp, bE_ok, hq, if_pos q]) (mEr_Q (mKp_G k4 m5) x1 x2 x3)⟩)
  have k4A := mKp_A (x := nI qq) k4 (hlo 12 rfl)
  refine u_number G fr _ tl b n i3 0 99 (mCu_A c4 rfl rfl) (by decide) (by decide) _ (fun S' w p hw x1 x2 x3 => ⟨fun _ => kE S' _ _ (by simp only [pTrade, if_neg h9, hp, bE_ok, hq, if_neg q, hw, bE_er]) (mEr_Q k4A x1 x2 x3), fun z => absurd rfl z⟩) (fun S5 w i4 hw _ hw99 m5 c5 g5 => ⟨fun z => absurd z (by decide), fun _ => ⟨hv8, ?_⟩⟩)
  have k5A := mKp_A (x := S5.1 0 11) (mKp_G k4A m5) (hlo 13 rfl)
  refine kO _ _ _ (by simp only [pTrade, if_neg h9, hp, bE_ok, hq, if_neg q, hw]; rfl) ?_
  have ao : ∀ a, aO 11 a = false → aO 12 a = false → S5.2.2.2.1 a = S.2.2.2.1 a := fun a z5 z6 => by rw [m5.2.2.2.1 a rfl, sA_o a z6, m4.2.2.2.1 a rfl, sA_o a z5, m23.2.2.2.1 a rfl]
  have fo : ∀ k, fG k = false → S5.1 0 k = S.1 0 k := fun k hk => by
    rw [m5.1 0 k (Or.inr hk)]
    show S4.1 0 k = _
    rw [m4.1 0 k (Or.inr hk)]
    show S3.1 0 k = _
    rw [m23.1 0 k (Or.inr hk)]
  have a11 : S5.2.2.2.1 11 = upd (S.2.2.2.1 11) (8 + D.2.2.1.1) (nI pp) := by
    rw [m5.2.2.2.1 11 rfl]
    exact e11
  have a12 : S5.2.2.2.1 12 = upd (S.2.2.2.1 12) (8 + D.2.2.1.1) (nI qq) := by
    rw [m5.2.2.2.1 12 rfl]
    show upd (S4.2.2.2.1 12) _ _ = _
    rw [m4.2.2.2.1 12 rfl]
    show upd (S3.2.2.2.1 12) _ _ = _
    rw [m23.2.2.2.1 12 rfl]
  have a13 : S5.2.2.2.1 13 = S.2.2.2.1 13 := ao 13 rfl rfl
  rw [show S5.1 0 19 = nI D.2.2.1.1 from (fo 19 rfl).trans q2, nI_add]
  refine ⟨k5A.1.tr (mLo.sV rfl), k5A.2, mCu_A (S := S5) (a := 13) (j := 8 + D.2.2.1.1) (x := S5.1 0 11) c5 rfl rfl, mD1_F d1 (fo 17 rfl) (ao 5 rfl rfl) (ao 6 rfl rfl) (ao 7 rfl rfl) (ao 8 rfl rfl), mD2_F d2 (fo 18 rfl) (ao 10 rfl rfl) (ao 9 rfl rfl), ⟨show D.2.2.1.1 + 1 ≤ 8 by omega, rfl, fun t ht => ?_⟩, mD4_F d4 (fo 20 rfl) (ao 14 rfl rfl) (ao 15 rfl rfl), mD5_F d5 (ao 3 rfl rfl) (ao 4 rfl rfl), mD6_F d6 (fo 21 rfl) (fo 46 rfl) (ao 16 rfl rfl) (ao 17 rfl rfl) (ao 18 rfl rfl) (ao 19 rfl rfl) (ao 20 rfl rfl) (ao 21 rfl rfl)⟩
  show S5.2.2.2.1 11 (8 + t) = nI (up D.2.2.1.2.1 D.2.2.1.1 pp t) ∧ up D.2.2.1.2.1 D.2.2.1.1 pp t < D.1.1 ∧ S5.2.2.2.1 12 (8 + t) = nI (up D.2.2.1.2.2.1 D.2.2.1.1 qq t) ∧ up D.2.2.1.2.2.1 D.2.2.1.1 qq t < D.1.1 ∧ upd (S5.2.2.2.1 13) (8 + D.2.2.1.1) (S5.1 0 11) (8 + t) = nI (up D.2.2.1.2.2.2 D.2.2.1.1 w t) ∧ up D.2.2.1.2.2.2 D.2.2.1.1 w t ≤ 99
  rw [a11, a12, a13, show S5.1 0 11 = nI w from g5]
  by_cases z : t = D.2.2.1.1
  · subst z
    rw [upd_at, upd_at, upd_at, up_at, up_at, up_at]
    exact ⟨rfl, plt, rfl, qlt, rfl, hw99⟩
  · rw [upd_no (by omega), upd_no (by omega), upd_no (by omega), up_no z, up_no z, up_no z]
    exact q3 t (by
      have : t < D.2.2.1.1 + 1 := ht
      omega)
def pDraw (b : Nat → Nat) (n : Nat) (D : tDR) (i : Nat) : Except (Nat × Nat) (tDR × Nat) :=
  if D.2.2.2.1.1 = 10 then .error (2, tkP b n i) else bE (pThr b n D.2.1.2.1 D.2.1.1 (tkN b n i)) (fun h => bE (pNum b n 0 99 h.2) (fun w => .ok ((D.1, D.2.1, D.2.2.1, (D.2.2.2.1.1 + 1, up D.2.2.2.1.2.1 D.2.2.2.1.1 h.1, up D.2.2.2.1.2.2 D.2.2.2.1.1 w.1), D.2.2.2.2), w.2)))
theorem c_drawLine (G : ab_G) (fr : Bool) (S0 S : ms_S) (tl : ab_H) (b : Nat → Nat) (n i : Nat) (D : tDR) (h : mPz S0 b n D i S) (K : Int32 → ms_S → Prop)
    (kE : ∀ S' f p, pDraw b n D i = .error (f, p) → mEr S0 f p S' → K (nI 0) S')
    (kO : ∀ S' D' j, pDraw b n D i = .ok (D', j) → mPz S0 b n D' j S' → K (nI 1) S') : ctI G 4 M_X12_drawLine fr [.ref 0] lM S tl K := by
  obtain ⟨z1, z2, z3, ⟨d1, d2, d3, d4, d5, d6⟩⟩ := h
  have zk : mKp S0 S := ⟨z1, z2⟩
  obtain ⟨q1, q2, q3⟩ := id d4
  obtain ⟨r1, r2, r3, r4⟩ := id d2
  refine m_X12_drawLine (fun n0 => ?_)
  rw [q2, nI_eq (by omega) (by decide)]
  refine ⟨fun h9 => u_wrong G fr S tl 2 _ z3.2.2.2.2.1 _ (fun S' x1 x2 x3 => ⟨Or.inl rfl, kE S' _ _ (by unfold pDraw; rw [if_pos h9]) (mEr_Q zk x1 x2 x3)⟩), fun h9 => ?_⟩
  refine u_tok G fr S tl b n i z3 _ (fun S2 m2 c2 => ?_)
  rw [show S2.1 0 18 = nI D.2.1.1 from (m2.1 0 18 (Or.inr rfl)).trans r2]
  have hv8 : vp_in (nI (10 + D.2.2.2.1.1)) 20 := (x_vp (by omega)).mpr (by omega)
  have hlo : ∀ a, loB a = 10 → loB a ≤ 10 + D.2.2.2.1.1 := fun a ha => by omega
  have k2 := mKp_G zk m2
  refine u_thrH G fr S2 tl b n _ 5 D.2.1.1 D.2.1.2.1 c2 (fun k hk => (congrFun (m2.2.2.2.1 10 rfl) _).trans (r3 k hk)) (by omega) _ (fun S' x p hx x1 x2 x3 => ⟨fun _ => kE S' _ _ (by simp only [pDraw, if_neg h9, hx, bE_er]) (mEr_Q k2 x1 x2 x3), fun z => absurd rfl z⟩) (fun S3 hh i2 hp plt m3 c3 g3 => ⟨fun z => absurd z (by decide), fun _ => ?_⟩)
  have k3 := mKp_G k2 m3
  have m23 := m2.tr m3
  rw [show S3.1 0 11 = nI hh from g3, show S3.1 0 20 = nI D.2.2.2.1.1 from (m23.1 0 20 (Or.inr rfl)).trans q2, nI_add, nI_clamp (by omega)]
  refine ⟨hv8, ?_⟩
  have k3A := mKp_A (x := nI hh) k3 (hlo 14 rfl)
  refine u_number G fr _ tl b n i2 0 99 (mCu_A c3 rfl rfl) (by decide) (by decide) _ (fun S' w p hw x1 x2 x3 => ⟨fun _ => kE S' _ _ (by simp only [pDraw, if_neg h9, hp, bE_ok, hw, bE_er]) (mEr_Q k3A x1 x2 x3), fun z => absurd rfl z⟩) (fun S5 w i4 hw _ hw99 m5 c5 g5 => ⟨fun z => absurd z (by decide), fun _ => ?_⟩)
  have ao : ∀ a, aO 14 a = false → S5.2.2.2.1 a = S.2.2.2.1 a := fun a z5 => by rw [m5.2.2.2.1 a rfl, sA_o a z5, m23.2.2.2.1 a rfl]
  have fo : ∀ k, fG k = false → S5.1 0 k = S.1 0 k := fun k hk => by
    rw [m5.1 0 k (Or.inr hk)]
    show S3.1 0 k = _
    rw [m23.1 0 k (Or.inr hk)]
  have a14 : S5.2.2.2.1 14 = upd (S.2.2.2.1 14) (10 + D.2.2.2.1.1) (nI hh) := by
    rw [m5.2.2.2.1 14 rfl]
    show upd (S3.2.2.2.1 14) _ _ = _
    rw [m23.2.2.2.1 14 rfl]
  rw [show S5.1 0 20 = nI D.2.2.2.1.1 from (fo 20 rfl).trans q2, nI_add, nI_add, nI_clamp (by omega)]
  refine ⟨hv8, ?_⟩
  have k5A := mKp_A (x := S5.1 0 11) (mKp_G k3A m5) (hlo 15 rfl)
  refine kO _ _ _ (by simp only [pDraw, if_neg h9, hp, bE_ok, hw]; rfl) ?_
  refine ⟨k5A.1.tr (mLo.sV rfl), k5A.2, mCu_A (S := S5) (a := 15) (j := 10 + D.2.2.2.1.1) (x := S5.1 0 11) c5 rfl rfl, mD1_F d1 (fo 17 rfl) (ao 5 rfl) (ao 6 rfl) (ao 7 rfl) (ao 8 rfl), mD2_F d2 (fo 18 rfl) (ao 10 rfl) (ao 9 rfl), mD3_F d3 (fo 19 rfl) (ao 11 rfl) (ao 12 rfl) (ao 13 rfl), ⟨show D.2.2.2.1.1 + 1 ≤ 10 by omega, rfl, fun t ht => ?_⟩, mD5_F d5 (ao 3 rfl) (ao 4 rfl), mD6_F d6 (fo 21 rfl) (fo 46 rfl) (ao 16 rfl) (ao 17 rfl) (ao 18 rfl) (ao 19 rfl) (ao 20 rfl) (ao 21 rfl)⟩
  show S5.2.2.2.1 14 (10 + t) = nI (up D.2.2.2.1.2.1 D.2.2.2.1.1 hh t) ∧ up D.2.2.2.1.2.1 D.2.2.2.1.1 hh t < D.2.1.1 ∧ upd (S5.2.2.2.1 15) (10 + D.2.2.2.1.1) (S5.1 0 11) (10 + t) = nI (up D.2.2.2.1.2.2 D.2.2.2.1.1 w t) ∧ up D.2.2.2.1.2.2 D.2.2.2.1.1 w t ≤ 99
  rw [a14, ao 15 rfl, show S5.1 0 11 = nI w from g5]
  by_cases z : t = D.2.2.2.1.1
  · subst z
    rw [upd_at, upd_at, up_at, up_at]
    exact ⟨rfl, plt, rfl, hw99⟩
  · rw [upd_no (by omega), upd_no (by omega), up_no z, up_no z]
    exact q3 t (by
      have : t < D.2.2.2.1.1 + 1 := ht
      omega)
def pOnce (b : Nat → Nat) (n : Nat) (D : tDR) (w lo hi i : Nat) : Except (Nat × Nat) (tDR × Nat) :=
  if (if w = 0 then D.2.2.2.2.1.1 else D.2.2.2.2.1.2).isSome = true then .error (3, tkP b n i) else bE (pNum b n lo hi (tkN b n i)) (fun v => .ok ((D.1, D.2.1, D.2.2.1, D.2.2.2.1, (if w = 0 then (some v.1, D.2.2.2.2.1.2) else (D.2.2.2.2.1.1, some v.1)), D.2.2.2.2.2), v.2))
theorem c_onceLine (G : ab_G) (fr : Bool) (S0 S : ms_S) (tl : ab_H) (b : Nat → Nat) (n i w lo hi : Nat) (D : tDR) (hw2 : w < 2) (hlo : w = 0 → lo = 1 ∧ hi = 9) (hhi : w = 1 → lo = 0 ∧ hi = 99999) (h : mPz S0 b n D i S) (K : Int32 → ms_S → Prop)
    (kE : ∀ S' f p, pOnce b n D w lo hi i = .error (f, p) → mEr S0 f p S' → K (nI 0) S')
    (kO : ∀ S' D' j, pOnce b n D w lo hi i = .ok (D', j) → mPz S0 b n D' j S' → K (nI 1) S') : ctI G 4 M_X12_onceLine fr [.ref 0, .int (nI w), .int (nI lo), .int (nI hi)] lM S tl K := by
  obtain ⟨z1, z2, z3, ⟨d1, d2, d3, d4, d5, d6⟩⟩ := h
  have zk : mKp S0 S := ⟨z1, z2⟩
  obtain ⟨q1, q2, q3, q4, q5, q6, q7⟩ := id d5
  have hlt : lo < 2 ^ 30 ∧ hi < 2 ^ 30 := by
    rcases (show w = 0 ∨ w = 1 by omega) with z | z
    · have := hlo z; omega
    · have := hhi z; omega
  have e3 : S.2.2.2.1 3 w = bI (if w = 0 then D.2.2.2.2.1.1 else D.2.2.2.2.1.2).isSome := by
    rcases (show w = 0 ∨ w = 1 by omega) with rfl | rfl
    · exact q1
    · exact q2
  refine m_X12_onceLine (fun n0 => ?_)
  have hv2 : vp_in (nI w) 2 := (x_vp (by omega)).mpr hw2
  rw [nI_clamp (by omega), e3, x_b0, nI_add, nI_clamp (by omega)]
  refine ⟨hv2, fun hz => ⟨hv2, ?_⟩, fun hz => u_wrong G fr S tl 3 _ z3.2.2.2.2.1 _ (fun S' x1 x2 x3 => ⟨Or.inl rfl, kE S' _ _ (by unfold pOnce; rw [if_pos (nf_t hz)]) (mEr_Q zk x1 x2 x3)⟩)⟩
  have kA := mKp_A (a := 3) (i := w) (x := nI 1 &&& 1) zk (Nat.zero_le _)
  refine u_tok G fr _ tl b n i (mCu_A z3 rfl rfl) _ (fun S2 m2 c2 => ?_)
  have k2 := mKp_G kA m2
  have hzn : ¬ (if w = 0 then D.2.2.2.2.1.1 else D.2.2.2.2.1.2).isSome = true := by rw [hz]; decide
  refine u_number G fr S2 tl b n _ lo hi c2 hlt.1 hlt.2 _ (fun S' v p hw x1 x2 x3 => ⟨fun _ => kE S' _ _ (by simp only [pOnce, if_neg hzn, hw, bE_er]) (mEr_Q k2 x1 x2 x3), fun z => absurd rfl z⟩) (fun S3 v i2 hv hvl hvh m3 c3 g3 => ⟨fun z => absurd z (by decide), fun _ => ⟨(x_vp (by omega)).mpr (by omega), ?_⟩⟩)
  have k3 := mKp_A (a := 4) (i := 2 + w) (x := S3.1 0 11) (mKp_G k2 m3) (show 2 ≤ 2 + w by omega)
  refine kO _ _ _ (by simp only [pOnce, if_neg hzn, hv, bE_ok]; rfl) ?_
  have m23 := m2.tr m3
  have ao : ∀ a, aO 3 a = false → aO 4 a = false → (sA S3 4 (2 + w) (S3.1 0 11)).2.2.2.1 a = S.2.2.2.1 a := fun a z5 z6 => by rw [sA_o a z6, m23.2.2.2.1 a rfl, sA_o a z5]
  have fo : ∀ k, fG k = false → S3.1 0 k = S.1 0 k := fun k hk => m23.1 0 k (Or.inr hk)
  refine ⟨k3.1, k3.2, mCu_A c3 rfl rfl, mD1_F d1 (fo 17 rfl) (ao 5 rfl rfl) (ao 6 rfl rfl) (ao 7 rfl rfl) (ao 8 rfl rfl), mD2_F d2 (fo 18 rfl) (ao 10 rfl rfl) (ao 9 rfl rfl), mD3_F d3 (fo 19 rfl) (ao 11 rfl rfl) (ao 12 rfl rfl) (ao 13 rfl rfl), mD4_F d4 (fo 20 rfl) (ao 14 rfl rfl) (ao 15 rfl rfl), ?_, mD6_F d6 (fo 21 rfl) (fo 46 rfl) (ao 16 rfl rfl) (ao 17 rfl rfl) (ao 18 rfl rfl) (ao 19 rfl rfl) (ao 20 rfl rfl) (ao 21 rfl rfl)⟩
  have a3 : S3.2.2.2.1 3 = upd (S.2.2.2.1 3) w (nI 1 &&& 1) := m23.2.2.2.1 3 rfl
  have a4 : S3.2.2.2.1 4 = S.2.2.2.1 4 := m23.2.2.2.1 4 rfl
  have g3 : S3.1 0 11 = nI v := g3
  rcases (show w = 0 ∨ w = 1 by omega) with rfl | rfl
  · obtain ⟨rfl, rfl⟩ := hlo rfl
    refine ⟨?_, ?_, ?_, hvl, hvh, ?_, q7⟩
    · show S3.2.2.2.1 3 0 = _
      rw [a3, upd_at]
      rfl
    · show S3.2.2.2.1 3 1 = _
      rw [a3, upd_no (by decide)]
      exact q2
    · show upd (S3.2.2.2.1 4) 2 (S3.1 0 11) 2 = _
      rw [upd_at, g3]
      rfl
    · show upd (S3.2.2.2.1 4) 2 (S3.1 0 11) 3 = _
      rw [upd_no (by decide), a4]
      exact q6
  · obtain ⟨rfl, rfl⟩ := hhi rfl
    refine ⟨?_, ?_, ?_, q4, q5, ?_, hvh⟩
    · show S3.2.2.2.1 3 0 = _
      rw [a3, upd_no (by decide)]
      exact q1
    · show S3.2.2.2.1 3 1 = _
      rw [a3, upd_at]
      rfl
    · show upd (S3.2.2.2.1 4) 3 (S3.1 0 11) 2 = _
      rw [upd_no (by decide), a4]
      exact q3
    · show upd (S3.2.2.2.1 4) 3 (S3.1 0 11) 3 = _
      rw [upd_at, g3]
      rfl
