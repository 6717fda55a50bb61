/-! ===== the program: lines read ===== -/
def bD1 (T : ms_S) (x : tDP) : Prop := x.1 ≤ 9 ∧ T.1 0 12 = nI x.1 ∧ ∀ p, p < x.1 → T.2.2.2.1 1 p = x.2.1 p ∧ T.2.2.2.1 2 p = nI (x.2.2.1 p) ∧ x.2.2.1 p < 7 ∧ T.2.2.2.1 3 p = nI (x.2.2.2.1 p) ∧ x.2.2.2.1 p < 7 ∧ T.2.2.2.1 4 p = nI (x.2.2.2.2 p) ∧ x.2.2.2.2 p ≤ 99
def bD2 (T : ms_S) (np : Nat) (x : tDH) : Prop := x.1 ≤ 5 ∧ T.1 0 13 = nI x.1 ∧ (∀ h, h < x.1 → T.2.2.2.1 5 h = x.2.1 h) ∧ (∀ h, h < 5 → T.2.2.2.1 6 h = nI (heldN x.2.2 (nI h) np)) ∧ ∀ p, p < 9 → (x.2.2 p = -(nI 2) ∨ ∃ h, h < x.1 ∧ p < np ∧ x.2.2 p = nI h)
def bD3 (T : ms_S) (np : Nat) (x : tDT) : Prop := x.1 ≤ 8 ∧ T.1 0 14 = nI x.1 ∧ ∀ t, t < x.1 → T.2.2.2.1 7 t = nI (x.2.1 t) ∧ x.2.1 t < np ∧ T.2.2.2.1 8 t = nI (x.2.2.1 t) ∧ x.2.2.1 t < np ∧ T.2.2.2.1 9 t = nI (x.2.2.2 t) ∧ x.2.2.2 t ≤ 99
def bD4 (T : ms_S) (nh : Nat) (x : tDD) : Prop := x.1 ≤ 10 ∧ T.1 0 15 = nI x.1 ∧ ∀ t, t < x.1 → T.2.2.2.1 10 t = nI (x.2.1 t) ∧ x.2.1 t < nh ∧ T.2.2.2.1 11 t = nI (x.2.2 t) ∧ x.2.2 t ≤ 99
def sdI : Option Nat → Int32
  | none => -(nI 1)
  | some v => nI v
def bD5 (T : ms_S) (x : tDO) : Prop := T.1 0 16 = nI (x.1.getD 0) ∧ (∀ v, x.1 = some v → 1 ≤ v ∧ v ≤ 9) ∧ T.1 0 17 = sdI x.2 ∧ ∀ v, x.2 = some v → v ≤ 99999
def lwO (T : ms_S) (p : Nat) : Option tDQ → Prop
  | none => T.1 p 3 = nI 0 ∧ T.1 p 4 = nI 0
  | some q => lwAt T p q ∧ vQ q
def bD6 (T : ms_S) (x : tDL) : Prop := x.1 = szQ (x.2 0) + szQ (x.2 1) + szQ (x.2 2) ∧ x.1 ≤ 64 ∧ lwO T 13 (x.2 0) ∧ lwO T 17 (x.2 1) ∧ lwO T 21 (x.2 2)
def bDr (T : ms_S) (D : tDR) : Prop := bD1 T D.1 ∧ bD2 T D.1.1 D.2.1 ∧ bD3 T D.1.1 D.2.2.1 ∧ bD4 T D.2.1.1 D.2.2.2.1 ∧ bD5 T D.2.2.2.2.1 ∧ bD6 T D.2.2.2.2.2
theorem bD1_F {T T' : ms_S} {x : tDP} (h : bD1 T x) (h0 : T'.1 0 12 = T.1 0 12) (ha : ∀ a, 1 ≤ a → a ≤ 4 → T'.2.2.2.1 a = T.2.2.2.1 a) : bD1 T' x := by
  unfold bD1
  rw [h0, ha 1 (by decide) (by decide), ha 2 (by decide) (by decide), ha 3 (by decide) (by decide), ha 4 (by decide) (by decide)]
  exact h
theorem bD2_F {T T' : ms_S} {np : Nat} {x : tDH} (h : bD2 T np x) (h0 : T'.1 0 13 = T.1 0 13) (h5 : T'.2.2.2.1 5 = T.2.2.2.1 5) (h6 : T'.2.2.2.1 6 = T.2.2.2.1 6) : bD2 T' np x := by
  unfold bD2
  rw [h0, h5, h6]
  exact h
theorem bD3_F {T T' : ms_S} {np : Nat} {x : tDT} (h : bD3 T np x) (h0 : T'.1 0 14 = T.1 0 14) (h7 : T'.2.2.2.1 7 = T.2.2.2.1 7) (h8 : T'.2.2.2.1 8 = T.2.2.2.1 8) (h9 : T'.2.2.2.1 9 = T.2.2.2.1 9) : bD3 T' np x := by
  unfold bD3
  rw [h0, h7, h8, h9]
  exact h
theorem bD4_F {T T' : ms_S} {nh : Nat} {x : tDD} (h : bD4 T nh x) (h0 : T'.1 0 15 = T.1 0 15) (h7 : T'.2.2.2.1 10 = T.2.2.2.1 10) (h8 : T'.2.2.2.1 11 = T.2.2.2.1 11) : bD4 T' nh x := by
  unfold bD4
  rw [h0, h7, h8]
  exact h
theorem bD5_F {T T' : ms_S} {x : tDO} (h : bD5 T x) (h0 : T'.1 0 16 = T.1 0 16) (h1 : T'.1 0 17 = T.1 0 17) : bD5 T' x := by
  unfold bD5
  rw [h0, h1]
  exact h
theorem lwO_F {T T' : ms_S} {p : Nat} {o : Option tDQ} (h : lwO T p o) (h0 : T'.1 p = T.1 p) (h1 : T'.2.2.2.1 (p + 1) = T.2.2.2.1 (p + 1)) : lwO T' p o := by
  cases o with
  | none =>
    unfold lwO
    rw [h0]
    exact h
  | some q =>
    unfold lwO lwAt
    rw [h0, h1]
    exact h
theorem bD6_F {T T' : ms_S} {x : tDL} (h : bD6 T x) (h0 : ∀ a, 13 ≤ a → a < 25 → T'.1 a = T.1 a) (h1 : ∀ a, 13 ≤ a → a < 25 → T'.2.2.2.1 a = T.2.2.2.1 a) : bD6 T' x :=
  ⟨h.1, h.2.1, lwO_F h.2.2.1 (h0 13 (by decide) (by decide)) (h1 14 (by decide) (by decide)), lwO_F h.2.2.2.1 (h0 17 (by decide) (by decide)) (h1 18 (by decide) (by decide)), lwO_F h.2.2.2.2 (h0 21 (by decide) (by decide)) (h1 22 (by decide) (by decide))⟩
theorem bD3_m {T : ms_S} {np : Nat} {x : tDT} (h : bD3 T np x) : bD3 T (np + 1) x := ⟨h.1, h.2.1, fun t ht => by
  obtain ⟨a1, a2, a3, a4, a5, a6⟩ := h.2.2 t ht
  exact ⟨a1, by omega, a3, by omega, a5, a6⟩⟩
theorem bD4_m {T : ms_S} {nh : Nat} {x : tDD} (h : bD4 T nh x) : bD4 T (nh + 1) x := ⟨h.1, h.2.1, fun t ht => by
  obtain ⟨a1, a2, a3, a4⟩ := h.2.2 t ht
  exact ⟨a1, by omega, a3, a4⟩⟩
/-! frames -/
def aLn : Nat → Bool := fun a => Nat.beq a 1 || (Nat.ble 30 a && Nat.ble a 60)
def rG (S X : ms_S) : Prop := (∀ a, aLn a = false → X.1 a = S.1 a ∧ X.2.1 a = S.2.1 a ∧ X.2.2.2.1 a = S.2.2.2.1 a ∧ X.2.2.2.2 a = S.2.2.2.2 a) ∧ (∀ k, k < 4 → X.1 1 k = S.1 1 k)
theorem rG.rf {S : ms_S} : rG S S := ⟨fun _ _ => ⟨rfl, rfl, rfl, rfl⟩, fun _ _ => rfl⟩
theorem rG.tr {S1 S2 S3 : ms_S} (h1 : rG S1 S2) (h2 : rG S2 S3) : rG S1 S3 := ⟨fun a q => ⟨(h2.1 a q).1.trans (h1.1 a q).1, (h2.1 a q).2.1.trans (h1.1 a q).2.1, (h2.1 a q).2.2.1.trans (h1.1 a q).2.2.1, (h2.1 a q).2.2.2.trans (h1.1 a q).2.2.2⟩, fun k q => (h2.2 k q).trans (h1.2 k q)⟩
theorem rG.tp {S S' : ms_S} (h : tpB S S') : rG S S' := ⟨fun a q => ⟨h.1 a (fun z => by rw [z] at q; cases q), by rw [h.2.2], by rw [h.2.2], by rw [h.2.2]⟩, fun k hk => h.2.1 k (Or.inl hk)⟩
theorem rG.sA {S : ms_S} {a i : Nat} {x : Int32} (ha : aLn a = true) : rG S (sA S a i x) := ⟨fun c q => ⟨rfl, rfl, u1_ne (cf_ne ha q), rfl⟩, fun _ _ => rfl⟩
theorem rG.sVa {S : ms_S} {a k : Nat} {x : Int32} (ha : aLn a = true) (h1 : ¬ a = 1) : rG S (sVa S a k x) := ⟨fun c q => ⟨u2_o (cf_ne ha q), rfl, rfl, rfl⟩, fun j _ => u2_ne (Or.inl (fun z => h1 z.symm))⟩
theorem rG.rd {S S' : ms_S} {p : Nat} (hp : pLw p) (h : rdG p S S') : rG S S' := by
  have g : ∀ a, aLn a = false → Nat.beq a 1 = false ∧ aRd p a = false := by
    intro a q
    have h1 : Nat.beq a 1 = false := by cases z : Nat.beq a 1 with
      | false => rfl
      | true => rw [Nat.eq_of_beq_eq_true z] at q; cases q
    refine ⟨h1, ?_⟩
    unfold aRd
    have g2 : ∀ c, aLn c = true → Nat.beq a c = false := fun c hc => by
      cases z : Nat.beq a c with
      | false => rfl
      | true => rw [Nat.eq_of_beq_eq_true z, hc] at q; cases q
    rw [g2 55 rfl, g2 56 rfl, g2 p (by rcases hp with rfl | rfl | rfl <;> rfl), g2 (p + 1) (by rcases hp with rfl | rfl | rfl <;> rfl)]
    rfl
  refine ⟨fun a q => ⟨h.1 a (g a q).1 (g a q).2, (h.2.1 a (g a q).2).1, (h.2.1 a (g a q).2).2.1, (h.2.1 a (g a q).2).2.2⟩, h.2.2⟩
def vPl (S0 : ms_S) (b : Nat → Nat) (n : Nat) (D : tDR) (i : Nat) (X : ms_S) : Prop := rG S0 X ∧ atT X b n i ∧ bDr (rsS e_PlD X) D
theorem bDr_tp {S S' : ms_S} {D : tDR} (h : bDr (rsS e_PlD S) D) (t : tpB S S') : bDr (rsS e_PlD S') D := by
  have g : ∀ a, a < 25 → (rsS e_PlD S').1 a = (rsS e_PlD S).1 a := by
    intro a ha
    refine t.1 _ ?_
    have : ∀ a, a < 25 → ¬ e_PlD.getD a 0 = 1 := by decide
    exact this a ha
  have g2 : ∀ a, (rsS e_PlD S').2.2.2.1 a = (rsS e_PlD S).2.2.2.1 a := by
    intro a
    show S'.2.2.2.1 _ = S.2.2.2.1 _
    rw [t.2.2]
  obtain ⟨h1, h2, h3, h4, h5, h6⟩ := h
  have g0 := g 0 (by decide)
  exact ⟨bD1_F h1 (congrFun g0 12) (fun a _ _ => g2 a), bD2_F h2 (congrFun g0 13) (g2 5) (g2 6), bD3_F h3 (congrFun g0 14) (g2 7) (g2 8) (g2 9), bD4_F h4 (congrFun g0 15) (g2 10) (g2 11), bD5_F h5 (congrFun g0 16) (congrFun g0 17), bD6_F h6 (fun a _ q => g a q) (fun a _ _ => g2 a)⟩
theorem ePl_t : ∀ a, a < 25 → 13 ≤ a → ¬ e_PlD.getD a 0 = 1 ∧ ¬ e_PlD.getD a 0 = 30 ∧ 42 < e_PlD.getD a 0 := by decide
theorem fd_ok {g : Nat → Int32} {k j b1 : Nat} {b : Nat → Nat} {n i : Nat} (h : pThr b n g k i = .ok (j, b1)) : b1 = tkN b n i := by
  unfold pThr at h
  split at h
  · split at h <;> cases h
    rfl
  · cases h
section LINES
variable {G : ab_G} {tl : ab_H} {b : Nat → Nat} {n i : Nat} {S S0 : ms_S} {D : tDR}
theorem u_rPiece (h : vPl S0 b n D i S) (K : Int32 → ms_S → Prop)
    (kE : ∀ S' e p', 1 ≤ e → e ≤ 5 → pPiece b n D i = .error (e, p') → rG S0 S' → S'.1 1 6 = nI p' → K (nI e) S')
    (kO : ∀ S' D' j, pPiece b n D i = .ok (D', j) → vPl S0 b n D' j S' → K (nI 0) S') : ctI G 5 M_X8_readPiece false [.ref 29] lB S tl K := by
  obtain ⟨z1, z2, d1, d2, d3, d4, d5, d6⟩ := h
  obtain ⟨q1, q2, q3⟩ := id d1
  have q2 : S.1 30 12 = nI D.1.1 := q2
  refine m_X8_readPiece (fun n0 => ?_)
  rw [q2, nI_ltI (by omega) (by decide)]
  have K111 : ∀ S' e p', 1 ≤ e → e ≤ 5 → pPiece b n D i = .error (e, p') → rG S0 S' → S'.1 1 6 = nI p' → (¬ (nI e : Int32) = 0) ∧ L_X8_readPiece_111 G false n0 tl K S' (nI e) := by
    intro S' e p' h1 h2 h3 h4 h5
    refine ⟨?_, b_X8_readPiece_111 (kE S' e p' h1 h2 h3 h4 h5)⟩
    rw [show (0 : Int32) = nI 0 from rfl, nI_eq (by omega) (by decide)]
    omega
  refine ⟨fun h9 => ?_, fun h9 => kE S 2 _ (by decide) (by decide) (by unfold pPiece; rw [if_pos (by omega)]) z1 z2.2.1.2.1⟩
  have h9' : ¬ D.1.1 = 9 := by omega
  refine u_newNP (g := D.1.2.1) z2 h9 q2 (fun j hj => (q3 j hj).1) _ (fun S1 e p' he hE t0 e6 => ?_) (fun S1 v hv t1 c1 => ?_)
  · have g := K111 S1 e p' (by omega) (by omega) (by simp only [pPiece, if_neg h9', hE, bE_er]) (z1.tr (rG.tp t0)) e6
    exact ⟨fun z => absurd z g.1, fun _ => b_X8_readPiece_49 ⟨fun z => absurd z g.1, fun _ => b_X8_readPiece_68 ⟨fun z => absurd z g.1, fun _ => b_X8_readPiece_87 ⟨fun z => absurd z g.1, fun _ => g.2⟩⟩⟩⟩
  · refine ⟨fun _ => ?_, fun z => absurd rfl z⟩
    have r1 : rG S0 (sA S1 31 D.1.1 (nI v)) := (z1.tr (rG.tp t1)).tr (rG.sA rfl)
    refine u_numA (S := sA S1 31 D.1.1 (nI v)) (atT_F c1 rfl rfl rfl) h9 (by decide) _ (fun S2 e p' he hE t0 e6 => ?_) (fun S2 x hx hx6 t2 c2 => ?_)
    · have g := K111 S2 e p' (by omega) (by omega) (by simp only [pPiece, if_neg h9', hv, bE_ok, hE, bE_er]) (r1.tr (rG.tp t0)) e6
      exact b_X8_readPiece_49 ⟨fun z => absurd z g.1, fun _ => b_X8_readPiece_68 ⟨fun z => absurd z g.1, fun _ => b_X8_readPiece_87 ⟨fun z => absurd z g.1, fun _ => g.2⟩⟩⟩
    · have r2 : rG S0 (sA S2 32 D.1.1 (nI x)) := (r1.tr (rG.tp t2)).tr (rG.sA rfl)
      refine b_X8_readPiece_49 ⟨fun _ => ?_, fun z => absurd rfl z⟩
      refine u_numB (S := sA S2 32 D.1.1 (nI x)) (atT_F c2 rfl rfl rfl) h9 (by decide) _ (fun S3 e p' he hE t0 e6 => ?_) (fun S3 y hy hy6 t3 c3 => ?_)
      · have g := K111 S3 e p' (by omega) (by omega) (by simp only [pPiece, if_neg h9', hv, bE_ok, hx, hE, bE_er]) (r2.tr (rG.tp t0)) e6
        exact b_X8_readPiece_68 ⟨fun z => absurd z g.1, fun _ => b_X8_readPiece_87 ⟨fun z => absurd z g.1, fun _ => g.2⟩⟩
      · have r3 : rG S0 (sA S3 33 D.1.1 (nI y)) := (r2.tr (rG.tp t3)).tr (rG.sA rfl)
        refine b_X8_readPiece_68 ⟨fun _ => ?_, fun z => absurd rfl z⟩
        refine u_numW (S := sA S3 33 D.1.1 (nI y)) (atT_F c3 rfl rfl rfl) h9 (by decide) _ (fun S4 e p' he hE t0 e6 => ?_) (fun S4 w hw hw6 t4 c4 => ?_)
        · have g := K111 S4 e p' (by omega) (by omega) (by simp only [pPiece, if_neg h9', hv, bE_ok, hx, hy, hE, bE_er]) (r3.tr (rG.tp t0)) e6
          exact b_X8_readPiece_87 ⟨fun z => absurd z g.1, fun _ => g.2⟩
        · have e30 : S4.1 30 = S.1 30 := (t4.1 30 (by decide)).trans ((t3.1 30 (by decide)).trans ((t2.1 30 (by decide)).trans (t1.1 30 (by decide))))
          refine b_X8_readPiece_87 ⟨fun _ => ?_, fun z => absurd rfl z⟩
          show ctU G 3 M_X10_advance false [.ref 1] lB (sVa (sA S4 34 D.1.1 (nI w)) 30 12 (S4.1 30 12 + nI 1)) tl _
          rw [congrFun e30 12, q2, nI_add]
          refine u_nxtT (S := sVa (sA S4 34 D.1.1 (nI w)) 30 12 (nI (D.1.1 + 1))) (atT_F c4 rfl rfl rfl) _ (fun S5 t5 c5 => b_X8_readPiece_111 (kO S5 _ _ (by simp only [pPiece, if_neg h9', hv, bE_ok, hx, hy, hw]; rfl) ⟨((((r3.tr (rG.tp t4)).tr (rG.sA rfl)).tr (rG.sVa rfl (by decide))).tr (rG.tp t5)), c5, ?_⟩))
          have eA : S5.2.2.2.1 = u1 (u1 (u1 (u1 S.2.2.2.1 31 (upd (S.2.2.2.1 31) D.1.1 (nI v))) 32 (upd (S.2.2.2.1 32) D.1.1 (nI x))) 33 (upd (S.2.2.2.1 33) D.1.1 (nI y))) 34 (upd (S.2.2.2.1 34) D.1.1 (nI w)) := by
            rw [t5.2.2]
            show u1 S4.2.2.2.1 34 (upd (S4.2.2.2.1 34) D.1.1 (nI w)) = _
            rw [t4.2.2]
            show u1 (u1 S3.2.2.2.1 33 (upd (S3.2.2.2.1 33) D.1.1 (nI y))) 34 (upd (S3.2.2.2.1 34) D.1.1 (nI w)) = _
            rw [t3.2.2]
            show u1 (u1 (u1 S2.2.2.2.1 32 (upd (S2.2.2.2.1 32) D.1.1 (nI x))) 33 (upd (S2.2.2.2.1 33) D.1.1 (nI y))) 34 (upd (S2.2.2.2.1 34) D.1.1 (nI w)) = _
            rw [t2.2.2]
            show u1 (u1 (u1 (u1 S1.2.2.2.1 31 (upd (S1.2.2.2.1 31) D.1.1 (nI v))) 32 (upd (S1.2.2.2.1 32) D.1.1 (nI x))) 33 (upd (S1.2.2.2.1 33) D.1.1 (nI y))) 34 (upd (S1.2.2.2.1 34) D.1.1 (nI w)) = _
            rw [t1.2.2]
          have eF : ∀ a k, ¬ a = 1 → ¬ (a = 30 ∧ k = 12) → S5.1 a k = S.1 a k := by
            intro a k h1 h2
            rw [t5.1 a h1]
            show u2 S4.1 30 12 _ a k = _
            rw [u2_ne (by omega), congrFun (t4.1 a h1) k]
            exact (congrFun (t3.1 a h1) k).trans ((congrFun (t2.1 a h1) k).trans (congrFun (t1.1 a h1) k))
          have eA' : ∀ a, ¬ a = 31 → ¬ a = 32 → ¬ a = 33 → ¬ a = 34 → S5.2.2.2.1 a = S.2.2.2.1 a := by
            intro a h1 h2 h3 h4
            rw [eA, u1_ne h4, u1_ne h3, u1_ne h2, u1_ne h1]
          have e12 : S5.1 30 12 = nI (D.1.1 + 1) := by rw [t5.1 30 (by decide)]; rfl
          refine ⟨⟨by show D.1.1 + 1 ≤ 9; omega, e12, fun c hc => ?_⟩, ?_, bD3_m (bD3_F d3 (eF 30 14 (by decide) (by decide)) (eA' 37 (by decide) (by decide) (by decide) (by decide)) (eA' 38 (by decide) (by decide) (by decide) (by decide)) (eA' 39 (by decide) (by decide) (by decide) (by decide))), bD4_F d4 (eF 30 15 (by decide) (by decide)) (eA' 40 (by decide) (by decide) (by decide) (by decide)) (eA' 41 (by decide) (by decide) (by decide) (by decide)), bD5_F d5 (eF 30 16 (by decide) (by decide)) (eF 30 17 (by decide) (by decide)), bD6_F d6 (fun a h1 h2 => ?_) (fun a h1 h2 => ?_)⟩
          · show S5.2.2.2.1 31 c = up D.1.2.1 D.1.1 (nI v) c ∧ S5.2.2.2.1 32 c = nI (up D.1.2.2.1 D.1.1 x c) ∧ up D.1.2.2.1 D.1.1 x c < 7 ∧ S5.2.2.2.1 33 c = nI (up D.1.2.2.2.1 D.1.1 y c) ∧ up D.1.2.2.2.1 D.1.1 y c < 7 ∧ S5.2.2.2.1 34 c = nI (up D.1.2.2.2.2 D.1.1 w c) ∧ up D.1.2.2.2.2 D.1.1 w c ≤ 99
            rw [eA]
            show upd (S.2.2.2.1 31) D.1.1 (nI v) c = _ ∧ upd (S.2.2.2.1 32) D.1.1 (nI x) c = _ ∧ _ ∧ upd (S.2.2.2.1 33) D.1.1 (nI y) c = _ ∧ _ ∧ upd (S.2.2.2.1 34) D.1.1 (nI w) c = _ ∧ _
            by_cases z : c = D.1.1
            · subst z
              simp only [pk_us, up_at]
              exact ⟨trivial, trivial, by omega, trivial, by omega, trivial, hw6⟩
            · simp only [pk_un z, up_no z]
              exact q3 c (by have : c < D.1.1 + 1 := hc; omega)
          · obtain ⟨g1, g2, g3, g4, g5⟩ := d2
            refine ⟨g1, (eF 30 13 (by decide) (by decide)).trans g2, fun k hk => ?_, fun k hk => ?_, fun c hc => ?_⟩
            · show S5.2.2.2.1 35 k = _
              rw [eA' 35 (by decide) (by decide) (by decide) (by decide)]
              exact g3 k hk
            · show S5.2.2.2.1 36 k = nI (heldN D.2.1.2.2 (nI k) (D.1.1 + 1))
              rw [eA' 36 (by decide) (by decide) (by decide) (by decide)]
              have : heldN D.2.1.2.2 (nI k) (D.1.1 + 1) = heldN D.2.1.2.2 (nI k) D.1.1 := by
                show heldN D.2.1.2.2 (nI k) D.1.1 ||| (if D.2.1.2.2 D.1.1 = nI k then 2 ^ D.1.1 else 0) = _
                rw [if_neg, Nat.or_zero]
                rcases g5 D.1.1 h9 with w | ⟨_, _, w, _⟩
                · rw [w]
                  have t : ∀ k, k < 5 → ¬ -(nI 2) = nI k := by decide
                  exact t k hk
                · omega
              rw [this]
              exact g4 k hk
            · rcases g5 c hc with w | ⟨hh, w1, w2, w3⟩
              · exact Or.inl w
              · exact Or.inr ⟨hh, w1, by show c < D.1.1 + 1; omega, w3⟩
          · funext k
            exact eF _ k (ePl_t a h2 h1).1 (fun w => (ePl_t a h2 h1).2.1 w.1)
          · have := (ePl_t a h2 h1).2.2
            exact eA' _ (by omega) (by omega) (by omega) (by omega)
end LINES

