/-! ===== the program: a text kept ===== -/
/-- plans alike as far as they are told -/
def eqP (T T' : ms_S) : Prop := (∀ k, 12 ≤ k → k ≤ 17 → T'.1 0 k = T.1 0 k) ∧ (∀ a i, 1 ≤ a → a ≤ 4 → i < 9 → T'.2.2.2.1 a i = T.2.2.2.1 a i) ∧ (∀ a i, 5 ≤ a → a ≤ 6 → i < 5 → T'.2.2.2.1 a i = T.2.2.2.1 a i) ∧ (∀ a i, 7 ≤ a → a ≤ 9 → i < 8 → T'.2.2.2.1 a i = T.2.2.2.1 a i) ∧ (∀ a i, 10 ≤ a → a ≤ 11 → i < 10 → T'.2.2.2.1 a i = T.2.2.2.1 a i) ∧ ∀ p, p = 13 ∨ p = 17 ∨ p = 21 → T'.1 p 3 = T.1 p 3 ∧ T'.1 p 4 = T.1 p 4 ∧ ∀ i, i < 64 → T'.2.2.2.1 (p + 1) i = T.2.2.2.1 (p + 1) i
theorem lwO_E {T T' : ms_S} {p : Nat} {o : Option tDQ} (h : lwO T p o) (h3 : T'.1 p 3 = T.1 p 3) (h4 : T'.1 p 4 = T.1 p 4) (hk : ∀ i, i < 64 → T'.2.2.2.1 (p + 1) i = T.2.2.2.1 (p + 1) i) : lwO T' p o := by
  cases o with
  | none => exact ⟨h3.trans h.1, h4.trans h.2⟩
  | some q =>
    obtain ⟨⟨a1, a2, a3⟩, v⟩ := h
    exact ⟨⟨h3.trans a1, h4.trans a2, fun j hj => (hk j (by have := v.2.1; omega)).trans (a3 j hj)⟩, v⟩
theorem bDr_E {T T' : ms_S} {D : tDR} (h : bDr T D) (e : eqP T T') : bDr T' D := by
  obtain ⟨⟨a1, a2, a3⟩, ⟨b1, b2, b3, b4, b5⟩, ⟨c1, c2, c3⟩, ⟨d1, d2, d3⟩, ⟨f1, f2, f3, f4⟩, ⟨l1, l2, l3, l4, l5⟩⟩ := h
  obtain ⟨e0, e1, e2, e3, e4, e5⟩ := e
  refine ⟨⟨a1, (e0 12 (by decide) (by decide)).trans a2, fun p hp => ?_⟩, ⟨b1, (e0 13 (by decide) (by decide)).trans b2, fun x hx => ?_, fun x hx => ?_, b5⟩, ⟨c1, (e0 14 (by decide) (by decide)).trans c2, fun t ht => ?_⟩, ⟨d1, (e0 15 (by decide) (by decide)).trans d2, fun t ht => ?_⟩, ⟨(e0 16 (by decide) (by decide)).trans f1, f2, (e0 17 (by decide) (by decide)).trans f3, f4⟩, ⟨l1, l2, ?_, ?_, ?_⟩⟩
  · rw [e1 1 p (by decide) (by decide) (by omega), e1 2 p (by decide) (by decide) (by omega), e1 3 p (by decide) (by decide) (by omega), e1 4 p (by decide) (by decide) (by omega)]
    exact a3 p hp
  · rw [e2 5 x (by decide) (by decide) (by omega)]
    exact b3 x hx
  · rw [e2 6 x (by decide) (by decide) (by omega)]
    exact b4 x hx
  · rw [e3 7 t (by decide) (by decide) (by omega), e3 8 t (by decide) (by decide) (by omega), e3 9 t (by decide) (by decide) (by omega)]
    exact c3 t ht
  · rw [e4 10 t (by decide) (by decide) (by omega), e4 11 t (by decide) (by decide) (by omega)]
    exact d3 t ht
  · obtain ⟨x1, x2, x3⟩ := e5 13 (by decide)
    exact lwO_E l3 x1 x2 x3
  · obtain ⟨x1, x2, x3⟩ := e5 17 (by decide)
    exact lwO_E l4 x1 x2 x3
  · obtain ⟨x1, x2, x3⟩ := e5 21 (by decide)
    exact lwO_E l5 x1 x2 x3
def aPB : Nat → Bool := fun a => Nat.ble 4 a && Nat.ble a 28
theorem cF.sCp {A : Nat → Bool} {S : ms_S} {a b : Nat} {x y z : Int32} (h : A b = true) : cF A S (sCp S a b x y z) := ⟨fun _ _ => rfl, fun _ _ => rfl, fun _ q => u1_ne (cf_ne h q), fun _ _ => rfl, rfl⟩
theorem lw_01 {T : ms_S} {p : Nat} {o : Option tDQ} (h : lwO T p o) : T.1 p 4 = 0 ∨ T.1 p 4 = 1 := by
  cases o with
  | none => exact Or.inl h.2
  | some q =>
    have e : T.1 p 4 = bI (dyQ q) := h.1.2.1
    rw [e]
    cases dyQ q
    · exact Or.inl rfl
    · exact Or.inr rfl
section KEEP
variable {G : ab_G} {tl : ab_H} {S : ms_S} {g : tSG} {o : Nat → Option tDQ} {V : Nat} {D : tDR}
set_option maxRecDepth 10000 in
theorem u_cpPl (hD : bDr (rsS e_PlD S) D) (K : ms_S → Prop) (k : ∀ S', cF aPB S S' → bDr (rsS e_PlB S') D → K S') : ctU G 3 M_X7_copyFrom false [.ref 4, .ref 30] lB S tl K := by
  refine m_X7_copyFrom (fun n0 => ?_)
  generalize hX : sCp (sCp (sCp (sCp (sCp (sCp (sCp (sCp (sCp (sCp (sCp (sVa (sVa (sVa (sVa (sVa (sVa S 4 12 (S.1 30 12)) 4 13 (S.1 30 13)) 4 14 (S.1 30 14)) 4 15 (S.1 30 15)) 4 16 (S.1 30 16)) 4 17 (S.1 30 17)) 31 5 (nI 0) (nI 0) (nI 9)) 32 6 (nI 0) (nI 0) (nI 9)) 33 7 (nI 0) (nI 0) (nI 9)) 34 8 (nI 0) (nI 0) (nI 9)) 35 9 (nI 0) (nI 0) (nI 5)) 36 10 (nI 0) (nI 0) (nI 5)) 37 11 (nI 0) (nI 0) (nI 8)) 38 12 (nI 0) (nI 0) (nI 8)) 39 13 (nI 0) (nI 0) (nI 8)) 40 14 (nI 0) (nI 0) (nI 10)) 41 15 (nI 0) (nI 0) (nI 10) = X
  have f0 : cF aPB S X := by
    rw [← hX]
    exact ((((((((((((((((cF.sVa rfl).tr (cF.sVa rfl)).tr (cF.sVa rfl)).tr (cF.sVa rfl)).tr (cF.sVa rfl)).tr (cF.sVa rfl)).tr (cF.sCp rfl)).tr (cF.sCp rfl)).tr (cF.sCp rfl)).tr (cF.sCp rfl)).tr (cF.sCp rfl)).tr (cF.sCp rfl)).tr (cF.sCp rfl)).tr (cF.sCp rfl)).tr (cF.sCp rfl)).tr (cF.sCp rfl)).tr (cF.sCp rfl)
  have x0 : ∀ j, 12 ≤ j → j ≤ 17 → X.1 4 j = S.1 30 j := by
    intro j h1 h2
    rw [← hX]
    rcases (show j = 12 ∨ j = 13 ∨ j = 14 ∨ j = 15 ∨ j = 16 ∨ j = 17 by omega) with rfl | rfl | rfl | rfl | rfl | rfl <;> rfl
  have x1 : ∀ a i, 1 ≤ a → a ≤ 4 → i < 9 → X.2.2.2.1 (4 + a) i = S.2.2.2.1 (30 + a) i := by
    intro a i h1 h2 hi
    rw [← hX]
    rcases (show a = 1 ∨ a = 2 ∨ a = 3 ∨ a = 4 by omega) with rfl | rfl | rfl | rfl
    · show va_cpy (S.2.2.2.1 31) (S.2.2.2.1 5) 0 0 9 i = _; exact sb_cpy0 hi
    · show va_cpy (S.2.2.2.1 32) (S.2.2.2.1 6) 0 0 9 i = _; exact sb_cpy0 hi
    · show va_cpy (S.2.2.2.1 33) (S.2.2.2.1 7) 0 0 9 i = _; exact sb_cpy0 hi
    · show va_cpy (S.2.2.2.1 34) (S.2.2.2.1 8) 0 0 9 i = _; exact sb_cpy0 hi
  have x2 : ∀ a i, 5 ≤ a → a ≤ 6 → i < 5 → X.2.2.2.1 (4 + a) i = S.2.2.2.1 (30 + a) i := by
    intro a i h1 h2 hi
    rw [← hX]
    rcases (show a = 5 ∨ a = 6 by omega) with rfl | rfl
    · show va_cpy (S.2.2.2.1 35) (S.2.2.2.1 9) 0 0 5 i = _; exact sb_cpy0 hi
    · show va_cpy (S.2.2.2.1 36) (S.2.2.2.1 10) 0 0 5 i = _; exact sb_cpy0 hi
  have x3 : ∀ a i, 7 ≤ a → a ≤ 9 → i < 8 → X.2.2.2.1 (4 + a) i = S.2.2.2.1 (30 + a) i := by
    intro a i h1 h2 hi
    rw [← hX]
    rcases (show a = 7 ∨ a = 8 ∨ a = 9 by omega) with rfl | rfl | rfl
    · show va_cpy (S.2.2.2.1 37) (S.2.2.2.1 11) 0 0 8 i = _; exact sb_cpy0 hi
    · show va_cpy (S.2.2.2.1 38) (S.2.2.2.1 12) 0 0 8 i = _; exact sb_cpy0 hi
    · show va_cpy (S.2.2.2.1 39) (S.2.2.2.1 13) 0 0 8 i = _; exact sb_cpy0 hi
  have x4 : ∀ a i, 10 ≤ a → a ≤ 11 → i < 10 → X.2.2.2.1 (4 + a) i = S.2.2.2.1 (30 + a) i := by
    intro a i h1 h2 hi
    rw [← hX]
    rcases (show a = 10 ∨ a = 11 by omega) with rfl | rfl
    · show va_cpy (S.2.2.2.1 40) (S.2.2.2.1 14) 0 0 10 i = _; exact sb_cpy0 hi
    · show va_cpy (S.2.2.2.1 41) (S.2.2.2.1 15) 0 0 10 i = _; exact sb_cpy0 hi
  clear hX
  have l0 : S.1 43 4 = 0 ∨ S.1 43 4 = 1 := lw_01 hD.2.2.2.2.2.2.2.1
  have l1 : S.1 47 4 = 0 ∨ S.1 47 4 = 1 := lw_01 hD.2.2.2.2.2.2.2.2.1
  have l2 : S.1 51 4 = 0 ∨ S.1 51 4 = 1 := lw_01 hD.2.2.2.2.2.2.2.2.2
  refine b_X7_copyFrom_213 ⟨fun q => absurd q (by decide), fun _ => ⟨(x_vp (by decide)).mpr (by decide), fun _ => ⟨(x_vp (by decide)).mpr (by decide), fun _ => m_X4_copyFroma (fun n1 => ⟨by rw [f0.1 43 rfl]; exact l0, ?_⟩), fun q => absurd q (by decide), fun q => absurd q (by decide)⟩, fun q => absurd q (by decide), fun q => absurd q (by decide)⟩⟩
  refine b_X7_copyFrom_213 ⟨fun q => absurd q (by decide), fun _ => ⟨(x_vp (by decide)).mpr (by decide), fun q => absurd q (by decide), fun _ => ⟨(x_vp (by decide)).mpr (by decide), fun q => absurd q (by decide), fun _ => m_X4_copyFromb (fun n1 => ⟨by show X.1 47 4 = 0 ∨ X.1 47 4 = 1; rw [f0.1 47 rfl]; exact l1, ?_⟩), fun q => absurd q (by decide)⟩, fun q => absurd q (by decide)⟩⟩
  refine b_X7_copyFrom_213 ⟨fun q => absurd q (by decide), fun _ => ⟨(x_vp (by decide)).mpr (by decide), fun q => absurd q (by decide), fun q => absurd q (by decide), fun _ => ⟨(x_vp (by decide)).mpr (by decide), fun q => absurd q (by decide), fun q => absurd q (by decide), fun _ => m_X4_copyFromc (fun n1 => ⟨by show X.1 51 4 = 0 ∨ X.1 51 4 = 1; rw [f0.1 51 rfl]; exact l2, ?_⟩)⟩⟩⟩
  refine b_X7_copyFrom_213 ⟨fun _ => ?_, fun q => absurd (by decide) q⟩
  refine k _ ((((((((f0.tr (cF.sCp rfl)).tr (cF.sVa rfl)).tr (cF.sVa rfl)).tr (cF.sCp rfl)).tr (cF.sVa rfl)).tr (cF.sVa rfl)).tr (cF.sCp rfl)).tr (cF.sVa rfl) |>.tr (cF.sVa rfl)) (bDr_E hD ⟨fun j h1 h2 => x0 j h1 h2, ?_, ?_, ?_, ?_, ?_⟩)
  · intro a i h1 h2 hi
    have := x1 a i h1 h2 hi
    rcases (show a = 1 ∨ a = 2 ∨ a = 3 ∨ a = 4 by omega) with rfl | rfl | rfl | rfl <;> exact this
  · intro a i h1 h2 hi
    have := x2 a i h1 h2 hi
    rcases (show a = 5 ∨ a = 6 by omega) with rfl | rfl <;> exact this
  · intro a i h1 h2 hi
    have := x3 a i h1 h2 hi
    rcases (show a = 7 ∨ a = 8 ∨ a = 9 by omega) with rfl | rfl | rfl <;> exact this
  · intro a i h1 h2 hi
    have := x4 a i h1 h2 hi
    rcases (show a = 10 ∨ a = 11 by omega) with rfl | rfl <;> exact this
  · intro p hp
    rcases hp with rfl | rfl | rfl
    · refine ⟨congrFun (f0.1 43 rfl) 3, congrFun (f0.1 43 rfl) 4, fun i hi => ?_⟩
      show va_cpy (X.2.2.2.1 44) (X.2.2.2.1 18) 0 0 64 i = S.2.2.2.1 44 i
      rw [sb_cpy0 hi, f0.2.2.1 44 rfl]
    · refine ⟨congrFun (f0.1 47 rfl) 3, congrFun (f0.1 47 rfl) 4, fun i hi => ?_⟩
      show va_cpy (X.2.2.2.1 48) (X.2.2.2.1 22) 0 0 64 i = S.2.2.2.1 48 i
      rw [sb_cpy0 hi, f0.2.2.1 48 rfl]
    · refine ⟨congrFun (f0.1 51 rfl) 3, congrFun (f0.1 51 rfl) 4, fun i hi => ?_⟩
      show va_cpy (X.2.2.2.1 52) (X.2.2.2.1 26) 0 0 64 i = S.2.2.2.1 52 i
      rw [sb_cpy0 hi, f0.2.2.1 52 rfl]
end KEEP

