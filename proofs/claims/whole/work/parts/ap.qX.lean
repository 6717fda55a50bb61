/-! ===== the program: an estate copied; notes written ===== -/
def aCp : Nat → Bool := fun a => Nat.ble a 3
section CORE23
variable {G : ab_G} {S : ms_S} {tl : ab_H} {P : tPL} {N : tN}
theorem u_copy (fr : Bool) (K : ms_S → Prop) (k : ∀ S', cF aCp S S' → (∀ i, i < 5 → S'.2.2.2.1 1 i = S.2.2.2.1 5 i ∧ S'.2.2.2.1 2 i = S.2.2.2.1 6 i ∧ S'.2.2.2.1 3 i = S.2.2.2.1 7 i) → (∀ j, 3 ≤ j → j ≤ 7 → S'.1 0 j = S.1 4 j) → K S') : ctU G 1 M_X1_copyFrom fr [.ref 0, .ref 4] lE2 S tl K := by
  refine m_X1_copyFrom (fun n0 => ?_)
  suffices KL : ∀ t i (X : ms_S), i + t = 5 → cF aCp S X → (∀ j, j < i → X.2.2.2.1 1 j = S.2.2.2.1 5 j ∧ X.2.2.2.1 2 j = S.2.2.2.1 6 j ∧ X.2.2.2.1 3 j = S.2.2.2.1 7 j) → L_X1_copyFrom_2 G fr n0 tl K X (nI i) from KL 5 0 S rfl cF.rf (fun j hj => absurd hj (Nat.not_lt_zero _))
  intro t
  induction t with
  | zero =>
    intro i X hi x1 x2
    have hi : i = 5 := hi
    subst hi
    refine b_X1_copyFrom_2 ⟨fun _ => k _ (((((x1.tr (cF.sVa rfl)).tr (cF.sVa rfl)).tr (cF.sVa rfl)).tr (cF.sVa rfl)).tr (cF.sVa rfl)) x2 (fun j h1 h2 => ?_), fun z => absurd (Int32.le_refl _) z⟩
    have e4 : X.1 4 = S.1 4 := x1.1 4 rfl
    rcases (show j = 3 ∨ j = 4 ∨ j = 5 ∨ j = 6 ∨ j = 7 by omega) with e | e | e | e | e
    · rw [e]; exact congrFun e4 3
    · rw [e]; exact congrFun e4 4
    · rw [e]; exact congrFun e4 5
    · rw [e]; exact congrFun e4 6
    · rw [e]; exact congrFun e4 7
  | succ t ih =>
    intro i X hi x1 x2
    have hv : vp_in (nI i) 5 := (x_vp (by omega)).mpr (by omega)
    refine b_X1_copyFrom_2 ?_
    rw [nI_leI (by decide) (by omega), show (nI i).toNatClampNeg = i from nI_clamp (by omega), nI_add]
    refine ⟨fun z => absurd z (by omega), fun _ => ⟨hv, hv, hv, hv, hv, hv, ih (i + 1) _ (by omega) (((x1.tr (cF.sA rfl)).tr (cF.sA rfl)).tr (cF.sA rfl)) (fun j hj => ?_)⟩⟩
    show upd (X.2.2.2.1 1) i (X.2.2.2.1 5 i) j = _ ∧ upd (X.2.2.2.1 2) i (X.2.2.2.1 6 i) j = _ ∧ upd (X.2.2.2.1 3) i (X.2.2.2.1 7 i) j = _
    by_cases e : j = i
    · rw [e, pk_us, pk_us, pk_us]
      exact ⟨congrFun (x1.2.2.1 5 rfl) i, congrFun (x1.2.2.1 6 rfl) i, congrFun (x1.2.2.1 7 rfl) i⟩
    · rw [pk_un e, pk_un e, pk_un e]
      exact x2 j (by omega)
def aNt : Nat → Bool := fun a => Nat.ble 40 a && Nat.ble a 45
/-- a note more -/
def ntMo (N : tN) (x : tE) : tN := (N.1 + 1, N.2.1, fun k => if k = N.1 then x else N.2.2 k)
theorem u_write (hN : bNt S P N) (x : tE) (i3 i4 i5 : Int32) (hx : ntOk P N.1 x) (h3 : x.1 = 1 ∨ x.1 = 2 → i3 = nI x.2.2.1) (h4 : x.1 = 2 → i4 = nI x.2.2.2.1) (h5 : ¬ x.1 = 3 → i5 = bI x.2.2.2.2) (K : Int32 → ms_S → Prop) (k : ∀ S', cF aNt S S' → bNt S' P (if N.1 < 24 then ntMo N x else N) → K (if N.1 < 24 then nI N.1 else -(nI 1)) S') : ctI G 1 M_X6_write false [.ref 40, .int (nI x.1), .int (nI x.2.1), .int i3, .int i4, .int i5] lC S tl K := by
  obtain ⟨n1, n2, n3, n4, n5⟩ := id hN
  refine m_X6_write (fun n0 => ?_)
  rw [n2, nI_ltI (by omega) (by decide)]
  refine ⟨fun z => ?_, fun z => ?_⟩
  · have hv : vp_in (nI N.1) 24 := (x_vp (by omega)).mpr z
    rw [if_pos z, if_pos z] at k
    rw [show (nI N.1).toNatClampNeg = N.1 from nI_clamp (by omega), nI_add, show nI (N.1 + 1) - nI 1 = nI N.1 from by rw [pk_sub (by omega)]; rfl]
    refine ⟨hv, hv, hv, hv, hv, k _ ((((((cF.sA rfl).tr (cF.sA rfl)).tr (cF.sA rfl)).tr (cF.sA rfl)).tr (cF.sA rfl)).tr (cF.sVa rfl)) ⟨by show N.1 + 1 ≤ 24; omega, rfl, n3, ?_, fun q hq => ?_⟩⟩
    · rcases n4 with w | ⟨j, j1, j2⟩
      · exact Or.inl w
      · exact Or.inr ⟨j, by show j ≤ N.1 + 1; omega, j2⟩
    · show upd (S.2.2.2.1 41) N.1 _ q = nI (if q = N.1 then x else N.2.2 q).1 ∧ upd (S.2.2.2.1 42) N.1 _ q = nI (if q = N.1 then x else N.2.2 q).2.1 ∧ ((if q = N.1 then x else N.2.2 q).1 = 1 ∨ (if q = N.1 then x else N.2.2 q).1 = 2 → upd (S.2.2.2.1 43) N.1 _ q = nI (if q = N.1 then x else N.2.2 q).2.2.1) ∧ ((if q = N.1 then x else N.2.2 q).1 = 2 → upd (S.2.2.2.1 44) N.1 _ q = nI (if q = N.1 then x else N.2.2 q).2.2.2.1) ∧ (¬ (if q = N.1 then x else N.2.2 q).1 = 3 → upd (S.2.2.2.1 45) N.1 _ q = bI (if q = N.1 then x else N.2.2 q).2.2.2.2) ∧ ntOk P q (if q = N.1 then x else N.2.2 q)
      by_cases e : q = N.1
      · rw [e, if_pos rfl, pk_us, pk_us, pk_us, pk_us, pk_us]
        refine ⟨rfl, rfl, h3, h4, fun w => ?_, hx⟩
        rw [h5 w]
        cases x.2.2.2.2 <;> decide
      · have hq : q < N.1 + 1 := hq
        rw [if_neg e, pk_un e, pk_un e, pk_un e, pk_un e, pk_un e]
        exact n5 q (by omega)
  · rw [if_neg z, if_neg z] at k
    exact k S cF.rf hN
end CORE23

