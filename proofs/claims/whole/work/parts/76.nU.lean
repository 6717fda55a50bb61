/-! ===== drafts of a text; lines ===== -/
abbrev tDP : Type := Nat × (Nat → Int32) × (Nat → Nat) × (Nat → Nat) × (Nat → Nat)
abbrev tDH : Type := Nat × (Nat → Int32) × (Nat → Int32)
abbrev tDT : Type := Nat × (Nat → Nat) × (Nat → Nat) × (Nat → Nat)
abbrev tDD : Type := Nat × (Nat → Nat) × (Nat → Nat)
abbrev tDO : Type := Option Nat × Option Nat
/-- a law: how many knots; each one's kind and number or name -/
abbrev tDQ : Type := Nat × (Nat → Nat × Nat)
abbrev tDL : Type := Nat × (Nat → Option tDQ)
abbrev tDR : Type := tDP × tDH × tDT × tDD × tDO × tDL
/-- places of values, worked out one behind another -/
def stI (st : List Nat) (k j : Nat) : List Nat := if k ≤ 1 then j :: st else if k = 2 then j :: st.tail else j :: st.tail.tail
def ixF (kn : Nat → Nat × Nat) : Nat → List Nat
  | 0 => []
  | j + 1 => stI (ixF kn j) (kn j).1 j
def knR (S : ms_S) (f m : Nat) (kn : Nat → Nat × Nat) : Prop := ∀ j, j < m → a_knot S (64 + (f + j)) = nI (kn j).1 ∧ (kn j).1 ≤ 14 ∧ ((kn j).1 ≤ 1 → a_part S (64 + (f + j)) = nI (kn j).2) ∧ ((kn j).1 = 1 → (kn j).2 < 7) ∧ (kn j).2 ≤ 9999 ∧ ((kn j).1 = 2 → ∃ a r, ixF kn j = a :: r ∧ a_part S (64 + (f + j)) = nI (f + a)) ∧ (3 ≤ (kn j).1 → ∃ c a r, ixF kn j = c :: a :: r ∧ a_part S (64 + (f + j)) = nI (f + a) ∧ a_other S (64 + (f + j)) = nI (f + c))
def mD1 (S : ms_S) (x : tDP) : Prop := x.1 ≤ 9 ∧ S.1 0 17 = nI x.1 ∧ ∀ p, p < x.1 → S.2.2.2.1 5 (9 + p) = x.2.1 p ∧ S.2.2.2.1 6 (9 + p) = nI (x.2.2.1 p) ∧ x.2.2.1 p < 7 ∧ S.2.2.2.1 7 (9 + p) = nI (x.2.2.2.1 p) ∧ x.2.2.2.1 p < 7 ∧ S.2.2.2.1 8 (9 + p) = nI (x.2.2.2.2 p) ∧ x.2.2.2.2 p ≤ 99
def mD2 (S : ms_S) (x : tDH) : Prop := x.1 ≤ 5 ∧ S.1 0 18 = nI x.1 ∧ (∀ h, h < x.1 → S.2.2.2.1 10 (5 + h) = x.2.1 h) ∧ ∀ p, p < 9 → S.2.2.2.1 9 (9 + p) = x.2.2 p ∧ (x.2.2 p = -(nI 2) ∨ ∃ h, h < x.1 ∧ x.2.2 p = nI h)
def mD3 (S : ms_S) (np : Nat) (x : tDT) : Prop := x.1 ≤ 8 ∧ S.1 0 19 = nI x.1 ∧ ∀ t, t < x.1 → S.2.2.2.1 11 (8 + t) = nI (x.2.1 t) ∧ x.2.1 t < np ∧ S.2.2.2.1 12 (8 + t) = nI (x.2.2.1 t) ∧ x.2.2.1 t < np ∧ S.2.2.2.1 13 (8 + t) = nI (x.2.2.2 t) ∧ x.2.2.2 t ≤ 99
def mD4 (S : ms_S) (nh : Nat) (x : tDD) : Prop := x.1 ≤ 10 ∧ S.1 0 20 = nI x.1 ∧ ∀ t, t < x.1 → S.2.2.2.1 14 (10 + t) = nI (x.2.1 t) ∧ x.2.1 t < nh ∧ S.2.2.2.1 15 (10 + t) = nI (x.2.2 t) ∧ x.2.2 t ≤ 99
def mD5 (S : ms_S) (x : tDO) : Prop := S.2.2.2.1 3 0 = bI x.1.isSome ∧ S.2.2.2.1 3 1 = bI x.2.isSome ∧ S.2.2.2.1 4 2 = nI (x.1.getD 2) ∧ 1 ≤ x.1.getD 2 ∧ x.1.getD 2 ≤ 9 ∧ S.2.2.2.1 4 3 = nI (x.2.getD 0) ∧ x.2.getD 0 ≤ 99999
def mD6 (S : ms_S) (x : tDL) : Prop := x.1 ≤ 64 ∧ S.1 0 21 = nI x.1 ∧ S.1 0 46 = nI x.1 ∧ ∀ w, w < 3 → S.2.2.2.1 16 (3 + w) = bI (x.2 w).isSome ∧ ∀ q, x.2 w = some q → ∃ f, S.2.2.2.1 17 (3 + w) = nI f ∧ S.2.2.2.1 18 (3 + w) = nI (f + q.1) ∧ 0 < q.1 ∧ f + q.1 ≤ x.1 ∧ knR S f q.1 q.2 ∧ ixF q.2 q.1 = [q.1 - 1]
def mDr (S : ms_S) (D : tDR) : Prop := mD1 S D.1 ∧ mD2 S D.2.1 ∧ mD3 S D.1.1 D.2.2.1 ∧ mD4 S D.2.1.1 D.2.2.2.1 ∧ mD5 S D.2.2.2.2.1 ∧ mD6 S D.2.2.2.2.2
theorem mD1_F {S S' : ms_S} {x : tDP} (h : mD1 S x) (e : S'.1 0 17 = S.1 0 17) (e5 : S'.2.2.2.1 5 = S.2.2.2.1 5) (e6 : S'.2.2.2.1 6 = S.2.2.2.1 6) (e7 : S'.2.2.2.1 7 = S.2.2.2.1 7) (e8 : S'.2.2.2.1 8 = S.2.2.2.1 8) : mD1 S' x := by
  unfold mD1
  rw [e, e5, e6, e7, e8]
  exact h
theorem mD2_F {S S' : ms_S} {x : tDH} (h : mD2 S x) (e : S'.1 0 18 = S.1 0 18) (e5 : S'.2.2.2.1 10 = S.2.2.2.1 10) (e6 : S'.2.2.2.1 9 = S.2.2.2.1 9) : mD2 S' x := by
  unfold mD2
  rw [e, e5, e6]
  exact h
theorem mD3_F {S S' : ms_S} {n : Nat} {x : tDT} (h : mD3 S n x) (e : S'.1 0 19 = S.1 0 19) (e5 : S'.2.2.2.1 11 = S.2.2.2.1 11) (e6 : S'.2.2.2.1 12 = S.2.2.2.1 12) (e7 : S'.2.2.2.1 13 = S.2.2.2.1 13) : mD3 S' n x := by
  unfold mD3
  rw [e, e5, e6, e7]
  exact h
theorem mD4_F {S S' : ms_S} {n : Nat} {x : tDD} (h : mD4 S n x) (e : S'.1 0 20 = S.1 0 20) (e5 : S'.2.2.2.1 14 = S.2.2.2.1 14) (e6 : S'.2.2.2.1 15 = S.2.2.2.1 15) : mD4 S' n x := by
  unfold mD4
  rw [e, e5, e6]
  exact h
theorem mD5_F {S S' : ms_S} {x : tDO} (h : mD5 S x) (e5 : S'.2.2.2.1 3 = S.2.2.2.1 3) (e6 : S'.2.2.2.1 4 = S.2.2.2.1 4) : mD5 S' x := by
  unfold mD5
  rw [e5, e6]
  exact h
theorem knR_F {S S' : ms_S} {f m : Nat} {kn : Nat → Nat × Nat} (h : knR S f m kn) (e5 : S'.2.2.2.1 19 = S.2.2.2.1 19) (e6 : S'.2.2.2.1 20 = S.2.2.2.1 20) (e7 : S'.2.2.2.1 21 = S.2.2.2.1 21) : knR S' f m kn := by
  unfold knR
  rw [show a_knot S' = a_knot S from e5, show a_part S' = a_part S from e6, show a_other S' = a_other S from e7]
  exact h
theorem mD6_F {S S' : ms_S} {x : tDL} (h : mD6 S x) (e1 : S'.1 0 21 = S.1 0 21) (e2 : S'.1 0 46 = S.1 0 46) (e3 : S'.2.2.2.1 16 = S.2.2.2.1 16) (e4 : S'.2.2.2.1 17 = S.2.2.2.1 17) (e8 : S'.2.2.2.1 18 = S.2.2.2.1 18) (e5 : S'.2.2.2.1 19 = S.2.2.2.1 19) (e6 : S'.2.2.2.1 20 = S.2.2.2.1 20) (e7 : S'.2.2.2.1 21 = S.2.2.2.1 21) : mD6 S' x := by
  unfold mD6
  rw [e1, e2, e3, e4, e8]
  refine ⟨h.1, h.2.1, h.2.2.1, fun w hw => ⟨(h.2.2.2 w hw).1, fun q hq => ?_⟩⟩
  obtain ⟨f, z1, z2, z3, z4, z5, z6⟩ := (h.2.2.2 w hw).2 q hq
  exact ⟨f, z1, z2, z3, z4, knR_F z5 e5 e6 e7, z6⟩
theorem mDr_G {F : Nat → Bool} {S S' : ms_S} {D : tDR} (h : mE F fN S S') (h17 : F 17 = false) (h18 : F 18 = false) (h19 : F 19 = false) (h20 : F 20 = false) (h21 : F 21 = false) (h46 : F 46 = false) (hD : mDr S D) : mDr S' D := by
  have a := fun k => h.2.2.2.1 k rfl
  exact ⟨mD1_F hD.1 (h.1 0 17 (Or.inr h17)) (a 5) (a 6) (a 7) (a 8), mD2_F hD.2.1 (h.1 0 18 (Or.inr h18)) (a 10) (a 9), mD3_F hD.2.2.1 (h.1 0 19 (Or.inr h19)) (a 11) (a 12) (a 13), mD4_F hD.2.2.2.1 (h.1 0 20 (Or.inr h20)) (a 14) (a 15), mD5_F hD.2.2.2.2.1 (a 3) (a 4), mD6_F hD.2.2.2.2.2 (h.1 0 21 (Or.inr h21)) (h.1 0 46 (Or.inr h46)) (a 16) (a 17) (a 18) (a 19) (a 20) (a 21)⟩
theorem fQT (k : Nat) (h : fT k = false) : fQ k = false := by
  unfold fT at h
  unfold fQ
  simp only [Bool.or_eq_false_iff] at h ⊢
  have h4 := h.1.1.2
  cases hb : Nat.ble 4 k with
  | false =>
    have hk : ¬ 4 ≤ k := fun z => by rw [Nat.ble_eq_true_of_le z] at hb; cases hb
    refine ⟨⟨?_, ?_⟩, ?_⟩
    · cases z : Nat.beq k 4 with
      | false => rfl
      | true => have := Nat.eq_of_beq_eq_true z; omega
    · cases z : Nat.beq k 5 with
      | false => rfl
      | true => have := Nat.eq_of_beq_eq_true z; omega
    · cases z : Nat.ble 7 k with
      | false => rfl
      | true => have := Nat.le_of_ble_eq_true z; omega
  | true =>
    rw [hb, Bool.true_and] at h4
    have hk : ¬ k ≤ 11 := fun z => by rw [Nat.ble_eq_true_of_le z] at h4; cases h4
    refine ⟨⟨?_, ?_⟩, ?_⟩
    · cases z : Nat.beq k 4 with
      | false => rfl
      | true => have := Nat.eq_of_beq_eq_true z; omega
    · cases z : Nat.beq k 5 with
      | false => rfl
      | true => have := Nat.eq_of_beq_eq_true z; omega
    · rw [h4, Bool.and_false]
theorem mE.Lo {S S' : ms_S} (h : mE fQ fN S S') : mLo S S' := ⟨fun k q => h.1 0 k (Or.inr (fQT k q)), h.2.1, fun a i _ => congrFun (h.2.2.2.1 a rfl) i⟩
/-- while reading: the draft D, at token i -/
def mPz (S0 : ms_S) (b : Nat → Nat) (n : Nat) (D : tDR) (i : Nat) (S : ms_S) : Prop := mLo S0 S ∧ (m_tapeSize S = nI 0 ∧ m_thrown S = nI 0 ∧ m_fault S = nI 0 ∧ m_faultPlace S = -(nI 1)) ∧ mCu S b n i ∧ mDr S D
def mEr (S0 : ms_S) (f p : Nat) (S : ms_S) : Prop := mLo S0 S ∧ m_tapeSize S = nI 0 ∧ m_thrown S = nI 0 ∧ m_fault S = nI f ∧ m_faultPlace S = nI p
/-- what stays while a line is read -/
def mKp (S0 S : ms_S) : Prop := mLo S0 S ∧ (m_tapeSize S = nI 0 ∧ m_thrown S = nI 0 ∧ m_fault S = nI 0 ∧ m_faultPlace S = -(nI 1))
theorem mKp_G {S0 S S' : ms_S} (h : mKp S0 S) (x : mE fG fN S S') : mKp S0 S' := ⟨h.1.tr x.GQ.Lo, (x.1 0 1 (Or.inr rfl)).trans h.2.1, (x.1 0 2 (Or.inr rfl)).trans h.2.2.1, (x.1 0 4 (Or.inr rfl)).trans h.2.2.2.1, (x.1 0 5 (Or.inr rfl)).trans h.2.2.2.2⟩
theorem mKp_A {S0 S : ms_S} {a i : Nat} {x : Int32} (h : mKp S0 S) (ha : loB a ≤ i) : mKp S0 (sA S a i x) := ⟨h.1.tr (mLo.sA ha), h.2⟩
theorem mEr_Q {S0 S S' : ms_S} {f p : Nat} (h : mKp S0 S) (x : mE fQ fN S S') (hf : m_fault S' = nI f) (hp : m_faultPlace S' = nI p) : mEr S0 f p S' := ⟨h.1.tr x.Lo, (x.1 0 1 (Or.inr rfl)).trans h.2.1, (x.1 0 2 (Or.inr rfl)).trans h.2.2.1, hf, hp⟩
def bE {α β : Type} (x : Except (Nat × Nat) α) (f : α → Except (Nat × Nat) β) : Except (Nat × Nat) β := match x with
  | .error e => .error e
  | .ok a => f a
theorem bE_ok {α β : Type} {a : α} {f : α → Except (Nat × Nat) β} : bE (.ok a) f = f a := rfl
theorem bE_er {α β : Type} {e : Nat × Nat} {f : α → Except (Nat × Nat) β} : bE (.error e) f = .error e := rfl
def up {α : Type} (f : Nat → α) (k : Nat) (x : α) : Nat → α := fun j => if j = k then x else f j
theorem up_at {α : Type} {f : Nat → α} {k : Nat} {x : α} : up f k x k = x := if_pos rfl
theorem up_no {α : Type} {f : Nat → α} {k j : Nat} {x : α} (h : ¬ j = k) : up f k x j = f j := if_neg h
def pPiece (b : Nat → Nat) (n : Nat) (D : tDR) (i : Nat) : Except (Nat × Nat) (tDR × Nat) :=
  if D.1.1 = 9 then .error (2, tkP b n i) else bE (pNew b n D.1.2.1 D.1.1 (tkN b n i)) (fun r => bE (pNum b n 0 6 r.2) (fun x => bE (pNum b n 0 6 x.2) (fun y => bE (pNum b n 0 99 y.2) (fun w => .ok (((D.1.1 + 1, up D.1.2.1 D.1.1 (nI r.1), up D.1.2.2.1 D.1.1 x.1, up D.1.2.2.2.1 D.1.1 y.1, up D.1.2.2.2.2 D.1.1 w.1), D.2), w.2)))))
theorem u_tok (G : ab_G) (fr : Bool) (S : ms_S) (tl : ab_H) (b : Nat → Nat) (n i : Nat) (h : mCu S b n i) (K : ms_S → Prop) (k : ∀ S', mE fG fN S S' → mCu S' b n (tkN b n i) → K S') : ctU G 2 M_X12_token fr [.ref 0] lM S tl K := u_token G fr S S tl b n i h h.1 rfl K (fun S' x1 x2 => k S' x1.KG x2)
theorem mCu_A {S : ms_S} {b : Nat → Nat} {n i a j : Nat} {x : Int32} (h : mCu S b n i) (h1 : aO a 1 = false) (h2 : aO a 2 = false) : mCu (sA S a j x) b n i := ⟨mTt_Q (A := aO a) (mE.sA (by unfold aO; exact Nat.beq_refl a)) h1 h2 h.1, h.2.1, h.2.2⟩
theorem c_pieceLine (G : ab_G) (fr : Bool) (S0 S : ms_S) (tl : ab_H) (b : Nat → Nat) (n i : Nat) (D : tDR) (h : mPz S0 b n D i S) (K : Int32 → ms_S → Prop)
    (kE : ∀ S' f p, pPiece b n D i = .error (f, p) → mEr S0 f p S' → K (nI 0) S')
    (kO : ∀ S' D' j, pPiece b n D i = .ok (D', j) → mPz S0 b n D' j S' → K (nI 1) S') : ctI G 4 M_X12_pieceLine fr [.ref 0] lM S tl K := by
  obtain ⟨z1, z2, z3, ⟨d1, d2, d3, d4, d5, d6⟩⟩ := h
  have zk : mKp S0 S := ⟨z1, z2⟩
  obtain ⟨q1, q2, q3⟩ := id d1
  refine m_X12_pieceLine (fun n0 => ?_)
  rw [q2, nI_eq (by omega) (by decide)]
  refine ⟨fun h9 => u_wrong G fr S tl 2 _ z3.2.2.2.2.1 _ (fun S' x1 x2 x3 => ⟨Or.inl rfl, kE S' _ _ (by unfold pPiece; rw [if_pos h9]) (mEr_Q zk x1 x2 x3)⟩), fun h9 => ?_⟩
  refine u_tok G fr S tl b n i z3 _ (fun S2 m2 c2 => ?_)
  have e2 : S2.1 0 17 = nI D.1.1 := (m2.1 0 17 (Or.inr rfl)).trans q2
  rw [e2]
  have k2 := mKp_G zk m2
  refine u_newP G fr S2 tl b n _ 9 D.1.1 D.1.2.1 c2 (fun k hk => (congrFun (m2.2.2.2.1 5 rfl) _).trans (q3 k hk).1) (by omega) _ (fun S' x p hx x1 x2 x3 => ⟨fun _ => kE S' _ _ (by simp only [pPiece, if_neg h9, hx, bE_er]) (mEr_Q k2 x1 x2 x3), fun z => absurd rfl z⟩) (fun S3 v i2 hv m3 c3 => ⟨fun z => absurd z (by decide), fun _ => ?_⟩)
  have k3 := mKp_G (mKp_A k2 (show 9 ≤ 9 + D.1.1 by omega)) m3
  have e3 : S3.1 0 17 = nI D.1.1 := (m3.1 0 17 (Or.inr rfl)).trans e2
  rw [e3, nI_add, nI_clamp (by omega)]
  have hv9 : vp_in (nI (9 + D.1.1)) 18 := (x_vp (by omega)).mpr (by omega)
  refine u_number G fr S3 tl b n i2 0 6 c3 (by decide) (by decide) _ (fun S' x p hx x1 x2 x3 => ⟨fun _ => kE S' _ _ (by simp only [pPiece, if_neg h9, hv, bE_ok, hx, bE_er]) (mEr_Q k3 x1 x2 x3), fun z => absurd rfl z⟩) (fun S4 x i3 hx _ hx6 m4 c4 g4 => ⟨fun z => absurd z (by decide), fun _ => ⟨hv9, ?_⟩⟩)
  have k4 := mKp_G k3 m4
  refine u_number G fr _ tl b n i3 0 6 (mCu_A c4 rfl rfl) (by decide) (by decide) _ (fun S' y p hy x1 x2 x3 => ⟨fun _ => kE S' _ _ (by simp only [pPiece, if_neg h9, hv, bE_ok, hx, hy, bE_er]) (mEr_Q (mKp_A k4 (show 9 ≤ 9 + D.1.1 by omega)) x1 x2 x3), fun z => absurd rfl z⟩) (fun S5 y i4 hy _ hy6 m5 c5 g5 => ⟨fun z => absurd z (by decide), fun _ => ⟨hv9, ?_⟩⟩)
  have k5 := mKp_G (mKp_A k4 (show 9 ≤ 9 + D.1.1 by omega)) m5
  refine u_number G fr _ tl b n i4 0 99 (mCu_A c5 rfl rfl) (by decide) (by decide) _ (fun S' w p hw x1 x2 x3 => ⟨fun _ => kE S' _ _ (by simp only [pPiece, if_neg h9, hv, bE_ok, hx, hy, hw, bE_er]) (mEr_Q (mKp_A k5 (show 9 ≤ 9 + D.1.1 by omega)) x1 x2 x3), fun z => absurd rfl z⟩) (fun S6 w i5 hw _ hw99 m6 c6 g6 => ⟨fun z => absurd z (by decide), fun _ => ⟨hv9, ?_⟩⟩)
  have k6 := mKp_G (mKp_A k5 (show 9 ≤ 9 + D.1.1 by omega)) m6
  refine kO _ _ _ (by simp only [pPiece, if_neg h9, hv, bE_ok, hx, hy, hw]; rfl) ?_
  have k7 := mKp_A (x := S6.1 0 11) k6 (show loB 8 ≤ 9 + D.1.1 from (show 9 ≤ 9 + D.1.1 by omega))
  have a5 : S6.2.2.2.1 5 = upd (S.2.2.2.1 5) (9 + D.1.1) (nI v) := by
    rw [m6.2.2.2.1 5 rfl]
    show S5.2.2.2.1 5 = _
    rw [m5.2.2.2.1 5 rfl]
    show S4.2.2.2.1 5 = _
    rw [m4.2.2.2.1 5 rfl, m3.2.2.2.1 5 rfl]
    show upd (S2.2.2.2.1 5) _ _ = _
    rw [m2.2.2.2.1 5 rfl]
  have a6 : S6.2.2.2.1 6 = upd (S.2.2.2.1 6) (9 + D.1.1) (nI x) := by
    rw [m6.2.2.2.1 6 rfl]
    show S5.2.2.2.1 6 = _
    rw [m5.2.2.2.1 6 rfl]
    show upd (S4.2.2.2.1 6) _ (S4.1 0 11) = _
    rw [show S4.1 0 11 = nI x from g4, m4.2.2.2.1 6 rfl, m3.2.2.2.1 6 rfl]
    show upd (S2.2.2.2.1 6) _ _ = _
    rw [m2.2.2.2.1 6 rfl]
  have a7 : S6.2.2.2.1 7 = upd (S.2.2.2.1 7) (9 + D.1.1) (nI y) := by
    rw [m6.2.2.2.1 7 rfl]
    show upd (S5.2.2.2.1 7) _ (S5.1 0 11) = _
    rw [show S5.1 0 11 = nI y from g5, m5.2.2.2.1 7 rfl]
    show upd (S4.2.2.2.1 7) _ _ = _
    rw [m4.2.2.2.1 7 rfl, m3.2.2.2.1 7 rfl]
    show upd (S2.2.2.2.1 7) _ _ = _
    rw [m2.2.2.2.1 7 rfl]
  have a8 : S6.2.2.2.1 8 = S.2.2.2.1 8 := by
    rw [m6.2.2.2.1 8 rfl]
    show S5.2.2.2.1 8 = _
    rw [m5.2.2.2.1 8 rfl]
    show S4.2.2.2.1 8 = _
    rw [m4.2.2.2.1 8 rfl, m3.2.2.2.1 8 rfl]
    show S2.2.2.2.1 8 = _
    rw [m2.2.2.2.1 8 rfl]
  have ao : ∀ a, aO 5 a = false → aO 6 a = false → aO 7 a = false → S6.2.2.2.1 a = S.2.2.2.1 a := fun a z5 z6 z7 => by
    rw [m6.2.2.2.1 a rfl, (mE.sA (F := fN) (A := aO 7) (S := S5) (by rfl)).2.2.2.1 a z7, m5.2.2.2.1 a rfl, (mE.sA (F := fN) (A := aO 6) (S := S4) (by rfl)).2.2.2.1 a z6, m4.2.2.2.1 a rfl, m3.2.2.2.1 a rfl, (mE.sA (F := fN) (A := aO 5) (S := S2) (by rfl)).2.2.2.1 a z5, m2.2.2.2.1 a rfl]
  have fo : ∀ k, fG k = false → S6.1 0 k = S.1 0 k := fun k hk => by
    rw [m6.1 0 k (Or.inr hk)]
    show S5.1 0 k = _
    rw [m5.1 0 k (Or.inr hk)]
    show S4.1 0 k = _
    rw [m4.1 0 k (Or.inr hk), m3.1 0 k (Or.inr hk)]
    show S2.1 0 k = _
    rw [m2.1 0 k (Or.inr hk)]
  rw [show S6.1 0 17 = nI D.1.1 from (fo 17 rfl).trans q2, nI_add]
  have cA : mCu (sA S6 8 (9 + D.1.1) (S6.1 0 11)) b n i5 := mCu_A c6 rfl rfl
  refine ⟨k7.1.tr (mLo.sV rfl), k7.2, cA, ⟨show D.1.1 + 1 ≤ 9 by omega, rfl, fun p hp => ?_⟩, mD2_F d2 (fo 18 rfl) (ao 10 rfl rfl rfl) (ao 9 rfl rfl rfl), ?_, mD4_F d4 (fo 20 rfl) (ao 14 rfl rfl rfl) (ao 15 rfl rfl rfl), mD5_F d5 (ao 3 rfl rfl rfl) (ao 4 rfl rfl rfl), mD6_F d6 (fo 21 rfl) (fo 46 rfl) (ao 16 rfl rfl rfl) (ao 17 rfl rfl rfl) (ao 18 rfl rfl rfl) (ao 19 rfl rfl rfl) (ao 20 rfl rfl rfl) (ao 21 rfl rfl rfl)⟩
  · show S6.2.2.2.1 5 (9 + p) = up D.1.2.1 D.1.1 (nI v) p ∧ S6.2.2.2.1 6 (9 + p) = nI (up D.1.2.2.1 D.1.1 x p) ∧ up D.1.2.2.1 D.1.1 x p < 7 ∧ S6.2.2.2.1 7 (9 + p) = nI (up D.1.2.2.2.1 D.1.1 y p) ∧ up D.1.2.2.2.1 D.1.1 y p < 7 ∧ upd (S6.2.2.2.1 8) (9 + D.1.1) (S6.1 0 11) (9 + p) = nI (up D.1.2.2.2.2 D.1.1 w p) ∧ up D.1.2.2.2.2 D.1.1 w p ≤ 99
    rw [a5, a6, a7, a8, show S6.1 0 11 = nI w from g6]
    by_cases z : p = D.1.1
    · subst z
      rw [upd_at, upd_at, upd_at, upd_at, up_at, up_at, up_at, up_at]
      exact ⟨rfl, rfl, by omega, rfl, by omega, rfl, by omega⟩
    · rw [upd_no (by omega), upd_no (by omega), upd_no (by omega), upd_no (by omega), up_no z, up_no z, up_no z, up_no z]
      exact q3 p (by
        have : p < D.1.1 + 1 := hp
        omega)
  · have d3' : mD3 _ D.1.1 D.2.2.1 := mD3_F (S' := sV (sA S6 8 (9 + D.1.1) (S6.1 0 11)) 17 (nI (D.1.1 + 1))) d3 (fo 19 rfl) (ao 11 rfl rfl rfl) (ao 12 rfl rfl rfl) (ao 13 rfl rfl rfl)
    exact ⟨d3'.1, d3'.2.1, fun t ht => ⟨(d3'.2.2 t ht).1, Nat.lt_succ_of_lt (d3'.2.2 t ht).2.1, (d3'.2.2 t ht).2.2.1, Nat.lt_succ_of_lt (d3'.2.2 t ht).2.2.2.1, (d3'.2.2 t ht).2.2.2.2⟩⟩
