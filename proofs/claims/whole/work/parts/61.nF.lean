/-! ===== the reference: how many rows ===== -/
theorem aOZ {a : Nat} (h : aZ a = true) (k : Nat) (hk : aZ k = false) : aO a k = false := by
  unfold aO
  cases hb : Nat.beq k a with
  | false => rfl
  | true =>
    have := Nat.eq_of_beq_eq_true hb
    subst this
    rw [h] at hk
    cases hk
theorem oZ {a : Nat} {S S' : ms_S} (ha : aZ a = true) (h : mE fN (aO a) S S') : mZ S S' := ⟨(h.mono (F' := fZ) (A' := aZ) (fun _ _ => rfl) (aOZ ha)).B (fun a q => aZQ a q), h.2.1⟩
theorem mPL_O {a : Nat} {S S' : ms_S} {P : tPL} (ha : aZ a = true) (h : mE fN (aO a) S S') (hP : mPL S P) : mPL S' P := mPL_mZ (oZ ha h).1 hP
theorem nu_rest {set p : Nat} (hs : set < 512) (hp : p < 9) (hb : set.testBit p = true) : nI set &&& ((nI 1 <<< (nI p &&& 31)) ^^^ -(nI 1)) = nI (set - 2 ^ p) := by
  rw [nu_1shl (by omega), nu_clr set hs p hp, if_pos hb]
theorem updL_at {f : Nat → Int64} {i : Nat} {x : Int64} : vp_updL f i x i = x := if_pos rfl
theorem updL_no {f : Nat → Int64} {i j : Nat} {x : Int64} (h : ¬ j = i) : vp_updL f i x j = f j := if_neg h
theorem lN_0r (a : Int64) : a + lN 0 = a := Int64.add_zero a
theorem c_waysWith (G : ab_G) (fr : Bool) (S : ms_S) (tl : ab_H) (P : tPL) (p : Nat) (hP : mPL S P) (hp : p < P.1) :
    ctI G 1 M_X12_waysWith fr [.ref 0, .int (nI p)] lM S tl (fun v S' => v = (if P.2.2.1 p = P.2.2.2.1 p then nI 1 else nI 2) ∧ S' = S) := by
  refine ctI.ab (fun K hK => m_X12_waysWith (fun n0 => ?_))
  obtain ⟨q1, q2, q3, q4, q5, q6⟩ := id hP
  obtain ⟨e1, e2, e3, e4, e5, e6⟩ := q5 p hp
  have e1 : S.2.2.2.1 6 p = nI (P.2.2.1 p) := e1
  have e3 : S.2.2.2.1 7 p = nI (P.2.2.2.1 p) := e3
  simp (disch := omega) only [x_vp, x_lt0, x_0le, x_eq0, x_0lt, x_le0, x_b0, x_b1, nI_leI, nI_ltI, nI_eq, nI_add, pk_mul, nI_clamp, true_and, and_true, true_implies, false_implies, implies_true, not_true_eq_false, not_false_eq_true, e1, e3]
  exact ⟨by omega, by omega, fun q => hK _ _ ⟨by rw [if_pos q], rfl⟩, fun q => hK _ _ ⟨by rw [if_neg q], rfl⟩⟩
/-- rows of a set behind end e, by their first piece; T says it of lesser sets -/
def wxN (one oth : Nat → Nat) (jb : Nat → Nat) (T : Nat → Nat → Nat) (set e : Nat) : Nat → Nat
  | 0 => 0
  | p + 1 => if set.testBit p = true then (wxN one oth jb T set e p + (if (jb e).testBit (one p) = true then T (set - 2 ^ p) (oth p) else 0)) + (if ¬ one p = oth p ∧ (jb e).testBit (oth p) = true then T (set - 2 ^ p) (one p) else 0) else wxN one oth jb T set e p
theorem wxN_congr {one oth jb : Nat → Nat} {T T' : Nat → Nat → Nat} {set e : Nat} (h : ∀ q, q < set → ∀ x, T q x = T' q x) : ∀ p, wxN one oth jb T set e p = wxN one oth jb T' set e p
  | 0 => rfl
  | p + 1 => by
    unfold wxN
    rw [wxN_congr h p]
    by_cases hb : set.testBit p = true
    · have h1 := tb_sub hb
      have h2 : 0 < 2 ^ p := Nat.pow_pos (by decide)
      have h3 := h (set - 2 ^ p) (by omega)
      rw [if_pos hb, if_pos hb, h3, h3]
    · rw [if_neg hb, if_neg hb]
def wyF (P : tPL) (jb : Nat → Nat) (en : Nat) : Nat → Nat → Nat → Nat
  | 0, _, _ => 0
  | n + 1, set, e => if set = 0 then (if en.testBit e = true then 1 else 0) else wxN P.2.2.1 P.2.2.2.1 jb (wyF P jb en n) set e P.1
theorem wyF_st (P : tPL) (jb : Nat → Nat) (en : Nat) : ∀ n m set, set < n → set < m → ∀ e, wyF P jb en n set e = wyF P jb en m set e
  | 0, _, _, h, _ => by omega
  | _, 0, _, _, h => by omega
  | n + 1, m + 1, set, h1, h2 => by
    intro e
    unfold wyF
    rw [wxN_congr (fun q hq => wyF_st P jb en n m q (by omega) (by omega))]
def wyT (P : tPL) (jb : Nat → Nat) (en set e : Nat) : Nat := wyF P jb en (set + 1) set e
theorem wyT_0 (P : tPL) (jb : Nat → Nat) (en e : Nat) : wyT P jb en 0 e = if en.testBit e = true then 1 else 0 := rfl
theorem wyT_eq (P : tPL) (jb : Nat → Nat) (en set e : Nat) (h : ¬ set = 0) : wyT P jb en set e = wxN P.2.2.1 P.2.2.2.1 jb (wyT P jb en) set e P.1 := by
  show (if set = 0 then _ else _) = _
  rw [if_neg h]
  exact wxN_congr (fun q hq => wyF_st P jb en set (q + 1) q hq (by omega)) _
def mWY (S : ms_S) (P : tPL) (jb : Nat → Nat) (en : Nat) : Prop := ∀ set, set < 2 ^ P.1 → ∀ e, e < 7 → S.2.2.2.2 34 (7 * set + e) = lN (wyT P jb en set e)
theorem p2_9 {n : Nat} (h : n ≤ 9) : 2 ^ n ≤ 512 := Nat.pow_le_pow_right (n := 2) (by decide) h
theorem c_layWays (G : ab_G) (fr : Bool) (S : ms_S) (tl : ab_H) (P : tPL) (jb : Nat → Nat) (en : Nat) (hP : mPL S P) (hj : ∀ e, e < 7 → a_joined S e = nI (jb e) ∧ jb e < 2 ^ 7) (hen : en < 2 ^ 7) :
    ctU G 2 M_X12_layWays fr [.ref 0, .int (nI en)] lM S tl (fun S' => mE fN (aO 34) S S' ∧ mWY S' P jb en) := by
  refine ctU.ab (fun K hK => m_X12_layWays (fun n0 => ?_))
  have hp9 := hP.1
  have h512 := p2_9 hp9
  have K2 : ∀ d set (X : ms_S), set + d = 2 ^ P.1 → 1 ≤ set → mE fN (aO 34) S X → (∀ q, q < set → ∀ e, e < 7 → X.2.2.2.2 34 (7 * q + e) = lN (wyT P jb en q e)) → L_X12_layWays_35 G fr n0 tl K X (nI set) := by
    intro d
    induction d with
    | zero =>
      intro set X hd h1 x1 x2
      have e12 : X.1 0 12 = nI P.1 := (x1.1 0 12 (Or.inr rfl)).trans hP.2.2.1
      refine b_X12_layWays_35 ?_
      rw [e12, nu_1shl (by omega)]
      simp (disch := omega) only [x_vp, x_lt0, x_0le, x_eq0, x_0lt, x_le0, x_b0, x_b1, nI_leI, nI_ltI, nI_eq, nI_add, pk_mul, nI_clamp, true_and, and_true, true_implies, false_implies, implies_true, not_true_eq_false, not_false_eq_true]
      exact ⟨fun _ => hK _ ⟨x1, fun q hq => x2 q (by omega)⟩, fun q => absurd q (by omega)⟩
    | succ d ih =>
      intro set X hd h1 x1 x2
      have e12 : X.1 0 12 = nI P.1 := (x1.1 0 12 (Or.inr rfl)).trans hP.2.2.1
      refine b_X12_layWays_35 ?_
      rw [e12, nu_1shl (by omega)]
      simp (disch := omega) only [x_vp, x_lt0, x_0le, x_eq0, x_0lt, x_le0, x_b0, x_b1, nI_leI, nI_ltI, nI_eq, nI_add, pk_mul, nI_clamp, true_and, and_true, true_implies, false_implies, implies_true, not_true_eq_false, not_false_eq_true]
      refine ⟨fun q => absurd q (by omega), fun _ => ?_⟩
      have K3 : ∀ d e (X : ms_S), e + d = 7 → mE fN (aO 34) S X → (∀ q, q < set → ∀ e, e < 7 → X.2.2.2.2 34 (7 * q + e) = lN (wyT P jb en q e)) → (∀ x, x < e → X.2.2.2.2 34 (7 * set + x) = lN (wyT P jb en set x)) → L_X12_layWays_47 G fr n0 tl K X (nI set) (nI e) := by
        intro d
        induction d with
        | zero =>
          intro e X hd x1 x2 x3
          refine b_X12_layWays_47 ?_
          simp (disch := omega) only [x_vp, x_lt0, x_0le, x_eq0, x_0lt, x_le0, x_b0, x_b1, nI_leI, nI_ltI, nI_eq, nI_add, pk_mul, nI_clamp, true_and, and_true, true_implies, false_implies, implies_true, not_true_eq_false, not_false_eq_true]
          refine ⟨fun _ => ih (set + 1) X (by omega) (by omega) x1 (fun q hq x hx => ?_), fun q => absurd q (by omega)⟩
          by_cases z : q = set
          · rw [z]
            exact x3 x (by omega)
          · exact x2 q (by omega) x hx
        | succ d ihe =>
          intro e X hd x1 x2 x3
          have hPX := mPL_O (S := S) rfl x1 hP
          obtain ⟨q1, q2, q3, q4, q5, q6⟩ := id hPX
          have e12 : X.1 0 12 = nI P.1 := q3
          obtain ⟨j1, j2⟩ := hj e (by omega)
          have e31 : X.2.2.2.1 31 e = nI (jb e) := (congrFun (x1.2.2.2.1 31 rfl) e).trans j1
          refine b_X12_layWays_47 ?_
          simp (disch := omega) only [x_vp, x_lt0, x_0le, x_eq0, x_0lt, x_le0, x_b0, x_b1, nI_leI, nI_ltI, nI_eq, nI_add, pk_mul, nI_clamp, true_and, and_true, true_implies, false_implies, implies_true, not_true_eq_false, not_false_eq_true]
          refine ⟨fun q => absurd q (by omega), fun _ => ?_⟩
          have K4 : ∀ d p, p + d = P.1 → L_X12_layWays_59 G fr n0 tl K X (nI set) (nI e) (lN (wxN P.2.2.1 P.2.2.2.1 jb (wyT P jb en) set e p)) (nI p) := by
            intro d
            induction d with
            | zero =>
              intro p hd
              refine b_X12_layWays_59 ?_
              simp (disch := omega) only [x_vp, x_lt0, x_0le, x_eq0, x_0lt, x_le0, x_b0, x_b1, nI_leI, nI_ltI, nI_eq, nI_add, pk_mul, nI_clamp, true_and, and_true, true_implies, false_implies, implies_true, not_true_eq_false, not_false_eq_true, e12]
              refine ⟨fun _ => ⟨by omega, ihe (e + 1) _ (by omega) (x1.tr (mE.sL rfl)) (fun q hq x hx => ?_) (fun x hx => ?_)⟩, fun q => absurd q (by omega)⟩
              · show vp_updL (X.2.2.2.2 34) (7 * set + e) _ (7 * q + x) = _
                rw [updL_no (by omega)]
                exact x2 q hq x hx
              · show vp_updL (X.2.2.2.2 34) (7 * set + e) _ (7 * set + x) = _
                by_cases z : x = e
                · subst z
                  rw [updL_at, wyT_eq P jb en set x (by omega), show p = P.1 by omega]
                · rw [updL_no (by omega)]
                  exact x3 x (by omega)
            | succ d ihp =>
              intro p hd
              obtain ⟨f1, f2, f3, f4, f5, f6⟩ := q5 p (by omega)
              have f1 : X.2.2.2.1 6 p = nI (P.2.2.1 p) := f1
              have f3 : X.2.2.2.1 7 p = nI (P.2.2.2.1 p) := f3
              have h9 := ihp (p + 1) (by omega)
              unfold wxN at h9
              refine b_X12_layWays_59 ?_
              rw [e12]
              refine ⟨fun q => absurd q (nI_ge (by omega) (by omega)), fun _ => ctI.eq (c_isOfN G fr _ set p (by omega) (by omega)) ?_⟩
              cases hb : set.testBit p with
              | false =>
                rw [if_neg (by rw [hb]; decide)] at h9
                refine ⟨fun _ => b_X12_layWays_189 ?_, fun q => absurd rfl q⟩
                rw [nI_add]
                exact h9
              | true =>
                rw [if_pos hb] at h9
                have h1 := tb_sub hb
                have h2 : 0 < 2 ^ p := Nat.pow_pos (by decide)
                have t1 := x2 (set - 2 ^ p) (by omega) (P.2.2.1 p) f2
                have t2 := x2 (set - 2 ^ p) (by omega) (P.2.2.2.1 p) f4
                refine ⟨fun q => absurd q (by decide), fun _ => ⟨(x_vp (by omega)).mpr (by omega), (x_vp (by omega)).mpr (by omega), ?_⟩⟩
                rw [nI_clamp (by omega), nI_clamp (by omega), e31, f1, nu_rest (by omega) (by omega) hb, pk_mul]
                refine ctI.eq (c_isOfN G fr _ (jb e) (P.2.2.1 p) (by omega) (by omega)) ?_
                have K133 : L_X12_layWays_133 G fr n0 tl K X (nI set) (nI e) (nI p) (nI (7 * (set - 2 ^ p))) (lN (if (jb e).testBit (P.2.2.1 p) = true then wyT P jb en (set - 2 ^ p) (P.2.2.2.1 p) else 0)) (lN (wxN P.2.2.1 P.2.2.2.1 jb (wyT P jb en) set e p)) := by
                  refine b_X12_layWays_133 (ctI.e1 (c_waysWith G fr X tl P p hPX (by omega)) ?_)
                  rw [lN_add]
                  have K189 : ∀ v : Nat, (if ¬ P.2.2.1 p = P.2.2.2.1 p ∧ (jb e).testBit (P.2.2.2.1 p) = true then wyT P jb en (set - 2 ^ p) (P.2.2.1 p) else 0) = v → L_X12_layWays_186 G fr n0 tl K X (nI set) (nI e) (nI p) (lN v) (lN (wxN P.2.2.1 P.2.2.2.1 jb (wyT P jb en) set e p + (if (jb e).testBit (P.2.2.1 p) = true then wyT P jb en (set - 2 ^ p) (P.2.2.2.1 p) else 0))) := by
                    intro v hv
                    rw [hv] at h9
                    refine b_X12_layWays_186 (b_X12_layWays_189 ?_)
                    rw [nI_add, lN_add]
                    exact h9
                  by_cases hw : P.2.2.1 p = P.2.2.2.1 p
                  · rw [if_pos hw]
                    refine ⟨fun q => absurd q (by decide), fun _ => b_X12_layWays_185 (K189 0 (if_neg (fun z => z.1 hw)))⟩
                  · rw [if_neg hw]
                    refine ⟨fun _ => ⟨(x_vp (by omega)).mpr (by omega), (x_vp (by omega)).mpr (by omega), ?_⟩, fun q => absurd rfl q⟩
                    rw [nI_clamp (by omega), nI_clamp (by omega), e31, f3]
                    refine ctI.eq (c_isOfN G fr _ (jb e) (P.2.2.2.1 p) (by omega) (by omega)) ?_
                    rw [f1, nI_add, nI_clamp (by omega), t1]
                    cases hb2 : (jb e).testBit (P.2.2.2.1 p) with
                    | false => exact ⟨fun _ => b_X12_layWays_185 (K189 0 (if_neg (fun z => by rw [hb2] at z; cases z.2))), fun q => absurd rfl q⟩
                    | true => exact ⟨fun q => absurd q (by decide), fun _ => ⟨(x_vp (by omega)).mpr (by omega), (x_vp (by omega)).mpr (by omega), K189 _ (if_pos ⟨hw, hb2⟩)⟩⟩
                rw [f3, nI_add, nI_clamp (by omega), t2]
                cases hb2 : (jb e).testBit (P.2.2.1 p) with
                | false =>
                  rw [if_neg (by rw [hb2]; decide)] at K133
                  exact ⟨fun _ => K133, fun q => absurd rfl q⟩
                | true =>
                  rw [if_pos hb2] at K133
                  exact ⟨fun q => absurd q (by decide), fun _ => ⟨(x_vp (by omega)).mpr (by omega), (x_vp (by omega)).mpr (by omega), K133⟩⟩
          exact K4 P.1 0 (by omega)
      exact K3 7 0 X rfl x1 x2 (fun x hx => by omega)
  have K1 : ∀ d i (X : ms_S), i + d = 7 → mE fN (aO 34) S X → (∀ e, e < i → X.2.2.2.2 34 e = lN (if en.testBit e = true then 1 else 0)) → L_X12_layWays_2 G fr n0 tl K X (nI en) (nI i) := by
    intro d
    induction d with
    | zero =>
      intro i X hd x1 x2
      refine b_X12_layWays_2 ?_
      simp (disch := omega) only [x_vp, x_lt0, x_0le, x_eq0, x_0lt, x_le0, x_b0, x_b1, nI_leI, nI_ltI, nI_eq, nI_add, pk_mul, nI_clamp, true_and, and_true, true_implies, false_implies, implies_true, not_true_eq_false, not_false_eq_true]
      refine ⟨fun _ => K2 (2 ^ P.1 - 1) 1 X (by have := Nat.pow_pos (n := P.1) (show 0 < 2 by decide); omega) (by omega) x1 (fun q hq e he => ?_), fun q => absurd q (by omega)⟩
      have hq0 : q = 0 := by omega
      subst hq0
      rw [wyT_0, Nat.mul_zero, Nat.zero_add]
      exact x2 e (by omega)
    | succ d ih =>
      intro i X hd x1 x2
      refine b_X12_layWays_2 ?_
      refine ⟨fun q => absurd q (nI_ge (by omega) (by omega)), fun _ => ctI.eq (c_isOfN G fr _ en i (by omega) (by omega)) ?_⟩
      have K26 : ∀ v : Nat, (if en.testBit i = true then 1 else 0) = v → L_X12_layWays_26 G fr n0 tl K X (nI en) (nI i) (lN v) (nI i) := by
        intro v hv
        refine b_X12_layWays_26 ?_
        simp (disch := omega) only [x_vp, x_lt0, x_0le, x_eq0, x_0lt, x_le0, x_b0, x_b1, nI_leI, nI_ltI, nI_eq, nI_add, pk_mul, nI_clamp, true_and, and_true, true_implies, false_implies, implies_true, not_true_eq_false, not_false_eq_true]
        refine ⟨by omega, ih (i + 1) _ (by omega) (x1.tr (mE.sL rfl)) (fun e he => ?_)⟩
        show vp_updL (X.2.2.2.2 34) i _ e = _
        by_cases z : e = i
        · subst z
          rw [updL_at, hv]
        · rw [updL_no z]
          exact x2 e (by omega)
      cases hb : en.testBit i with
      | false => exact ⟨fun _ => K26 0 (if_neg (by rw [hb]; decide)), fun q => absurd rfl q⟩
      | true => exact ⟨fun q => absurd q (by decide), fun _ => K26 1 (if_pos hb)⟩
  exact K1 7 0 S rfl mE.rf (fun e he => by omega)
