/-! ===== the reference: rows, closed rows, the first row ===== -/
def fI : Option Nat → Int32
  | none => -(nI 1)
  | some f => nI f
theorem fI_n {f : Option Nat} (hf : ∀ x, f = some x → x < 7) : fI f = -(nI 1) ↔ f = none := by
  cases f with
  | none => exact ⟨fun _ => rfl, fun _ => rfl⟩
  | some x => exact ⟨fun q => absurd q.symm (neg_ne (by decide) (by decide) (by have := hf x rfl; omega)), fun q => by cases q⟩
theorem fI_s {f : Option Nat} {x : Nat} (hf : ∀ x, f = some x → x < 7) (hx : x < 7) : fI f = nI x ↔ f = some x := by
  cases f with
  | none => exact ⟨fun q => absurd q (neg_ne (by decide) (by decide) (by omega)), fun q => by cases q⟩
  | some y => exact ⟨fun q => by rw [(nI_eq (by have := hf y rfl; omega) (by omega)).mp q], fun q => by cases q; rfl⟩
/-- rows of a set, by their first piece and end -/
def rwN (one oth : Nat → Nat) (T : Nat → Nat → Nat) (set : Nat) (f : Option Nat) : Nat → Nat
  | 0 => 0
  | p + 1 => if set.testBit p = true then (rwN one oth T set f p + (if f = none ∨ f = some (one p) then T (set - 2 ^ p) (oth p) else 0)) + (if ¬ one p = oth p ∧ (f = none ∨ f = some (oth p)) then T (set - 2 ^ p) (one p) else 0) else rwN one oth T set f p
abbrev rwT (P : tPL) (jb : Nat → Nat) (en set : Nat) (f : Option Nat) : Nat := rwN P.2.2.1 P.2.2.2.1 (wyT P jb en) set f P.1
theorem c_rowsOf (G : ab_G) (fr : Bool) (S : ms_S) (tl : ab_H) (P : tPL) (jb : Nat → Nat) (en set : Nat) (f : Option Nat) (hP : mPL S P) (hW : mWY S P jb en) (hset : set < 2 ^ P.1) (hf : ∀ x, f = some x → x < 7) :
    ctL G 2 M_X12_rowsOf fr [.ref 0, .int (nI set), .int (fI f)] lM S tl (fun v S' => v = lN (rwT P jb en set f) ∧ S' = S) := by
  refine ctL.ab (fun K hK => m_X12_rowsOf (fun n0 => ?_))
  obtain ⟨q1, q2, q3, q4, q5, q6⟩ := id hP
  have h512 := p2_9 q1
  have e12 : S.1 0 12 = nI P.1 := q3
  have K4 : ∀ d p, p + d = P.1 → L_X12_rowsOf_5 G fr n0 tl K S (nI set) (fI f) (lN (rwN P.2.2.1 P.2.2.2.1 (wyT P jb en) set f p)) (nI p) := by
    intro d
    induction d with
    | zero =>
      intro p hd
      refine b_X12_rowsOf_5 ?_
      simp (disch := omega) only [x_vp, x_lt0, x_0le, x_eq0, x_0lt, x_le0, x_b0, x_b1, nI_leI, nI_ltI, nI_eq, nI_add, pk_mul, nI_clamp, true_and, and_true, true_implies, false_implies, implies_true, not_true_eq_false, not_false_eq_true, e12]
      exact ⟨fun _ => hK _ _ ⟨by rw [show p = P.1 by omega], rfl⟩, fun q => absurd q (by omega)⟩
    | succ d ihp =>
      intro p hd
      obtain ⟨f1, f2, f3, f4, f5, f6⟩ := q5 p (by omega)
      have f1 : S.2.2.2.1 6 p = nI (P.2.2.1 p) := f1
      have f3 : S.2.2.2.1 7 p = nI (P.2.2.2.1 p) := f3
      have h9 := ihp (p + 1) (by omega)
      unfold rwN at h9
      refine b_X12_rowsOf_5 ?_
      rw [e12]
      refine ⟨fun q => absurd q (nI_ge (by omega) (by omega)), fun _ => ctI.eq (c_isOfN G fr _ set p (by omega) (by omega)) ?_⟩
      cases hb : set.testBit p with
      | false =>
        rw [if_neg (by rw [hb]; decide)] at h9
        refine ⟨fun _ => b_X12_rowsOf_125 ?_, fun q => absurd rfl q⟩
        rw [nI_add]
        exact h9
      | true =>
        rw [if_pos hb] at h9
        have h1 := tb_sub hb
        have h2 : 0 < 2 ^ p := Nat.pow_pos (by decide)
        have t1 : S.2.2.2.2 34 (7 * (set - 2 ^ p) + P.2.2.1 p) = _ := hW (set - 2 ^ p) (by omega) (P.2.2.1 p) f2
        have t2 : S.2.2.2.2 34 (7 * (set - 2 ^ p) + P.2.2.2.1 p) = _ := hW (set - 2 ^ p) (by omega) (P.2.2.2.1 p) f4
        rw [nI_clamp (by omega), f1, nu_rest (by omega) (by omega) hb, pk_mul]
        have K75 : ∀ v : Nat, (if f = none ∨ f = some (P.2.2.1 p) then wyT P jb en (set - 2 ^ p) (P.2.2.2.1 p) else 0) = v → L_X12_rowsOf_75 G fr n0 tl K S (nI set) (fI f) (nI p) (nI (7 * (set - 2 ^ p))) (lN v) (lN (rwN P.2.2.1 P.2.2.2.1 (wyT P jb en) set f p)) := by
          intro v hv
          rw [hv] at h9
          refine b_X12_rowsOf_75 (ctI.e1 (c_waysWith G fr S tl P p hP (by omega)) ?_)
          rw [lN_add]
          have K123 : ∀ w : Nat, (if ¬ P.2.2.1 p = P.2.2.2.1 p ∧ (f = none ∨ f = some (P.2.2.2.1 p)) then wyT P jb en (set - 2 ^ p) (P.2.2.1 p) else 0) = w → L_X12_rowsOf_123 G fr n0 tl K S (nI set) (fI f) (nI p) (lN w) (lN (rwN P.2.2.1 P.2.2.2.1 (wyT P jb en) set f p + v)) := by
            intro w hw
            rw [hw] at h9
            refine b_X12_rowsOf_123 (b_X12_rowsOf_125 ?_)
            rw [nI_add, lN_add]
            exact h9
          have K122 : ¬ (¬ P.2.2.1 p = P.2.2.2.1 p ∧ (f = none ∨ f = some (P.2.2.2.1 p))) → L_X12_rowsOf_122 G fr n0 tl K S (nI set) (fI f) (nI p) (lN (rwN P.2.2.1 P.2.2.2.1 (wyT P jb en) set f p + v)) := fun q => b_X12_rowsOf_122 (K123 0 (if_neg q))
          have K104 : (¬ P.2.2.1 p = P.2.2.2.1 p ∧ (f = none ∨ f = some (P.2.2.2.1 p))) → L_X12_rowsOf_104 G fr n0 tl K S (nI set) (fI f) (nI p) (nI (7 * (set - 2 ^ p))) (lN (rwN P.2.2.1 P.2.2.2.1 (wyT P jb en) set f p + v)) := by
            intro q
            refine b_X12_rowsOf_104 ?_
            simp (disch := omega) only [x_vp, x_lt0, x_0le, x_eq0, x_0lt, x_le0, x_b0, x_b1, nI_leI, nI_ltI, nI_eq, nI_add, pk_mul, nI_clamp, true_and, and_true, true_implies, false_implies, implies_true, not_true_eq_false, not_false_eq_true, f1, t1]
            exact ⟨by omega, by omega, K123 _ (if_pos q)⟩
          by_cases hw : P.2.2.1 p = P.2.2.2.1 p
          · rw [if_pos hw]
            exact ⟨fun q => absurd q (by decide), fun _ => K122 (fun z => z.1 hw)⟩
          · rw [if_neg hw]
            rw [nI_clamp (by omega), f3, fI_n hf, fI_s hf f4]
            exact ⟨fun _ => ⟨fun q => K104 ⟨hw, Or.inl q⟩, fun q => ⟨(x_vp (by omega)).mpr (by omega), fun r => K104 ⟨hw, Or.inr r⟩, fun r => K122 (fun z => z.2.elim q r)⟩⟩, fun q => absurd rfl q⟩
        have K56 : (f = none ∨ f = some (P.2.2.1 p)) → L_X12_rowsOf_56 G fr n0 tl K S (nI set) (fI f) (nI p) (nI (7 * (set - 2 ^ p))) (lN (rwN P.2.2.1 P.2.2.2.1 (wyT P jb en) set f p)) := by
          intro q
          refine b_X12_rowsOf_56 ?_
          simp (disch := omega) only [x_vp, x_lt0, x_0le, x_eq0, x_0lt, x_le0, x_b0, x_b1, nI_leI, nI_ltI, nI_eq, nI_add, pk_mul, nI_clamp, true_and, and_true, true_implies, false_implies, implies_true, not_true_eq_false, not_false_eq_true, f3, t2]
          exact ⟨by omega, by omega, K75 _ (if_pos q)⟩
        rw [fI_n hf, fI_s hf f2]
        exact ⟨fun q => absurd q (by decide), fun _ => ⟨fun q => K56 (Or.inl q), fun q => ⟨(x_vp (by omega)).mpr (by omega), fun r => K56 (Or.inr r), fun r => K75 0 (if_neg (fun z => z.elim q r))⟩⟩⟩
  exact K4 P.1 0 (by omega)
theorem q_ways (G : ab_G) (fr : Bool) (S : ms_S) (tl : ab_H) (g : tSG) (en : Nat) (h : qE g S) (hj : ∀ x, x < 7 → a_joined S x = nI (jbC g.1 x)) (hen : en < 2 ^ 7) (K : ms_S → Prop) (k : ∀ S', qE g S' → (∀ x, x < 7 → a_joined S' x = nI (jbC g.1 x)) → mWY S' g.1.1 (jbC g.1) en → K S') : ctU G 2 M_X12_layWays fr [.ref 0, .int (nI en)] lM S tl K := by
  refine ctU.mo (c_layWays G fr S tl g.1.1 (jbC g.1) en h.1.1.1 (fun e he => ⟨hj e he, bitsN_lt _ _⟩) hen) (fun S1 ⟨x1, x2⟩ => k S1 (qE_Z (S := S) h (oZ rfl x1) (mRW_F x1 rfl rfl rfl h.1.1.2.2.2.2.2.2.2.2.2)) (fun x hx => (congrFun (x1.2.2.2.1 31 rfl) x).trans (hj x hx)) x2)
/-- a heir's share -/
abbrev shN (g : tSG) (h : Int32) : Nat := heldN g.1.2.2.2.1.1 h g.1.1.1
theorem q_held (G : ab_G) (fr : Bool) (S : ms_S) (tl : ab_H) (g : tSG) (x : Int32) (h : qE g S) (K : Int32 → ms_S → Prop) (k : K (nI (shN g x)) S) : ctI G 1 M_X12_heldBy fr [.ref 0, .int (nI 0), .int x] lM S tl K := ctI.eq (c_heldE G fr S tl g.1.1 g.1.2.2.2.1 0 x (by decide) h.1.1.1 h.1.1.2.2.2.2.1) k
def A_rows (g : tSG) (h : Int32) : Int64 := if hrK g.1.1 h = true then lN (rwT g.1.1 (jbC g.1) 127 (shN g h) none) else -1
theorem c_rows (G : ab_G) (fr : Bool) (S : ms_S) (tl : ab_H) (g : tSG) (hI : mI S g) (h : Int32) :
    ctL G 5 M_X12_rows fr [.ref 0, .int h] lM S tl (fun v S' => qE g S' ∧ v = A_rows g h) := by
  refine ctL.ab (fun K hK => m_X12_rows (fun n0 => ?_))
  have h0 := qE_0 hI
  refine ctI.eq (c_isHeirK G fr _ tl g.1.1 h h0.1.1.1.2.2.2.1) ?_
  unfold A_rows at hK
  simp (disch := omega) only [x_vp, x_lt0, x_0le, x_eq0, x_0lt, x_le0, x_b0, x_b1, nI_leI, nI_ltI, nI_eq, nI_add, pk_mul, nI_clamp, true_and, and_true, true_implies, false_implies, implies_true, not_true_eq_false, not_false_eq_true]
  refine ⟨fun hb => hK _ _ ⟨h0, by rw [hb]; rfl⟩, fun hb => ?_⟩
  rw [if_pos (by simpa using hb)] at hK
  refine ctU.eq (c_plainTried G fr _ tl) (q_joins G fr _ tl g h0 _ (fun S1 q1 _ j1 => q_ways G fr S1 tl g 127 q1 j1 (by decide) _ (fun S2 q2 j2 w2 => q_held G fr S2 tl g h q2 _ ?_)))
  exact ctL.e1 (c_rowsOf G fr S2 tl g.1.1 (jbC g.1) 127 (shN g h) none q2.1.1.1 w2 (heldN_lt _ _ _) (fun x hx => by cases hx)) (hK _ _ ⟨q2, rfl⟩)
/-- ends that join with f -/
abbrev jwN (jb : Nat → Nat) (f : Nat) : Nat := bitsN (fun e => (jb e).testBit f) 7
def clN (P : tPL) (jb : Nat → Nat) (set : Nat) : Nat → Nat
  | 0 => 0
  | f + 1 => clN P jb set f + rwT P jb (jwN jb f) set (some f)
def A_closed (g : tSG) (h : Int32) : Int64 := if hrK g.1.1 h = true then lN (clN g.1.1 (jbC g.1) (shN g h) 7) else -1
theorem c_closed (G : ab_G) (fr : Bool) (S : ms_S) (tl : ab_H) (g : tSG) (hI : mI S g) (h : Int32) :
    ctL G 5 M_X12_closed fr [.ref 0, .int h] lM S tl (fun v S' => qE g S' ∧ v = A_closed g h) := by
  refine ctL.ab (fun K hK => m_X12_closed (fun n0 => ?_))
  have h0 := qE_0 hI
  refine ctI.eq (c_isHeirK G fr _ tl g.1.1 h h0.1.1.1.2.2.2.1) ?_
  unfold A_closed at hK
  simp (disch := omega) only [x_vp, x_lt0, x_0le, x_eq0, x_0lt, x_le0, x_b0, x_b1, nI_leI, nI_ltI, nI_eq, nI_add, pk_mul, nI_clamp, true_and, and_true, true_implies, false_implies, implies_true, not_true_eq_false, not_false_eq_true]
  refine ⟨fun hb => hK _ _ ⟨h0, by rw [hb]; rfl⟩, fun hb => ?_⟩
  rw [if_pos (by simpa using hb)] at hK
  refine ctU.eq (c_plainTried G fr _ tl) (q_joins G fr _ tl g h0 _ (fun S1 q1 _ j1 => ?_))
  have KF : ∀ d f (X : ms_S), f + d = 7 → qE g X → (∀ x, x < 7 → a_joined X x = nI (jbC g.1 x)) → L_X12_closed_31 G fr n0 tl K X h (lN (clN g.1.1 (jbC g.1) (shN g h) f)) (nI f) := by
    intro d
    induction d with
    | zero =>
      intro f X hd x1 x2
      refine b_X12_closed_31 ?_
      simp (disch := omega) only [x_vp, x_lt0, x_0le, x_eq0, x_0lt, x_le0, x_b0, x_b1, nI_leI, nI_ltI, nI_eq, nI_add, pk_mul, nI_clamp, true_and, and_true, true_implies, false_implies, implies_true, not_true_eq_false, not_false_eq_true]
      exact ⟨fun _ => hK _ _ ⟨x1, by rw [show f = 7 by omega]⟩, fun q => absurd q (by omega)⟩
    | succ d ih =>
      intro f X hd x1 x2
      refine b_X12_closed_31 ?_
      simp (disch := omega) only [x_vp, x_lt0, x_0le, x_eq0, x_0lt, x_le0, x_b0, x_b1, nI_leI, nI_ltI, nI_eq, nI_add, pk_mul, nI_clamp, true_and, and_true, true_implies, false_implies, implies_true, not_true_eq_false, not_false_eq_true]
      refine ⟨fun q => absurd q (by omega), fun _ => ?_⟩
      have KE : ∀ d e, e + d = 7 → L_X12_closed_44 G fr n0 tl K X h (lN (clN g.1.1 (jbC g.1) (shN g h) f)) (nI f) (nI (bitsN (fun e => (jbC g.1 e).testBit f) e)) (nI e) := by
        intro d
        induction d with
        | zero =>
          intro e hd
          refine b_X12_closed_44 ?_
          simp (disch := omega) only [x_vp, x_lt0, x_0le, x_eq0, x_0lt, x_le0, x_b0, x_b1, nI_leI, nI_ltI, nI_eq, nI_add, pk_mul, nI_clamp, true_and, and_true, true_implies, false_implies, implies_true, not_true_eq_false, not_false_eq_true]
          have : e = 7 := by omega
          subst this
          refine ⟨fun _ => q_ways G fr X tl g _ x1 x2 (bitsN_lt _ _) _ (fun S2 q2 j2 w2 => q_held G fr S2 tl g h q2 _ (ctL.e1 (c_rowsOf G fr S2 tl g.1.1 (jbC g.1) (jwN (jbC g.1) f) (shN g h) (some f) q2.1.1.1 w2 (heldN_lt _ _ _) (fun x hx => by cases hx; omega)) ?_)), fun q => absurd (by omega) q⟩
          rw [lN_add]
          exact ih (f + 1) S2 (by omega) q2 j2
        | succ d ihe =>
          intro e hd
          have e31 : X.2.2.2.1 31 e = nI (jbC g.1 e) := x2 e (by omega)
          have hj : jbC g.1 e < 2 ^ 7 := bitsN_lt _ _
          have h9 := ihe (e + 1) (by omega)
          rw [show bitsN (fun e => (jbC g.1 e).testBit f) (e + 1) = bitsN (fun e => (jbC g.1 e).testBit f) e ||| (if (jbC g.1 e).testBit f = true then 2 ^ e else 0) from rfl] at h9
          generalize jbC g.1 e = je at e31 hj h9
          refine b_X12_closed_44 ?_
          simp (disch := omega) only [x_vp, x_lt0, x_0le, x_eq0, x_0lt, x_le0, x_b0, x_b1, nI_leI, nI_ltI, nI_eq, nI_add, pk_mul, nI_clamp, true_and, and_true, true_implies, false_implies, implies_true, not_true_eq_false, not_false_eq_true, e31]
          refine ⟨fun q => absurd q (by omega), fun _ => ⟨by omega, ctI.eq (c_isOfN G fr _ je f (by omega) (by omega)) ?_⟩⟩
          cases hb : je.testBit f with
          | false =>
            rw [if_neg (by rw [hb]; decide)] at h9
            rw [nu_or]
            exact ⟨fun _ => h9, fun q => absurd rfl q⟩
          | true =>
            rw [if_pos hb] at h9
            rw [nu_set (by omega)]
            exact ⟨fun q => absurd q (by decide), fun _ => h9⟩
      exact KE 7 0 rfl
  exact KF 7 0 S1 rfl q1 j1
