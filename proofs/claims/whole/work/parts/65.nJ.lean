/-! ===== the reference: shape ===== -/
def odN (P : tPL) (set : Nat) : Nat → Nat
  | 0 => 0
  | p + 1 => if set.testBit p = true then odN P set p ^^^ (2 ^ P.2.2.1 p ^^^ 2 ^ P.2.2.2.1 p) else odN P set p
theorem odN_lt (P : tPL) (set : Nat) (ho : ∀ p, p < P.1 → P.2.2.1 p < 7 ∧ P.2.2.2.1 p < 7) : ∀ p, p ≤ P.1 → odN P set p < 2 ^ 7
  | 0, _ => by show 0 < 2 ^ 7; decide
  | p + 1, hp => by
    have ih := odN_lt P set ho p (by omega)
    have := ho p (by omega)
    unfold odN
    split
    · exact Nat.xor_lt_two_pow ih (Nat.xor_lt_two_pow (p2_lt this.1) (p2_lt this.2))
    · exact ih
abbrev enN (P : tPL) (p : Nat) : Nat := 2 ^ P.2.2.1 p ||| 2 ^ P.2.2.2.1 p
/-- the ends of the lowest piece of a set, looked for from above -/
def loN (P : tPL) (set : Nat) : Nat → Nat
  | 0 => 0
  | j + 1 => if set.testBit (8 - j) = true then enN P (8 - j) else loN P set j
/-- one piece looked at: rest, ends -/
def hg1 (P : tPL) (p : Nat) (z : Nat × Nat) : Nat × Nat := if z.1.testBit p = true ∧ (z.2.testBit (P.2.2.1 p) = true ∨ z.2.testBit (P.2.2.2.1 p) = true) then (z.1 - 2 ^ p, z.2 ||| enN P p) else z
def hgP (P : tPL) (z : Nat × Nat) : Nat → Nat × Nat
  | 0 => z
  | p + 1 => hg1 P p (hgP P z p)
def hgR (P : tPL) (z : Nat × Nat) : Nat → Nat × Nat
  | 0 => z
  | k + 1 => hgP P (hgR P z k) P.1
/-- what is left of a set without its lowest part -/
def hgL (P : tPL) (set : Nat) : Nat := (hgR P (set, loN P set 9) 9).1
def hgF (P : tPL) : Nat → Nat → Nat
  | 0, _ => 0
  | n + 1, set => if set = 0 then 0 else hgF P n (hgL P set) + 1
theorem hg1_le (P : tPL) (p : Nat) (z : Nat × Nat) : (hg1 P p z).1 ≤ z.1 := by
  unfold hg1
  split
  · exact Nat.sub_le _ _
  · exact Nat.le_refl _
theorem hgP_le (P : tPL) (z : Nat × Nat) : ∀ p, (hgP P z p).1 ≤ z.1
  | 0 => Nat.le_refl _
  | p + 1 => Nat.le_trans (hg1_le P p _) (hgP_le P z p)
theorem hgR_le (P : tPL) (z : Nat × Nat) : ∀ p, (hgR P z p).1 ≤ z.1
  | 0 => Nat.le_refl _
  | p + 1 => Nat.le_trans (hgP_le P _ _) (hgR_le P z p)
theorem hgP_lt (P : tPL) (z : Nat × Nat) (ho : ∀ p, p < P.1 → P.2.2.1 p < 7 ∧ P.2.2.2.1 p < 7) (hz : z.2 < 2 ^ 7) : ∀ p, p ≤ P.1 → (hgP P z p).2 < 2 ^ 7
  | 0, _ => hz
  | p + 1, hp => by
    have ih := hgP_lt P z ho hz p (by omega)
    have := ho p (by omega)
    show (hg1 P p _).2 < _
    unfold hg1
    split
    · exact Nat.or_lt_two_pow ih (Nat.or_lt_two_pow (p2_lt this.1) (p2_lt this.2))
    · exact ih
theorem hgR_lt (P : tPL) (z : Nat × Nat) (ho : ∀ p, p < P.1 → P.2.2.1 p < 7 ∧ P.2.2.2.1 p < 7) (hz : z.2 < 2 ^ 7) : ∀ k, (hgR P z k).2 < 2 ^ 7
  | 0 => hz
  | k + 1 => hgP_lt P _ ho (hgR_lt P z ho hz k) _ (Nat.le_refl _)
theorem loN_lt (P : tPL) (set : Nat) (ho : ∀ p, p < P.1 → P.2.2.1 p < 7 ∧ P.2.2.2.1 p < 7) (hs : set < 2 ^ P.1) : ∀ j, loN P set j < 2 ^ 7
  | 0 => by show 0 < 2 ^ 7; decide
  | j + 1 => by
    unfold loN
    split
    · rename_i hb
      have : 8 - j < P.1 := by
        by_cases z : 8 - j < P.1
        · exact z
        · have h1 := tb_sub hb
          have h2 : 2 ^ P.1 ≤ 2 ^ (8 - j) := Nat.pow_le_pow_right (by decide) (by omega)
          omega
      exact Nat.or_lt_two_pow (p2_lt (ho _ this).1) (p2_lt (ho _ this).2)
    · exact loN_lt P set ho hs j
/-- the lowest piece is taken -/
theorem tb_lo {s : Nat} (h : ¬ s = 0) (h9 : s < 512) : ∃ p, p < 9 ∧ s.testBit p = true ∧ ∀ q, q < p → s.testBit q = false := by
  have key : ∀ n, (∃ p, p < n ∧ s.testBit p = true) → ∃ p, p < n ∧ s.testBit p = true ∧ ∀ q, q < p → s.testBit q = false := by
    intro n
    induction n with
    | zero => rintro ⟨p, hp, _⟩; omega
    | succ n ih =>
      rintro ⟨p, hp, hb⟩
      by_cases z : ∃ q, q < n ∧ s.testBit q = true
      · obtain ⟨q, h1, h2, h3⟩ := ih z
        exact ⟨q, by omega, h2, h3⟩
      · refine ⟨p, hp, hb, fun q hq => ?_⟩
        cases hq2 : s.testBit q with
        | false => rfl
        | true => exact absurd ⟨q, by omega, hq2⟩ z
  refine key 9 ?_
  obtain ⟨i, hi⟩ := Nat.exists_testBit_of_ne_zero h
  refine ⟨i, ?_, hi⟩
  by_cases z : i < 9
  · exact z
  · have h1 := tb_sub hi
    have h2 : 2 ^ 9 ≤ 2 ^ i := Nat.pow_le_pow_right (by decide) (by omega)
    omega
theorem loN_eq {P : tPL} {set p : Nat} (hp : p < 9) (hb : set.testBit p = true) (hl : ∀ q, q < p → set.testBit q = false) : ∀ j, j ≤ 9 → 8 - p < j → loN P set j = enN P p
  | 0, _, h => by omega
  | j + 1, h9, h => by
    unfold loN
    by_cases z : 8 - j = p
    · rw [z, if_pos hb]
    · rw [if_neg (by rw [hl (8 - j) (by omega)]; decide)]
      exact loN_eq hp hb hl j (by omega) (by omega)
theorem hgP_id {P : tPL} {z : Nat × Nat} : ∀ p, (∀ q, q < p → z.1.testBit q = false) → hgP P z p = z
  | 0, _ => rfl
  | p + 1, h => by
    show hg1 P p (hgP P z p) = z
    rw [hgP_id p (fun q hq => h q (by omega))]
    unfold hg1
    rw [if_neg (fun y => by rw [h p (by omega)] at y; cases y.1)]
theorem hgL_lt {P : tPL} {set : Nat} (h0 : ¬ set = 0) (hp9 : P.1 ≤ 9) (hs : set < 2 ^ P.1) : hgL P set < set := by
  have h512 := p2_9 hp9
  obtain ⟨p, hp, hb, hl⟩ := tb_lo h0 (by omega)
  have h1 := tb_sub hb
  have h2 : 0 < 2 ^ p := Nat.pow_pos (by decide)
  have hpP : p < P.1 := by
    by_cases z : p < P.1
    · exact z
    · have h3 : 2 ^ P.1 ≤ 2 ^ p := Nat.pow_le_pow_right (by decide) (by omega)
      omega
  have e1 : loN P set 9 = enN P p := loN_eq hp hb hl 9 (Nat.le_refl _) (by omega)
  have e2 : (hgP P (set, loN P set 9) (p + 1)).1 = set - 2 ^ p := by
    show (hg1 P p (hgP P (set, loN P set 9) p)).1 = _
    rw [hgP_id p hl]
    have e0 : (loN P set 9).testBit (P.2.2.1 p) = true := by rw [e1, Nat.testBit_or, Nat.testBit_two_pow_self, Bool.true_or]
    unfold hg1
    rw [if_pos ⟨hb, Or.inl e0⟩]
  have e3 : ∀ d, (hgP P (set, loN P set 9) (p + 1 + d)).1 ≤ set - 2 ^ p := by
    intro d
    induction d with
    | zero => exact Nat.le_of_eq e2
    | succ d ih => exact Nat.le_trans (hg1_le P _ _) ih
  have e4 := e3 (P.1 - (p + 1))
  rw [show p + 1 + (P.1 - (p + 1)) = P.1 by omega] at e4
  have e5 : ∀ k, (hgR P (set, loN P set 9) (k + 1)).1 ≤ set - 2 ^ p := by
    intro k
    induction k with
    | zero => exact e4
    | succ k ih => exact Nat.le_trans (hgP_le P _ _) ih
  have e6 : (hgR P (set, loN P set 9) 9).1 ≤ set - 2 ^ p := e5 8
  show (hgR P (set, loN P set 9) 9).1 < set
  omega
theorem hgF_st (P : tPL) (hp9 : P.1 ≤ 9) : ∀ n m set, set < 2 ^ P.1 → set < n → set < m → hgF P n set = hgF P m set
  | 0, _, _, _, h, _ => by omega
  | _, 0, _, _, _, h => by omega
  | n + 1, m + 1, set, hs, h1, h2 => by
    unfold hgF
    by_cases h0 : set = 0
    · rw [if_pos h0, if_pos h0]
    · have := hgL_lt h0 hp9 hs
      rw [if_neg h0, if_neg h0, hgF_st P hp9 n m (hgL P set) (by omega) (by omega) (by omega)]
/-- hanging parts of a set -/
def hgT (P : tPL) (set : Nat) : Nat := hgF P (set + 1) set
theorem hgT_eq {P : tPL} {set : Nat} (hp9 : P.1 ≤ 9) (h0 : ¬ set = 0) (hs : set < 2 ^ P.1) : hgT P set = hgT P (hgL P set) + 1 := by
  have := hgL_lt h0 hp9 hs
  show (if set = 0 then 0 else _) = _
  rw [if_neg h0]
  rw [hgF_st P hp9 set (hgL P set + 1) (hgL P set) (by omega) this (by omega)]
  rfl
def A_shape (g : tSG) (h w : Int32) : Int32 := if hrK g.1.1 h = true ∧ inK w 0 1 = true then (if w = 0 then nI (pop (odN g.1.1 (shN g h) g.1.1.1) 9) else nI (hgT g.1.1 (shN g h))) else -(nI 1)
theorem tb_bd {s p n : Nat} (hb : s.testBit p = true) (hs : s < 2 ^ n) : p < n := by
  by_cases z : p < n
  · exact z
  · have h1 := tb_sub hb
    have h2 : 2 ^ n ≤ 2 ^ p := Nat.pow_le_pow_right (by decide) (by omega)
    omega
theorem tb_sh {s k : Nat} (hs : s < 2 ^ 31) (hk : k < 32) : (nI s >>> (nI k &&& 31)) &&& nI 1 = bI (s.testBit k) := by
  rw [nu_bit hk hs]
  have h2 : s / 2 ^ k % 2 < 2 := Nat.mod_lt _ (by omega)
  by_cases h : s.testBit k = true
  · rw [h, (nu_tb s k).mpr h]
    rfl
  · have h3 : ¬ s / 2 ^ k % 2 = 1 := fun q => h ((nu_tb s k).mp q)
    rw [Bool.not_eq_true] at h
    rw [h, show s / 2 ^ k % 2 = 0 by omega]
    rfl
theorem bI_ad (a b : Bool) : (bI a + bI b = 0) ↔ ¬ (a = true ∨ b = true) := by cases a <;> cases b <;> decide
theorem c_shape (G : ab_G) (fr : Bool) (S : ms_S) (tl : ab_H) (g : tSG) (hI : mI S g) (h w : Int32) :
    ctI G 2 M_X12_shape fr [.ref 0, .int h, .int w] lM S tl (fun v S' => qE g S' ∧ v = A_shape g h w) := by
  refine ctI.ab (fun K hK => m_X12_shape (fun n0 => ?_))
  have h0 := qE_0 hI
  refine ctI.eq (c_isHeirK G fr _ tl g.1.1 h h0.1.1.1.2.2.2.1) ?_
  unfold A_shape at hK
  simp (disch := omega) only [x_vp, x_lt0, x_0le, x_eq0, x_0lt, x_le0, x_b0, x_b1, nI_leI, nI_ltI, nI_eq, nI_add, pk_mul, nI_clamp, true_and, and_true, true_implies, false_implies, implies_true, not_true_eq_false, not_false_eq_true]
  refine ⟨fun hb => hK _ _ ⟨h0, by rw [if_neg (by rw [hb]; simp)]⟩, fun hb => ctI.eq (c_isInK G fr _ w 0 1) ?_⟩
  simp (disch := omega) only [x_vp, x_lt0, x_0le, x_eq0, x_0lt, x_le0, x_b0, x_b1, nI_leI, nI_ltI, nI_eq, nI_add, pk_mul, nI_clamp, true_and, and_true, true_implies, false_implies, implies_true, not_true_eq_false, not_false_eq_true]
  refine ⟨fun hb2 => hK _ _ ⟨h0, by rw [if_neg (by rw [hb2]; simp)]⟩, fun hb2 => ?_⟩
  rw [if_pos ⟨nf_t hb, nf_t hb2⟩] at hK
  have hset : shN g h < 2 ^ g.1.1.1 := heldN_lt _ _ _
  have h512 := p2_9 h0.1.1.1.1
  refine q_held G fr _ tl g h h0 _ ?_
  generalize shN g h = set0 at *
  generalize sV S 2 (nI 0) = S0 at *
  obtain ⟨p1, p2, p3, p4, p5, p6⟩ := id h0.1.1.1
  have e12 : S0.1 0 12 = nI g.1.1.1 := p3
  have ho : ∀ p, p < g.1.1.1 → g.1.1.2.2.1 p < 7 ∧ g.1.1.2.2.2.1 p < 7 := fun p hp => ⟨(p5 p hp).2.1, (p5 p hp).2.2.2.1⟩
  have f1 : ∀ p, p < g.1.1.1 → S0.2.2.2.1 6 p = nI (g.1.1.2.2.1 p) := fun p hp => (p5 p hp).1
  have f3 : ∀ p, p < g.1.1.1 → S0.2.2.2.1 7 p = nI (g.1.1.2.2.2.1 p) := fun p hp => (p5 p hp).2.2.1
  have KW : ∀ n set m, set < n → set < 2 ^ g.1.1.1 → m + hgT g.1.1 set = hgT g.1.1 set0 → (¬ w = 0) → L_X12_shape_98 G fr n0 tl K S0 (nI set) (nI m) := by
    intro n
    induction n with
    | zero => intro set m h1; omega
    | succ n ih =>
      intro set m h1 h2 h3 hw
      refine b_X12_shape_98 ?_
      simp (disch := omega) only [x_vp, x_lt0, x_0le, x_eq0, x_0lt, x_le0, x_b0, x_b1, nI_leI, nI_ltI, nI_eq, nI_add, pk_mul, nI_clamp, true_and, and_true, true_implies, false_implies, implies_true, not_true_eq_false, not_false_eq_true]
      refine ⟨fun q => hK _ _ ⟨h0, ?_⟩, fun q => ?_⟩
      · subst q
        rw [if_neg hw, ← h3]
        rfl
      rw [hgT_eq p1 q h2] at h3
      have hlt := hgL_lt q p1 h2
      have KR : ∀ d k, k + d = 9 → L_X12_shape_156 G fr n0 tl K S0 (nI (hgR g.1.1 (set, loN g.1.1 set 9) k).1) (nI (m + 1)) (nI (hgR g.1.1 (set, loN g.1.1 set 9) k).2) (nI k) := by
        intro d
        induction d with
        | zero =>
          intro k hd
          have : k = 9 := by omega
          subst this
          refine b_X12_shape_156 ⟨fun _ => ?_, fun q => absurd (Int32.le_refl _) q⟩
          exact ih (hgL g.1.1 set) (m + 1) (by omega) (by omega) (by omega) hw
        | succ d ihk =>
          intro k hd
          have h9 := ihk (k + 1) (by omega)
          have hr1 := hgR_le g.1.1 (set, loN g.1.1 set 9) k
          have hr2 := hgR_lt g.1.1 (set, loN g.1.1 set 9) ho (loN_lt g.1.1 set ho h2 9) k
          rw [show hgR g.1.1 (set, loN g.1.1 set 9) (k + 1) = hgP g.1.1 (hgR g.1.1 (set, loN g.1.1 set 9) k) g.1.1.1 from rfl] at h9
          dsimp only at hr1
          generalize hgR g.1.1 (set, loN g.1.1 set 9) k = z at *
          refine b_X12_shape_156 ?_
          simp (disch := omega) only [x_vp, x_lt0, x_0le, x_eq0, x_0lt, x_le0, x_b0, x_b1, nI_leI, nI_ltI, nI_eq, nI_add, pk_mul, nI_clamp, true_and, and_true, true_implies, false_implies, implies_true, not_true_eq_false, not_false_eq_true]
          refine ⟨fun q => absurd q (by omega), fun _ => ?_⟩
          have KP : ∀ d p, p + d = g.1.1.1 → L_X12_shape_166 G fr n0 tl K S0 (nI (hgP g.1.1 z p).1) (nI (m + 1)) (nI (hgP g.1.1 z p).2) (nI k) (nI p) := by
            intro d
            induction d with
            | zero =>
              intro p hd
              rw [show p = g.1.1.1 by omega]
              refine b_X12_shape_166 ?_
              simp (disch := omega) only [x_vp, x_lt0, x_0le, x_eq0, x_0lt, x_le0, x_b0, x_b1, nI_leI, nI_ltI, nI_eq, nI_add, pk_mul, nI_clamp, true_and, and_true, true_implies, false_implies, implies_true, not_true_eq_false, not_false_eq_true, e12]
              exact ⟨fun _ => h9, fun q => absurd (Nat.le_refl _) q⟩
            | succ d ihp =>
              intro p hd
              have h10 := ihp (p + 1) (by omega)
              have hz1 := hgP_le g.1.1 z p
              have hz2 := hgP_lt g.1.1 z ho hr2 p (by omega)
              rw [show hgP g.1.1 z (p + 1) = hg1 g.1.1 p (hgP g.1.1 z p) from rfl] at h10
              unfold hg1 at h10
              generalize hgP g.1.1 z p = y at *
              obtain ⟨o1, o2⟩ := ho p (by omega)
              refine b_X12_shape_166 ?_
              rw [e12, nI_add]
              refine ⟨fun q => absurd q (nI_ge (by omega) (by omega)), fun _ => ctI.eq (c_isOfN G fr _ y.1 p (by omega) (by omega)) ?_⟩
              rw [nI_clamp (by omega), f1 p (by omega), f3 p (by omega), tb_sh (by omega) (by omega), tb_sh (by omega) (by omega), nu_1shl (by omega), nu_1shl (by omega), nu_1shl (by omega), nu_or, nu_or, bI_ad, nI_add]
              have hv : vp_in (nI p) 18 := (x_vp (by omega)).mpr (by omega)
              cases hb : y.1.testBit p with
              | false =>
                rw [if_neg (fun t => by rw [hb] at t; cases t.1)] at h10
                exact ⟨fun _ => h10, fun q => absurd rfl q⟩
              | true =>
                rw [nu_clr y.1 (by omega) p (by omega), if_pos hb]
                refine ⟨fun q => absurd q (by decide), fun _ => ⟨hv, hv, fun q => ?_, fun q => ⟨hv, hv, ?_⟩⟩⟩
                · rw [if_neg (fun t => q t.2)] at h10
                  exact h10
                · rw [if_pos ⟨hb, Classical.not_not.mp q⟩] at h10
                  exact h10
          exact KP g.1.1.1 0 (by omega)
      have KL : ∀ f j, j + f = 9 → L_X12_shape_112 G fr n0 tl K S0 (nI set) (nI (m + 1)) (nI (loN g.1.1 set j)) (nI f - nI 1) := by
        intro f
        induction f with
        | zero =>
          intro j hj
          rw [show j = 9 by omega]
          exact b_X12_shape_112 ⟨fun _ => KR 9 0 rfl, fun q => absurd (by decide) q⟩
        | succ f ihf =>
          intro j hj
          have h9 := ihf (j + 1) (by omega)
          rw [show loN g.1.1 set (j + 1) = (if set.testBit (8 - j) = true then enN g.1.1 (8 - j) else loN g.1.1 set j) from rfl, show 8 - j = f by omega, Int32.sub_eq_add_neg] at h9
          rw [show nI (f + 1) - nI 1 = nI f from pk_sub (by omega)]
          refine b_X12_shape_112 ⟨fun q => absurd q (nI_pos (by omega)), fun _ => ctI.eq (c_isOfN G fr _ set f (by omega) (by omega)) ?_⟩
          cases hb : set.testBit f with
          | false =>
            rw [if_neg (by rw [hb]; decide)] at h9
            exact ⟨fun _ => h9, fun q => absurd rfl q⟩
          | true =>
            have hf := tb_bd hb h2
            obtain ⟨o1, o2⟩ := ho f hf
            rw [if_pos hb] at h9
            have hv : vp_in (nI f) 18 := (x_vp (by omega)).mpr (by omega)
            rw [nI_clamp (by omega), f1 f hf, f3 f hf, nu_1shl (by omega), nu_1shl (by omega), nu_or]
            exact ⟨fun q => absurd q (by decide), fun _ => ⟨hv, hv, h9⟩⟩
      have h11 := KL 9 0 rfl
      exact h11
  have KO : ∀ d p, p + d = g.1.1.1 → L_X12_shape_37 G fr n0 tl K S0 w (nI set0) (nI (odN g.1.1 set0 p)) (nI p) := by
    intro d
    induction d with
    | zero =>
      intro p hd
      rw [show p = g.1.1.1 by omega]
      refine b_X12_shape_37 ?_
      simp (disch := omega) only [x_vp, x_lt0, x_0le, x_eq0, x_0lt, x_le0, x_b0, x_b1, nI_leI, nI_ltI, nI_eq, nI_add, pk_mul, nI_clamp, true_and, and_true, true_implies, false_implies, implies_true, not_true_eq_false, not_false_eq_true, e12]
      refine ⟨fun _ => ⟨fun q => ?_, fun q => KW (set0 + 1) set0 0 (by omega) hset (by omega) q⟩, fun q => absurd (Nat.le_refl _) q⟩
      have := odN_lt g.1.1 set0 ho g.1.1.1 (Nat.le_refl _)
      exact ctI.eq (c_manyOf G fr _ _ (by omega)) (hK _ _ ⟨h0, by rw [if_pos q]⟩)
    | succ d ih =>
      intro p hd
      have h9 := ih (p + 1) (by omega)
      unfold odN at h9
      obtain ⟨o1, o2⟩ := ho p (by omega)
      refine b_X12_shape_37 ?_
      rw [e12, nI_add]
      refine ⟨fun q => absurd q (nI_ge (by omega) (by omega)), fun _ => ctI.eq (c_isOfN G fr _ set0 p (by omega) (by omega)) ?_⟩
      cases hb : set0.testBit p with
      | false =>
        rw [if_neg (by rw [hb]; decide)] at h9
        exact ⟨fun _ => h9, fun q => absurd rfl q⟩
      | true =>
        rw [if_pos hb] at h9
        have hv : vp_in (nI p) 18 := (x_vp (by omega)).mpr (by omega)
        rw [nI_clamp (by omega), f1 p (by omega), f3 p (by omega), nu_1shl (by omega), nu_1shl (by omega), nu_xor, nu_xor]
        exact ⟨fun q => absurd q (by decide), fun _ => ⟨hv, hv, h9⟩⟩
  exact KO g.1.1.1 0 (by omega)
