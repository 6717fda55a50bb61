/-! ===== the program: a sign worked out ===== -/
theorem bm64 {x : Int} (h1 : -9223372036854775808 ≤ x) (h2 : x < 9223372036854775808) : x.bmod 18446744073709551616 = x := by
  rw [Int.bmod_def]
  split <;> omega
/-- within the limit -/
def bd (v : Int64) : Prop := -1000000000000 ≤ v.toInt ∧ v.toInt ≤ 1000000000000
theorem lt_i {a b : Int64} : a < b ↔ a.toInt < b.toInt := Int64.lt_iff_toInt_lt
theorem le_i {a b : Int64} : a ≤ b ↔ a.toInt ≤ b.toInt := Int64.le_iff_toInt_le
theorem li_0 : (0 : Int64).toInt = 0 := rfl
theorem li_L : (1000000000000 : Int64).toInt = 1000000000000 := rfl
theorem li_M : (-1000000000000 : Int64).toInt = -1000000000000 := rfl
theorem bd_bL (c : Bool) : bd (bL c) := by
  cases c <;> exact ⟨by decide, by decide⟩
theorem bd_iff {v : Int64} : bd v ↔ ¬ (1000000000000 < v ∨ v < -1000000000000) := by
  unfold bd
  rw [lt_i, lt_i, li_L, li_M]
  omega
theorem ab_pos {a : Int64} (ha : bd a) : (ab64 a).toInt = a.toInt.natAbs := by
  unfold ab64
  by_cases h : 0 ≤ a
  · rw [if_pos h]
    rw [le_i, li_0] at h
    omega
  · rw [if_neg h, Int64.toInt_neg]
    rw [le_i, li_0] at h
    have h1 := ha.1
    rw [show (2 : Nat) ^ 64 = 18446744073709551616 from rfl, bm64 (by omega) (by omega)]
    omega
theorem div_L {a : Int64} (h : 0 < a.toInt) : ((1000000000000 : Int64) / a).toInt = 1000000000000 / a.toInt := by
  have h1 : (0 : Int) ≤ 1000000000000 / a.toInt := Int.ediv_nonneg (by decide) (Int.le_of_lt h)
  have h2 : 1000000000000 / a.toInt ≤ 1000000000000 := Int.ediv_le_self _ (by decide)
  rw [Int64.toInt_div, li_L, Int.tdiv_eq_ediv_of_nonneg (by decide), show (2 : Nat) ^ 64 = 18446744073709551616 from rfl, bm64 (by omega) (by omega)]
theorem bd_mul {a b : Int64} (ha : bd a) (hb : bd b) (h : ¬ tmE a b) : bd (a * b) := by
  have key : a.toInt.natAbs * b.toInt.natAbs ≤ 1000000000000 := by
    by_cases z1 : a = 0
    · rw [z1, li_0, show Int.natAbs 0 = 0 from rfl, Nat.zero_mul]
      decide
    by_cases z2 : b = 0
    · rw [z2, li_0, show Int.natAbs 0 = 0 from rfl, Nat.mul_zero]
      decide
    have h3 : ¬ 1000000000000 / ab64 a < ab64 b := fun q => h ⟨z1, z2, q⟩
    have ea := ab_pos ha
    have eb := ab_pos hb
    have ha0 : ¬ a.toInt = 0 := fun q => z1 (Int64.toInt_inj.mp q)
    have hp : 0 < (ab64 a).toInt := by omega
    rw [lt_i, div_L hp, eb, ea] at h3
    have h4 : (b.toInt.natAbs : Int) ≤ 1000000000000 / (a.toInt.natAbs : Int) := Int.not_lt.mp h3
    have h5 := Int.mul_le_of_le_ediv (by omega) h4
    have h6 : ((b.toInt.natAbs * a.toInt.natAbs : Nat) : Int) ≤ 1000000000000 := by rw [Int.natCast_mul]; exact h5
    rw [Nat.mul_comm]
    omega
  have h1 : (a.toInt * b.toInt).natAbs ≤ 1000000000000 := by rw [Int.natAbs_mul]; exact key
  unfold bd
  rw [Int64.toInt_mul, show (2 : Nat) ^ 64 = 18446744073709551616 from rfl, bm64 (by omega) (by omega)]
  omega
theorem bd_div {a b : Int64} (ha : bd a) : bd (a / b) := by
  have h1 : (a.toInt.tdiv b.toInt).natAbs ≤ a.toInt.natAbs := by
    rw [Int.natAbs_tdiv]
    exact Nat.div_le_self _ _
  have h2 := ha.1
  have h3 := ha.2
  unfold bd
  rw [Int64.toInt_div, show (2 : Nat) ^ 64 = 18446744073709551616 from rfl, bm64 (by omega) (by omega)]
  omega
abbrev NTM : Int64 := -9223372036854775808
theorem nbd_N : ¬ bd NTM := by
  unfold bd
  decide
theorem u_product (G : ab_G) (fr : Bool) (S : ms_S) (tl : ab_H) (a b : Int64) (ha : bd a) (hb : bd b) (K : Int64 → ms_S → Prop) (k1 : ¬ tmE a b → K (a * b) S) (k2 : tmE a b → K NTM S) : ctL G 1 M_X4_product fr [.long a, .long b] lZ S tl K := by
  refine m_X4_product (fun n0 => ?_)
  have ea := ab_pos ha
  have eb := ab_pos hb
  have K26 : ∀ x y, x = ab64 a → y = ab64 b → L_X4_product_26 G fr n0 tl K S a b x y := by
    intro x y hx hy
    subst hx
    subst hy
    refine b_X4_product_26 ?_
    rw [lg_cmp_eq, lg_cmp_le]
    have e0 : (ab64 a = lN 0) ↔ a = 0 := by
      constructor
      · intro q
        apply Int64.toInt_inj.mp
        have q2 : (ab64 a).toInt = 0 := by rw [q]; rfl
        rw [li_0]
        omega
      · intro q
        subst q
        rfl
    rw [e0]
    refine ⟨fun q => b_X4_product_53 (b_X4_product_56 (k1 (fun z => z.1 q))), fun q => ⟨fun z => q (e0.mp z), fun z => b_X4_product_53 (b_X4_product_56 (k1 (fun y => absurd y.2.2 (Int64.not_lt.mpr z)))), fun z => b_X4_product_56 (k2 ⟨q, fun y => z ?_, Int64.not_le.mp z⟩)⟩⟩
    subst y
    have hp : 0 < (ab64 a).toInt := by
      have : ¬ a.toInt = 0 := fun w => q (Int64.toInt_inj.mp w)
      omega
    rw [le_i, div_L hp]
    have : (0 : Int) ≤ 1000000000000 / (ab64 a).toInt := Int.ediv_nonneg (by decide) (Int.le_of_lt hp)
    exact this
  have K12 : ∀ x, x = ab64 a → L_X4_product_12 G fr n0 tl K S a b x := by
    intro x hx
    refine b_X4_product_12 ?_
    rw [lg_cmp_ge]
    exact ⟨fun q => K26 x b hx (if_pos q).symm, fun q => K26 x (-b) hx (if_neg q).symm⟩
  rw [lg_cmp_ge]
  exact ⟨fun q => K12 a (if_pos q).symm, fun q => K12 (-a) (if_neg q).symm⟩
def tkO (k : Nat) : Nat := if k = 2 then 10 else if k = 3 then 9 else if k = 4 then 8 else k + 6
def rOk (m : Int64 × Int32) (v : Int64) : Prop := (m.2 = 0 ∧ v = m.1 ∧ bd v) ∨ (¬ m.2 = 0 ∧ ¬ bd v)
theorem u_result (G : ab_G) (fr : Bool) (S : ms_S) (tl : ab_H) (k : Nat) (h3 : 3 ≤ k) (h14 : k ≤ 14) (a b : Int64) (ha : bd a) (hb : bd b) (K : Int64 → ms_S → Prop) (c : ∀ v, rOk (mVal k 0 a b 0 (nI 0)) v → K v S) : ctL G 2 M_X4_resultOf fr [.int (nI (tkO k)), .long a, .long b] lZ S tl K := by
  have cB : ∀ bb : Bool, mVal k 0 a b 0 (nI 0) = (bL bb, nI 0) → K (bL bb) S := fun bb h => c _ (Or.inl (by rw [h]; exact ⟨rfl, rfl, bd_bL bb⟩))
  rcases (show k = 3 ∨ k = 4 ∨ k = 5 ∨ k = 6 ∨ k = 7 ∨ k = 8 ∨ k = 9 ∨ k = 10 ∨ k = 11 ∨ k = 12 ∨ k = 13 ∨ k = 14 by omega) with rfl | rfl | rfl | rfl | rfl | rfl | rfl | rfl | rfl | rfl | rfl | rfl
  · refine m_X4_resultOf (fun n0 => ⟨fun z => absurd z (by decide), fun _ => ?_, fun z => absurd z (by decide), fun z => absurd z (by decide), fun z => absurd z (by decide), fun z => absurd z (by decide), fun z => absurd z (by decide), fun z => absurd z (by decide), fun z => absurd z (by decide), fun z => absurd z (by decide), fun z => absurd z (by decide), fun z => absurd z (by decide), fun z8 z9 z11 z12 z13 z14 z15 z16 z17 z18 z19 z20 => absurd rfl z9⟩)
    have cB : ∀ bb : Bool, decide (¬ a = 0 ∧ ¬ b = 0) = bb → K (bL bb) S := fun bb h => cB bb (by simp only [mVal, h])
    rw [lg_cmp_eq, lg_cmp_eq]
    exact ⟨fun q => cB false (decide_eq_false (fun z => z.1 q)), fun q => ⟨fun q2 => cB false (decide_eq_false (fun z => z.2 q2)), fun q2 => cB true (decide_eq_true ⟨q, q2⟩)⟩⟩
  · refine m_X4_resultOf (fun n0 => ⟨fun _ => ?_, fun z => absurd z (by decide), fun z => absurd z (by decide), fun z => absurd z (by decide), fun z => absurd z (by decide), fun z => absurd z (by decide), fun z => absurd z (by decide), fun z => absurd z (by decide), fun z => absurd z (by decide), fun z => absurd z (by decide), fun z => absurd z (by decide), fun z => absurd z (by decide), fun z8 z9 z11 z12 z13 z14 z15 z16 z17 z18 z19 z20 => absurd rfl z8⟩)
    have cB : ∀ bb : Bool, decide (¬ a = 0 ∨ ¬ b = 0) = bb → K (bL bb) S := fun bb h => cB bb (by simp only [mVal, h])
    rw [lg_cmp_eq, lg_cmp_eq]
    exact ⟨fun q => ⟨fun q2 => cB false (decide_eq_false (fun z => z.elim (fun y => y q) (fun y => y q2))), fun q2 => cB true (decide_eq_true (Or.inr q2))⟩, fun q => cB true (decide_eq_true (Or.inl q))⟩
  · refine m_X4_resultOf (fun n0 => ⟨fun z => absurd z (by decide), fun z => absurd z (by decide), fun _ => ?_, fun z => absurd z (by decide), fun z => absurd z (by decide), fun z => absurd z (by decide), fun z => absurd z (by decide), fun z => absurd z (by decide), fun z => absurd z (by decide), fun z => absurd z (by decide), fun z => absurd z (by decide), fun z => absurd z (by decide), fun z8 z9 z11 z12 z13 z14 z15 z16 z17 z18 z19 z20 => absurd rfl z11⟩)
    have cB : ∀ bb : Bool, decide (a < b) = bb → K (bL bb) S := fun bb h => cB bb (by simp only [mVal, cmN, h])
    rw [lg_cmp_ge]
    exact ⟨fun q => cB false (decide_eq_false (Int64.not_lt.mpr q)), fun q => cB true (decide_eq_true (Int64.not_le.mp q))⟩
  · refine m_X4_resultOf (fun n0 => ⟨fun z => absurd z (by decide), fun z => absurd z (by decide), fun z => absurd z (by decide), fun _ => ?_, fun z => absurd z (by decide), fun z => absurd z (by decide), fun z => absurd z (by decide), fun z => absurd z (by decide), fun z => absurd z (by decide), fun z => absurd z (by decide), fun z => absurd z (by decide), fun z => absurd z (by decide), fun z8 z9 z11 z12 z13 z14 z15 z16 z17 z18 z19 z20 => absurd rfl z12⟩)
    have cB : ∀ bb : Bool, decide (a ≤ b) = bb → K (bL bb) S := fun bb h => cB bb (by simp only [mVal, cmN, h])
    rw [lg_cmp_gt]
    exact ⟨fun q => cB false (decide_eq_false (Int64.not_le.mpr q)), fun q => cB true (decide_eq_true (Int64.not_lt.mp q))⟩
  · refine m_X4_resultOf (fun n0 => ⟨fun z => absurd z (by decide), fun z => absurd z (by decide), fun z => absurd z (by decide), fun z => absurd z (by decide), fun _ => ?_, fun z => absurd z (by decide), fun z => absurd z (by decide), fun z => absurd z (by decide), fun z => absurd z (by decide), fun z => absurd z (by decide), fun z => absurd z (by decide), fun z => absurd z (by decide), fun z8 z9 z11 z12 z13 z14 z15 z16 z17 z18 z19 z20 => absurd rfl z13⟩)
    have cB : ∀ bb : Bool, decide (a = b) = bb → K (bL bb) S := fun bb h => cB bb (by simp only [mVal, cmN, h])
    rw [lg_cmp_eq]
    exact ⟨fun q => cB true (decide_eq_true q), fun q => cB false (decide_eq_false q)⟩
  · refine m_X4_resultOf (fun n0 => ⟨fun z => absurd z (by decide), fun z => absurd z (by decide), fun z => absurd z (by decide), fun z => absurd z (by decide), fun z => absurd z (by decide), fun _ => ?_, fun z => absurd z (by decide), fun z => absurd z (by decide), fun z => absurd z (by decide), fun z => absurd z (by decide), fun z => absurd z (by decide), fun z => absurd z (by decide), fun z8 z9 z11 z12 z13 z14 z15 z16 z17 z18 z19 z20 => absurd rfl z14⟩)
    have cB : ∀ bb : Bool, decide (¬ a = b) = bb → K (bL bb) S := fun bb h => cB bb (by simp only [mVal, cmN, h])
    rw [lg_cmp_eq]
    exact ⟨fun q => cB false (decide_eq_false ((fun z => z q))), fun q => cB true (decide_eq_true (q))⟩
  · refine m_X4_resultOf (fun n0 => ⟨fun z => absurd z (by decide), fun z => absurd z (by decide), fun z => absurd z (by decide), fun z => absurd z (by decide), fun z => absurd z (by decide), fun z => absurd z (by decide), fun _ => ?_, fun z => absurd z (by decide), fun z => absurd z (by decide), fun z => absurd z (by decide), fun z => absurd z (by decide), fun z => absurd z (by decide), fun z8 z9 z11 z12 z13 z14 z15 z16 z17 z18 z19 z20 => absurd rfl z15⟩)
    have cB : ∀ bb : Bool, decide (b ≤ a) = bb → K (bL bb) S := fun bb h => cB bb (by simp only [mVal, cmN, h])
    rw [lg_cmp_lt]
    exact ⟨fun q => cB false (decide_eq_false (Int64.not_le.mpr q)), fun q => cB true (decide_eq_true (Int64.not_lt.mp q))⟩
  · refine m_X4_resultOf (fun n0 => ⟨fun z => absurd z (by decide), fun z => absurd z (by decide), fun z => absurd z (by decide), fun z => absurd z (by decide), fun z => absurd z (by decide), fun z => absurd z (by decide), fun z => absurd z (by decide), fun _ => ?_, fun z => absurd z (by decide), fun z => absurd z (by decide), fun z => absurd z (by decide), fun z => absurd z (by decide), fun z8 z9 z11 z12 z13 z14 z15 z16 z17 z18 z19 z20 => absurd rfl z16⟩)
    have cB : ∀ bb : Bool, decide (b < a) = bb → K (bL bb) S := fun bb h => cB bb (by simp only [mVal, cmN, h])
    rw [lg_cmp_le]
    exact ⟨fun q => cB false (decide_eq_false (Int64.not_lt.mpr q)), fun q => cB true (decide_eq_true (Int64.not_le.mp q))⟩
  · refine m_X4_resultOf (fun n0 => ⟨fun z => absurd z (by decide), fun z => absurd z (by decide), fun z => absurd z (by decide), fun z => absurd z (by decide), fun z => absurd z (by decide), fun z => absurd z (by decide), fun z => absurd z (by decide), fun z => absurd z (by decide), fun _ => ?_, fun z => absurd z (by decide), fun z => absurd z (by decide), fun z => absurd z (by decide), fun z8 z9 z11 z12 z13 z14 z15 z16 z17 z18 z19 z20 => absurd rfl z17⟩)
    refine c _ ?_
    simp only [mVal]
    by_cases z : bdE (nI 0) (a + b)
    · rw [if_pos z, if_pos z]
      refine Or.inr ⟨show ¬ nI 1 = 0 by decide, fun y => ?_⟩
      rcases z with z | z
      · exact z rfl
      · exact bd_iff.mp y z
    · rw [if_neg z, if_neg z]
      exact Or.inl ⟨rfl, rfl, bd_iff.mpr (fun y => z (Or.inr y))⟩
  · refine m_X4_resultOf (fun n0 => ⟨fun z => absurd z (by decide), fun z => absurd z (by decide), fun z => absurd z (by decide), fun z => absurd z (by decide), fun z => absurd z (by decide), fun z => absurd z (by decide), fun z => absurd z (by decide), fun z => absurd z (by decide), fun z => absurd z (by decide), fun _ => ?_, fun z => absurd z (by decide), fun z => absurd z (by decide), fun z8 z9 z11 z12 z13 z14 z15 z16 z17 z18 z19 z20 => absurd rfl z18⟩)
    refine c _ ?_
    simp only [mVal]
    by_cases z : bdE (nI 0) (a - b)
    · rw [if_pos z, if_pos z]
      refine Or.inr ⟨show ¬ nI 1 = 0 by decide, fun y => ?_⟩
      rcases z with z | z
      · exact z rfl
      · exact bd_iff.mp y z
    · rw [if_neg z, if_neg z]
      exact Or.inl ⟨rfl, rfl, bd_iff.mpr (fun y => z (Or.inr y))⟩
  · refine m_X4_resultOf (fun n0 => ⟨fun z => absurd z (by decide), fun z => absurd z (by decide), fun z => absurd z (by decide), fun z => absurd z (by decide), fun z => absurd z (by decide), fun z => absurd z (by decide), fun z => absurd z (by decide), fun z => absurd z (by decide), fun z => absurd z (by decide), fun z => absurd z (by decide), fun _ => ?_, fun z => absurd z (by decide), fun z8 z9 z11 z12 z13 z14 z15 z16 z17 z18 z19 z20 => absurd rfl z19⟩)
    refine u_product G fr S tl a b ha hb _ (fun z => c _ ?_) (fun z => c _ ?_)
    · simp only [mVal]
      have z2 : ¬ tmF (nI 0) a b := fun y => y.elim (fun w => w rfl) z
      rw [if_neg z2, if_neg z2]
      exact Or.inl ⟨rfl, rfl, bd_mul ha hb z⟩
    · simp only [mVal]
      have z2 : tmF (nI 0) a b := Or.inr z
      rw [if_pos z2, if_pos z2]
      exact Or.inr ⟨show ¬ nI 1 = 0 by decide, nbd_N⟩
  · refine m_X4_resultOf (fun n0 => ⟨fun z => absurd z (by decide), fun z => absurd z (by decide), fun z => absurd z (by decide), fun z => absurd z (by decide), fun z => absurd z (by decide), fun z => absurd z (by decide), fun z => absurd z (by decide), fun z => absurd z (by decide), fun z => absurd z (by decide), fun z => absurd z (by decide), fun z => absurd z (by decide), fun _ => ?_, fun z8 z9 z11 z12 z13 z14 z15 z16 z17 z18 z19 z20 => absurd rfl z20⟩)
    rw [lg_cmp_eq]
    refine ⟨fun q => c _ ?_, fun q => ⟨q, c _ ?_⟩⟩
    · simp only [mVal]
      have z2 : dvE (nI 0) b := Or.inr q
      rw [if_pos z2, if_pos z2]
      exact Or.inr ⟨show ¬ nI 1 = 0 by decide, nbd_N⟩
    · simp only [mVal]
      have z2 : ¬ dvE (nI 0) b := fun y => y.elim (fun w => w rfl) q
      rw [if_neg z2, if_neg z2]
      exact Or.inl ⟨rfl, rfl, bd_div ha⟩

