/-! ===== the reference: the first row ===== -/
theorem pop_cl : ∀ s, s < 512 → ∀ p, p < 9 → s.testBit p = true → pop (s - 2 ^ p) 9 + 1 = pop s 9 := by decide +kernel
theorem wxN_le {one oth jb : Nat → Nat} {T : Nat → Nat → Nat} {set e B : Nat} (hB : ∀ p, p < 9 → set.testBit p = true → ∀ x, T (set - 2 ^ p) x ≤ B) : ∀ p, p ≤ 9 → wxN one oth jb T set e p ≤ 2 * p * B
  | 0, _ => by
    show 0 ≤ _
    omega
  | p + 1, hp => by
    have ih := wxN_le (one := one) (oth := oth) (jb := jb) (e := e) hB p (by omega)
    have e2 : 2 * (p + 1) * B = 2 * p * B + B + B := by rw [Nat.mul_add, Nat.add_mul]; omega
    unfold wxN
    by_cases hb : set.testBit p = true
    · have h1 := hB p (by omega) hb (oth p)
      have h2 := hB p (by omega) hb (one p)
      rw [if_pos hb]
      have h3 : (if (jb e).testBit (one p) = true then T (set - 2 ^ p) (oth p) else 0) ≤ B := by split <;> omega
      have h4 : (if ¬ one p = oth p ∧ (jb e).testBit (oth p) = true then T (set - 2 ^ p) (one p) else 0) ≤ B := by split <;> omega
      omega
    · rw [if_neg hb]
      omega
theorem wyT_le (P : tPL) (jb : Nat → Nat) (en : Nat) (hp : P.1 ≤ 9) : ∀ k set, set < 512 → pop set 9 = k → ∀ e, wyT P jb en set e ≤ 18 ^ k := by
  intro k
  induction k with
  | zero =>
    intro set hs hk e
    by_cases h0 : set = 0
    · subst h0
      rw [wyT_0]
      split <;> decide
    · have := pop_pos (show set < 2 ^ 9 by omega) h0
      omega
  | succ k ih =>
    intro set hs hk e
    by_cases h0 : set = 0
    · subst h0
      cases hk
    · rw [wyT_eq P jb en set e h0]
      have h1 := wxN_le (one := P.2.2.1) (oth := P.2.2.2.1) (jb := jb) (T := wyT P jb en) (set := set) (e := e) (B := 18 ^ k) (fun p hp hb x => ih (set - 2 ^ p) (Nat.lt_of_le_of_lt (Nat.sub_le _ _) hs) (by have := pop_cl set hs p hp hb; omega) x) P.1 hp
      have h2 : 2 * P.1 * 18 ^ k ≤ 18 * 18 ^ k := Nat.mul_le_mul_right _ (by omega)
      rw [Nat.pow_succ, Nat.mul_comm (18 ^ k)]
      omega
theorem wyT_lt (P : tPL) (jb : Nat → Nat) (en set e : Nat) (hp : P.1 ≤ 9) (hs : set < 512) : wyT P jb en set e < 2 ^ 40 := by
  have h1 := wyT_le P jb en hp (pop set 9) set hs rfl e
  have h2 : 18 ^ pop set 9 ≤ 18 ^ 9 := Nat.pow_le_pow_right (by decide) (pop_le set 9)
  exact Nat.lt_of_le_of_lt (Nat.le_trans h1 h2) (by decide)
theorem rwN_le {one oth : Nat → Nat} {T : Nat → Nat → Nat} {set B : Nat} {f : Option Nat} (hB : ∀ q x, q < 512 → T q x ≤ B) (hs : set < 512) : ∀ p, rwN one oth T set f p ≤ 2 * p * B
  | 0 => by
    show 0 ≤ _
    omega
  | p + 1 => by
    have ih := rwN_le (one := one) (oth := oth) (f := f) hB hs p
    have e2 : 2 * (p + 1) * B = 2 * p * B + B + B := by rw [Nat.mul_add, Nat.add_mul]; omega
    have h1 := hB (set - 2 ^ p) (oth p) (Nat.lt_of_le_of_lt (Nat.sub_le _ _) hs)
    have h2 := hB (set - 2 ^ p) (one p) (Nat.lt_of_le_of_lt (Nat.sub_le _ _) hs)
    unfold rwN
    split
    · have h3 : (if f = none ∨ f = some (one p) then T (set - 2 ^ p) (oth p) else 0) ≤ B := by split <;> omega
      have h4 : (if ¬ one p = oth p ∧ (f = none ∨ f = some (oth p)) then T (set - 2 ^ p) (one p) else 0) ≤ B := by split <;> omega
      omega
    · omega
theorem rwT_lt (P : tPL) (jb : Nat → Nat) (en set : Nat) (f : Option Nat) (hp : P.1 ≤ 9) (hs : set < 512) : rwT P jb en set f < 2 ^ 50 := by
  have h1 := rwN_le (one := P.2.2.1) (oth := P.2.2.2.1) (T := wyT P jb en) (f := f) (B := 2 ^ 40) (fun q x hq => Nat.le_of_lt (wyT_lt P jb en q x hp hq)) hs P.1
  have h2 : 2 * P.1 * 2 ^ 40 ≤ 18 * 2 ^ 40 := Nat.mul_le_mul_right _ (by omega)
  exact Nat.lt_of_le_of_lt (Nat.le_trans h1 h2) (by decide)
theorem lN_eq0 {n : Nat} (hn : n < 2 ^ 63) : lg_cmp (lN n) (lN 0) = 0 ↔ n = 0 := by
  have e : (lN n = lN 0) ↔ n = 0 := by
    constructor
    · intro q
      have q2 := congrArg Int64.toInt q
      rw [show (lN n).toInt = (n : Int) from Int64.toInt_ofNat_of_lt (by omega), show (lN 0).toInt = 0 from rfl] at q2
      omega
    · rintro rfl
      rfl
  rw [← e]
  unfold lg_cmp
  by_cases q : lN n = lN 0
  · rw [q]
    decide
  · have h1 : lN 0 < lN n := by
      rw [Int64.lt_iff_toInt_lt, show (lN n).toInt = (n : Int) from Int64.toInt_ofNat_of_lt (by omega), show (lN 0).toInt = 0 from rfl]
      have : ¬ n = 0 := fun z => q (by rw [z])
      omega
    have h2 : ¬ lN n < lN 0 := Int64.not_lt.mpr (Int64.le_of_lt h1)
    simp [h1, h2, q]
def mtB : Option Nat → (Nat → Bool) → Bool
  | none, _ => true
  | some e, f => f e
/-- place c of the order (a piece, which way) can come next -/
def frB (P : tPL) (jb : Nat → Nat) (set : Nat) (en : Option Nat) (c : Nat) : Bool := set.testBit (c / 2) && (!(decide (c % 2 = 1) && decide (P.2.2.1 (c / 2) = P.2.2.2.1 (c / 2))) && (mtB en (fun e => (jb e).testBit (if c % 2 = 0 then P.2.2.1 (c / 2) else P.2.2.2.1 (c / 2))) && decide (¬ wyT P jb 127 (set - 2 ^ (c / 2)) (if c % 2 = 0 then P.2.2.2.1 (c / 2) else P.2.2.1 (c / 2)) = 0)))
def frK (P : tPL) (jb : Nat → Nat) (set : Nat) (en : Option Nat) : Nat → Option Nat
  | 0 => none
  | c + 1 => match frK P jb set en c with
    | some j => some j
    | none => if frB P jb set en c = true then some c else none
theorem frK_s {P : tPL} {jb : Nat → Nat} {set c : Nat} {en : Option Nat} (h : frK P jb set en c = none) : frK P jb set en (c + 1) = if frB P jb set en c = true then some c else none := by
  show (match frK P jb set en c with | some j => some j | none => _) = _
  rw [h]
theorem frK_m {P : tPL} {jb : Nat → Nat} {set c j : Nat} {en : Option Nat} (h : frK P jb set en c = some j) : ∀ d, frK P jb set en (c + d) = some j
  | 0 => h
  | d + 1 => by
    show (match frK P jb set en (c + d) with | some j => some j | none => _) = _
    rw [frK_m h d]
theorem frK_lt {P : tPL} {jb : Nat → Nat} {set : Nat} {en : Option Nat} : ∀ {c j : Nat}, frK P jb set en c = some j → j < c ∧ frB P jb set en j = true
  | 0, j, h => by cases h
  | c + 1, j, h => by
    cases q : frK P jb set en c with
    | some i =>
      have h9 := frK_m q 1
      rw [h9] at h
      cases h
      exact ⟨Nat.lt_succ_of_lt (frK_lt q).1, (frK_lt q).2⟩
    | none =>
      rw [frK_s q] at h
      by_cases z : frB P jb set en c = true
      · rw [if_pos z] at h
        cases h
        exact ⟨Nat.lt_succ_self _, z⟩
      · rw [if_neg z] at h
        cases h
theorem frK_no {P : tPL} {jb : Nat → Nat} {set : Nat} {en : Option Nat} : ∀ {n : Nat}, frK P jb set en n = none → ∀ c, c < n → frB P jb set en c = false
  | 0, _, c, hc => by omega
  | n + 1, h, c, hc => by
    cases q : frK P jb set en n with
    | some i =>
      rw [frK_m q 1] at h
      cases h
    | none =>
      rw [frK_s q] at h
      by_cases z : frB P jb set en n = true
      · rw [if_pos z] at h
        cases h
      · by_cases y : c = n
        · rw [y]
          simpa using z
        · exact frK_no q c (by omega)
/-- rest, last end, place, behind i steps -/
def frS (P : tPL) (jb : Nat → Nat) (set : Nat) : Nat → Nat × Option Nat × Nat
  | 0 => (set, none, 0)
  | i + 1 => match frK P jb (frS P jb set i).1 (frS P jb set i).2.1 (2 * P.1) with
    | some c => ((frS P jb set i).1 - 2 ^ (c / 2), some (if c % 2 = 0 then P.2.2.2.1 (c / 2) else P.2.2.1 (c / 2)), c)
    | none => frS P jb set i
/-- a row can go on -/
def frO (P : tPL) (jb : Nat → Nat) (set : Nat) : Option Nat → Prop
  | none => ¬ rwT P jb 127 set none = 0
  | some e => e < 7 ∧ ¬ wyT P jb 127 set e = 0
theorem wxN_no {P : tPL} {jb : Nat → Nat} {set e : Nat} (h : ∀ c, c < 2 * P.1 → frB P jb set (some e) c = false) : ∀ p, p ≤ P.1 → wxN P.2.2.1 P.2.2.2.1 jb (wyT P jb 127) set e p = 0
  | 0, _ => rfl
  | p + 1, hp => by
    have ih := wxN_no h p (by omega)
    unfold wxN
    rw [ih]
    by_cases hb : set.testBit p = true
    · rw [if_pos hb]
      have h1 := h (2 * p) (by omega)
      have h2 := h (2 * p + 1) (by omega)
      unfold frB at h1 h2
      rw [show 2 * p / 2 = p by omega, show 2 * p % 2 = 0 by omega, hb] at h1
      rw [show (2 * p + 1) / 2 = p by omega, show (2 * p + 1) % 2 = 1 by omega, hb] at h2
      simp [mtB] at h1 h2
      have e1 : (if (jb e).testBit (P.2.2.1 p) = true then wyT P jb 127 (set - 2 ^ p) (P.2.2.2.1 p) else 0) = 0 := by
        split
        · rename_i z
          exact h1 z
        · rfl
      have e2 : (if ¬ P.2.2.1 p = P.2.2.2.1 p ∧ (jb e).testBit (P.2.2.2.1 p) = true then wyT P jb 127 (set - 2 ^ p) (P.2.2.1 p) else 0) = 0 := by
        split
        · rename_i z
          exact h2 z.1 z.2
        · rfl
      rw [e1, e2]
    · rw [if_neg hb]
theorem rwN_no {P : tPL} {jb : Nat → Nat} {set : Nat} (h : ∀ c, c < 2 * P.1 → frB P jb set none c = false) : ∀ p, p ≤ P.1 → rwN P.2.2.1 P.2.2.2.1 (wyT P jb 127) set none p = 0
  | 0, _ => rfl
  | p + 1, hp => by
    have ih := rwN_no h p (by omega)
    unfold rwN
    rw [ih]
    by_cases hb : set.testBit p = true
    · rw [if_pos hb]
      have h1 := h (2 * p) (by omega)
      have h2 := h (2 * p + 1) (by omega)
      unfold frB at h1 h2
      rw [show 2 * p / 2 = p by omega, show 2 * p % 2 = 0 by omega, hb] at h1
      rw [show (2 * p + 1) / 2 = p by omega, show (2 * p + 1) % 2 = 1 by omega, hb] at h2
      simp [mtB] at h1 h2
      rw [if_pos (Or.inl rfl), h1]
      split
      · rename_i z
        rw [h2 z.1]
      · rfl
    · rw [if_neg hb]
theorem fr_ex {P : tPL} {jb : Nat → Nat} {set : Nat} {en : Option Nat} (h0 : ¬ set = 0) (h : frO P jb set en) : ∃ c, frK P jb set en (2 * P.1) = some c := by
  cases q : frK P jb set en (2 * P.1) with
  | some c => exact ⟨c, rfl⟩
  | none =>
    have hn := frK_no q
    cases en with
    | none => exact absurd (rwN_no hn P.1 (Nat.le_refl _)) h
    | some e =>
      refine absurd ?_ h.2
      rw [wyT_eq P jb 127 set e h0]
      exact wxN_no hn P.1 (Nat.le_refl _)
theorem nI_d2 : ∀ c, c < 20 → nI c / nI 2 = nI (c / 2) ∧ nI c - nI c / nI 2 * nI 2 = nI (c % 2) := by decide +kernel
def A_firstRow (g : tSG) (h k : Int32) : Int32 := if hrK g.1.1 h = true ∧ inK k 0 8 = true then (if pop (shN g h) 9 ≤ cl k ∨ rwT g.1.1 (jbC g.1) 127 (shN g h) none = 0 then -(nI 2) else nI (10 * ((frS g.1.1 (jbC g.1) (shN g h) (cl k + 1)).2.2 / 2) + (frS g.1.1 (jbC g.1) (shN g h) (cl k + 1)).2.2 % 2)) else -(nI 1)
theorem c_firstRow (G : ab_G) (fr : Bool) (S : ms_S) (tl : ab_H) (g : tSG) (hI : mI S g) (h k : Int32) :
    ctI G 5 M_X12_firstRow fr [.ref 0, .int h, .int k] lM S tl (fun v S' => qE g S' ∧ v = A_firstRow g h k) := by
  refine ctI.ab (fun K hK => m_X12_firstRow (fun n0 => ?_))
  have h0 := qE_0 hI
  refine ctI.eq (c_isHeirK G fr _ tl g.1.1 h h0.1.1.1.2.2.2.1) ?_
  unfold A_firstRow at hK
  simp (disch := omega) only [x_vp, x_lt0, x_0le, x_eq0, x_0lt, x_le0, x_b0, x_b1, nI_leI, nI_ltI, nI_eq, nI_add, pk_mul, nI_clamp, true_and, and_true, true_implies, false_implies, implies_true, not_true_eq_false, not_false_eq_true]
  refine ⟨fun hb => b_X12_firstRow_23 (hK _ _ ⟨h0, by rw [if_neg (by rw [hb]; simp)]⟩), fun hb => ctI.eq (c_isInK G fr _ k 0 8) ?_⟩
  simp (disch := omega) only [x_vp, x_lt0, x_0le, x_eq0, x_0lt, x_le0, x_b0, x_b1, nI_leI, nI_ltI, nI_eq, nI_add, pk_mul, nI_clamp, true_and, and_true, true_implies, false_implies, implies_true, not_true_eq_false, not_false_eq_true]
  refine ⟨fun hb2 => b_X12_firstRow_23 (hK _ _ ⟨h0, by rw [if_neg (by rw [hb2]; simp)]⟩), fun hb2 => ?_⟩
  rw [if_pos ⟨by simpa using hb, by simpa using hb2⟩] at hK
  obtain ⟨jk, _, hjk, rfl⟩ := inK_t (by decide) (by decide) (show inK k 0 8 = true by simpa using hb2)
  rw [cl_nI (by omega)] at hK
  have hset : shN g h < 2 ^ g.1.1.1 := heldN_lt _ _ _
  have h512 := p2_9 h0.1.1.1.1
  refine ctU.eq (c_plainTried G fr _ tl) (q_joins G fr _ tl g h0 _ (fun S1 q1 _ j1 => q_ways G fr S1 tl g 127 q1 j1 (by decide) _ (fun S2 q2 j2 w2 => q_held G fr S2 tl g h q2 _ ?_)))
  generalize shN g h = set0 at *
  obtain ⟨p1, p2, p3, p4, p5, p6⟩ := id q2.1.1.1
  have e12 : S2.1 0 12 = nI g.1.1.1 := p3
  refine ctI.eq (c_manyOf G fr set0 _ (by omega)) ?_
  have hp9 := pop_le set0 9
  simp (disch := omega) only [x_vp, x_lt0, x_0le, x_eq0, x_0lt, x_le0, x_b0, x_b1, nI_leI, nI_ltI, nI_eq, nI_add, pk_mul, nI_clamp, true_and, and_true, true_implies, false_implies, implies_true, not_true_eq_false, not_false_eq_true]
  refine ⟨fun q => b_X12_firstRow_66 (hK _ _ ⟨q2, by rw [if_pos (Or.inl q)]⟩), fun hpk => ctL.e1 (c_rowsOf G fr S2 tl g.1.1 (jbC g.1) 127 set0 none q2.1.1.1 w2 hset (fun x hx => by cases hx)) ?_⟩
  rw [lN_eq0 (Nat.lt_trans (rwT_lt _ _ _ _ _ p1 (by omega)) (by decide))]
  refine ⟨fun q => b_X12_firstRow_66 (hK _ _ ⟨q2, by rw [if_pos (Or.inr q)]⟩), fun hrw => ?_⟩
  rw [if_neg (fun z => z.elim hpk hrw)] at hK
  have KI : ∀ d i (code : Int32), i + d = jk + 1 → frO g.1.1 (jbC g.1) (frS g.1.1 (jbC g.1) set0 i).1 (frS g.1.1 (jbC g.1) set0 i).2.1 → pop (frS g.1.1 (jbC g.1) set0 i).1 9 + i = pop set0 9 → (frS g.1.1 (jbC g.1) set0 i).1 < 2 ^ g.1.1.1 → (0 < i → code = nI (frS g.1.1 (jbC g.1) set0 i).2.2 ∧ (frS g.1.1 (jbC g.1) set0 i).2.2 < 18) → L_X12_firstRow_78 G fr n0 tl K S2 (nI jk) (nI (frS g.1.1 (jbC g.1) set0 i).1) (fI (frS g.1.1 (jbC g.1) set0 i).2.1) code (nI i) := by
    intro d
    induction d with
    | zero =>
      intro i code hd h1 h2 h3 h4
      obtain ⟨h5, h6⟩ := h4 (by omega)
      rw [show i = jk + 1 by omega] at h5 h6 ⊢
      obtain ⟨d1, d2⟩ := nI_d2 (frS g.1.1 (jbC g.1) set0 (jk + 1)).2.2 (by omega)
      refine b_X12_firstRow_78 ?_
      rw [h5, d2, d1, pk_mul, nI_add]
      exact ⟨fun _ => ⟨by decide, by decide, hK _ _ ⟨q2, rfl⟩⟩, fun q => absurd (nI_lt (by omega) (by omega)) q⟩
    | succ d ih =>
      intro i code hd h1 h2 h3 h4
      have h9 := ih (i + 1)
      have hn0 : ¬ (frS g.1.1 (jbC g.1) set0 i).1 = 0 := fun z => by
        rw [z] at h2
        have e0 : pop 0 9 = 0 := by decide
        omega
      obtain ⟨c0, hc0⟩ := fr_ex hn0 h1
      have eS : frS g.1.1 (jbC g.1) set0 (i + 1) = ((frS g.1.1 (jbC g.1) set0 i).1 - 2 ^ (c0 / 2), some (if c0 % 2 = 0 then g.1.1.2.2.2.1 (c0 / 2) else g.1.1.2.2.1 (c0 / 2)), c0) := by
        show (match frK g.1.1 (jbC g.1) (frS g.1.1 (jbC g.1) set0 i).1 (frS g.1.1 (jbC g.1) set0 i).2.1 (2 * g.1.1.1) with | some c => _ | none => _) = _
        rw [hc0]
      rw [eS] at h9
      generalize frS g.1.1 (jbC g.1) set0 i = st at *
      obtain ⟨set, en, co⟩ := st
      dsimp only at *
      obtain ⟨hc1, hc2⟩ := frK_lt hc0
      refine b_X12_firstRow_78 ?_
      refine ⟨fun q => absurd q (fun z => absurd ((nI_ltI (by omega) (by omega)).mp z) (by omega)), fun _ => ?_⟩
      have hen7 : ∀ x, en = some x → x < 7 := fun x hx => by
        subst hx
        exact h1.1
      have K251 : L_X12_firstRow_251 G fr n0 tl K S2 (nI jk) (nI set) (nI c0) (nI i) := by
        obtain ⟨d1, d2⟩ := nI_d2 c0 (by omega)
        obtain ⟨f1, f2, f3, f4, f5, f6⟩ := p5 (c0 / 2) (by omega)
        have f1 : S2.2.2.2.1 6 (c0 / 2) = nI (g.1.1.2.2.1 (c0 / 2)) := f1
        have f3 : S2.2.2.2.1 7 (c0 / 2) = nI (g.1.1.2.2.2.1 (c0 / 2)) := f3
        unfold frB at hc2
        simp only [Bool.and_eq_true, decide_eq_true_eq] at hc2
        obtain ⟨hb1, hb2, hb3, hb4⟩ := hc2
        have hpc := pop_cl set (by omega) (c0 / 2) (by omega) hb1
        have h10 := h9 (nI c0) (by omega) ⟨by split <;> assumption, hb4⟩ (by omega) (Nat.lt_of_le_of_lt (Nat.sub_le _ _) h3) (fun _ => ⟨rfl, by omega⟩)
        refine b_X12_firstRow_251 ?_
        rw [d2, d1, nI_clamp (by omega), f1, f3, nu_rest (by omega) (by omega) hb1]
        refine ⟨by decide, by decide, fun q => ⟨(x_vp (by omega)).mpr (by omega), b_X12_firstRow_290 ?_⟩, fun q => ⟨(x_vp (by omega)).mpr (by omega), b_X12_firstRow_290 ?_⟩⟩
        · rw [x_eq0 (by omega)] at q
          rw [if_pos q] at h10
          rw [nI_add]
          exact h10
        · rw [x_eq0 (by omega)] at q
          rw [if_neg q] at h10
          rw [nI_add]
          exact h10
      have KC : ∀ d c, c + d = 2 * g.1.1.1 → frK g.1.1 (jbC g.1) set en c = none → L_X12_firstRow_90 G fr n0 tl K S2 (nI jk) (nI set) (fI en) (-(nI 1)) (nI i) (nI c) := by
        intro d
        induction d with
        | zero =>
          intro c hd hy
          rw [show c = 2 * g.1.1.1 by omega, hc0] at hy
          cases hy
        | succ d ihc =>
          intro c hd hy
          obtain ⟨d1, d2⟩ := nI_d2 c (by omega)
          obtain ⟨f1, f2, f3, f4, f5, f6⟩ := p5 (c / 2) (by omega)
          have f1 : S2.2.2.2.1 6 (c / 2) = nI (g.1.1.2.2.1 (c / 2)) := f1
          have f3 : S2.2.2.2.1 7 (c / 2) = nI (g.1.1.2.2.2.1 (c / 2)) := f3
          have K245 : frB g.1.1 (jbC g.1) set en c = false → L_X12_firstRow_245 G fr n0 tl K S2 (nI jk) (nI set) (fI en) (-(nI 1)) (nI i) (nI c) := by
            intro hf
            refine b_X12_firstRow_245 ?_
            rw [nI_add]
            exact ihc (c + 1) (by omega) (by rw [frK_s hy, if_neg (by rw [hf]; decide)])
          have KT : frB g.1.1 (jbC g.1) set en c = true → L_X12_firstRow_245 G fr n0 tl K S2 (nI jk) (nI set) (fI en) (nI c) (nI i) (nI c) := by
            intro hf
            have h11 := frK_m (show frK g.1.1 (jbC g.1) set en (c + 1) = some c by rw [frK_s hy, if_pos hf]) d
            rw [show c + 1 + d = 2 * g.1.1.1 by omega, hc0] at h11
            cases h11
            refine b_X12_firstRow_245 (b_X12_firstRow_90 ⟨fun _ => K251, fun _ => ⟨fun _ => K251, fun q => absurd ((x_0le (by omega)).mpr trivial) q⟩⟩)
          refine b_X12_firstRow_90 ?_
          rw [e12, pk_mul, d2, d1, x_0n (by decide) (by decide)]
          refine ⟨fun q => absurd q (nI_ge (by omega) (by omega)), fun _ => ⟨False.elim, fun _ => ⟨by decide, ctI.eq (c_isOfN G fr _ set (c / 2) (by omega) (by omega)) ?_⟩⟩⟩
          have hB : frB g.1.1 (jbC g.1) set en c = frB g.1.1 (jbC g.1) set en c := rfl
          conv at hB => rhs; unfold frB
          cases hb1 : set.testBit (c / 2) with
          | false =>
            rw [hb1] at hB
            exact ⟨fun _ => K245 (by rw [hB]; rfl), fun q => absurd rfl q⟩
          | true =>
            refine ⟨fun q => absurd q (by decide), fun _ => ⟨by decide, ?_⟩⟩
            rw [hb1, Bool.true_and] at hB
            have h1b := tb_sub hb1
            have K142 : ¬ (c % 2 = 1 ∧ g.1.1.2.2.1 (c / 2) = g.1.1.2.2.2.1 (c / 2)) → L_X12_firstRow_142 G fr n0 tl K S2 (nI jk) (nI set) (fI en) (-(nI 1)) (nI i) (nI c) (nI (c / 2)) := by
              intro hnt
              have hB2 : (!(decide (c % 2 = 1) && decide (g.1.1.2.2.1 (c / 2) = g.1.1.2.2.2.1 (c / 2)))) = true := by
                cases hx : (decide (c % 2 = 1) && decide (g.1.1.2.2.1 (c / 2) = g.1.1.2.2.2.1 (c / 2))) with
                | false => rfl
                | true =>
                  simp only [Bool.and_eq_true, decide_eq_true_eq] at hx
                  exact absurd hx hnt
              rw [hB2, Bool.true_and] at hB
              have K214 : ∀ z, z < 7 → (if c % 2 = 0 then g.1.1.2.2.2.1 (c / 2) else g.1.1.2.2.1 (c / 2)) = z → mtB en (fun e => (jbC g.1 e).testBit (if c % 2 = 0 then g.1.1.2.2.1 (c / 2) else g.1.1.2.2.2.1 (c / 2))) = true → L_X12_firstRow_214 G fr n0 tl K S2 (nI jk) (nI set) (fI en) (-(nI 1)) (nI i) (nI c) (nI (c / 2)) (nI z) := by
                intro z hz ez hm
                rw [ez, hm, Bool.true_and] at hB
                have hq : set - 2 ^ (c / 2) < 2 ^ g.1.1.1 := Nat.lt_of_le_of_lt (Nat.sub_le _ _) h3
                have t1 := w2 (set - 2 ^ (c / 2)) hq z hz
                refine b_X12_firstRow_214 ?_
                rw [nu_rest (by omega) (by omega) hb1, pk_mul, nI_add, nI_clamp (by omega), t1, lN_eq0 (Nat.lt_trans (wyT_lt _ _ _ _ _ p1 (by omega)) (by decide))]
                exact ⟨(x_vp (by omega)).mpr (by omega), fun q => K245 (by rw [hB]; simp [q]), fun q => KT (by rw [hB]; simp [q])⟩
              have K192 : ∀ a z, a < 7 → z < 7 → (if c % 2 = 0 then g.1.1.2.2.1 (c / 2) else g.1.1.2.2.2.1 (c / 2)) = a → (if c % 2 = 0 then g.1.1.2.2.2.1 (c / 2) else g.1.1.2.2.1 (c / 2)) = z → L_X12_firstRow_192 G fr n0 tl K S2 (nI jk) (nI set) (fI en) (-(nI 1)) (nI i) (nI c) (nI (c / 2)) (nI a) (nI z) := by
                intro a z ha hz ea ez
                have h214 := K214 z hz ez
                rw [ea] at hB h214
                refine b_X12_firstRow_192 ?_
                cases en with
                | none => exact ⟨fun _ => h214 rfl, fun q => absurd (neg_neg (by decide) (by decide)) q⟩
                | some e =>
                  have he := hen7 e rfl
                  have e31 : S2.2.2.2.1 31 e = nI (jbC g.1 e) := j2 e he
                  have hje : jbC g.1 e < 2 ^ 7 := bitsN_lt _ _
                  show (nI e < 0 → _) ∧ (¬ nI e < 0 → vp_in (nI e) 7 ∧ ctI _ _ _ _ [.int (S2.2.2.2.1 31 (nI e).toNatClampNeg), _] _ _ _ _)
                  rw [nI_clamp (by omega), e31]
                  refine ⟨fun q => absurd q (nI_pos (by omega)), fun _ => ⟨(x_vp (by omega)).mpr (by omega), ctI.eq (c_isOfN G fr _ (jbC g.1 e) a (by omega) (by omega)) ?_⟩⟩
                  simp (disch := omega) only [x_vp, x_lt0, x_0le, x_eq0, x_0lt, x_le0, x_b0, x_b1, nI_leI, nI_ltI, nI_eq, nI_add, pk_mul, nI_clamp, true_and, and_true, true_implies, false_implies, implies_true, not_true_eq_false, not_false_eq_true]
                  exact ⟨fun q => K245 (by rw [hB]; show ((jbC g.1 e).testBit a && _) = false; rw [q]; rfl), fun q => h214 (by show (jbC g.1 e).testBit a = true; simpa using q)⟩
              refine b_X12_firstRow_142 ?_
              rw [d2, nI_clamp (by omega), f1, f3, x_eq0 (k := c % 2) (by omega)]
              have hv : vp_in (nI (c / 2)) 18 := (x_vp (by omega)).mpr (by omega)
              have K166 : ∀ a, a < 7 → (if c % 2 = 0 then g.1.1.2.2.1 (c / 2) else g.1.1.2.2.2.1 (c / 2)) = a → L_X12_firstRow_166 G fr n0 tl K S2 (nI jk) (nI set) (fI en) (-(nI 1)) (nI i) (nI c) (nI (c / 2)) (nI a) := by
                intro a ha ea
                refine b_X12_firstRow_166 ?_
                rw [d2, nI_clamp (by omega), f1, f3, x_eq0 (k := c % 2) (by omega)]
                exact ⟨by decide, fun q => ⟨hv, K192 a _ ha f4 ea (if_pos q)⟩, fun q => ⟨hv, K192 a _ ha f2 ea (if_neg q)⟩⟩
              exact ⟨by decide, fun q => ⟨hv, K166 _ f2 (if_pos q)⟩, fun q => ⟨hv, K166 _ f4 (if_neg q)⟩⟩
            simp (disch := omega) only [x_vp, x_lt0, x_0le, x_eq0, x_0lt, x_le0, x_b0, x_b1, nI_leI, nI_ltI, nI_eq, nI_add, pk_mul, nI_clamp, true_and, and_true, true_implies, false_implies, implies_true, not_true_eq_false, not_false_eq_true]
            refine ⟨fun q => ctI.e1 (c_waysWith G fr S2 tl g.1.1 (c / 2) q2.1.1.1 (by omega)) ?_, fun q => K142 (fun z => q z.1)⟩
            by_cases hw : g.1.1.2.2.1 (c / 2) = g.1.1.2.2.2.1 (c / 2)
            · rw [if_pos hw]
              exact ⟨fun _ => K245 (by rw [hB]; simp [q, hw]), fun z => absurd rfl z⟩
            · rw [if_neg hw]
              exact ⟨fun z => absurd z (by decide), fun _ => K142 (fun z => hw z.2)⟩
      exact KC (2 * g.1.1.1) 0 (by omega) rfl
  exact KI (jk + 1) 0 (-(nI 1)) (by omega) hrw (by show pop set0 9 + 0 = _; omega) hset (fun z => by omega)
