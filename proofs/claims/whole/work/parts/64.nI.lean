/-! ===== the reference: what is lacking, one too many, exchanges, shape ===== -/
theorem nf_t {b : Bool} (h : ¬ b = false) : b = true := by
  cases b with
  | false => exact absurd rfl h
  | true => rfl
def qR (g : tSG) (S : ms_S) : Prop := qE g S ∧ mRT S g.1.1 (jbC g.1) ∧ m_allMay S = nI 0
theorem q_layRows (G : ab_G) (fr : Bool) (S : ms_S) (tl : ab_H) (g : tSG) (h : qE g S) (K : ms_S → Prop) (k : ∀ S', qR g S' → K S') : ctU G 5 M_X12_layRows fr [.ref 0, .int (nI 0)] lM (ptS S) tl K := by
  have h1 := qE_pt h
  have hO := ptS_O h.1.1
  refine Met_mono (c_layRows G fr (ptS S) tl g.1.1 g.1.2.2.2.1 0 h1.1.1.1 h1.1.1.2.2.2.2.1 (by decide) h1.1.1.2.2.2.2.2.2.2.2.2) ?_
  rintro r h' ⟨S1, rfl, hm1, hj1, ht1, hw1, rfl⟩
  rw [dec_bI hO.2.2.1] at ht1
  exact ⟨S1, rfl, rfl, k S1 ⟨qE_Z (S := S) h1 hm1.Z hw1, ht1, (hm1.1 0 61 (Or.inr rfl)).trans hO.2.2.2.1⟩⟩
theorem q_isRow (G : ab_G) (fr : Bool) (S : ms_S) (tl : ab_H) (g : tSG) (set : Nat) (h : qR g S) (hs : set < 2 ^ g.1.1.1) (K : Int32 → ms_S → Prop) (k : K (bI (isRowK g.1.1 (jbC g.1) set 7)) S) : ctI G 1 M_X12_isRow fr [.ref 0, .int (nI set)] lM S tl K := ctI.eq (c_isRow G fr S tl g.1.1 (jbC g.1) set h.1.1.1.1 h.2.1 hs) k
theorem aLZ (a : Nat) (h : aQ a = true) : aL a = false := by
  unfold aQ at h
  simp only [Bool.or_eq_true] at h
  rcases h with (((h | h) | h) | h) | h <;> (have := Nat.eq_of_beq_eq_true h; subst this; rfl)
theorem q_may (G : ab_G) (fr : Bool) (S : ms_S) (tl : ab_H) (g : tSG) (hh p : Nat) (h : qR g S) (hhh : hh < 5) (hp : p < g.1.1.1) (K : Int32 → ms_S → Prop) (k : ∀ S', qR g S' → K (bI (mayK g.1.1 g.1.2.2.2.1 false hh p)) S') : ctI G 4 M_X12_may fr [.ref 0, .int (nI 0), .int (nI hh), .int (nI p)] lM S tl K := by
  refine Met_mono (c_may G fr S tl g.1.1 g.1.2.2.2.1 0 hh p h.1.1.1.1 h.1.1.1.2.2.2.2.1 (by decide) hhh hp) ?_
  rintro r h' ⟨S1, rfl, hm1, rfl⟩
  rw [dec_bI (b := false) h.2.2]
  have hw := mRW_F hm1 rfl rfl rfl h.1.1.1.2.2.2.2.2.2.2.2.2
  exact ⟨_, S1, rfl, rfl, k S1 ⟨qE_Z (S := S) h.1 hm1.LR.Z hw, mRT_F hm1 rfl h.2.1, (hm1.1 0 61 (Or.inr rfl)).trans h.2.2⟩⟩
theorem q_ho {g : tSG} {S : ms_S} (h : qE g S) {p : Nat} (hp : p < 9) : S.2.2.2.1 26 p = g.1.2.2.2.1.1 p := by
  have := h.1.1.2.2.2.2.1.1 p hp
  rwa [Nat.mul_zero, Nat.zero_add] at this
theorem p2_lt {p n : Nat} (h : p < n) : 2 ^ p < 2 ^ n := Nat.pow_lt_pow_right (by decide) h
theorem bitsN_0 {f : Nat → Bool} {p : Nat} (h : f p = false) : bitsN f (p + 1) = bitsN f p := by
  show bitsN f p ||| (if f p = true then 2 ^ p else 0) = _
  rw [h, if_neg (by decide), Nat.or_zero]
theorem bitsN_1 {f : Nat → Bool} {p : Nat} (h : f p = true) : bitsN f (p + 1) = bitsN f p ||| 2 ^ p := by
  show bitsN f p ||| (if f p = true then 2 ^ p else 0) = _
  rw [h, if_pos rfl]
/-! one too many -/
def A_tooMany (g : tSG) (h : Int32) : Int32 := if hrK g.1.1 h = true then nI (bitsN (fun p => (shN g h).testBit p && isRowK g.1.1 (jbC g.1) (shN g h - 2 ^ p) 7) g.1.1.1) else -(nI 1)
theorem c_tooMany (G : ab_G) (fr : Bool) (S : ms_S) (tl : ab_H) (g : tSG) (hI : mI S g) (h : Int32) :
    ctI G 6 M_X12_tooMany fr [.ref 0, .int h] lM S tl (fun v S' => qE g S' ∧ v = A_tooMany g h) := by
  refine ctI.ab (fun K hK => m_X12_tooMany (fun n0 => ?_))
  have h0 := qE_0 hI
  refine ctI.eq (c_isHeirK G fr _ tl g.1.1 h h0.1.1.1.2.2.2.1) ?_
  unfold A_tooMany at hK
  simp (disch := omega) only [x_vp, x_lt0, x_0le, x_eq0, x_0lt, x_le0, x_b0, x_b1, nI_leI, nI_ltI, nI_eq, nI_add, pk_mul, nI_clamp, true_and, and_true, true_implies, false_implies, implies_true, not_true_eq_false, not_false_eq_true]
  refine ⟨fun hb => hK _ _ ⟨h0, by rw [hb]; rfl⟩, fun hb => ?_⟩
  rw [if_pos (by simpa using hb)] at hK
  have hset : shN g h < 2 ^ g.1.1.1 := heldN_lt _ _ _
  have h512 := p2_9 h0.1.1.1.1
  refine ctU.eq (c_plainTried G fr _ tl) (q_layRows G fr _ tl g h0 _ (fun S1 q1 => q_held G fr S1 tl g h q1.1 _ ?_))
  generalize shN g h = set at *
  obtain ⟨p1, p2, p3, p4, p5, p6⟩ := id q1.1.1.1.1
  have e12 : S1.1 0 12 = nI g.1.1.1 := p3
  have KL : ∀ d p, p + d = g.1.1.1 → L_X12_tooMany_36 G fr n0 tl K S1 (nI set) (nI (bitsN (fun p => set.testBit p && isRowK g.1.1 (jbC g.1) (set - 2 ^ p) 7) p)) (nI p) := by
    intro d
    induction d with
    | zero =>
      intro p hd
      refine b_X12_tooMany_36 ?_
      simp (disch := omega) only [x_vp, x_lt0, x_0le, x_eq0, x_0lt, x_le0, x_b0, x_b1, nI_leI, nI_ltI, nI_eq, nI_add, pk_mul, nI_clamp, true_and, and_true, true_implies, false_implies, implies_true, not_true_eq_false, not_false_eq_true, e12]
      exact ⟨fun _ => hK _ _ ⟨q1.1, by rw [show p = g.1.1.1 by omega]⟩, fun q => absurd q (by omega)⟩
    | succ d ih =>
      intro p hd
      have h9 := ih (p + 1) (by omega)
      refine b_X12_tooMany_36 ?_
      rw [e12, nI_add, nu_set (by omega)]
      refine ⟨fun q => absurd q (nI_ge (by omega) (by omega)), fun _ => ctI.eq (c_isOfN G fr _ set p (by omega) (by omega)) ?_⟩
      cases hb : set.testBit p with
      | false =>
        rw [bitsN_0 (by rw [hb]; rfl)] at h9
        exact ⟨fun _ => h9, fun q => absurd rfl q⟩
      | true =>
        refine ⟨fun q => absurd q (by decide), fun _ => ?_⟩
        rw [nu_rest (by omega) (by omega) hb]
        refine q_isRow G fr S1 tl g (set - 2 ^ p) q1 (Nat.lt_of_le_of_lt (Nat.sub_le _ _) hset) _ ?_
        cases hr : isRowK g.1.1 (jbC g.1) (set - 2 ^ p) 7 with
        | false =>
          rw [bitsN_0 (by rw [hb, hr]; rfl)] at h9
          exact ⟨fun _ => h9, fun q => absurd rfl q⟩
        | true =>
          rw [bitsN_1 (by rw [hb, hr]; rfl)] at h9
          exact ⟨fun q => absurd q (by decide), fun _ => h9⟩
  exact KL g.1.1.1 0 (by omega)
/-! lacking -/
def lkB (g : tSG) (h : Nat) (p : Nat) : Bool := decide (¬ g.1.2.2.2.1.1 p = nI h) && (decide (¬ g.1.2.2.2.1.1 p = -(nI 3)) && (mayK g.1.1 g.1.2.2.2.1 false h p && isRowK g.1.1 (jbC g.1) (shN g (nI h) ||| 2 ^ p) 7))
def A_lacks (g : tSG) (h : Int32) : Int32 := if hrK g.1.1 h = true then nI (bitsN (lkB g (cl h)) g.1.1.1) else -(nI 1)
theorem c_lacks (G : ab_G) (fr : Bool) (S : ms_S) (tl : ab_H) (g : tSG) (hI : mI S g) (h : Int32) :
    ctI G 6 M_X12_lacks fr [.ref 0, .int h] lM S tl (fun v S' => qE g S' ∧ v = A_lacks g h) := by
  refine ctI.ab (fun K hK => m_X12_lacks (fun n0 => ?_))
  have h0 := qE_0 hI
  refine ctI.eq (c_isHeirK G fr _ tl g.1.1 h h0.1.1.1.2.2.2.1) ?_
  unfold A_lacks at hK
  simp (disch := omega) only [x_vp, x_lt0, x_0le, x_eq0, x_0lt, x_le0, x_b0, x_b1, nI_leI, nI_ltI, nI_eq, nI_add, pk_mul, nI_clamp, true_and, and_true, true_implies, false_implies, implies_true, not_true_eq_false, not_false_eq_true]
  refine ⟨fun hb => hK _ _ ⟨h0, by rw [hb]; rfl⟩, fun hb => ?_⟩
  rw [if_pos (by simpa using hb)] at hK
  have hp5 := h0.1.1.1.2.1
  obtain ⟨jh, hjh, rfl⟩ := hrK_t hp5 (show hrK g.1.1 h = true by simpa using hb)
  rw [cl_nI (by omega)] at hK
  have hset : shN g (nI jh) < 2 ^ g.1.1.1 := heldN_lt _ _ _
  have h512 := p2_9 h0.1.1.1.1
  have p1 := h0.1.1.1.1
  refine ctU.eq (c_plainTried G fr _ tl) (q_layRows G fr _ tl g h0 _ (fun S1 q1 => q_held G fr S1 tl g _ q1.1 _ ?_))
  have KL : ∀ d p (X : ms_S), p + d = g.1.1.1 → qR g X → L_X12_lacks_36 G fr n0 tl K X (nI jh) (nI (shN g (nI jh))) (nI (bitsN (lkB g jh) p)) (nI p) := by
    intro d
    induction d with
    | zero =>
      intro p X hd x1
      have e12 : X.1 0 12 = nI g.1.1.1 := x1.1.1.1.1.2.2.1
      refine b_X12_lacks_36 ?_
      simp (disch := omega) only [x_vp, x_lt0, x_0le, x_eq0, x_0lt, x_le0, x_b0, x_b1, nI_leI, nI_ltI, nI_eq, nI_add, pk_mul, nI_clamp, true_and, and_true, true_implies, false_implies, implies_true, not_true_eq_false, not_false_eq_true, e12]
      exact ⟨fun _ => hK _ _ ⟨x1.1, by rw [show p = g.1.1.1 by omega]⟩, fun q => absurd q (by omega)⟩
    | succ d ih =>
      intro p X hd x1
      have e12 : X.1 0 12 = nI g.1.1.1 := x1.1.1.1.1.2.2.1
      have e26 := q_ho x1.1 (show p < 9 by omega)
      have k0 : lkB g jh p = false → ∀ X, qR g X → L_X12_lacks_36 G fr n0 tl K X (nI jh) (nI (shN g (nI jh))) (nI (bitsN (lkB g jh) p)) (nI (p + 1)) := fun hf X x1 => by
        have h9 := ih (p + 1) X (by omega) x1
        rw [bitsN_0 hf] at h9
        exact h9
      have k1 : lkB g jh p = true → ∀ X, qR g X → L_X12_lacks_36 G fr n0 tl K X (nI jh) (nI (shN g (nI jh))) (nI (bitsN (lkB g jh) p ||| 2 ^ p)) (nI (p + 1)) := fun hf X x1 => by
        have h9 := ih (p + 1) X (by omega) x1
        rw [bitsN_1 hf] at h9
        exact h9
      refine b_X12_lacks_36 ?_
      rw [e12, nI_add, nI_clamp (by omega), e26, nu_set (by omega), nu_set (by omega)]
      have hv : vp_in (nI p) 18 := (x_vp (by omega)).mpr (by omega)
      unfold lkB at k0 k1
      refine ⟨fun q => absurd q (nI_ge (by omega) (by omega)), fun _ => ⟨hv, fun q => ?_, fun q1 => ⟨hv, fun q => ?_, fun q2 => ?_⟩⟩⟩
      · exact k0 (by rw [decide_eq_false (fun z => z q)]; rfl) X x1
      · exact k0 (by rw [decide_eq_false (p := ¬ g.1.2.2.2.1.1 p = -(nI 3)) (fun z => z q), Bool.false_and, Bool.and_false]) X x1
      · refine q_may G fr X tl g jh p x1 (by omega) (by omega) _ (fun X2 x2 => ?_)
        rw [decide_eq_true q1, decide_eq_true q2, Bool.true_and, Bool.true_and] at k0 k1
        cases hm : mayK g.1.1 g.1.2.2.2.1 false jh p with
        | false => exact ⟨fun _ => k0 (by rw [hm]; rfl) X2 x2, fun q => absurd rfl q⟩
        | true =>
          refine ⟨fun q => absurd q (by decide), fun _ => q_isRow G fr X2 tl g _ x2 (Nat.or_lt_two_pow hset (p2_lt (by omega))) _ ?_⟩
          cases hr : isRowK g.1.1 (jbC g.1) (shN g (nI jh) ||| 2 ^ p) 7 with
          | false => exact ⟨fun _ => k0 (by rw [hm, hr]; rfl) X2 x2, fun q => absurd rfl q⟩
          | true => exact ⟨fun q => absurd q (by decide), fun _ => k1 (by rw [hm, hr]; rfl) X2 x2⟩
  exact KL g.1.1.1 0 S1 (by omega) q1
/-! exchanges -/
def swK (g : tSG) (h x y : Nat) : Bool := decide (g.1.2.2.2.1.1 x = nI h) && (decide (¬ g.1.2.2.2.1.1 y < 0) && (decide (¬ g.1.2.2.2.1.1 y = nI h) && (mayK g.1.1 g.1.2.2.2.1 false h y && mayK g.1.1 g.1.2.2.2.1 false (cl (g.1.2.2.2.1.1 y)) x)))
theorem c_isSwap (G : ab_G) (fr : Bool) (S : ms_S) (tl : ab_H) (g : tSG) (h x y : Nat) (hq : qR g S) (hh : h < g.1.1.2.1) (hx : x < g.1.1.1) (hy : y < g.1.1.1) :
    ctI G 5 M_X12_isSwap fr [.ref 0, .int (nI h), .int (nI x), .int (nI y)] lM S tl (fun v S' => qR g S' ∧ v = bI (swK g h x y)) := by
  refine ctI.ab (fun K hK => m_X12_isSwap (fun n0 => ?_))
  have p1 := hq.1.1.1.1.1
  have p2 := hq.1.1.1.1.2.1
  have ex := q_ho hq.1 (show x < 9 by omega)
  have ey := q_ho hq.1 (show y < 9 by omega)
  rw [nI_clamp (by omega), nI_clamp (by omega), ex, ey]
  unfold swK at hK
  refine ⟨(x_vp (by omega)).mpr (by omega), (x_vp (by omega)).mpr (by omega), fun z1 => ⟨fun z2 => hK _ _ ⟨hq, ?_⟩, fun z2 => ⟨fun z3 => hK _ _ ⟨hq, ?_⟩, fun z3 => ?_⟩⟩, fun z1 => hK _ _ ⟨hq, ?_⟩⟩
  · rw [decide_eq_false (p := ¬ g.1.2.2.2.1.1 y < 0) (fun z => z z2), Bool.false_and, Bool.and_false]
    rfl
  · rw [decide_eq_false (p := ¬ g.1.2.2.2.1.1 y = nI h) (fun z => z z3), Bool.false_and, Bool.and_false, Bool.and_false]
    rfl
  · rw [decide_eq_true z1, decide_eq_true z2, decide_eq_true z3, Bool.true_and, Bool.true_and, Bool.true_and] at hK
    refine q_may G fr S tl g h y hq (by omega) hy _ (fun X2 x2 => ?_)
    cases hm : mayK g.1.1 g.1.2.2.2.1 false h y with
    | false =>
      rw [hm, Bool.false_and] at hK
      exact ⟨fun _ => hK _ _ ⟨x2, rfl⟩, fun q => absurd rfl q⟩
    | true =>
      rw [hm, Bool.true_and] at hK
      refine ⟨fun q => absurd q (by decide), fun _ => ?_⟩
      obtain ⟨jo, hjo, eo⟩ : ∃ jo, jo < g.1.1.2.1 ∧ g.1.2.2.2.1.1 y = nI jo := by
        rcases hq.1.1.1.2.2.2.2.2.1 y hy with q | q | q
        · rw [q] at z2
          exact absurd (neg_neg (by decide) (by decide)) z2
        · rw [q] at z2
          exact absurd (neg_neg (by decide) (by decide)) z2
        · exact q
      rw [eo, cl_nI (by omega)] at hK
      rw [eo]
      refine q_may G fr X2 tl g jo x x2 (by omega) hx _ (fun X3 x3 => ?_)
      cases hm2 : mayK g.1.1 g.1.2.2.2.1 false jo x with
      | false =>
        rw [hm2] at hK
        exact ⟨fun _ => hK _ _ ⟨x3, rfl⟩, fun q => absurd rfl q⟩
      | true =>
        rw [hm2] at hK
        exact ⟨fun q => absurd q (by decide), fun _ => hK _ _ ⟨x3, rfl⟩⟩
  · rw [decide_eq_false z1]
    rfl
/-- one of the first n -/
def anB (f : Nat → Bool) : Nat → Bool
  | 0 => false
  | k + 1 => anB f k || f k
theorem anB_s (f : Nat → Bool) (k : Nat) : anB f (k + 1) = (anB f k || f k) := rfl
theorem anB_m {f : Nat → Bool} {k : Nat} (h : anB f k = true) : ∀ d, anB f (k + d) = true
  | 0 => h
  | d + 1 => by
    rw [← Nat.add_assoc, anB_s, anB_m h d]
    rfl
theorem anB_i {f : Nat → Bool} {k n : Nat} (hk : k < n) (h : f k = true) : anB f n = true := by
  have h1 : anB f (k + 1) = true := by rw [anB_s, h, Bool.or_true]
  have := anB_m h1 (n - (k + 1))
  rwa [show k + 1 + (n - (k + 1)) = n by omega] at this
theorem anB_iff {f : Nat → Bool} : ∀ {n : Nat}, anB f n = true ↔ ∃ k, k < n ∧ f k = true
  | 0 => ⟨fun h => (by cases h), fun ⟨k, h, _⟩ => (by omega)⟩
  | n + 1 => by
    rw [anB_s, Bool.or_eq_true, anB_iff (n := n)]
    constructor
    · rintro (⟨k, h1, h2⟩ | h)
      · exact ⟨k, by omega, h2⟩
      · exact ⟨n, by omega, h⟩
    · rintro ⟨k, h1, h2⟩
      by_cases z : k = n
      · exact Or.inr (by rw [← z]; exact h2)
      · exact Or.inl ⟨k, by omega, h2⟩
abbrev clB (s p : Nat) : Nat := if s.testBit p = true then s - 2 ^ p else s
theorem clB_lt {s p n : Nat} (h : s < n) : clB s p < n := by
  unfold clB
  split
  · exact Nat.lt_of_le_of_lt (Nat.sub_le _ _) h
  · exact h
abbrev thN (set x y : Nat) : Nat := clB set x ||| 2 ^ y
def sw1 (g : tSG) (h set x y : Nat) : Bool := swK g h x y && isRowK g.1.1 (jbC g.1) (thN set x y) 7
def swT (g : tSG) (h set x y v w : Nat) : Bool := decide (¬ v = x) && (decide (¬ w = y) && (swK g h v w && isRowK g.1.1 (jbC g.1) (thN (thN set x y) v w) 7))
def sw2 (g : tSG) (h set x y : Nat) : Bool := swK g h x y && anB (fun v => anB (swT g h set x y v) g.1.1.1) g.1.1.1
def A_swaps (g : tSG) (h : Int32) : Int32 := if hrK g.1.1 h = true then (if shN g h = 0 then -(nI 2) else if isRowK g.1.1 (jbC g.1) (shN g h) 7 = true then nI 0 else if anB (fun x => anB (sw1 g (cl h) (shN g h) x) g.1.1.1) g.1.1.1 = true then nI 1 else if anB (fun x => anB (sw2 g (cl h) (shN g h) x) g.1.1.1) g.1.1.1 = true then nI 2 else -(nI 2)) else -(nI 1)
theorem nu_th {s x y : Nat} (hs : s < 512) (hx : x < 9) (hy : y < 9) : (nI s &&& ((nI 1 <<< (nI x &&& 31)) ^^^ -(nI 1))) ||| (nI 1 <<< (nI y &&& 31)) = nI (thN s x y) := by
  rw [nu_1shl (by omega), nu_clr s hs x hx, nu_set (by omega)]
theorem c_swaps (G : ab_G) (fr : Bool) (S : ms_S) (tl : ab_H) (g : tSG) (hI : mI S g) (h : Int32) :
    ctI G 6 M_X12_swaps fr [.ref 0, .int h] lM S tl (fun v S' => qE g S' ∧ v = A_swaps g h) := by
  refine ctI.ab (fun K hK => m_X12_swaps (fun n0 => ?_))
  have h0 := qE_0 hI
  refine ctI.eq (c_isHeirK G fr _ tl g.1.1 h h0.1.1.1.2.2.2.1) ?_
  unfold A_swaps at hK
  simp (disch := omega) only [x_vp, x_lt0, x_0le, x_eq0, x_0lt, x_le0, x_b0, x_b1, nI_leI, nI_ltI, nI_eq, nI_add, pk_mul, nI_clamp, true_and, and_true, true_implies, false_implies, implies_true, not_true_eq_false, not_false_eq_true]
  refine ⟨fun hb => hK _ _ ⟨h0, by rw [hb]; rfl⟩, fun hb => ?_⟩
  rw [if_pos (by simpa using hb)] at hK
  have hp5 := h0.1.1.1.2.1
  obtain ⟨jh, hjh, rfl⟩ := hrK_t hp5 (show hrK g.1.1 h = true by simpa using hb)
  rw [cl_nI (by omega)] at hK
  have hset : shN g (nI jh) < 2 ^ g.1.1.1 := heldN_lt _ _ _
  have h512 := p2_9 h0.1.1.1.1
  have p1 := h0.1.1.1.1
  refine ctU.eq (c_plainTried G fr _ tl) (q_layRows G fr _ tl g h0 _ (fun S1 q1 => q_held G fr S1 tl g _ q1.1 _ ?_))
  generalize shN g (nI jh) = set at *
  simp (disch := omega) only [x_vp, x_lt0, x_0le, x_eq0, x_0lt, x_le0, x_b0, x_b1, nI_leI, nI_ltI, nI_eq, nI_add, pk_mul, nI_clamp, true_and, and_true, true_implies, false_implies, implies_true, not_true_eq_false, not_false_eq_true]
  refine ⟨fun q => hK _ _ ⟨q1.1, by rw [if_pos q]⟩, fun q => q_isRow G fr S1 tl g set q1 hset _ ?_⟩
  rw [if_neg q] at hK
  simp (disch := omega) only [x_vp, x_lt0, x_0le, x_eq0, x_0lt, x_le0, x_b0, x_b1, nI_leI, nI_ltI, nI_eq, nI_add, pk_mul, nI_clamp, true_and, and_true, true_implies, false_implies, implies_true, not_true_eq_false, not_false_eq_true]
  refine ⟨fun hr => ?_, fun hr => hK _ _ ⟨q1.1, by rw [if_pos (by simpa using hr)]⟩⟩
  rw [if_neg (by rw [hr]; decide)] at hK
  have hN : ∀ X : ms_S, qR g X → X.1 0 12 = nI g.1.1.1 := fun X x => x.1.1.1.1.2.2.1
  have hth : ∀ s x y, s < 2 ^ g.1.1.1 → y < g.1.1.1 → thN s x y < 2 ^ g.1.1.1 := fun s x y hs hy => Nat.or_lt_two_pow (clB_lt hs) (p2_lt hy)
  have KX : ∀ d x (X : ms_S), x + d = g.1.1.1 → qR g X → anB (fun x => anB (sw1 g jh set x) g.1.1.1) x = false → L_X12_swaps_53 G fr n0 tl K X (nI jh) (nI set) (bI (anB (fun x => anB (sw2 g jh set x) g.1.1.1) x)) (nI x) := by
    intro d
    induction d with
    | zero =>
      intro x X hd x1 hy
      refine b_X12_swaps_53 ?_
      have := hN X x1
      rw [show x = g.1.1.1 by omega] at hy ⊢
      rw [hy, if_neg (by decide)] at hK
      simp (disch := omega) only [x_vp, x_lt0, x_0le, x_eq0, x_0lt, x_le0, x_b0, x_b1, nI_leI, nI_ltI, nI_eq, nI_add, pk_mul, nI_clamp, true_and, and_true, true_implies, false_implies, implies_true, not_true_eq_false, not_false_eq_true, this]
      refine ⟨fun _ => ⟨fun q => hK _ _ ⟨x1.1, by rw [if_neg (by rw [q]; decide)]⟩, fun q => hK _ _ ⟨x1.1, by rw [if_pos (by simpa using q)]⟩⟩, fun q => absurd (Nat.le_refl _) q⟩
    | succ d ihx =>
      intro x X hd x1 hy
      refine b_X12_swaps_53 ?_
      have e12 := hN X x1
      simp (disch := omega) only [x_vp, x_lt0, x_0le, x_eq0, x_0lt, x_le0, x_b0, x_b1, nI_leI, nI_ltI, nI_eq, nI_add, pk_mul, nI_clamp, true_and, and_true, true_implies, false_implies, implies_true, not_true_eq_false, not_false_eq_true, e12]
      refine ⟨fun q => absurd q (by omega), fun _ => ?_⟩
      have KY : ∀ d y (X : ms_S), y + d = g.1.1.1 → qR g X → anB (sw1 g jh set x) y = false → L_X12_swaps_65 G fr n0 tl K X (nI jh) (nI set) (bI (anB (fun x => anB (sw2 g jh set x) g.1.1.1) x || anB (sw2 g jh set x) y)) (nI x) (nI y) := by
        intro d
        induction d with
        | zero =>
          intro y X hd x1 hy2
          have e12 := hN X x1
          rw [show y = g.1.1.1 by omega] at hy2 ⊢
          refine b_X12_swaps_65 ?_
          simp (disch := omega) only [x_vp, x_lt0, x_0le, x_eq0, x_0lt, x_le0, x_b0, x_b1, nI_leI, nI_ltI, nI_eq, nI_add, pk_mul, nI_clamp, true_and, and_true, true_implies, false_implies, implies_true, not_true_eq_false, not_false_eq_true, e12]
          refine ⟨fun _ => ihx (x + 1) X (by omega) x1 ?_, fun q => absurd (Nat.le_refl _) q⟩
          rw [anB_s, hy, hy2]
          rfl
        | succ d ihy =>
          intro y X hd x1 hy2
          have e12 := hN X x1
          refine b_X12_swaps_65 ?_
          simp (disch := omega) only [x_vp, x_lt0, x_0le, x_eq0, x_0lt, x_le0, x_b0, x_b1, nI_leI, nI_ltI, nI_eq, nI_add, pk_mul, nI_clamp, true_and, and_true, true_implies, false_implies, implies_true, not_true_eq_false, not_false_eq_true, e12]
          refine ⟨fun q => absurd q (by omega), fun _ => ctI.mo (c_isSwap G fr X tl g jh x y x1 hjh (by omega) (by omega)) ?_⟩
          rintro v X2 ⟨x2, rfl⟩
          cases hs : swK g jh x y with
          | false =>
            have h9 := ihy (y + 1) X2 (by omega) x2 (by rw [anB_s, hy2]; unfold sw1; rw [hs]; rfl)
            rw [anB_s] at h9
            unfold sw2 at h9
            rw [hs, Bool.false_and, Bool.or_false] at h9
            exact ⟨fun _ => h9, fun q => absurd rfl q⟩
          | true =>
            refine ⟨fun q => absurd q (by decide), fun _ => ?_⟩
            rw [nu_th (by omega) (by omega) (by omega)]
            refine q_isRow G fr X2 tl g _ x2 (hth set x y hset (by omega)) _ ?_
            cases hr2 : isRowK g.1.1 (jbC g.1) (thN set x y) 7 with
            | true =>
              refine ⟨fun q => absurd q (by decide), fun _ => hK _ _ ⟨x2.1, ?_⟩⟩
              rw [if_pos (anB_i (f := fun x => anB (sw1 g jh set x) g.1.1.1) (show x < g.1.1.1 by omega) (anB_i (show y < g.1.1.1 by omega) (by unfold sw1; rw [hs, hr2]; rfl)))]
            | false =>
              refine ⟨fun _ => ?_, fun q => absurd rfl q⟩
              have h9 := fun X x2 => ihy (y + 1) X (by omega) x2 (by rw [anB_s, hy2]; unfold sw1; rw [hs, hr2]; rfl)
              rw [anB_s, show sw2 g jh set x y = anB (fun v => anB (swT g jh set x y v) g.1.1.1) g.1.1.1 by unfold sw2; rw [hs]; rfl, ← Bool.or_assoc] at h9
              generalize (anB (fun x => anB (sw2 g jh set x) g.1.1.1) x || anB (sw2 g jh set x) y) = ac at h9 ⊢
              have hth1 := hth set x y hset (show y < g.1.1.1 by omega)
              have KV : ∀ d v (X : ms_S), v + d = g.1.1.1 → qR g X → L_X12_swaps_118 G fr n0 tl K X (nI jh) (nI set) (bI (ac || anB (fun v => anB (swT g jh set x y v) g.1.1.1) v)) (nI x) (nI y) (nI (thN set x y)) (nI v) := by
                intro d
                induction d with
                | zero =>
                  intro v X hd x1
                  have e12 := hN X x1
                  rw [show v = g.1.1.1 by omega]
                  refine b_X12_swaps_118 ?_
                  simp (disch := omega) only [x_vp, x_lt0, x_0le, x_eq0, x_0lt, x_le0, x_b0, x_b1, nI_leI, nI_ltI, nI_eq, nI_add, pk_mul, nI_clamp, true_and, and_true, true_implies, false_implies, implies_true, not_true_eq_false, not_false_eq_true, e12]
                  exact ⟨fun _ => h9 X x1, fun q => absurd (Nat.le_refl _) q⟩
                | succ d ihv =>
                  intro v X hd x1
                  have e12 := hN X x1
                  refine b_X12_swaps_118 ?_
                  simp (disch := omega) only [x_vp, x_lt0, x_0le, x_eq0, x_0lt, x_le0, x_b0, x_b1, nI_leI, nI_ltI, nI_eq, nI_add, pk_mul, nI_clamp, true_and, and_true, true_implies, false_implies, implies_true, not_true_eq_false, not_false_eq_true, e12]
                  refine ⟨fun q => absurd q (by omega), fun _ => ⟨fun q => ?_, fun q => ?_⟩⟩
                  · have KW : ∀ d w (X : ms_S), w + d = g.1.1.1 → qR g X → L_X12_swaps_134 G fr n0 tl K X (nI jh) (nI set) (bI (ac || (anB (fun v => anB (swT g jh set x y v) g.1.1.1) v || anB (swT g jh set x y v) w))) (nI x) (nI y) (nI (thN set x y)) (nI v) (nI w) := by
                      intro d
                      induction d with
                      | zero =>
                        intro w X hd x1
                        have e12 := hN X x1
                        rw [show w = g.1.1.1 by omega]
                        refine b_X12_swaps_134 ?_
                        simp (disch := omega) only [x_vp, x_lt0, x_0le, x_eq0, x_0lt, x_le0, x_b0, x_b1, nI_leI, nI_ltI, nI_eq, nI_add, pk_mul, nI_clamp, true_and, and_true, true_implies, false_implies, implies_true, not_true_eq_false, not_false_eq_true, e12]
                        exact ⟨fun _ => ihv (v + 1) X (by omega) x1, fun q => absurd (Nat.le_refl _) q⟩
                      | succ d ihw =>
                        intro w X hd x1
                        have e12 := hN X x1
                        have h10 := fun X x1 => ihw (w + 1) X (by omega) x1
                        rw [anB_s] at h10
                        refine b_X12_swaps_134 ?_
                        simp (disch := omega) only [x_vp, x_lt0, x_0le, x_eq0, x_0lt, x_le0, x_b0, x_b1, nI_leI, nI_ltI, nI_eq, nI_add, pk_mul, nI_clamp, true_and, and_true, true_implies, false_implies, implies_true, not_true_eq_false, not_false_eq_true, e12]
                        refine ⟨fun q => absurd q (by omega), fun _ => ⟨fun q => ?_, fun q => ?_⟩⟩
                        · simp only [Bool.or_eq_false_iff] at q
                          rw [q.1, q.2.1, q.2.2, Bool.false_or, Bool.false_or, Bool.false_or] at h10
                          unfold swT at h10
                          refine ⟨fun z => ?_, fun z => ⟨fun z2 => ?_, fun z2 => ctI.mo (c_isSwap G fr X tl g jh v w x1 hjh (by omega) (by omega)) ?_⟩⟩
                          · rw [decide_eq_false (fun t => t z)] at h10
                            exact h10 X x1
                          · rw [decide_eq_false (p := ¬ w = y) (fun t => t z2), Bool.false_and, Bool.and_false] at h10
                            exact h10 X x1
                          · rintro u X2 ⟨x2, rfl⟩
                            rw [decide_eq_true z, decide_eq_true z2, Bool.true_and, Bool.true_and] at h10
                            cases hs2 : swK g jh v w with
                            | false =>
                              rw [hs2] at h10
                              exact ⟨fun _ => h10 X2 x2, fun q => absurd rfl q⟩
                            | true =>
                              rw [hs2, Bool.true_and] at h10
                              refine ⟨fun q => absurd q (by decide), fun _ => ?_⟩
                              rw [nu_th (by omega) (by omega) (by omega)]
                              refine q_isRow G fr X2 tl g _ x2 (hth _ v w hth1 (by omega)) _ ?_
                              cases hr3 : isRowK g.1.1 (jbC g.1) (thN (thN set x y) v w) 7 with
                              | false =>
                                rw [hr3] at h10
                                exact ⟨fun _ => h10 X2 x2, fun q => absurd rfl q⟩
                              | true =>
                                rw [hr3] at h10
                                exact ⟨fun q => absurd q (by decide), fun _ => h10 X2 x2⟩
                        · have q : (ac || (anB (fun v => anB (swT g jh set x y v) g.1.1.1) v || anB (swT g jh set x y v) w)) = true := nf_t q
                          have h11 := ihv (v + 1) X (by omega) x1
                          rw [q]
                          have q3 : (ac || anB (fun v => anB (swT g jh set x y v) g.1.1.1) (v + 1)) = true := by
                            simp only [Bool.or_eq_true] at q
                            rw [anB_s]
                            rcases q with q | q | q
                            · rw [q]
                              rfl
                            · rw [q, Bool.true_or, Bool.or_true]
                            · have := anB_m q (g.1.1.1 - w)
                              rw [show w + (g.1.1.1 - w) = g.1.1.1 by omega] at this
                              rw [this, Bool.or_true, Bool.or_true]
                          rw [q3] at h11
                          exact h11
                    have h12 := KW g.1.1.1 0 X (by omega) x1
                    rw [show anB (swT g jh set x y v) 0 = false from rfl, Bool.or_false] at h12
                    exact h12
                  · have q : (ac || anB (fun v => anB (swT g jh set x y v) g.1.1.1) v) = true := nf_t q
                    have h11 := h9 X x1
                    rw [q]
                    have q3 : (ac || anB (fun v => anB (swT g jh set x y v) g.1.1.1) g.1.1.1) = true := by
                      simp only [Bool.or_eq_true] at q
                      rcases q with q | q
                      · rw [q]
                        rfl
                      · have := anB_m q (g.1.1.1 - v)
                        rw [show v + (g.1.1.1 - v) = g.1.1.1 by omega] at this
                        rw [this, Bool.or_true]
                    rw [q3] at h11
                    exact h11
              have h13 := KV g.1.1.1 0 X2 (by omega) x2
              rw [show anB (fun v => anB (swT g jh set x y v) g.1.1.1) 0 = false from rfl, Bool.or_false] at h13
              exact h13
      have h14 := KY g.1.1.1 0 X (by omega) x1 rfl
      rw [show anB (sw2 g jh set x) 0 = false from rfl, Bool.or_false] at h14
      exact h14
  exact KX g.1.1.1 0 S1 (by omega) q1 rfl
