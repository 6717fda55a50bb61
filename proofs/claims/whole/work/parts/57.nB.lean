/-! ===== the reference: sights ===== -/
/-- sight k is so on day n by gold gl -/
def soK (N : tN) (gl : Nat → Nat) (n k : Nat) : Bool := !ctN N k || (decide (¬ (N.2.2 k).1 = 2) || (decide (¬ (N.2.2 k).2.1 = n) || (decide ((N.2.2 k).2.2.2.1 ≤ gl (N.2.2 k).2.2.1) == (N.2.2 k).2.2.2.2)))
def soA (N : tN) (gl : Nat → Nat) (n : Nat) : Nat → Bool
  | 0 => true
  | k + 1 => soA N gl n k && soK N gl n k
theorem soA_f {N : tN} {gl : Nat → Nat} {n k : Nat} (h : soA N gl n k = false) : ∀ d, soA N gl n (k + d) = false
  | 0 => h
  | d + 1 => by
    show (soA N gl n (k + d) && _) = false
    rw [soA_f h d]
    rfl
theorem c_isSo (G : ab_G) (fr : Bool) (S : ms_S) (tl : ab_H) (P : tPL) (N : tN) (s : tES) (n : Nat) (hP2 : P.2.1 ≤ 5) (hN : mN S P N) (hC : mCt S N) (hs : mES S 1 s) (hn : n ≤ 60) :
    ctI G 2 M_X12_isSo fr [.ref 0, .int (nI n)] lM S tl (fun v S' => v = bI (soA N s.2.1 n (kbN N)) ∧ S' = S) := by
  refine m_X12_isSo (fun n0 => ?_)
  have hkb := kbN_le hN
  obtain ⟨n1, n2, n3, n4, n5⟩ := id hN
  have K : ∀ f k, k + f = kbN N → soA N s.2.1 n k = true → L_X12_isSo_2 G fr n0 tl (fun v S' => v = bI (soA N s.2.1 n (kbN N)) ∧ S' = S) S (nI n) (nI k) := by
    intro f
    induction f with
    | zero =>
      intro k hk hy
      refine b_X12_isSo_2 (ctI.eq (c_knownBy G fr S tl P N hN) ?_)
      simp (disch := omega) only [x_vp, x_lt0, x_0le, x_eq0, x_0lt, x_le0, x_b0, x_b1, nI_leI, nI_ltI, nI_eq, nI_add, pk_mul, nI_clamp, true_and, and_true, true_implies, false_implies, implies_true, not_true_eq_false, not_false_eq_true]
      have hk2 : k = kbN N := by omega
      subst hk2
      exact ⟨fun _ => by rw [hy]; rfl, fun q => absurd (Nat.le_refl _) q⟩
    | succ f ih =>
      intro k hk hy
      obtain ⟨k1, k2, k3, k4, k5, k6⟩ := n5 k (by omega)
      have eS : soA N s.2.1 n (k + 1) = soK N s.2.1 n k := by
        show (soA N s.2.1 n k && _) = _
        rw [hy]
        rfl
      have e38 : S.2.2.2.1 38 k = bI (ctN N k) := hC k (by omega)
      have e0 : S.2.2.2.1 37 (5 * k) = nI (N.2.2 k).1 := k1
      have e1 : S.2.2.2.1 37 (5 * k + 1) = nI (N.2.2 k).2.1 := k2
      have e3 : S.2.2.2.1 37 (5 * k + 3) = nI (N.2.2 k).2.2.2.1 := k4
      have e4 : S.2.2.2.1 37 (5 * k + 4) = bI (N.2.2 k).2.2.2.2 := k5
      have hw3 := k6.1
      have nx : soK N s.2.1 n k = true → L_X12_isSo_2 G fr n0 tl (fun v S' => v = bI (soA N s.2.1 n (kbN N)) ∧ S' = S) S (nI n) (nI (k + 1)) := fun q => ih (k + 1) (by omega) (by rw [eS]; exact q)
      have no : soK N s.2.1 n k = false → nI 0 = bI (soA N s.2.1 n (kbN N)) := by
        intro q
        have h9 := soA_f (by rw [eS]; exact q) f
        rw [show k + 1 + f = kbN N by omega] at h9
        rw [h9]
        rfl
      refine b_X12_isSo_2 (ctI.eq (c_knownBy G fr S tl P N hN) ?_)
      unfold soK at nx no
      simp (disch := omega) only [x_vp, x_lt0, x_0le, x_eq0, x_0lt, x_le0, x_b0, x_b1, nI_leI, nI_ltI, nI_eq, nI_add, pk_mul, nI_clamp, true_and, and_true, true_implies, false_implies, implies_true, not_true_eq_false, not_false_eq_true, e38, e0]
      refine ⟨fun q => absurd q (by omega), fun _ => ⟨by omega, fun hc => nx (by rw [hc]; rfl), fun hc => ⟨by omega, fun h2 => ?_, fun h2 => nx (by rw [decide_eq_true h2]; simp)⟩⟩⟩
      have hc2 : ctN N k = true := by simpa using hc
      have e2 : S.2.2.2.1 37 (5 * k + 2) = nI (N.2.2 k).2.2.1 := k3 (by omega)
      obtain ⟨g1, g2, g3⟩ := k6.2.2.2.1 h2
      obtain ⟨u1, u2'⟩ := hs.2.1 (N.2.2 k).2.2.1 (by omega)
      have e5 : S.2.2.2.1 27 (5 + (N.2.2 k).2.2.1) = nI (s.2.1 (N.2.2 k).2.2.1) := u1
      simp (disch := omega) only [x_vp, x_lt0, x_0le, x_eq0, x_0lt, x_le0, x_b0, x_b1, nI_leI, nI_ltI, nI_eq, nI_add, pk_mul, nI_clamp, true_and, and_true, true_implies, false_implies, implies_true, not_true_eq_false, not_false_eq_true, e1, e2, e3, e4, e5]
      refine ⟨by omega, fun hd => ⟨by omega, by omega, by omega, fun hg => ⟨by omega, fun hb => no (by rw [hc2, hb, h2, hd]; simp; omega), fun hb => nx (by rw [hc2, h2, hd]; simp at hb ⊢; rw [hb]; simp; omega)⟩, fun hg => ⟨by omega, fun hb => nx (by rw [hc2, hb, h2, hd]; simp; omega), fun hb => no (by rw [hc2, h2, hd]; simp at hb ⊢; rw [hb]; simp; omega)⟩⟩, fun hd => nx (by rw [decide_eq_true hd]; simp)⟩
  exact K (kbN N) 0 (by omega) rfl
/-! ===== the reference: the missing piece ===== -/
/-- the pairs of ends in their order -/
def prL : List (Nat × Nat) := [(0, 0), (0, 1), (0, 2), (0, 3), (0, 4), (0, 5), (0, 6), (1, 1), (1, 2), (1, 3), (1, 4), (1, 5), (1, 6), (2, 2), (2, 3), (2, 4), (2, 5), (2, 6), (3, 3), (3, 4), (3, 5), (3, 6), (4, 4), (4, 5), (4, 6), (5, 5), (5, 6), (6, 6)]
def prO : Nat → Nat → Nat
  | 0, y => y
  | 1, y => 6 + y
  | 2, y => 11 + y
  | 3, y => 15 + y
  | 4, y => 18 + y
  | 5, y => 20 + y
  | 6, y => 21 + y
  | _, _ => 28
theorem prO_s : ∀ x, x < 7 → ∀ y, y < 7 → x ≤ y → prO x (y + 1) = prO x y + 1 ∧ prL.take (prO x y + 1) = prL.take (prO x y) ++ [(x, y)] := by decide +kernel
theorem prO_7 : ∀ x, x < 7 → prO x 7 = prO (x + 1) (x + 1) := by decide +kernel
def msS (f : Nat → Nat → Bool) (z : Nat × Int32) (q : Nat × Nat) : Nat × Int32 := if f q.1 q.2 = true then (z.1 + 1, if 0 ≤ z.2 then z.2 else nI (10 * q.1 + q.2)) else z
def msF (f : Nat → Nat → Bool) (k : Nat) : Nat × Int32 := (prL.take k).foldl (msS f) (0, -(nI 2))
theorem msF_s (f : Nat → Nat → Bool) {x y : Nat} (hx : x < 7) (hy : y < 7) (hxy : x ≤ y) : msF f (prO x (y + 1)) = msS f (msF f (prO x y)) (x, y) := by
  obtain ⟨e1, e2⟩ := prO_s x hx y hy hxy
  unfold msF
  rw [e1, e2, List.foldl_append]
  rfl
theorem msS_le (f : Nat → Nat → Bool) (l : List (Nat × Nat)) : ∀ z, (l.foldl (msS f) z).1 ≤ z.1 + l.length := by
  induction l with
  | nil => intro z; exact Nat.le_refl _
  | cons q t ih =>
    intro z
    have h1 := ih (msS f z q)
    have h2 : (msS f z q).1 ≤ z.1 + 1 := by
      unfold msS
      split
      · exact Nat.le_refl _
      · omega
    rw [List.foldl_cons, List.length_cons]
    omega
theorem msF_le (f : Nat → Nat → Bool) (k : Nat) : (msF f k).1 ≤ 28 := by
  have h1 := msS_le f (prL.take k) (0, -(nI 2))
  have h2 : (prL.take k).length ≤ 28 := by rw [List.length_take]; exact Nat.min_le_right _ _
  unfold msF
  omega
abbrev jbC (C : tC) : Nat → Nat := fun x => bitsN (jnK C.1 C.2.2.2.1.2.2.2.2 false x) 7
def A_missing (g : tSG) (w : Int32) : Int32 := if inK w 0 1 = true then (if w = 0 then nI (msF (misK g.1.1 g.2.2.2.1 (jbC g.1)) 28).1 else (msF (misK g.1.1 g.2.2.2.1 (jbC g.1)) 28).2) else -(nI 1)
/-- a query's end -/
def qE (g : tSG) (S' : ms_S) : Prop := mI S' g ∧ m_thrown S' = nI 0
theorem qE_Z {S S0 S' : ms_S} {g : tSG} (h : qE g S0) (hz : mZ S0 S') (hW : mRW S' g.1.1) : qE g S' := by
  have h1 : mZ (sV S0 2 (nI 0)) S' := (by
    have e : sV S0 2 (nI 0) = S0 := by
      have e1 : u2 S0.1 0 2 (nI 0) = S0.1 := by
        funext a k
        unfold u2
        cases hb : (Nat.beq a 0 && Nat.beq k 2) with
        | false => rfl
        | true =>
          simp only [Bool.and_eq_true] at hb
          rw [Nat.eq_of_beq_eq_true hb.1, Nat.eq_of_beq_eq_true hb.2]
          exact h.2.symm
      show (u2 S0.1 0 2 (nI 0), S0.2) = S0
      rw [e1]
    rw [e]
    exact hz)
  exact ⟨mI_Z h.1 h1 (mC_mZ h.1.1 hz hW), (hz.1.1 0 2 (Or.inr rfl)).trans h.2⟩
theorem qE_0 {S : ms_S} {g : tSG} (h : mI S g) : qE g (sV S 2 (nI 0)) := ⟨th_I h _, rfl⟩
theorem qE_pt {S : ms_S} {g : tSG} (h : qE g S) : qE g (ptS S) := qE_Z (S := S) h (ptS_Z S) (mRW_F2 (S := S) rfl rfl rfl h.1.1.2.2.2.2.2.2.2.2.2)
/-- joins as they are now -/
theorem q_joins (G : ab_G) (fr : Bool) (S : ms_S) (tl : ab_H) (g : tSG) (h : qE g S) (K : ms_S → Prop) (k : ∀ S', qE g S' → mZ S S' → (∀ x, x < 7 → a_joined S' x = nI (jbC g.1 x)) → K S') : ctU G 4 M_X12_layJoins fr [.ref 0, .int (nI 0)] lM (ptS S) tl K := by
  have h1 := qE_pt h
  have hO := ptS_O h.1.1
  refine Met_mono (c_layJoins G fr (ptS S) tl g.1.1 g.1.2.2.2.1 0 h1.1.1.1 h1.1.1.2.2.2.2.1 (by decide)) ?_
  rintro r h' ⟨S1, rfl, hm1, hj1, rfl⟩
  rw [dec_bI hO.2.2.1] at hj1
  exact ⟨S1, rfl, rfl, k S1 (qE_Z (S := S) h1 hm1.JR.Z (mRW_F hm1 rfl rfl rfl h1.1.1.2.2.2.2.2.2.2.2.2)) ((ptS_Z S).tr hm1.JR.Z) hj1⟩
theorem aO38Z (a : Nat) (h : aZ a = false) : aO 38 a = false := by
  unfold aO
  cases hb : Nat.beq a 38 with
  | false => rfl
  | true =>
    have := Nat.eq_of_beq_eq_true hb
    subst this
    exact absurd h (by decide)
theorem q_counts (G : ab_G) (fr : Bool) (S : ms_S) (tl : ab_H) (g : tSG) (h : qE g S) (K : ms_S → Prop) (k : ∀ S', qE g S' → mZ S S' → a_joined S' = a_joined S → mCt S' g.2.2.2.1 → K S') : ctU G 2 M_X12_layCounts fr [.ref 0] lM S tl K := by
  refine Met_mono (c_layCounts G fr S tl g.1.1 g.2.2.2.1 h.1.2.2.2.1) ?_
  rintro r h' ⟨S1, rfl, hm1, hc1, rfl⟩
  have z1 : mZ S S1 := ⟨(hm1.mono (F' := fZ) (A' := aZ) (fun _ _ => rfl) aO38Z).B (fun a q => aZQ a q), hm1.2.1⟩
  exact ⟨S1, rfl, rfl, k S1 (qE_Z (S := S) h z1 (mRW_F hm1 rfl rfl rfl h.1.1.2.2.2.2.2.2.2.2.2)) z1 (hm1.2.2.2.1 31 rfl) hc1⟩
theorem c_missing (G : ab_G) (fr : Bool) (S : ms_S) (tl : ab_H) (g : tSG) (hI : mI S g) (w : Int32) :
    ctI G 5 M_X12_missing fr [.ref 0, .int w] lM S tl (fun v S' => qE g S' ∧ v = A_missing g w) := by
  refine ctI.ab (fun K hK => m_X12_missing (fun n0 => ?_))
  have h0 := qE_0 hI
  refine ctI.eq (c_isInK G fr _ w 0 1) ?_
  unfold A_missing at hK
  simp (disch := omega) only [x_vp, x_lt0, x_0le, x_eq0, x_0lt, x_le0, x_b0, x_b1, nI_leI, nI_ltI, nI_eq, nI_add, pk_mul, nI_clamp, true_and, and_true, true_implies, false_implies, implies_true, not_true_eq_false, not_false_eq_true]
  refine ⟨fun hb => hK _ _ ⟨h0, by rw [hb]; rfl⟩, fun hb => ?_⟩
  have hb : inK w 0 1 = true := by simpa using hb
  rw [if_pos hb] at hK
  obtain ⟨jw, _, hjw, rfl⟩ := inK_t (by decide) (by decide) hb
  refine ctU.eq (c_plainTried G fr _ tl) (q_joins G fr _ tl g h0 _ (fun S1 q1 _ j1 => q_counts G fr S1 tl g q1 _ (fun S2 q2 _ j2 c2 => ?_)))
  have hj : ∀ e, e < 7 → a_joined S2 e = nI (jbC g.1 e) ∧ jbC g.1 e < 2 ^ 7 := fun e he => ⟨by rw [j2]; exact j1 e he, bitsN_lt _ _⟩
  generalize hf : misK g.1.1 g.2.2.2.1 (jbC g.1) = f9 at hK
  have hn9 : ∀ x, x < 7 → ∀ y, y < 7 → ab_CT G 3 M_X12_isNoted fr [.ref 0, .int (nI x), .int (nI y)] (hM S2 tl) 0 0 (fun r h' => r = some (.int (bI (f9 x y))) ∧ h' = hM S2 tl) := fun x hx y hy => by
    rw [← hf]
    exact c_isNoted G fr S2 tl g.1.1 g.2.2.2.1 (jbC g.1) x y q2.1.1.1 q2.1.2.2.2.1 c2 hx hy hj
  have KO : ∀ f x, x + f = 7 → L_X12_missing_37 G fr n0 tl K S2 (nI jw) (nI (msF f9 (prO x x)).1) (msF f9 (prO x x)).2 (nI x) := by
    intro f
    induction f with
    | zero =>
      intro x hx
      have : x = 7 := by omega
      subst this
      refine b_X12_missing_37 ?_
      simp only [Int32.le_refl, true_implies, not_true_eq_false, false_implies, and_true]
      exact ⟨fun q => hK _ _ ⟨q2, by rw [if_pos q]; rfl⟩, fun q => hK _ _ ⟨q2, by rw [if_neg q]; rfl⟩⟩
    | succ f ih =>
      intro x hx
      refine b_X12_missing_37 ?_
      simp (disch := omega) only [x_vp, x_lt0, x_0le, x_eq0, x_0lt, x_le0, x_b0, x_b1, nI_leI, nI_ltI, nI_eq, nI_add, pk_mul, nI_clamp, true_and, and_true, true_implies, false_implies, implies_true, not_true_eq_false, not_false_eq_true]
      refine ⟨fun q => absurd q (by omega), fun _ => ?_⟩
      have KI : ∀ f y, y + f = 7 → x ≤ y → L_X12_missing_48 G fr n0 tl K S2 (nI jw) (nI (msF f9 (prO x y)).1) (msF f9 (prO x y)).2 (nI x) (nI y) := by
        intro f
        induction f with
        | zero =>
          intro y hy hxy
          have : y = 7 := by omega
          subst this
          refine b_X12_missing_48 ?_
          simp (disch := omega) only [x_vp, x_lt0, x_0le, x_eq0, x_0lt, x_le0, x_b0, x_b1, nI_leI, nI_ltI, nI_eq, nI_add, pk_mul, nI_clamp, true_and, and_true, true_implies, false_implies, implies_true, not_true_eq_false, not_false_eq_true]
          refine ⟨fun _ => ?_, fun q => absurd (Nat.le_refl _) q⟩
          rw [prO_7 x (by omega)]
          exact ih (x + 1) (by omega)
        | succ f ih2 =>
          intro y hy hxy
          have h9 := ih2 (y + 1) (by omega) (by omega)
          rw [msF_s f9 (by omega) (by omega) hxy] at h9
          refine b_X12_missing_48 ?_
          simp (disch := omega) only [x_vp, x_lt0, x_0le, x_eq0, x_0lt, x_le0, x_b0, x_b1, nI_leI, nI_ltI, nI_eq, nI_add, pk_mul, nI_clamp, true_and, and_true, true_implies, false_implies, implies_true, not_true_eq_false, not_false_eq_true]
          refine ⟨fun q => absurd q (by omega), fun _ => ctI.eq (hn9 x (by omega) y (by omega)) ?_⟩
          unfold msS at h9
          cases hb9 : f9 x y with
          | false =>
            rw [show f9 (x, y).1 (x, y).2 = false from hb9] at h9
            exact ⟨fun _ => h9, fun q => absurd rfl q⟩
          | true =>
            rw [show f9 (x, y).1 (x, y).2 = true from hb9, if_pos rfl] at h9
            have h28 := msF_le f9 (prO x y)
            refine ⟨fun q => absurd q (by decide), fun _ => ⟨fun q => ?_, fun q => ?_⟩⟩
            · rw [if_pos q] at h9
              exact h9
            · rw [if_neg q] at h9
              exact h9
      exact KI (7 - x) x (by omega) (Nat.le_refl _)
  exact KO 7 0 rfl

