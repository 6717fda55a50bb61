/-! ===== the program: the missing piece ===== -/
theorem ndA_iff {N : tN} {jb : Nat → Nat} {x y : Nat} : ∀ {n : Nat}, ndA N jb x y n = true ↔ ∀ k, k < n → ndK N jb x y k = true
  | 0 => ⟨fun _ k hk => absurd hk (Nat.not_lt_zero _), fun _ => rfl⟩
  | n + 1 => by
    show (ndA N jb x y n && ndK N jb x y n) = true ↔ _
    rw [Bool.and_eq_true, ndA_iff (n := n)]
    constructor
    · rintro ⟨h1, h2⟩ k hk
      by_cases e : k = n
      · rw [e]; exact h2
      · exact h1 k (by omega)
    · intro h
      exact ⟨fun k hk => h k (by omega), h n (by omega)⟩
section CORE17
variable {G : ab_G} {S : ms_S} {tl : ab_H} {P : tPL} {N : tN} {o : Nat → Option tDQ} {jb : Nat → Nat}
theorem u_agree (hN : bNt S P N) (hj : ∀ e, e < 7 → jb e < 2 ^ 7) (x y : Nat) (hx : x < 7) (hy : y < 7) (K : Int32 → ms_S → Prop) (k : K (bI (ndA N jb x y (kbN N))) S) : ctI G 2 M_X6_notesAgree false [.ref 40, .int (nI (bitsN (ctN N) (kbN N))), .int (nI x), .int (nI y), .long (lN (byN jb 7))] lC S tl K := by
  have hkb := kb_le hN
  obtain ⟨n1, n2, n3, n4, n5⟩ := id hN
  have hb24 : bitsN (ctN N) (kbN N) < 2 ^ 24 := Nat.lt_of_lt_of_le (bitsN_lt _ _) (Nat.pow_le_pow_right (by decide) (by omega))
  refine m_X6_notesAgree (fun n0 => ?_)
  suffices KL : ∀ t i, i + t = 24 → (∀ q, q < i → q < kbN N → ndK N jb x y q = true) → L_X6_notesAgree_3 G false n0 tl K S (nI (bitsN (ctN N) (kbN N))) (nI x) (nI y) (lN (byN jb 7)) (nI i) from KL 24 0 rfl (fun q hq => absurd hq (Nat.not_lt_zero _))
  intro t
  induction t with
  | zero =>
    intro i hi h
    have hi : i = 24 := hi
    subst hi
    refine b_X6_notesAgree_3 ⟨fun _ => ?_, fun z => absurd (Int32.le_refl _) z⟩
    rw [ndA_iff.mpr (fun q hq => h q (by omega) hq)] at k
    exact k
  | succ t ih =>
    intro i hi h
    have hv : vp_in (nI i) 24 := (x_vp (by omega)).mpr (by omega)
    have hc : (nI i).toNatClampNeg = i := nI_clamp (by omega)
    have hnext : (i < kbN N → ndK N jb x y i = true) → L_X6_notesAgree_140 G false n0 tl K S (nI (bitsN (ctN N) (kbN N))) (nI x) (nI y) (lN (byN jb 7)) (nI i) := fun z => b_X6_notesAgree_140 (by
      rw [nI_add]
      refine ih (i + 1) (by omega) (fun q hq hqk => ?_)
      by_cases e : q = i
      · rw [e]; exact z (by omega)
      · exact h q (by omega) hqk)
    refine b_X6_notesAgree_3 ?_
    rw [nI_leI (by decide) (by omega), tb_u (by omega) (by omega), bitsN_tb, Bool.and_eq_true, decide_eq_true_eq]
    refine ⟨fun z => absurd z (by omega), fun _ => ⟨fun z => ⟨hv, ?_⟩, fun z => hnext (fun w => ?_)⟩⟩
    · obtain ⟨hik, hct⟩ := z
      obtain ⟨e1, e2, e3, _, e5, e6⟩ := n5 i (by omega)
      have hk3 := e6.1
      rw [hc, e1, e2, nI_ltI (by decide) (by omega), x_eq0 (by omega)]
      refine ⟨fun z => hnext (fun _ => ?_), fun z => ⟨hv, ?_⟩⟩
      · unfold ndK
        rw [decide_eq_true z, Bool.true_or, Bool.or_true]
      have ho7 := e6.2.1 (by omega)
      have e5 := e5 (by omega)
      have K124 : ∀ b : Bool, (b = if (N.2.2 i).1 = 0 then decide (x = (N.2.2 i).2.1) || decide (y = (N.2.2 i).2.1) else btK jb x y (N.2.2 i).2.1 (N.2.2 i).2.2.1 || btK jb y x (N.2.2 i).2.1 (N.2.2 i).2.2.1) → L_X6_notesAgree_124 G false n0 tl K S (nI (bitsN (ctN N) (kbN N))) (nI x) (nI y) (lN (byN jb 7)) (nI i) (bI b) := by
        intro b hb
        have hnd : ndK N jb x y i = (b == (N.2.2 i).2.2.2.2) := by
          unfold ndK
          rw [← hb, hct, decide_eq_false z]
          rfl
        refine b_X6_notesAgree_124 ?_
        rw [hc, e5, bI_eq]
        refine ⟨hv, fun w => hnext (fun _ => by rw [hnd, w]; exact beq_self_eq_true _), fun w => ?_⟩
        have : ndA N jb x y (kbN N) = false := by
          cases hq : ndA N jb x y (kbN N) with
          | false => rfl
          | true =>
            have h9 := ndA_iff.mp hq i hik
            rw [hnd] at h9
            exact absurd (eq_of_beq h9) w
        rw [this] at k
        exact k
      refine ⟨fun w => ⟨hv, ?_⟩, fun w => ⟨hv, hv, ?_⟩⟩
      · rw [nI_eq (by omega) (by omega), nI_eq (by omega) (by omega)]
        refine ⟨fun q => b_X6_notesAgree_63 (K124 true (by rw [if_pos w, decide_eq_true q]; rfl)), fun q => ⟨hv, fun q2 => b_X6_notesAgree_63 (K124 true (by rw [if_pos w, decide_eq_true q2, Bool.or_true])), fun q2 => K124 false (by rw [if_pos w, decide_eq_false q, decide_eq_false q2]; rfl)⟩⟩
      · have hk1 : (N.2.2 i).1 = 1 := by omega
        have e3 := e3 (Or.inl hk1)
        have hp7 := e6.2.2.1 hk1
        rw [e3]
        refine u_stands G S tl jb hj _ _ _ _ ho7 hx hy hp7 _ ?_
        rw [x_b0, e3, e2]
        refine ⟨fun q => ⟨hv, hv, u_stands G S tl jb hj _ _ _ _ ho7 hy hx hp7 _ ?_⟩, fun q => b_X6_notesAgree_119 (K124 true ?_)⟩
        · rw [x_b0]
          refine ⟨fun q2 => K124 false ?_, fun q2 => b_X6_notesAgree_119 (K124 true ?_)⟩
          · rw [if_neg w, show btK jb x y (N.2.2 i).2.1 (N.2.2 i).2.2.1 = false from q, show btK jb y x (N.2.2 i).2.1 (N.2.2 i).2.2.1 = false from q2]
            rfl
          · rw [if_neg w, show btK jb y x (N.2.2 i).2.1 (N.2.2 i).2.2.1 = true from bl_t q2, Bool.or_true]
        · rw [if_neg w, show btK jb x y (N.2.2 i).2.1 (N.2.2 i).2.2.1 = true from bl_t q]
          rfl
    · unfold ndK
      cases hq : ctN N i with
      | true => exact absurd ⟨w, hq⟩ z
      | false => rfl
theorem nl_clr (x y : Nat) : lN x &&& (lN y ^^^ (-1 : Int64)) = lN (x &&& (y ^^^ 18446744073709551615)) := by
  rw [show (-1 : Int64) = lN 18446744073709551615 from by decide, show lN y ^^^ lN 18446744073709551615 = lN (y ^^^ 18446744073709551615) from by
    apply Int64.toBitVec_inj.mp
    show BitVec.ofNat 64 y ^^^ BitVec.ofNat 64 18446744073709551615 = BitVec.ofNat 64 (y ^^^ 18446744073709551615)
    apply BitVec.eq_of_getLsbD_eq
    intro j hj
    simp [BitVec.getLsbD_ofNat, Nat.testBit_xor, hj], nl_and]
theorem clr_tb {x y i : Nat} (hi : i < 64) : (x &&& (y ^^^ 18446744073709551615)).testBit i = (x.testBit i && !y.testBit i) := by
  rw [Nat.testBit_and, Nat.testBit_xor, show (18446744073709551615 : Nat) = 2 ^ 64 - 1 by decide, Nat.testBit_two_pow_sub_one, decide_eq_true hi]
  cases y.testBit i <;> rfl
/-- bits of pairs of ends -/
def prB (L : Nat) (B : Nat → Nat → Bool) : Prop := L < 2 ^ 56 ∧ ∀ x y, y < 8 → L.testBit (x * 8 + y) = B x y
theorem pr_set {L a b : Nat} {B : Nat → Nat → Bool} (h : prB L B) (ha : a < 7) (hb : b < 7) : prB (L ||| 2 ^ (a * 8 + b)) (fun x y => B x y || decide (x = a ∧ y = b)) := by
  refine ⟨Nat.or_lt_two_pow h.1 (Nat.pow_lt_pow_right (by decide) (by omega)), fun x y hy => ?_⟩
  rw [Nat.testBit_or, h.2 x y hy, Nat.testBit_two_pow]
  congr 1
  exact decide_eq_decide.mpr (by omega)
theorem pr_clr {L a b : Nat} {B : Nat → Nat → Bool} (h : prB L B) (ha : a < 7) (hb : b < 7) : prB (L &&& (2 ^ (a * 8 + b) ^^^ 18446744073709551615)) (fun x y => B x y && !decide (x = a ∧ y = b)) := by
  have hlt : L &&& (2 ^ (a * 8 + b) ^^^ 18446744073709551615) < 2 ^ 56 := Nat.lt_of_le_of_lt Nat.and_le_left h.1
  refine ⟨hlt, fun x y hy => ?_⟩
  by_cases hx : x * 8 + y < 64
  · rw [clr_tb hx, h.2 x y hy, Nat.testBit_two_pow]
    congr 2
    exact decide_eq_decide.mpr (by omega)
  · have h9 : 2 ^ 56 ≤ 2 ^ (x * 8 + y) := Nat.pow_le_pow_right (by decide) (by omega)
    have e := h.2 x y hy
    rw [Nat.testBit_lt_two_pow (Nat.lt_of_lt_of_le h.1 h9)] at e
    rw [Nat.testBit_lt_two_pow (Nat.lt_of_lt_of_le hlt h9)]
    show false = (B x y && _)
    rw [← e]
    rfl
theorem pr_c {L : Nat} {B B' : Nat → Nat → Bool} (h : prB L B) (e : ∀ x y, y < 8 → B x y = B' x y) : prB L B' := ⟨h.1, fun x y hy => (h.2 x y hy).trans (e x y hy)⟩
/-- the pairs that may be missing -/
def miN (P : tPL) (N : tN) (jb : Nat → Nat) : Nat := byN (fun x => bitsN (fun y => decide (x ≤ y) && misK P N jb x y) 7) 7
theorem to_mm {P : tPL} {x y : Nat} (hxy : x ≤ y) (p : Nat) : ((decide (P.2.2.1 p = x) && decide (P.2.2.2.1 p = y)) || (decide (P.2.2.1 p = y) && decide (P.2.2.2.1 p = x))) = decide (x = min (P.2.2.1 p) (P.2.2.2.1 p) ∧ y = max (P.2.2.1 p) (P.2.2.2.1 p)) := by
  rw [← Bool.decide_and, ← Bool.decide_and, ← Bool.decide_or]
  exact decide_eq_decide.mpr (by omega)
set_option maxHeartbeats 1000000 in
theorem u_pairs (hP : bPl S P o) (hN : bNt S P N) (hj : ∀ e, e < 7 → jb e < 2 ^ 7) (K : Int64 → ms_S → Prop) (k : K (lN (miN P N jb)) S) : ctL G 3 M_X6_pairsLeft false [.ref 40, .ref 0, .long (lN (byN jb 7))] lC S tl K := by
  have p1 := hP.1
  refine m_X6_pairsLeft (fun n0 => u_standing hN _ ?_)
  -- told pieces are left out
  have K74 : ∀ t p L, p + t = P.1 → prB L (fun x y => decide (x ≤ y ∧ y < 7) && (ndA N jb x y (kbN N) && !toN P x y p)) → L_X6_pairsLeft_74 G false n0 tl K S (lN L) (nI p) := by
    intro t
    induction t with
    | zero =>
      intro p L hp hL
      have hp : p = P.1 := hp
      subst hp
      refine b_X6_pairsLeft_74 ?_
      rw [hP.2.2.1]
      refine ⟨fun _ => ?_, fun z => absurd (Int32.le_refl _) z⟩
      rw [show L = miN P N jb from by_ext (fun x y hy => by
        rw [hL.2 x y hy]
        unfold miN
        rw [byN_tb hy (n := 7) (fun f _ => Nat.lt_trans (bitsN_lt _ 7) (by decide)), bitsN_tb]
        unfold misK
        dsimp only
        by_cases h7 : y < 7
        · by_cases hxy : x ≤ y
          · rw [decide_eq_true (show x ≤ y ∧ y < 7 from ⟨hxy, h7⟩), decide_eq_true h7, decide_eq_true hxy, decide_eq_true (show x < 7 by omega), Bool.true_and, Bool.true_and, Bool.true_and, Bool.true_and, Bool.and_comm]
          · rw [decide_eq_false (show ¬ (x ≤ y ∧ y < 7) by omega), decide_eq_false hxy, Bool.false_and, Bool.false_and, Bool.and_false, Bool.and_false]
        · rw [decide_eq_false (show ¬ (x ≤ y ∧ y < 7) by omega), decide_eq_false h7, Bool.false_and, Bool.false_and, Bool.and_false])]
      exact k
    | succ t ih =>
      intro p L hp hL
      obtain ⟨o1, o2, o3, o4, _⟩ := hP.2.2.2.2.1 p (by omega)
      have hv9 : vp_in (nI p) 9 := (x_vp (by omega)).mpr (by omega)
      have emin : (if nI (P.2.2.2.1 p) < nI (P.2.2.1 p) then nI (P.2.2.2.1 p) else nI (P.2.2.1 p)) = nI (min (P.2.2.1 p) (P.2.2.2.1 p)) := by
        by_cases z : P.2.2.2.1 p < P.2.2.1 p
        · rw [if_pos ((nI_ltI (by omega) (by omega)).mpr z), Nat.min_eq_right (by omega)]
        · rw [if_neg (fun w => z ((nI_ltI (by omega) (by omega)).mp w)), Nat.min_eq_left (by omega)]
      have emax : (if nI (P.2.2.1 p) < nI (P.2.2.2.1 p) then nI (P.2.2.2.1 p) else nI (P.2.2.1 p)) = nI (max (P.2.2.1 p) (P.2.2.2.1 p)) := by
        by_cases z : P.2.2.1 p < P.2.2.2.1 p
        · rw [if_pos ((nI_ltI (by omega) (by omega)).mpr z), Nat.max_eq_right (by omega)]
        · rw [if_neg (fun w => z ((nI_ltI (by omega) (by omega)).mp w)), Nat.max_eq_left (by omega)]
      have hmin : min (P.2.2.1 p) (P.2.2.2.1 p) < 7 := by omega
      have hmax : max (P.2.2.1 p) (P.2.2.2.1 p) < 7 := by omega
      refine b_X6_pairsLeft_74 ?_
      rw [hP.2.2.1, nI_leI (by omega) (by omega), show (nI p).toNatClampNeg = p from nI_clamp (by omega), o1, o3, emin, emax]
      generalize hmi : min (P.2.2.1 p) (P.2.2.2.1 p) = a at hmin ⊢
      generalize hma : max (P.2.2.1 p) (P.2.2.2.1 p) = b at hmax ⊢
      rw [show nI a * nI 8 + nI b = nI (a * 8 + b) from by rw [pk_mul, nI_add], nl_shl (by omega), Nat.one_mul, nl_clr, nI_add]
      refine ⟨fun z => absurd z (by omega), fun _ => ⟨hv9, hv9, hv9, hv9, ih (p + 1) _ (by omega) (pr_c (pr_clr hL hmin hmax) (fun x y hy => ?_))⟩⟩
      show ((decide (x ≤ y ∧ y < 7) && (ndA N jb x y (kbN N) && !toN P x y p)) && !decide (x = a ∧ y = b)) = (decide (x ≤ y ∧ y < 7) && (ndA N jb x y (kbN N) && !(toN P x y p || _)))
      by_cases hxy : x ≤ y
      · rw [to_mm hxy, hmi, hma]
        cases decide (x ≤ y ∧ y < 7) <;> cases ndA N jb x y (kbN N) <;> cases toN P x y p <;> cases decide (x = a ∧ y = b) <;> rfl
      · rw [decide_eq_false (show ¬ (x ≤ y ∧ y < 7) by omega)]
        rfl
  suffices KO : ∀ t a L, a + t = 7 → prB L (fun x y => decide (x ≤ y ∧ y < 7 ∧ x < a) && ndA N jb x y (kbN N)) → L_X6_pairsLeft_12 G false n0 tl K S (lN (byN jb 7)) (nI (bitsN (ctN N) (kbN N))) (lN L) (nI a) from KO 7 0 0 rfl ⟨by decide, fun x y _ => by dsimp only; rw [Nat.zero_testBit, decide_eq_false (by omega), Bool.false_and]⟩
  intro t
  induction t with
  | zero =>
    intro a L ha hL
    have ha : a = 7 := ha
    subst ha
    refine b_X6_pairsLeft_12 ⟨fun _ => K74 P.1 0 L (Nat.zero_add _) (pr_c hL (fun x y hy => ?_)), fun z => absurd (Int32.le_refl _) z⟩
    show (decide (x ≤ y ∧ y < 7 ∧ x < 7) && ndA N jb x y (kbN N)) = (decide (x ≤ y ∧ y < 7) && (ndA N jb x y (kbN N) && !false))
    rw [Bool.not_false, Bool.and_true]
    congr 1
    exact decide_eq_decide.mpr (by omega)
  | succ t ih =>
    intro a L ha hL
    refine b_X6_pairsLeft_12 ?_
    rw [nI_leI (by decide) (by omega)]
    refine ⟨fun z => absurd z (by omega), fun _ => ?_⟩
    suffices KI : ∀ u b L, b + u = 7 → a ≤ b → prB L (fun x y => decide (x ≤ y ∧ y < 7 ∧ (x < a ∨ (x = a ∧ y < b))) && ndA N jb x y (kbN N)) → L_X6_pairsLeft_23 G false n0 tl K S (lN (byN jb 7)) (nI (bitsN (ctN N) (kbN N))) (lN L) (nI a) (nI b) from KI (7 - a) a L (by omega) (Nat.le_refl _) (pr_c hL (fun x y hy => by
      congr 1
      exact decide_eq_decide.mpr (by omega)))
    intro u
    induction u with
    | zero =>
      intro b L hb hab hL
      have hb : b = 7 := hb
      subst hb
      refine b_X6_pairsLeft_23 ⟨fun _ => ?_, fun z => absurd (Int32.le_refl _) z⟩
      rw [nI_add]
      refine ih (a + 1) L (by omega) (pr_c hL (fun x y hy => ?_))
      congr 1
      exact decide_eq_decide.mpr (by omega)
    | succ u ihu =>
      intro b L hb hab hL
      · refine b_X6_pairsLeft_23 ?_
        rw [nI_leI (by decide) (by omega)]
        refine ⟨fun z => absurd z (by omega), fun _ => u_agree hN hj a b (by omega) (by omega) _ ?_⟩
        rw [x_b0, show nI a * nI 8 + nI b = nI (a * 8 + b) from by rw [pk_mul, nI_add], nl_shl (by omega), Nat.one_mul, nl_or]
        refine ⟨fun z => b_X6_pairsLeft_59 ?_, fun z => b_X6_pairsLeft_59 ?_⟩
        · rw [nI_add]
          refine ihu (b + 1) L (by omega) (by omega) (pr_c hL (fun x y hy => ?_))
          by_cases e : x = a ∧ y = b
          · rw [e.1, e.2, z, Bool.and_false, Bool.and_false]
          · congr 1
            exact decide_eq_decide.mpr (by omega)
        · rw [nI_add]
          refine ihu (b + 1) _ (by omega) (by omega) (pr_c (pr_set hL (show a < 7 by omega) (show b < 7 by omega)) (fun x y hy => ?_))
          by_cases e : x = a ∧ y = b
          · rw [decide_eq_true e, Bool.or_true, e.1, e.2, bl_t z, decide_eq_true (by omega)]
            rfl
          · rw [decide_eq_false e, Bool.or_false]
            congr 1
            exact decide_eq_decide.mpr (by omega)
end CORE17

