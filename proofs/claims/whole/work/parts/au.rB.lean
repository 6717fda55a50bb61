/-! ===== the program: numbers, signs, the next token ===== -/
/-- the number that the program reads, and the reference's -/
def nuR (v w : Nat) : Prop := v ≤ 99999999 ∧ (v = w ∨ (99999 < v ∧ 99999 < w))
section TAPE2
variable {G : ab_G} {fr : Bool} {tl : ab_H}
theorem u_readN {S : ms_S} {b : Nat → Nat} {n a : Nat} (hT : bTx S b n) (ha : a ≤ n) (h4 : S.1 0 4 = nI a) (h6 : S.1 0 6 = nI a) (h7 : S.1 0 7 = nI 0) (K : ms_S → Prop)
    (k : ∀ S' v, tpF S S' → S'.1 0 4 = nI (ru (dtB b) n a) → S'.1 0 6 = nI a → S'.1 0 5 = nI 36 → S'.1 0 7 = nI v → nuR v (nbF b a (ru (dtB b) n a - a)) → K S') : ctU G 2 M_X10_readNumber fr [.ref 0] lTp S tl K := by
  refine m_X10_readNumber (fun n0 => ?_)
  have hlt : ∀ i, dtB b i = true → 48 ≤ b i ∧ b i ≤ 57 := fun i q => by
    unfold dtB at q
    simp only [Bool.and_eq_true, decide_eq_true_eq] at q
    exact q
  have hn := hT.1
  have KE : ∀ j X v, tpF S X → X.1 0 4 = nI j → X.1 0 6 = nI a → X.1 0 7 = nI v → nuR v (nbF b a (j - a)) → ru (dtB b) n a = j → L_X10_readNumber_68 G fr n0 tl K X := by
    intro j X v x0 x4 x6 x7 x8 hr
    rw [hr] at k
    exact b_X10_readNumber_68 (k _ v (x0.tr (tpF.sV (by decide) (by decide))) x4 x6 rfl x7 x8)
  suffices KL : ∀ f j X v, n - j ≤ f → tpF S X → X.1 0 4 = nI j → X.1 0 6 = nI a → X.1 0 7 = nI v → nuR v (nbF b a (j - a)) → a ≤ j → j ≤ n → ru (dtB b) n a = ru (dtB b) n j → L_X10_readNumber_0 G fr n0 tl K X from KL n a S 0 (by omega) tpF.rf h4 h6 h7 (by rw [Nat.sub_self]; exact ⟨by decide, Or.inl rfl⟩) (Nat.le_refl _) ha rfl
  intro f
  induction f with
  | zero =>
    intro j X v hf x0 x4 x6 x7 x8 hj hjn hr
    refine b_X10_readNumber_0 ?_
    rw [x4, (hT.F x0).2.1, nI_leI (by omega) (by omega)]
    exact ⟨fun _ => KE j X v x0 x4 x6 x7 x8 (by rw [hr, ru_n (by omega)]), fun z => absurd z (by omega)⟩
  | succ f ih =>
    intro j X v hf x0 x4 x6 x7 x8 hj hjn hr
    refine b_X10_readNumber_0 ?_
    rw [x4, (hT.F x0).2.1, nI_leI (by omega) (by omega)]
    refine ⟨fun z => KE j X v x0 x4 x6 x7 x8 (by rw [hr, ru_n (by omega)]), fun z => ⟨(x_vp (by omega)).mpr (by omega), ?_⟩⟩
    obtain ⟨e1, e2⟩ := (hT.F x0).2.2.1 j (by omega)
    rw [show (nI j).toNatClampNeg = j from nI_clamp (by omega), e1]
    refine u_isD e2 _ ?_
    rw [x_b0, x4, x7, show (nI j).toNatClampNeg = j from nI_clamp (by omega), e1]
    refine ⟨fun y => KE j X v x0 x4 x6 x7 x8 (by rw [hr, ru_f y]), fun y => ⟨(x_vp (by omega)).mpr (by omega), ?_⟩⟩
    have y := nf_t y
    have hl := hlt j y
    obtain ⟨v1, v2⟩ := x8
    have eV : (if (99999999 : Int32) < nI v * nI 10 + nI (b j) - nI 48 then (99999999 : Int32) else nI v * nI 10 + nI (b j) - nI 48) = nI (if 99999999 < v * 10 + (b j - 48) then 99999999 else v * 10 + (b j - 48)) := by
      rw [pk_mul, nI_add, pk_sub (by omega), show v * 10 + b j - 48 = v * 10 + (b j - 48) by omega, show (99999999 : Int32) = nI 99999999 from rfl]
      by_cases q : 99999999 < v * 10 + (b j - 48)
      · rw [if_pos ((nI_ltI (by decide) (by omega)).mpr q), if_pos q]
      · rw [if_neg (fun w => q ((nI_ltI (by decide) (by omega)).mp w)), if_neg q]
    rw [eV, nI_add]
    refine ih (j + 1) _ _ (by omega) (x0.tr ((tpF.sV (by decide) (by decide)).tr (tpF.sV (by decide) (by decide)))) rfl x6 rfl ?_ (by omega) (by omega) (by rw [hr, ru_t (by omega) y])
    have eN : nbF b a (j + 1 - a) = if nbF b a (j - a) > 99999 then nbF b a (j - a) else 10 * nbF b a (j - a) + (b j - 48) := by
      rw [show j + 1 - a = (j - a) + 1 by omega]
      show (if nbF b a (j - a) > 99999 then _ else 10 * nbF b a (j - a) + (b (a + (j - a)) - 48)) = _
      rw [show a + (j - a) = j by omega]
    rw [eN]
    generalize nbF b a (j - a) = w at *
    unfold nuR
    split <;> split <;> omega
theorem u_byteAt {S : ms_S} {b : Nat → Nat} {n i : Nat} (hT : bTx S b n) (hi : i < 2 ^ 31) (K : Int32 → ms_S → Prop) (k : K (nI (if i < n then b i else 0)) S) : ctI G 1 M_X10_byteAt fr [.ref 0, .int (nI i)] lTp S tl K := by
  have hn := hT.1
  refine m_X10_byteAt (fun n0 => ?_)
  rw [hT.2.1, nI_leI (by omega) hi, show (nI i).toNatClampNeg = i from nI_clamp hi, show (0 : Int32) = nI 0 from rfl, nI_ltI hi (by decide)]
  refine ⟨fun z => absurd z (Nat.not_lt_zero _), fun _ => ⟨fun z => ?_, fun z => ⟨(x_vp hi).mpr (by omega), ?_⟩⟩⟩
  · rw [if_neg (by omega)] at k
    exact k
  · rw [if_pos (by omega)] at k
    rw [(hT.2.2.1 i (by omega)).1]
    exact k
theorem stK_no : ∀ c, c < 256 → ¬ stK c = 12 ∧ ¬ stK c = 14 ∧ ¬ stK c = 15 ∧ stK c < 64 := by decide +kernel
theorem sg_1 : ∀ c, c < 256 → ¬ c = 60 → ¬ c = 61 → ¬ c = 62 → stK c = tkC ((if c = 59 ∨ c = 40 ∨ c = 41 ∨ c = 43 ∨ c = 45 ∨ c = 42 ∨ c = 47 ∨ c = 37 then (4, c, 1) else (6, 0, 1) : Nat × Nat × Nat).1, (if c = 59 ∨ c = 40 ∨ c = 41 ∨ c = 43 ∨ c = 45 ∨ c = 42 ∨ c = 47 ∨ c = 37 then (4, c, 1) else (6, 0, 1) : Nat × Nat × Nat).2.1, 0, 0) := by decide +kernel
theorem sg_c {b : Nat → Nat} {n a : Nat} (h : b a < 256) : ∃ T L, sgT b n a = (sgT b n a) ∧ tkC ((sgT b n a).1, (sgT b n a).2.1, 0, 0) = T ∧ (sgT b n a).2.2 = L ∧ T < 64 ∧
    ((b a = 60 ∧ (if a + 1 < n then b (a + 1) else 0) = 61 ∧ T = 12 ∧ L = 2) ∨ (b a = 60 ∧ ¬ (if a + 1 < n then b (a + 1) else 0) = 61 ∧ (if a + 1 < n then b (a + 1) else 0) = 62 ∧ T = 14 ∧ L = 2)
    ∨ (b a = 62 ∧ (if a + 1 < n then b (a + 1) else 0) = 61 ∧ T = 15 ∧ L = 2)
    ∨ (¬ (b a = 60 ∧ (if a + 1 < n then b (a + 1) else 0) = 61) ∧ ¬ (b a = 60 ∧ (if a + 1 < n then b (a + 1) else 0) = 62) ∧ ¬ (b a = 62 ∧ (if a + 1 < n then b (a + 1) else 0) = 61) ∧ T = stK (b a) ∧ L = 1)) := by
  refine ⟨_, _, rfl, rfl, rfl, ?_⟩
  generalize hd : (if a + 1 < n then b (a + 1) else 0) = d
  unfold sgT
  rw [hd]
  by_cases z1 : b a = 61
  · rw [if_pos z1, z1]
    exact ⟨by decide, Or.inr (Or.inr (Or.inr ⟨fun q => absurd q.1 (by decide), fun q => absurd q.1 (by decide), fun q => absurd q.1 (by decide), rfl, rfl⟩))⟩
  · rw [if_neg z1]
    by_cases z2 : b a = 60
    · rw [if_pos z2, z2]
      by_cases y1 : d = 61
      · rw [if_pos y1]
        exact ⟨by decide, Or.inl ⟨rfl, y1, rfl, rfl⟩⟩
      · rw [if_neg y1]
        by_cases y2 : d = 62
        · rw [if_pos y2]
          exact ⟨by decide, Or.inr (Or.inl ⟨rfl, y1, y2, rfl, rfl⟩)⟩
        · rw [if_neg y2]
          exact ⟨by decide, Or.inr (Or.inr (Or.inr ⟨fun q => y1 q.2, fun q => y2 q.2, fun q => absurd q.1 (by decide), rfl, rfl⟩))⟩
    · rw [if_neg z2]
      by_cases z3 : b a = 62
      · rw [if_pos z3, z3]
        by_cases y1 : d = 61
        · rw [if_pos y1]
          exact ⟨by decide, Or.inr (Or.inr (Or.inl ⟨rfl, y1, rfl, rfl⟩))⟩
        · rw [if_neg y1]
          exact ⟨by decide, Or.inr (Or.inr (Or.inr ⟨fun q => absurd q.1 (by decide), fun q => absurd q.1 (by decide), fun q => y1 q.2, rfl, rfl⟩))⟩
      · rw [if_neg z3]
        have e := sg_1 (b a) h z2 z1 z3
        refine ⟨?_, Or.inr (Or.inr (Or.inr ⟨fun q => z2 q.1, fun q => z2 q.1, fun q => z3 q.1, e.symm, by split <;> rfl⟩))⟩
        rw [← e]
        exact (stK_no _ h).2.2.2
theorem u_readS {S : ms_S} {b : Nat → Nat} {n a : Nat} (hT : bTx S b n) (ha : a < n) (h4 : S.1 0 4 = nI a) (h6 : S.1 0 6 = nI a) (K : ms_S → Prop)
    (k : ∀ S', tpF S S' → S'.1 0 4 = nI (a + (sgT b n a).2.2) → S'.1 0 6 = nI a → S'.1 0 5 = nI (tkC ((sgT b n a).1, (sgT b n a).2.1, 0, 0)) → K S') : ctU G 2 M_X10_readSign fr [.ref 0] lTp S tl K := by
  have hn := hT.1
  obtain ⟨e1, e2⟩ := hT.2.2.1 a ha
  obtain ⟨T, L, -, eT, eL, hT64, cs⟩ := sg_c (b := b) (n := n) (a := a) e2
  rw [eT, eL] at k
  clear eT eL
  refine m_X10_readSign (fun n0 => ?_)
  rw [h4, nI_add, show (nI a).toNatClampNeg = a from nI_clamp (by omega), e1]
  refine ⟨(x_vp (by omega)).mpr (by omega), u_byteAt hT (by omega) _ (u_sgT e2 _ ?_)⟩
  have hd : (if a + 1 < n then b (a + 1) else 0) < 256 := by
    split
    · exact (hT.2.2.1 (a + 1) (by assumption)).2
    · decide
  generalize (if a + 1 < n then b (a + 1) else 0) = d at *
  simp only [nI_eq (show b a < 2 ^ 31 by omega) (show 60 < 2 ^ 31 by decide), nI_eq (show d < 2 ^ 31 by omega) (show 61 < 2 ^ 31 by decide)]
  have K126 : ∀ X (l : Nat), tpF S X → X.1 0 6 = nI a → X.1 0 5 = nI T → l = L → L_X10_readSign_126 G fr n0 tl K X (nI l) (nI a) := by
    intro X l x0 x6 x5 hl
    refine b_X10_readSign_126 (k _ (x0.tr (tpF.sV (by decide) (by decide))) ?_ x6 x5)
    rw [← hl]
    exact nI_add a l
  have K89 : ∀ X, tpF S X → X.1 0 4 = nI a → X.1 0 6 = nI a → X.1 0 5 = nI T → ((T = 12 ∨ T = 14 ∨ T = 15) ↔ L = 2) → (L = 1 ∨ L = 2) → L_X10_readSign_89 G fr n0 tl K X := by
    intro X x0 x4 x6 x5 hc hl
    refine b_X10_readSign_89 ?_
    rw [x5, x4]
    simp only [nI_eq (show T < 2 ^ 31 by omega) (show 12 < 2 ^ 31 by decide), nI_eq (show T < 2 ^ 31 by omega) (show 14 < 2 ^ 31 by decide), nI_eq (show T < 2 ^ 31 by omega) (show 15 < 2 ^ 31 by decide)]
    have KK : L = 2 → L_X10_readSign_121 G fr n0 tl K X (nI a) := fun q => b_X10_readSign_121 (K126 X 2 x0 x6 x5 q.symm)
    exact ⟨fun z => KK (hc.mp (Or.inl z)), fun z1 => ⟨fun z => KK (hc.mp (Or.inr (Or.inl z))), fun z2 => ⟨fun z => KK (hc.mp (Or.inr (Or.inr z))), fun z3 => K126 X 1 x0 x6 x5 (by
      rcases hl with q | q
      · exact q.symm
      · rcases hc.mpr q with w | w | w
        · exact absurd w z1
        · exact absurd w z2
        · exact absurd w z3)⟩⟩⟩
  obtain ⟨n1, n2, n3, n4⟩ := stK_no (b a) e2
  have f1 : ∀ x : Int32, tpF S (sV S 5 x) := fun x => tpF.sV (by decide) (by decide)
  rcases cs with ⟨c1, c2, c3, c4⟩ | ⟨c1, c2, c3, c4, c5⟩ | ⟨c1, c2, c3, c4⟩ | ⟨c1, c2, c3, c4, c5⟩
  · exact ⟨fun _ => ⟨fun _ => K89 _ ((f1 _).tr (tpF.sV (by decide) (by decide))) h4 h6 (by rw [c3]; rfl) ⟨fun _ => c4, fun _ => Or.inl c3⟩ (Or.inr c4), fun z => absurd c2 z⟩, fun z => absurd c1 z⟩
  · refine ⟨fun _ => ⟨fun z => absurd z c2, fun _ => b_X10_readSign_50 ?_⟩, fun z => absurd c1 z⟩
    rw [nI_eq (by omega) (by decide), nI_eq (by omega) (by decide)]
    exact ⟨fun _ => ⟨fun _ => K89 _ ((f1 _).tr (tpF.sV (by decide) (by decide))) h4 h6 (by rw [c4]; rfl) ⟨fun _ => c5, fun _ => Or.inr (Or.inl c4)⟩ (Or.inr c5), fun z => absurd c3 z⟩, fun z => absurd c1 z⟩
  · refine ⟨fun z => absurd (c1.symm.trans z) (by decide), fun _ => b_X10_readSign_50 ?_⟩
    rw [nI_eq (by omega) (by decide), nI_eq (by omega) (by decide)]
    refine ⟨fun z => absurd (c1.symm.trans z) (by decide), fun _ => b_X10_readSign_71 ?_⟩
    rw [nI_eq (by omega) (by decide), nI_eq (by omega) (by decide)]
    exact ⟨fun _ => ⟨fun _ => K89 _ ((f1 _).tr (tpF.sV (by decide) (by decide))) h4 h6 (by rw [c3]; rfl) ⟨fun _ => c4, fun _ => Or.inr (Or.inr c3)⟩ (Or.inr c4), fun z => absurd c2 z⟩, fun z => absurd c1 z⟩
  · have KF : L_X10_readSign_89 G fr n0 tl K (sV S 5 (nI (stK (b a)))) := K89 _ (f1 _) h4 h6 (by rw [c4]; rfl) ⟨fun q => absurd q (by omega), fun q => absurd q (by omega)⟩ (Or.inl c5)
    have K71 : L_X10_readSign_71 G fr n0 tl K (sV S 5 (nI (stK (b a)))) (nI (b a)) (nI d) := by
      refine b_X10_readSign_71 ?_
      rw [nI_eq (by omega) (by decide), nI_eq (by omega) (by decide)]
      exact ⟨fun z => ⟨fun y => absurd ⟨z, y⟩ c3, fun _ => KF⟩, fun _ => KF⟩
    have K50 : L_X10_readSign_50 G fr n0 tl K (sV S 5 (nI (stK (b a)))) (nI (b a)) (nI d) := by
      refine b_X10_readSign_50 ?_
      rw [nI_eq (by omega) (by decide), nI_eq (by omega) (by decide)]
      exact ⟨fun z => ⟨fun y => absurd ⟨z, y⟩ c2, fun _ => K71⟩, fun _ => K71⟩
    exact ⟨fun z => ⟨fun y => absurd ⟨z, y⟩ c1, fun _ => K50⟩, fun _ => K50⟩
/-- what the tape says of a token -/
def bTk (S : ms_S) (t : Nat × Nat × Nat × Nat) : Prop := S.1 0 5 = nI (tkC t) ∧ S.1 0 6 = nI t.2.2.1 ∧ S.1 0 4 = nI t.2.2.2 ∧ (t.1 = 2 → S.1 0 7 = nI t.2.1) ∧ (t.1 = 3 → ∃ v, S.1 0 7 = nI v ∧ nuR v t.2.1)
theorem u_adv {S : ms_S} {b : Nat → Nat} {n i : Nat} (hT : bTx S b n) (hi : i ≤ n) (h4 : S.1 0 4 = nI i) (K : ms_S → Prop) (k : ∀ S', tpF S S' → bTk S' (tk b n i) → K S') : ctU G 3 M_X10_advance fr [.ref 0] lTp S tl K := by
  have hn := hT.1
  refine m_X10_advance (fun n0 => ?_)
  have KE : ∀ X a, tpF S X → X.1 0 4 = nI a → a ≤ n → ru (wsB b) n i = a → L_X10_advance_52 G fr n0 tl K X := by
    intro X a x0 x4 ha hr
    have et : tk b n i = tkA b n a := by unfold tk; rw [hr]
    rw [et] at k
    clear et
    have f1 : ∀ x y : Int32, tpF X (sV (sV X 6 x) 7 y) := fun x y => (tpF.sV (by decide) (by decide)).tr (tpF.sV (by decide) (by decide))
    refine b_X10_advance_52 ?_
    rw [x4, (hT.F x0).2.1, nI_ltI (by omega) (by omega)]
    refine ⟨fun z => ?_, fun z => ?_⟩
    · obtain ⟨e1, e2⟩ := (hT.F x0).2.2.1 a z
      have hT1 := hT.F (x0.tr (f1 (nI a) (nI 0)))
      rw [show (nI a).toNatClampNeg = a from nI_clamp (by omega), e1]
      refine ⟨(x_vp (by omega)).mpr (by omega), u_isL e2 _ ?_⟩
      rw [x_b0]
      refine ⟨fun y => ?_, fun y => ?_⟩
      · show vp_in (X.1 0 4) 700 ∧ ctI G 1 M_X10_isDigit fr [.int (X.2.2.2.1 1 (X.1 0 4).toNatClampNeg)] lTp _ tl _
        rw [x4, show (nI a).toNatClampNeg = a from nI_clamp (by omega), e1]
        refine ⟨(x_vp (by omega)).mpr (by omega), u_isD e2 _ ?_⟩
        rw [x_b0]
        refine ⟨fun w => ?_, fun w => ?_⟩
        · refine u_readS hT1 z x4 rfl _ (fun S' s0 s4 s6 s5 => b_X10_advance_133 (k S' ((x0.tr (f1 _ _)).tr s0) ?_))
          have et : tkA b n a = ((sgT b n a).1, (sgT b n a).2.1, a, a + (sgT b n a).2.2) := by
            unfold tkA
            rw [if_neg (fun q => q z), if_neg (by rw [y]; decide), if_neg (by rw [w]; decide)]
          rw [et]
          refine ⟨s5, s6, s4, fun q => ?_, fun q => ?_⟩
          · exfalso
            have q : (sgT b n a).1 = 2 := q
            unfold sgT at q
            revert q
            (repeat' split) <;> intro q <;> cases q
          · exfalso
            have q : (sgT b n a).1 = 3 := q
            unfold sgT at q
            revert q
            (repeat' split) <;> intro q <;> cases q
        · have w := nf_t w
          refine u_readN hT1 ha x4 rfl rfl _ (fun S' v s0 s4 s6 s5 s7 s8 => b_X10_advance_133 (k S' ((x0.tr (f1 _ _)).tr s0) ?_))
          have et : tkA b n a = (3, nbF b a (ru (dtB b) n a - a), a, ru (dtB b) n a) := by
            unfold tkA
            rw [if_neg (fun q => q z), if_neg (by rw [y]; decide), if_pos w]
          rw [et]
          exact ⟨s5, s6, s4, fun q => absurd (show 3 = 2 from q) (by decide), fun _ => ⟨v, s7, s8⟩⟩
      · have y := nf_t y
        refine u_readW hT1 z y x4 rfl rfl _ (fun S' s0 s4 s6 s5 s7 => b_X10_advance_133 (k S' ((x0.tr (f1 _ _)).tr s0) ?_))
        unfold tkA
        rw [if_neg (fun q => q z), if_pos y]
        have hge := ru_gt (p := smB b) z y
        cases hk : wkN b a (ru (smB b) n a) with
        | some c =>
          obtain ⟨c1, c2⟩ := wkF_lt hk
          have hlen : ru (smB b) n a - a ≤ 6 := by
            unfold wqB at c2
            rw [Bool.and_eq_true, decide_eq_true_eq] at c2
            have := (wd_t c c1).2.1
            omega
          rw [if_pos hlen] at s5
          unfold wtK at s5
          rw [hk] at s5
          exact ⟨s5, s6, s4, fun q => absurd (show 1 = 2 from q) (by decide), fun q => absurd (show 1 = 3 from q) (by decide)⟩
        | none =>
          dsimp only
          by_cases hlen : ru (smB b) n a - a ≤ 6
          · rw [if_pos hlen] at s5 ⊢
            unfold wtK at s5
            rw [hk] at s5
            exact ⟨s5, s6, s4, fun _ => s7 hlen, fun q => absurd (show 2 = 3 from q) (by decide)⟩
          · rw [if_neg hlen] at s5 ⊢
            exact ⟨s5, s6, s4, fun q => absurd (show 6 = 2 from q) (by decide), fun q => absurd (show 6 = 3 from q) (by decide)⟩
    · refine b_X10_advance_133 (k _ ((x0.tr (f1 _ _)).tr (tpF.sV (by decide) (by decide))) ?_)
      have et : tkA b n a = (0, 0, a, a) := by
        unfold tkA
        rw [if_pos z]
      rw [et]
      exact ⟨rfl, rfl, x4, fun q => absurd (show 0 = 2 from q) (by decide), fun q => absurd (show 0 = 3 from q) (by decide)⟩
  suffices KL : ∀ f j X, n - j ≤ f → tpF S X → X.1 0 4 = nI j → j ≤ n → ru (wsB b) n i = ru (wsB b) n j → L_X10_advance_0 G fr n0 tl K X from KL n i S (by omega) tpF.rf h4 hi rfl
  intro f
  induction f with
  | zero =>
    intro j X hf x0 x4 hj hr
    refine b_X10_advance_0 ?_
    rw [x4, (hT.F x0).2.1, nI_leI (by omega) (by omega)]
    exact ⟨fun _ => KE X j x0 x4 hj (by rw [hr, ru_n (by omega)]), fun z => absurd z (by omega)⟩
  | succ f ih =>
    intro j X hf x0 x4 hj hr
    refine b_X10_advance_0 ?_
    rw [x4, (hT.F x0).2.1, nI_leI (by omega) (by omega)]
    refine ⟨fun z => KE X j x0 x4 hj (by rw [hr, ru_n (by omega)]), fun z => ⟨(x_vp (by omega)).mpr (by omega), ?_⟩⟩
    obtain ⟨e1, e2⟩ := (hT.F x0).2.2.1 j (by omega)
    rw [show (nI j).toNatClampNeg = j from nI_clamp (by omega), e1, nI_eq (by omega) (by decide), nI_eq (by omega) (by decide)]
    have KN : wsB b j = true → L_X10_advance_39 G fr n0 tl K X := fun y => by
      refine b_X10_advance_39 (ih (j + 1) _ (by omega) (x0.tr (tpF.sV (by decide) (by decide))) ?_ (by omega) (by rw [hr, ru_t (by omega) y]))
      show X.1 0 4 + nI 1 = _
      rw [x4, nI_add]
    refine ⟨fun y => KN (by unfold wsB; rw [decide_eq_true y]; rfl), fun y => ⟨(x_vp (by omega)).mpr (by omega), fun w => KN (by unfold wsB; rw [decide_eq_true w, Bool.or_true]), fun w => KE X j x0 x4 hj (by rw [hr, ru_f (by unfold wsB; rw [decide_eq_false y, decide_eq_false w]; rfl)])⟩⟩
end TAPE2

