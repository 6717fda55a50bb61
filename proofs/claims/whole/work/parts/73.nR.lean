/-! ===== the reference: a token ===== -/
theorem c_signToken (G : ab_G) (fr : Bool) (S : ms_S) (tl : ab_H) (b : Nat → Nat) (n a : Nat) (ht : mTt S b n) (ha : a < n) (hn : m_next S = nI a) (K : ms_S → Prop)
    (k : ∀ S', mE fK fN S S' → m_kind S' = nI (sgT b n a).1 → (¬ (sgT b n a).1 = 6 → m_which S' = nI (sgT b n a).2.1) → m_next S' = nI (a + (sgT b n a).2.2) → m_at S' = m_at S → K S') : ctU G 1 M_X12_signToken fr [.ref 0] lM S tl K := by
  obtain ⟨t1, t2, t3, t4⟩ := ht
  have e6 : S.1 0 6 = nI n := t2
  have e7 : S.1 0 7 = nI a := hn
  obtain ⟨eb, hb⟩ := t3 a ha
  have eb : S.2.2.2.1 1 a = nI (b a) := eb
  refine m_X12_signToken (fun n0 => ?_)
  rw [e7, nI_clamp (by omega), eb, nI_add]
  refine ⟨(x_vp (by omega)).mpr (by omega), ?_⟩
  have f0 : ∀ c x y z : Int32, mE fK fN S (sV (sV (sV (sV S 9 c) 7 x) 8 y) 9 z) := fun c x y z => (((mE.sV rfl).tr (mE.sV rfl)).tr (mE.sV rfl)).tr (mE.sV rfl)
  have f1 : ∀ c x w y z : Int32, mE fK fN S (sV (sV (sV (sV (sV S 9 c) 7 x) 7 w) 8 y) 9 z) := fun c x w y z => ((((mE.sV rfl).tr (mE.sV rfl)).tr (mE.sV rfl)).tr (mE.sV rfl)).tr (mE.sV rfl)
  have f2 : ∀ c x y : Int32, mE fK fN S (sV (sV (sV S 9 c) 7 x) 8 y) := fun c x y => ((mE.sV rfl).tr (mE.sV rfl)).tr (mE.sV rfl)
  -- the byte behind
  have K50 : ∀ c : Nat, b a = c → (∀ nx, nx = (if a + 1 < n then b (a + 1) else 0) → nx < 256 → L_X12_signToken_74 G fr n0 tl K (sV (sV S 9 (nI c)) 7 (nI (a + 1))) (nI nx)) → L_X12_signToken_50 G fr n0 tl K (sV (sV S 9 (nI c)) 7 (nI (a + 1))) := by
    intro c hc hk
    refine b_X12_signToken_50 ?_
    show (S.1 0 6 ≤ nI (a + 1) → _) ∧ (¬ S.1 0 6 ≤ nI (a + 1) → vp_in (nI (a + 1)) 700 ∧ L_X12_signToken_74 G fr n0 tl K _ (S.2.2.2.1 1 (nI (a + 1)).toNatClampNeg))
    rw [e6, nI_leI (by omega) (by omega), nI_clamp (by omega)]
    refine ⟨fun q => hk 0 (by rw [if_neg (by omega)]) (by decide), fun q => ⟨(x_vp (by omega)).mpr (by omega), ?_⟩⟩
    obtain ⟨e1, e2⟩ := t3 (a + 1) (by omega)
    rw [show S.2.2.2.1 1 (a + 1) = nI (b (a + 1)) from e1]
    exact hk _ (by rw [if_pos (by omega)]) e2
  unfold sgT at k
  by_cases h60 : b a = 60
  · rw [h60]
    refine ⟨fun _ => K50 60 h60 (fun nx hnx hn2 => ?_), fun q => absurd rfl q⟩
    rw [h60, ← hnx] at k
    refine b_X12_signToken_74 ⟨fun q => absurd (show nI 60 = nI 61 from q) (by decide), fun _ => ⟨fun q => ?_, fun q => ?_⟩⟩
    · rw [nI_eq (by omega) (by decide)] at q
      subst q
      refine b_X12_signToken_95 ⟨fun _ => ⟨fun q => absurd q (by decide), fun _ => b_X12_signToken_115 (b_X12_signToken_116 ⟨fun q => absurd q (by decide), fun _ => b_X12_signToken_125 (b_X12_signToken_135 ⟨fun q => absurd (show nI 60 = nI 61 from q) (by decide), fun _ => ⟨fun _ => ⟨fun q => absurd q (by decide), fun _ => b_X12_signToken_192 (b_X12_signToken_290 (k _ (f1 _ _ _ _ _) rfl (fun _ => rfl) ?_ rfl))⟩, fun q => absurd rfl q⟩⟩)⟩)⟩, fun q => absurd rfl q⟩
      show nI (a + 1) + nI 1 = nI (a + 2)
      rw [nI_add]
    · rw [nI_eq (by omega) (by decide)] at q
      refine b_X12_signToken_94 (b_X12_signToken_95 ⟨fun _ => ⟨fun q2 => ?_, fun q2 => ?_⟩, fun q => absurd rfl q⟩)
      · rw [nI_eq (by omega) (by decide)] at q2
        subst q2
        refine b_X12_signToken_116 ⟨fun _ => ⟨fun q => absurd q (by decide), fun _ => b_X12_signToken_125 (b_X12_signToken_135 ⟨fun q => absurd (show nI 60 = nI 61 from q) (by decide), fun _ => ⟨fun _ => ⟨fun _ => ⟨fun q => absurd q (by decide), fun _ => b_X12_signToken_192 (b_X12_signToken_290 (k _ (f1 _ _ _ _ _) rfl (fun _ => rfl) ?_ rfl))⟩, fun q => absurd rfl q⟩, fun q => absurd rfl q⟩⟩)⟩, fun q => absurd rfl q⟩
        show nI (a + 1) + nI 1 = nI (a + 2)
        rw [nI_add]
      · rw [nI_eq (by omega) (by decide)] at q2
        rw [if_neg (by decide), if_pos rfl, if_neg q, if_neg q2] at k
        exact b_X12_signToken_115 (b_X12_signToken_116 ⟨fun _ => ⟨fun _ => b_X12_signToken_135 ⟨fun q => absurd (show nI 60 = nI 61 from q) (by decide), fun _ => ⟨fun _ => ⟨fun _ => ⟨fun _ => b_X12_signToken_192 (b_X12_signToken_290 (k _ (f0 _ _ _ _) rfl (fun _ => rfl) rfl rfl)), fun q => absurd rfl q⟩, fun q => absurd rfl q⟩, fun q => absurd rfl q⟩⟩, fun q => absurd rfl q⟩, fun q => absurd rfl q⟩)
  rw [nI_eq (by omega) (by decide)]
  refine ⟨fun q => absurd q h60, fun _ => ?_⟩
  by_cases h62 : b a = 62
  · rw [h62]
    refine ⟨fun _ => K50 62 h62 (fun nx hnx hn2 => ?_), fun q => absurd rfl q⟩
    rw [h62, ← hnx] at k
    refine b_X12_signToken_74 ⟨fun q => absurd (show nI 62 = nI 61 from q) (by decide), fun _ => ⟨fun q => ?_, fun q => ?_⟩⟩
    · rw [nI_eq (by omega) (by decide)] at q
      subst q
      refine b_X12_signToken_95 ⟨fun q => absurd (show nI 62 = nI 60 from q) (by decide), fun _ => b_X12_signToken_115 (b_X12_signToken_116 ⟨fun q => absurd q (by decide), fun _ => b_X12_signToken_125 (b_X12_signToken_135 ⟨fun q => absurd (show nI 62 = nI 61 from q) (by decide), fun _ => ⟨fun q => absurd (show nI 62 = nI 60 from q) (by decide), fun _ => ⟨fun q => absurd q (by decide), fun _ => b_X12_signToken_192 (b_X12_signToken_290 (k _ (f1 _ _ _ _ _) rfl (fun _ => rfl) ?_ rfl))⟩⟩⟩)⟩)⟩
      show nI (a + 1) + nI 1 = nI (a + 2)
      rw [nI_add]
    · rw [nI_eq (by omega) (by decide)] at q
      rw [if_neg (by decide), if_neg (by decide), if_pos rfl, if_neg q] at k
      exact b_X12_signToken_94 (b_X12_signToken_95 ⟨fun q => absurd (show nI 62 = nI 60 from q) (by decide), fun _ => b_X12_signToken_115 (b_X12_signToken_116 ⟨fun _ => ⟨fun _ => b_X12_signToken_135 ⟨fun q => absurd (show nI 62 = nI 61 from q) (by decide), fun _ => ⟨fun q => absurd (show nI 62 = nI 60 from q) (by decide), fun _ => ⟨fun _ => b_X12_signToken_192 (b_X12_signToken_290 (k _ (f0 _ _ _ _) rfl (fun _ => rfl) rfl rfl)), fun q => absurd rfl q⟩⟩⟩, fun q => absurd rfl q⟩, fun q => absurd rfl q⟩)⟩)
  rw [nI_eq (by omega) (by decide)]
  refine ⟨fun q => absurd q h62, fun _ => ?_⟩
  by_cases h61 : b a = 61
  · rw [h61]
    refine ⟨fun _ => K50 61 h61 (fun nx hnx hn2 => ?_), fun q => absurd rfl q⟩
    rw [h61] at k
    exact b_X12_signToken_74 ⟨fun _ => b_X12_signToken_94 (b_X12_signToken_95 ⟨fun q => absurd (show nI 61 = nI 60 from q) (by decide), fun _ => b_X12_signToken_115 (b_X12_signToken_116 ⟨fun _ => ⟨fun _ => b_X12_signToken_135 ⟨fun _ => b_X12_signToken_192 (b_X12_signToken_290 (k _ (f0 _ _ _ _) rfl (fun _ => rfl) rfl rfl)), fun q => absurd rfl q⟩, fun q => absurd rfl q⟩, fun q => absurd rfl q⟩)⟩), fun q => absurd rfl q⟩
  rw [nI_eq (by omega) (by decide)]
  refine ⟨fun q => absurd q h61, fun _ => ?_⟩
  rw [if_neg h61, if_neg h60, if_neg h62] at k
  have K270 : (b a = 59 ∨ b a = 40 ∨ b a = 41 ∨ b a = 43 ∨ b a = 45 ∨ b a = 42 ∨ b a = 47 ∨ b a = 37) → L_X12_signToken_270 G fr n0 tl K (sV (sV S 9 (nI (b a))) 7 (nI (a + 1))) := by
    intro h
    rw [if_pos h] at k
    exact b_X12_signToken_270 (b_X12_signToken_275 ⟨fun q => absurd q (by decide), fun _ => b_X12_signToken_287 (b_X12_signToken_290 (k _ (f2 _ _ _) rfl (fun _ => rfl) rfl rfl))⟩)
  rw [nI_eq (a := b a) (b := 59) (by omega) (by decide), nI_eq (a := b a) (b := 40) (by omega) (by decide), nI_eq (a := b a) (b := 41) (by omega) (by decide), nI_eq (a := b a) (b := 43) (by omega) (by decide), nI_eq (a := b a) (b := 45) (by omega) (by decide), nI_eq (a := b a) (b := 42) (by omega) (by decide), nI_eq (a := b a) (b := 47) (by omega) (by decide), nI_eq (a := b a) (b := 37) (by omega) (by decide)]
  refine ⟨fun q => K270 (by omega), fun z1 => ⟨fun q => K270 (by omega), fun z2 => ⟨fun q => K270 (by omega), fun z3 => ⟨fun q => K270 (by omega), fun z4 => ⟨fun q => K270 (by omega), fun z5 => ⟨fun q => K270 (by omega), fun z6 => ⟨fun q => K270 (by omega), fun z7 => ⟨fun q => K270 (by omega), fun z8 => ?_⟩⟩⟩⟩⟩⟩⟩⟩
  rw [if_neg (by omega)] at k
  exact b_X12_signToken_275 ⟨fun _ => b_X12_signToken_287 (b_X12_signToken_290 (k _ (f2 _ _ _) rfl (fun q => absurd rfl q) rfl rfl)), fun q => absurd rfl q⟩
theorem nb_le {b : Nat → Nat} {a : Nat} : ∀ j, (∀ i, i < j → b (a + i) ≤ 57) → nbF b a j ≤ 999999
  | 0, _ => by show 0 ≤ _; decide
  | j + 1, h => by
    have ih := nb_le j (fun i hi => h i (by omega))
    have := h j (by omega)
    unfold nbF
    split <;> omega
theorem c_token (G : ab_G) (fr : Bool) (S : ms_S) (tl : ab_H) (b : Nat → Nat) (n i : Nat) (ht : mTt S b n) (hi : i ≤ n) (hn : m_next S = nI i) (K : ms_S → Prop)
    (k : ∀ S', mE fK fN S S' → mTk S' (tk b n i) → K S') : ctU G 2 M_X12_token fr [.ref 0] lM S tl K := by
  refine m_X12_token (fun n0 => ?_)
  have hn7 := ht.1
  have K52 : ∀ a (X : ms_S), mE fK fN S X → X.1 0 7 = nI a → a ≤ n → tkA b n a = tk b n i → L_X12_token_52 G fr n0 tl K X := by
    intro a X x1 x2 ha hta
    rw [← hta] at k
    have e6 : X.1 0 6 = nI n := (x1.1 0 6 (Or.inr rfl)).trans ht.2.1
    have x3 : mE fK fN S (sV X 10 (nI a)) := x1.tr (mE.sV rfl)
    have htX := mTt_E x3 ht
    refine b_X12_token_52 ?_
    rw [e6, x2, nI_eq (by omega) (by omega)]
    refine ⟨fun q => b_X12_token_281 (k _ (x3.tr (mE.sV rfl)) ?_), fun q => ?_⟩
    · unfold tkA
      rw [if_pos (by omega)]
      exact ⟨rfl, fun z => absurd rfl z, rfl, x2⟩
    have hlt : a < n := by omega
    unfold tkA at k
    rw [if_neg (by omega)] at k
    refine c_isSmall G fr _ tl b n a htX ha _ ?_
    rw [decide_eq_true hlt, Bool.true_and, x_b0]
    refine ⟨fun hs => ?_, fun hs => ?_⟩
    · rw [if_neg (by rw [hs]; decide)] at k
      show ctI G 1 M_X12_isDigit fr [.ref 0, .int (X.1 0 7)] lM (sV X 10 (nI a)) tl _
      rw [x2]
      refine c_isDigit G fr _ tl b n a htX ha _ ?_
      rw [decide_eq_true hlt, Bool.true_and, x_b0]
      refine ⟨fun hd => ?_, fun hd => ?_⟩
      · rw [if_neg (by rw [hd]; decide)] at k
        exact c_signToken G fr _ tl b n a htX hlt x2 _ (fun S' y1 y2 y3 y4 y5 => b_X12_token_281 (k S' (x3.tr y1) ⟨y2, fun _ z => y3 z, y5, y4⟩))
      · rw [if_pos (nf_t hd)] at k
        have KD : ∀ f j (X : ms_S), n - j ≤ f → mE fK fN S X → X.1 0 7 = nI j → X.1 0 8 = nI 3 → X.1 0 10 = nI a → X.1 0 9 = nI (nbF b a (j - a)) → a ≤ j → j ≤ n → (∀ i, a ≤ i → i < j → dtB b i = true) → ru (dtB b) n j = ru (dtB b) n a → L_X12_token_213 G fr n0 tl K X := by
          intro f
          induction f with
          | zero =>
            intro j X hf y1 y2 y3 y4 y5 y6 y7 y8 y9
            have hj : j = n := by omega
            refine b_X12_token_213 ?_
            rw [y2]
            refine c_isDigit G fr _ tl b n j (mTt_E y1 ht) y7 _ ?_
            rw [decide_eq_false (by omega), Bool.false_and]
            refine ⟨fun _ => b_X12_token_281 (k X y1 ?_), fun q => absurd rfl q⟩
            rw [← y9, ru_n (by omega)]
            exact ⟨y3, fun _ _ => y5, y4, y2⟩
          | succ f ih =>
            intro j X hf y1 y2 y3 y4 y5 y6 y7 y8 y9
            refine b_X12_token_213 ?_
            rw [y2]
            refine c_isDigit G fr _ tl b n j (mTt_E y1 ht) y7 _ ?_
            cases hz : (decide (j < n) && dtB b j) with
            | false =>
              refine ⟨fun _ => b_X12_token_281 (k X y1 ?_), fun q => absurd rfl q⟩
              have hr : ru (dtB b) n j = j := by
                by_cases hj : j < n
                · rw [decide_eq_true hj, Bool.true_and] at hz
                  exact ru_f hz
                · exact ru_n hj
              rw [← y9, hr]
              exact ⟨y3, fun _ _ => y5, y4, y2⟩
            | true =>
              rw [Bool.and_eq_true] at hz
              have hj := of_decide_eq_true hz.1
              have hd57 : ∀ i, a ≤ i → i < j + 1 → 48 ≤ b i ∧ b i ≤ 57 := fun i h1 h2 => by
                have h3 : dtB b i = true := by
                  by_cases z : i = j
                  · rw [z]; exact hz.2
                  · exact y8 i h1 (by omega)
                unfold dtB at h3
                simp only [Bool.and_eq_true, decide_eq_true_eq] at h3
                exact h3
              have hnb := nb_le (b := b) (a := a) (j - a) (fun i hi => (hd57 (a + i) (by omega) (by omega)).2)
              obtain ⟨b48, b57⟩ := hd57 j y6 (by omega)
              have e1 : X.2.2.2.1 1 j = nI (b j) := ((mTt_E y1 ht).2.2.1 j hj).1
              refine ⟨fun q => absurd q (by decide), fun _ => ?_⟩
              rw [y5, y2, show (99999 : Int32) = nI 99999 by decide, nI_leI (by omega) (by decide), nI_clamp (by omega), e1, pk_mul, nI_add, pk_sub (by omega)]
              have eN : nbF b a (j + 1 - a) = if nbF b a (j - a) > 99999 then nbF b a (j - a) else 10 * nbF b a (j - a) + (b j - 48) := by
                rw [show j + 1 - a = (j - a) + 1 by omega]
                show (if nbF b a (j - a) > 99999 then _ else 10 * nbF b a (j - a) + (b (a + (j - a)) - 48)) = _
                rw [show a + (j - a) = j by omega]
              have K261 : ∀ v, v = nbF b a (j + 1 - a) → L_X12_token_261 G fr n0 tl K X (nI v) := by
                intro v hv
                refine b_X12_token_261 ?_
                rw [y2, nI_add]
                refine ih (j + 1) _ (by omega) ((y1.tr (mE.sV rfl)).tr (mE.sV rfl)) rfl y3 y4 (by rw [← hv]; rfl) (by omega) (by omega) (fun i h1 h2 => ?_) (by rw [← y9, ru_t hj hz.2])
                by_cases z : i = j
                · rw [z]; exact hz.2
                · exact y8 i h1 (by omega)
              refine ⟨fun q => ⟨(x_vp (by omega)).mpr (by omega), K261 _ ?_⟩, fun q => K261 _ ?_⟩
              · rw [eN, if_neg (by omega)]
                omega
              · rw [eN, if_pos (by omega)]
        refine KD (n - a) a _ (Nat.le_refl _) ((x3.tr (mE.sV rfl)).tr (mE.sV rfl)) x2 rfl rfl ?_ (Nat.le_refl _) ha (fun i h1 h2 => by omega) rfl
        rw [Nat.sub_self]
        rfl
    · rw [if_pos (nf_t hs)] at k
      have KE : ∀ j (X : ms_S), mE fK fN S X → X.1 0 7 = nI j → X.1 0 10 = nI a → a ≤ j → j ≤ n → (∀ i, a ≤ i → i < j → smB b i = true) → ru (smB b) n a = j → ctI G 1 M_X12_wordAt fr [.ref 0, .int (X.1 0 10), .int (X.1 0 7)] lM X tl (fun v2 S2 => (v2 < 0 → (S2.1 0 7 - S2.1 0 10 ≤ nI 6 → L_X12_token_162 G fr n0 tl K (sV S2 9 v2) (nI 2)) ∧ (¬ S2.1 0 7 - S2.1 0 10 ≤ nI 6 → L_X12_token_162 G fr n0 tl K (sV S2 9 v2) (nI 6))) ∧ (¬ v2 < 0 → L_X12_token_162 G fr n0 tl K (sV S2 9 v2) (nI 1))) := by
        intro j X y1 y2 y4 y6 y7 y8 y9
        rw [y9] at k
        rw [y2, y4]
        refine c_wordAt G fr X tl b n a j (mTt_E y1 ht) y6 y7 _ ?_
        rw [y2, y4, pk_sub y6, nI_leI (by omega) (by decide)]
        cases hw : wkN b a j with
        | none =>
          rw [hw] at k
          dsimp only at k
          refine ⟨fun _ => ⟨fun q => ?_, fun q => ?_⟩, fun q => absurd (neg_neg (by decide) (by decide)) q⟩
          · rw [if_pos q] at k
            refine b_X12_token_162 ⟨fun _ => ?_, fun q => absurd rfl q⟩
            show ctI G 1 M_X12_packed fr [.ref 0, .int (X.1 0 10), .int (X.1 0 7)] lM _ tl _
            rw [y2, y4]
            have y10 : mE fK fN S (sV (sV X 9 (fI none)) 8 (nI 2)) := (y1.tr (mE.sV rfl)).tr (mE.sV rfl)
            exact c_packed G fr _ tl b n a j (mTt_E y10 ht) y6 y7 y8 _ (b_X12_token_281 (k _ (y10.tr (mE.sV rfl)) ⟨rfl, fun _ _ => rfl, y4, y2⟩))
          · rw [if_neg q] at k
            exact b_X12_token_162 ⟨fun q => absurd q (by decide), fun _ => b_X12_token_281 (k _ ((y1.tr (mE.sV rfl)).tr (mE.sV rfl)) ⟨rfl, fun _ z => absurd rfl z, y4, y2⟩)⟩
        | some kx =>
          rw [hw] at k
          have hkx := (wkF_lt hw).1
          exact ⟨fun q => absurd q (nI_pos (by omega)), fun _ => b_X12_token_162 ⟨fun q => absurd q (by decide), fun _ => b_X12_token_281 (k _ ((y1.tr (mE.sV rfl)).tr (mE.sV rfl)) ⟨rfl, fun _ _ => rfl, y4, y2⟩)⟩⟩
      have KW : ∀ f j (X : ms_S), n - j ≤ f → mE fK fN S X → X.1 0 7 = nI j → X.1 0 10 = nI a → a ≤ j → j ≤ n → (∀ i, a ≤ i → i < j → smB b i = true) → ru (smB b) n j = ru (smB b) n a → L_X12_token_90 G fr n0 tl K X := by
        intro f
        induction f with
        | zero =>
          intro j X hf y1 y2 y4 y6 y7 y8 y9
          refine b_X12_token_90 ?_
          have hE := KE j X y1 y2 y4 y6 y7 y8 (by rw [← y9, ru_n (by omega)])
          rw [show X.1 0 7 = nI j from y2]
          refine c_isSmall G fr _ tl b n j (mTt_E y1 ht) y7 _ ?_
          rw [decide_eq_false (by omega), Bool.false_and]
          exact ⟨fun _ => hE, fun q => absurd rfl q⟩
        | succ f ih =>
          intro j X hf y1 y2 y4 y6 y7 y8 y9
          refine b_X12_token_90 ?_
          rw [show X.1 0 7 = nI j from y2]
          refine c_isSmall G fr _ tl b n j (mTt_E y1 ht) y7 _ ?_
          cases hz : (decide (j < n) && smB b j) with
          | false =>
            have hr : ru (smB b) n j = j := by
              by_cases hj : j < n
              · rw [decide_eq_true hj, Bool.true_and] at hz
                exact ru_f hz
              · exact ru_n hj
            exact ⟨fun _ => KE j X y1 y2 y4 y6 y7 y8 (by rw [← y9, hr]), fun q => absurd rfl q⟩
          | true =>
            rw [Bool.and_eq_true] at hz
            have hj := of_decide_eq_true hz.1
            refine ⟨fun q => absurd q (by decide), fun _ => ?_⟩
            rw [y2, nI_add]
            refine ih (j + 1) _ (by omega) (y1.tr (mE.sV rfl)) rfl y4 (by omega) (by omega) (fun i h1 h2 => ?_) (by rw [← y9, ru_t hj hz.2])
            by_cases z : i = j
            · rw [z]; exact hz.2
            · exact y8 i h1 (by omega)
      exact KW (n - a) a _ (Nat.le_refl _) x3 x2 rfl (Nat.le_refl _) ha (fun i h1 h2 => by omega) rfl
  have KS : ∀ f j (X : ms_S), n - j ≤ f → mE fK fN S X → X.1 0 7 = nI j → j ≤ n → ru (wsB b) n j = ru (wsB b) n i → L_X12_token_0 G fr n0 tl K X := by
    intro f
    induction f with
    | zero =>
      intro j X hf y1 y2 y3 y4
      have e6 : X.1 0 6 = nI n := (y1.1 0 6 (Or.inr rfl)).trans ht.2.1
      refine b_X12_token_0 ?_
      rw [e6, y2, nI_leI (by omega) (by omega)]
      refine ⟨fun _ => K52 j X y1 y2 y3 ?_, fun q => absurd q (by omega)⟩
      unfold tk
      rw [← y4, ru_n (by omega)]
    | succ f ih =>
      intro j X hf y1 y2 y3 y4
      have e6 : X.1 0 6 = nI n := (y1.1 0 6 (Or.inr rfl)).trans ht.2.1
      refine b_X12_token_0 ?_
      rw [e6, y2, nI_leI (by omega) (by omega), nI_clamp (by omega)]
      refine ⟨fun q => K52 j X y1 y2 y3 ?_, fun q => ?_⟩
      · unfold tk
        rw [← y4, ru_n (by omega)]
      · obtain ⟨e1, e2⟩ := (mTt_E y1 ht).2.2.1 j (by omega)
        have e1 : X.2.2.2.1 1 j = nI (b j) := e1
        rw [e1, nI_eq (a := b j) (b := 10) (by omega) (by decide), nI_eq (a := b j) (b := 32) (by omega) (by decide)]
        have hv : vp_in (nI j) 700 := (x_vp (by omega)).mpr (by omega)
        have K39 : wsB b j = true → L_X12_token_39 G fr n0 tl K X := by
          intro hw
          refine b_X12_token_39 ?_
          rw [y2, nI_add]
          exact ih (j + 1) _ (by omega) (y1.tr (mE.sV rfl)) rfl (by omega) (by rw [← y4, ru_t (by omega) hw])
        refine ⟨hv, fun z => K39 (by unfold wsB; rw [decide_eq_true z]; rfl), fun z => ⟨hv, fun z2 => K39 (by unfold wsB; rw [decide_eq_true z2, Bool.or_true]), fun z2 => K52 j X y1 y2 y3 ?_⟩⟩
        unfold tk
        rw [← y4, ru_f (by unfold wsB; rw [decide_eq_false z, decide_eq_false z2]; rfl)]
  exact KS (n - i) i S (Nat.le_refl _) mE.rf hn hi rfl
