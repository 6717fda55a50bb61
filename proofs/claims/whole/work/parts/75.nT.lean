/-! ===== lines of a text: numbers and names ===== -/
theorem sg_b (b : Nat → Nat) (n a : Nat) : 1 ≤ (sgT b n a).2.2 ∧ (sgT b n a).1 ≤ 6 ∧ ¬ (sgT b n a).1 = 0 ∧ (sgT b n a).2.1 < 256 + b a ∧ (a < n → a + (sgT b n a).2.2 ≤ n) := by
  unfold sgT
  have hlt : ¬ (if a + 1 < n then b (a + 1) else 0) = 0 → a + 1 < n := fun z => by
    by_cases y : a + 1 < n
    · exact y
    · rw [if_neg y] at z
      exact absurd rfl z
  generalize (if a + 1 < n then b (a + 1) else 0) = nx at hlt
  split
  · exact ⟨by decide, by decide, by decide, by show 2 < _; omega, fun h => by show a + 1 ≤ n; omega⟩
  · split
    · split
      · exact ⟨by decide, by decide, by decide, by show 1 < _; omega, fun h => by show a + 2 ≤ n; have := hlt (by omega); omega⟩
      · split
        · exact ⟨by decide, by decide, by decide, by show 3 < _; omega, fun h => by show a + 2 ≤ n; have := hlt (by omega); omega⟩
        · exact ⟨by decide, by decide, by decide, by show 0 < _; omega, fun h => by show a + 1 ≤ n; omega⟩
    · split
      · split
        · exact ⟨by decide, by decide, by decide, by show 4 < _; omega, fun h => by show a + 2 ≤ n; have := hlt (by omega); omega⟩
        · exact ⟨by decide, by decide, by decide, by show 5 < _; omega, fun h => by show a + 1 ≤ n; omega⟩
      · split
        · exact ⟨by show 1 ≤ 1; decide, by show 4 ≤ 6; decide, by show ¬ 4 = 0; decide, by show b a < _; omega, fun h => by show a + 1 ≤ n; omega⟩
        · exact ⟨by decide, by decide, by decide, by show 0 < _; omega, fun h => by show a + 1 ≤ n; omega⟩
theorem ru_all {p : Nat → Bool} {n : Nat} : ∀ f i, n - i ≤ f → ∀ j, i ≤ j → j < ru p n i → p j = true
  | 0, i, h, j, h1, h2 => by
    rw [ru_n (by omega)] at h2
    omega
  | f + 1, i, h, j, h1, h2 => by
    by_cases hi : i < n
    · cases hp : p i with
      | false =>
        rw [ru_f hp] at h2
        omega
      | true =>
        rw [ru_t hi hp] at h2
        by_cases z : j = i
        · rw [z]; exact hp
        · exact ru_all f (i + 1) (by omega) j (by omega) h2
    · rw [ru_n hi] at h2
      omega
/-- bounds of a token -/
theorem tk_b {b : Nat → Nat} {n i : Nat} (hb : ∀ j, j < n → b j < 256) (hi : i ≤ n) (hn : n ≤ 700) : (tk b n i).1 ≤ 6 ∧ (tk b n i).2.1 < 2 ^ 30 ∧ i ≤ (tk b n i).2.2.1 ∧ (tk b n i).2.2.1 ≤ (tk b n i).2.2.2 ∧ (tk b n i).2.2.2 ≤ n ∧ (¬ (tk b n i).1 = 0 → i < (tk b n i).2.2.2) := by
  unfold tk
  obtain ⟨h1, h2⟩ := ru_le (p := wsB b) hi
  generalize ru (wsB b) n i = a at *
  unfold tkA
  by_cases ha : a < n
  · rw [if_neg (fun z => z ha)]
    by_cases hs : smB b a = true
    · rw [if_pos hs]
      obtain ⟨g1, g2⟩ := ru_le (p := smB b) h2
      have g3 := ru_gt ha hs
      have g4 := ru_all (p := smB b) (n := n) (n - a) a (Nat.le_refl _)
      generalize ru (smB b) n a = e at *
      cases hw : wkN b a e with
      | some k =>
        have := (wkF_lt hw).1
        exact ⟨by show 1 ≤ 6; decide, by show k < _; omega, h1, g1, g2, fun _ => by show i < e; omega⟩
      | none =>
        dsimp only
        split
        · have h9 := pkF_lt (b := b) (a := a) (e := e) (fun j q1 q2 => by
            have := g4 j q1 q2
            unfold smB at this
            simp only [Bool.and_eq_true, decide_eq_true_eq] at this
            omega) 6
          exact ⟨by show 2 ≤ 6; decide, h9, h1, g1, g2, fun _ => by show i < e; omega⟩
        · exact ⟨by show 6 ≤ 6; decide, by show 0 < 2 ^ 30; decide, h1, g1, g2, fun _ => by show i < e; omega⟩
    · rw [if_neg hs]
      by_cases hd : dtB b a = true
      · rw [if_pos hd]
        obtain ⟨g1, g2⟩ := ru_le (p := dtB b) h2
        have g3 := ru_gt ha hd
        have g4 := ru_all (p := dtB b) (n := n) (n - a) a (Nat.le_refl _)
        generalize ru (dtB b) n a = e at *
        have h9 := nb_le (b := b) (a := a) (e - a) (fun j q => by
          have := g4 (a + j) (by omega) (by omega)
          unfold dtB at this
          simp only [Bool.and_eq_true, decide_eq_true_eq] at this
          omega)
        exact ⟨by show 3 ≤ 6; decide, by show nbF b a (e - a) < _; omega, h1, g1, g2, fun _ => by show i < e; omega⟩
      · rw [if_neg hd]
        obtain ⟨s1, s2, s3, s4, s5⟩ := sg_b b n a
        have s6 := hb a ha
        have s5 := s5 ha
        exact ⟨s2, by show (sgT b n a).2.1 < _; omega, h1, by show a ≤ a + _; omega, s5, fun _ => by show i < a + _; omega⟩
  · rw [if_pos ha]
    exact ⟨by show 0 ≤ 6; decide, by show 0 < 2 ^ 30; decide, h1, Nat.le_refl _, h2, fun z => absurd rfl z⟩
abbrev tkK (b : Nat → Nat) (n i : Nat) : Nat := (tk b n i).1
abbrev tkW (b : Nat → Nat) (n i : Nat) : Nat := (tk b n i).2.1
abbrev tkP (b : Nat → Nat) (n i : Nat) : Nat := (tk b n i).2.2.1
abbrev tkN (b : Nat → Nat) (n i : Nat) : Nat := (tk b n i).2.2.2
def pNum (b : Nat → Nat) (n lo hi i : Nat) : Except (Nat × Nat) (Nat × Nat) := if tkK b n i = 3 then (if lo ≤ tkW b n i ∧ tkW b n i ≤ hi then .ok (tkW b n i, tkN b n i) else .error (2, tkP b n i)) else .error (1, tkP b n i)
def pNew (b : Nat → Nat) (n : Nat) (f : Nat → Int32) (k i : Nat) : Except (Nat × Nat) (Nat × Nat) := if tkK b n i = 2 then (if fdK f (nI (tkW b n i)) k = none then .ok (tkW b n i, tkN b n i) else .error (3, tkP b n i)) else .error (1, tkP b n i)
def pThr (b : Nat → Nat) (n : Nat) (f : Nat → Int32) (k i : Nat) : Except (Nat × Nat) (Nat × Nat) := if tkK b n i = 2 then (match fdK f (nI (tkW b n i)) k with | some j => .ok (j, tkN b n i) | none => .error (4, tkP b n i)) else .error (1, tkP b n i)
def fQ : Nat → Bool := fun k => Nat.beq k 4 || Nat.beq k 5 || (Nat.ble 7 k && Nat.ble k 11)
theorem fKQ (k : Nat) (h : fQ k = false) : fK k = false := by
  unfold fQ at h
  unfold fK
  simp only [Bool.or_eq_false_iff] at h
  cases hb : Nat.ble 7 k with
  | false => rfl
  | true =>
    have h2 := h.2
    rw [hb, Bool.true_and] at h2
    rw [Bool.true_and]
    cases h3 : Nat.ble k 10 with
    | false => rfl
    | true =>
      have := Nat.le_of_ble_eq_true h3
      rw [Nat.ble_eq_true_of_le (show k ≤ 11 by omega)] at h2
      cases h2
theorem mE.KQ {A : Nat → Bool} {S S' : ms_S} (h : mE fK fN S S') : mE fQ A S S' := h.mono fKQ (fun _ _ => rfl)
def fG : Nat → Bool := fun k => Nat.ble 7 k && Nat.ble k 11
theorem fGQ (k : Nat) (h : fQ k = false) : fG k = false := by
  unfold fQ at h
  unfold fG
  simp only [Bool.or_eq_false_iff] at h
  exact h.2
theorem fKG (k : Nat) (h : fG k = false) : fK k = false := by
  unfold fG at h
  unfold fK
  cases hb : Nat.ble 7 k with
  | false => rfl
  | true =>
    rw [hb, Bool.true_and] at h
    rw [Bool.true_and]
    cases h3 : Nat.ble k 10 with
    | false => rfl
    | true =>
      have := Nat.le_of_ble_eq_true h3
      rw [Nat.ble_eq_true_of_le (show k ≤ 11 by omega)] at h
      cases h
theorem mE.GQ {A : Nat → Bool} {S S' : ms_S} (h : mE fG A S S') : mE fQ A S S' := h.mono fGQ (fun _ q => q)
theorem mE.KG {A : Nat → Bool} {S S' : ms_S} (h : mE fK fN S S') : mE fG A S S' := h.mono fKG (fun _ _ => rfl)
/-- reading at token i of bytes b, n of them -/
def mCu (S : ms_S) (b : Nat → Nat) (n i : Nat) : Prop := mTt S b n ∧ i ≤ n ∧ mTk S (tk b n i)
theorem mTt_Q {A : Nat → Bool} {S S' : ms_S} {b : Nat → Nat} {n : Nat} (h : mE fQ A S S') (h1 : A 1 = false) (h2 : A 2 = false) (ht : mTt S b n) : mTt S' b n := ⟨ht.1, (h.1 0 6 (Or.inr rfl)).trans ht.2.1, fun i hi => ⟨(congrFun (h.2.2.2.1 1 h1) i).trans (ht.2.2.1 i hi).1, (ht.2.2.1 i hi).2⟩, fun i hi => (congrFun (h.2.2.2.1 2 h2) i).trans (ht.2.2.2 i hi)⟩
theorem mCu_b {S : ms_S} {b : Nat → Nat} {n i : Nat} (h : mCu S b n i) : tkK b n i ≤ 6 ∧ tkW b n i < 2 ^ 30 ∧ i ≤ tkP b n i ∧ tkP b n i ≤ tkN b n i ∧ tkN b n i ≤ n ∧ (¬ tkK b n i = 0 → i < tkN b n i) := tk_b (fun j hj => (h.1.2.2.1 j hj).2) h.2.1 h.1.1
/-- on to the next token -/
theorem u_token (G : ab_G) (fr : Bool) (S S2 : ms_S) (tl : ab_H) (b : Nat → Nat) (n i : Nat) (h : mCu S b n i) (h2 : mTt S2 b n) (hx : m_next S2 = m_next S) (K : ms_S → Prop) (k : ∀ S', mE fK fN S2 S' → mCu S' b n (tkN b n i) → K S') : ctU G 2 M_X12_token fr [.ref 0] lM S2 tl K := by
  obtain ⟨b1, b2, b3, b4, b5, b6⟩ := mCu_b h
  exact c_token G fr S2 tl b n (tkN b n i) h2 b5 (hx.trans h.2.2.2.2.2) K (fun S' x1 x2 => k S' x1 ⟨mTt_E x1 h2, b5, x2⟩)
theorem u_wrong (G : ab_G) (fr : Bool) (S : ms_S) (tl : ab_H) (f p : Nat) (hp : m_at S = nI p) (K : Int32 → ms_S → Prop) (k : ∀ S', mE fQ fN S S' → m_fault S' = nI f → m_faultPlace S' = nI p → K (nI 0) S') : ctI G 1 M_X12_wrong fr [.ref 0, .int (nI f)] lM S tl K := m_X12_wrong (fun n0 => k _ ((mE.sV rfl).tr (mE.sV rfl)) rfl hp)
theorem inK_N {w a c : Nat} (hw : w < 2 ^ 31) (ha : a < 2 ^ 31) (hc : c < 2 ^ 31) : inK (nI w) a c = decide (a ≤ w ∧ w ≤ c) := by
  unfold inK
  refine decide_eq_decide.mpr ?_
  rw [nI_ltI hw ha, nI_ltI hc hw]
  omega
theorem u_number (G : ab_G) (fr : Bool) (S : ms_S) (tl : ab_H) (b : Nat → Nat) (n i lo hi : Nat) (h : mCu S b n i) (hlo : lo < 2 ^ 30) (hhi : hi < 2 ^ 30) (K : Int32 → ms_S → Prop)
    (kE : ∀ S' f p, pNum b n lo hi i = .error (f, p) → mE fQ fN S S' → m_fault S' = nI f → m_faultPlace S' = nI p → K (nI 0) S')
    (kO : ∀ S' v j, pNum b n lo hi i = .ok (v, j) → lo ≤ v → v ≤ hi → mE fG fN S S' → mCu S' b n j → m_got S' = nI v → K (nI 1) S') : ctI G 3 M_X12_number fr [.ref 0, .int (nI lo), .int (nI hi)] lM S tl K := by
  obtain ⟨b1, b2, b3, b4, b5, b6⟩ := mCu_b h
  obtain ⟨t1, t2, t3, t4⟩ := h.2.2
  have e8 : S.1 0 8 = nI (tkK b n i) := t1
  unfold pNum at kE kO
  refine m_X12_number (fun n0 => ?_)
  rw [e8, nI_eq (by omega) (by decide)]
  refine ⟨fun q => ?_, fun q => ?_⟩
  · rw [if_pos q] at kE kO
    have e9 : S.1 0 9 = nI (tkW b n i) := t2 (by show ¬ tkK b n i = 0; omega) (by show ¬ tkK b n i = 6; omega)
    rw [e9]
    refine ctI.eq (c_isInK G fr _ _ lo hi) ?_
    rw [inK_N (by omega) (by omega) (by omega), x_b0, e9]
    refine ⟨fun z => ?_, fun z => ?_⟩
    · rw [if_neg (of_decide_eq_false z)] at kE
      exact u_wrong G fr S tl 2 _ t3 _ (fun S' x1 x2 x3 => ⟨Or.inl rfl, kE S' _ _ rfl x1 x2 x3⟩)
    · have hz := of_decide_eq_true (nf_t z)
      rw [if_pos hz] at kO
      have m1 : mE fG fN S (sV S 11 (nI (tkW b n i))) := mE.sV rfl
      exact u_token G fr S _ tl b n i h (mTt_Q m1.GQ rfl rfl h.1) rfl _ (fun S' x1 x2 => kO S' _ _ rfl hz.1 hz.2 (m1.tr x1.KG) x2 ((x1.1 0 11 (Or.inr rfl)).trans rfl))
  · rw [if_neg q] at kE
    exact u_wrong G fr S tl 1 _ t3 _ (fun S' x1 x2 x3 => ⟨Or.inl rfl, kE S' _ _ rfl x1 x2 x3⟩)
theorem u_newP (G : ab_G) (fr : Bool) (S : ms_S) (tl : ab_H) (b : Nat → Nat) (n i fo np : Nat) (f : Nat → Int32) (h : mCu S b n i) (hf : ∀ k, k < np → a_pieceName S (fo + k) = f k) (hfo : fo + np < 18) (K : Int32 → ms_S → Prop)
    (kE : ∀ S' x p, pNew b n f np i = .error (x, p) → mE fQ fN S S' → m_fault S' = nI x → m_faultPlace S' = nI p → K (nI 0) S')
    (kO : ∀ S' v j, pNew b n f np i = .ok (v, j) → mE fG fN (sA S 5 (fo + np) (nI v)) S' → mCu S' b n j → K (nI 1) S') : ctI G 3 M_X12_newName fr [.ref 0, .ref 5, .int (nI fo), .int (nI np)] lM S tl K := by
  obtain ⟨b1, b2, b3, b4, b5, b6⟩ := mCu_b h
  obtain ⟨t1, t2, t3, t4⟩ := h.2.2
  have e8 : S.1 0 8 = nI (tkK b n i) := t1
  unfold pNew at kE kO
  refine m_X12_newNameP (fun n0 => ?_)
  rw [e8, nI_eq (by omega) (by decide)]
  refine ⟨fun q => ?_, fun q => ?_⟩
  · rw [if_pos q] at kE kO
    have e9 : S.1 0 9 = nI (tkW b n i) := t2 (by show ¬ tkK b n i = 0; omega) (by show ¬ tkK b n i = 6; omega)
    rw [e9]
    refine ctI.e1 (c_findP G fr S tl fo np _ f hf (by omega)) ?_
    rw [e9, nI_add, nI_clamp (by omega)]
    unfold fdA
    cases hd : fdK f (nI (tkW b n i)) np with
    | none =>
      rw [if_pos hd] at kO
      refine ⟨fun _ => ⟨(x_vp (by omega)).mpr (by omega), ?_⟩, fun z => absurd (neg_neg (by decide) (by decide)) z⟩
      have m1 : mE fQ (aO 5) S (sA S 5 (fo + np) (nI (tkW b n i))) := mE.sA rfl
      exact u_token G fr S _ tl b n i h (mTt_Q m1 rfl rfl h.1) rfl _ (fun S' x1 x2 => kO S' _ _ rfl x1.KG x2)
    | some j =>
      have hj := (fdK_lt hd).1
      rw [if_neg (by rw [hd]; exact fun z => by cases z)] at kE
      refine ⟨fun z => absurd z (nI_pos (by omega)), fun _ => ?_⟩
      exact u_wrong G fr S tl 3 _ t3 _ (fun S' x1 x2 x3 => ⟨Or.inl rfl, kE S' _ _ rfl x1 x2 x3⟩)
  · rw [if_neg q] at kE
    exact u_wrong G fr S tl 1 _ t3 _ (fun S' x1 x2 x3 => ⟨Or.inl rfl, kE S' _ _ rfl x1 x2 x3⟩)
theorem u_newH (G : ab_G) (fr : Bool) (S : ms_S) (tl : ab_H) (b : Nat → Nat) (n i fo np : Nat) (f : Nat → Int32) (h : mCu S b n i) (hf : ∀ k, k < np → a_heirName S (fo + k) = f k) (hfo : fo + np < 10) (K : Int32 → ms_S → Prop)
    (kE : ∀ S' x p, pNew b n f np i = .error (x, p) → mE fQ fN S S' → m_fault S' = nI x → m_faultPlace S' = nI p → K (nI 0) S')
    (kO : ∀ S' v j, pNew b n f np i = .ok (v, j) → mE fG fN (sA S 10 (fo + np) (nI v)) S' → mCu S' b n j → K (nI 1) S') : ctI G 3 M_X12_newName fr [.ref 0, .ref 10, .int (nI fo), .int (nI np)] lM S tl K := by
  obtain ⟨b1, b2, b3, b4, b5, b6⟩ := mCu_b h
  obtain ⟨t1, t2, t3, t4⟩ := h.2.2
  have e8 : S.1 0 8 = nI (tkK b n i) := t1
  unfold pNew at kE kO
  refine m_X12_newNameH (fun n0 => ?_)
  rw [e8, nI_eq (by omega) (by decide)]
  refine ⟨fun q => ?_, fun q => ?_⟩
  · rw [if_pos q] at kE kO
    have e9 : S.1 0 9 = nI (tkW b n i) := t2 (by show ¬ tkK b n i = 0; omega) (by show ¬ tkK b n i = 6; omega)
    rw [e9]
    refine ctI.e1 (c_findH G fr S tl fo np _ f hf (by omega)) ?_
    rw [e9, nI_add, nI_clamp (by omega)]
    unfold fdA
    cases hd : fdK f (nI (tkW b n i)) np with
    | none =>
      rw [if_pos hd] at kO
      refine ⟨fun _ => ⟨(x_vp (by omega)).mpr (by omega), ?_⟩, fun z => absurd (neg_neg (by decide) (by decide)) z⟩
      have m1 : mE fQ (aO 10) S (sA S 10 (fo + np) (nI (tkW b n i))) := mE.sA rfl
      exact u_token G fr S _ tl b n i h (mTt_Q m1 rfl rfl h.1) rfl _ (fun S' x1 x2 => kO S' _ _ rfl x1.KG x2)
    | some j =>
      have hj := (fdK_lt hd).1
      rw [if_neg (by rw [hd]; exact fun z => by cases z)] at kE
      refine ⟨fun z => absurd z (nI_pos (by omega)), fun _ => ?_⟩
      exact u_wrong G fr S tl 3 _ t3 _ (fun S' x1 x2 x3 => ⟨Or.inl rfl, kE S' _ _ rfl x1 x2 x3⟩)
  · rw [if_neg q] at kE
    exact u_wrong G fr S tl 1 _ t3 _ (fun S' x1 x2 x3 => ⟨Or.inl rfl, kE S' _ _ rfl x1 x2 x3⟩)
theorem u_thrP (G : ab_G) (fr : Bool) (S : ms_S) (tl : ab_H) (b : Nat → Nat) (n i fo np : Nat) (f : Nat → Int32) (h : mCu S b n i) (hf : ∀ k, k < np → a_pieceName S (fo + k) = f k) (hfo : fo + np ≤ 18) (K : Int32 → ms_S → Prop)
    (kE : ∀ S' x p, pThr b n f np i = .error (x, p) → mE fQ fN S S' → m_fault S' = nI x → m_faultPlace S' = nI p → K (nI 0) S')
    (kO : ∀ S' v j, pThr b n f np i = .ok (v, j) → v < np → mE fG fN S S' → mCu S' b n j → m_got S' = nI v → K (nI 1) S') : ctI G 3 M_X12_thereIn fr [.ref 0, .ref 5, .int (nI fo), .int (nI np)] lM S tl K := by
  obtain ⟨b1, b2, b3, b4, b5, b6⟩ := mCu_b h
  obtain ⟨t1, t2, t3, t4⟩ := h.2.2
  have e8 : S.1 0 8 = nI (tkK b n i) := t1
  unfold pThr at kE kO
  refine m_X12_thereInP (fun n0 => ?_)
  rw [e8, nI_eq (by omega) (by decide)]
  refine ⟨fun q => ?_, fun q => ?_⟩
  · rw [if_pos q] at kE kO
    have e9 : S.1 0 9 = nI (tkW b n i) := t2 (by show ¬ tkK b n i = 0; omega) (by show ¬ tkK b n i = 6; omega)
    rw [e9]
    refine ctI.e1 (c_findP G fr S tl fo np _ f hf (by omega)) ?_
    unfold fdA
    cases hd : fdK f (nI (tkW b n i)) np with
    | some j =>
      have hj := (fdK_lt hd).1
      rw [hd] at kO
      refine ⟨fun _ => ?_, fun z => absurd ((x_0le (by omega)).mpr trivial) z⟩
      exact u_token G fr S S tl b n i h h.1 rfl _ (fun S' x1 x2 => kO _ _ _ rfl hj (x1.KG.tr (mE.sV rfl)) ⟨mTt_Q (A := fN) (mE.sV rfl) rfl rfl x2.1, x2.2.1, x2.2.2⟩ rfl)
    | none =>
      rw [hd] at kE
      refine ⟨fun z => absurd z ((x_0n (by decide) (by decide)).mp), fun _ => ?_⟩
      exact u_wrong G fr S tl 4 _ t3 _ (fun S' x1 x2 x3 => ⟨Or.inl rfl, kE S' _ _ rfl x1 x2 x3⟩)
  · rw [if_neg q] at kE
    exact u_wrong G fr S tl 1 _ t3 _ (fun S' x1 x2 x3 => ⟨Or.inl rfl, kE S' _ _ rfl x1 x2 x3⟩)
theorem u_thrH (G : ab_G) (fr : Bool) (S : ms_S) (tl : ab_H) (b : Nat → Nat) (n i fo np : Nat) (f : Nat → Int32) (h : mCu S b n i) (hf : ∀ k, k < np → a_heirName S (fo + k) = f k) (hfo : fo + np ≤ 10) (K : Int32 → ms_S → Prop)
    (kE : ∀ S' x p, pThr b n f np i = .error (x, p) → mE fQ fN S S' → m_fault S' = nI x → m_faultPlace S' = nI p → K (nI 0) S')
    (kO : ∀ S' v j, pThr b n f np i = .ok (v, j) → v < np → mE fG fN S S' → mCu S' b n j → m_got S' = nI v → K (nI 1) S') : ctI G 3 M_X12_thereIn fr [.ref 0, .ref 10, .int (nI fo), .int (nI np)] lM S tl K := by
  obtain ⟨b1, b2, b3, b4, b5, b6⟩ := mCu_b h
  obtain ⟨t1, t2, t3, t4⟩ := h.2.2
  have e8 : S.1 0 8 = nI (tkK b n i) := t1
  unfold pThr at kE kO
  refine m_X12_thereInH (fun n0 => ?_)
  rw [e8, nI_eq (by omega) (by decide)]
  refine ⟨fun q => ?_, fun q => ?_⟩
  · rw [if_pos q] at kE kO
    have e9 : S.1 0 9 = nI (tkW b n i) := t2 (by show ¬ tkK b n i = 0; omega) (by show ¬ tkK b n i = 6; omega)
    rw [e9]
    refine ctI.e1 (c_findH G fr S tl fo np _ f hf (by omega)) ?_
    unfold fdA
    cases hd : fdK f (nI (tkW b n i)) np with
    | some j =>
      have hj := (fdK_lt hd).1
      rw [hd] at kO
      refine ⟨fun _ => ?_, fun z => absurd ((x_0le (by omega)).mpr trivial) z⟩
      exact u_token G fr S S tl b n i h h.1 rfl _ (fun S' x1 x2 => kO _ _ _ rfl hj (x1.KG.tr (mE.sV rfl)) ⟨mTt_Q (A := fN) (mE.sV rfl) rfl rfl x2.1, x2.2.1, x2.2.2⟩ rfl)
    | none =>
      rw [hd] at kE
      refine ⟨fun z => absurd z ((x_0n (by decide) (by decide)).mp), fun _ => ?_⟩
      exact u_wrong G fr S tl 4 _ t3 _ (fun S' x1 x2 x3 => ⟨Or.inl rfl, kE S' _ _ rfl x1 x2 x3⟩)
  · rw [if_neg q] at kE
    exact u_wrong G fr S tl 1 _ t3 _ (fun S' x1 x2 x3 => ⟨Or.inl rfl, kE S' _ _ rfl x1 x2 x3⟩)
