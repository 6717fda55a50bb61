/-! ===== the reference: a new draft; how far lines go ===== -/
def fPl : Nat → Bool := fun k => (Nat.ble 17 k && Nat.ble k 21) || Nat.beq k 46
def aPl : Nat → Bool := fun a => Nat.beq a 3 || Nat.beq a 4 || Nat.beq a 9 || Nat.beq a 16
def D0 : tDR := ((0, fun _ => 0, fun _ => 0, fun _ => 0, fun _ => 0), (0, fun _ => 0, fun _ => -(nI 2)), (0, fun _ => 0, fun _ => 0, fun _ => 0), (0, fun _ => 0, fun _ => 0), (none, none), (0, fun _ => none))
def plF (X : ms_S) : Prop := X.1 0 17 = nI 0 ∧ X.1 0 18 = nI 0 ∧ X.1 0 19 = nI 0 ∧ X.1 0 20 = nI 0 ∧ X.1 0 21 = nI 0 ∧ X.1 0 46 = nI 0
theorem u_plain (G : ab_G) (fr : Bool) (S : ms_S) (tl : ab_H) (K : ms_S → Prop) (c : ∀ X, mLo S X → mE fPl aPl S X → mDr X D0 → K X) : ctU G 1 M_X12_plain fr [.ref 0] lM S tl K := by
  refine m_X12_plain (fun n0 => ?_)
  have h16 : ∀ r j (X : ms_S), j + r = 6 → 3 ≤ j → mLo S X → mE fPl aPl S X → plF X → X.2.2.2.1 3 0 = nI 0 → X.2.2.2.1 3 1 = nI 0 → X.2.2.2.1 4 2 = nI 2 → X.2.2.2.1 4 3 = nI 0 → (∀ p, p < 9 → X.2.2.2.1 9 (9 + p) = -(nI 2)) → (∀ w, 3 ≤ w → w < j → X.2.2.2.1 16 w = nI 0) → L_X12_plain_91 G fr n0 tl K X (nI j) := by
    intro r
    induction r with
    | zero =>
      intro j X hj hj3 x1 x2 x3 x4 x5 x6 x7 x8 x9
      refine b_X12_plain_91 ?_
      rw [nI_leI (by decide) (by omega)]
      refine ⟨fun _ => c X x1 x2 ?_, fun z => absurd z (by omega)⟩
      obtain ⟨p1, p2, p3, p4, p5, p6⟩ := x3
      exact ⟨⟨Nat.zero_le _, p1, fun p hp => absurd hp (Nat.not_lt_zero _)⟩, ⟨Nat.zero_le _, p2, fun p hp => absurd hp (Nat.not_lt_zero _), fun p hp => ⟨x8 p hp, Or.inl rfl⟩⟩, ⟨Nat.zero_le _, p3, fun p hp => absurd hp (Nat.not_lt_zero _)⟩, ⟨Nat.zero_le _, p4, fun p hp => absurd hp (Nat.not_lt_zero _)⟩, ⟨x4, x5, x6, by decide, by decide, x7, by decide⟩, ⟨Nat.zero_le _, p5, p6, fun w hw => ⟨x9 (3 + w) (by omega) (by omega), fun q hq => by cases hq⟩⟩⟩
    | succ r ih =>
      intro j X hj hj3 x1 x2 x3 x4 x5 x6 x7 x8 x9
      refine b_X12_plain_91 ?_
      rw [nI_leI (by decide) (by omega), nI_clamp (by omega), nI_add]
      refine ⟨fun z => absurd z (by omega), fun _ => ⟨(x_vp (by omega)).mpr (by omega), ih (j + 1) _ (by omega) (by omega) (x1.tr (mLo.sA (show loB 16 ≤ j from hj3))) (x2.tr (mE.sA rfl)) x3 x4 x5 x6 x7 x8 (fun w w1 w2 => ?_)⟩⟩
      show upd (X.2.2.2.1 16) j (nI 0 &&& 1) w = nI 0
      by_cases z : w = j
      · subst z
        rw [upd_at]
        rfl
      · rw [upd_no z]
        exact x9 w w1 (by omega)
  have h9 : ∀ r j (X : ms_S), j + r = 9 → mLo S X → mE fPl aPl S X → plF X → X.2.2.2.1 3 0 = nI 0 → X.2.2.2.1 3 1 = nI 0 → X.2.2.2.1 4 2 = nI 2 → X.2.2.2.1 4 3 = nI 0 → (∀ p, p < j → X.2.2.2.1 9 (9 + p) = -(nI 2)) → L_X12_plain_66 G fr n0 tl K X (nI j) := by
    intro r
    induction r with
    | zero =>
      intro j X hj x1 x2 x3 x4 x5 x6 x7 x8
      refine b_X12_plain_66 ?_
      rw [nI_leI (by decide) (by omega)]
      exact ⟨fun _ => h16 3 3 X rfl (by decide) x1 x2 x3 x4 x5 x6 x7 (fun p hp => x8 p (by omega)) (fun w w1 w2 => absurd w2 (by omega)), fun z => absurd z (by omega)⟩
    | succ r ih =>
      intro j X hj x1 x2 x3 x4 x5 x6 x7 x8
      refine b_X12_plain_66 ?_
      rw [nI_leI (by decide) (by omega), nI_add, nI_add, nI_clamp (by omega)]
      refine ⟨fun z => absurd z (by omega), fun _ => ⟨(x_vp (by omega)).mpr (by omega), ih (j + 1) _ (by omega) (x1.tr (mLo.sA (show loB 9 ≤ 9 + j from (show 9 ≤ 9 + j by omega)))) (x2.tr (mE.sA rfl)) x3 x4 x5 x6 x7 (fun p hp => ?_)⟩⟩
      show upd (X.2.2.2.1 9) (9 + j) (-(nI 2)) (9 + p) = _
      by_cases z : p = j
      · subst z
        rw [upd_at]
      · rw [upd_no (by omega)]
        exact x8 p (by omega)
  have h3 : ∀ r j (X : ms_S), j + r = 2 → mLo S X → mE fPl aPl S X → plF X → (∀ p, p < j → X.2.2.2.1 3 p = nI 0) → L_X12_plain_32 G fr n0 tl K X (nI j) := by
    intro r
    induction r with
    | zero =>
      intro j X hj x1 x2 x3 x4
      refine b_X12_plain_32 ?_
      rw [nI_leI (by decide) (by omega)]
      refine ⟨fun _ => ⟨(x_vp (by decide)).mpr (by decide), (x_vp (by decide)).mpr (by decide), ?_⟩, fun z => absurd z (by omega)⟩
      rw [show (nI 2).toNatClampNeg = 2 from rfl, show (nI 3).toNatClampNeg = 3 from rfl]
      exact h9 9 0 _ rfl ((x1.tr (mLo.sA (show loB 4 ≤ 2 by decide))).tr (mLo.sA (show loB 4 ≤ 3 by decide))) ((x2.tr (mE.sA rfl)).tr (mE.sA rfl)) x3 (x4 0 (by omega)) (x4 1 (by omega)) (show upd (upd (X.2.2.2.1 4) 2 (nI 2)) 3 (nI 0) 2 = nI 2 from (upd_no (by decide)).trans upd_at) (show upd (upd (X.2.2.2.1 4) 2 (nI 2)) 3 (nI 0) 3 = nI 0 from upd_at) (fun p hp => absurd hp (Nat.not_lt_zero _))
    | succ r ih =>
      intro j X hj x1 x2 x3 x4
      refine b_X12_plain_32 ?_
      rw [nI_leI (by decide) (by omega), show (nI j).toNatClampNeg = j from nI_clamp (by omega), nI_add]
      refine ⟨fun z => absurd z (by omega), fun _ => ⟨(x_vp (by omega)).mpr (by omega), ih (j + 1) _ (by omega) (x1.tr (mLo.sA (Nat.zero_le _))) (x2.tr (mE.sA rfl)) x3 (fun p hp => ?_)⟩⟩
      show upd (X.2.2.2.1 3) j (nI 0 &&& 1) p = nI 0
      by_cases z : p = j
      · subst z
        rw [upd_at]
        rfl
      · rw [upd_no z]
        exact x4 p (by omega)
  exact h3 2 0 _ rfl ((((((mLo.sV rfl).tr (mLo.sV rfl)).tr (mLo.sV rfl)).tr (mLo.sV rfl)).tr (mLo.sV rfl)).tr (mLo.sV rfl)) ((((((mE.sV rfl).tr (mE.sV rfl)).tr (mE.sV rfl)).tr (mE.sV rfl)).tr (mE.sV rfl)).tr (mE.sV rfl)) ⟨rfl, rfl, rfl, rfl, rfl, rfl⟩ (fun p hp => absurd hp (Nat.not_lt_zero _))
theorem bE_eq {α β : Type} {x : Except (Nat × Nat) α} {f : α → Except (Nat × Nat) β} {r : β} (h : bE x f = .ok r) : ∃ a, x = .ok a ∧ f a = .ok r := by
  cases x with
  | error e => cases h
  | ok a => exact ⟨a, rfl, h⟩
section MONO
variable {b : Nat → Nat} {n : Nat}
theorem tkN_m (hb : ∀ j, j < n → b j < 256) (hn : n ≤ 700) {i : Nat} (hi : i ≤ n) : i ≤ tkN b n i ∧ tkN b n i ≤ n := by
  obtain ⟨b1, b2, b3, b4, b5, b6⟩ := tk_b hb hi hn
  exact ⟨by show i ≤ (tk b n i).2.2.2; omega, b5⟩
theorem pNum_m (hb : ∀ j, j < n → b j < 256) (hn : n ≤ 700) {i lo hi2 : Nat} {r : Nat × Nat} (hi : i ≤ n) (h : pNum b n lo hi2 i = .ok r) : i ≤ r.2 ∧ r.2 ≤ n := by
  unfold pNum at h
  (repeat' split at h) <;> cases h
  exact tkN_m hb hn hi
theorem pNew_m (hb : ∀ j, j < n → b j < 256) (hn : n ≤ 700) {i k : Nat} {f : Nat → Int32} {r : Nat × Nat} (hi : i ≤ n) (h : pNew b n f k i = .ok r) : i ≤ r.2 ∧ r.2 ≤ n := by
  unfold pNew at h
  (repeat' split at h) <;> cases h
  exact tkN_m hb hn hi
theorem pThr_m (hb : ∀ j, j < n → b j < 256) (hn : n ≤ 700) {i k : Nat} {f : Nat → Int32} {r : Nat × Nat} (hi : i ≤ n) (h : pThr b n f k i = .ok r) : i ≤ r.2 ∧ r.2 ≤ n := by
  unfold pThr at h
  (repeat' split at h) <;> cases h
  exact tkN_m hb hn hi
theorem sumS_m (hb : ∀ j, j < n → b j < 256) (hn : n ≤ 700) : ∀ {F : Nat} {u : tSU} {i : Nat} {r : tDQ × Nat}, i ≤ n → sumS b n F u i = .ok r → i ≤ r.2 ∧ r.2 ≤ n
  | 0, u, i, r, hi, h => by cases h
  | F + 1, u, i, r, hi, h => by
    have hU : sumS b n (F + 1) u i = if (isTk b n i 4 59 && (!u.2.2.2.2.1 && decide (u.2.2.1 = 0))) = true then .ok ((bdW 1 u.2.1 u.1).1, i) else bE (if u.2.2.2.2.1 = true then leafS b n u i else signS b n u i) (fun r => sumS b n F r.1 r.2) := rfl
    rw [hU] at h
    split at h
    · cases h
      exact ⟨Nat.le_refl _, hi⟩
    · obtain ⟨a, h1, h2⟩ := bE_eq h
      have hj : a.2 = tkN b n i := by
        split at h1
        · exact (leafS_j (u' := a.1) (j := a.2) h1).1
        · exact (signS_j (u' := a.1) (j := a.2) h1).1
      obtain ⟨m1, m2⟩ := tkN_m hb hn hi
      obtain ⟨m3, m4⟩ := sumS_m hb hn (i := a.2) (by omega) h2
      exact ⟨by omega, m4⟩
theorem pOnce_m (hb : ∀ j, j < n → b j < 256) (hn : n ≤ 700) {D : tDR} {i w lo hi2 : Nat} {r : tDR × Nat} (hi : i ≤ n) (h : pOnce b n D w lo hi2 i = .ok r) : i ≤ r.2 ∧ r.2 ≤ n := by
  obtain ⟨t1, t2⟩ := tkN_m hb hn hi
  unfold pOnce at h
  by_cases z : (if w = 0 then D.2.2.2.2.1.1 else D.2.2.2.2.1.2).isSome = true
  · rw [if_pos z] at h
    cases h
  · rw [if_neg z] at h
    obtain ⟨a3, h3, h⟩ := bE_eq h
    have := pNum_m hb hn t2 h3
    cases h
    exact ⟨by show i ≤ a3.2; omega, by show a3.2 ≤ n; omega⟩
theorem pBody_m (hb : ∀ j, j < n → b j < 256) (hn : n ≤ 700) {D : tDR} {i : Nat} {r : tDR × Nat} (hi : i ≤ n) (h : pBody b n D i = .ok r) : i ≤ r.2 ∧ r.2 ≤ n := by
  obtain ⟨t1, t2⟩ := tkN_m hb hn hi
  unfold pBody at h
  split at h
  · unfold pPiece at h
    split at h
    · cases h
    obtain ⟨a1, h1, h⟩ := bE_eq h
    have := pNew_m hb hn t2 h1
    obtain ⟨a2, h2, h⟩ := bE_eq h
    have := pNum_m hb hn (by omega) h2
    obtain ⟨a3, h3, h⟩ := bE_eq h
    have := pNum_m hb hn (by omega) h3
    obtain ⟨a4, h4, h⟩ := bE_eq h
    have := pNum_m hb hn (by omega) h4
    cases h
    exact ⟨by show i ≤ a4.2; omega, by show a4.2 ≤ n; omega⟩
  split at h
  · unfold pHeir at h
    split at h
    · cases h
    obtain ⟨a1, h1, h⟩ := bE_eq h
    have := pNew_m hb hn t2 h1
    cases h
    exact ⟨by show i ≤ a1.2; omega, by show a1.2 ≤ n; omega⟩
  split at h
  · unfold pShare at h
    obtain ⟨a1, h1, h⟩ := bE_eq h
    have := pThr_m hb hn t2 h1
    obtain ⟨a2, h2, h⟩ := bE_eq h
    have := pThr_m hb hn (by omega) h2
    split at h
    · cases h
      exact ⟨by show i ≤ a2.2; omega, by show a2.2 ≤ n; omega⟩
    · cases h
  split at h
  · unfold pTrade at h
    split at h
    · cases h
    obtain ⟨a1, h1, h⟩ := bE_eq h
    have := pThr_m hb hn t2 h1
    obtain ⟨a2, h2, h⟩ := bE_eq h
    have := pThr_m hb hn (by omega) h2
    split at h
    · cases h
    obtain ⟨a3, h3, h⟩ := bE_eq h
    have := pNum_m hb hn (by omega) h3
    cases h
    exact ⟨by show i ≤ a3.2; omega, by show a3.2 ≤ n; omega⟩
  split at h
  · unfold pDraw at h
    split at h
    · cases h
    obtain ⟨a1, h1, h⟩ := bE_eq h
    have := pThr_m hb hn t2 h1
    obtain ⟨a3, h3, h⟩ := bE_eq h
    have := pNum_m hb hn (by omega) h3
    cases h
    exact ⟨by show i ≤ a3.2; omega, by show a3.2 ≤ n; omega⟩
  split at h
  · exact pOnce_m hb hn hi h
  split at h
  · exact pOnce_m hb hn hi h
  unfold pLaw at h
  split at h
  · split at h
    · cases h
    obtain ⟨a3, h3, h⟩ := bE_eq h
    obtain ⟨t3, t4⟩ := tkN_m hb hn t2
    have := sumS_m hb hn t4 h3
    cases h
    exact ⟨by show i ≤ a3.2; omega, by show a3.2 ≤ n; omega⟩
  · cases h
theorem pLine_m (hb : ∀ j, j < n → b j < 256) (hn : n ≤ 700) {D : tDR} {i : Nat} {r : tDR × Nat} (hi : i ≤ n) (h : pLine b n D i = .ok r) : i < r.2 ∧ r.2 ≤ n := by
  unfold pLine at h
  split at h
  · obtain ⟨a, h1, h2⟩ := bE_eq h
    have m1 := pBody_m hb hn hi h1
    split at h2
    · rename_i hq
      cases h2
      obtain ⟨b1, b2, b3, b4, b5, b6⟩ := tk_b hb m1.2 hn
      have hk : tkK b n a.2 = 4 := by
        simp only [Bool.and_eq_true, decide_eq_true_eq] at hq
        exact hq.1
      have := b6 (by show ¬ tkK b n a.2 = 0; omega)
      exact ⟨by show i < tkN b n a.2; show i < (tk b n a.2).2.2.2; omega, b5⟩
    · cases h2
  · cases h
end MONO

