/-! ===== the reference: a law's sum ===== -/
def fX : Nat → Bool := fun k => (Nat.ble 7 k && Nat.ble k 11) || Nat.beq k 21 || (Nat.ble 43 k && Nat.ble k 48)
def fXQ : Nat → Bool := fun k => Nat.beq k 4 || Nat.beq k 5 || fX k
theorem fXq (k : Nat) (h : fXQ k = false) : fX k = false := by
  unfold fXQ at h
  simp only [Bool.or_eq_false_iff] at h
  exact h.2
theorem fGX (k : Nat) (h : fX k = false) : fG k = false := by
  unfold fX at h
  unfold fG
  simp only [Bool.or_eq_false_iff] at h
  exact h.1.1
theorem fQX (k : Nat) (h : fXQ k = false) : fQ k = false := by
  unfold fXQ fX at h
  unfold fQ
  simp only [Bool.or_eq_false_iff] at h ⊢
  exact ⟨h.1, h.2.1.1⟩
theorem fBX (k : Nat) (h : fX k = false) : fBd k = false := by
  unfold fX at h
  unfold fBd
  simp only [Bool.or_eq_false_iff] at h ⊢
  have h2 := h.2
  refine ⟨⟨h.1.2, ?_⟩, ?_⟩
  · cases z : Nat.beq k 43 with
    | false => rfl
    | true =>
      have := Nat.eq_of_beq_eq_true z
      subst this
      cases h2
  · cases z : Nat.beq k 44 with
    | false => rfl
    | true =>
      have := Nat.eq_of_beq_eq_true z
      subst this
      cases h2
theorem mE.Sg {F F' : Nat → Bool} {f : Nat} {S X : ms_S} (h : mE F fN S X) (hF : ∀ k, F' k = false → F k = false) : mSg F' f S X := ⟨fun k q => h.1 0 k (Or.inr (hF k q)), h.2.1, fun a _ => h.2.2.2.1 a rfl, fun a i _ _ _ => congrFun (h.2.2.2.1 a rfl) i⟩
theorem mSu_F {S S' : ms_S} {f : Nat} {q : tDQ} {W : List Nat} (h : mSu S f q W) (e1 : S'.1 0 21 = S.1 0 21) (e2 : S'.1 0 43 = S.1 0 43) (e3 : S'.1 0 44 = S.1 0 44) (a19 : S'.2.2.2.1 19 = S.2.2.2.1 19) (a20 : S'.2.2.2.1 20 = S.2.2.2.1 20) (a21 : S'.2.2.2.1 21 = S.2.2.2.1 21) (a22 : S'.2.2.2.1 22 = S.2.2.2.1 22) (a23 : S'.2.2.2.1 23 = S.2.2.2.1 23) : mSu S' f q W := ⟨e1.trans h.1, e2.trans h.2.1, by rw [a22]; exact h.2.2.1, e3.trans h.2.2.2.1, by rw [a23]; exact h.2.2.2.2.1, knR_F h.2.2.2.2.2 a19 a20 a21⟩
theorem mSu_G {S S' : ms_S} {f : Nat} {q : tDQ} {W : List Nat} (h : mSu S f q W) (x : mE fG fN S S') : mSu S' f q W := mSu_F h (x.1 0 21 (Or.inr rfl)) (x.1 0 43 (Or.inr rfl)) (x.1 0 44 (Or.inr rfl)) (x.2.2.2.1 19 rfl) (x.2.2.2.1 20 rfl) (x.2.2.2.1 21 rfl) (x.2.2.2.1 22 rfl) (x.2.2.2.1 23 rfl)
theorem mSu_w {S : ms_S} {f k : Nat} {q : tDQ} {W : List Nat} (h : mSu S f q W) : mSu (sV (sA S 22 W.length (nI k)) 43 (nI (W.length + 1))) f q (k :: W) := ⟨h.1, rfl, ⟨upd_at, wR_u (Nat.le_refl _) h.2.2.1⟩, h.2.2.2.1, h.2.2.2.2.1, knR_F (S := S) h.2.2.2.2.2 rfl rfl rfl⟩
def iSu (f : Nat) (u : tSU) : Prop := u.2.2.2.1 ≤ 64 ∧ f + u.1.1 + nzC u.2.1 = u.2.2.2.1 ∧ zrC u.2.1 = u.2.2.1 ∧ u.2.2.1 ≤ 8 ∧ wOk u.2.1 ∧ (ixF u.1.2 u.1.1).length = bnC u.2.1 + (if u.2.2.2.2.1 = true then 0 else 1)
def mSm (S1 : ms_S) (b : Nat → Nat) (n f : Nat) (u : tSU) (i : Nat) (X : ms_S) : Prop := mSg fX f S1 X ∧ mSu X f u.1 u.2.1 ∧ X.1 0 45 = nI u.2.2.1 ∧ X.1 0 46 = nI u.2.2.2.1 ∧ X.1 0 47 = bI u.2.2.2.2.1 ∧ X.1 0 48 = bI u.2.2.2.2.2 ∧ mCu X b n i ∧ iSu f u
def mSe (S1 : ms_S) (f fl p : Nat) (X : ms_S) : Prop := mSg fXQ f S1 X ∧ m_fault X = nI fl ∧ m_faultPlace X = nI p
theorem u_isSign (G : ab_G) (fr : Bool) (S : ms_S) (tl : ab_H) (b : Nat → Nat) (n i w : Nat) (h : mCu S b n i) (hw : w < 2 ^ 31) (K : Int32 → ms_S → Prop) (k : K (bI (isTk b n i 4 w)) S) : ctI G 1 M_X12_isSign fr [.ref 0, .int (nI w)] lM S tl K := by
  obtain ⟨b1, b2, b3, b4, b5, b6⟩ := mCu_b h
  obtain ⟨t1, t2, t3, t4⟩ := h.2.2
  have e8 : S.1 0 8 = nI (tkK b n i) := t1
  refine m_X12_isSign (fun n0 => ?_)
  rw [e8, nI_eq (by omega) (by decide)]
  unfold isTk at k
  refine ⟨fun q => ?_, fun q => by rw [decide_eq_false q] at k; exact k⟩
  have e9 : S.1 0 9 = nI (tkW b n i) := t2 (by show ¬ tkK b n i = 0; omega) (by show ¬ tkK b n i = 6; omega)
  rw [e9, nI_eq (by omega) (by omega)]
  rw [decide_eq_true q, Bool.true_and] at k
  exact ⟨fun z => by rw [decide_eq_true z] at k; exact k, fun z => by rw [decide_eq_false z] at k; exact k⟩
theorem u_isKey (G : ab_G) (fr : Bool) (S : ms_S) (tl : ab_H) (b : Nat → Nat) (n i w : Nat) (h : mCu S b n i) (hw : w < 2 ^ 31) (K : Int32 → ms_S → Prop) (k : K (bI (isTk b n i 1 w)) S) : ctI G 1 M_X12_isKey fr [.ref 0, .int (nI w)] lM S tl K := by
  obtain ⟨b1, b2, b3, b4, b5, b6⟩ := mCu_b h
  obtain ⟨t1, t2, t3, t4⟩ := h.2.2
  have e8 : S.1 0 8 = nI (tkK b n i) := t1
  refine m_X12_isKey (fun n0 => ?_)
  rw [e8, nI_eq (by omega) (by decide)]
  unfold isTk at k
  refine ⟨fun q => ?_, fun q => by rw [decide_eq_false q] at k; exact k⟩
  have e9 : S.1 0 9 = nI (tkW b n i) := t2 (by show ¬ tkK b n i = 0; omega) (by show ¬ tkK b n i = 6; omega)
  rw [e9, nI_eq (by omega) (by omega)]
  rw [decide_eq_true q, Bool.true_and] at k
  exact ⟨fun z => by rw [decide_eq_true z] at k; exact k, fun z => by rw [decide_eq_false z] at k; exact k⟩
theorem u_counted (G : ab_G) (fr : Bool) (S : ms_S) (tl : ab_H) (c p : Nat) (hc : S.1 0 46 = nI c) (hc64 : c ≤ 64) (hp : m_at S = nI p) (K : Int32 → ms_S → Prop) (kE : c = 64 → ∀ S', mE fQ fN S S' → m_fault S' = nI 2 → m_faultPlace S' = nI p → K (nI 0) S') (kO : ¬ c = 64 → K (nI 1) (sV S 46 (nI (c + 1)))) : ctI G 2 M_X12_isCounted fr [.ref 0] lM S tl K := by
  refine m_X12_isCounted (fun n0 => ?_)
  rw [hc, nI_eq (by omega) (by decide), nI_add]
  exact ⟨fun q => u_wrong G fr S tl 2 p hp _ (fun S' x1 x2 x3 => ⟨Or.inl rfl, kE q S' x1 x2 x3⟩), kO⟩
theorem u_waits (G : ab_G) (fr : Bool) (S : ms_S) (tl : ab_H) (k l : Nat) (hl : S.1 0 43 = nI l) (hl96 : l < 96) (K : ms_S → Prop) (c : K (sV (sA S 22 l (nI k)) 43 (nI (l + 1)))) : ctU G 1 M_X12_waitsFor fr [.ref 0, .int (nI k)] lM S tl K := by
  refine m_X12_waitsFor (fun n0 => ?_)
  rw [hl, nI_clamp (by omega), nI_add]
  exact ⟨(x_vp (by omega)).mpr hl96, c⟩
theorem mCu_F {S S' : ms_S} {b : Nat → Nat} {n i : Nat} (h : mCu S b n i) (hf : ∀ k, 6 ≤ k → k ≤ 10 → S'.1 0 k = S.1 0 k) (h1 : S'.2.2.2.1 1 = S.2.2.2.1 1) (h2 : S'.2.2.2.1 2 = S.2.2.2.1 2) : mCu S' b n i := by
  obtain ⟨⟨t1, t2, t3, t4⟩, hi, m1, m2, m3, m4⟩ := h
  refine ⟨⟨t1, (hf 6 (by decide) (by decide)).trans t2, fun j hj => ⟨(congrFun h1 j).trans (t3 j hj).1, (t3 j hj).2⟩, fun j hj => (congrFun h2 j).trans (t4 j hj)⟩, hi, (hf 8 (by decide) (by decide)).trans m1, fun z1 z2 => (hf 9 (by decide) (by decide)).trans (m2 z1 z2), (hf 10 (by decide) (by decide)).trans m3, (hf 7 (by decide) (by decide)).trans m4⟩
theorem c_leafRead (G : ab_G) (fr : Bool) (S1 S : ms_S) (tl : ab_H) (b : Nat → Nat) (n f : Nat) (u : tSU) (i : Nat) (h : mSm S1 b n f u i S) (hw : u.2.2.2.2.1 = true) (K : Int32 → ms_S → Prop)
    (kE : ∀ X fl p, leafS b n u i = .error (fl, p) → mSe S1 f fl p X → K (nI 0) X)
    (kO : ∀ X u' j, leafS b n u i = .ok (u', j) → mSm S1 b n f u' j X → K (nI 1) X) : ctI G 3 M_X12_leafRead fr [.ref 0] lM S tl K := by
  obtain ⟨g1, g2, g3, g4, g5, g6, g7, i1, i2, i3, i4, i5, i6⟩ := h
  rw [if_pos hw] at i6
  obtain ⟨b1, b2, b3, b4, b5, b6⟩ := mCu_b g7
  obtain ⟨t1, t2, t3, t4⟩ := g7.2.2
  have e8 : S.1 0 8 = nI (tkK b n i) := t1
  have hlen := len_C u.2.1
  have hbn := bn_le u.2.1
  have kW : ∀ fl p, leafS b n u i = .error (fl, p) → p = tkP b n i → ∀ X, mE fQ fN S X → m_fault X = nI fl → m_faultPlace X = nI p → K (nI 0) X := fun fl p hx _ X x1 x2 x3 => kE X fl p hx ⟨(g1.mono fXq).tr (x1.Sg fQX), x2, x3⟩
  refine m_X12_leafRead (fun n0 => u_isSign G fr S tl b n i 40 g7 (by decide) _ ?_)
  rw [x_b0]
  refine ⟨fun h40 => ?_, fun h40 => ?_⟩
  · have h40n : ¬ isTk b n i 4 40 = true := by rw [h40]; decide
    -- what is left: a name or a number
    have K86 : (isTk b n i 1 13 && u.2.2.2.2.2) = false → L_X12_leafRead_86 G fr n0 tl K S := by
      intro hN
      have hNn : ¬ (isTk b n i 1 13 && u.2.2.2.2.2) = true := by rw [hN]; decide
      -- counted, grown
      have KG : ∀ (v : Int32) (kk xx : Nat), kk ≤ 1 → (kk = 1 → xx < 7) → xx ≤ 9999 → (kk = 0 → v < 0 ∧ S.1 0 9 = nI xx) → (kk = 1 → v = nI xx) → (u.2.2.2.1 = 64 → leafS b n u i = .error (2, tkP b n i)) → (¬ u.2.2.2.1 = 64 → leafS b n u i = .ok (((u.1.1 + 1, up u.1.2 u.1.1 (kk, xx)), u.2.1, u.2.2.1, u.2.2.2.1 + 1, false, u.2.2.2.2.2), tkN b n i)) → L_X12_leafRead_129 G fr n0 tl K S v := by
        intro v kk xx hkk hx7 hx9 hv0 hv1 hE hO
        refine b_X12_leafRead_129 (u_counted G fr S tl _ _ g4 i1 t3 _ (fun q X x1 x2 x3 => ⟨fun _ => kW 2 _ (hE q) rfl X x1 x2 x3, fun z => absurd rfl z⟩) (fun q => ⟨fun z => absurd z (by decide), fun _ => ?_⟩))
        have K160 : L_X12_leafRead_160 G fr n0 tl K (sV S 46 (nI (u.2.2.2.1 + 1))) (nI xx) (nI kk) := by
          refine b_X12_leafRead_160 (u_grown G fr (sV S 46 (nI (u.2.2.2.1 + 1))) tl f u.1.1 kk xx u.1.2 (ixF u.1.2 u.1.1) (nI xx) (nI 0) g2.1 (by omega) g2.2.2.2.1 (by omega) g2.2.2.2.2.1 (knR_F (S := S) g2.2.2.2.2.2 rfl rfl rfl) (by unfold stI; rw [if_pos hkk]) (by omega) (fun _ => rfl) hx7 hx9 (fun z => absurd z (by omega)) (fun z => absurd z (by omega)) u.2.1 g2.2.1 g2.2.2.1 _ (fun Y y1 y2 => ?_))
          have y3 : mSg fX f S1 (sV Y 47 (nI 0)) := ((g1.tr (mSg.sV rfl)).tr (y1.mono fBX)).tr (mSg.sV rfl)
          have c3 : mCu (sV Y 47 (nI 0)) b n i := mCu_F g7 (fun k z1 z2 => by
            rw [show (sV Y 47 (nI 0)).1 0 k = Y.1 0 k from u2_ne (Or.inr (by omega)), y1.1 k (by
              unfold fBd
              rw [show Nat.beq k 21 = false from by cases z : Nat.beq k 21 with
                | false => rfl
                | true => have := Nat.eq_of_beq_eq_true z; omega, show Nat.beq k 43 = false from by cases z : Nat.beq k 43 with
                | false => rfl
                | true => have := Nat.eq_of_beq_eq_true z; omega, show Nat.beq k 44 = false from by cases z : Nat.beq k 44 with
                | false => rfl
                | true => have := Nat.eq_of_beq_eq_true z; omega]
              rfl)]
            exact u2_ne (Or.inr (by omega))) (y1.2.2.1 1 rfl) (y1.2.2.1 2 rfl)
          refine u_tok G fr _ tl b n i c3 _ (fun Z z1 z2 => kO Z _ _ (hO q) ⟨y3.tr (z1.Sg fGX), mSu_G (mSu_F (S' := sV Y 47 (nI 0)) y2 rfl rfl rfl rfl rfl rfl rfl rfl) z1, (z1.1 0 45 (Or.inr rfl)).trans ((y1.1 45 rfl).trans g3), (z1.1 0 46 (Or.inr rfl)).trans ((y1.1 46 rfl).trans rfl), (z1.1 0 47 (Or.inr rfl)).trans rfl, (z1.1 0 48 (Or.inr rfl)).trans ((y1.1 48 rfl).trans g6), z2, ?_⟩)
          refine ⟨show u.2.2.2.1 + 1 ≤ 64 by omega, show f + (u.1.1 + 1) + nzC u.2.1 = u.2.2.2.1 + 1 by omega, i3, i4, i5, ?_⟩
          show (ixF (up u.1.2 u.1.1 (kk, xx)) (u.1.1 + 1)).length = bnC u.2.1 + 1
          rw [ixF_s]
          unfold stI
          rw [if_pos hkk]
          show (ixF u.1.2 u.1.1).length + 1 = _
          omega
        rcases (show kk = 0 ∨ kk = 1 by omega) with rfl | rfl
        · obtain ⟨v1, v2⟩ := hv0 rfl
          refine ⟨fun _ => b_X12_leafRead_148 ⟨fun _ => ?_, fun z => absurd v1 z⟩, fun z => absurd v1 z⟩
          show L_X12_leafRead_160 G fr n0 tl K (sV S 46 (nI (u.2.2.2.1 + 1))) (S.1 0 9) (nI 0)
          rw [v2]
          exact K160
        · have v1 := hv1 rfl
          have v2 : ¬ v < 0 := by rw [v1]; exact nI_pos (by omega)
          refine ⟨fun z => absurd z v2, fun _ => b_X12_leafRead_148 ⟨fun z => absurd z v2, fun _ => ?_⟩⟩
          rw [v1]
          exact K160
      refine b_X12_leafRead_86 (m_X12_nameMet (fun n1 => ?_))
      rw [e8, nI_eq (a := tkK b n i) (b := 1) (by omega) (by decide)]
      have KN : ¬ (tkK b n i = 1 ∧ 14 ≤ tkW b n i) → (0 ≤ -(nI 1) → L_X12_leafRead_109 G fr n0 tl K S (-(nI 1))) ∧ (¬ 0 ≤ -(nI 1) → (nI (tkK b n i) = nI 3 → L_X12_leafRead_109 G fr n0 tl K S (-(nI 1))) ∧ (¬ nI (tkK b n i) = nI 3 → ctI G 1 M_X12_wrong fr [.ref 0, .int (nI 1)] lM S tl (fun v2 S2 => (v2 = 0 ∨ v2 = 1) ∧ K v2 S2))) := by
        intro hn
        rw [x_0n (by decide) (by decide), nI_eq (a := tkK b n i) (b := 3) (by omega) (by decide)]
        refine ⟨False.elim, fun _ => ⟨fun q => b_X12_leafRead_109 ⟨fun z => absurd z ((x_0n (by decide) (by decide)).mp), fun _ => ?_⟩, fun q => ?_⟩⟩
        · have e9 : S.1 0 9 = nI (tkW b n i) := t2 (by show ¬ tkK b n i = 0; omega) (by show ¬ tkK b n i = 6; omega)
          rw [e9, nI_leI (by omega) (by decide)]
          refine ⟨fun z => KG _ 0 (tkW b n i) (by decide) (fun z => by cases z) z (fun _ => ⟨neg_neg (by decide) (by decide), e9⟩) (fun z => by cases z) (fun y => ?_) (fun y => ?_), fun z => u_wrong G fr S tl 2 _ t3 _ (fun X x1 x2 x3 => ⟨Or.inl rfl, kW 2 _ ?_ rfl X x1 x2 x3⟩)⟩
          · unfold leafS
            rw [if_neg h40n, if_neg hNn, if_neg hn, if_pos q, if_neg (by omega), if_pos y]
          · unfold leafS
            rw [if_neg h40n, if_neg hNn, if_neg hn, if_pos q, if_neg (by omega), if_neg y]
          · unfold leafS
            rw [if_neg h40n, if_neg hNn, if_neg hn, if_pos q, if_pos (by omega)]
        · refine u_wrong G fr S tl 1 _ t3 _ (fun X x1 x2 x3 => ⟨Or.inl rfl, kW 1 _ ?_ rfl X x1 x2 x3⟩)
          unfold leafS
          rw [if_neg h40n, if_neg hNn, if_neg hn, if_neg q]
      refine ⟨fun q => ?_, fun q => KN (fun z => q z.1)⟩
      have e9 : S.1 0 9 = nI (tkW b n i) := t2 (by show ¬ tkK b n i = 0; omega) (by show ¬ tkK b n i = 6; omega)
      rw [e9, nI_ltI (by omega) (by decide)]
      refine ⟨fun z => KN (fun y => by omega), fun z => ?_⟩
      rw [pk_sub (by omega)]
      have hw21 : tkW b n i < 21 := by
        show (tk b n i).2.1 < 21
        have q : (tk b n i).1 = 1 := q
        revert q
        unfold tk tkA
        split
        · intro q; cases q
        · split
          · split
            · rename_i hq
              intro _
              exact (wkF_lt hq).1
            · split <;> (intro q; cases q)
          · split
            · intro q; cases q
            · unfold sgT
              (repeat' split) <;> (intro q; cases q)
      have K109 : L_X12_leafRead_109 G fr n0 tl K S (nI (tkW b n i - 14)) := by
        refine b_X12_leafRead_109 ⟨fun _ => KG _ 1 (tkW b n i - 14) (by decide) (fun _ => by omega) (by omega) (fun z => by cases z) (fun _ => rfl) (fun y => ?_) (fun y => ?_), fun z => absurd ((x_0le (by omega)).mpr trivial) z⟩
        · unfold leafS
          rw [if_neg h40n, if_neg hNn, if_pos ⟨q, by omega⟩, if_pos y]
        · unfold leafS
          rw [if_neg h40n, if_neg hNn, if_pos ⟨q, by omega⟩, if_neg y]
      exact ⟨fun _ => K109, fun z => absurd ((x_0le (by omega)).mpr trivial) z⟩
    refine u_isKey G fr S tl b n i 13 g7 (by decide) _ ?_
    rw [x_b0, g6, x_b0]
    refine ⟨fun z => K86 (by rw [z]; rfl), fun z => ⟨fun y => K86 (by rw [y, Bool.and_false]), fun y => ?_⟩⟩
    have hN : (isTk b n i 1 13 && u.2.2.2.2.2) = true := by rw [nf_t z, nf_t y]; rfl
    refine u_counted G fr S tl _ _ g4 i1 t3 _ (fun q X x1 x2 x3 => ⟨fun _ => kW 2 _ (by unfold leafS; rw [if_neg h40n, if_pos hN, if_pos q]) rfl X x1 x2 x3, fun z => absurd rfl z⟩) (fun q => ⟨fun z => absurd z (by decide), fun _ => ?_⟩)
    refine u_waits G fr (sV S 46 (nI (u.2.2.2.1 + 1))) tl 2 u.2.1.length g2.2.1 (by omega) _ ?_
    have c3 : mCu (sV (sA (sV S 46 (nI (u.2.2.2.1 + 1))) 22 u.2.1.length (nI 2)) 43 (nI (u.2.1.length + 1))) b n i := mCu_F g7 (fun k z1 z2 => (u2_ne (Or.inr (by omega))).trans (u2_ne (Or.inr (by omega)))) rfl rfl
    have y3 : mSg fX f S1 (sV (sA (sV S 46 (nI (u.2.2.2.1 + 1))) 22 u.2.1.length (nI 2)) 43 (nI (u.2.1.length + 1))) := ((g1.tr (mSg.sV rfl)).tr (mSg.sA rfl (fun z => absurd z (by decide)))).tr (mSg.sV rfl)
    have s3 : mSu (sV S 46 (nI (u.2.2.2.1 + 1))) f u.1 u.2.1 := mSu_F g2 rfl rfl rfl rfl rfl rfl rfl rfl
    refine u_tok G fr _ tl b n i c3 _ (fun Z z1 z2 => kO Z (u.1, 2 :: u.2.1, u.2.2.1, u.2.2.2.1 + 1, u.2.2.2.2.1, u.2.2.2.2.2) (tkN b n i) (by unfold leafS; rw [if_neg h40n, if_pos hN, if_neg q]) ⟨y3.tr (z1.Sg fGX), mSu_G (mSu_w s3) z1, (z1.1 0 45 (Or.inr rfl)).trans g3, (z1.1 0 46 (Or.inr rfl)).trans rfl, (z1.1 0 47 (Or.inr rfl)).trans g5, (z1.1 0 48 (Or.inr rfl)).trans g6, z2, ⟨show u.2.2.2.1 + 1 ≤ 64 by omega, ?_, ?_, i4, ?_, ?_⟩⟩)
    · show f + u.1.1 + (1 + nzC u.2.1) = u.2.2.2.1 + 1
      omega
    · show 0 + zrC u.2.1 = u.2.2.1
      omega
    · intro k hk
      rcases List.mem_cons.mp hk with rfl | hk
      · exact ⟨by decide, by decide⟩
      · exact i5 k hk
    · show (ixF u.1.2 u.1.1).length = (0 + bnC u.2.1) + (if u.2.2.2.2.1 = true then 0 else 1)
      rw [if_pos hw]
      omega
  · have h40t := nf_t h40
    rw [g3, nI_eq (by omega) (by decide), nI_add]
    refine ⟨fun q => u_wrong G fr S tl 2 _ t3 _ (fun X x1 x2 x3 => ⟨Or.inl rfl, kW 2 _ (by unfold leafS; rw [if_pos h40t, if_pos q]) rfl X x1 x2 x3⟩), fun q => ?_⟩
    refine u_waits G fr (sV S 45 (nI (u.2.2.1 + 1))) tl 0 u.2.1.length g2.2.1 (by omega) _ ?_
    have c3 : mCu (sV (sV (sA (sV S 45 (nI (u.2.2.1 + 1))) 22 u.2.1.length (nI 0)) 43 (nI (u.2.1.length + 1))) 48 (nI 1)) b n i := mCu_F g7 (fun k z1 z2 => ((u2_ne (Or.inr (by omega))).trans (u2_ne (Or.inr (by omega)))).trans (u2_ne (Or.inr (by omega)))) rfl rfl
    have y3 : mSg fX f S1 (sV (sV (sA (sV S 45 (nI (u.2.2.1 + 1))) 22 u.2.1.length (nI 0)) 43 (nI (u.2.1.length + 1))) 48 (nI 1)) := (((g1.tr (mSg.sV rfl)).tr (mSg.sA rfl (fun z => absurd z (by decide)))).tr (mSg.sV rfl)).tr (mSg.sV rfl)
    have s3 : mSu (sV S 45 (nI (u.2.2.1 + 1))) f u.1 u.2.1 := mSu_F g2 rfl rfl rfl rfl rfl rfl rfl rfl
    refine u_tok G fr _ tl b n i c3 _ (fun Z z1 z2 => kO Z (u.1, 0 :: u.2.1, u.2.2.1 + 1, u.2.2.2.1, u.2.2.2.2.1, true) (tkN b n i) (by unfold leafS; rw [if_pos h40t, if_neg q]) ⟨y3.tr (z1.Sg fGX), mSu_G (mSu_F (S' := sV (sV (sA (sV S 45 (nI (u.2.2.1 + 1))) 22 u.2.1.length (nI 0)) 43 (nI (u.2.1.length + 1))) 48 (nI 1)) (mSu_w s3) rfl rfl rfl rfl rfl rfl rfl rfl) z1, (z1.1 0 45 (Or.inr rfl)).trans rfl, (z1.1 0 46 (Or.inr rfl)).trans g4, (z1.1 0 47 (Or.inr rfl)).trans g5, (z1.1 0 48 (Or.inr rfl)).trans rfl, z2, ⟨i1, ?_, ?_, ?_, ?_, ?_⟩⟩)
    · show f + u.1.1 + (0 + nzC u.2.1) = u.2.2.2.1
      omega
    · show 1 + zrC u.2.1 = u.2.2.1 + 1
      omega
    · show u.2.2.1 + 1 ≤ 8
      omega
    · intro k hk
      rcases List.mem_cons.mp hk with rfl | hk
      · exact ⟨by decide, by decide⟩
      · exact i5 k hk
    · show (ixF u.1.2 u.1.1).length = (0 + bnC u.2.1) + (if u.2.2.2.2.1 = true then 0 else 1)
      rw [if_pos hw]
      omega
