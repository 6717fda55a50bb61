/-! ===== the reference: all that it holds ===== -/
def hoF (P : tPL) (f : Nat → Int32) : Prop := ∀ p, p < P.1 → f p = -(nI 2) ∨ f p = -(nI 3) ∨ ∃ h, h < P.2.1 ∧ f p = nI h
abbrev tU : Type := Nat × (Nat → tR)
abbrev tIm : Type := Option (tR × Nat × Nat × Nat)
abbrev tN : Type := Nat × Int32 × (Nat → Nat × Nat × Nat × Nat × Bool)
abbrev tX : Type := (Nat → Int32) × (Nat → Int32) × Nat × (Nat → Int32) × Nat
abbrev tTp : Type := Nat × (Nat → Nat) × Int32 × Int32
def mU (S : ms_S) (P : tPL) (U : tU) : Prop := U.1 ≤ 20 ∧ m_undos S = nI U.1 ∧ ∀ k, k < U.1 → rowOk (a_undo S) (19 * k) (U.2 k) ∧ hoF P (U.2 k).1
def mIm (S : ms_S) (P : tPL) (im : tIm) : Prop := m_hasImage S = bI im.isSome ∧ ∀ x, im = some x → rowOk (a_image S) 0 x.1 ∧ hoF P x.1.1 ∧ m_imageRefused S = nI x.2.1 ∧ m_imageDay S = nI x.2.2.1 ∧ x.2.2.1 ≤ 9000 ∧ m_imageDrawn S = lN x.2.2.2 ∧ x.2.2.2 < 2 ^ 31
/-- a note: what, ends or day and heir, how much, so -/
def ntOk (P : tPL) (k : Nat) (x : Nat × Nat × Nat × Nat × Bool) : Prop := x.1 ≤ 3 ∧ (x.1 ≤ 1 → x.2.1 < 7) ∧ (x.1 = 1 → x.2.2.1 < 7) ∧ (x.1 = 2 → x.2.1 ≤ 60 ∧ x.2.2.1 < P.2.1 ∧ x.2.2.2.1 ≤ 99999) ∧ (x.1 = 3 → x.2.1 < k)
def mN (S : ms_S) (P : tPL) (N : tN) : Prop := N.1 ≤ 24 ∧ m_notedMany S = nI N.1 ∧ m_knownTold S = N.2.1 ∧ (N.2.1 = -(nI 1) ∨ ∃ j, j ≤ N.1 ∧ N.2.1 = nI j) ∧ ∀ k, k < N.1 → a_noted1 S (5 * k) = nI (N.2.2 k).1 ∧ a_noted1 S (5 * k + 1) = nI (N.2.2 k).2.1 ∧ (¬ (N.2.2 k).1 = 0 → a_noted1 S (5 * k + 2) = nI (N.2.2 k).2.2.1) ∧ a_noted1 S (5 * k + 3) = nI (N.2.2 k).2.2.2.1 ∧ a_noted1 S (5 * k + 4) = bI (N.2.2 k).2.2.2.2 ∧ ntOk P k (N.2.2 k)
def mX (S : ms_S) (P : tPL) (X : tX) : Prop := (∀ p, p < P.1 → a_pieceName S p = X.1 p) ∧ (∀ h, h < P.2.1 → a_heirName S h = X.2.1 h) ∧ a_once S 1 = nI X.2.2.1 ∧ X.2.2.1 ≤ 99999 ∧ (∀ p, p < 9 → a_pieceOf S p = X.2.2.2.1 p) ∧ hoF P X.2.2.2.1 ∧ m_knots S = nI X.2.2.2.2
def mTp (S : ms_S) (T : tTp) : Prop := T.1 ≤ 700 ∧ m_tapeSize S = nI T.1 ∧ (∀ i, i < T.1 → a_tape S i = nI (T.2.1 i) ∧ T.2.1 i < 256) ∧ m_fault S = T.2.2.1 ∧ m_faultPlace S = T.2.2.2
def wdL : List Nat := [112, 105, 101, 99, 101, 32, 104, 101, 105, 114, 32, 115, 104, 97, 114, 101, 32, 116, 114, 97, 100, 101, 32, 100, 114, 97, 119, 32, 110, 101, 101, 100, 32, 115, 101, 101, 100, 32, 108, 97, 119, 32, 106, 111, 105, 110, 32, 109, 97, 121, 32, 103, 111, 108, 100, 32, 97, 110, 100, 32, 111, 114, 32, 110, 111, 116, 32, 111, 110, 101, 32, 111, 116, 104, 101, 114, 32, 119, 111, 114, 116, 104, 32, 107, 105, 110, 32, 104, 101, 108, 100, 32, 114, 105, 99, 104, 32, 100, 97, 121, 32]
def wdN (i : Nat) : Nat := wdL.getD i 32
def mWd (S : ms_S) : Prop := ∀ i, i < 101 → a_words S i = nI (wdN i)
def mRs (S : ms_S) (P : tPL) (z : tN × tX × tTp) : Prop := mN S P z.1 ∧ mX S P z.2.1 ∧ mTp S z.2.2 ∧ mWd S
abbrev tSG : Type := tC × tU × tIm × tN × tX × tTp
def mI (S : ms_S) (g : tSG) : Prop := mC S g.1 ∧ mU S g.1.1 g.2.1 ∧ mIm S g.1.1 g.2.2.1 ∧ mRs S g.1.1 g.2.2.2
def fU : Nat → Bool := fun k => fZ k || Nat.beq k 2 || Nat.beq k 79 || Nat.beq k 81 || Nat.beq k 83 || Nat.beq k 84
def aU : Nat → Bool := fun k => aZ k || aQ k || Nat.beq k 39 || Nat.beq k 40
/-- what acts change -/
def mW (S S' : ms_S) : Prop := (∀ k, fU k = false → S'.1 0 k = S.1 0 k) ∧ (∀ a, aU a = false → S'.2.2.2.1 a = S.2.2.2.1 a)
theorem mW.rf {S : ms_S} : mW S S := ⟨fun _ _ => rfl, fun _ _ => rfl⟩
theorem mW.tr {S1 S2 S3 : ms_S} (h1 : mW S1 S2) (h2 : mW S2 S3) : mW S1 S3 := ⟨fun k q => (h2.1 k q).trans (h1.1 k q), fun a q => (h2.2 a q).trans (h1.2 a q)⟩
theorem fUZ {k : Nat} (h : fU k = false) : fZ k = false := by
  unfold fU at h
  simp only [Bool.or_eq_false_iff] at h
  exact h.1.1.1.1.1
theorem aUZ {k : Nat} (h : aU k = false) : aZ k = false ∧ aQ k = false := by
  unfold aU at h
  simp only [Bool.or_eq_false_iff] at h
  exact h.1.1
theorem mB.W {bb : Nat} {S S' : ms_S} (h : mB fZ aZ bb S S') : mW S S' := ⟨fun k q => h.1 0 k (Or.inr (fUZ q)), fun a q => h.2.2.2.1 a (aUZ q).1 (aUZ q).2⟩
theorem mW.sV {S : ms_S} {k : Nat} {x : Int32} (hk : fU k = true) : mW S (sV S k x) := ⟨fun j q => u2_ne (Or.inr (fun z => by rw [z, hk] at q; cases q)), fun _ _ => rfl⟩
theorem mW.sA {S : ms_S} {a i : Nat} {x : Int32} (ha : aU a = true) : mW S (sA S a i x) := ⟨fun _ _ => rfl, fun b q => u1_ne (fun z => by rw [z, ha] at q; cases q)⟩
theorem mW.sW {S : ms_S} {k : Nat} {x : Int64} : mW S (sW S k x) := ⟨fun _ _ => rfl, fun _ _ => rfl⟩
theorem mE.W {F A : Nat → Bool} {S S' : ms_S} (h : mE F A S S') (hF : ∀ k, fU k = false → F k = false) (hA : ∀ a, aU a = false → A a = false) : mW S S' := ⟨fun k q => h.1 0 k (Or.inr (hF k q)), fun a q => h.2.2.2.1 a (hA a q)⟩
theorem mPL_W {S S' : ms_S} {P : tPL} (h : mW S S') (hP : mPL S P) : mPL S' P := by
  obtain ⟨p1, p2, p3, p4, p5, p6⟩ := hP
  have a6 := h.2 6 rfl
  have a7 := h.2 7 rfl
  have a8 := h.2 8 rfl
  have a16 := h.2 16 rfl
  have a17 := h.2 17 rfl
  have a18 := h.2 18 rfl
  have a19 := h.2 19 rfl
  have a20 := h.2 20 rfl
  have a21 := h.2 21 rfl
  refine ⟨p1, p2, (h.1 12 rfl).trans p3, (h.1 13 rfl).trans p4, fun p hp => ?_, fun w hw => ⟨(congrFun a16 w).trans (p6 w hw).1, fun q => ?_⟩⟩
  · obtain ⟨o1, o2, o3, o4, o5, o6⟩ := p5 p hp
    exact ⟨(congrFun a6 p).trans o1, o2, (congrFun a7 p).trans o3, o4, (congrFun a8 p).trans o5, o6⟩
  · obtain ⟨f, l, kn, pj, oj, e1, e2, e3, e4, e5, e6⟩ := (p6 w hw).2 q
    refine ⟨f, l, kn, pj, oj, (congrFun a17 w).trans e1, (congrFun a18 w).trans e2, e3, e4, ⟨fun i q1 q2 => ?_, e5.2⟩, fun nm nm' q => ?_⟩
    · obtain ⟨o1, o2, o3, o4, o5⟩ := e5.1 i q1 q2
      exact ⟨(congrFun a19 i).trans o1, o2, fun q => ⟨(congrFun a20 i).trans (o3 q).1, (o3 q).2⟩, fun q => ⟨(congrFun a20 i).trans (o4 q).1, (o4 q).2⟩, fun q => ⟨(congrFun a21 i).trans (o5 q).1, (o5 q).2⟩⟩
    · rw [show a_part S' = a_part S from a20]
      exact e6 nm nm' q
theorem mTD_W {S S' : ms_S} {P : tPL} {T : tTD} (h : mW S S') (hT : mTD S P T) : mTD S' P T := by
  obtain ⟨t1, t2, t3, t4, t5, t6⟩ := hT
  have a11 := h.2 11 rfl
  have a12 := h.2 12 rfl
  have a13 := h.2 13 rfl
  have a14 := h.2 14 rfl
  have a15 := h.2 15 rfl
  refine ⟨t1, t2, (h.1 14 rfl).trans t3, (h.1 15 rfl).trans t4, fun t ht => ?_, fun k hk => ?_⟩
  · obtain ⟨o1, o2, o3, o4, o5, o6⟩ := t5 t ht
    exact ⟨(congrFun a11 t).trans o1, o2, (congrFun a12 t).trans o3, o4, (congrFun a13 t).trans o5, o6⟩
  · obtain ⟨o1, o2, o3, o4⟩ := t6 k hk
    exact ⟨(congrFun a14 k).trans o1, o2, (congrFun a15 k).trans o3, o4⟩
theorem mRs_W {S S' : ms_S} {P : tPL} {z : tN × tX × tTp} (h : mW S S') (hR : mRs S P z) : mRs S' P z := by
  obtain ⟨⟨n1, n2, n3, n4, n5⟩, ⟨x1, x2, x3, x4, x5, x6, x7⟩, ⟨t1, t2, t3, t4, t5⟩, w1⟩ := hR
  have a1 := h.2 1 rfl
  have a2 := h.2 2 rfl
  have a4 := h.2 4 rfl
  have a5 := h.2 5 rfl
  have a9 := h.2 9 rfl
  have a10 := h.2 10 rfl
  have a37 := h.2 37 rfl
  refine ⟨⟨n1, (h.1 75 rfl).trans n2, (h.1 76 rfl).trans n3, n4, fun k hk => ?_⟩, ⟨fun p hp => (congrFun a5 p).trans (x1 p hp), fun p hp => (congrFun a10 p).trans (x2 p hp), (congrFun a4 1).trans x3, x4, fun p hp => (congrFun a9 p).trans (x5 p hp), x6, (h.1 16 rfl).trans x7⟩, ⟨t1, (h.1 1 rfl).trans t2, fun i hi => ⟨(congrFun a1 i).trans (t3 i hi).1, (t3 i hi).2⟩, (h.1 4 rfl).trans t4, (h.1 5 rfl).trans t5⟩, fun i hi => (congrFun a2 i).trans (w1 i hi)⟩
  obtain ⟨k1, k2, k3, k4, k5, k6⟩ := n5 k hk
  exact ⟨(congrFun a37 _).trans k1, (congrFun a37 _).trans k2, fun q => (congrFun a37 _).trans (k3 q), (congrFun a37 _).trans k4, (congrFun a37 _).trans k5, k6⟩
/-- an act's end, put together -/
theorem mI_mk {S S' : ms_S} {g : tSG} {s' : tES} {dn' : Nat} {U' : tU} {im' : tIm} (hI : mI S g) (h : mW S S') (hs : mES S' 0 s') (hho : hoOk g.1.1 s') (hdy : s'.2.2.2.2 ≤ 9000) (hd : m_drawn S' = lN dn') (hdn : dn' < 2 ^ 31) (hW : mRW S' g.1.1) (hU : mU S' g.1.1 U') (hm : mIm S' g.1.1 im') : mI S' ((g.1.1, g.1.2.1, g.1.2.2.1, s', dn'), U', im', g.2.2.2) := by
  obtain ⟨⟨c1, c2, c3, c4, c5, c6, c7, c8, c9, c10⟩, i2, i3, i4⟩ := hI
  exact ⟨⟨mPL_W h c1, mTD_W h c2, (congrFun (h.2 4 rfl) 0).trans c3, c4, hs, hho, hdy, hd, hdn, hW⟩, hU, hm, mRs_W h i4⟩
theorem mU_F {S S' : ms_S} {P : tPL} {U : tU} (h1 : m_undos S' = m_undos S) (h2 : a_undo S' = a_undo S) (hU : mU S P U) : mU S' P U := by
  refine ⟨hU.1, h1.trans hU.2.1, fun k hk => ?_⟩
  rw [h2]
  exact hU.2.2 k hk
theorem mIm_F {S S' : ms_S} {P : tPL} {im : tIm} (h1 : m_hasImage S' = m_hasImage S) (h2 : a_image S' = a_image S) (h3 : m_imageRefused S' = m_imageRefused S) (h4 : m_imageDay S' = m_imageDay S) (h5 : m_imageDrawn S' = m_imageDrawn S) (hm : mIm S P im) : mIm S' P im := by
  refine ⟨h1.trans hm.1, fun x hx => ?_⟩
  rw [h2, h3, h4, h5]
  exact hm.2 x hx
/-- a query leaves all as it was -/
theorem mI_Z {S S' : ms_S} {g : tSG} {x : Int32} (hI : mI S g) (h : mZ (sV S 2 x) S') (hC : mC S' g.1) : mI S' g := by
  have hw : mW S S' := (mW.sV rfl).tr h.1.W
  exact ⟨hC, mU_F (h.1.1 0 79 (Or.inr rfl)) (h.1.2.2.2.1 39 rfl rfl) hI.2.1, mIm_F (h.1.1 0 81 (Or.inr rfl)) (h.1.2.2.2.1 40 rfl rfl) (h.1.1 0 83 (Or.inr rfl)) (h.1.1 0 84 (Or.inr rfl)) (congrFun (congrFun h.2 0) 85) hI.2.2.1, mRs_W hw hI.2.2.2⟩
/-- one more to undo -/
def pushU (U : tU) (s : tES) : tU := if U.1 = 20 then (20, fun k => if k = 19 then rwS s else U.2 (k + 1)) else (U.1 + 1, fun k => if k = U.1 then rwS s else U.2 k)
def fUn : Nat → Bool := fun k => Nat.beq k 79
theorem rowOk_sh {f g : Nat → Int32} {i j : Nat} {R : tR} (h : ∀ d, d < 19 → g (j + d) = f (i + d)) (hR : rowOk f i R) : rowOk g j R := by
  refine ⟨fun p hp => (h p (by omega)).trans (hR.1 p hp), fun q hq => ?_⟩
  obtain ⟨r1, r2, r3⟩ := hR.2 q hq
  have e1 := h (9 + q) (by omega)
  have e2 := h (14 + q) (by omega)
  rw [← Nat.add_assoc, ← Nat.add_assoc] at e1 e2
  exact ⟨e1.trans r1, r2, e2.trans r3⟩
set_option maxRecDepth 100000 in
set_option maxHeartbeats 4000000 in
theorem c_remember (G : ab_G) (fr : Bool) (S : ms_S) (tl : ab_H) (P : tPL) (s : tES) (U : tU) (hs : mES S 0 s) (hU : mU S P U) (hho : hoF P s.1) :
    ab_CT G 2 M_X12_remember fr [.ref 0] (hM S tl) 0 0 (fun r h' => ∃ S', h' = hM S' tl ∧ mE fUn (aO 39) S S' ∧ mU S' P (pushU U s) ∧ r = none) := by
  refine wp_ct o_X12_remember (Nat.le_of_ble_eq_true rfl) ?_
  generalize hpost : (fun (r : Option Value) (h' : ab_H) => ∃ S', h' = hM S' tl ∧ mE fUn (aO 39) S S' ∧ mU S' P (pushU U s) ∧ r = none) = post
  generalize (hM S tl).length = n0
  obtain ⟨u1, u2', u3⟩ := id hU
  have K49 : ∀ (X : ms_S) (n : Nat) (V : Nat → tR) (i1 : Option Value), mE fUn (aO 39) S X → n < 20 → m_undos X = nI n → (∀ k, k < n → rowOk (a_undo X) (19 * k) (V k) ∧ hoF P (V k).1) → pushU U s = (n + 1, fun k => if k = n then rwS s else V k) → wp G 2 M_X12_remember fr n0 post 49 [some (.ref 0), i1] [] (hM X tl) := by
    intro X n V i1 x1 x2 x3 x4 hp
    have hsX : mES X 0 s := ⟨fun p hp => (congrFun (x1.2.2.2.1 26 rfl) _).trans (hs.1 p hp), fun q hq => ⟨(congrFun (x1.2.2.2.1 27 rfl) _).trans (hs.2.1 q hq).1, (hs.2.1 q hq).2⟩, fun q hq => (congrFun (x1.2.2.2.1 28 rfl) _).trans (hs.2.2.1 q hq), (congrFun (x1.2.2.2.1 29 rfl) _).trans hs.2.2.2.1, (congrFun (x1.2.2.2.1 30 rfl) _).trans hs.2.2.2.2.1, hs.2.2.2.2.2⟩
    have ct := c_put39 G fr X tl s (19 * n) hsX (by omega)
    rw [show nI (19 * n) = nI 19 * X.1 0 79 by rw [show X.1 0 79 = nI n from x3, pk_mul]] at ct
    repeat refine ws_s rfl ?_
    refine wp_cV rfl rfl o_X12_put v_X12_put (ct) rfl rfl rfl (Nat.le_of_ble_eq_true rfl) (by decide) ?_
    rintro r h' ⟨Y, rfl, y1, y2, y3, rfl⟩
    repeat refine ws_s rfl ?_
    refine wp_rv rfl rfl ?_
    rw [← hpost, hp]
    have e79 : Y.1 0 79 = nI n := (y1.1 0 79 (Or.inr rfl)).trans x3
    refine ⟨sV Y 79 (Y.1 0 79 + nI 1), rfl, (x1.tr (y1.mono (fun _ _ => rfl) (fun _ q => q))).tr (mE.sV rfl), ⟨by show n + 1 ≤ 20; omega, ?_, fun k hk => ?_⟩, rfl⟩
    · show Y.1 0 79 + nI 1 = _
      rw [e79, nI_add]
    · dsimp only at hk ⊢
      by_cases z : k = n
      · subst z
        rw [if_pos rfl]
        exact ⟨y2, hho⟩
      · rw [if_neg z]
        refine ⟨rowOk_sh (fun d hd => ?_) (x4 k (by omega)).1, (x4 k (by omega)).2⟩
        exact y3 (19 * k + d) (by omega)
  repeat refine ws_s rfl ?_
  refine wp_eq (x := U.1) (y := 20) u2' rfl (by omega) (by decide) (fun hq => ?_) (fun hq => ?_)
  · iterate 2 refine ws_s rfl ?_
    refine wp_downX (X := ms_S) 361 (fun i X => mE fUn (aO 39) S X ∧ m_undos X = nI 20 ∧ (∀ j, j < i → X.2.2.2.1 39 j = S.2.2.2.1 39 (j + 19)) ∧ (∀ j, i ≤ j → X.2.2.2.1 39 j = S.2.2.2.1 39 j)) (fun i X => [some (.ref 0), some (.int (nI i))]) (fun X => hM X tl) ?_ ?_ S ⟨mE.rf, by rw [u2', hq], fun j hj => by omega, fun _ _ => rfl⟩
    · rintro X ⟨x1, x2, x3, x4⟩
      iterate 9 refine ws_s rfl ?_
      refine K49 _ 19 (fun k => U.2 (k + 1)) _ (x1.tr (mE.sV rfl)) (by decide) ?_ (fun k hk => ?_) ?_
      · show X.1 0 79 - nI 1 = nI 19
        rw [show X.1 0 79 = nI 20 from x2]
        rfl
      · obtain ⟨r1, r2⟩ := u3 (k + 1) (by omega)
        refine ⟨rowOk_sh (fun d hd => ?_) r1, r2⟩
        show X.2.2.2.1 39 (19 * k + d) = S.2.2.2.1 39 (19 * (k + 1) + d)
        rw [x3 _ (by omega)]
        exact congrArg _ (by omega)
      · unfold pushU
        rw [if_pos hq]
    · rintro i X hi ⟨x1, x2, x3, x4⟩ kn
      repeat refine ws_s rfl ?_
      refine wp_le (x := 361) (rfl) (rfl) (by first | omega | decide) (by first | omega | decide) (fun z => absurd z (by omega)) (fun z => ?_)
      repeat refine ws_s rfl ?_
      refine ws_ld (k := i + 19) rfl (by first | rfl | (simp only [pk_mul, nI_add]; done)) (by omega) (by decide) (x4 (i + 19) (by omega)) ?_
      refine ws_sa (k := i) rfl (by first | rfl | (simp only [pk_mul, nI_add]; done)) (by omega) (by decide) (rfl) ?_
      repeat refine ws_s rfl ?_
      refine ws_b rfl ?_
      refine wp_eqL (by rw [← nI_add i 1]; rfl) (kn _ ⟨x1.tr (mE.sA rfl), x2, fun j hj => ?_, fun j hj => ?_⟩)
      · show upd (X.2.2.2.1 39) i _ j = _
        unfold upd
        by_cases z1 : j = i
        · rw [if_pos z1, z1]
        · rw [if_neg z1]
          exact x3 j (by omega)
      · show upd (X.2.2.2.1 39) i _ j = _
        unfold upd
        rw [if_neg (by omega)]
        exact x4 j (by omega)
  · exact K49 S U.1 U.2 _ mE.rf (by omega) u2' u3 (by unfold pushU; rw [if_neg hq])
