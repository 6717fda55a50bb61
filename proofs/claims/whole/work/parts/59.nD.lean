/-! ===== the reference: the start of a text, how many a row needs, counts, names, the tape ===== -/
theorem upd_at {f : Nat → Int32} {i : Nat} {x : Int32} : upd f i x i = x := if_pos rfl
theorem upd_no {f : Nat → Int32} {i j : Nat} {x : Int32} (h : ¬ j = i) : upd f i x j = f j := if_neg h
abbrev s0K (f : Nat → Int32) : tES := (f, fun _ => 0, fun _ => 0, 0, 0)
theorem c_atFirst (G : ab_G) (fr : Bool) (S : ms_S) (tl : ab_H) (bb : Nat) (f : Nat → Int32) (hbb : bb < 2) (hf : ∀ p, p < 9 → a_pieceOf S p = f p) :
    ctU G 1 M_X12_atFirst fr [.ref 0, .int (nI bb)] lM S tl (fun S' => mB fN fN bb S S' ∧ S'.2.1 = S.2.1 ∧ mES S' bb (s0K f)) := by
  refine ctU.ab (fun K hK => m_X12_atFirst (fun n0 => ?_))
  have KB : ∀ d i (X : ms_S), i + d = 5 → mB fN fN bb S X → X.2.1 = S.2.1 → (∀ p, p < 9 → a_holder X (9 * bb + p) = f p) → (∀ q, q < i → a_gold X (5 * bb + q) = nI 0 ∧ a_laid X (5 * bb + q) = nI 0) → L_X12_atFirst_33 G fr n0 tl K X (nI bb) (nI i) := by
    intro d
    induction d with
    | zero =>
      intro i X hi x1 x2 x3 x4
      refine b_X12_atFirst_33 ?_
      simp (disch := omega) only [x_vp, x_lt0, x_0le, x_eq0, x_0lt, x_le0, x_b0, x_b1, nI_leI, nI_ltI, nI_eq, nI_add, pk_mul, nI_clamp, true_and, and_true, true_implies, false_implies, implies_true, not_true_eq_false, not_false_eq_true]
      refine ⟨fun _ => ⟨hbb, hbb, hK _ ⟨(x1.tr mB.re).tr mB.da, x2, x3, fun h hh => ⟨(x4 h (by omega)).1, Nat.zero_le _⟩, fun h hh => (x4 h (by omega)).2, ?_, ?_, show 0 < 2 ^ 20 by decide⟩⟩, fun q => absurd q (by omega)⟩
      · show upd (X.2.2.2.1 29) bb (nI 0) bb = _
        exact if_pos rfl
      · show upd (X.2.2.2.1 30) bb (nI 0) bb = _
        exact if_pos rfl
    | succ d ih =>
      intro i X hi x1 x2 x3 x4
      refine b_X12_atFirst_33 ?_
      simp (disch := omega) only [x_vp, x_lt0, x_0le, x_eq0, x_0lt, x_le0, x_b0, x_b1, nI_leI, nI_ltI, nI_eq, nI_add, pk_mul, nI_clamp, true_and, and_true, true_implies, false_implies, implies_true, not_true_eq_false, not_false_eq_true]
      refine ⟨fun q => absurd q (by omega), fun _ => ⟨by omega, by omega, ih (i + 1) _ (by omega) ((x1.tr (mB.go (by omega))).tr (mB.la (by omega))) x2 x3 (fun q hq => ?_)⟩⟩
      show upd (X.2.2.2.1 27) (5 * bb + i) (nI 0) (5 * bb + q) = _ ∧ upd (X.2.2.2.1 28) (5 * bb + i) (nI 0) (5 * bb + q) = _
      by_cases z : q = i
      · subst z
        exact ⟨upd_at, upd_at⟩
      · rw [upd_no (by omega), upd_no (by omega)]
        exact x4 q (by omega)
  have KA : ∀ d i (X : ms_S), i + d = 9 → mB fN fN bb S X → X.2.1 = S.2.1 → (∀ p, p < i → a_holder X (9 * bb + p) = f p) → L_X12_atFirst_2 G fr n0 tl K X (nI bb) (nI i) := by
    intro d
    induction d with
    | zero =>
      intro i X hi x1 x2 x3
      refine b_X12_atFirst_2 ?_
      simp (disch := omega) only [x_vp, x_lt0, x_0le, x_eq0, x_0lt, x_le0, x_b0, x_b1, nI_leI, nI_ltI, nI_eq, nI_add, pk_mul, nI_clamp, true_and, and_true, true_implies, false_implies, implies_true, not_true_eq_false, not_false_eq_true]
      exact ⟨fun _ => KB 5 0 X rfl x1 x2 (fun p hp => x3 p (by omega)) (fun q hq => by omega), fun q => absurd q (by omega)⟩
    | succ d ih =>
      intro i X hi x1 x2 x3
      have e9 : X.2.2.2.1 9 i = f i := (congrFun (x1.2.2.2.1 9 rfl rfl) i).trans (hf i (by omega))
      refine b_X12_atFirst_2 ?_
      simp (disch := omega) only [x_vp, x_lt0, x_0le, x_eq0, x_0lt, x_le0, x_b0, x_b1, nI_leI, nI_ltI, nI_eq, nI_add, pk_mul, nI_clamp, true_and, and_true, true_implies, false_implies, implies_true, not_true_eq_false, not_false_eq_true, e9]
      refine ⟨fun q => absurd q (by omega), fun _ => ⟨by omega, by omega, ih (i + 1) _ (by omega) (x1.tr (mB.ho rfl (by omega))) x2 (fun q hq => ?_)⟩⟩
      show upd (X.2.2.2.1 26) (9 * bb + i) (f i) (9 * bb + q) = _
      by_cases z : q = i
      · subst z
        exact upd_at
      · rw [upd_no (by omega)]
        exact x3 q (by omega)
  exact KA 9 0 S rfl mB.rf rfl (fun p hp => by omega)
/-! how many a row needs -/
abbrev fiS (g : tSG) (m k : Nat) : tES := (gmS g.1.1 g.1.2.1 (opP m) (s0K g.2.2.2.2.1.2.2.2.1, g.1.2.2.2.2) k).1
def fiA (g : tSG) (m : Nat) : Nat → Bool
  | 0 => true
  | k + 1 => fiA g m k && soA g.2.2.2.1 (fiS g m (k + 1)).2.1 (k + 1) (kbN g.2.2.2.1)
theorem fiA_f {g : tSG} {m k : Nat} (h : fiA g m k = false) : ∀ d, fiA g m (k + d) = false
  | 0 => h
  | d + 1 => by
    show (fiA g m (k + d) && _) = false
    rw [fiA_f h d]
    rfl
theorem c_fits (G : ab_G) (fr : Bool) (S : ms_S) (tl : ab_H) (g : tSG) (m : Nat) (h : qE g S) (hC : mCt S g.2.2.2.1) (hm : m ≤ 9) :
    ctI G 8 M_X12_fits fr [.ref 0, .int (nI m)] lM S tl (fun v S' => qE g S' ∧ mCt S' g.2.2.2.1 ∧ v = bI (fiA g m 60)) := by
  refine ctI.ab (fun K hK => m_X12_fits (fun n0 => ?_))
  obtain ⟨⟨hC0, hU0, hM0, hR0⟩, ht0⟩ := id h
  have hP := hC0.1
  have hT := hC0.2.1
  have ht1 : ∀ t, t < g.1.2.1.1 → g.1.2.1.2.1 t < g.1.1.1 ∧ g.1.2.1.2.2.1 t < g.1.1.1 := fun t ht => ⟨(hT.2.2.2.2.1 t ht).2.1, (hT.2.2.2.2.1 t ht).2.2.2.1⟩
  have ht2 : ∀ t, t < g.1.2.1.2.2.2.2.1 → g.1.2.1.2.2.2.2.2.1 t < g.1.1.2.1 := fun t ht => (hT.2.2.2.2.2 t ht).2.1
  have hho : hoOk g.1.1 (s0K g.2.2.2.2.1.2.2.2.1) := hR0.2.1.2.2.2.2.2.1
  have hdn := hC0.2.2.2.2.2.2.2.2.1
  refine ctU.mo (c_atFirst G fr S tl 1 g.2.2.2.2.1.2.2.2.1 (by decide) hR0.2.1.2.2.2.2.1) (fun S1 ⟨x1, x2, x3⟩ => ctU.eq (c_plainTried G fr S1 tl) ?_)
  have z1 : mZ S S1 := ⟨x1.mono (fun _ _ => rfl) (fun _ _ => rfl), x2⟩
  have z2 : mZ S (sV (ptS S1) 63 (nI m)) := (z1.tr (ptS_Z S1)).tr (mZ.sV rfl)
  have w1 : mRW S1 g.1.1 := mRW_F2 (x1.1 0 68 (Or.inr rfl)) (x1.2.2.2.1 32 rfl rfl) (x1.2.2.2.1 33 rfl rfl) hC0.2.2.2.2.2.2.2.2.2
  have q2 : qE g (sV (ptS S1) 63 (nI m)) := qE_Z (S := S) h z2 (mRW_F2 (S := S1) rfl rfl rfl w1)
  have o2 : mOP (sV (ptS S1) 63 (nI m)) (opP m) := ⟨rfl, rfl, rfl, rfl, rfl, rfl, hm⟩
  have s2 : mES (sV (ptS S1) 63 (nI m)) 1 (fiS g m 0) := x3
  have t2 : mCt (sV (ptS S1) 63 (nI m)) g.2.2.2.1 := fun k hk => (congrFun (x1.2.2.2.1 38 rfl rfl) k).trans (hC k hk)
  have KL : ∀ d i (X : ms_S), i + d = 60 → fiA g m i = true → qE g X → mCt X g.2.2.2.1 → mOP X (opP m) → mES X 1 (fiS g m i) → L_X12_fits_16 G fr n0 tl K X (nI (i + 1)) := by
    intro d
    induction d with
    | zero =>
      intro i X hi hy x1 x2 x3 x4
      have : i = 60 := by omega
      subst this
      refine b_X12_fits_16 ?_
      refine ⟨fun _ => hK _ _ ⟨x1, x2, by rw [hy]; rfl⟩, fun q => absurd (by decide) q⟩
    | succ d ih =>
      intro i X hi hy x1 x2 x3 x4
      obtain ⟨⟨dC0, dU0, dM0, dR0⟩, dt0⟩ := id x1
      have edn := gm_dn g.1.1 g.1.2.1 (opP m) (s0K g.2.2.2.2.1.2.2.2.1, g.1.2.2.2.2) rfl
      have hday := gm_day g.1.1 g.1.2.1 (opP m) (s0K g.2.2.2.2.1.2.2.2.1, g.1.2.2.2.2) i
      have hd : m_drawn X = lN (gmS g.1.1 g.1.2.1 (opP m) (s0K g.2.2.2.2.1.2.2.2.1, g.1.2.2.2.2) i).2 := by
        rw [edn i]
        exact dC0.2.2.2.2.2.2.2.1
      refine b_X12_fits_16 ?_
      simp (disch := omega) only [x_vp, x_lt0, x_0le, x_eq0, x_0lt, x_le0, x_b0, x_b1, nI_leI, nI_ltI, nI_eq, nI_add, pk_mul, nI_clamp, true_and, and_true, true_implies, false_implies, implies_true, not_true_eq_false, not_false_eq_true]
      refine ⟨fun q => absurd q (by omega), fun _ => ?_⟩
      refine Met_mono (c_dayGoes G fr X tl g.1.1 g.1.2.1 (opP m) (fiS g m i) 1 (gmS g.1.1 g.1.2.1 (opP m) (s0K g.2.2.2.2.1.2.2.2.1, g.1.2.2.2.2) i).2 dC0.1 dC0.2.1 x3 x4 (gm_ho ht1 ht2 hho i) dC0.2.2.2.2.2.2.2.2.2 (by decide) (by rw [edn i]; exact hdn) hd (by rw [hday]; show 0 + i + 1 < _; omega)) ?_
      rintro r h' ⟨S1, rfl, y1, y2, y3, y4, y5, rfl⟩
      refine ⟨S1, rfl, rfl, ?_⟩
      have y2 : mES S1 1 (fiS g m (i + 1)) := y2
      have zz : mZ X S1 := mZ_of y1.BZ (y3.trans (Eq.trans (congrArg lN (edn (i + 1))) dC0.2.2.2.2.2.2.2.1.symm))
      have q1 := qE_Z (S := X) x1 zz y5
      have c1 : mCt S1 g.2.2.2.1 := fun k hk => (congrFun (y1.2.2.2.1 38 rfl rfl) k).trans (x2 k hk)
      refine ctI.e1 (c_isSo G fr S1 tl g.1.1 g.2.2.2.1 (fiS g m (i + 1)) (i + 1) hP.2.1 q1.1.2.2.2.1 c1 y2 (by omega)) ?_
      have eS : fiA g m (i + 1) = soA g.2.2.2.1 (fiS g m (i + 1)).2.1 (i + 1) (kbN g.2.2.2.1) := by
        show (fiA g m i && _) = _
        rw [hy]
        rfl
      rw [← eS]
      simp (disch := omega) only [x_vp, x_lt0, x_0le, x_eq0, x_0lt, x_le0, x_b0, x_b1, nI_leI, nI_ltI, nI_eq, nI_add, pk_mul, nI_clamp, true_and, and_true, true_implies, false_implies, implies_true, not_true_eq_false, not_false_eq_true]
      refine ⟨fun hb => hK _ _ ⟨q1, c1, ?_⟩, fun hb => ?_⟩
      · have h9 := fiA_f hb d
        rw [show i + 1 + d = 60 by omega] at h9
        rw [h9]
        rfl
      · exact ih (i + 1) S1 (by omega) (by simpa using hb) q1 c1 (mOP_mB y1 x3) y2
  exact KL 60 0 _ rfl rfl q2 t2 o2 s2
def A_needs (g : tSG) : Int32 := nI (bitsN (fun k => fiA g (k + 1) 60) 9)
theorem c_needs (G : ab_G) (fr : Bool) (S : ms_S) (tl : ab_H) (g : tSG) (hI : mI S g) :
    ctI G 9 M_X12_needs fr [.ref 0] lM S tl (fun v S' => qE g S' ∧ v = A_needs g) := by
  refine ctI.ab (fun K hK => m_X12_needs (fun n0 => ?_))
  refine q_counts G fr _ tl g (qE_0 hI) _ (fun S1 q1 _ _ c1 => ?_)
  have KL : ∀ d i (X : ms_S), i + d = 9 → qE g X → mCt X g.2.2.2.1 → L_X12_needs_13 G fr n0 tl K X (nI (bitsN (fun k => fiA g (k + 1) 60) i)) (nI (i + 1)) := by
    intro d
    induction d with
    | zero =>
      intro i X hi x1 x2
      have : i = 9 := by omega
      subst this
      refine b_X12_needs_13 ?_
      refine ⟨fun _ => ctU.eq (c_plainTried G fr X tl) (hK _ _ ⟨qE_pt x1, rfl⟩), fun q => absurd (by decide) q⟩
    | succ d ih =>
      intro i X hi x1 x2
      refine b_X12_needs_13 ?_
      simp (disch := omega) only [x_vp, x_lt0, x_0le, x_eq0, x_0lt, x_le0, x_b0, x_b1, nI_leI, nI_ltI, nI_eq, nI_add, pk_mul, nI_clamp, true_and, and_true, true_implies, false_implies, implies_true, not_true_eq_false, not_false_eq_true]
      refine ⟨fun q => absurd q (by omega), fun _ => ?_⟩
      refine ctI.mo (c_fits G fr X tl g (i + 1) x1 x2 (by omega)) ?_
      rintro v S2 ⟨y1, y2, rfl⟩
      have h9 := ih (i + 1) S2 (by omega) y1 y2
      unfold bitsN at h9
      simp (disch := omega) only [x_vp, x_lt0, x_0le, x_eq0, x_0lt, x_le0, x_b0, x_b1, nI_leI, nI_ltI, nI_eq, nI_add, pk_mul, nI_clamp, true_and, and_true, true_implies, false_implies, implies_true, not_true_eq_false, not_false_eq_true]
      rw [nu_or]
      refine ⟨fun hb => ?_, fun hb => ?_⟩
      · rw [if_neg (by rw [hb]; decide)] at h9
        exact h9
      · rw [if_pos (by simpa using hb)] at h9
        rw [show nI (i + 1) - nI 1 = nI i from pk_sub (by omega), nu_set (by omega)]
        exact h9
  exact KL 9 0 S1 rfl q1 c1
/-! counts -/
def A_count (g : tSG) (w : Int32) : Int32 :=
  if w = nI 0 then nI g.1.1.1 else if w = nI 1 then nI g.1.1.2.1 else if w = nI 2 then nI g.2.2.2.2.1.2.2.2.2 else if w = nI 3 then nI g.1.2.2.2.1.2.2.2.2 else if w = nI 4 then nI (pop (bxN g.1.1 g.1.2.2.2.1) 9) else if w = nI 5 then nI (pop (heldN g.1.2.2.2.1.1 (-(nI 3)) g.1.1.1) 9) else if w = nI 6 then nI (gAll g.1.1 g.1.2.2.2.1) else if w = nI 7 then nI (lAll g.1.1 g.1.2.2.2.1) else if w = nI 8 then nI g.1.2.2.2.1.2.2.2.1 else if w = nI 9 then nI g.2.2.2.1.1 else if w = nI 10 then nI (kbN g.2.2.2.1) else if w = nI 11 then nI g.2.1.1 else -(nI 1)
theorem c_count (G : ab_G) (fr : Bool) (S : ms_S) (tl : ab_H) (g : tSG) (hI : mI S g) (w : Int32) :
    ctI G 2 M_X12_count fr [.ref 0, .int w] lM S tl (fun v S' => qE g S' ∧ v = A_count g w) := by
  refine ctI.ab (fun K hK => m_X12_count (fun n0 => ?_))
  have q0 := qE_0 hI
  obtain ⟨⟨c1, c2, c3, c4, c5, c6, c7, c8, c9, c10⟩, i2, i3, i4⟩ := id q0.1
  obtain ⟨p1, p2, p3, p4, p5, p6⟩ := id c1
  obtain ⟨e1, e2, e3, e4, e5, e6⟩ := id c5
  have f1 : S.1 0 12 = nI g.1.1.1 := p3
  have f2 : S.1 0 13 = nI g.1.1.2.1 := p4
  have f3 : S.1 0 16 = nI g.2.2.2.2.1.2.2.2.2 := i4.2.1.2.2.2.2.2.2
  have f4 : S.2.2.2.1 30 (nI 0).toNatClampNeg = nI g.1.2.2.2.1.2.2.2.2 := e5
  have f5 : S.2.2.2.1 29 (nI 0).toNatClampNeg = nI g.1.2.2.2.1.2.2.2.1 := e4
  have f6 : S.1 0 75 = nI g.2.2.2.1.1 := i4.1.2.1
  have f7 : S.1 0 79 = nI g.2.1.1 := i2.2.1
  have hl : ∀ f x n, n ≤ 9 → heldN f x n < 2 ^ 31 := fun f x n hn => Nat.lt_of_lt_of_le (held9 hn) (by decide)
  refine ⟨fun e => hK _ _ ⟨q0, ?_⟩, fun e => hK _ _ ⟨q0, ?_⟩, fun e => hK _ _ ⟨q0, ?_⟩, fun e => ⟨(x_vp (by decide)).mpr (by decide), hK _ _ ⟨q0, ?_⟩⟩, fun e => ctI.eq (c_heldE G fr _ tl g.1.1 g.1.2.2.2.1 0 _ (by decide) c1 c5) (ctI.eq (c_manyOf G fr _ _ (hl _ _ _ p1)) (hK _ _ ⟨q0, ?_⟩)), fun e => ctI.eq (c_heldE G fr _ tl g.1.1 g.1.2.2.2.1 0 _ (by decide) c1 c5) (ctI.eq (c_manyOf G fr _ _ (hl _ _ _ p1)) (hK _ _ ⟨q0, ?_⟩)), fun e => ctI.eq (c_goldAll G fr _ tl 0 g.1.1.2.1 g.1.2.2.2.1.2.1 (by decide) p2 p4 (fun j hj => (e2 j hj).1)) (hK _ _ ⟨q0, ?_⟩), fun e => ctI.eq (c_laidAll G fr _ tl 0 g.1.1.2.1 g.1.2.2.2.1.2.2.1 (by decide) p2 p4 (fun j hj => e3 j hj)) (hK _ _ ⟨q0, ?_⟩), fun e => ⟨(x_vp (by decide)).mpr (by decide), hK _ _ ⟨q0, ?_⟩⟩, fun e => hK _ _ ⟨q0, ?_⟩, fun e => ctI.eq (c_knownBy G fr _ tl g.1.1 g.2.2.2.1 i4.1) (hK _ _ ⟨q0, ?_⟩), fun e => hK _ _ ⟨q0, ?_⟩, fun n0 n1 n2 n3 n4 n5 n6 n7 n8 n9 n10 n11 => hK _ _ ⟨q0, ?_⟩⟩
  · subst e; exact f1
  · subst e; exact f2
  · subst e; exact f3
  · subst e; exact f4
  · subst e; rfl
  · subst e; rfl
  · subst e; rfl
  · subst e; rfl
  · subst e; exact f5
  · subst e; exact f6
  · subst e; rfl
  · subst e; exact f7
  · unfold A_count
    rw [if_neg n0, if_neg n1, if_neg n2, if_neg n3, if_neg n4, if_neg n5, if_neg n6, if_neg n7, if_neg n8, if_neg n9, if_neg n10, if_neg n11]
/-! faults and names -/
def A_fault (g : tSG) (w : Int32) : Int32 := if w = 0 then g.2.2.2.2.2.2.2.1 else if w = nI 1 then g.2.2.2.2.2.2.2.2 else -(nI 1)
theorem c_fault (G : ab_G) (fr : Bool) (S : ms_S) (tl : ab_H) (g : tSG) (hI : mI S g) (w : Int32) :
    ctI G 1 M_X12_fault fr [.ref 0, .int w] lM S tl (fun v S' => qE g S' ∧ v = A_fault g w) := by
  refine ctI.ab (fun K hK => m_X12_fault (fun n0 => ?_))
  have q0 := qE_0 hI
  obtain ⟨t1, t2, t3, t4, t5⟩ := hI.2.2.2.2.2.1
  unfold A_fault at hK
  refine ⟨fun e => hK _ _ ⟨q0, by rw [if_pos e]; exact t4⟩, fun e => ⟨fun e2 => hK _ _ ⟨q0, by rw [if_neg e, if_pos e2]; exact t5⟩, fun e2 => hK _ _ ⟨q0, by rw [if_neg e, if_neg e2]⟩⟩⟩
def fdK (f : Nat → Int32) (x : Int32) : Nat → Option Nat
  | 0 => none
  | k + 1 => match fdK f x k with
    | some j => some j
    | none => if f k = x then some k else none
def fdA (f : Nat → Int32) (x : Int32) (n : Nat) : Int32 := match fdK f x n with
  | some j => nI j
  | none => -(nI 1)
theorem fdK_m {f : Nat → Int32} {x : Int32} {k j : Nat} (h : fdK f x k = some j) : ∀ d, fdK f x (k + d) = some j
  | 0 => h
  | d + 1 => by
    show (match fdK f x (k + d) with | some j => some j | none => if f (k + d) = x then some (k + d) else none) = _
    rw [fdK_m h d]
theorem fdK_s {f : Nat → Int32} {x : Int32} {k : Nat} (h : fdK f x k = none) : fdK f x (k + 1) = if f k = x then some k else none := by
  show (match fdK f x k with | some j => some j | none => if f k = x then some k else none) = _
  rw [h]
theorem fdK_lt {f : Nat → Int32} {x : Int32} : ∀ {k j : Nat}, fdK f x k = some j → j < k ∧ f j = x
  | 0, j, h => by cases h
  | k + 1, j, h => by
    cases q : fdK f x k with
    | some i =>
      have h9 := fdK_m q 1
      rw [h9] at h
      cases h
      exact ⟨Nat.lt_succ_of_lt (fdK_lt q).1, (fdK_lt q).2⟩
    | none =>
      rw [fdK_s q] at h
      by_cases z : f k = x
      · rw [if_pos z] at h
        cases h
        exact ⟨Nat.lt_succ_self _, z⟩
      · rw [if_neg z] at h
        cases h
theorem c_findP (G : ab_G) (fr : Bool) (S : ms_S) (tl : ab_H) (fo n : Nat) (x : Int32) (f : Nat → Int32) (hf : ∀ k, k < n → a_pieceName S (fo + k) = f k) (hn : fo + n ≤ 18) :
    ctI G 1 M_X12_find fr [.ref 5, .int (nI fo), .int (nI n), .int x] lM S tl (fun v S' => v = fdA f x n ∧ S' = S) := by
  refine ctI.ab (fun K hK => m_X12_findP (fun n0 => ?_))
  have KL : ∀ d i, i + d = n → fdK f x i = none → L_X12_findP_3 G fr n0 tl K S (nI fo) (nI n) x (nI i) := by
    intro d
    induction d with
    | zero =>
      intro i hi hy
      refine b_X12_findP_3 ?_
      simp (disch := omega) only [x_vp, x_lt0, x_0le, x_eq0, x_0lt, x_le0, x_b0, x_b1, nI_leI, nI_ltI, nI_eq, nI_add, pk_mul, nI_clamp, true_and, and_true, true_implies, false_implies, implies_true, not_true_eq_false, not_false_eq_true]
      refine ⟨fun _ => hK _ _ ⟨?_, rfl⟩, fun q => absurd q (by omega)⟩
      unfold fdA
      rw [← show i = n by omega, hy]
    | succ d ih =>
      intro i hi hy
      refine b_X12_findP_3 ?_
      simp (disch := omega) only [x_vp, x_lt0, x_0le, x_eq0, x_0lt, x_le0, x_b0, x_b1, nI_leI, nI_ltI, nI_eq, nI_add, pk_mul, nI_clamp, true_and, and_true, true_implies, false_implies, implies_true, not_true_eq_false, not_false_eq_true, hf]
      refine ⟨fun q => absurd q (by omega), fun _ => ⟨by omega, fun q => hK _ _ ⟨?_, rfl⟩, fun q => ih (i + 1) (by omega) (by rw [fdK_s hy, if_neg q])⟩⟩
      have h9 := fdK_m (show fdK f x (i + 1) = some i by rw [fdK_s hy, if_pos q]) d
      rw [show i + 1 + d = n by omega] at h9
      unfold fdA
      rw [h9]
  exact KL n 0 (by omega) rfl
theorem c_findH (G : ab_G) (fr : Bool) (S : ms_S) (tl : ab_H) (fo n : Nat) (x : Int32) (f : Nat → Int32) (hf : ∀ k, k < n → a_heirName S (fo + k) = f k) (hn : fo + n ≤ 10) :
    ctI G 1 M_X12_find fr [.ref 10, .int (nI fo), .int (nI n), .int x] lM S tl (fun v S' => v = fdA f x n ∧ S' = S) := by
  refine ctI.ab (fun K hK => m_X12_findH (fun n0 => ?_))
  have KL : ∀ d i, i + d = n → fdK f x i = none → L_X12_findH_3 G fr n0 tl K S (nI fo) (nI n) x (nI i) := by
    intro d
    induction d with
    | zero =>
      intro i hi hy
      refine b_X12_findH_3 ?_
      simp (disch := omega) only [x_vp, x_lt0, x_0le, x_eq0, x_0lt, x_le0, x_b0, x_b1, nI_leI, nI_ltI, nI_eq, nI_add, pk_mul, nI_clamp, true_and, and_true, true_implies, false_implies, implies_true, not_true_eq_false, not_false_eq_true]
      refine ⟨fun _ => hK _ _ ⟨?_, rfl⟩, fun q => absurd q (by omega)⟩
      unfold fdA
      rw [← show i = n by omega, hy]
    | succ d ih =>
      intro i hi hy
      refine b_X12_findH_3 ?_
      simp (disch := omega) only [x_vp, x_lt0, x_0le, x_eq0, x_0lt, x_le0, x_b0, x_b1, nI_leI, nI_ltI, nI_eq, nI_add, pk_mul, nI_clamp, true_and, and_true, true_implies, false_implies, implies_true, not_true_eq_false, not_false_eq_true, hf]
      refine ⟨fun q => absurd q (by omega), fun _ => ⟨by omega, fun q => hK _ _ ⟨?_, rfl⟩, fun q => ih (i + 1) (by omega) (by rw [fdK_s hy, if_neg q])⟩⟩
      have h9 := fdK_m (show fdK f x (i + 1) = some i by rw [fdK_s hy, if_pos q]) d
      rw [show i + 1 + d = n by omega] at h9
      unfold fdA
      rw [h9]
  exact KL n 0 (by omega) rfl
def A_named (g : tSG) (w x : Int32) : Int32 := if w = 0 then fdA g.2.2.2.2.1.1 x g.1.1.1 else if w = nI 1 then fdA g.2.2.2.2.1.2.1 x g.1.1.2.1 else -(nI 1)
theorem c_named (G : ab_G) (fr : Bool) (S : ms_S) (tl : ab_H) (g : tSG) (hI : mI S g) (w x : Int32) :
    ctI G 2 M_X12_named fr [.ref 0, .int w, .int x] lM S tl (fun v S' => qE g S' ∧ v = A_named g w x) := by
  refine ctI.ab (fun K hK => m_X12_named (fun n0 => ?_))
  have q0 := qE_0 hI
  obtain ⟨p1, p2, p3, p4, p5, p6⟩ := hI.1.1
  obtain ⟨x1, x2, x3, x4, x5, x6, x7⟩ := hI.2.2.2.2.1
  unfold A_named at hK
  have f1 : S.1 0 12 = nI g.1.1.1 := p3
  have f2 : S.1 0 13 = nI g.1.1.2.1 := p4
  rw [f1, f2]
  refine ⟨fun e => ctI.e1 (c_findP G fr _ tl 0 g.1.1.1 x g.2.2.2.2.1.1 (fun k hk => by rw [Nat.zero_add]; exact x1 k hk) (by omega)) (hK _ _ ⟨q0, by rw [if_pos e]⟩), fun e => ⟨fun e2 => ctI.e1 (c_findH G fr _ tl 0 g.1.1.2.1 x g.2.2.2.2.1.2.1 (fun k hk => by rw [Nat.zero_add]; exact x2 k hk) (by omega)) (hK _ _ ⟨q0, by rw [if_neg e, if_pos e2]⟩), fun e2 => hK _ _ ⟨q0, by rw [if_neg e, if_neg e2]⟩⟩⟩
