/-! ===== the reference: a board changes ===== -/
/-- the rows that hold the boards -/
def aQ : Nat → Bool := fun k => Nat.beq k 26 || Nat.beq k 27 || Nat.beq k 28 || Nat.beq k 29 || Nat.beq k 30
/-- but for scratch, the number drawn and board bb nothing has changed -/
def mB (F A : Nat → Bool) (bb : Nat) (S S' : ms_S) : Prop := (∀ a k, (a ≠ 0 ∨ F k = false) → S'.1 a k = S.1 a k) ∧ (∀ a k, (a ≠ 0 ∨ ¬ k = 57) → S'.2.1 a k = S.2.1 a k) ∧ S'.2.2.1 = S.2.2.1 ∧ (∀ a, A a = false → aQ a = false → S'.2.2.2.1 a = S.2.2.2.1 a) ∧ (∀ a, A a = false → S'.2.2.2.2 a = S.2.2.2.2 a) ∧ (∀ i, (i < 9 * bb ∨ 9 * bb + 9 ≤ i) → a_holder S' i = a_holder S i) ∧ (∀ i, (i < 5 * bb ∨ 5 * bb + 5 ≤ i) → a_gold S' i = a_gold S i ∧ a_laid S' i = a_laid S i) ∧ ∀ i, i ≠ bb → a_refused S' i = a_refused S i ∧ a_day S' i = a_day S i
theorem mE.B {F A : Nat → Bool} {bb : Nat} {S S' : ms_S} (h : mE F A S S') (hA : ∀ a, aQ a = true → A a = false) : mB F A bb S S' := by
  refine ⟨h.1, fun a k _ => by rw [h.2.1], h.2.2.1, fun a q _ => h.2.2.2.1 a q, h.2.2.2.2, fun i _ => congrFun (h.2.2.2.1 26 (hA 26 rfl)) i, fun i _ => ⟨congrFun (h.2.2.2.1 27 (hA 27 rfl)) i, congrFun (h.2.2.2.1 28 (hA 28 rfl)) i⟩, fun i _ => ⟨congrFun (h.2.2.2.1 29 (hA 29 rfl)) i, congrFun (h.2.2.2.1 30 (hA 30 rfl)) i⟩⟩
theorem mB.tr {F A : Nat → Bool} {bb : Nat} {S1 S2 S3 : ms_S} (h1 : mB F A bb S1 S2) (h2 : mB F A bb S2 S3) : mB F A bb S1 S3 :=
  ⟨fun a k q => (h2.1 a k q).trans (h1.1 a k q), fun a k q => (h2.2.1 a k q).trans (h1.2.1 a k q), h2.2.2.1.trans h1.2.2.1, fun a q r => (h2.2.2.2.1 a q r).trans (h1.2.2.2.1 a q r), fun a q => (h2.2.2.2.2.1 a q).trans (h1.2.2.2.2.1 a q), fun i q => (h2.2.2.2.2.2.1 i q).trans (h1.2.2.2.2.2.1 i q), fun i q => ⟨(h2.2.2.2.2.2.2.1 i q).1.trans (h1.2.2.2.2.2.2.1 i q).1, (h2.2.2.2.2.2.2.1 i q).2.trans (h1.2.2.2.2.2.2.1 i q).2⟩, fun i q => ⟨(h2.2.2.2.2.2.2.2 i q).1.trans (h1.2.2.2.2.2.2.2 i q).1, (h2.2.2.2.2.2.2.2 i q).2.trans (h1.2.2.2.2.2.2.2 i q).2⟩⟩
theorem mB.mono {F A F' A' : Nat → Bool} {bb : Nat} {S S' : ms_S} (h : mB F A bb S S') (hF : ∀ k, F' k = false → F k = false) (hA : ∀ a, A' a = false → A a = false) : mB F' A' bb S S' := ⟨fun a k q => h.1 a k (q.imp id (hF k)), h.2.1, h.2.2.1, fun a q r => h.2.2.2.1 a (hA a q) r, fun a q => h.2.2.2.2.1 a (hA a q), h.2.2.2.2.2⟩
theorem mB.rf {F A : Nat → Bool} {bb : Nat} {S : ms_S} : mB F A bb S S := ⟨fun _ _ _ => rfl, fun _ _ _ => rfl, rfl, fun _ _ _ => rfl, fun _ _ => rfl, fun _ _ => rfl, fun _ _ => ⟨rfl, rfl⟩, fun _ _ => ⟨rfl, rfl⟩⟩
theorem aLQ (a : Nat) (h : aQ a = true) : aL a = false := by
  unfold aQ at h
  unfold aL
  simp only [Bool.or_eq_true] at h
  rcases h with (((h | h) | h) | h) | h <;> (have := Nat.eq_of_beq_eq_true h; subst this; rfl)
theorem aRQ (a : Nat) (h : aQ a = true) : aR a = false := by
  unfold aQ at h
  unfold aR
  simp only [Bool.or_eq_true] at h
  rcases h with (((h | h) | h) | h) | h <;> (have := Nat.eq_of_beq_eq_true h; subst this; rfl)
/-- a holder's place changes -/
theorem mB.ho {F A : Nat → Bool} {bb i : Nat} {S : ms_S} {x : Int32} (hA : A 26 = false) (hi : 9 * bb ≤ i ∧ i < 9 * bb + 9) : mB F A bb S (sA S 26 i x) := by
  refine ⟨fun _ _ _ => rfl, fun _ _ _ => rfl, rfl, fun a q r => u1_ne (fun z => by rw [z] at r; cases r), fun _ _ => rfl, fun j hj => ?_, fun _ _ => ⟨rfl, rfl⟩, fun _ _ => ⟨rfl, rfl⟩⟩
  show upd (S.2.2.2.1 26) i x j = _
  exact pk_un (by omega)
theorem mB.go {F A : Nat → Bool} {bb i : Nat} {S : ms_S} {x : Int32} (hi : 5 * bb ≤ i ∧ i < 5 * bb + 5) : mB F A bb S (sA S 27 i x) := by
  refine ⟨fun _ _ _ => rfl, fun _ _ _ => rfl, rfl, fun a q r => u1_ne (fun z => by rw [z] at r; cases r), fun _ _ => rfl, fun _ _ => rfl, fun j hj => ⟨?_, rfl⟩, fun _ _ => ⟨rfl, rfl⟩⟩
  show upd (S.2.2.2.1 27) i x j = _
  exact pk_un (by omega)
theorem mB.la {F A : Nat → Bool} {bb i : Nat} {S : ms_S} {x : Int32} (hi : 5 * bb ≤ i ∧ i < 5 * bb + 5) : mB F A bb S (sA S 28 i x) := by
  refine ⟨fun _ _ _ => rfl, fun _ _ _ => rfl, rfl, fun a q r => u1_ne (fun z => by rw [z] at r; cases r), fun _ _ => rfl, fun _ _ => rfl, fun j hj => ⟨rfl, ?_⟩, fun _ _ => ⟨rfl, rfl⟩⟩
  show upd (S.2.2.2.1 28) i x j = _
  exact pk_un (by omega)
theorem mB.re {F A : Nat → Bool} {bb : Nat} {S : ms_S} {x : Int32} : mB F A bb S (sA S 29 bb x) := by
  refine ⟨fun _ _ _ => rfl, fun _ _ _ => rfl, rfl, fun a q r => u1_ne (fun z => by rw [z] at r; cases r), fun _ _ => rfl, fun _ _ => rfl, fun _ _ => ⟨rfl, rfl⟩, fun j hj => ⟨?_, rfl⟩⟩
  show upd (S.2.2.2.1 29) bb x j = _
  exact pk_un hj
theorem mB.da {F A : Nat → Bool} {bb : Nat} {S : ms_S} {x : Int32} : mB F A bb S (sA S 30 bb x) := by
  refine ⟨fun _ _ _ => rfl, fun _ _ _ => rfl, rfl, fun a q r => u1_ne (fun z => by rw [z] at r; cases r), fun _ _ => rfl, fun _ _ => rfl, fun _ _ => ⟨rfl, rfl⟩, fun j hj => ⟨rfl, ?_⟩⟩
  show upd (S.2.2.2.1 30) bb x j = _
  exact pk_un hj
theorem mB.dr {F A : Nat → Bool} {bb : Nat} {S : ms_S} {x : Int64} : mB F A bb S (sW S 57 x) := ⟨fun _ _ _ => rfl, fun a k q => u2_ne q, rfl, fun _ _ _ => rfl, fun _ _ => rfl, fun _ _ => rfl, fun _ _ => ⟨rfl, rfl⟩, fun _ _ => ⟨rfl, rfl⟩⟩
theorem mB.sV {F A : Nat → Bool} {bb k : Nat} {S : ms_S} {x : Int32} (hk : F k = true) : mB F A bb S (sV S k x) := ⟨fun a j q => u2_ne (by
  rcases q with q | q
  · exact Or.inl q
  · exact Or.inr (fun z => by rw [z, hk] at q; cases q)), fun _ _ _ => rfl, rfl, fun _ _ _ => rfl, fun _ _ => rfl, fun _ _ => rfl, fun _ _ => ⟨rfl, rfl⟩, fun _ _ => ⟨rfl, rfl⟩⟩
def fB : Nat → Bool := fun k => fR k || Nat.beq k 64
theorem fRB (k : Nat) (h : fB k = false) : fR k = false := by
  unfold fB at h
  simp only [Bool.or_eq_false_iff] at h
  exact h.1
theorem mPL_mB {bb : Nat} {S S' : ms_S} {P : tPL} (h : mB fB aR bb S S') (hP : mPL S P) : mPL S' P := by
  obtain ⟨p1, p2, p3, p4, p5, p6⟩ := hP
  have a6 := h.2.2.2.1 6 rfl rfl
  have a7 := h.2.2.2.1 7 rfl rfl
  have a8 := h.2.2.2.1 8 rfl rfl
  have a16 := h.2.2.2.1 16 rfl rfl
  have a17 := h.2.2.2.1 17 rfl rfl
  have a18 := h.2.2.2.1 18 rfl rfl
  have a19 := h.2.2.2.1 19 rfl rfl
  have a20 := h.2.2.2.1 20 rfl rfl
  have a21 := h.2.2.2.1 21 rfl rfl
  refine ⟨p1, p2, (h.1 0 12 (Or.inr rfl)).trans p3, (h.1 0 13 (Or.inr rfl)).trans p4, fun p hp => ?_, fun w hw => ⟨(congrFun a16 w).trans (p6 w hw).1, fun q => ?_⟩⟩
  · obtain ⟨o1, o2, o3, o4, o5, o6⟩ := p5 p hp
    exact ⟨(congrFun a6 p).trans o1, o2, (congrFun a7 p).trans o3, o4, (congrFun a8 p).trans o5, o6⟩
  · obtain ⟨f, l, kn, pj, oj, e1, e2, e3, e4, e5, e6⟩ := (p6 w hw).2 q
    refine ⟨f, l, kn, pj, oj, (congrFun a17 w).trans e1, (congrFun a18 w).trans e2, e3, e4, ⟨fun i q1 q2 => ?_, e5.2⟩, fun nm nm' q => ?_⟩
    · obtain ⟨o1, o2, o3, o4, o5⟩ := e5.1 i q1 q2
      exact ⟨(congrFun a19 i).trans o1, o2, fun q => ⟨(congrFun a20 i).trans (o3 q).1, (o3 q).2⟩, fun q => ⟨(congrFun a20 i).trans (o4 q).1, (o4 q).2⟩, fun q => ⟨(congrFun a21 i).trans (o5 q).1, (o5 q).2⟩⟩
    · rw [show a_part S' = a_part S from a20]
      exact e6 nm nm' q
theorem fLB (k : Nat) (h : fB k = false) : fL k = false := fLR k (fRB k h)
theorem mB.LB {bb : Nat} {S S' : ms_S} (h : mB fL aL bb S S') : mB fB aR bb S S' := h.mono fLB aLR
/-- the table of rows isn't touched by what touches boards and laws alone -/
theorem mRT_mB {bb : Nat} {S S' : ms_S} {P : tPL} {jb : Nat → Nat} (h : mB fL aL bb S S') (hT : mRT S P jb) : mRT S' P jb := fun set h1 f h2 => (congrFun (h.2.2.2.1 32 rfl rfl) _).trans (hT set h1 f h2)
theorem mRW_mB {bb : Nat} {S S' : ms_S} {P : tPL} (h : mB fL aL bb S S') (hW : mRW S P) : mRW S' P := by
  have f68 := h.1 0 68 (Or.inr rfl)
  rcases hW with w | ⟨w1, jw, w2, w3⟩
  · exact Or.inl (f68.trans w)
  · exact Or.inr ⟨f68.trans w1, jw, fun e he => ⟨(congrFun (h.2.2.2.1 33 rfl rfl) e).trans (w2 e he).1, (w2 e he).2⟩, mRT_mB h w3⟩
/-- who holds: a heir, or nobody -/
def hoOk (P : tPL) (s : tES) : Prop := ∀ p, p < P.1 → s.1 p = -(nI 2) ∨ s.1 p = -(nI 3) ∨ ∃ h, h < P.2.1 ∧ s.1 p = nI h
theorem hoOk_cases {P : tPL} {s : tES} (h : hoOk P s) {p : Nat} (hp : p < P.1) : s.1 p < 0 ∨ ∃ q, q < P.2.1 ∧ s.1 p = nI q := by
  rcases h p hp with z | z | z
  · exact Or.inl (by rw [z]; exact neg_neg (by decide) (by decide))
  · exact Or.inl (by rw [z]; exact neg_neg (by decide) (by decide))
  · exact Or.inr z
/-- the trade can be -/
def trK (P : tPL) (s : tES) (am : Bool) (p q : Nat) : Bool := decide (¬ s.1 p < 0) && (decide (¬ s.1 q < 0) && (decide (¬ s.1 p = s.1 q) && (mayK P s am (s.1 p).toNatClampNeg q && mayK P s am (s.1 q).toNatClampNeg p)))
/-- it is made -/
def trS (s : tES) (p q : Nat) : tES := (upd (upd s.1 p (s.1 q)) q (s.1 p), s.2)
set_option maxRecDepth 100000 in
set_option maxHeartbeats 4000000 in
theorem c_tradesOne (G : ab_G) (fr : Bool) (S : ms_S) (tl : ab_H) (P : tPL) (s : tES) (bb p9 q9 : Nat) (hP : mPL S P) (hs : mES S bb s) (hbb : bb < 2) (hp9 : p9 < P.1) (hq9 : q9 < P.1) (hho : hoOk P s) :
    ab_CT G 5 M_X12_tradesOne fr [.ref 0, .int (nI bb), .int (nI p9), .int (nI q9)] (hM S tl) 0 0 (fun r h' => ∃ S', h' = hM S' tl ∧ mB fL aL bb S S' ∧ mES S' bb (if trK P s (decide (¬ m_allMay S = 0)) p9 q9 = true then trS s p9 q9 else s) ∧ S'.2.1 = S.2.1 ∧ r = some (.int (bI (trK P s (decide (¬ m_allMay S = 0)) p9 q9)))) := by
  refine wp_ct o_X12_tradesOne (Nat.le_of_ble_eq_true rfl) ?_
  generalize ham : decide (¬ m_allMay S = 0) = am
  generalize hpost : (fun (r : Option Value) (h' : ab_H) => ∃ S', h' = hM S' tl ∧ mB fL aL bb S S' ∧ mES S' bb (if trK P s am p9 q9 = true then trS s p9 q9 else s) ∧ S'.2.1 = S.2.1 ∧ r = some (.int (bI (trK P s am p9 q9)))) = post
  generalize (hM S tl).length = n0
  obtain ⟨q1, q2, q3, q4, q5, q6⟩ := id hP
  have e1 : nI 9 * nI bb + nI p9 = nI (9 * bb + p9) := by rw [pk_mul, nI_add]
  have e2 : nI 9 * nI bb + nI q9 = nI (9 * bb + q9) := by rw [pk_mul, nI_add]
  have c1 : (nI (9 * bb + p9)).toNatClampNeg = 9 * bb + p9 := nI_clamp (by omega)
  have c2 : (nI (9 * bb + q9)).toNatClampNeg = 9 * bb + q9 := nI_clamp (by omega)
  have g1 : vp_in (nI (9 * bb + p9)) 18 := vp_in_nI (by omega) (by decide)
  have g2 : vp_in (nI (9 * bb + q9)) 18 := vp_in_nI (by omega) (by decide)
  have E1 : S.2.2.2.1 26 (9 * bb + p9) = s.1 p9 := hs.1 p9 (by omega)
  have E2 : S.2.2.2.1 26 (9 * bb + q9) = s.1 q9 := hs.1 q9 (by omega)
  -- it is refused
  have K65 : ∀ (S1 : ms_S), trK P s am p9 q9 = false → mE fL aL S S1 → wp G 5 M_X12_tradesOne fr n0 post 65 [some (.ref 0), some (.int (nI bb)), some (.int (nI p9)), some (.int (nI q9)), some (.int (s.1 p9)), some (.int (s.1 q9))] [] (hM S1 tl) := by
    intro S1 hb hm
    repeat refine ws_s rfl ?_
    refine wp_ri rfl rfl rfl ?_
    rw [← hpost, hb]
    exact ⟨S1, rfl, hm.B aLQ, mES_mE hm.LR hs, hm.2.1, rfl⟩
  repeat refine ws_s rfl ?_
  refine ws_g rfl (by show vp_in (nI 9 * nI bb + nI p9) 18; rw [e1]; exact g1) ?_
  rw [e1, c1, E1]
  repeat refine ws_s rfl ?_
  refine ws_g rfl (by show vp_in (nI 9 * nI bb + nI q9) 18; rw [e2]; exact g2) ?_
  rw [e2, c2, E2]
  repeat refine ws_s rfl ?_
  refine wp_ite (fun hx => K65 S (by unfold trK; rw [decide_eq_false (fun z => z hx)]; rfl) mE.rf) (fun hx => ?_)
  repeat refine ws_s rfl ?_
  refine wp_ite (fun hy => K65 S (by unfold trK; rw [decide_eq_false (p := ¬ s.1 q9 < 0) (fun z => z hy), Bool.false_and, Bool.and_false]) mE.rf) (fun hy => ?_)
  repeat refine ws_s rfl ?_
  refine wp_ite (fun hxy => K65 S (by unfold trK; rw [decide_eq_false (p := ¬ s.1 p9 = s.1 q9) (fun z => z hxy), Bool.false_and, Bool.and_false, Bool.and_false]) mE.rf) (fun hxy => ?_)
  rcases hoOk_cases hho hp9 with z | ⟨xh, hxh, ex⟩
  · exact absurd z hx
  rcases hoOk_cases hho hq9 with z | ⟨yh, hyh, ey⟩
  · exact absurd z hy
  have cx : (s.1 p9).toNatClampNeg = xh := by rw [ex]; exact nI_clamp (by omega)
  have cy : (s.1 q9).toNatClampNeg = yh := by rw [ey]; exact nI_clamp (by omega)
  have etr : trK P s am p9 q9 = (mayK P s am xh q9 && mayK P s am yh p9) := by
    unfold trK
    rw [decide_eq_true hx, decide_eq_true hy, decide_eq_true hxy, cx, cy]
    rfl
  repeat refine ws_s rfl ?_
  have ct1 := c_may G fr S tl P s bb xh q9 hP hs hbb (by omega) hq9
  rw [← ex, ham] at ct1
  refine wp_cV rfl rfl o_X12_may v_X12_may ct1 rfl rfl rfl (by decide) (by decide) ?_
  rintro r h' ⟨S1, rfl, hm1, rfl⟩
  cases hb1 : mayK P s am xh q9 with
  | false =>
    iterate 1 refine ws_s rfl ?_
    exact K65 S1 (by rw [etr, hb1]; rfl) hm1
  | true =>
    have hP1 := mPL_mE hm1.LR hP
    have hs1 := mES_mE hm1.LR hs
    repeat refine ws_s rfl ?_
    have ct2 := c_may G fr S1 tl P s bb yh p9 hP1 hs1 hbb (by omega) hp9
    rw [← ey, show m_allMay S1 = m_allMay S from hm1.1 0 61 (Or.inr rfl), ham] at ct2
    refine wp_cV rfl rfl o_X12_may v_X12_may ct2 rfl rfl rfl (by decide) (by decide) ?_
    rintro r h' ⟨S2, rfl, hm2, rfl⟩
    have hm3 := hm1.tr hm2
    have hs2 := mES_mE hm3.LR hs
    cases hb2 : mayK P s am yh p9 with
    | false =>
      iterate 1 refine ws_s rfl ?_
      exact K65 S2 (by rw [etr, hb1, hb2]; rfl) hm3
    | true =>
      repeat refine ws_s rfl ?_
      refine ws_g rfl (by show vp_in (nI 9 * nI bb + nI p9) 18; rw [e1]; exact g1) ?_
      rw [e1, c1]
      repeat refine ws_s rfl ?_
      refine ws_g rfl (by show vp_in (nI 9 * nI bb + nI q9) 18; rw [e2]; exact g2) ?_
      rw [e2, c2]
      repeat refine ws_s rfl ?_
      refine wp_ri rfl rfl rfl ?_
      have etrue : trK P s am p9 q9 = true := by rw [etr, hb1, hb2]; rfl
      rw [← hpost, etrue, if_pos rfl]
      refine ⟨sA (sA S2 26 (9 * bb + p9) (s.1 q9)) 26 (9 * bb + q9) (s.1 p9), rfl, (hm3.B aLQ).tr ((mB.ho rfl (by omega)).tr (mB.ho rfl (by omega))), ⟨fun p hp => ?_, hs2.2.1, hs2.2.2.1, hs2.2.2.2.1, hs2.2.2.2.2.1, hs2.2.2.2.2.2⟩, hm3.2.1, rfl⟩
      show upd (upd (S2.2.2.2.1 26) (9 * bb + p9) (s.1 q9)) (9 * bb + q9) (s.1 p9) (9 * bb + p) = upd (upd s.1 p9 (s.1 q9)) q9 (s.1 p9) p
      unfold upd
      by_cases z1 : p = q9
      · rw [if_pos z1, if_pos (by omega)]
      · rw [if_neg z1, if_neg (by omega)]
        by_cases z2 : p = p9
        · rw [if_pos z2, if_pos (by omega)]
        · rw [if_neg z2, if_neg (by omega)]
          exact hs2.1 p hp
