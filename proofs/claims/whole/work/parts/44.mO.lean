/-! ===== the reference: frames of queries; arguments ===== -/
def fZ : Nat → Bool := fun k => (Nat.ble 58 k && Nat.ble k 64) || fR k
def aZ : Nat → Bool := fun k => Nat.beq k 34 || Nat.beq k 35 || Nat.beq k 36 || Nat.beq k 38 || aR k
theorem fRZ (k : Nat) (h : fZ k = false) : fR k = false := by
  unfold fZ at h
  simp only [Bool.or_eq_false_iff] at h
  exact h.2
theorem fBZ (k : Nat) (h : fZ k = false) : fB k = false := by
  unfold fZ at h
  unfold fB
  simp only [Bool.or_eq_false_iff] at h ⊢
  refine ⟨h.2, ?_⟩
  cases hb : Nat.beq k 64 with
  | false => rfl
  | true =>
    have := Nat.eq_of_beq_eq_true hb
    subst this
    exact absurd h.1 (by decide)
theorem aRZ (k : Nat) (h : aZ k = false) : aR k = false := by
  unfold aZ at h
  simp only [Bool.or_eq_false_iff] at h
  exact h.2
theorem aZQ (a : Nat) (h : aQ a = true) : aZ a = false := by
  unfold aQ at h
  simp only [Bool.or_eq_true] at h
  rcases h with (((h | h) | h) | h) | h <;> (have := Nat.eq_of_beq_eq_true h; subst this; rfl)
theorem mB.BZ {bb : Nat} {S S' : ms_S} (h : mB fB aR bb S S') : mB fZ aZ bb S S' := h.mono fBZ aRZ
theorem mB.LZ {bb : Nat} {S S' : ms_S} (h : mB fL aL bb S S') : mB fZ aZ bb S S' := h.LB.BZ
theorem mE.RZ {bb : Nat} {S S' : ms_S} (h : mE fR aR S S') : mB fZ aZ bb S S' := (h.B aRQ).mono fRZ aRZ
theorem mPL_mZ {bb : Nat} {S S' : ms_S} {P : tPL} (h : mB fZ aZ bb S S') (hP : mPL S P) : mPL S' P := by
  obtain ⟨p1, p2, p3, p4, p5, p6⟩ := hP
  have a6 := h.2.2.2.1 6 rfl rfl
  have a7 := h.2.2.2.1 7 rfl rfl
  have a8 := h.2.2.2.1 8 rfl rfl
  have a16 := h.2.2.2.1 16 rfl rfl
  have a17 := h.2.2.2.1 17 rfl rfl
  have a18 := h.2.2.2.1 18 rfl rfl
  have a19 := h.2.2.2.1 19 rfl rfl
  have a20 := h.2.2.2.1 20 rfl rfl
  have a21 := h.2.2.2.1 21 rfl rfl
  refine ⟨p1, p2, (h.1 0 12 (Or.inr rfl)).trans p3, (h.1 0 13 (Or.inr rfl)).trans p4, fun p hp => ?_, fun w hw => ⟨(congrFun a16 w).trans (p6 w hw).1, fun q => ?_⟩⟩
  · obtain ⟨o1, o2, o3, o4, o5, o6⟩ := p5 p hp
    exact ⟨(congrFun a6 p).trans o1, o2, (congrFun a7 p).trans o3, o4, (congrFun a8 p).trans o5, o6⟩
  · obtain ⟨f, l, kn, pj, oj, e1, e2, e3, e4, e5, e6⟩ := (p6 w hw).2 q
    refine ⟨f, l, kn, pj, oj, (congrFun a17 w).trans e1, (congrFun a18 w).trans e2, e3, e4, ⟨fun i q1 q2 => ?_, e5.2⟩, fun nm nm' q => ?_⟩
    · obtain ⟨o1, o2, o3, o4, o5⟩ := e5.1 i q1 q2
      exact ⟨(congrFun a19 i).trans o1, o2, fun q => ⟨(congrFun a20 i).trans (o3 q).1, (o3 q).2⟩, fun q => ⟨(congrFun a20 i).trans (o4 q).1, (o4 q).2⟩, fun q => ⟨(congrFun a21 i).trans (o5 q).1, (o5 q).2⟩⟩
    · rw [show a_part S' = a_part S from a20]
      exact e6 nm nm' q
theorem mTD_mZ {bb : Nat} {S S' : ms_S} {P : tPL} {T : tTD} (h : mB fZ aZ bb S S') (hT : mTD S P T) : mTD S' P T := by
  obtain ⟨t1, t2, t3, t4, t5, t6⟩ := hT
  have a11 := h.2.2.2.1 11 rfl rfl
  have a12 := h.2.2.2.1 12 rfl rfl
  have a13 := h.2.2.2.1 13 rfl rfl
  have a14 := h.2.2.2.1 14 rfl rfl
  have a15 := h.2.2.2.1 15 rfl rfl
  refine ⟨t1, t2, (h.1 0 14 (Or.inr rfl)).trans t3, (h.1 0 15 (Or.inr rfl)).trans t4, fun t ht => ?_, fun k hk => ?_⟩
  · obtain ⟨o1, o2, o3, o4, o5, o6⟩ := t5 t ht
    exact ⟨(congrFun a11 t).trans o1, o2, (congrFun a12 t).trans o3, o4, (congrFun a13 t).trans o5, o6⟩
  · obtain ⟨o1, o2, o3, o4⟩ := t6 k hk
    exact ⟨(congrFun a14 k).trans o1, o2, (congrFun a15 k).trans o3, o4⟩
/-- a board isn't touched by what changes the other -/
theorem mES_ot {F A : Nat → Bool} {b1 b2 : Nat} {S S' : ms_S} {s : tES} (h : mB F A b1 S S') (hb : ¬ b1 = b2) (hs : mES S b2 s) : mES S' b2 s := by
  obtain ⟨s1, s2, s3, s4, s5, s6⟩ := hs
  obtain ⟨_, _, _, _, _, h6, h7, h8⟩ := h
  exact ⟨fun p hp => (h6 _ (by omega)).trans (s1 p hp), fun q hq => ⟨((h7 _ (by omega)).1).trans (s2 q hq).1, (s2 q hq).2⟩, fun q hq => ((h7 _ (by omega)).2).trans (s3 q hq), ((h8 b2 (fun z => hb z.symm)).1).trans s4, ((h8 b2 (fun z => hb z.symm)).2).trans s5, s6⟩
/-- plan, trades and draws, need, estate, number drawn -/
abbrev tC : Type := tPL × tTD × Nat × tES × Nat
def mC (S : ms_S) (C : tC) : Prop := mPL S C.1 ∧ mTD S C.1 C.2.1 ∧ a_once S 0 = nI C.2.2.1 ∧ C.2.2.1 ≤ 9 ∧ mES S 0 C.2.2.2.1 ∧ hoOk C.1 C.2.2.2.1 ∧ C.2.2.2.1.2.2.2.2 ≤ 9000 ∧ m_drawn S = lN C.2.2.2.2 ∧ C.2.2.2.2 < 2 ^ 31 ∧ mRW S C.1
/-- but for scratch and the second board nothing has changed -/
def mZ (S S' : ms_S) : Prop := mB fZ aZ 1 S S' ∧ S'.2.1 = S.2.1
theorem mZ.rf {S : ms_S} : mZ S S := ⟨mB.rf, rfl⟩
theorem mZ.tr {S1 S2 S3 : ms_S} (h1 : mZ S1 S2) (h2 : mZ S2 S3) : mZ S1 S3 := ⟨h1.1.tr h2.1, h2.2.trans h1.2⟩
theorem mE.Z {S S' : ms_S} (h : mE fR aR S S') : mZ S S' := ⟨h.RZ, h.2.1⟩
theorem mZ.sV {S : ms_S} {k : Nat} {x : Int32} (hk : fZ k = true) : mZ S (sV S k x) := ⟨mB.sV hk, rfl⟩
theorem mC_mZ {S S' : ms_S} {C : tC} (hC : mC S C) (h : mZ S S') (hW : mRW S' C.1) : mC S' C := by
  obtain ⟨c1, c2, c3, c4, c5, c6, c7, c8, c9, c10⟩ := hC
  exact ⟨mPL_mZ h.1 c1, mTD_mZ h.1 c2, (congrFun (h.1.2.2.2.1 4 rfl rfl) 0).trans c3, c4, mES_ot h.1 (by decide) c5, c6, c7, (congrFun (congrFun h.2 0) 57).trans c8, c9, hW⟩
/-- the same where the table of rows isn't touched -/
theorem mRW_F2 {S S' : ms_S} {P : tPL} (h1 : S'.1 0 68 = S.1 0 68) (h2 : S'.2.2.2.1 32 = S.2.2.2.1 32) (h3 : S'.2.2.2.1 33 = S.2.2.2.1 33) (hW : mRW S P) : mRW S' P := by
  rcases hW with w | ⟨w1, jw, w2, w3⟩
  · exact Or.inl (h1.trans w)
  · exact Or.inr ⟨h1.trans w1, jw, fun e he => ⟨(congrFun h3 e).trans (w2 e he).1, (w2 e he).2⟩, fun set z1 f z2 => (congrFun h2 _).trans (w3 set z1 f z2)⟩
/-- arguments -/
def hrK (P : tPL) (h : Int32) : Bool := decide (¬ h < 0 ∧ ¬ nI P.2.1 ≤ h)
def pcK (P : tPL) (p : Int32) : Bool := decide (¬ p < 0 ∧ ¬ nI P.1 ≤ p)
def enK (e : Int32) : Bool := decide (¬ e < 0 ∧ ¬ nI 6 < e)
def inK (x : Int32) (a b : Nat) : Bool := decide (¬ x < nI a ∧ ¬ nI b < x)
theorem ite_bI {c : Prop} {dc : Decidable c} : (@ite Int32 c dc (nI 1) (nI 0)) = bI (decide c) := by
  by_cases q : c
  · rw [if_pos q, decide_eq_true q]
    rfl
  · rw [if_neg q, decide_eq_false q]
    rfl
theorem ix_t {x : Int32} {n : Nat} (hn : n < 2 ^ 31) (h : ¬ x < 0 ∧ ¬ nI n ≤ x) : ∃ j, j < n ∧ x = nI j := by
  rcases pk_ix x hn with q | q | q
  · exact absurd q h.1
  · exact absurd q h.2
  · exact q
theorem hrK_t {P : tPL} {h : Int32} (hn : P.2.1 ≤ 5) (hb : hrK P h = true) : ∃ j, j < P.2.1 ∧ h = nI j := ix_t (by omega) (of_decide_eq_true hb)
theorem pcK_t {P : tPL} {h : Int32} (hn : P.1 ≤ 9) (hb : pcK P h = true) : ∃ j, j < P.1 ∧ h = nI j := ix_t (by omega) (of_decide_eq_true hb)
theorem inK_t {x : Int32} {a b : Nat} (hb31 : b < 2 ^ 30) (ha31 : a < 2 ^ 30) (hb : inK x a b = true) : ∃ j, a ≤ j ∧ j ≤ b ∧ x = nI j := by
  obtain ⟨h1, h2⟩ := of_decide_eq_true hb
  have hx : ¬ x < 0 := by
    intro q
    apply h1
    rw [Int32.lt_iff_toInt_lt] at q ⊢
    rw [nI_toInt (by omega)]
    have e0 : (0 : Int32).toInt = 0 := by decide
    omega
  have h3 : ¬ nI (b + 1) ≤ x := by
    intro q
    apply h2
    rw [Int32.le_iff_toInt_le] at q
    rw [Int32.lt_iff_toInt_lt]
    rw [nI_toInt (by omega)] at q ⊢
    omega
  obtain ⟨j, hj, rfl⟩ := ix_t (n := b + 1) (by omega) ⟨hx, h3⟩
  refine ⟨j, ?_, by omega, rfl⟩
  by_cases q : a ≤ j
  · exact q
  · exact absurd (nI_lt (by omega) (by omega)) h1
theorem enK_t {e : Int32} (hb : enK e = true) : ∃ j, j < 7 ∧ e = nI j := by
  obtain ⟨j, h1, h2, h3⟩ := inK_t (x := e) (a := 0) (b := 6) (by decide) (by decide) hb
  exact ⟨j, by omega, h3⟩
theorem c_isHeirK (G : ab_G) (fr : Bool) (S : ms_S) (tl : ab_H) (P : tPL) (x : Int32) (hP : m_heirs S = nI P.2.1) : ab_CT G 1 M_X12_isHeir fr [.ref 0, .int x] (hM S tl) 0 0 (fun r h' => r = some (.int (bI (hrK P x))) ∧ h' = hM S tl) := by
  have := c_isHeir G fr S tl x
  rw [ite_bI, show m_heirs S = nI P.2.1 from hP] at this
  exact this
theorem c_isPieceK (G : ab_G) (fr : Bool) (S : ms_S) (tl : ab_H) (P : tPL) (x : Int32) (hP : m_pieces S = nI P.1) : ab_CT G 1 M_X12_isPiece fr [.ref 0, .int x] (hM S tl) 0 0 (fun r h' => r = some (.int (bI (pcK P x))) ∧ h' = hM S tl) := by
  have := c_isPiece G fr S tl x
  rw [ite_bI, show m_pieces S = nI P.1 from hP] at this
  exact this
theorem c_isEndK (G : ab_G) (fr : Bool) (h : ab_H) (x : Int32) : ab_CT G 1 M_X12_isEnd fr [.int x] h 0 0 (fun r h' => r = some (.int (bI (enK x))) ∧ h' = h) := by
  have := c_isEnd G fr x h
  rw [ite_bI] at this
  exact this
theorem c_isInK (G : ab_G) (fr : Bool) (h : ab_H) (x : Int32) (a b : Nat) : ab_CT G 1 M_X12_isIn fr [.int x, .int (nI a), .int (nI b)] h 0 0 (fun r h' => r = some (.int (bI (inK x a b))) ∧ h' = h) := by
  have := c_isIn G fr x (nI a) (nI b) h
  rw [ite_bI] at this
  exact this
/-- the options as told -/
abbrev opP (need : Nat) : tOP := (false, false, false, false, -(nI 1), need)
theorem ptS_Z (S : ms_S) : mZ S (ptS S) := (((((mZ.sV (by rfl)).tr (mZ.sV (by rfl))).tr (mZ.sV (by rfl))).tr (mZ.sV (by rfl))).tr (mZ.sV (by rfl))).tr (mZ.sV (by rfl))
theorem ptS_C {S : ms_S} {C : tC} (h : mC S C) : mC (ptS S) C := mC_mZ h (ptS_Z S) (mRW_F2 (S := S) rfl rfl rfl h.2.2.2.2.2.2.2.2.2)
theorem ptS_O {S : ms_S} {C : tC} (h : mC S C) : mOP (ptS S) (opP C.2.2.1) := ⟨rfl, rfl, rfl, rfl, rfl, h.2.2.1, h.2.2.2.1⟩
set_option maxRecDepth 100000 in
set_option maxHeartbeats 4000000 in
theorem c_laidAll (G : ab_G) (fr : Bool) (S : ms_S) (tl : ab_H) (bb n : Nat) (g : Nat → Nat) (hbb : bb < 2) (hn : n ≤ 5) (hp9 : m_heirs S = nI n) (hg : ∀ i, i < 5 → a_laid S (5 * bb + i) = nI (g i)) :
    ab_CT G 1 M_X12_laidAll fr [.ref 0, .int (nI bb)] (hM S tl) 0 0 (fun r h' => r = some (.int (nI ((List.range n).foldl (fun x i => x + g i) 0))) ∧ h' = hM (S) tl) := by
  refine ct_of o_X12_laidAll (Nat.le_of_ble_eq_true rfl) (fun n0 post hp => ?_)
  iterate 4 refine ws_s rfl ?_
  refine wp_down n (fun i => [some (.ref 0), some (.int (nI bb)), some (.int (nI ((List.range i).foldl (fun x i => x + g i) 0))), some (.int (nI i))]) (fun _ => hM S tl) ?_ (fun i hi k => ?_)
  · repeat refine ws_s rfl ?_
    refine wp_le (hp9) (rfl) (by first | omega | decide) (by first | omega | decide) (fun z => ?_) (fun z => absurd z (by omega))
    repeat refine ws_s rfl ?_
    exact wp_ri rfl rfl rfl hp
  · repeat refine ws_s rfl ?_
    refine wp_le (hp9) (rfl) (by first | omega | decide) (by first | omega | decide) (fun z => absurd z (by omega)) (fun z => ?_)
    repeat refine ws_s rfl ?_
    refine ws_ld (k := 5 * bb + i) rfl (by first | rfl | (simp only [pk_mul, nI_add]; done)) (by omega) (by decide) (hg i (by omega)) ?_
    repeat refine ws_s rfl ?_
    refine ws_b rfl ?_
    exact wp_eqL (by simp only [List.range_succ, List.foldl_append, List.foldl_cons, List.foldl_nil, ← nI_add]; rfl) k
set_option maxRecDepth 100000 in
set_option maxHeartbeats 4000000 in
theorem c_layTried (G : ab_G) (fr : Bool) (S : ms_S) (tl : ab_H) (C : tC) (hC : mC S C) :
    ab_CT G 2 M_X12_layTried fr [.ref 0] (hM S tl) 0 0 (fun r h' => ∃ S', h' = hM S' tl ∧ mZ S S' ∧ mC S' C ∧ mES S' 1 C.2.2.2.1 ∧ mOP S' (opP C.2.2.1) ∧ r = none) := by
  refine wp_ct o_X12_layTried (Nat.le_of_ble_eq_true rfl) ?_
  generalize hpost : (fun (r : Option Value) (h' : ab_H) => ∃ S', h' = hM S' tl ∧ mZ S S' ∧ mC S' C ∧ mES S' 1 C.2.2.2.1 ∧ mOP S' (opP C.2.2.1) ∧ r = none) = post
  generalize (hM S tl).length = n0
  obtain ⟨c1, c2, c3, c4, c5, c6, c7, c8, c9, c10⟩ := id hC
  iterate 2 refine ws_s rfl ?_
  refine wp_downX (X := ms_S) 9 (fun i X => mZ S X ∧ mRW X C.1 ∧ ∀ p, p < i → a_holder X (9 + p) = C.2.2.2.1.1 p) (fun i X => [some (.ref 0), some (.int (nI i))]) (fun X => hM X tl) ?_ ?_ S ⟨mZ.rf, c10, fun p hp => by omega⟩
  · rintro X ⟨x1, x2, x3⟩
    iterate 5 refine ws_s rfl ?_
    refine wp_downX (X := ms_S) 5 (fun i X => mZ S X ∧ mRW X C.1 ∧ (∀ p, p < 9 → a_holder X (9 + p) = C.2.2.2.1.1 p) ∧ ∀ p, p < i → a_gold X (5 + p) = nI (C.2.2.2.1.2.1 p) ∧ a_laid X (5 + p) = nI (C.2.2.2.1.2.2.1 p)) (fun i X => [some (.ref 0), some (.int (nI i))]) (fun X => hM X tl) ?_ ?_ X ⟨x1, x2, x3, fun p hp => by omega⟩
    · rintro X ⟨x1, x2, x3, x4⟩
      obtain ⟨d1, d2, d3, d4, d5, d6, d7, d8, d9, d10⟩ := mC_mZ hC x1 x2
      repeat refine ws_s rfl ?_
      refine ws_ld (k := 0) rfl (by first | rfl | (simp only [pk_mul, nI_add]; done)) (by omega) (by decide) (d5.2.2.2.1) ?_
      refine ws_sa (k := 1) rfl (by first | rfl | (simp only [pk_mul, nI_add]; done)) (by omega) (by decide) (rfl) ?_
      repeat refine ws_s rfl ?_
      refine ws_ld (k := 0) rfl (by first | rfl | (simp only [pk_mul, nI_add]; done)) (by omega) (by decide) (d5.2.2.2.2.1) ?_
      refine ws_sa (k := 1) rfl (by first | rfl | (simp only [pk_mul, nI_add]; done)) (by omega) (by decide) (rfl) ?_
      repeat refine ws_s rfl ?_
      refine wp_V (c_plainTried G fr _ tl) rfl rfl o_X12_plainTried v_X12_plainTried rfl rfl rfl (Nat.le_of_ble_eq_true rfl) (by decide) ?_
      refine wp_rv rfl rfl ?_
      rw [← hpost]
      have z1 : mZ X (sA (sA X 29 1 (nI C.2.2.2.1.2.2.2.1)) 30 1 (nI C.2.2.2.1.2.2.2.2)) := ⟨(mB.re).tr mB.da, rfl⟩
      have z2 := z1.tr (ptS_Z _)
      have z3 := mC_mZ (S := X) ⟨d1, d2, d3, d4, d5, d6, d7, d8, d9, d10⟩ z1 (mRW_F2 (S := X) rfl rfl rfl x2)
      refine ⟨_, rfl, x1.tr z2, ptS_C z3, ⟨fun p hp => x3 p hp, fun p hp => ⟨(x4 p hp).1, (c5.2.1 p hp).2⟩, fun p hp => (x4 p hp).2, rfl, rfl, c5.2.2.2.2.2⟩, ptS_O z3, rfl⟩
    · rintro i X hi ⟨x1, x2, x3, x4⟩ kn
      obtain ⟨d1, d2, d3, d4, d5, d6, d7, d8, d9, d10⟩ := mC_mZ hC x1 x2
      have e1 := (d5.2.1 i hi).1
      have e2 := d5.2.2.1 i hi
      rw [show 5 * 0 + i = i by omega] at e1 e2
      repeat refine ws_s rfl ?_
      refine wp_le (x := 5) (rfl) (rfl) (by first | omega | decide) (by first | omega | decide) (fun z => absurd z (by omega)) (fun z => ?_)
      repeat refine ws_s rfl ?_
      refine ws_ld (k := i) rfl (by first | rfl | (simp only [pk_mul, nI_add]; done)) (by omega) (by decide) (e1) ?_
      refine ws_sa (k := 5 + i) rfl (by first | rfl | (simp only [pk_mul, nI_add]; done)) (by omega) (by decide) (rfl) ?_
      repeat refine ws_s rfl ?_
      refine ws_ld (k := i) rfl (by first | rfl | (simp only [pk_mul, nI_add]; done)) (by omega) (by decide) (e2) ?_
      refine ws_sa (k := 5 + i) rfl (by first | rfl | (simp only [pk_mul, nI_add]; done)) (by omega) (by decide) (rfl) ?_
      repeat refine ws_s rfl ?_
      refine ws_b rfl ?_
      refine wp_eqL (by rw [← nI_add i 1]; rfl) (kn _ ⟨x1.tr ⟨(mB.go (by omega)).tr (mB.la (by omega)), rfl⟩, mRW_F2 (S := X) rfl rfl rfl x2, x3, fun p hp => ?_⟩)
      show upd (X.2.2.2.1 27) (5 + i) _ (5 + p) = _ ∧ upd (X.2.2.2.1 28) (5 + i) _ (5 + p) = _
      unfold upd
      by_cases z1 : p = i
      · rw [if_pos (by omega), if_pos (by omega), z1]
        exact ⟨rfl, rfl⟩
      · rw [if_neg (by omega), if_neg (by omega)]
        exact x4 p (by omega)
  · rintro i X hi ⟨x1, x2, x3⟩ kn
    obtain ⟨d1, d2, d3, d4, d5, d6, d7, d8, d9, d10⟩ := mC_mZ hC x1 x2
    have e1 := d5.1 i hi
    rw [show 9 * 0 + i = i by omega] at e1
    repeat refine ws_s rfl ?_
    refine wp_le (x := 9) (rfl) (rfl) (by first | omega | decide) (by first | omega | decide) (fun z => absurd z (by omega)) (fun z => ?_)
    repeat refine ws_s rfl ?_
    refine ws_ld (k := i) rfl (by first | rfl | (simp only [pk_mul, nI_add]; done)) (by omega) (by decide) (e1) ?_
    refine ws_sa (k := 9 + i) rfl (by first | rfl | (simp only [pk_mul, nI_add]; done)) (by omega) (by decide) (rfl) ?_
    repeat refine ws_s rfl ?_
    refine ws_b rfl ?_
    refine wp_eqL (by rw [← nI_add i 1]; rfl) (kn _ ⟨x1.tr ⟨mB.ho rfl (by omega), rfl⟩, mRW_F2 (S := X) rfl rfl rfl x2, fun p hp => ?_⟩)
    show upd (X.2.2.2.1 26) (9 + i) _ (9 + p) = _
    unfold upd
    by_cases z1 : p = i
    · rw [if_pos (by omega), z1]
    · rw [if_neg (by omega)]
      exact x3 p (by omega)
/-- days on board 1: estate, number drawn -/
def gmS (P : tPL) (T : tTD) (o : tOP) (x : tES × Nat) : Nat → tES × Nat
  | 0 => x
  | k + 1 => (dgS P T o (gmS P T o x k).1 (gmS P T o x k).2, (dgB P T o (gmS P T o x k).1 (gmS P T o x k).2).2)
theorem gm_day (P : tPL) (T : tTD) (o : tOP) (x : tES × Nat) : ∀ k, (gmS P T o x k).1.2.2.2.2 = x.1.2.2.2.2 + k
  | 0 => rfl
  | k + 1 => by
    have := gm_day P T o x k
    show (dgC P T o _ _).1.2.2.2.2 + 1 = _
    rw [dgC_day]
    omega
theorem gm_lt (P : tPL) (T : tTD) (o : tOP) (x : tES × Nat) (h : x.2 < 2 ^ 31) : ∀ k, (gmS P T o x k).2 < 2 ^ 31
  | 0 => h
  | k + 1 => dyD_lt P T o (dgA P T o (gmS P T o x k).1, (gmS P T o x k).2) (gm_lt P T o x h k) _
theorem gm_ho {P : tPL} {T : tTD} {o : tOP} {x : tES × Nat} (h1 : ∀ t, t < T.1 → T.2.1 t < P.1 ∧ T.2.2.1 t < P.1) (h2 : ∀ t, t < T.2.2.2.2.1 → T.2.2.2.2.2.1 t < P.2.1) (h : hoOk P x.1) : ∀ k, hoOk P (gmS P T o x k).1
  | 0 => h
  | k + 1 => hoOk_dg h1 h2 (gm_ho h1 h2 h k)
set_option maxRecDepth 100000 in
set_option maxHeartbeats 4000000 in
theorem c_goMany (G : ab_G) (fr : Bool) (S : ms_S) (tl : ab_H) (P : tPL) (T : tTD) (o : tOP) (s : tES) (n dn : Nat) (hP : mPL S P) (hT : mTD S P T) (hO : mOP S o) (hs : mES S 1 s) (hho : hoOk P s) (hW : mRW S P) (hdn : dn < 2 ^ 31) (hd : m_drawn S = lN dn) (hdy : s.2.2.2.2 ≤ 9000) (hn : n ≤ 99) :
    ab_CT G 8 M_X12_goMany fr [.ref 0, .int (nI n)] (hM S tl) 0 0 (fun r h' => ∃ S', h' = hM S' tl ∧ mB fB aR 1 S S' ∧ mES S' 1 (gmS P T o (s, dn) n).1 ∧ m_drawn S' = lN (gmS P T o (s, dn) n).2 ∧ mRW S' P ∧ r = none) := by
  refine wp_ct o_X12_goMany (Nat.le_of_ble_eq_true rfl) ?_
  generalize hpost : (fun (r : Option Value) (h' : ab_H) => ∃ S', h' = hM S' tl ∧ mB fB aR 1 S S' ∧ mES S' 1 (gmS P T o (s, dn) n).1 ∧ m_drawn S' = lN (gmS P T o (s, dn) n).2 ∧ mRW S' P ∧ r = none) = post
  generalize (hM S tl).length = n0
  have ht1 : ∀ t, t < T.1 → T.2.1 t < P.1 ∧ T.2.2.1 t < P.1 := fun t ht => ⟨(hT.2.2.2.2.1 t ht).2.1, (hT.2.2.2.2.1 t ht).2.2.2.1⟩
  have ht2 : ∀ t, t < T.2.2.2.2.1 → T.2.2.2.2.2.1 t < P.2.1 := fun t ht => (hT.2.2.2.2.2 t ht).2.1
  iterate 2 refine ws_s rfl ?_
  refine wp_downX (X := ms_S) n (fun i X => mB fB aR 1 S X ∧ mES X 1 (gmS P T o (s, dn) i).1 ∧ m_drawn X = lN (gmS P T o (s, dn) i).2 ∧ mRW X P) (fun i X => [some (.ref 0), some (.int (nI n)), some (.int (nI i))]) (fun X => hM X tl) ?_ ?_ S ⟨mB.rf, hs, hd, hW⟩
  · rintro X ⟨x1, x2, x3, x4⟩
    repeat refine ws_s rfl ?_
    refine wp_le (rfl) (rfl) (by first | omega | decide) (by first | omega | decide) (fun z => ?_) (fun z => absurd z (by omega))
    refine wp_rv rfl rfl ?_
    rw [← hpost]
    exact ⟨X, rfl, x1, x2, x3, x4, rfl⟩
  · rintro i X hi ⟨x1, x2, x3, x4⟩ kn
    repeat refine ws_s rfl ?_
    refine wp_le (rfl) (rfl) (by first | omega | decide) (by first | omega | decide) (fun z => absurd z (by omega)) (fun z => ?_)
    repeat refine ws_s rfl ?_
    have hday := gm_day P T o (s, dn) i
    dsimp only at hday
    refine wp_cV rfl rfl o_X12_dayGoes v_X12_dayGoes (c_dayGoes G fr X tl P T o (gmS P T o (s, dn) i).1 1 (gmS P T o (s, dn) i).2 (mPL_mB x1 hP) (mTD_mB x1 hT) (mOP_mB x1 hO) x2 (gm_ho ht1 ht2 hho i) x4 (by decide) (gm_lt P T o (s, dn) hdn i) x3 (by omega)) rfl rfl rfl (Nat.le_of_ble_eq_true rfl) (by decide) ?_
    rintro r h' ⟨Y, rfl, y1, y2, y3, y4, y5, rfl⟩
    repeat refine ws_s rfl ?_
    refine ws_b rfl ?_
    exact wp_eqL (by rw [← nI_add i 1]; rfl) (kn Y ⟨x1.tr y1, y2, y3, y5⟩)
