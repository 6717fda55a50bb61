/-! ===== the reference: what it holds, in words of its own ===== -/
/-- what a text tells: pieces, heirs, the two ends, the worth; which laws are told, and what they say of seven names -/
abbrev tPL : Type := Nat × Nat × (Nat → Nat) × (Nat → Nat) × (Nat → Nat) × (Nat → Bool) × (Nat → (Nat → Int64) → Option Int64)
/-- an estate: who holds, gold, rows laid, refused, day -/
abbrev tES : Type := (Nat → Int32) × (Nat → Nat) × (Nat → Nat) × Nat × Nat
/-- but for scratch fields F and scratch rows A nothing has changed -/
def mE (F A : Nat → Bool) (S S' : ms_S) : Prop := (∀ a k, (a ≠ 0 ∨ F k = false) → S'.1 a k = S.1 a k) ∧ S'.2.1 = S.2.1 ∧ S'.2.2.1 = S.2.2.1 ∧ (∀ a, A a = false → S'.2.2.2.1 a = S.2.2.2.1 a) ∧ (∀ a, A a = false → S'.2.2.2.2 a = S.2.2.2.2 a)
theorem mE.rf {F A : Nat → Bool} {S : ms_S} : mE F A S S := ⟨fun _ _ _ => rfl, rfl, rfl, fun _ _ => rfl, fun _ _ => rfl⟩
theorem mE.tr {F A : Nat → Bool} {S1 S2 S3 : ms_S} (h1 : mE F A S1 S2) (h2 : mE F A S2 S3) : mE F A S1 S3 := ⟨fun a k q => (h2.1 a k q).trans (h1.1 a k q), h2.2.1.trans h1.2.1, h2.2.2.1.trans h1.2.2.1, fun a q => (h2.2.2.2.1 a q).trans (h1.2.2.2.1 a q), fun a q => (h2.2.2.2.2 a q).trans (h1.2.2.2.2 a q)⟩
theorem mE.mono {F A F' A' : Nat → Bool} {S S' : ms_S} (h : mE F A S S') (hF : ∀ k, F' k = false → F k = false) (hA : ∀ a, A' a = false → A a = false) : mE F' A' S S' := ⟨fun a k q => h.1 a k (q.imp id (hF k)), h.2.1, h.2.2.1, fun a q => h.2.2.2.1 a (hA a q), fun a q => h.2.2.2.2 a (hA a q)⟩
theorem mE.sV {F A : Nat → Bool} {S : ms_S} {k : Nat} {x : Int32} (hk : F k = true) : mE F A S (sV S k x) := ⟨fun a j q => u2_ne (by
  rcases q with q | q
  · exact Or.inl q
  · exact Or.inr (fun z => by rw [z, hk] at q; cases q)), rfl, rfl, fun _ _ => rfl, fun _ _ => rfl⟩
theorem mE.sA {F A : Nat → Bool} {S : ms_S} {a i : Nat} {x : Int32} (ha : A a = true) : mE F A S (sA S a i x) := ⟨fun _ _ _ => rfl, rfl, rfl, fun b q => u1_ne (fun z => by rw [z, ha] at q; cases q), fun _ _ => rfl⟩
theorem mE.sL {F A : Nat → Bool} {S : ms_S} {a i : Nat} {x : Int64} (ha : A a = true) : mE F A S (sL S a i x) := ⟨fun _ _ _ => rfl, rfl, rfl, fun _ _ => rfl, fun b q => u1_ne (fun z => by rw [z, ha] at q; cases q)⟩
/-- scratch of a law: isError; names, value -/
def fL : Nat → Bool := fun k => Nat.beq k 51
def aL : Nat → Bool := fun k => Nat.beq k 24 || Nat.beq k 25
/-- scratch of rows: isError, areLaid, dear ..; names, value, joined, lasts, laidBy -/
def fR : Nat → Bool := fun k => Nat.beq k 51 || Nat.beq k 68 || Nat.beq k 69 || Nat.beq k 70 || Nat.beq k 71
def aR : Nat → Bool := fun k => Nat.beq k 24 || Nat.beq k 25 || Nat.beq k 31 || Nat.beq k 32 || Nat.beq k 33
theorem fLR (k : Nat) (h : fR k = false) : fL k = false := by
  unfold fR at h
  unfold fL
  simp only [Bool.or_eq_false_iff] at h
  exact h.1.1.1.1
theorem aLR (k : Nat) (h : aR k = false) : aL k = false := by
  unfold aR at h
  unfold aL
  simp only [Bool.or_eq_false_iff] at h ⊢
  exact ⟨h.1.1.1.1, h.1.1.1.2⟩
theorem mE.LR {S S' : ms_S} (h : mE fL aL S S') : mE fR aR S S' := h.mono fLR aLR
/-- the knots of one law, in order: each looks back -/
def lwW (S : ms_S) (kn pj oj : Nat → Nat) (f l : Nat) : Prop := lwOk S kn pj oj f l ∧ ∀ i, f ≤ i → i < l → (2 ≤ kn i → f ≤ pj i ∧ pj i < i) ∧ (3 ≤ kn i → f ≤ oj i ∧ oj i < i)
/-- its value by names -/
def lwV (kn pj oj : Nat → Nat) (pa : Nat → Int32) (f l : Nat) (nm : Nat → Int64) : Option Int64 := if (lwR kn pj oj pa nm (fun _ => 0) f (l - f)).2 = 0 then some ((lwR kn pj oj pa nm (fun _ => 0) f (l - f)).1 (l - 1)) else none
theorem mVal_er {k : Nat} {pI : Int32} {x y nv : Int64} {er : Int32} (h : er = nI 0 ∨ er = nI 1) : (mVal k pI x y nv er).2 = nI 0 ∨ (mVal k pI x y nv er).2 = nI 1 := by
  unfold mVal
  split <;> first | exact h | (dsimp only; split <;> simp)
theorem mVal_x {k : Nat} {pI : Int32} {x x' y y' nv : Int64} {er : Int32} (hx : 2 ≤ k → x = x') (hy : 3 ≤ k → y = y') : mVal k pI x y nv er = mVal k pI x' y' nv er := by
  by_cases h0 : k = 0
  · subst h0; simp only [mVal]
  by_cases h1 : k = 1
  · subst h1; simp only [mVal]
  have hx := hx (by omega)
  subst hx
  by_cases h2 : k = 2
  · subst h2; simp only [mVal]
  have hy := hy (by omega)
  subst hy
  rfl
theorem lwR_er (kn pj oj : Nat → Nat) (pa : Nat → Int32) (nm v0 : Nat → Int64) (f : Nat) : ∀ c, (lwR kn pj oj pa nm v0 f c).2 = nI 0 ∨ (lwR kn pj oj pa nm v0 f c).2 = nI 1
  | 0 => Or.inl rfl
  | c + 1 => mVal_er (lwR_er kn pj oj pa nm v0 f c)
/-- what lay in the row of values before is never looked at -/
theorem lwR_v0 {S : ms_S} {kn pj oj : Nat → Nat} {f l : Nat} (hw : lwW S kn pj oj f l) (pa : Nat → Int32) (nm v0 v1 : Nat → Int64) : ∀ c, f + c ≤ l → (lwR kn pj oj pa nm v0 f c).2 = (lwR kn pj oj pa nm v1 f c).2 ∧ ∀ j, f ≤ j → j < f + c → (lwR kn pj oj pa nm v0 f c).1 j = (lwR kn pj oj pa nm v1 f c).1 j
  | 0, _ => ⟨rfl, fun j h1 h2 => by omega⟩
  | c + 1, hc => by
    obtain ⟨i1, i2⟩ := lwR_v0 hw pa nm v0 v1 c (by omega)
    obtain ⟨w1, w2⟩ := hw.2 (f + c) (by omega) (by omega)
    have e : mVal (kn (f + c)) (pa (f + c)) ((lwR kn pj oj pa nm v0 f c).1 (pj (f + c))) ((lwR kn pj oj pa nm v0 f c).1 (oj (f + c))) (nm (pj (f + c))) (lwR kn pj oj pa nm v0 f c).2 = mVal (kn (f + c)) (pa (f + c)) ((lwR kn pj oj pa nm v1 f c).1 (pj (f + c))) ((lwR kn pj oj pa nm v1 f c).1 (oj (f + c))) (nm (pj (f + c))) (lwR kn pj oj pa nm v1 f c).2 := by
      rw [i1]
      exact mVal_x (fun q => i2 _ (w1 q).1 (w1 q).2) (fun q => i2 _ (w2 q).1 (w2 q).2)
    refine ⟨by show (mVal _ _ _ _ _ _).2 = (mVal _ _ _ _ _ _).2; rw [e], fun j h1 h2 => ?_⟩
    unfold lwR
    dsimp only
    unfold vp_updL
    by_cases hj : j = f + c
    · rw [if_pos hj, if_pos hj, e]
    · rw [if_neg hj, if_neg hj]
      exact i2 j h1 (by omega)
/-- law w is E w -/
def lwE (S : ms_S) (w : Nat) (E : (Nat → Int64) → Option Int64) : Prop := ∃ (f l : Nat) (kn pj oj : Nat → Nat), a_first S w = nI f ∧ a_last S w = nI l ∧ f < l ∧ l ≤ 64 ∧ lwW S kn pj oj f l ∧ ∀ nm nm' : Nat → Int64, (∀ i, i < 7 → nm i = nm' i) → lwV kn pj oj (a_part S) f l nm = E nm'
/-- the reference's text is P -/
def mPL (S : ms_S) (P : tPL) : Prop := P.1 ≤ 9 ∧ P.2.1 ≤ 5 ∧ m_pieces S = nI P.1 ∧ m_heirs S = nI P.2.1 ∧ (∀ p, p < P.1 → a_pieceOne S p = nI (P.2.2.1 p) ∧ P.2.2.1 p < 7 ∧ a_pieceOther S p = nI (P.2.2.2.1 p) ∧ P.2.2.2.1 p < 7 ∧ a_pieceWorth S p = nI (P.2.2.2.2.1 p) ∧ P.2.2.2.2.1 p ≤ 99) ∧ (∀ w, w < 3 → a_lawTold S w = bI (P.2.2.2.2.2.1 w) ∧ (P.2.2.2.2.2.1 w = true → lwE S w (P.2.2.2.2.2.2 w)))
/-- the reference's board b is s -/
def mES (S : ms_S) (b : Nat) (s : tES) : Prop := (∀ p, p < 9 → a_holder S (9 * b + p) = s.1 p) ∧ (∀ h, h < 5 → a_gold S (5 * b + h) = nI (s.2.1 h) ∧ s.2.1 h ≤ 99999) ∧ (∀ h, h < 5 → a_laid S (5 * b + h) = nI (s.2.2.1 h)) ∧ a_refused S b = nI s.2.2.2.1 ∧ a_day S b = nI s.2.2.2.2 ∧ s.2.2.2.2 < 2 ^ 20
theorem lwE_mE {S S' : ms_S} {w : Nat} {E : (Nat → Int64) → Option Int64} (h : mE fR aR S S') (hE : lwE S w E) : lwE S' w E := by
  obtain ⟨f, l, kn, pj, oj, e1, e2, e3, e4, e5, e6⟩ := hE
  have a17 := h.2.2.2.1 17 rfl
  have a18 := h.2.2.2.1 18 rfl
  have a19 := h.2.2.2.1 19 rfl
  have a20 := h.2.2.2.1 20 rfl
  have a21 := h.2.2.2.1 21 rfl
  refine ⟨f, l, kn, pj, oj, (congrFun a17 w).trans e1, (congrFun a18 w).trans e2, e3, e4, ⟨fun i q1 q2 => ?_, e5.2⟩, fun nm nm' q => ?_⟩
  · obtain ⟨o1, o2, o3, o4, o5⟩ := e5.1 i q1 q2
    exact ⟨(congrFun a19 i).trans o1, o2, fun q => ⟨(congrFun a20 i).trans (o3 q).1, (o3 q).2⟩, fun q => ⟨(congrFun a20 i).trans (o4 q).1, (o4 q).2⟩, fun q => ⟨(congrFun a21 i).trans (o5 q).1, (o5 q).2⟩⟩
  · rw [show a_part S' = a_part S from a20]
    exact e6 nm nm' q
theorem mPL_mE {S S' : ms_S} {P : tPL} (h : mE fR aR S S') (hP : mPL S P) : mPL S' P := by
  obtain ⟨p1, p2, p3, p4, p5, p6⟩ := hP
  have a6 := h.2.2.2.1 6 rfl
  have a7 := h.2.2.2.1 7 rfl
  have a8 := h.2.2.2.1 8 rfl
  have a16 := h.2.2.2.1 16 rfl
  refine ⟨p1, p2, (h.1 0 12 (Or.inr rfl)).trans p3, (h.1 0 13 (Or.inr rfl)).trans p4, fun p hp => ?_, fun w hw => ?_⟩
  · obtain ⟨o1, o2, o3, o4, o5, o6⟩ := p5 p hp
    exact ⟨(congrFun a6 p).trans o1, o2, (congrFun a7 p).trans o3, o4, (congrFun a8 p).trans o5, o6⟩
  · exact ⟨(congrFun a16 w).trans (p6 w hw).1, fun q => lwE_mE h ((p6 w hw).2 q)⟩
theorem mES_mE {S S' : ms_S} {b : Nat} {s : tES} (h : mE fR aR S S') (hs : mES S b s) : mES S' b s := by
  obtain ⟨s1, s2, s3, s4, s5, s6⟩ := hs
  have a26 := h.2.2.2.1 26 rfl
  have a27 := h.2.2.2.1 27 rfl
  have a28 := h.2.2.2.1 28 rfl
  have a29 := h.2.2.2.1 29 rfl
  have a30 := h.2.2.2.1 30 rfl
  exact ⟨fun p hp => (congrFun a26 _).trans (s1 p hp), fun q hq => ⟨(congrFun a27 _).trans (s2 q hq).1, (s2 q hq).2⟩, fun q hq => (congrFun a28 _).trans (s3 q hq), (congrFun a29 _).trans s4, (congrFun a30 _).trans s5, s6⟩
theorem lwS_mE (S : ms_S) (v : Nat → Int64) (er : Int32) : mE fL aL S (lwS S v er) := ⟨fun a j q => u2_ne (by
  rcases q with q | q
  · exact Or.inl q
  · exact Or.inr (fun z => by rw [z] at q; cases q)), rfl, rfl, fun _ _ => rfl, fun b q => u1_ne (fun z => by rw [z] at q; cases q)⟩
/-- LAW w by its names -/
theorem c_law (G : ab_G) (fr : Bool) (S : ms_S) (tl : ab_H) (w : Nat) (E : (Nat → Int64) → Option Int64) (hw : w < 3) (hE : lwE S w E) (nm : Nat → Int64) (hnm : ∀ i, i < 7 → a_names S i = nm i) : ab_CT G 3 M_X12_lawOf fr [.ref 0, .int (nI w)] (hM S tl) 0 0 (fun r h' => ∃ S', h' = hM S' tl ∧ mE fL aL S S' ∧ m_isError S' = bI (E nm).isNone ∧ r = some (.long ((E nm).getD 0))) := by
  obtain ⟨f, l, kn, pj, oj, e1, e2, e3, e4, e5, e6⟩ := hE
  have hv := lwR_v0 e5 (a_part S) (a_names S) (a_value S) (fun _ => 0) (l - f) (by omega)
  have he := e6 (a_names S) nm hnm
  have her := lwR_er kn pj oj (a_part S) (a_names S) (fun _ => 0) f (l - f)
  have hc := c_lawOf G fr S tl w f l kn pj oj hw e1 e2 e3 e4 e5.1
  unfold lwV at he
  refine Met_mono hc ?_
  rintro r h' ⟨rfl, rfl⟩
  refine ⟨_, rfl, lwS_mE _ _ _, ?_, ?_⟩
  · show (lwS S _ _).1 0 51 = _
    unfold lwS
    dsimp only
    rw [u2_eq, hv.1]
    rcases her with q | q
    · rw [q, if_pos (show nI 0 = 0 from rfl)] at he
      rw [← he, q]
      rfl
    · rw [q, if_neg (by decide)] at he
      rw [← he, q]
      rfl
  · rw [hv.1]
    rcases her with q | q
    · rw [q, if_pos (show nI 0 = 0 from rfl)] at he ⊢
      rw [← he, hv.2 (l - 1) (by omega) (by omega)]
      rfl
    · rw [q, if_neg (by decide)] at he ⊢
      rw [← he]
      rfl
