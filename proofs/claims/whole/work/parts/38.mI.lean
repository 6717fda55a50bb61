/-! ===== the reference: the table of rows ===== -/
def rowF (P : tPL) (jb : Nat → Nat) (f : Nat) : Nat → Nat → Nat
  | 0, _ => 0
  | n + 1, set => ltN P.2.2.1 P.2.2.2.1 jb (rowF P jb f n) set f P.1
theorem rowF_st (P : tPL) (jb : Nat → Nat) (f : Nat) : ∀ n m set, set < n → set < m → rowF P jb f n set = rowF P jb f m set
  | 0, m, set, h, _ => by omega
  | n + 1, 0, set, _, h => by omega
  | n + 1, m + 1, set, h1, h2 => ltN_congr (fun q hq => rowF_st P jb f n m q (by omega) (by omega)) _
/-- the last ends (bits) of the rows of a set that begin with f; jb says (bits) what an end joins -/
def rowT (P : tPL) (jb : Nat → Nat) (set f : Nat) : Nat := rowF P jb f (set + 1) set
theorem rowT_eq (P : tPL) (jb : Nat → Nat) (set f : Nat) : rowT P jb set f = ltN P.2.2.1 P.2.2.2.1 jb (fun q => rowT P jb q f) set f P.1 := ltN_congr (fun q hq => rowF_st P jb f set (q + 1) q hq (by omega)) _
theorem rowT_lt (P : tPL) (jb : Nat → Nat) (set f : Nat) (ho : ∀ p, p < P.1 → P.2.2.1 p < 7 ∧ P.2.2.2.1 p < 7) : rowT P jb set f < 2 ^ 7 := by
  rw [rowT_eq]
  exact ltN_lt _ _ _ _ _ _ _ ho _ (Nat.le_refl _)
theorem ltN_0 (one oth jb T : Nat → Nat) (f : Nat) : ∀ p, ltN one oth jb T 0 f p = 0
  | 0 => rfl
  | p + 1 => by
    unfold ltN
    rw [if_neg (by rw [Nat.zero_testBit]; decide)]
    exact ltN_0 one oth jb T f p
theorem rowT_0 (P : tPL) (jb : Nat → Nat) (f : Nat) : rowT P jb 0 f = 0 := by
  rw [rowT_eq]
  exact ltN_0 _ _ _ _ _ _
/-- the table stands for the joins jb -/
def mRT (S : ms_S) (P : tPL) (jb : Nat → Nat) : Prop := ∀ set, set < 2 ^ P.1 → ∀ f, f < 7 → a_lasts S (7 * set + f) = nI (rowT P jb set f)
/-- if it is said to stand, it stands for the joins by which it was laid -/
def mRW (S : ms_S) (P : tPL) : Prop := m_areLaid S = nI 0 ∨ (m_areLaid S = nI 1 ∧ ∃ jb : Nat → Nat, (∀ e, e < 7 → a_laidBy S e = nI (jb e) ∧ jb e < 2 ^ 7) ∧ mRT S P jb)
theorem rowT_jb {P : tPL} {jb jb' : Nat → Nat} (h : ∀ e, e < 7 → jb e = jb' e) (set f : Nat) : rowT P jb set f = rowT P jb' set f := by
  have hb : ∀ x y en e, e ≤ 7 → bhN jb x y en e = bhN jb' x y en e := by
    intro x y en e
    induction e with
    | zero => intro _; rfl
    | succ e ih => intro he; unfold bhN; rw [ih (by omega), h e (by omega)]
  have hl : ∀ T set f p, ltN P.2.2.1 P.2.2.2.1 jb T set f p = ltN P.2.2.1 P.2.2.2.1 jb' T set f p := by
    intro T set f p
    induction p with
    | zero => rfl
    | succ p ih => unfold ltN; rw [ih, hb _ _ _ 7 (Nat.le_refl _)]
  have hf : ∀ n set, rowF P jb f n set = rowF P jb' f n set := by
    intro n
    induction n with
    | zero => intro _; rfl
    | succ n ih => intro set; unfold rowF; rw [hl]; exact ltN_congr (fun q _ => ih q) _
  exact hf _ _
set_option maxRecDepth 100000 in
set_option maxHeartbeats 4000000 in
theorem c_layRows (G : ab_G) (fr : Bool) (S : ms_S) (tl : ab_H) (P : tPL) (s : tES) (bb : Nat) (hP : mPL S P) (hs : mES S bb s) (hbb : bb < 2) (hW : mRW S P) :
    ab_CT G 5 M_X12_layRows fr [.ref 0, .int (nI bb)] (hM S tl) 0 0 (fun r h' => ∃ S', h' = hM S' tl ∧ mE fR aR S S' ∧ (∀ x, x < 7 → a_joined S' x = nI (bitsN (jnK P s.2.2.2.2 (decide (¬ m_allJoin S = 0)) x) 7)) ∧ mRT S' P (fun x => bitsN (jnK P s.2.2.2.2 (decide (¬ m_allJoin S = 0)) x) 7) ∧ mRW S' P ∧ r = none) := by
  refine wp_ct o_X12_layRows (Nat.le_of_ble_eq_true rfl) ?_
  generalize hjb : (fun x => bitsN (jnK P s.2.2.2.2 (decide (¬ m_allJoin S = 0)) x) 7) = jb
  have hjx : ∀ x, bitsN (jnK P s.2.2.2.2 (decide (¬ m_allJoin S = 0)) x) 7 = jb x := fun x => congrFun hjb x
  have hjl : ∀ x, jb x < 2 ^ 7 := fun x => by rw [← hjx]; exact bitsN_lt _ _
  simp only [hjx]
  generalize hpost : (fun (r : Option Value) (h' : ab_H) => ∃ S', h' = hM S' tl ∧ mE fR aR S S' ∧ (∀ x, x < 7 → a_joined S' x = nI (jb x)) ∧ mRT S' P jb ∧ mRW S' P ∧ r = none) = post
  generalize (hM S tl).length = n0
  repeat refine ws_s rfl ?_
  refine wp_cV rfl rfl o_X12_layJoins v_X12_layJoins (c_layJoins G fr S tl P s bb hP hs hbb) rfl rfl rfl (by decide) (by decide) ?_
  rintro r h' ⟨S1, rfl, hm1, hj1, rfl⟩
  simp only [hjx] at hj1
  obtain ⟨q1, q2, q3, q4, q5, q6⟩ := mPL_mE hm1.JR hP
  have aL33 : S1.2.2.2.1 33 = S.2.2.2.1 33 := hm1.2.2.2.1 33 rfl
  have aL32 : S1.2.2.2.1 32 = S.2.2.2.1 32 := hm1.2.2.2.1 32 rfl
  have f68 : S1.1 0 68 = S.1 0 68 := hm1.1 0 68 (Or.inr rfl)
  -- was the table laid by the same joins?
  have hW1 : mRW S1 P := by
    rcases hW with w | ⟨w1, jw, w2, w3⟩
    · exact Or.inl (f68.trans w)
    · exact Or.inr ⟨f68.trans w1, jw, fun e he => ⟨(congrFun aL33 e).trans (w2 e he).1, (w2 e he).2⟩, fun set h1 f h2 => (congrFun aL32 _).trans (w3 set h1 f h2)⟩
  obtain ⟨sm, hsm, hsame⟩ : ∃ sm : Bool, S1.1 0 68 = bI sm ∧ (sm = true → ∃ jw : Nat → Nat, (∀ e, e < 7 → a_laidBy S1 e = nI (jw e) ∧ jw e < 2 ^ 7) ∧ mRT S1 P jw) := by
    rcases hW1 with w | ⟨w1, w2⟩
    · exact ⟨false, w, fun q => by cases q⟩
    · exact ⟨true, w1, fun _ => w2⟩
  iterate 5 refine ws_s rfl ?_
  refine wp_eqL (L' := [some (.ref 0), some (.int (nI bb)), some (.int (bI sm)), some (.int (nI 0)), none]) (by show _ = [some (Value.ref 0), some (Value.int (nI bb)), some (Value.int (S1.1 0 68)), some (Value.int (nI 0)), none]; rw [hsm]) ?_
  -- the old joins against the new ones
  refine wp_downX (X := ms_S × Bool) 7 (fun e X => mE fR aR S1 X.1 ∧ (∀ x, a_joined X.1 x = a_joined S1 x) ∧ a_lasts X.1 = a_lasts S1 ∧ m_areLaid X.1 = m_areLaid S1 ∧ (∀ x, x < e → a_laidBy X.1 x = nI (jb x)) ∧ (∀ x, e ≤ x → a_laidBy X.1 x = a_laidBy S1 x) ∧ (X.2 = true → sm = true ∧ ∀ x, x < e → a_laidBy S1 x = nI (jb x))) (fun e X => [some (.ref 0), some (.int (nI bb)), some (.int (bI X.2)), some (.int (nI e)), none]) (fun X => hM X.1 tl) ?_ ?_ (S1, sm) ⟨mE.rf, fun _ => rfl, rfl, rfl, fun x hx => by omega, fun _ _ => rfl, fun q => ⟨q, fun x hx => by omega⟩⟩
  · rintro ⟨S2, sb⟩ ⟨m1, m2, m3, m4, m5, m6, m7⟩
    dsimp only at m1 m2 m3 m4 m5 m6 m7 ⊢
    have hmS : mE fR aR S S2 := hm1.JR.tr m1
    have hP2 := mPL_mE m1 (mPL_mE hm1.JR hP)
    obtain ⟨p1, p2, p3, p4, p5, p6⟩ := hP2
    cases sb with
    | true =>
      repeat refine ws_s rfl ?_
      refine wp_rv rfl rfl ?_
      obtain ⟨g1, g2⟩ := m7 rfl
      obtain ⟨jw, g3, g4⟩ := hsame g1
      have hjw : ∀ e, e < 7 → jw e = jb e := fun e he => (nI_eq (by have := (g3 e he).2; omega) (by have := hjl e; omega)).mp ((g3 e he).1.symm.trans (g2 e he))
      have hT : mRT S2 P jb := fun set h1 f h2 => by
        show a_lasts S2 _ = _
        rw [m3, ← rowT_jb hjw]
        exact g4 set h1 f h2
      rw [← hpost]
      refine ⟨S2, rfl, hmS, fun x hx => (m2 x).trans (hj1 x hx), hT, Or.inr ⟨?_, jb, fun e he => ⟨m5 e he, hjl e⟩, hT⟩, rfl⟩
      show m_areLaid S2 = nI 1
      rw [m4]
      rw [g1] at hsm
      exact hsm
    | false =>
      repeat refine ws_s rfl ?_
      refine ws_g rfl (Or.inr rfl) ?_
      iterate 2 refine ws_s rfl ?_
      refine wp_downX (X := ms_S) 7 (fun f X => mE fR aR S X ∧ (∀ x, x < 7 → a_joined X x = nI (jb x)) ∧ m_areLaid X = nI 1 ∧ (∀ x, x < 7 → a_laidBy X x = nI (jb x)) ∧ ∀ x, x < f → a_lasts X x = nI 0) (fun f X => [some (.ref 0), some (.int (nI bb)), some (.int (bI false)), some (.int (nI f)), none]) (fun X => hM X tl) ?_ ?_ (sV S2 68 (nI 1)) ⟨hmS.tr (mE.sV rfl), fun x hx => (m2 x).trans (hj1 x hx), rfl, m5, fun x hx => by omega⟩
      · rintro S3 ⟨c1, c2, c3, c4, c5⟩
        have hP3 := mPL_mE c1 hP
        iterate 5 refine ws_s rfl ?_
        -- the sets in order
        refine wp_eqL (L' := [some (.ref 0), some (.int (nI bb)), some (.int (bI false)), some (.int (nI (1 + 0))), none]) (by rfl) ?_
        have hpos := Nat.two_pow_pos P.1
        have hp512 : 2 ^ P.1 ≤ 512 := Nat.pow_le_pow_right (by omega) q1
        have ho7 : ∀ p, p < P.1 → P.2.2.1 p < 7 ∧ P.2.2.2.1 p < 7 := fun p hp => ⟨(q5 p hp).2.1, (q5 p hp).2.2.2.1⟩
        refine wp_downX (X := ms_S × Option Value) (2 ^ P.1 - 1) (fun c X => mE fR aR S X.1 ∧ (∀ x, x < 7 → a_joined X.1 x = nI (jb x)) ∧ m_areLaid X.1 = nI 1 ∧ (∀ x, x < 7 → a_laidBy X.1 x = nI (jb x)) ∧ ∀ set, set < 1 + c → ∀ f, f < 7 → a_lasts X.1 (7 * set + f) = nI (rowT P jb set f)) (fun c X => [some (.ref 0), some (.int (nI bb)), some (.int (bI false)), some (.int (nI (1 + c))), X.2]) (fun X => hM X.1 tl) ?_ ?_ (S3, none) ⟨c1, c2, c3, c4, fun set hset f hf => ?_⟩
        · rintro ⟨S4, d4⟩ ⟨b1, b2, b3, b4, b5⟩
          dsimp only at b1 b2 b3 b4 b5 ⊢
          have ep : S4.1 0 12 = nI P.1 := (mPL_mE b1 hP).2.2.1
          rw [show 1 + (2 ^ P.1 - 1) = 2 ^ P.1 by omega] at b5 ⊢
          repeat refine ws_s rfl ?_
          refine wp_ite (fun hq => ?_) (fun hq => absurd (by show nI 1 <<< (S4.1 0 12 &&& 31) ≤ nI (2 ^ P.1); rw [ep, nu_1shl (by omega)]; exact nI_le (Nat.le_refl _) (by omega)) hq)
          refine wp_rv rfl rfl ?_
          rw [← hpost]
          exact ⟨S4, rfl, b1, b2, b5, Or.inr ⟨b3, jb, fun e he => ⟨b4 e he, hjl e⟩, b5⟩, rfl⟩
        · rintro c ⟨S4, d4⟩ hc ⟨b1, b2, b3, b4, b5⟩ kc
          dsimp only at b1 b2 b3 b4 b5 ⊢
          have ep : S4.1 0 12 = nI P.1 := (mPL_mE b1 hP).2.2.1
          repeat refine ws_s rfl ?_
          refine wp_ite (fun hq => absurd hq (by show ¬ nI 1 <<< (S4.1 0 12 &&& 31) ≤ nI (1 + c); rw [ep, nu_1shl (by omega)]; exact nI_ge (by omega) (by omega))) (fun hq => ?_)
          iterate 2 refine ws_s rfl ?_
          refine wp_downX (X := ms_S) 7 (fun f X => mE fR aR S X ∧ (∀ x, x < 7 → a_joined X x = nI (jb x)) ∧ m_areLaid X = nI 1 ∧ (∀ x, x < 7 → a_laidBy X x = nI (jb x)) ∧ (∀ set, set < 1 + c → ∀ f, f < 7 → a_lasts X (7 * set + f) = nI (rowT P jb set f)) ∧ ∀ f', f' < f → a_lasts X (7 * (1 + c) + f') = nI (rowT P jb (1 + c) f')) (fun f X => [some (.ref 0), some (.int (nI bb)), some (.int (bI false)), some (.int (nI (1 + c))), some (.int (nI f))]) (fun X => hM X tl) ?_ ?_ S4 ⟨b1, b2, b3, b4, b5, fun f' hf' => by omega⟩
          · rintro S5 ⟨g1, g2, g3, g4, g5, g6⟩
            repeat refine ws_s rfl ?_
            refine ws_b rfl ?_
            refine wp_eqL (by rw [show 1 + (c + 1) = 1 + c + 1 by omega, ← nI_add (1 + c) 1]; rfl) (kc (S5, some (.int (nI 7))) ⟨g1, g2, g3, g4, fun set hset f hf => ?_⟩)
            by_cases hsc : set = 1 + c
            · rw [hsc]; exact g6 f hf
            · exact g5 set (by omega) f hf
          · intro f S5 hf ⟨g1, g2, g3, g4, g5, g6⟩ kf
            have hP5 := mPL_mE g1 hP
            repeat refine ws_s rfl ?_
            refine wp_ite (fun hq => absurd hq (nI_ge hf (by decide))) (fun hq => ?_)
            repeat refine ws_s rfl ?_
            refine wp_V (c_lastsOf G fr S5 tl jb P.2.2.1 P.2.2.2.1 (fun q => rowT P jb q f) P.1 (1 + c) f q1 hP5.2.2.1 (by omega) hf (fun e he => ⟨g2 e he, hjl e⟩) (fun p hp => by obtain ⟨o1, o2, o3, o4, -, -⟩ := hP5.2.2.2.2.1 p hp; exact ⟨o1, o2, o3, o4⟩) (fun q hq => ⟨g5 q hq f hf, rowT_lt P jb q f ho7⟩)) rfl rfl o_X12_lastsOf v_X12_lastsOf rfl rfl rfl (by show 1 + (1 + 0) ≤ 8; decide) (by decide) ?_
            rw [← rowT_eq]
            have ei : nI 7 * nI (1 + c) + nI f = nI (7 * (1 + c) + f) := by rw [pk_mul, nI_add]
            refine ws_g rfl (by show vp_in (nI 7 * nI (1 + c) + nI f) 3584; rw [ei]; exact vp_in_nI (by omega) (by decide)) ?_
            rw [ei, nI_clamp (by omega)]
            repeat refine ws_s rfl ?_
            refine ws_b rfl ?_
            refine wp_eqL (by rw [← nI_add f 1]; rfl) (kf (sA S5 32 (7 * (1 + c) + f) (nI (rowT P jb (1 + c) f))) ⟨g1.tr (mE.sA rfl), g2, g3, g4, fun set hset f' hf' => ?_, fun f' hf' => ?_⟩)
            · show upd (S5.2.2.2.1 32) (7 * (1 + c) + f) _ (7 * set + f') = _
              rw [pk_un (by omega)]
              exact g5 set hset f' hf'
            · show upd (S5.2.2.2.1 32) (7 * (1 + c) + f) _ (7 * (1 + c) + f') = _
              by_cases hff : f' = f
              · rw [hff, pk_us]
              · rw [pk_un (by omega)]; exact g6 f' (by omega)
        · have h0 : set = 0 := by omega
          subst h0
          rw [rowT_0, Nat.mul_zero, Nat.zero_add]
          exact c5 f hf
      · intro f S3 hf ⟨c1, c2, c3, c4, c5⟩ kf
        repeat refine ws_s rfl ?_
        refine wp_ite (fun hq => absurd hq (nI_ge hf (by decide))) (fun hq => ?_)
        repeat refine ws_s rfl ?_
        refine ws_g rfl (vp_in_nI (by omega) (by decide)) ?_
        rw [nI_clamp (show f < 2 ^ 31 by omega)]
        repeat refine ws_s rfl ?_
        refine ws_b rfl ?_
        refine wp_eqL (by rw [← nI_add]; rfl) (kf (sA S3 32 f (nI 0)) ⟨c1.tr (mE.sA rfl), c2, c3, c4, fun x hx => ?_⟩)
        show upd (S3.2.2.2.1 32) f (nI 0) x = _
        by_cases hxf : x = f
        · rw [hxf, pk_us]
        · rw [pk_un hxf]; exact c5 x (by omega)
  · rintro e ⟨S2, sb⟩ he ⟨m1, m2, m3, m4, m5, m6, m7⟩ ke
    dsimp only at m1 m2 m3 m4 m5 m6 m7 ⊢
    have ee : (nI e).toNatClampNeg = e := nI_clamp (by omega)
    have ge : vp_in (nI e) 7 := vp_in_nI he (by decide)
    have E1 : S2.2.2.2.1 31 (nI e).toNatClampNeg = nI (jb e) := by rw [ee]; exact (m2 e).trans (hj1 e he)
    have K42 : ∀ (sb' : Bool), (sb' = true → sm = true ∧ ∀ x, x < e + 1 → a_laidBy S1 x = nI (jb x)) → wp G 5 M_X12_layRows fr n0 post 42 [some (.ref 0), some (.int (nI bb)), some (.int (bI sb)), some (.int (nI e)), none] [.int (bI sb')] (hM S2 tl) := by
      intro sb' hsb
      repeat refine ws_s rfl ?_
      refine ws_g rfl ge ?_
      rw [E1]
      refine ws_g rfl ge ?_
      rw [ee]
      repeat refine ws_s rfl ?_
      refine ws_b rfl ?_
      refine wp_eqL (by rw [← nI_add]; rfl) (ke (sA S2 33 e (nI (jb e)), sb') ⟨m1.tr (mE.sA rfl), m2, m3, m4, fun x hx => ?_, fun x hx => ?_, hsb⟩)
      · show upd (S2.2.2.2.1 33) e (nI (jb e)) x = _
        by_cases hxe : x = e
        · rw [hxe, pk_us]
        · rw [pk_un hxe]; exact m5 x (by omega)
      · show upd (S2.2.2.2.1 33) e (nI (jb e)) x = _
        rw [pk_un (by omega)]
        exact m6 x (by omega)
    repeat refine ws_s rfl ?_
    refine wp_ite (fun hq => absurd hq (nI_ge he (by decide))) (fun hq => ?_)
    cases sb with
    | false =>
      iterate 3 refine ws_s rfl ?_
      exact K42 false (fun q => by cases q)
    | true =>
      repeat refine ws_s rfl ?_
      refine ws_g rfl ge ?_
      repeat refine ws_s rfl ?_
      refine ws_g rfl ge ?_
      rw [E1, ee]
      iterate 1 refine ws_s rfl ?_
      refine wp_ite (fun hq2 => ?_) (fun hq2 => ?_)
      · iterate 2 refine ws_s rfl ?_
        refine K42 true (fun _ => ⟨(m7 rfl).1, fun x hx => ?_⟩)
        by_cases hxe : x = e
        · rw [hxe, ← m6 e (Nat.le_refl _)]; exact hq2
        · exact (m7 rfl).2 x (by omega)
      · iterate 1 refine ws_s rfl ?_
        exact K42 false (fun q => by cases q)
/-- there is a row of all of a set -/
def isRowK (P : tPL) (jb : Nat → Nat) (set : Nat) : Nat → Bool
  | 0 => false
  | f + 1 => isRowK P jb set f || decide (¬ rowT P jb set f = 0)
set_option maxRecDepth 100000 in
set_option maxHeartbeats 4000000 in
theorem c_isRow (G : ab_G) (fr : Bool) (S : ms_S) (tl : ab_H) (P : tPL) (jb : Nat → Nat) (set : Nat) (hP : mPL S P) (hT : mRT S P jb) (hset : set < 2 ^ P.1) :
    ab_CT G 1 M_X12_isRow fr [.ref 0, .int (nI set)] (hM S tl) 0 0 (fun r h' => r = some (.int (bI (isRowK P jb set 7))) ∧ h' = hM S tl) := by
  refine ct_of o_X12_isRow (Nat.le_of_ble_eq_true rfl) (fun n0 post hp => ?_)
  obtain ⟨q1, q2, q3, q4, q5, q6⟩ := hP
  have hp512 : 2 ^ P.1 ≤ 512 := Nat.pow_le_pow_right (by omega) q1
  have ho7 : ∀ p, p < P.1 → P.2.2.1 p < 7 ∧ P.2.2.2.1 p < 7 := fun p hp => ⟨(q5 p hp).2.1, (q5 p hp).2.2.2.1⟩
  iterate 2 refine ws_s rfl ?_
  refine wp_downI 7 (fun f => isRowK P jb set f = false) (fun f => [some (.ref 0), some (.int (nI set)), some (.int (nI f))]) (fun _ => hM S tl) rfl (fun hI => ?_) (fun f hf hI k => ?_)
  · rw [hI] at hp
    repeat refine ws_s rfl ?_
    exact wp_ri rfl rfl rfl hp
  · have ei : nI 7 * nI set + nI f = nI (7 * set + f) := by rw [pk_mul, nI_add]
    repeat refine ws_s rfl ?_
    refine wp_ite (fun hq => absurd hq (nI_ge hf (by decide))) (fun hq => ?_)
    repeat refine ws_s rfl ?_
    refine ws_g rfl (by show vp_in (nI 7 * nI set + nI f) 3584; rw [ei]; exact vp_in_nI (by omega) (by decide)) ?_
    rw [ei, nI_clamp (by omega), show S.2.2.2.1 32 (7 * set + f) = nI (rowT P jb set f) from hT set hset f hf]
    have hlt := rowT_lt P jb set f ho7
    iterate 1 refine ws_s rfl ?_
    refine wp_ite (fun hq2 => ?_) (fun hq2 => ?_)
    · have hz : rowT P jb set f = 0 := (nI_eq (by omega) (by decide)).mp hq2
      repeat refine ws_s rfl ?_
      refine ws_b rfl ?_
      exact wp_eqL (by rw [← nI_add f 1]; rfl) (k (by show (isRowK P jb set f || decide (¬ rowT P jb set f = 0)) = false; rw [hI, hz]; rfl))
    · have hz : ¬ rowT P jb set f = 0 := fun z => hq2 (by rw [z]; rfl)
      have hr : isRowK P jb set 7 = true := by
        have key : ∀ n, f < n → isRowK P jb set n = true := by
          intro n
          induction n with
          | zero => intro h; omega
          | succ n ih =>
            intro h
            show (isRowK P jb set n || decide (¬ rowT P jb set n = 0)) = true
            by_cases hfn : f = n
            · subst hfn; rw [decide_eq_true hz, Bool.or_true]
            · rw [ih (by omega), Bool.true_or]
        exact key 7 hf
      rw [hr] at hp
      repeat refine ws_s rfl ?_
      exact wp_ri rfl rfl rfl hp
