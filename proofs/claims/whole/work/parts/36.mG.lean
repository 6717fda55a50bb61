/-! ===== the reference: which ends join ===== -/
def aJ : Nat → Bool := fun k => Nat.beq k 24 || Nat.beq k 25 || Nat.beq k 31
theorem aLJ (k : Nat) (h : aJ k = false) : aL k = false := by
  unfold aJ at h
  unfold aL
  simp only [Bool.or_eq_false_iff] at h ⊢
  exact h.1
theorem aJR (k : Nat) (h : aR k = false) : aJ k = false := by
  unfold aR at h
  unfold aJ
  simp only [Bool.or_eq_false_iff] at h ⊢
  exact ⟨⟨h.1.1.1.1, h.1.1.1.2⟩, h.1.1.2⟩
theorem mE.LJ {S S' : ms_S} (h : mE fL aL S S') : mE fL aJ S S' := h.mono (fun _ q => q) aLJ
theorem mE.JR {S S' : ms_S} (h : mE fL aJ S S') : mE fR aR S S' := h.mono fLR aJR
def bitsN (f : Nat → Bool) : Nat → Nat
  | 0 => 0
  | c + 1 => bitsN f c ||| (if f c = true then 2 ^ c else 0)
theorem bitsN_lt (f : Nat → Bool) : ∀ n, bitsN f n < 2 ^ n
  | 0 => by simp [bitsN]
  | n + 1 => by
    have h1 := bitsN_lt f n
    unfold bitsN
    apply Nat.or_lt_two_pow
    · have := Nat.pow_lt_pow_right (show 1 < 2 by omega) (show n < n + 1 by omega)
      omega
    · split
      · exact Nat.pow_lt_pow_right (by omega) (by omega)
      · exact Nat.two_pow_pos _
theorem bitsN_tb (f : Nat → Bool) (k : Nat) : ∀ n, (bitsN f n).testBit k = (decide (k < n) && f k)
  | 0 => by simp [bitsN]
  | n + 1 => by
    unfold bitsN
    rw [Nat.testBit_or, bitsN_tb f k n]
    by_cases h1 : k = n
    · subst h1
      cases hf : f k <;> simp [Nat.testBit_two_pow]
    · by_cases h2 : k < n
      · have h3 : k < n + 1 := by omega
        split <;> simp [h2, h3, Nat.testBit_two_pow]
        intro q; omega
      · have h3 : ¬ k < n + 1 := by omega
        split <;> simp [h2, h3, Nat.testBit_two_pow]
        intro q; omega
/-- end a joins end c on day dy -/
def jnK (P : tPL) (dy : Nat) (aj : Bool) (x y : Nat) : Bool := (if P.2.2.2.2.2.1 0 = true then (match P.2.2.2.2.2.2 0 (env x y 0 (absd x y) 0 0 dy) with | none => decide (x = y) | some v => decide (¬ v = 0)) else decide (x = y)) || aj
theorem nu_set {x c : Nat} (hc : c < 31) : nI x ||| (nI 1 <<< (nI c &&& 31)) = nI (x ||| 2 ^ c) := by
  rw [nu_shl (by omega) (by have := Nat.pow_lt_pow_right (show 1 < 2 by omega) hc; omega), nu_or, Nat.one_mul]
set_option maxRecDepth 100000 in
set_option maxHeartbeats 4000000 in
theorem c_layJoins (G : ab_G) (fr : Bool) (S : ms_S) (tl : ab_H) (P : tPL) (s : tES) (bb : Nat) (hP : mPL S P) (hs : mES S bb s) (hbb : bb < 2) :
    ab_CT G 4 M_X12_layJoins fr [.ref 0, .int (nI bb)] (hM S tl) 0 0 (fun r h' => ∃ S', h' = hM S' tl ∧ mE fL aJ S S' ∧ (∀ x, x < 7 → a_joined S' x = nI (bitsN (jnK P s.2.2.2.2 (decide (¬ m_allJoin S = 0)) x) 7)) ∧ r = none) := by
  refine wp_ct o_X12_layJoins (Nat.le_of_ble_eq_true rfl) ?_
  generalize hpost : (fun (r : Option Value) (h' : ab_H) => ∃ S', h' = hM S' tl ∧ mE fL aJ S S' ∧ (∀ x, x < 7 → a_joined S' x = nI (bitsN (jnK P s.2.2.2.2 (decide (¬ m_allJoin S = 0)) x) 7)) ∧ r = none) = post
  generalize (hM S tl).length = n0
  generalize haj : decide (¬ m_allJoin S = 0) = aj
  rw [haj] at hpost
  iterate 2 refine ws_s rfl ?_
  refine wp_downX (X := ms_S × Option Value × Option Value × Option Value × Option Value) 7 (fun x X => mE fL aJ S X.1 ∧ ∀ y, y < x → a_joined X.1 y = nI (bitsN (jnK P s.2.2.2.2 aj y) 7)) (fun x X => [some (.ref 0), some (.int (nI bb)), some (.int (nI x)), X.2.1, X.2.2.1, X.2.2.2.1, X.2.2.2.2]) (fun X => hM X.1 tl) ?_ ?_ (S, none, none, none, none) ⟨mE.rf, fun y hy => by omega⟩
  · rintro ⟨S1, d3, d4, d5, d6⟩ ⟨hm, hj⟩
    repeat refine ws_s rfl ?_
    refine wp_rv rfl rfl ?_
    rw [← hpost]
    exact ⟨S1, rfl, hm, hj, rfl⟩
  · rintro x ⟨S1, d3, d4, d5, d6⟩ hx ⟨hm, hj⟩ kx
    dsimp only at hm hj ⊢
    have ex : (nI x).toNatClampNeg = x := nI_clamp (by omega)
    have gx : vp_in (nI x) 7 := vp_in_nI hx (by decide)
    repeat refine ws_s rfl ?_
    refine wp_ite (fun hq => absurd hq (nI_ge hx (by decide))) (fun hq => ?_)
    repeat refine ws_s rfl ?_
    refine ws_g rfl gx ?_
    rw [ex]
    iterate 2 refine ws_s rfl ?_
    refine wp_downX (X := ms_S × Option Value × Option Value × Option Value) 7 (fun y X => mE fL aJ S X.1 ∧ (∀ z, z < x → a_joined X.1 z = nI (bitsN (jnK P s.2.2.2.2 aj z) 7)) ∧ a_joined X.1 x = nI (bitsN (jnK P s.2.2.2.2 aj x) y)) (fun y X => [some (.ref 0), some (.int (nI bb)), some (.int (nI x)), some (.int (nI y)), X.2.1, X.2.2.1, X.2.2.2]) (fun X => hM X.1 tl) ?_ ?_ (sA S1 31 x (nI 0), _, _, _) ⟨hm.tr (mE.sA rfl), fun z hz => ?_, ?_⟩
    · rintro ⟨S2, e4, e5, e6⟩ ⟨hm2, hj2, hj3⟩
      repeat refine ws_s rfl ?_
      refine ws_b rfl ?_
      refine wp_eqL (by rw [← nI_add]; rfl) (kx (S2, some (.int (nI 7)), e4, e5, e6) ⟨hm2, fun z hz => ?_⟩)
      by_cases hz2 : z = x
      · subst hz2; exact hj3
      · exact hj2 z (by omega)
    · rintro y ⟨S2, e4, e5, e6⟩ hy ⟨hm2, hj2, hj3⟩ ky
      dsimp only at hm2 hj2 hj3 ⊢
      have K103 : ∀ (S3 : ms_S) (isv : Bool) (g5 g6 : Option Value), mE fL aJ S S3 → (∀ z, z < x → a_joined S3 z = nI (bitsN (jnK P s.2.2.2.2 aj z) 7)) → a_joined S3 x = nI (bitsN (jnK P s.2.2.2.2 aj x) y) → (isv || aj) = jnK P s.2.2.2.2 aj x y → wp G 4 M_X12_layJoins fr n0 post 103 [some (.ref 0), some (.int (nI bb)), some (.int (nI x)), some (.int (nI y)), some (.int (bI isv)), g5, g6] [] (hM S3 tl) := by
        intro S3 isv g5 g6 hm3 hj4 hj5 hb
        have eaj : S3.1 0 60 = m_allJoin S := hm3.1 0 60 (Or.inr rfl)
        have ej : S3.2.2.2.1 31 (nI x).toNatClampNeg = nI (bitsN (jnK P s.2.2.2.2 aj x) y) := by rw [ex]; exact hj5
        -- behind the choice
        have K129 : ∀ v : Int32, nI (bitsN (jnK P s.2.2.2.2 aj x) y) ||| v = nI (bitsN (jnK P s.2.2.2.2 aj x) (y + 1)) → wp G 4 M_X12_layJoins fr n0 post 129 [some (.ref 0), some (.int (nI bb)), some (.int (nI x)), some (.int (nI y)), some (.int (bI isv)), g5, g6] [.int v, .int (nI (bitsN (jnK P s.2.2.2.2 aj x) y)), .int (nI x), .ref 31] (hM S3 tl) := by
          intro v hv
          repeat refine ws_s rfl ?_
          rw [hv]
          refine ws_g rfl gx ?_
          rw [ex]
          repeat refine ws_s rfl ?_
          refine ws_b rfl ?_
          refine wp_eqL (by rw [← nI_add]; rfl) (ky (sA S3 31 x (nI (bitsN (jnK P s.2.2.2.2 aj x) (y + 1))), some (.int (bI isv)), g5, g6) ⟨hm3.tr (mE.sA rfl), fun z hz => ?_, ?_⟩)
          · show upd (S3.2.2.2.1 31) x _ z = _
            rw [pk_un (by omega)]
            exact hj4 z hz
          · show upd (S3.2.2.2.1 31) x _ x = _
            rw [pk_us]
        have on : jnK P s.2.2.2.2 aj x y = true → wp G 4 M_X12_layJoins fr n0 post 122 [some (.ref 0), some (.int (nI bb)), some (.int (nI x)), some (.int (nI y)), some (.int (bI isv)), g5, g6] [.int (nI (bitsN (jnK P s.2.2.2.2 aj x) y)), .int (nI x), .ref 31] (hM S3 tl) := by
          intro hj
          iterate 4 refine ws_s rfl ?_
          refine K129 _ ?_
          rw [nu_set (by omega)]
          show _ = nI (_ ||| (if jnK P s.2.2.2.2 aj x y = true then 2 ^ y else 0))
          rw [if_pos hj]
        repeat refine ws_s rfl ?_
        refine ws_g rfl gx ?_
        rw [ej]
        cases isv with
        | true =>
          iterate 2 refine ws_s rfl ?_
          exact on (by rw [← hb]; rfl)
        | false =>
          iterate 5 refine ws_s rfl ?_
          cases aj with
          | true =>
            refine wp_ite (fun hq => absurd (eaj.symm.trans hq) (of_decide_eq_true haj)) (fun _ => on (by rw [← hb]; rfl))
          | false =>
            refine wp_ite (fun _ => ?_) (fun hq => absurd haj (by rw [decide_eq_true (show ¬ m_allJoin S = 0 from fun z => hq (eaj.trans z))]; decide))
            iterate 1 refine ws_s rfl ?_
            refine K129 _ ?_
            rw [nu_or]
            show _ = nI (_ ||| (if jnK P s.2.2.2.2 false x y = true then 2 ^ y else 0))
            rw [if_neg (by rw [← hb]; decide)]
      have K33 : ∀ g4 : Option Value, wp G 4 M_X12_layJoins fr n0 post 33 [some (.ref 0), some (.int (nI bb)), some (.int (nI x)), some (.int (nI y)), g4, e5, e6] [.int (bI (decide (x = y)))] (hM S2 tl) := by
        intro g4
        obtain ⟨t1, t2⟩ := (mPL_mE hm2.JR hP).2.2.2.2.2 0 (by omega)
        repeat refine ws_s rfl ?_
        refine ws_g rfl (vp_in_nI (by decide) (by decide)) ?_
        rw [show S2.2.2.2.1 16 (nI 0).toNatClampNeg = bI (P.2.2.2.2.2.1 0) from t1]
        cases ht : P.2.2.2.2.2.1 0 with
        | false =>
          iterate 1 refine ws_s rfl ?_
          exact K103 S2 (decide (x = y)) _ _ hm2 hj2 hj3 (by unfold jnK; rw [if_neg (by rw [ht]; decide)])
        | true =>
          have ed : S2.2.2.2.1 30 (nI bb).toNatClampNeg = nI s.2.2.2.2 := by rw [nI_clamp (by omega)]; exact (mES_mE hm2.JR hs).2.2.2.2.1
          repeat refine ws_s rfl ?_
          refine wp_S (c_apartOf G fr (nI x) (nI y) (hM S2 tl)) rfl rfl o_X12_apartOf s_X12_apartOf rfl rfl (by show (1 + (1 + (1 + (1 + 0)))) ≤ 8; decide) (by decide) ?_
          rw [apart_nI (by omega) (by omega)]
          refine wp_V (c_layNames G fr S2 tl (nI x) (nI y) (nI 0) (nI (absd x y))) rfl rfl o_X12_layNames v_X12_layNames rfl rfl rfl (by decide) (by decide) ?_
          repeat refine ws_s rfl ?_
          refine ws_g rfl (vp_in_nI hbb (by decide)) ?_
          rw [show (sL (sL (sL (sL (sL (sL S2 24 0 (nI x).toInt64) 24 1 (nI y).toInt64) 24 2 (nI 0).toInt64) 24 3 (nI (absd x y)).toInt64) 24 4 (lN 0)) 24 5 (lN 0)).2.2.2.1 30 (nI bb).toNatClampNeg = nI s.2.2.2.2 from ed]
          repeat refine ws_s rfl ?_
          refine ws_g rfl (vp_in_nI (by decide) (by decide)) ?_
          repeat refine ws_s rfl ?_
          have hm3 : mE fL aL S2 (sL (sL (sL (sL (sL (sL (sL S2 24 0 (nI x).toInt64) 24 1 (nI y).toInt64) 24 2 (nI 0).toInt64) 24 3 (nI (absd x y)).toInt64) 24 4 (lN 0)) 24 5 (lN 0)) 24 6 (nI s.2.2.2.2).toInt64) := (lnS_mE S2 _ _ _ _).tr (mE.sL rfl)
          refine wp_cV rfl rfl o_X12_lawOf v_X12_lawOf (c_law G fr (sL (sL (sL (sL (sL (sL (sL S2 24 0 (nI x).toInt64) 24 1 (nI y).toInt64) 24 2 (nI 0).toInt64) 24 3 (nI (absd x y)).toInt64) 24 4 (lN 0)) 24 5 (lN 0)) 24 6 (nI s.2.2.2.2).toInt64) tl 0 (P.2.2.2.2.2.2 0) (by decide) (lwE_mE hm3.LR (t2 ht)) (env x y 0 (absd x y) 0 0 s.2.2.2.2) (fun i hi => ?_)) rfl rfl rfl (by decide) (by decide) ?_
          · match i, hi with
            | 0, _ => rfl
            | 1, _ => rfl
            | 2, _ => rfl
            | 3, _ => rfl
            | 4, _ => exact (by decide : lN 0 = (nI 0).toInt64)
            | 5, _ => exact (by decide : lN 0 = (nI 0).toInt64)
            | 6, _ => rfl
            | n + 7, h => omega
          · rintro r h' ⟨S3, rfl, hm4, her, rfl⟩
            have hm5 := hm3.tr hm4
            have hm6 : mE fL aJ S S3 := hm2.tr hm5.LJ
            have a31 : S3.2.2.2.1 31 = S2.2.2.2.1 31 := hm5.2.2.2.1 31 rfl
            have hj4 : ∀ z, z < x → a_joined S3 z = nI (bitsN (jnK P s.2.2.2.2 aj z) 7) := fun z hz => (congrFun a31 z).trans (hj2 z hz)
            have hj5 : a_joined S3 x = nI (bitsN (jnK P s.2.2.2.2 aj x) y) := (congrFun a31 x).trans hj3
            repeat refine ws_s rfl ?_
            rw [show S3.1 0 51 = _ from her]
            cases hv : P.2.2.2.2.2.2 0 (env x y 0 (absd x y) 0 0 s.2.2.2.2) with
            | none =>
              iterate 3 refine ws_s rfl ?_
              exact K103 S3 (decide (x = y)) _ _ hm6 hj4 hj5 (by unfold jnK; rw [if_pos ht, hv])
            | some v =>
              repeat refine ws_s rfl ?_
              refine wp_ite (fun hq2 => ?_) (fun hq2 => ?_)
              · have hb : decide (¬ v = 0) = false := decide_eq_false (fun z => z ((lg_cmp_eq _ _).mp hq2))
                iterate 2 refine ws_s rfl ?_
                exact K103 S3 false _ _ hm6 hj4 hj5 (by unfold jnK; rw [if_pos ht, hv]; dsimp only; rw [hb])
              · have hb : decide (¬ v = 0) = true := decide_eq_true (mt (lg_cmp_eq _ _).mpr hq2)
                iterate 3 refine ws_s rfl ?_
                exact K103 S3 true _ _ hm6 hj4 hj5 (by unfold jnK; rw [if_pos ht, hv]; dsimp only; rw [hb])
      repeat refine ws_s rfl ?_
      refine wp_ite (fun hq => absurd hq (nI_ge hy (by decide))) (fun hq => ?_)
      repeat refine ws_s rfl ?_
      refine wp_ite (fun hq2 => ?_) (fun hq2 => ?_)
      · have hxy : x = y := (nI_eq (by omega) (by omega)).mp hq2
        iterate 2 refine ws_s rfl ?_
        have := K33 e4
        rw [decide_eq_true hxy] at this
        exact this
      · have hxy : ¬ x = y := fun z => hq2 (by rw [z])
        iterate 1 refine ws_s rfl ?_
        have := K33 e4
        rw [decide_eq_false hxy] at this
        exact this
    · show upd (S1.2.2.2.1 31) x (nI 0) z = _
      rw [pk_un (by omega)]
      exact hj z hz
    · show upd (S1.2.2.2.1 31) x (nI 0) x = _
      rw [pk_us]
      rfl
