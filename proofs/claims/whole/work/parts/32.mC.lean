/-! ===== the reference: a knot's value, a law's value ===== -/
theorem u2_id {α : Type} (V : Nat → Nat → α) (a k : Nat) : u2 V a k (V a k) = V := by
  funext i j
  by_cases h1 : i = a
  · by_cases h2 : j = k
    · subst h1; subst h2; exact u2_eq
    · exact u2_ne (Or.inr h2)
  · exact u2_ne (Or.inl h1)
theorem u2_u2 {α : Type} (V : Nat → Nat → α) (a k : Nat) (x y : α) : u2 (u2 V a k x) a k y = u2 V a k y := by
  funext i j
  by_cases h1 : i = a ∧ j = k
  · obtain ⟨rfl, rfl⟩ := h1
    rw [u2_eq, u2_eq]
  · have : i ≠ a ∨ j ≠ k := by
      by_cases h2 : i = a
      · exact Or.inr (fun q => h1 ⟨h2, q⟩)
      · exact Or.inl h2
    rw [u2_ne this, u2_ne this, u2_ne this]
theorem u1_u1 {α : Type} (V : Nat → α) (a : Nat) (x y : α) : u1 (u1 V a x) a y = u1 V a y := by
  funext i
  by_cases h1 : i = a
  · subst h1; rw [u1_eq, u1_eq]
  · rw [u1_ne h1, u1_ne h1, u1_ne h1]
theorem u1_id {α : Type} (V : Nat → α) (a : Nat) : u1 V a (V a) = V := by
  funext i
  by_cases h1 : i = a
  · subst h1; rw [u1_eq]
  · rw [u1_ne h1]
theorem sV_id (S : ms_S) (k : Nat) : sV S k (S.1 0 k) = S := by
  show (u2 S.1 0 k (S.1 0 k), S.2) = S
  rw [u2_id]
def dvE (er : Int32) (y : Int64) : Prop := ¬ er = 0 ∨ y = 0
def dvD (er : Int32) (y : Int64) : Decidable (dvE er y) := by unfold dvE; infer_instance
def mVal (k : Nat) (pI : Int32) (x y nv : Int64) (er : Int32) : Int64 × Int32 := match k with
  | 0 => (pI.toInt64, er)
  | 1 => (nv, er)
  | 2 => (bL (decide (x = 0)), er)
  | 3 => (bL (decide (¬ x = 0 ∧ ¬ y = 0)), er)
  | 4 => (bL (decide (¬ x = 0 ∨ ¬ y = 0)), er)
  | 11 => (@ite _ (bdE er (x + y)) (bdD _ _) (lN 0) (x + y), @ite _ (bdE er (x + y)) (bdD _ _) (nI 1) (nI 0))
  | 12 => (@ite _ (bdE er (x - y)) (bdD _ _) (lN 0) (x - y), @ite _ (bdE er (x - y)) (bdD _ _) (nI 1) (nI 0))
  | 13 => (@ite _ (tmF er x y) (tmD _ _ _) (lN 0) (x * y), @ite _ (tmF er x y) (tmD _ _ _) (nI 1) (nI 0))
  | 14 => (@ite _ (dvE er y) (dvD _ _) (lN 0) (x / y), @ite _ (dvE er y) (dvD _ _) (nI 1) (nI 0))
  | k => (bL (cmN k x y), er)
set_option maxRecDepth 100000 in
set_option maxHeartbeats 4000000 in
theorem c_valueOf (G : ab_G) (fr : Bool) (S : ms_S) (tl : ab_H) (i k pj oj : Nat) (hi : i < 64) (hk : a_knot S i = nI k) (hk14 : k ≤ 14) (h1 : k = 1 → a_part S i = nI pj ∧ pj < 7) (h2 : 2 ≤ k → a_part S i = nI pj ∧ pj < 64) (h3 : 3 ≤ k → a_other S i = nI oj ∧ oj < 64) :
    ab_CT G 2 M_X12_valueOf fr [.ref 0, .int (nI i)] (hM S tl) 0 0 (fun r h' => r = some (.long (mVal k (a_part S i) (a_value S pj) (a_value S oj) (a_names S pj) (m_isError S)).1) ∧ h' = hM (sV S 51 (mVal k (a_part S i) (a_value S pj) (a_value S oj) (a_names S pj) (m_isError S)).2) tl) := by
  refine ct_of o_X12_valueOf (Nat.le_of_ble_eq_true rfl) (fun n0 post hp => ?_)
  have ei : (nI i).toNatClampNeg = i := nI_clamp (by omega)
  have ek : S.2.2.2.1 19 (nI i).toNatClampNeg = nI k := by rw [ei]; exact hk
  have gi : vp_in (nI i) 128 := vp_in_nI (by omega) (by omega)
  have same : ∀ v : Int64, post (some (.long v)) (hM (sV S 51 (m_isError S)) tl) → post (some (.long v)) (hM S tl) := by
    intro v q
    rw [sV_id] at q
    exact q
  repeat refine ws_s rfl ?_
  refine ws_g rfl gi ?_
  rw [ek]
  by_cases hk0 : k = 0
  · subst hk0
    repeat refine ws_s rfl ?_
    refine ws_g rfl gi ?_
    repeat refine ws_s rfl ?_
    rw [ei]
    exact wp_rl rfl rfl (same _ hp)
  iterate 1 refine ws_s rfl ?_
  refine wp_ite (fun hq => absurd ((nI_eq (by omega) (by decide)).mp hq) hk0) (fun _ => ?_)
  repeat refine ws_s rfl ?_
  refine ws_g rfl gi ?_
  rw [ek]
  by_cases hk1 : k = 1
  · subst hk1
    obtain ⟨ep, hpj⟩ := h1 rfl
    have ep2 : S.2.2.2.1 20 (nI i).toNatClampNeg = nI pj := by rw [ei]; exact ep
    repeat refine ws_s rfl ?_
    refine ws_g rfl gi ?_
    rw [ep2]
    refine ws_g rfl (vp_in_nI hpj (by decide)) ?_
    rw [nI_clamp (show pj < 2 ^ 31 by omega)]
    exact wp_rl rfl rfl (same _ hp)
  repeat refine ws_s rfl ?_
  refine wp_ite (fun hq => absurd ((nI_eq (by omega) (by decide)).mp hq) hk1) (fun _ => ?_)
  obtain ⟨ep, hpj⟩ := h2 (by omega)
  have ep2 : S.2.2.2.1 20 (nI i).toNatClampNeg = nI pj := by rw [ei]; exact ep
  repeat refine ws_s rfl ?_
  refine ws_g rfl gi ?_
  rw [ep2]
  refine ws_g rfl (vp_in_nI hpj (by decide)) ?_
  rw [nI_clamp (show pj < 2 ^ 31 by omega)]
  repeat refine ws_s rfl ?_
  refine ws_g rfl gi ?_
  rw [ek]
  by_cases hk2 : k = 2
  · subst hk2
    repeat refine ws_s rfl ?_
    refine wp_ite (fun hq => ?_) (fun hq => ?_)
    · have hb : decide (a_value S pj = 0) = true := decide_eq_true ((lg_cmp_eq _ _).mp hq)
      repeat refine ws_s rfl ?_
      refine wp_rl rfl rfl (same _ ?_)
      simp only [mVal, hb] at hp
      exact hp
    · have hb : decide (a_value S pj = 0) = false := decide_eq_false (mt (lg_cmp_eq _ _).mpr hq)
      repeat refine ws_s rfl ?_
      refine wp_rl rfl rfl (same _ ?_)
      simp only [mVal, hb] at hp
      exact hp
  repeat refine ws_s rfl ?_
  refine wp_ite (fun hq => absurd ((nI_eq (by omega) (by decide)).mp hq) hk2) (fun _ => ?_)
  obtain ⟨eo, hoj⟩ := h3 (by omega)
  have eo2 : S.2.2.2.1 21 (nI i).toNatClampNeg = nI oj := by rw [ei]; exact eo
  repeat refine ws_s rfl ?_
  refine ws_g rfl gi ?_
  rw [eo2]
  refine ws_g rfl (vp_in_nI hoj (by decide)) ?_
  rw [nI_clamp (show oj < 2 ^ 31 by omega)]
  repeat refine ws_s rfl ?_
  refine ws_g rfl gi ?_
  rw [ek]
  generalize hx : a_value S pj = x at hp
  generalize hy : a_value S oj = y at hp
  rw [show S.2.2.2.2 25 pj = x from hx, show S.2.2.2.2 25 oj = y from hy]
  by_cases hk5 : 5 ≤ k ∧ k ≤ 10
  · have e9 : mVal k (a_part S i) x y (a_names S pj) (m_isError S) = (bL (cmN k x y), m_isError S) := by
      rcases (show k = 5 ∨ k = 6 ∨ k = 7 ∨ k = 8 ∨ k = 9 ∨ k = 10 by omega) with rfl | rfl | rfl | rfl | rfl | rfl <;> rfl
    rw [e9] at hp
    have K : wp G 2 M_X12_valueOf fr n0 post 259 [some (.ref 0), some (.int (nI i)), some (.long x), none, some (.long y), none] [] (hM S tl) := by
      repeat refine ws_s rfl ?_
      refine ws_g rfl gi ?_
      rw [ek]
      repeat refine ws_s rfl ?_
      refine wp_S (c_compares G fr (hM S tl) k hk5 x y) rfl rfl o_X12_compares s_X12_compares rfl rfl (by decide) (by decide) ?_
      cases hb : cmN k x y with
      | true =>
        rw [hb] at hp
        repeat refine ws_s rfl ?_
        exact wp_rl rfl rfl (same _ hp)
      | false =>
        rw [hb] at hp
        repeat refine ws_s rfl ?_
        exact wp_rl rfl rfl (same _ hp)
    rcases (show k = 5 ∨ k = 6 ∨ k = 7 ∨ k = 8 ∨ k = 9 ∨ k = 10 by omega) with rfl | rfl | rfl | rfl | rfl | rfl <;> exact wp_tsw (off := 167) (t := 259) rfl (by decide) (by decide) (by decide) (by decide) K
  rcases (show k = 3 ∨ k = 4 ∨ k = 11 ∨ k = 12 ∨ k = 13 ∨ k = 14 by omega) with rfl | rfl | rfl | rfl | rfl | rfl
  · refine wp_tsw (off := 64) (t := 156) rfl (by decide) (by decide) (by decide) (by decide) ?_
    have K0 : decide (¬ x = 0 ∧ ¬ y = 0) = false → wp G 2 M_X12_valueOf fr n0 post 173 [some (.ref 0), some (.int (nI i)), some (.long x), none, some (.long y), none] [] (hM S tl) := by
      intro hb
      repeat refine ws_s rfl ?_
      refine wp_rl rfl rfl (same _ ?_)
      simp only [mVal, hb] at hp
      exact hp
    repeat refine ws_s rfl ?_
    refine wp_ite (fun hq => K0 (decide_eq_false (fun z => z.1 ((lg_cmp_eq _ _).mp hq)))) (fun hq => ?_)
    repeat refine ws_s rfl ?_
    refine wp_ite (fun hq2 => K0 (decide_eq_false (fun z => z.2 ((lg_cmp_eq _ _).mp hq2)))) (fun hq2 => ?_)
    have hb : decide (¬ x = 0 ∧ ¬ y = 0) = true := decide_eq_true ⟨mt (lg_cmp_eq _ _).mpr hq, mt (lg_cmp_eq _ _).mpr hq2⟩
    repeat refine ws_s rfl ?_
    refine wp_rl rfl rfl (same _ ?_)
    simp only [mVal, hb] at hp
    exact hp
  · refine wp_tsw (off := 83) (t := 175) rfl (by decide) (by decide) (by decide) (by decide) ?_
    have K1 : decide (¬ x = 0 ∨ ¬ y = 0) = true → wp G 2 M_X12_valueOf fr n0 post 188 [some (.ref 0), some (.int (nI i)), some (.long x), none, some (.long y), none] [] (hM S tl) := by
      intro hb
      repeat refine ws_s rfl ?_
      refine wp_rl rfl rfl (same _ ?_)
      simp only [mVal, hb] at hp
      exact hp
    repeat refine ws_s rfl ?_
    refine wp_ite (fun hq => ?_) (fun hq => K1 (decide_eq_true (Or.inl (mt (lg_cmp_eq _ _).mpr hq))))
    repeat refine ws_s rfl ?_
    refine wp_ite (fun hq2 => ?_) (fun hq2 => K1 (decide_eq_true (Or.inr (mt (lg_cmp_eq _ _).mpr hq2))))
    have hb : decide (¬ x = 0 ∨ ¬ y = 0) = false := decide_eq_false (fun z => z.elim (fun z => z ((lg_cmp_eq _ _).mp hq)) (fun z => z ((lg_cmp_eq _ _).mp hq2)))
    repeat refine ws_s rfl ?_
    refine wp_rl rfl rfl (same _ ?_)
    simp only [mVal, hb] at hp
    exact hp
  · refine wp_tsw (off := 102) (t := 194) rfl (by decide) (by decide) (by decide) (by decide) ?_
    repeat refine ws_s rfl ?_
    refine wp_V (c_bounded G fr S tl (x + y)) rfl rfl o_X12_bounded v_X12_bounded rfl rfl rfl (by decide) (by decide) ?_
    exact wp_rl rfl rfl hp
  · refine wp_tsw (off := 111) (t := 203) rfl (by decide) (by decide) (by decide) (by decide) ?_
    repeat refine ws_s rfl ?_
    refine wp_V (c_bounded G fr S tl (x - y)) rfl rfl o_X12_bounded v_X12_bounded rfl rfl rfl (by decide) (by decide) ?_
    exact wp_rl rfl rfl hp
  · refine wp_tsw (off := 120) (t := 212) rfl (by decide) (by decide) (by decide) (by decide) ?_
    repeat refine ws_s rfl ?_
    refine wp_V (c_times G fr S tl x y) rfl rfl o_X12_times v_X12_times rfl rfl rfl (by decide) (by decide) ?_
    exact wp_rl rfl rfl hp
  · refine wp_tsw (off := 128) (t := 220) rfl (by decide) (by decide) (by decide) (by decide) ?_
    have K1 : dvE (m_isError S) y → wp G 2 M_X12_valueOf fr n0 post 235 [some (.ref 0), some (.int (nI i)), some (.long x), none, some (.long y), none] [.ref 0] (hM S tl) := by
      intro hE
      simp only [mVal, if_pos hE] at hp
      repeat refine ws_s rfl ?_
      refine ws_g rfl (Or.inr rfl) ?_
      repeat refine ws_s rfl ?_
      exact wp_rl rfl rfl hp
    repeat refine ws_s rfl ?_
    refine wp_ite (fun hq => ?_) (fun hq => K1 (Or.inl hq))
    repeat refine ws_s rfl ?_
    refine wp_ite (fun hq2 => K1 (Or.inr ((lg_cmp_eq _ _).mp hq2))) (fun hq2 => ?_)
    have hy0 : ¬ y = 0 := mt (lg_cmp_eq _ _).mpr hq2
    have hE : ¬ dvE (m_isError S) y := by
      rintro (z | z)
      · exact z hq
      · exact hy0 z
    simp only [mVal, if_neg hE] at hp
    repeat refine ws_s rfl ?_
    refine ws_g rfl (Or.inl rfl) ?_
    repeat refine ws_s rfl ?_
    refine ws_g rfl hy0 ?_
    exact wp_rl rfl rfl hp
/-! a law: values worked out one behind another -/
def lwS (S : ms_S) (v : Nat → Int64) (er : Int32) : ms_S := (u2 S.1 0 51 er, S.2.1, S.2.2.1, S.2.2.2.1, u1 S.2.2.2.2 25 v)
/-- the values and the error behind c knots from f on: kinds kn, places pj, oj -/
def lwR (kn pj oj : Nat → Nat) (pa : Nat → Int32) (nm v0 : Nat → Int64) (f : Nat) : Nat → (Nat → Int64) × Int32
  | 0 => (v0, nI 0)
  | c + 1 => (vp_updL (lwR kn pj oj pa nm v0 f c).1 (f + c) (mVal (kn (f + c)) (pa (f + c)) ((lwR kn pj oj pa nm v0 f c).1 (pj (f + c))) ((lwR kn pj oj pa nm v0 f c).1 (oj (f + c))) (nm (pj (f + c))) (lwR kn pj oj pa nm v0 f c).2).1,
      (mVal (kn (f + c)) (pa (f + c)) ((lwR kn pj oj pa nm v0 f c).1 (pj (f + c))) ((lwR kn pj oj pa nm v0 f c).1 (oj (f + c))) (nm (pj (f + c))) (lwR kn pj oj pa nm v0 f c).2).2)
/-- the knots from f to l are well made -/
def lwOk (S : ms_S) (kn pj oj : Nat → Nat) (f l : Nat) : Prop := ∀ i, f ≤ i → i < l → a_knot S i = nI (kn i) ∧ kn i ≤ 14 ∧ (kn i = 1 → a_part S i = nI (pj i) ∧ pj i < 7) ∧ (2 ≤ kn i → a_part S i = nI (pj i) ∧ pj i < 64) ∧ (3 ≤ kn i → a_other S i = nI (oj i) ∧ oj i < 64)
set_option maxRecDepth 100000 in
set_option maxHeartbeats 4000000 in
theorem c_lawOf (G : ab_G) (fr : Bool) (S : ms_S) (tl : ab_H) (w f l : Nat) (kn pj oj : Nat → Nat) (hw : w < 3) (hf : a_first S w = nI f) (hl : a_last S w = nI l) (hfl : f < l) (hl64 : l ≤ 64) (hok : lwOk S kn pj oj f l) :
    ab_CT G 3 M_X12_lawOf fr [.ref 0, .int (nI w)] (hM S tl) 0 0 (fun r h' => r = some (.long (if (lwR kn pj oj (a_part S) (a_names S) (a_value S) f (l - f)).2 = 0 then (lwR kn pj oj (a_part S) (a_names S) (a_value S) f (l - f)).1 (l - 1) else lN 0)) ∧ h' = hM (lwS S (lwR kn pj oj (a_part S) (a_names S) (a_value S) f (l - f)).1 (lwR kn pj oj (a_part S) (a_names S) (a_value S) f (l - f)).2) tl) := by
  refine ct_of o_X12_lawOf (Nat.le_of_ble_eq_true rfl) (fun n0 post hp => ?_)
  have ew : (nI w).toNatClampNeg = w := nI_clamp (by omega)
  have gw : vp_in (nI w) 6 := vp_in_nI (by omega) (by decide)
  have ef : ∀ (V : Nat → Nat → Int32), V = S.2.2.2.1 → V 17 (nI w).toNatClampNeg = nI f := fun V hV => by rw [hV, ew]; exact hf
  have el : S.2.2.2.1 18 (nI w).toNatClampNeg = nI l := by rw [ew]; exact hl
  repeat refine ws_s rfl ?_
  refine ws_g rfl (Or.inl rfl) ?_
  repeat refine ws_s rfl ?_
  refine ws_g rfl gw ?_
  iterate 1 refine ws_s rfl ?_
  refine wp_eqS (S9 := lwS S (a_value S) (nI 0)) (by show (u2 S.1 0 51 (nI 0), S.2.1, S.2.2.1, S.2.2.2.1, u1 S.2.2.2.2 25 (S.2.2.2.2 25)) = _; rw [u1_id]) ?_
  refine wp_eqL (L' := [some (.ref 0), some (.int (nI w)), some (.int (nI (f + 0)))]) (by show _ = [some (Value.ref 0), some (Value.int (nI w)), some (Value.int (S.2.2.2.1 17 (nI w).toNatClampNeg))]; rw [ef S.2.2.2.1 rfl]; rfl) ?_
  refine wp_down (l - f) (fun c => [some (.ref 0), some (.int (nI w)), some (.int (nI (f + c)))]) (fun c => hM (lwS S (lwR kn pj oj (a_part S) (a_names S) (a_value S) f c).1 (lwR kn pj oj (a_part S) (a_names S) (a_value S) f c).2) tl) ?_ (fun c hc k => ?_)
  · generalize lwR kn pj oj (a_part S) (a_names S) (a_value S) f (l - f) = R9 at hp
    rw [show f + (l - f) = l by omega]
    repeat refine ws_s rfl ?_
    refine ws_g rfl gw ?_
    refine ws_s rfl ?_
    refine wp_ite (fun hq => ?_) (fun hq => absurd (by show S.2.2.2.1 18 (nI w).toNatClampNeg ≤ nI l; rw [el]; exact nI_le (Nat.le_refl _) (by omega)) hq)
    repeat refine ws_s rfl ?_
    refine wp_ite (fun hq2 => ?_) (fun hq2 => ?_)
    · have hq2 : R9.2 = 0 := hq2
      rw [if_pos hq2] at hp
      repeat refine ws_s rfl ?_
      refine ws_g rfl gw ?_
      repeat refine ws_s rfl ?_
      have e1 : (lwS S R9.1 R9.2).2.2.2.1 18 (nI w).toNatClampNeg - nI 1 = nI (l - 1) := by
        show S.2.2.2.1 18 (nI w).toNatClampNeg - nI 1 = _
        rw [el]; exact pk_sub (by omega)
      refine ws_g rfl (by show vp_in ((lwS S R9.1 R9.2).2.2.2.1 18 (nI w).toNatClampNeg - nI 1) 64; rw [e1]; exact vp_in_nI (by omega) (by decide)) ?_
      rw [e1, nI_clamp (by omega)]
      exact wp_rl rfl rfl hp
    · have hq2 : ¬ R9.2 = 0 := hq2
      rw [if_neg hq2] at hp
      repeat refine ws_s rfl ?_
      exact wp_rl rfl rfl hp
  · obtain ⟨o1, o2, o3, o4, o5⟩ := hok (f + c) (by omega) (by omega)
    repeat refine ws_s rfl ?_
    refine ws_g rfl gw ?_
    refine ws_s rfl ?_
    refine wp_ite (fun hq => absurd hq (by show ¬ S.2.2.2.1 18 (nI w).toNatClampNeg ≤ nI (f + c); rw [el]; exact nI_ge (by omega) (by omega))) (fun hq => ?_)
    repeat refine ws_s rfl ?_
    refine wp_V (c_valueOf G fr (lwS S (lwR kn pj oj (a_part S) (a_names S) (a_value S) f c).1 (lwR kn pj oj (a_part S) (a_names S) (a_value S) f c).2) tl (f + c) (kn (f + c)) (pj (f + c)) (oj (f + c)) (by omega) o1 o2 o3 o4 o5) rfl rfl o_X12_valueOf v_X12_valueOf rfl rfl rfl (by show (1 + (1 + 0)) ≤ 8; decide) (by decide) ?_
    refine ws_g rfl (vp_in_nI (show f + c < 64 by omega) (by decide)) ?_
    rw [nI_clamp (show f + c < 2 ^ 31 by omega)]
    repeat refine ws_s rfl ?_
    refine ws_b rfl ?_
    refine wp_eqL (by rw [show f + (c + 1) = f + c + 1 from rfl, ← nI_add]; rfl) (wp_eqS ?_ k)
    generalize hR : lwR kn pj oj (a_part S) (a_names S) (a_value S) f c = R9
    show lwS S (lwR kn pj oj (a_part S) (a_names S) (a_value S) f (c + 1)).1 (lwR kn pj oj (a_part S) (a_names S) (a_value S) f (c + 1)).2 = _
    unfold lwR
    rw [hR]
    unfold lwS
    simp only [u2_u2, u2_eq, u1_eq, u1_u1]
    rfl
