/-! ===== the reference: rows of undo and image ===== -/
abbrev tR : Type := (Nat → Int32) × (Nat → Nat) × (Nat → Nat)
def rowOk (f : Nat → Int32) (i : Nat) (R : tR) : Prop := (∀ p, p < 9 → f (i + p) = R.1 p) ∧ (∀ h, h < 5 → f (i + 9 + h) = nI (R.2.1 h) ∧ R.2.1 h ≤ 99999 ∧ f (i + 14 + h) = nI (R.2.2 h))
abbrev rwS (s : tES) : tR := (s.1, s.2.1, s.2.2.1)
def fN : Nat → Bool := fun _ => false
def aO (a : Nat) : Nat → Bool := fun k => Nat.beq k a
set_option maxRecDepth 100000 in
set_option maxHeartbeats 4000000 in
theorem c_put39 (G : ab_G) (fr : Bool) (S : ms_S) (tl : ab_H) (s : tES) (i9 : Nat) (hs : mES S 0 s) (hi9 : i9 + 19 ≤ 380) :
    ab_CT G 1 M_X12_put fr [.ref 0, .ref 39, .int (nI i9)] (hM S tl) 0 0 (fun r h' => ∃ S', h' = hM S' tl ∧ mE fN (aO 39) S S' ∧ rowOk (S'.2.2.2.1 39) i9 (rwS s) ∧ (∀ j, (j < i9 ∨ i9 + 19 ≤ j) → S'.2.2.2.1 39 j = S.2.2.2.1 39 j) ∧ r = none) := by
  refine wp_ct o_X12_put (Nat.le_of_ble_eq_true rfl) ?_
  generalize hpost : (fun (r : Option Value) (h' : ab_H) => ∃ S', h' = hM S' tl ∧ mE fN (aO 39) S S' ∧ rowOk (S'.2.2.2.1 39) i9 (rwS s) ∧ (∀ j, (j < i9 ∨ i9 + 19 ≤ j) → S'.2.2.2.1 39 j = S.2.2.2.1 39 j) ∧ r = none) = post
  generalize (hM S tl).length = n0
  iterate 2 refine ws_s rfl ?_
  refine wp_downX (X := ms_S) 9 (fun i X => mE fN (aO 39) S X ∧ (∀ p, p < i → X.2.2.2.1 39 (i9 + p) = s.1 p) ∧ (∀ j, (j < i9 ∨ i9 + 19 ≤ j) → X.2.2.2.1 39 j = S.2.2.2.1 39 j)) (fun i X => [some (.ref 0), some (.ref 39), some (.int (nI i9)), some (.int (nI i))]) (fun X => hM X tl) ?_ ?_ S ⟨mE.rf, fun p hp => by omega, fun _ _ => rfl⟩
  · rintro X ⟨x1, x2, x3⟩
    iterate 5 refine ws_s rfl ?_
    refine wp_downX (X := ms_S) 5 (fun i X => mE fN (aO 39) S X ∧ (∀ p, p < 9 → X.2.2.2.1 39 (i9 + p) = s.1 p) ∧ (∀ j, (j < i9 ∨ i9 + 19 ≤ j) → X.2.2.2.1 39 j = S.2.2.2.1 39 j) ∧ (∀ h, h < i → X.2.2.2.1 39 (i9 + 9 + h) = nI (s.2.1 h) ∧ X.2.2.2.1 39 (i9 + 14 + h) = nI (s.2.2.1 h))) (fun i X => [some (.ref 0), some (.ref 39), some (.int (nI i9)), some (.int (nI i))]) (fun X => hM X tl) ?_ ?_ X ⟨x1, x2, x3, fun p hp => by omega⟩
    · rintro X ⟨x1, x2, x3, x4⟩
      repeat refine ws_s rfl ?_
      refine wp_rv rfl rfl ?_
      rw [← hpost]
      exact ⟨X, rfl, x1, ⟨x2, fun h hh => ⟨(x4 h hh).1, (hs.2.1 h hh).2, (x4 h hh).2⟩⟩, x3, rfl⟩
    · rintro i X hi ⟨x1, x2, x3, x4⟩ kn
      have e1 : a_gold X i = nI (s.2.1 i) := by
        rw [show a_gold X i = a_gold S i from congrFun (x1.2.2.2.1 27 rfl) i]
        have := (hs.2.1 i hi).1
        rw [show 5 * 0 + i = i by omega] at this
        exact this
      have e2 : a_laid X i = nI (s.2.2.1 i) := by
        rw [show a_laid X i = a_laid S i from congrFun (x1.2.2.2.1 28 rfl) i]
        have := hs.2.2.1 i hi
        rw [show 5 * 0 + i = i by omega] at this
        exact this
      repeat refine ws_s rfl ?_
      refine wp_le (x := 5) (rfl) (rfl) (by first | omega | decide) (by first | omega | decide) (fun z => absurd z (by omega)) (fun z => ?_)
      repeat refine ws_s rfl ?_
      refine ws_ld (k := i) rfl (by first | rfl | (simp only [pk_mul, nI_add]; done)) (by omega) (by decide) (e1) ?_
      refine ws_sa (k := i9 + 9 + i) rfl (by first | rfl | (simp only [pk_mul, nI_add]; done)) (by omega) (by decide) (rfl) ?_
      repeat refine ws_s rfl ?_
      refine ws_ld (k := i) rfl (by first | rfl | (simp only [pk_mul, nI_add]; done)) (by omega) (by decide) (e2) ?_
      refine ws_sa (k := i9 + 14 + i) rfl (by first | rfl | (simp only [pk_mul, nI_add]; done)) (by omega) (by decide) (rfl) ?_
      repeat refine ws_s rfl ?_
      refine ws_b rfl ?_
      refine wp_eqL (by rw [← nI_add i 1]; rfl) (kn _ ⟨x1.tr ((mE.sA rfl).tr (mE.sA rfl)), fun p hp => ?_, fun j hj => ?_, fun h hh => ?_⟩)
      · show upd (upd (X.2.2.2.1 39) (i9 + 9 + i) _) (i9 + 14 + i) _ (i9 + p) = _
        rw [pk_un (by omega), pk_un (by omega)]
        exact x2 p hp
      · show upd (upd (X.2.2.2.1 39) (i9 + 9 + i) _) (i9 + 14 + i) _ j = _
        rw [pk_un (by omega), pk_un (by omega)]
        exact x3 j hj
      · show upd (upd (X.2.2.2.1 39) (i9 + 9 + i) (nI (s.2.1 i))) (i9 + 14 + i) (nI (s.2.2.1 i)) (i9 + 9 + h) = _ ∧ upd (upd (X.2.2.2.1 39) (i9 + 9 + i) (nI (s.2.1 i))) (i9 + 14 + i) (nI (s.2.2.1 i)) (i9 + 14 + h) = _
        unfold upd
        by_cases z1 : h = i
        · subst z1
          rw [if_neg (by omega), if_pos rfl, if_pos rfl]
          exact ⟨rfl, rfl⟩
        · rw [if_neg (by omega), if_neg (by omega), if_neg (by omega), if_neg (by omega)]
          exact x4 h (by omega)
  · rintro i X hi ⟨x1, x2, x3⟩ kn
    have e1 : a_holder X i = s.1 i := by
      rw [show a_holder X i = a_holder S i from congrFun (x1.2.2.2.1 26 rfl) i]
      have := hs.1 i hi
      rw [show 9 * 0 + i = i by omega] at this
      exact this
    repeat refine ws_s rfl ?_
    refine wp_le (x := 9) (rfl) (rfl) (by first | omega | decide) (by first | omega | decide) (fun z => absurd z (by omega)) (fun z => ?_)
    repeat refine ws_s rfl ?_
    refine ws_ld (k := i) rfl (by first | rfl | (simp only [pk_mul, nI_add]; done)) (by omega) (by decide) (e1) ?_
    refine ws_sa (k := i9 + i) rfl (by first | rfl | (simp only [pk_mul, nI_add]; done)) (by omega) (by decide) (rfl) ?_
    repeat refine ws_s rfl ?_
    refine ws_b rfl ?_
    refine wp_eqL (by rw [← nI_add i 1]; rfl) (kn _ ⟨x1.tr (mE.sA rfl), fun p hp => ?_, fun j hj => ?_⟩)
    · show upd (X.2.2.2.1 39) (i9 + i) _ (i9 + p) = _
      unfold upd
      by_cases z1 : p = i
      · rw [if_pos (by omega), z1]
      · rw [if_neg (by omega)]
        exact x2 p (by omega)
    · show upd (X.2.2.2.1 39) (i9 + i) _ j = _
      rw [pk_un (by omega)]
      exact x3 j hj
set_option maxRecDepth 100000 in
set_option maxHeartbeats 4000000 in
theorem c_put40 (G : ab_G) (fr : Bool) (S : ms_S) (tl : ab_H) (s : tES) (i9 : Nat) (hs : mES S 0 s) (hi9 : i9 + 19 ≤ 19) :
    ab_CT G 1 M_X12_put fr [.ref 0, .ref 40, .int (nI i9)] (hM S tl) 0 0 (fun r h' => ∃ S', h' = hM S' tl ∧ mE fN (aO 40) S S' ∧ rowOk (S'.2.2.2.1 40) i9 (rwS s) ∧ (∀ j, (j < i9 ∨ i9 + 19 ≤ j) → S'.2.2.2.1 40 j = S.2.2.2.1 40 j) ∧ r = none) := by
  refine wp_ct o_X12_put (Nat.le_of_ble_eq_true rfl) ?_
  generalize hpost : (fun (r : Option Value) (h' : ab_H) => ∃ S', h' = hM S' tl ∧ mE fN (aO 40) S S' ∧ rowOk (S'.2.2.2.1 40) i9 (rwS s) ∧ (∀ j, (j < i9 ∨ i9 + 19 ≤ j) → S'.2.2.2.1 40 j = S.2.2.2.1 40 j) ∧ r = none) = post
  generalize (hM S tl).length = n0
  iterate 2 refine ws_s rfl ?_
  refine wp_downX (X := ms_S) 9 (fun i X => mE fN (aO 40) S X ∧ (∀ p, p < i → X.2.2.2.1 40 (i9 + p) = s.1 p) ∧ (∀ j, (j < i9 ∨ i9 + 19 ≤ j) → X.2.2.2.1 40 j = S.2.2.2.1 40 j)) (fun i X => [some (.ref 0), some (.ref 40), some (.int (nI i9)), some (.int (nI i))]) (fun X => hM X tl) ?_ ?_ S ⟨mE.rf, fun p hp => by omega, fun _ _ => rfl⟩
  · rintro X ⟨x1, x2, x3⟩
    iterate 5 refine ws_s rfl ?_
    refine wp_downX (X := ms_S) 5 (fun i X => mE fN (aO 40) S X ∧ (∀ p, p < 9 → X.2.2.2.1 40 (i9 + p) = s.1 p) ∧ (∀ j, (j < i9 ∨ i9 + 19 ≤ j) → X.2.2.2.1 40 j = S.2.2.2.1 40 j) ∧ (∀ h, h < i → X.2.2.2.1 40 (i9 + 9 + h) = nI (s.2.1 h) ∧ X.2.2.2.1 40 (i9 + 14 + h) = nI (s.2.2.1 h))) (fun i X => [some (.ref 0), some (.ref 40), some (.int (nI i9)), some (.int (nI i))]) (fun X => hM X tl) ?_ ?_ X ⟨x1, x2, x3, fun p hp => by omega⟩
    · rintro X ⟨x1, x2, x3, x4⟩
      repeat refine ws_s rfl ?_
      refine wp_rv rfl rfl ?_
      rw [← hpost]
      exact ⟨X, rfl, x1, ⟨x2, fun h hh => ⟨(x4 h hh).1, (hs.2.1 h hh).2, (x4 h hh).2⟩⟩, x3, rfl⟩
    · rintro i X hi ⟨x1, x2, x3, x4⟩ kn
      have e1 : a_gold X i = nI (s.2.1 i) := by
        rw [show a_gold X i = a_gold S i from congrFun (x1.2.2.2.1 27 rfl) i]
        have := (hs.2.1 i hi).1
        rw [show 5 * 0 + i = i by omega] at this
        exact this
      have e2 : a_laid X i = nI (s.2.2.1 i) := by
        rw [show a_laid X i = a_laid S i from congrFun (x1.2.2.2.1 28 rfl) i]
        have := hs.2.2.1 i hi
        rw [show 5 * 0 + i = i by omega] at this
        exact this
      repeat refine ws_s rfl ?_
      refine wp_le (x := 5) (rfl) (rfl) (by first | omega | decide) (by first | omega | decide) (fun z => absurd z (by omega)) (fun z => ?_)
      repeat refine ws_s rfl ?_
      refine ws_ld (k := i) rfl (by first | rfl | (simp only [pk_mul, nI_add]; done)) (by omega) (by decide) (e1) ?_
      refine ws_sa (k := i9 + 9 + i) rfl (by first | rfl | (simp only [pk_mul, nI_add]; done)) (by omega) (by decide) (rfl) ?_
      repeat refine ws_s rfl ?_
      refine ws_ld (k := i) rfl (by first | rfl | (simp only [pk_mul, nI_add]; done)) (by omega) (by decide) (e2) ?_
      refine ws_sa (k := i9 + 14 + i) rfl (by first | rfl | (simp only [pk_mul, nI_add]; done)) (by omega) (by decide) (rfl) ?_
      repeat refine ws_s rfl ?_
      refine ws_b rfl ?_
      refine wp_eqL (by rw [← nI_add i 1]; rfl) (kn _ ⟨x1.tr ((mE.sA rfl).tr (mE.sA rfl)), fun p hp => ?_, fun j hj => ?_, fun h hh => ?_⟩)
      · show upd (upd (X.2.2.2.1 40) (i9 + 9 + i) _) (i9 + 14 + i) _ (i9 + p) = _
        rw [pk_un (by omega), pk_un (by omega)]
        exact x2 p hp
      · show upd (upd (X.2.2.2.1 40) (i9 + 9 + i) _) (i9 + 14 + i) _ j = _
        rw [pk_un (by omega), pk_un (by omega)]
        exact x3 j hj
      · show upd (upd (X.2.2.2.1 40) (i9 + 9 + i) (nI (s.2.1 i))) (i9 + 14 + i) (nI (s.2.2.1 i)) (i9 + 9 + h) = _ ∧ upd (upd (X.2.2.2.1 40) (i9 + 9 + i) (nI (s.2.1 i))) (i9 + 14 + i) (nI (s.2.2.1 i)) (i9 + 14 + h) = _
        unfold upd
        by_cases z1 : h = i
        · subst z1
          rw [if_neg (by omega), if_pos rfl, if_pos rfl]
          exact ⟨rfl, rfl⟩
        · rw [if_neg (by omega), if_neg (by omega), if_neg (by omega), if_neg (by omega)]
          exact x4 h (by omega)
  · rintro i X hi ⟨x1, x2, x3⟩ kn
    have e1 : a_holder X i = s.1 i := by
      rw [show a_holder X i = a_holder S i from congrFun (x1.2.2.2.1 26 rfl) i]
      have := hs.1 i hi
      rw [show 9 * 0 + i = i by omega] at this
      exact this
    repeat refine ws_s rfl ?_
    refine wp_le (x := 9) (rfl) (rfl) (by first | omega | decide) (by first | omega | decide) (fun z => absurd z (by omega)) (fun z => ?_)
    repeat refine ws_s rfl ?_
    refine ws_ld (k := i) rfl (by first | rfl | (simp only [pk_mul, nI_add]; done)) (by omega) (by decide) (e1) ?_
    refine ws_sa (k := i9 + i) rfl (by first | rfl | (simp only [pk_mul, nI_add]; done)) (by omega) (by decide) (rfl) ?_
    repeat refine ws_s rfl ?_
    refine ws_b rfl ?_
    refine wp_eqL (by rw [← nI_add i 1]; rfl) (kn _ ⟨x1.tr (mE.sA rfl), fun p hp => ?_, fun j hj => ?_⟩)
    · show upd (X.2.2.2.1 40) (i9 + i) _ (i9 + p) = _
      unfold upd
      by_cases z1 : p = i
      · rw [if_pos (by omega), z1]
      · rw [if_neg (by omega)]
        exact x2 p (by omega)
    · show upd (X.2.2.2.1 40) (i9 + i) _ j = _
      rw [pk_un (by omega)]
      exact x3 j hj
set_option maxRecDepth 100000 in
set_option maxHeartbeats 4000000 in
theorem c_take39 (G : ab_G) (fr : Bool) (S : ms_S) (tl : ab_H) (R : tR) (i9 : Nat) (hR : rowOk (S.2.2.2.1 39) i9 R) (hi9 : i9 + 19 ≤ 380) :
    ab_CT G 1 M_X12_take fr [.ref 0, .ref 39, .int (nI i9)] (hM S tl) 0 0 (fun r h' => ∃ S', h' = hM S' tl ∧ mB fN fN 0 S S' ∧ S'.2.1 = S.2.1 ∧ a_refused S' = a_refused S ∧ a_day S' = a_day S ∧ (∀ p, p < 9 → a_holder S' p = R.1 p) ∧ (∀ h, h < 5 → a_gold S' h = nI (R.2.1 h) ∧ a_laid S' h = nI (R.2.2 h)) ∧ r = none) := by
  refine wp_ct o_X12_take (Nat.le_of_ble_eq_true rfl) ?_
  generalize hpost : (fun (r : Option Value) (h' : ab_H) => ∃ S', h' = hM S' tl ∧ mB fN fN 0 S S' ∧ S'.2.1 = S.2.1 ∧ a_refused S' = a_refused S ∧ a_day S' = a_day S ∧ (∀ p, p < 9 → a_holder S' p = R.1 p) ∧ (∀ h, h < 5 → a_gold S' h = nI (R.2.1 h) ∧ a_laid S' h = nI (R.2.2 h)) ∧ r = none) = post
  generalize (hM S tl).length = n0
  iterate 2 refine ws_s rfl ?_
  refine wp_downX (X := ms_S) 9 (fun i X => mB fN fN 0 S X ∧ X.2.1 = S.2.1 ∧ a_refused X = a_refused S ∧ a_day X = a_day S ∧ (∀ p, p < i → a_holder X p = R.1 p)) (fun i X => [some (.ref 0), some (.ref 39), some (.int (nI i9)), some (.int (nI i))]) (fun X => hM X tl) ?_ ?_ S ⟨mB.rf, rfl, rfl, rfl, fun p hp => by omega⟩
  · rintro X ⟨x1, x2, x3, x4, x5⟩
    iterate 5 refine ws_s rfl ?_
    refine wp_downX (X := ms_S) 5 (fun i X => mB fN fN 0 S X ∧ X.2.1 = S.2.1 ∧ a_refused X = a_refused S ∧ a_day X = a_day S ∧ (∀ p, p < 9 → a_holder X p = R.1 p) ∧ (∀ h, h < i → a_gold X h = nI (R.2.1 h) ∧ a_laid X h = nI (R.2.2 h))) (fun i X => [some (.ref 0), some (.ref 39), some (.int (nI i9)), some (.int (nI i))]) (fun X => hM X tl) ?_ ?_ X ⟨x1, x2, x3, x4, x5, fun p hp => by omega⟩
    · rintro X ⟨x1, x2, x3, x4, x5, x6⟩
      repeat refine ws_s rfl ?_
      refine wp_rv rfl rfl ?_
      rw [← hpost]
      exact ⟨X, rfl, x1, x2, x3, x4, x5, x6, rfl⟩
    · rintro i X hi ⟨x1, x2, x3, x4, x5, x6⟩ kn
      obtain ⟨u1, u2, u3⟩ := hR.2 i hi
      have e1 : X.2.2.2.1 39 (i9 + 9 + i) = nI (R.2.1 i) := (congrFun (x1.2.2.2.1 39 rfl rfl) _).trans u1
      have e2 : X.2.2.2.1 39 (i9 + 14 + i) = nI (R.2.2 i) := (congrFun (x1.2.2.2.1 39 rfl rfl) _).trans u3
      repeat refine ws_s rfl ?_
      refine wp_le (x := 5) (rfl) (rfl) (by first | omega | decide) (by first | omega | decide) (fun z => absurd z (by omega)) (fun z => ?_)
      repeat refine ws_s rfl ?_
      refine ws_ld (k := i9 + 9 + i) rfl (by first | rfl | (simp only [pk_mul, nI_add]; done)) (by omega) (by decide) (e1) ?_
      refine ws_sa (k := i) rfl (by first | rfl | (simp only [pk_mul, nI_add]; done)) (by omega) (by decide) (rfl) ?_
      repeat refine ws_s rfl ?_
      refine ws_ld (k := i9 + 14 + i) rfl (by first | rfl | (simp only [pk_mul, nI_add]; done)) (by omega) (by decide) (e2) ?_
      refine ws_sa (k := i) rfl (by first | rfl | (simp only [pk_mul, nI_add]; done)) (by omega) (by decide) (rfl) ?_
      repeat refine ws_s rfl ?_
      refine ws_b rfl ?_
      refine wp_eqL (by rw [← nI_add i 1]; rfl) (kn _ ⟨x1.tr ((mB.go (by omega)).tr (mB.la (by omega))), x2, x3, x4, x5, fun h hh => ?_⟩)
      show upd (X.2.2.2.1 27) i (nI (R.2.1 i)) h = _ ∧ upd (X.2.2.2.1 28) i (nI (R.2.2 i)) h = _
      unfold upd
      by_cases z1 : h = i
      · subst z1
        rw [if_pos rfl, if_pos rfl]
        exact ⟨rfl, rfl⟩
      · rw [if_neg z1, if_neg z1]
        exact x6 h (by omega)
  · rintro i X hi ⟨x1, x2, x3, x4, x5⟩ kn
    have e1 : X.2.2.2.1 39 (i9 + i) = R.1 i := (congrFun (x1.2.2.2.1 39 rfl rfl) _).trans (hR.1 i hi)
    repeat refine ws_s rfl ?_
    refine wp_le (x := 9) (rfl) (rfl) (by first | omega | decide) (by first | omega | decide) (fun z => absurd z (by omega)) (fun z => ?_)
    repeat refine ws_s rfl ?_
    refine ws_ld (k := i9 + i) rfl (by first | rfl | (simp only [pk_mul, nI_add]; done)) (by omega) (by decide) (e1) ?_
    refine ws_sa (k := i) rfl (by first | rfl | (simp only [pk_mul, nI_add]; done)) (by omega) (by decide) (rfl) ?_
    repeat refine ws_s rfl ?_
    refine ws_b rfl ?_
    refine wp_eqL (by rw [← nI_add i 1]; rfl) (kn _ ⟨x1.tr (mB.ho rfl (by omega)), x2, x3, x4, fun p hp => ?_⟩)
    show upd (X.2.2.2.1 26) i _ p = _
    unfold upd
    by_cases z1 : p = i
    · rw [if_pos z1, z1]
    · rw [if_neg z1]
      exact x5 p (by omega)
set_option maxRecDepth 100000 in
set_option maxHeartbeats 4000000 in
theorem c_take40 (G : ab_G) (fr : Bool) (S : ms_S) (tl : ab_H) (R : tR) (i9 : Nat) (hR : rowOk (S.2.2.2.1 40) i9 R) (hi9 : i9 + 19 ≤ 19) :
    ab_CT G 1 M_X12_take fr [.ref 0, .ref 40, .int (nI i9)] (hM S tl) 0 0 (fun r h' => ∃ S', h' = hM S' tl ∧ mB fN fN 0 S S' ∧ S'.2.1 = S.2.1 ∧ a_refused S' = a_refused S ∧ a_day S' = a_day S ∧ (∀ p, p < 9 → a_holder S' p = R.1 p) ∧ (∀ h, h < 5 → a_gold S' h = nI (R.2.1 h) ∧ a_laid S' h = nI (R.2.2 h)) ∧ r = none) := by
  refine wp_ct o_X12_take (Nat.le_of_ble_eq_true rfl) ?_
  generalize hpost : (fun (r : Option Value) (h' : ab_H) => ∃ S', h' = hM S' tl ∧ mB fN fN 0 S S' ∧ S'.2.1 = S.2.1 ∧ a_refused S' = a_refused S ∧ a_day S' = a_day S ∧ (∀ p, p < 9 → a_holder S' p = R.1 p) ∧ (∀ h, h < 5 → a_gold S' h = nI (R.2.1 h) ∧ a_laid S' h = nI (R.2.2 h)) ∧ r = none) = post
  generalize (hM S tl).length = n0
  iterate 2 refine ws_s rfl ?_
  refine wp_downX (X := ms_S) 9 (fun i X => mB fN fN 0 S X ∧ X.2.1 = S.2.1 ∧ a_refused X = a_refused S ∧ a_day X = a_day S ∧ (∀ p, p < i → a_holder X p = R.1 p)) (fun i X => [some (.ref 0), some (.ref 40), some (.int (nI i9)), some (.int (nI i))]) (fun X => hM X tl) ?_ ?_ S ⟨mB.rf, rfl, rfl, rfl, fun p hp => by omega⟩
  · rintro X ⟨x1, x2, x3, x4, x5⟩
    iterate 5 refine ws_s rfl ?_
    refine wp_downX (X := ms_S) 5 (fun i X => mB fN fN 0 S X ∧ X.2.1 = S.2.1 ∧ a_refused X = a_refused S ∧ a_day X = a_day S ∧ (∀ p, p < 9 → a_holder X p = R.1 p) ∧ (∀ h, h < i → a_gold X h = nI (R.2.1 h) ∧ a_laid X h = nI (R.2.2 h))) (fun i X => [some (.ref 0), some (.ref 40), some (.int (nI i9)), some (.int (nI i))]) (fun X => hM X tl) ?_ ?_ X ⟨x1, x2, x3, x4, x5, fun p hp => by omega⟩
    · rintro X ⟨x1, x2, x3, x4, x5, x6⟩
      repeat refine ws_s rfl ?_
      refine wp_rv rfl rfl ?_
      rw [← hpost]
      exact ⟨X, rfl, x1, x2, x3, x4, x5, x6, rfl⟩
    · rintro i X hi ⟨x1, x2, x3, x4, x5, x6⟩ kn
      obtain ⟨u1, u2, u3⟩ := hR.2 i hi
      have e1 : X.2.2.2.1 40 (i9 + 9 + i) = nI (R.2.1 i) := (congrFun (x1.2.2.2.1 40 rfl rfl) _).trans u1
      have e2 : X.2.2.2.1 40 (i9 + 14 + i) = nI (R.2.2 i) := (congrFun (x1.2.2.2.1 40 rfl rfl) _).trans u3
      repeat refine ws_s rfl ?_
      refine wp_le (x := 5) (rfl) (rfl) (by first | omega | decide) (by first | omega | decide) (fun z => absurd z (by omega)) (fun z => ?_)
      repeat refine ws_s rfl ?_
      refine ws_ld (k := i9 + 9 + i) rfl (by first | rfl | (simp only [pk_mul, nI_add]; done)) (by omega) (by decide) (e1) ?_
      refine ws_sa (k := i) rfl (by first | rfl | (simp only [pk_mul, nI_add]; done)) (by omega) (by decide) (rfl) ?_
      repeat refine ws_s rfl ?_
      refine ws_ld (k := i9 + 14 + i) rfl (by first | rfl | (simp only [pk_mul, nI_add]; done)) (by omega) (by decide) (e2) ?_
      refine ws_sa (k := i) rfl (by first | rfl | (simp only [pk_mul, nI_add]; done)) (by omega) (by decide) (rfl) ?_
      repeat refine ws_s rfl ?_
      refine ws_b rfl ?_
      refine wp_eqL (by rw [← nI_add i 1]; rfl) (kn _ ⟨x1.tr ((mB.go (by omega)).tr (mB.la (by omega))), x2, x3, x4, x5, fun h hh => ?_⟩)
      show upd (X.2.2.2.1 27) i (nI (R.2.1 i)) h = _ ∧ upd (X.2.2.2.1 28) i (nI (R.2.2 i)) h = _
      unfold upd
      by_cases z1 : h = i
      · subst z1
        rw [if_pos rfl, if_pos rfl]
        exact ⟨rfl, rfl⟩
      · rw [if_neg z1, if_neg z1]
        exact x6 h (by omega)
  · rintro i X hi ⟨x1, x2, x3, x4, x5⟩ kn
    have e1 : X.2.2.2.1 40 (i9 + i) = R.1 i := (congrFun (x1.2.2.2.1 40 rfl rfl) _).trans (hR.1 i hi)
    repeat refine ws_s rfl ?_
    refine wp_le (x := 9) (rfl) (rfl) (by first | omega | decide) (by first | omega | decide) (fun z => absurd z (by omega)) (fun z => ?_)
    repeat refine ws_s rfl ?_
    refine ws_ld (k := i9 + i) rfl (by first | rfl | (simp only [pk_mul, nI_add]; done)) (by omega) (by decide) (e1) ?_
    refine ws_sa (k := i) rfl (by first | rfl | (simp only [pk_mul, nI_add]; done)) (by omega) (by decide) (rfl) ?_
    repeat refine ws_s rfl ?_
    refine ws_b rfl ?_
    refine wp_eqL (by rw [← nI_add i 1]; rfl) (kn _ ⟨x1.tr (mB.ho rfl (by omega)), x2, x3, x4, fun p hp => ?_⟩)
    show upd (X.2.2.2.1 26) i _ p = _
    unfold upd
    by_cases z1 : p = i
    · rw [if_pos z1, z1]
    · rw [if_neg z1]
      exact x5 p (by omega)
