/-! ===== the program: an estate's pieces change hands ===== -/
theorem nn_ne {a b : Nat} (ha : a < 2 ^ 31) (hb : 0 < b) (hb2 : b < 2 ^ 31) : ¬ nI a = -(nI b) := fun z => by
  have h1 := nI_pos ha
  rw [z] at h1
  exact h1 (neg_neg hb hb2)
theorem n23 : ¬ -(nI 2) = -(nI 3) := by decide
/-- whose a piece is, when it has gone to another -/
theorem held_u {f : Nat → Int32} {p n : Nat} {x y z : Int32} (hp : p < n) (hn : n ≤ 9) (hx : f p = x) : heldN (upd f p y) z n = if z = y then heldN f z n ||| 2 ^ p else if z = x then (if (heldN f z n).testBit p = true then heldN f z n - 2 ^ p else heldN f z n) else heldN f z n := by
  have h9 := held9 (f := f) (x := z) hn
  apply Nat.eq_of_testBit_eq
  intro j
  rw [heldN_tb]
  by_cases hj : j = p
  · subst hj
    rw [pk_us, decide_eq_true hp, Bool.true_and]
    by_cases h1 : z = y
    · rw [if_pos h1, Nat.testBit_or, Nat.testBit_two_pow, decide_eq_true rfl, Bool.or_true, decide_eq_true h1.symm]
    · rw [if_neg h1, decide_eq_false (fun q => h1 q.symm)]
      by_cases h2 : z = x
      · rw [if_pos h2]
        have ht : (heldN f z n).testBit j = true := by rw [heldN_tb, decide_eq_true hp, hx, h2]; simp
        rw [if_pos ht, sb_t _ h9 j (by omega) ht j (by omega), decide_eq_true rfl]
        simp
      · rw [if_neg h2, heldN_tb, hx, show decide (x = z) = false from decide_eq_false (fun q => h2 q.symm), Bool.and_false]
  · rw [pk_un hj]
    by_cases h1 : z = y
    · rw [if_pos h1, Nat.testBit_or, heldN_tb, Nat.testBit_two_pow, show decide (p = j) = false from decide_eq_false (fun q => hj q.symm), Bool.or_false]
    · rw [if_neg h1]
      by_cases h2 : z = x
      · rw [if_pos h2]
        by_cases ht : (heldN f z n).testBit p = true
        · rw [if_pos ht]
          by_cases h8 : j < 9
          · rw [sb_t _ h9 p (by omega) ht j h8, heldN_tb, decide_eq_false hj]
            simp
          · rw [decide_eq_false (show ¬ j < n by omega), Bool.false_and]
            symm
            exact Nat.testBit_lt_two_pow (Nat.lt_of_lt_of_le (Nat.lt_of_le_of_lt (Nat.sub_le _ _) h9) (Nat.pow_le_pow_right (by decide) (by omega)))
        · rw [if_neg ht, heldN_tb]
      · rw [if_neg h2, heldN_tb]
def aEs : Nat → Bool := fun a => Nat.ble 46 a && Nat.ble a 49
theorem aEs_pl : plA aEs := ⟨rfl, rfl, rfl, rfl, rfl, rfl, rfl, rfl, rfl, rfl⟩
/-- a place where a piece may be: the box, or an heir -/
def whO (P : tPL) (x : Int32) : Prop := x = -(nI 2) ∨ ∃ h, h < P.2.1 ∧ x = nI h
section CORE5
variable {G : ab_G} {S : ms_S} {tl : ab_H} {P : tPL} {o : Nat → Option tDQ} {s : tES} {dn : Nat}
theorem u_holder (fr : Bool) (hP : bPl S P o) (hs : bES S P s dn) (p : Nat) (hp : p < P.1) (K : Int32 → ms_S → Prop) (k : K (s.1 p) S) : ctI G 1 M_X1_holderOf fr [.ref 46, .int (nI p)] lC S tl K := by
  have p1 := hP.1
  have p2 := hP.2.1
  obtain ⟨s1, s2, s3, s4, s5, s6, s7, s8, s9, s10, s11⟩ := id hs
  refine m_X1_holderOf (fun n0 => ?_)
  suffices KL : ∀ t i, i + t = 5 → (∀ j, j < i → ¬ s.1 p = nI j) → L_X1_holderOf_2 G fr n0 tl K S (nI p) (nI i) from KL 5 0 rfl (fun j hj => absurd hj (Nat.not_lt_zero _))
  intro t
  induction t with
  | zero =>
    intro i hi hn
    have hi : i = 5 := hi
    subst hi
    have hb := held9 (f := s.1) (x := -(nI 2)) p1
    refine b_X1_holderOf_2 ?_
    rw [s6, tb_u (by omega) (by have : bxN P s < 2 ^ 9 := hb; omega), heldN_tb, decide_eq_true hp, Bool.true_and, decide_eq_true_eq]
    refine ⟨fun _ => ⟨fun z => by rw [z] at k; exact k, fun z => ?_⟩, fun z => absurd (Int32.le_refl _) z⟩
    rcases s10 p hp with w | w | ⟨h, w1, w2⟩
    · exact absurd w z
    · rw [w] at k
      exact k
    · exact absurd w2 (hn h (by omega))
  | succ t ih =>
    intro i hi hn
    have hb := held9 (f := s.1) (x := nI i) p1
    refine b_X1_holderOf_2 ?_
    rw [nI_leI (by decide) (by omega), nI_clamp (by omega), s1 i (by omega), tb_u (by omega) (by omega), heldN_tb, decide_eq_true hp, Bool.true_and, decide_eq_true_eq, nI_add]
    refine ⟨fun z => absurd z (by omega), fun _ => ⟨(x_vp (by omega)).mpr (by omega), fun z => by rw [z] at k; exact k, fun z => ih (i + 1) (by omega) (fun j hj => ?_)⟩⟩
    by_cases e : j = i
    · rw [e]; exact z
    · exact hn j (by omega)
theorem bES_u {S' : ms_S} (hs : bES S P s dn) (p : Nat) (hp : p < P.1) (hP9 : P.1 ≤ 9) (y : Int32) (hy : whO P y) (e1 : ∀ h, h < 5 → S'.2.2.2.1 47 h = nI (heldN (upd s.1 p y) (nI h) P.1)) (e2 : S'.2.2.2.1 48 = S.2.2.2.1 48) (e3 : S'.2.2.2.1 49 = S.2.2.2.1 49) (e4 : S'.1 46 3 = S.1 46 3) (e5 : S'.1 46 4 = nI (heldN (upd s.1 p y) (-(nI 2)) P.1)) (e6 : S'.1 46 5 = nI (heldN (upd s.1 p y) (-(nI 3)) P.1)) (e7 : S'.1 46 6 = S.1 46 6) (e8 : S'.1 46 7 = S.1 46 7) : bES S' P (upd s.1 p y, s.2) dn := by
  obtain ⟨s1, s2, s3, s4, s5, s6, s7, s8, s9, s10, s11⟩ := hs
  refine ⟨e1, by rw [e2]; exact s2, by rw [e3]; exact s3, e4.trans s4, s5, e5, e6, e7.trans s8, ⟨e8.trans s9.1, s9.2⟩, fun q hq => ?_, s11⟩
  show upd s.1 p y q = -(nI 2) ∨ upd s.1 p y q = -(nI 3) ∨ ∃ h, h < P.2.1 ∧ upd s.1 p y q = nI h
  by_cases e : q = p
  · rw [e, pk_us]
    rcases hy with w | w
    · exact Or.inl w
    · exact Or.inr (Or.inr w)
  · rw [pk_un e]
    exact s10 q hq
theorem u_move (fr : Bool) (hP : bPl S P o) (hs : bES S P s dn) (p : Nat) (hp : p < P.1) (x y : Int32) (hx : s.1 p = x) (hxw : whO P x) (hy : whO P y) (K : ms_S → Prop) (k : ∀ S', cF aEs S S' → bES S' P (upd s.1 p y, s.2) dn → K S') : ctU G 1 M_X1_move fr [.ref 46, .int (nI p), .int x, .int y] lC S tl K := by
  have p1 := hP.1
  have p2 := hP.2.1
  obtain ⟨s1, s2, s3, s4, s5, s6, s7, s8, s9, s10, s11⟩ := id hs
  have hu := fun z => held_u (f := s.1) (p := p) (n := P.1) (x := x) (y := y) (z := z) hp p1 hx
  have h9 := fun z => held9 (f := s.1) (x := z) p1
  have clr : ∀ z, nI (heldN s.1 z P.1) &&& (nI (2 ^ p) ^^^ -(nI 1)) = nI (if (heldN s.1 z P.1).testBit p = true then heldN s.1 z P.1 - 2 ^ p else heldN s.1 z P.1) := fun z => nu_clr _ (h9 z) p (by omega)
  have e3 : heldN (upd s.1 p y) (-(nI 3)) P.1 = heldN s.1 (-(nI 3)) P.1 := by
    have hne : ∀ w, whO P w → ¬ -(nI 3) = w := fun w hw q => by
      rcases hw with z | ⟨h, h1, z⟩
      · rw [z] at q; exact n23 q.symm
      · rw [z] at q; exact nn_ne (by omega) (by decide) (by decide) q.symm
    rw [hu, if_neg (hne y hy), if_neg (hne x hxw)]
  have e6 : S.1 46 5 = nI (heldN (upd s.1 p y) (-(nI 3)) P.1) := by rw [e3]; exact s7
  -- the second half
  have K43 : ∀ {n0 : Nat} (X : ms_S), cF aEs S X → X.2.2.2.1 48 = S.2.2.2.1 48 → X.2.2.2.1 49 = S.2.2.2.1 49 → X.1 46 3 = S.1 46 3 → X.1 46 5 = S.1 46 5 → X.1 46 6 = S.1 46 6 → X.1 46 7 = S.1 46 7 → (∀ h, h < 5 → X.2.2.2.1 47 h = nI (if nI h = x then (if (heldN s.1 (nI h) P.1).testBit p = true then heldN s.1 (nI h) P.1 - 2 ^ p else heldN s.1 (nI h) P.1) else heldN s.1 (nI h) P.1)) → X.1 46 4 = nI (if -(nI 2) = x then (if (heldN s.1 (-(nI 2)) P.1).testBit p = true then heldN s.1 (-(nI 2)) P.1 - 2 ^ p else heldN s.1 (-(nI 2)) P.1) else heldN s.1 (-(nI 2)) P.1) → L_X1_move_43 G fr n0 tl K X y (nI (2 ^ p)) := by
    intro n0 X x1 x2 x3 x4 x5 x6 x7 x8 x9
    have orr : ∀ z, (if z = x then (if (heldN s.1 z P.1).testBit p = true then heldN s.1 z P.1 - 2 ^ p else heldN s.1 z P.1) else heldN s.1 z P.1) ||| 2 ^ p = heldN s.1 z P.1 ||| 2 ^ p := fun z => by
      by_cases w : z = x
      · rw [if_pos w]
        by_cases tb : (heldN s.1 z P.1).testBit p = true
        · rw [if_pos tb]
          apply Nat.eq_of_testBit_eq
          intro j
          rw [Nat.testBit_or, Nat.testBit_or, Nat.testBit_two_pow]
          by_cases e : p = j
          · rw [decide_eq_true e, Bool.or_true, Bool.or_true]
          · rw [decide_eq_false e, Bool.or_false, Bool.or_false]
            by_cases h8 : j < 9
            · rw [sb_t _ (h9 z) p (by omega) tb j h8, decide_eq_false (fun q => e q.symm)]
              simp
            · have hj : 2 ^ 9 ≤ 2 ^ j := Nat.pow_le_pow_right (by decide) (by omega)
              rw [Nat.testBit_lt_two_pow (Nat.lt_of_lt_of_le (Nat.lt_of_le_of_lt (Nat.sub_le _ _) (h9 z)) hj), Nat.testBit_lt_two_pow (Nat.lt_of_lt_of_le (h9 z) hj)]
        · rw [if_neg tb]
      · rw [if_neg w]
    refine b_X1_move_43 ?_
    rcases hy with hy2 | ⟨h2, hh, hy2⟩
    · subst hy2
      refine ⟨fun _ => b_X1_move_66 (b_X1_move_77 (k _ (x1.tr (cF.sVa rfl)) ?_)), fun z => absurd (neg_neg (by decide) (by decide)) z⟩
      refine bES_u hs p hp p1 _ (Or.inl rfl) (fun h hh => ?_) x2 x3 x4 ?_ (x5.trans e6) x6 x7
      · rw [hu, if_neg (nn_ne (by omega) (by decide) (by decide))]
        exact x8 h hh
      · show X.1 46 4 ||| nI (2 ^ p) = _
        rw [x9, nu_or, orr, hu, if_pos rfl]
    · subst hy2
      rw [nI_leI (by decide) (by omega), nI_clamp (by omega)]
      have hv : vp_in (nI h2) 5 := (x_vp (by omega)).mpr (by omega)
      refine ⟨fun z => absurd z (nI_pos (by omega)), fun _ => ⟨fun z => absurd z (by omega), fun _ => ⟨hv, hv, b_X1_move_77 (k _ (x1.tr (cF.sA rfl)) ?_)⟩⟩⟩
      refine bES_u hs p hp p1 _ (Or.inr ⟨h2, hh, rfl⟩) (fun h h5 => ?_) x2 x3 x4 ?_ (x5.trans e6) x6 x7
      · show upd (X.2.2.2.1 47) h2 (X.2.2.2.1 47 h2 ||| nI (2 ^ p)) h = _
        by_cases e : h = h2
        · rw [e, pk_us, x8 h2 (by omega), nu_or, orr, hu, if_pos rfl]
        · rw [pk_un e, hu, if_neg (fun q => e ((nI_eq (by omega) (by omega)).mp q))]
          exact x8 h h5
      · show X.1 46 4 = _
        rw [hu, if_neg (fun q => nn_ne (by omega) (by decide) (by decide) q.symm)]
        exact x9
  refine m_X1_move (fun n0 => ?_)
  rw [nu_1shl (by omega)]
  rcases hxw with hx2 | ⟨h1, hh, hx2⟩
  · subst hx2
    refine ⟨fun _ => b_X1_move_30 (K43 _ (cF.sVa rfl) rfl rfl rfl rfl rfl rfl (fun h h5 => ?_) ?_), fun z => absurd (neg_neg (by decide) (by decide)) z⟩
    · rw [if_neg (nn_ne (by omega) (by decide) (by decide))]
      exact s1 h h5
    · show S.1 46 4 &&& _ = _
      rw [s6, if_pos rfl]
      exact clr _
  · subst hx2
    rw [nI_leI (by decide) (by omega), nI_clamp (by omega)]
    have hv : vp_in (nI h1) 5 := (x_vp (by omega)).mpr (by omega)
    refine ⟨fun z => absurd z (nI_pos (by omega)), fun _ => ⟨fun z => absurd z (by omega), fun _ => ⟨hv, hv, K43 _ (cF.sA rfl) rfl rfl rfl rfl rfl rfl (fun h h5 => ?_) ?_⟩⟩⟩
    · show upd (S.2.2.2.1 47) h1 (S.2.2.2.1 47 h1 &&& _) h = _
      by_cases e : h = h1
      · rw [e, pk_us, s1 h1 (by omega), if_pos rfl]
        exact clr _
      · rw [pk_un e, if_neg (fun q => e ((nI_eq (by omega) (by omega)).mp q))]
        exact s1 h h5
    · rw [if_neg (fun q => nn_ne (by omega) (by decide) (by decide) q.symm)]
      exact s6
theorem u_change (hP : bPl S P o) (hs : bES S P s dn) (p q : Nat) (hp : p < P.1) (hq : q < P.1) (hpw : whO P (s.1 p)) (hqw : whO P (s.1 q)) (hne : ¬ s.1 p = s.1 q) (K : ms_S → Prop) (k : ∀ S', cF aEs S S' → bES S' P (trS s p q) dn → K S') : ctU G 2 M_X1_change false [.ref 46, .int (nI p), .int (nI q)] lC S tl K := by
  refine m_X1_change (fun n0 => u_holder false hP hs p hp _ (u_holder false hP hs q hq _ (u_move false hP hs p hp _ _ rfl hpw hqw _ (fun S3 f3 h3 => ?_))))
  have hpq : ¬ q = p := fun z => hne (by rw [z])
  refine u_move false (bPl_F f3 aEs_pl hP) h3 q hq _ _ (pk_un hpq) hqw hpw _ (fun S4 f4 h4 => k S4 (f3.tr f4) h4)
theorem u_next (fr : Bool) (hs : bES S P s dn) (K : Int32 → ms_S → Prop) (k : ∀ S', cF aEs S S' → bES S' P s (numN dn) → K (nI (numN dn / 65536)) S') : ctI G 1 M_X1_nextNumber fr [.ref 46] lC S tl K := by
  obtain ⟨s1, s2, s3, s4, s5, s6, s7, s8, s9, s10, s11⟩ := id hs
  have hn : numN dn < 2 ^ 31 := Nat.mod_lt _ (by decide)
  refine m_X1_nextNumber (fun n0 => ?_)
  have e : (S.1 46 7 * (1103515245 : Int32) + nI 12345) &&& (2147483647 : Int32) = nI (numN dn) := by
    have hN : ∀ N : Nat, (nI N).toBitVec.toNat % 2 ^ 31 = N % 2 ^ 31 := fun N => by
      show N % 2 ^ 32 % 2 ^ 31 = _
      exact Nat.mod_mod_of_dvd _ ⟨2, by decide⟩
    unfold numN
    rw [s9.1, show (1103515245 : Int32) = nI 1103515245 from by decide, pk_mul, nI_add, pk_and _ 31 (by decide), hN]
  rw [e, nu_ushr (by decide) (by omega)]
  exact k _ (cF.sVa rfl) ⟨s1, s2, s3, s4, s5, s6, s7, s8, ⟨rfl, hn⟩, s10, s11⟩
theorem u_gold (fr : Bool) (hs : bES S P s dn) (hh : P.2.1 ≤ 5) (K : Int32 → ms_S → Prop) (k : K (nI (gAll P s)) S) : ctI G 1 M_X1_goldOfAll fr [.ref 46] lC S tl K := by
  obtain ⟨s1, s2, s3, s4, s5, s6, s7, s8, s9, s10, s11⟩ := id hs
  have key : ∀ i, (List.range (P.2.1 + i)).foldl (fun x i => x + s.2.1 i) 0 = gAll P s := by
    intro i
    induction i with
    | zero => rfl
    | succ i ih => rw [show P.2.1 + (i + 1) = (P.2.1 + i) + 1 from rfl, List.range_succ, List.foldl_append, ih, List.foldl_cons, List.foldl_nil, (s11 (P.2.1 + i) (by omega)).1, Nat.add_zero]
  have k5 := key (5 - P.2.1)
  rw [show P.2.1 + (5 - P.2.1) = 5 by omega] at k5
  refine m_X1_goldOfAll (fun n0 => ?_)
  suffices KL : ∀ t i, i + t = 5 → L_X1_goldOfAll_4 G fr n0 tl K S (nI ((List.range i).foldl (fun x i => x + s.2.1 i) 0)) (nI i) from KL 5 0 rfl
  intro t
  induction t with
  | zero =>
    intro i hi
    have hi : i = 5 := hi
    subst hi
    refine b_X1_goldOfAll_4 ?_
    rw [k5]
    exact ⟨fun _ => k, fun z => absurd (Int32.le_refl _) z⟩
  | succ t ih =>
    intro i hi
    have hn := ih (i + 1) (by omega)
    rw [List.range_succ, List.foldl_append, List.foldl_cons, List.foldl_nil] at hn
    refine b_X1_goldOfAll_4 ?_
    rw [nI_leI (by decide) (by omega), nI_clamp (by omega), (s2 i (by omega)).1, nI_add, nI_add]
    exact ⟨fun z => absurd z (by omega), fun _ => ⟨(x_vp (by omega)).mpr (by omega), hn⟩⟩
theorem u_laid (fr : Bool) (hs : bES S P s dn) (hh : P.2.1 ≤ 5) (K : Int32 → ms_S → Prop) (k : K (nI (lAll P s)) S) : ctI G 1 M_X1_laidByAll fr [.ref 46] lC S tl K := by
  obtain ⟨s1, s2, s3, s4, s5, s6, s7, s8, s9, s10, s11⟩ := id hs
  have key : ∀ i, (List.range (P.2.1 + i)).foldl (fun x i => x + s.2.2.1 i) 0 = lAll P s := by
    intro i
    induction i with
    | zero => rfl
    | succ i ih => rw [show P.2.1 + (i + 1) = (P.2.1 + i) + 1 from rfl, List.range_succ, List.foldl_append, ih, List.foldl_cons, List.foldl_nil, (s11 (P.2.1 + i) (by omega)).2, Nat.add_zero]
  have k5 := key (5 - P.2.1)
  rw [show P.2.1 + (5 - P.2.1) = 5 by omega] at k5
  refine m_X1_laidByAll (fun n0 => ?_)
  suffices KL : ∀ t i, i + t = 5 → L_X1_laidByAll_4 G fr n0 tl K S (nI ((List.range i).foldl (fun x i => x + s.2.2.1 i) 0)) (nI i) from KL 5 0 rfl
  intro t
  induction t with
  | zero =>
    intro i hi
    have hi : i = 5 := hi
    subst hi
    refine b_X1_laidByAll_4 ?_
    rw [k5]
    exact ⟨fun _ => k, fun z => absurd (Int32.le_refl _) z⟩
  | succ t ih =>
    intro i hi
    have hn := ih (i + 1) (by omega)
    rw [List.range_succ, List.foldl_append, List.foldl_cons, List.foldl_nil] at hn
    refine b_X1_laidByAll_4 ?_
    rw [nI_leI (by decide) (by omega), nI_clamp (by omega), s3 i (by omega), nI_add, nI_add]
    exact ⟨fun z => absurd z (by omega), fun _ => ⟨(x_vp (by omega)).mpr (by omega), hn⟩⟩
end CORE5

