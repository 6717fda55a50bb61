/-! ===== the program: an estate begins; as told ===== -/
def L_X7_sharedPiecesC_4 (G : ab_G) (fr : Bool) (n0 : Nat) (tl : ab_H) (K : Int32 → ms_S → Prop) (S : ms_S) (i1 : Int32) (i2 : Int32) : Prop := wp G 1 M_X7_sharedPieces fr n0 (poI lC tl K) 4 [some (.ref 0), some (.int i1), some (.int i2)] [] (hLy lC S tl)
set_option maxRecDepth 100000 in
set_option maxHeartbeats 4000000 in
theorem b_X7_sharedPiecesC_4 {G : ab_G} {fr : Bool} {n0 : Nat} {tl : ab_H} {K : Int32 → ms_S → Prop} {S : ms_S} {i1 : Int32} {i2 : Int32}
    (h : ((S.1 0 13) ≤ i2 → (K i1 S)) ∧ (¬ (S.1 0 13) ≤ i2 → (vp_in i2 5 ∧ (L_X7_sharedPiecesC_4 G fr n0 tl K S (i1 ||| (S.2.2.2.1 6 i2.toNatClampNeg)) (i2 + nI 1))))) :
    L_X7_sharedPiecesC_4 G fr n0 tl K S i1 i2 := by
  unfold L_X7_sharedPiecesC_4
  iterate 4 refine ws_b rfl ?_
  refine wp_ite (fun q => ?_) (fun q => ?_)
  · replace h := h.1 q
    refine ws_b rfl ?_
    exact wp_ri rfl rfl rfl ⟨_, _, rfl, rfl, h⟩
  · replace h := h.2 q
    iterate 4 refine ws_b rfl ?_
    refine ws_g rfl h.1 ?_
    replace h := h.2
    iterate 4 refine ws_b rfl ?_
    exact wp_weak (wk_s (wk_s (wk_s wk_0))) h
set_option maxRecDepth 100000 in
set_option maxHeartbeats 4000000 in
theorem m_X7_sharedPiecesC {G : ab_G} {fr : Bool} {tl : ab_H} {K : Int32 → ms_S → Prop} {S : ms_S} 
    (h : ∀ n0 : Nat, L_X7_sharedPiecesC_4 G fr n0 tl K S (nI 0) (nI 0)) :
    ctI G 1 M_X7_sharedPieces fr [.ref 0] lC S tl K := by
  refine wp_ct o_X7_sharedPieces (Nat.le_of_ble_eq_true rfl) ?_
  replace h := h (hLy lC S tl).length
  revert h
  generalize (hLy lC S tl).length = n0
  intro h
  iterate 4 refine ws_b rfl ?_
  exact wp_weak (wk_s (wk_s (wk_s wk_0))) h
theorem ft_tab : ∀ n, n < 10 → (nI 1 <<< (nI n &&& 31)) - nI 1 = nI (2 ^ n - 1) := by decide +kernel
/-- who has what at first -/
def bSh (S : ms_S) (P : tPL) (f : Nat → Int32) : Prop := (∀ h, h < 5 → S.2.2.2.1 6 h = nI (heldN f (nI h) P.1)) ∧ ∀ p, p < P.1 → f p = -(nI 2) ∨ ∃ h, h < P.2.1 ∧ f p = nI h
theorem bSh_F {A : Nat → Bool} {S S' : ms_S} {P : tPL} {f : Nat → Int32} (c : cF A S S') (h6 : A 6 = false) (h : bSh S P f) : bSh S' P f := by
  unfold bSh
  rw [c.2.2.1 6 h6]
  exact h
def orH (f : Nat → Int32) (n : Nat) : Nat → Nat
  | 0 => 0
  | h + 1 => orH f n h ||| heldN f (nI h) n
theorem orH_tb (f : Nat → Int32) (n j : Nat) : ∀ h, h < 2 ^ 31 → ((orH f n h).testBit j = true ↔ j < n ∧ ∃ i, i < h ∧ f j = nI i)
  | 0, _ => by
    show (0 : Nat).testBit j = true ↔ _
    rw [Nat.zero_testBit]
    exact ⟨fun z => Bool.noConfusion z, fun ⟨_, i, hi, _⟩ => absurd hi (Nat.not_lt_zero _)⟩
  | h + 1, hh => by
    show (orH f n h ||| heldN f (nI h) n).testBit j = true ↔ _
    rw [Nat.testBit_or, Bool.or_eq_true, orH_tb f n j h (by omega), heldN_tb, Bool.and_eq_true, decide_eq_true_eq, decide_eq_true_eq]
    constructor
    · rintro (⟨h1, i, h2, h3⟩ | ⟨h1, h2⟩)
      · exact ⟨h1, i, by omega, h3⟩
      · exact ⟨h1, h, by omega, h2⟩
    · rintro ⟨h1, i, h2, h3⟩
      by_cases e : i = h
      · exact Or.inr ⟨h1, by rw [← e]; exact h3⟩
      · exact Or.inl ⟨h1, i, by omega, h3⟩
theorem orH_lt (f : Nat → Int32) (n : Nat) : ∀ h, orH f n h < 2 ^ n
  | 0 => Nat.two_pow_pos n
  | h + 1 => Nat.or_lt_two_pow (orH_lt f n h) (heldN_lt _ _ _)
section CORE19
variable {G : ab_G} {S : ms_S} {tl : ab_H} {P : tPL} {o : Nat → Option tDQ} {f : Nat → Int32}
theorem u_shared (hP : bPl S P o) (hS : bSh S P f) (K : Int32 → ms_S → Prop) (k : K (nI (orH f P.1 P.2.1)) S) : ctI G 1 M_X7_sharedPieces false [.ref 0] lC S tl K := by
  have p2 := hP.2.1
  refine m_X7_sharedPiecesC (fun n0 => ?_)
  suffices KL : ∀ t h, h + t = P.2.1 → L_X7_sharedPiecesC_4 G false n0 tl K S (nI (orH f P.1 h)) (nI h) from KL P.2.1 0 (Nat.zero_add _)
  intro t
  induction t with
  | zero =>
    intro h hh
    have hh : h = P.2.1 := hh
    subst hh
    refine b_X7_sharedPiecesC_4 ?_
    rw [hP.2.2.2.1]
    exact ⟨fun _ => k, fun z => absurd (Int32.le_refl _) z⟩
  | succ t ih =>
    intro h hh
    have hn := ih (h + 1) (by omega)
    refine b_X7_sharedPiecesC_4 ?_
    rw [hP.2.2.2.1, nI_leI (by omega) (by omega), show (nI h).toNatClampNeg = h from nI_clamp (by omega), hS.1 h (by omega), nu_or, nI_add]
    exact ⟨fun z => absurd z (by omega), fun _ => ⟨(x_vp (by omega)).mpr (by omega), hn⟩⟩
theorem bx_eq (hS : bSh S P f) (p1 : P.1 ≤ 9) (p2 : P.2.1 ≤ 5) : dif (2 ^ P.1 - 1) (orH f P.1 P.2.1) = heldN f (-(nI 2)) P.1 := by
  have h5 : 2 ^ P.1 ≤ 512 := p2_9 p1
  apply Nat.eq_of_testBit_eq
  intro j
  rw [dif_tb (by omega), Nat.testBit_two_pow_sub_one, heldN_tb]
  by_cases hj : j < P.1
  · rw [decide_eq_true hj, Bool.true_and, Bool.true_and]
    have ho := orH_tb f P.1 j P.2.1 (by omega)
    rcases hS.2 j hj with w | ⟨h, h1, w⟩
    · rw [decide_eq_true w]
      have : (orH f P.1 P.2.1).testBit j = false := by
        cases e : (orH f P.1 P.2.1).testBit j with
        | false => rfl
        | true =>
          obtain ⟨_, i, hi, w2⟩ := ho.mp e
          rw [w] at w2
          exact absurd w2.symm (nn_ne (by omega) (by decide) (by decide))
      rw [this]
      rfl
    · rw [ho.mpr ⟨hj, h, h1, w⟩, decide_eq_false (fun z => nn_ne (a := h) (by omega) (by decide) (by decide) (w.symm.trans z))]
      rfl
  · rw [decide_eq_false hj, Bool.false_and, Bool.false_and]
theorem u_begin (hP : bPl S P o) (hS : bSh S P f) (sd : Nat) (hsd : sd < 2 ^ 31) (he : S.1 0 17 = -(nI 1) ∧ sd = 0 ∨ S.1 0 17 = nI sd) (K : ms_S → Prop) (k : ∀ S', cF aEs S S' → bES S' P (s0K f) sd → K S') : ctU G 2 M_X1_begin false [.ref 46, .ref 0] lC S tl K := by
  have p1 := hP.1
  have p2 := hP.2.1
  refine m_X1_begin (fun n0 => ?_)
  suffices KL : ∀ t i (X : ms_S), i + t = 5 → cF aEs S X → (∀ j, j < i → X.2.2.2.1 47 j = nI (heldN f (nI j) P.1) ∧ X.2.2.2.1 48 j = nI 0 ∧ X.2.2.2.1 49 j = nI 0) → L_X1_begin_2 G false n0 tl K X (nI i) from KL 5 0 S rfl cF.rf (fun j hj => absurd hj (Nat.not_lt_zero _))
  intro t
  induction t with
  | zero =>
    intro i X hi x1 x2
    have hi : i = 5 := hi
    subst hi
    have hPX := bPl_F x1 aEs_pl hP
    have f1 : cF aEs S (sVa X 46 3 (nI 0)) := x1.tr (cF.sVa rfl)
    refine b_X1_begin_2 ⟨fun _ => u_shared (bPl_F f1 aEs_pl hP) (bSh_F f1 rfl hS) _ (m_X7_seedOfNumbers (fun n1 => ?_)), fun z => absurd (Int32.le_refl _) z⟩
    rw [hPX.2.2.1, ft_tab _ (by omega), nu_dif, bx_eq hS p1 p2]
    have e17 : X.1 0 17 = S.1 0 17 := congrFun (x1.1 0 rfl) 17
    have fin : K (sVa (sVa (sVa (sVa (sVa X 46 3 (nI 0)) 46 4 (nI (heldN f (-(nI 2)) P.1))) 46 5 (nI 0)) 46 6 (nI 0)) 46 7 (nI sd)) := by
      refine k _ (((((x1.tr (cF.sVa rfl)).tr (cF.sVa rfl)).tr (cF.sVa rfl)).tr (cF.sVa rfl)).tr (cF.sVa rfl)) ⟨fun h hh => (x2 h hh).1, fun h hh => ⟨(x2 h hh).2.1, Nat.zero_le _⟩, fun h hh => (x2 h hh).2.2, rfl, (by decide : (0 : Nat) < 2 ^ 20), rfl, ?_, rfl, ⟨rfl, hsd⟩, fun p hp => ?_, fun h _ => ⟨rfl, rfl⟩⟩
      · show nI 0 = nI (heldN f (-(nI 3)) P.1)
        rw [show heldN f (-(nI 3)) P.1 = 0 from Nat.eq_of_testBit_eq (fun j => by
          rw [heldN_tb, Nat.zero_testBit]
          by_cases hj : j < P.1
          · rcases hS.2 j hj with w | ⟨h, h1, w⟩
            · rw [w, decide_eq_false n23, Bool.and_false]
            · rw [w, decide_eq_false (nn_ne (by omega) (by decide) (by decide)), Bool.and_false]
          · rw [decide_eq_false hj, Bool.false_and])]
      · rcases hS.2 p hp with w | w
        · exact Or.inl w
        · exact Or.inr (Or.inr w)
    rcases he with ⟨w, w2⟩ | w
    · subst w2
      exact ⟨fun _ => fin, fun z => absurd (e17.trans w) z⟩
    · refine ⟨fun z => absurd ((e17.trans w).symm.trans z) (nn_ne hsd (by decide) (by decide)), fun _ => ?_⟩
      show K (sVa (sVa (sVa (sVa (sVa X 46 3 (nI 0)) 46 4 (nI (heldN f (-(nI 2)) P.1))) 46 5 (nI 0)) 46 6 (nI 0)) 46 7 (X.1 0 17))
      rw [e17, w]
      exact fin
  | succ t ih =>
    intro i X hi x1 x2
    refine b_X1_begin_2 ?_
    have hv : vp_in (nI i) 5 := (x_vp (by omega)).mpr (by omega)
    rw [nI_leI (by decide) (by omega), show (nI i).toNatClampNeg = i from nI_clamp (by omega), (congrFun (x1.2.2.1 6 rfl) i).trans (hS.1 i (by omega)), nI_add]
    refine ⟨fun z => absurd z (by omega), fun _ => ⟨hv, hv, hv, hv, ih (i + 1) _ (by omega) (((x1.tr (cF.sA rfl)).tr (cF.sA rfl)).tr (cF.sA rfl)) (fun j hj => ?_)⟩⟩
    show upd (X.2.2.2.1 47) i _ j = _ ∧ upd (X.2.2.2.1 48) i _ j = _ ∧ upd (X.2.2.2.1 49) i _ j = _
    by_cases e : j = i
    · rw [e, pk_us, pk_us, pk_us]
      exact ⟨rfl, rfl, rfl⟩
    · rw [pk_un e, pk_un e, pk_un e]
      exact x2 j (by omega)
def aTo : Nat → Bool := fun a => Nat.beq a 36 || Nat.beq a 31
theorem u_told (nd : Nat) (hn : S.1 0 16 = nI 0 ∧ nd = 2 ∨ ¬ nd = 0 ∧ S.1 0 16 = nI nd) (h9 : nd ≤ 9) (K : ms_S → Prop) (k : ∀ S', cF aTo S S' → (∀ i, i = 8 ∨ i = 9 ∨ i = 10 → S'.1 31 i = S.1 31 i) → bOP S' (false, false, false, false, -(nI 1), nd) → K S') : ctU G 2 M_X0_asTold false [.ref 36] lC S tl K := by
  have fin : K (sVa (sVa (sVa (sVa (sVa (sVa S 36 2 (nI 0)) 36 3 (nI 0)) 36 4 (-(nI 1))) 36 5 (nI nd)) 31 6 (nI 0)) 31 7 (nI 0)) := by
    refine k _ ((((((cF.sVa rfl).tr (cF.sVa rfl)).tr (cF.sVa rfl)).tr (cF.sVa rfl)).tr (cF.sVa rfl)).tr (cF.sVa rfl)) (fun i hi => ?_) ⟨rfl, rfl, rfl, rfl, rfl, rfl, h9⟩
    rcases hi with e | e | e
    · rw [e]; rfl
    · rw [e]; rfl
    · rw [e]; rfl
  refine m_X0_asTold (fun n0 => m_X7_needOfRow (fun n1 => ?_))
  rcases hn with ⟨w, w2⟩ | ⟨w0, w⟩
  · subst w2
    exact ⟨fun _ => fin, fun z => absurd w z⟩
  · refine ⟨fun z => absurd ((x_eq0 (by omega)).mp (w.symm.trans z)) w0, fun _ => ?_⟩
    show K (sVa (sVa (sVa (sVa (sVa (sVa S 36 2 (nI 0)) 36 3 (nI 0)) 36 4 (-(nI 1))) 36 5 (S.1 0 16)) 31 6 (nI 0)) 31 7 (nI 0))
    rw [w]
    exact fin
end CORE19

