/-! ===== the program: what its cells say of a plan and an estate; laws asked ===== -/
def bPl (S : ms_S) (P : tPL) (o : Nat → Option tDQ) : Prop := P.1 ≤ 9 ∧ P.2.1 ≤ 5 ∧ S.1 0 12 = nI P.1 ∧ S.1 0 13 = nI P.2.1 ∧ (∀ p, p < P.1 → S.2.2.2.1 2 p = nI (P.2.2.1 p) ∧ P.2.2.1 p < 7 ∧ S.2.2.2.1 3 p = nI (P.2.2.2.1 p) ∧ P.2.2.2.1 p < 7 ∧ S.2.2.2.1 4 p = nI (P.2.2.2.2.1 p) ∧ P.2.2.2.2.1 p ≤ 99) ∧ mLw (rsS e_LwC0 S) (o 0) ∧ mLw (rsS e_LwC1 S) (o 1) ∧ mLw (rsS e_LwC2 S) (o 2) ∧ ∀ w, w < 3 → P.2.2.2.2.2.1 w = (o w).isSome ∧ P.2.2.2.2.2.2 w = evW (o w)
def bES (S : ms_S) (P : tPL) (s : tES) (dn : Nat) : Prop := (∀ h, h < 5 → S.2.2.2.1 47 h = nI (heldN s.1 (nI h) P.1)) ∧ (∀ h, h < 5 → S.2.2.2.1 48 h = nI (s.2.1 h) ∧ s.2.1 h ≤ 99999) ∧ (∀ h, h < 5 → S.2.2.2.1 49 h = nI (s.2.2.1 h)) ∧ S.1 46 3 = nI s.2.2.2.2 ∧ s.2.2.2.2 < 2 ^ 20 ∧ S.1 46 4 = nI (bxN P s) ∧ S.1 46 5 = nI (heldN s.1 (-(nI 3)) P.1) ∧ S.1 46 6 = nI s.2.2.2.1 ∧ (S.1 46 7 = nI dn ∧ dn < 2 ^ 31) ∧ hoOk P s ∧ ∀ h, P.2.1 ≤ h → s.2.1 h = 0 ∧ s.2.2.1 h = 0
def plA (A : Nat → Bool) : Prop := A 0 = false ∧ A 2 = false ∧ A 3 = false ∧ A 4 = false ∧ A 13 = false ∧ A 14 = false ∧ A 17 = false ∧ A 18 = false ∧ A 21 = false ∧ A 22 = false
def esA (A : Nat → Bool) : Prop := A 46 = false ∧ A 47 = false ∧ A 48 = false ∧ A 49 = false
theorem bPl_F {A : Nat → Bool} {S S' : ms_S} {P : tPL} {o : Nat → Option tDQ} (f : cF A S S') (hA : plA A) (h : bPl S P o) : bPl S' P o := by
  obtain ⟨a0, a2, a3, a4, a13, a14, a17, a18, a21, a22⟩ := hA
  obtain ⟨p1, p2, p3, p4, p5, l0, l1, l2, p6⟩ := h
  refine ⟨p1, p2, (congrFun (f.1 0 a0) 12).trans p3, (congrFun (f.1 0 a0) 13).trans p4, fun p hp => ?_, mLw_c (S := rsS e_LwC0 S) (f.1 13 a13) (f.2.2.1 14 a14) l0, mLw_c (S := rsS e_LwC1 S) (f.1 17 a17) (f.2.2.1 18 a18) l1, mLw_c (S := rsS e_LwC2 S) (f.1 21 a21) (f.2.2.1 22 a22) l2, p6⟩
  rw [f.2.2.1 2 a2, f.2.2.1 3 a3, f.2.2.1 4 a4]
  exact p5 p hp
theorem bES_F {A : Nat → Bool} {S S' : ms_S} {P : tPL} {s : tES} {dn : Nat} (f : cF A S S') (hA : esA A) (h : bES S P s dn) : bES S' P s dn := by
  obtain ⟨a46, a47, a48, a49⟩ := hA
  unfold bES
  rw [f.1 46 a46, f.2.2.1 47 a47, f.2.2.1 48 a48, f.2.2.1 49 a49]
  exact h
theorem aW_pl : plA aW := ⟨rfl, rfl, rfl, rfl, rfl, rfl, rfl, rfl, rfl, rfl⟩
theorem aW_es : esA aW := ⟨rfl, rfl, rfl, rfl⟩
theorem ab_tab : ∀ x, x < 7 → ∀ y, y < 7 → (if 0 ≤ nI x - nI y then nI x - nI y else 0 - (nI x - nI y)) = nI (absd x y) := by decide +kernel
theorem absd_lt {x y : Nat} (hx : x < 7) (hy : y < 7) : absd x y < 7 := by
  unfold absd
  split <;> omega
section CORE1
variable {G : ab_G} {S : ms_S} {tl : ab_H} {P : tPL} {o : Nat → Option tDQ} {s : tES} {dn : Nat}
theorem v_apart (fr : Bool) (hP : bPl S P o) (p : Nat) (hp : p < P.1) (K : Int32 → ms_S → Prop) (k : K (nI (absd (P.2.2.1 p) (P.2.2.2.1 p))) S) : ctI G 2 M_X7_apart fr [.ref 0, .int (nI p)] lC S tl K := by
  have p1 := hP.1
  obtain ⟨o1, o2, o3, o4, o5, o6⟩ := hP.2.2.2.2.1 p hp
  refine m_X7_apart (fun n0 => ?_)
  have hv : vp_in (nI p) 9 := (x_vp (by omega)).mpr (by omega)
  rw [nI_clamp (by omega), o1, o3, ab_tab _ o2 _ o4]
  exact ⟨hv, hv, k⟩
theorem u_doubles (fr : Bool) (hP : bPl S P o) (set : Nat) (hset : set < 2 ^ 32) (K : Int32 → ms_S → Prop) (k : K (nI (dbN P set P.1)) S) : ctI G 1 M_X7_doublesOf fr [.ref 0, .int (nI set)] lC S tl K := by
  have p1 := hP.1
  have p3 := hP.2.2.1
  refine m_X7_doublesOf (fun n0 => ?_)
  suffices KL : ∀ r j, j + r = P.1 → L_X7_doublesOf_4 G fr n0 tl K S (nI set) (nI (dbN P set j)) (nI j) from KL P.1 0 (by omega)
  intro r
  induction r with
  | zero =>
    intro j hj
    refine b_X7_doublesOf_4 ?_
    rw [p3, nI_leI (by omega) (by omega)]
    exact ⟨fun _ => by rw [show j = P.1 from hj]; exact k, fun z => absurd (show P.1 ≤ j by omega) z⟩
  | succ r ih =>
    intro j hj
    obtain ⟨o1, o2, o3, o4, o5, o6⟩ := hP.2.2.2.2.1 j (by omega)
    have hn := ih (j + 1) (by omega)
    have hv : vp_in (nI j) 9 := (x_vp (by omega)).mpr (by omega)
    have hd : dbN P set (j + 1) = dbN P set j + (if set.testBit j = true then (if P.2.2.1 j = P.2.2.2.1 j then 1 else 0) else 0) := rfl
    refine b_X7_doublesOf_4 ?_
    rw [p3, nI_leI (by omega) (by omega), tb_u (by omega) hset, nI_clamp (by omega), o1, o3, nI_eq (by omega) (by omega), nI_add, nI_add]
    rw [hd] at hn
    refine ⟨fun z => absurd z (by omega), fun _ => ⟨fun z => ⟨hv, hv, fun y => ?_, fun y => ?_⟩, fun z => ?_⟩⟩
    · rw [if_pos z, if_pos y] at hn
      exact hn
    · rw [if_pos z, if_neg y] at hn
      exact hn
    · rw [if_neg z] at hn
      exact hn
theorem u_worth (fr : Bool) (hP : bPl S P o) (set : Nat) (hset : set < 2 ^ 32) (K : Int32 → ms_S → Prop) (k : K (nI (wsN P set P.1)) S) : ctI G 1 M_X7_worthOf fr [.ref 0, .int (nI set)] lC S tl K := by
  have p1 := hP.1
  have p3 := hP.2.2.1
  refine m_X7_worthOf (fun n0 => ?_)
  suffices KL : ∀ r j, j + r = P.1 → L_X7_worthOf_4 G fr n0 tl K S (nI set) (nI (wsN P set j)) (nI j) from KL P.1 0 (by omega)
  intro r
  induction r with
  | zero =>
    intro j hj
    refine b_X7_worthOf_4 ?_
    rw [p3, nI_leI (by omega) (by omega)]
    exact ⟨fun _ => by rw [show j = P.1 from hj]; exact k, fun z => absurd (show P.1 ≤ j by omega) z⟩
  | succ r ih =>
    intro j hj
    obtain ⟨o1, o2, o3, o4, o5, o6⟩ := hP.2.2.2.2.1 j (by omega)
    have hn := ih (j + 1) (by omega)
    have hv : vp_in (nI j) 9 := (x_vp (by omega)).mpr (by omega)
    have hd : wsN P set (j + 1) = wsN P set j + (if set.testBit j = true then P.2.2.2.2.1 j else 0) := rfl
    refine b_X7_worthOf_4 ?_
    rw [p3, nI_leI (by omega) (by omega), nu_ushr (by omega) hset, nu_one, nI_clamp (by omega), o5, pk_mul, nI_add, nI_add]
    rw [hd] at hn
    refine ⟨fun z => absurd z (by omega), fun _ => ⟨hv, ?_⟩⟩
    by_cases z : set.testBit j = true
    · rw [if_pos z] at hn
      rw [(nu_tb set j).mpr z, Nat.one_mul]
      exact hn
    · rw [if_neg z] at hn
      have : set / 2 ^ j % 2 = 0 := (Nat.mod_two_eq_zero_or_one _).elim id (fun y => absurd ((nu_tb set j).mp y) z)
      rw [this, Nat.zero_mul]
      exact hn
theorem ws_le (hP : bPl S P o) (set : Nat) : ∀ n, n ≤ P.1 → wsN P set n ≤ 99 * n
  | 0, _ => Nat.le_refl _
  | n + 1, h => by
    have ih := ws_le hP set n (by omega)
    obtain ⟨o1, o2, o3, o4, o5, o6⟩ := hP.2.2.2.2.1 n (by omega)
    show wsN P set n + (if set.testBit n = true then P.2.2.2.2.1 n else 0) ≤ _
    split <;> omega
theorem db_le (set : Nat) : ∀ n, dbN P set n ≤ n
  | 0 => Nat.le_refl _
  | n + 1 => by
    have ih := db_le set n
    show dbN P set n + (if set.testBit n = true then (if P.2.2.1 n = P.2.2.2.1 n then 1 else 0) else 0) ≤ _
    (repeat' split) <;> omega
theorem u_mayV (hP : bPl S P o) (hs : bES S P s dn) (p h : Nat) (hp : p < P.1) (hh : h < P.2.1) (K : Int64 → ms_S → Prop) (k : ∀ S', cF aW S S' → K ((evW (o 1) (envM P s h p)).getD NTM) S') : ctL G 4 M_X3_mayValue false [.ref 31, .ref 46, .int (nI p), .int (nI h)] lC S tl K := by
  obtain ⟨p1, p2, p3, p4, p5, l0, l1, l2, p6⟩ := id hP
  obtain ⟨s1, s2, s3, s4, s5, s6, s7, s8, s9, s10, s11⟩ := id hs
  have hv5 : vp_in (nI h) 5 := (x_vp (by omega)).mpr (by omega)
  have hv9 : vp_in (nI p) 9 := (x_vp (by omega)).mpr (by omega)
  have hb9 := held9 (f := s.1) (x := nI h) p1
  obtain ⟨o1, o2, o3, o4, o5, o6⟩ := p5 p hp
  have hab := absd_lt o2 o4
  have hpo := pop_le (heldN s.1 (nI h) P.1) 9
  have hg := (s2 h (by omega)).2
  refine m_X3_mayValue (fun n0 => ⟨hv5, ?_⟩)
  rw [show (nI h).toNatClampNeg = h from nI_clamp (by omega), show (nI p).toNatClampNeg = p from nI_clamp (by omega), s1 h (by omega)]
  refine u_bitCount G false S tl _ hb9 _ ⟨hv5, ?_⟩
  rw [(s2 h (by omega)).1, s4]
  refine u_scene1 G S tl _ _ _ _ (fun S2 f2 n2 => ⟨hv9, hv9, hv9, ?_⟩)
  have hP2 := bPl_F f2 aW_pl hP
  refine v_apart false hP2 p hp _ ?_
  rw [f2.2.2.1 2 rfl, f2.2.2.1 3 rfl, f2.2.2.1 4 rfl, o1, o3, o5]
  exact u_work1 G S2 tl (o 1) hP2.2.2.2.2.2.2.1 _ _ _ _ _ _ _ (by omega) (by omega) (by omega) (by omega) (by omega) (by omega) (by omega) n2 _ (fun S' f3 _ _ => k S' (f2.tr f3))
theorem u_may (hP : bPl S P o) (hs : bES S P s dn) (p h : Nat) (hp : p < P.1) (hh : h < P.2.1) (am : Bool) (ha : S.1 31 7 = bI am) (K : Int32 → ms_S → Prop) (k : ∀ S', cF aW S S' → K (bI (mayK P s am h p)) S') : ctI G 5 M_X3_mayHold false [.ref 31, .ref 46, .int (nI p), .int (nI h)] lC S tl K := by
  refine m_X3_mayHold (fun n0 => ?_)
  rw [ha, x_b0]
  have e1 := (hP.2.2.2.2.2.2.2.2 1 (by decide)).1
  have e2 := (hP.2.2.2.2.2.2.2.2 1 (by decide)).2
  unfold mayK at k
  rw [e1, e2] at k
  refine ⟨fun z => u_mayV hP hs p h hp hh _ (fun S' f => ?_), fun z => ?_⟩
  · have k := k S' f
    rw [lg_cmp_eq]
    rw [z] at k
    cases hq : o 1 with
    | none =>
      rw [hq] at k
      exact ⟨fun y => absurd (show NTM = lN 0 from y) (by decide), fun _ => k⟩
    | some q =>
      rw [hq] at k
      have k : K (bI (yesL (evW (some q) (envM P s h p)))) S' := k
      generalize evW (some q) (envM P s h p) = r at k
      cases r with
      | none => exact ⟨fun y => absurd y (by decide), fun _ => k⟩
      | some v =>
        have k : K (bI (decide (¬ v = 0))) S' := k
        refine ⟨fun y => ?_, fun y => ?_⟩
        · have y : v = 0 := y
          rw [decide_eq_false (fun w => w y)] at k
          exact k
        · have y : ¬ v = 0 := y
          rw [decide_eq_true y] at k
          exact k
  · have k := k S cF.rf
    rw [nf_t z, Bool.or_true, Bool.true_or] at k
    exact k
theorem u_goldV (hP : bPl S P o) (hs : bES S P s dn) (p h : Nat) (hp : p < P.1) (hh : h < P.2.1) (K : Int64 → ms_S → Prop) (k : ∀ S', cF aW S S' → K ((evW (o 2) (env (P.2.2.1 p) (P.2.2.2.1 p) (P.2.2.2.2.1 p) (dbN P (2 ^ p) P.1) (manyK P s h) (s.2.1 h) s.2.2.2.2)).getD NTM) S') : ctL G 4 M_X3_goldValue false [.ref 31, .ref 46, .int (nI p), .int (nI h)] lC S tl K := by
  obtain ⟨p1, p2, p3, p4, p5, l0, l1, l2, p6⟩ := id hP
  obtain ⟨s1, s2, s3, s4, s5, s6, s7, s8, s9, s10, s11⟩ := id hs
  have hv5 : vp_in (nI h) 5 := (x_vp (by omega)).mpr (by omega)
  have hv9 : vp_in (nI p) 9 := (x_vp (by omega)).mpr (by omega)
  have hb9 := held9 (f := s.1) (x := nI h) p1
  obtain ⟨o1, o2, o3, o4, o5, o6⟩ := p5 p hp
  have hpo := pop_le (heldN s.1 (nI h) P.1) 9
  have hg := (s2 h (by omega)).2
  have hdb := db_le (P := P) (2 ^ p) P.1
  have h2p : 2 ^ p < 2 ^ 32 := Nat.pow_lt_pow_right (by decide) (by omega)
  refine m_X3_goldValue (fun n0 => ⟨hv5, ?_⟩)
  rw [show (nI h).toNatClampNeg = h from nI_clamp (by omega), show (nI p).toNatClampNeg = p from nI_clamp (by omega), s1 h (by omega)]
  refine u_bitCount G false S tl _ hb9 _ ⟨hv5, ?_⟩
  rw [(s2 h (by omega)).1, s4]
  refine u_scene2 G S tl _ _ _ _ (fun S2 f2 n2 => ⟨hv9, hv9, hv9, ?_⟩)
  have hP2 := bPl_F f2 aW_pl hP
  rw [nu_1shl (by omega)]
  refine u_doubles false hP2 (2 ^ p) h2p _ ?_
  rw [f2.2.2.1 2 rfl, f2.2.2.1 3 rfl, f2.2.2.1 4 rfl, o1, o3, o5]
  exact u_work2 G S2 tl (o 2) hP2.2.2.2.2.2.2.2.1 _ _ _ _ _ _ _ (by omega) (by omega) (by omega) (by omega) (by omega) (by omega) (by omega) n2 _ (fun S' f3 _ _ => k S' (f2.tr f3))
theorem u_joinV (hP : bPl S P o) (dy a c : Nat) (hdy : dy < 2 ^ 31) (ha : a < 7) (hc : c < 7) (K : Int64 → ms_S → Prop) (k : ∀ S', cF aW S S' → K ((evW (o 0) (env a c 0 (absd a c) 0 0 dy)).getD NTM) S') : ctL G 4 M_X3_joinValue false [.ref 31, .int (nI dy), .int (nI a), .int (nI c)] lC S tl K := by
  have hab := absd_lt ha hc
  refine m_X3_joinValue (fun n0 => u_scene0 G S tl _ _ _ _ (fun S2 f2 n2 => ?_))
  have hP2 := bPl_F f2 aW_pl hP
  rw [ab_tab _ ha _ hc]
  exact u_work0 G S2 tl (o 0) hP2.2.2.2.2.2.1 _ _ _ _ _ _ _ (by omega) (by omega) (by omega) (by omega) (by omega) (by omega) (by omega) n2 _ (fun S' f3 _ _ => k S' (f2.tr f3))
end CORE1

