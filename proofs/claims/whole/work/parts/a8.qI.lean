/-! ===== the program: rows counted ===== -/
def aWy : Nat → Bool := fun a => Nat.beq a 29
def aWR : Nat → Bool := fun a => aRc a || aWy a
theorem wr_R (a : Nat) (h : aWR a = false) : aRc a = false := by
  unfold aWR at h
  simp only [Bool.or_eq_false_iff] at h
  exact h.1
theorem wr_W (a : Nat) (h : aWR a = false) : aWy a = false := by
  unfold aWR at h
  simp only [Bool.or_eq_false_iff] at h
  exact h.2
theorem aWy_pl : plA aWy := ⟨rfl, rfl, rfl, rfl, rfl, rfl, rfl, rfl, rfl, rfl⟩
theorem aRc_pl : plA aRc := ⟨rfl, rfl, rfl, rfl, rfl, rfl, rfl, rfl, rfl, rfl⟩
section CORE9
variable {G : ab_G} {S : ms_S} {tl : ab_H} {P : tPL} {o : Nat → Option tDQ} {v : Nat} {jb : Nat → Nat}
theorem oe_7 (hP : bPl S P o) : ∀ c, c < 2 * P.1 → oeA P c < 7 ∧ oeB P c < 7 := by
  intro c hc
  obtain ⟨_, e2, _, e4, _⟩ := hP.2.2.2.2.1 (c / 2) (by omega)
  unfold oeA oeB
  split
  · exact ⟨e2, e4⟩
  · exact ⟨e4, e2⟩
theorem in_tb {e l : Nat} (hl : l < 7) : (inN jb e).testBit l = (jwN jb e).testBit l := by
  have h := byN_tb (c := fun _ => jwN jb e) (f := 0) (i := l) (by omega) (n := 7) (fun _ _ => Nat.lt_trans (bitsN_lt _ 7) (by decide))
  rw [Nat.zero_mul, Nat.zero_add] at h
  rw [h]
  rfl
theorem in_64 (e : Nat) : inN jb e < 2 ^ 64 := Nat.lt_trans (by_lt7 (c := fun _ => jwN jb e) (fun _ _ => bitsN_lt _ 7)) (by decide)
theorem u_wBefore (hP : bPl S P o) (hR : bRT S P v jb) (f : Option Nat) (hf : ∀ x, f = some x → x < 7) (rest : Nat) (hr : rest < 2 ^ P.1) (x : Nat) (hx : x < 7) (hW : ¬ rest = 0 → ∀ l, l < 7 → S.2.2.2.2 29 (rest * 7 + l) = lN (vyT P jb f rest l)) (K : Int64 → ms_S → Prop) (k : K (lN (vbT P jb f rest x)) S) : ctL G 1 M_X9_waysBefore false [.ref 25, .int (nI rest), .int (nI x), .int (fI f)] lC S tl K := by
  have p1 := hP.1
  have h5 : rest < 512 := Nat.lt_of_lt_of_le hr (p2_9 p1)
  obtain ⟨r1, r2, r3, r4, r5, r6, r7, r8⟩ := id hR
  refine m_X9_waysBefore (fun n0 => ?_)
  unfold vbT at k
  rw [x_eq0 (by omega), fI_n hf, fI_s hf hx]
  refine ⟨fun z => ?_, fun z => ?_⟩
  · rw [if_pos z] at k
    have k1 : (f = none ∨ f = some x) → K (lN 1) S := fun w => by rw [if_pos w] at k; exact k
    refine ⟨fun y => b_X9_waysBefore_14 (b_X9_waysBefore_19 (k1 (Or.inl y))), fun y => ⟨fun w => b_X9_waysBefore_14 (b_X9_waysBefore_19 (k1 (Or.inr w))), fun w => b_X9_waysBefore_19 ?_⟩⟩
    rw [if_neg (fun q => q.elim y w)] at k
    exact k
  · rw [if_neg z, ← vy_M p1 (oe_7 hP) f rest z hr] at k
    suffices KL : ∀ t i, i + t = 7 → L_X9_waysBefore_26 G false n0 tl K S (nI rest) (nI x) (lN (gsm (fun l => if (jwN jb x).testBit l = true then vyT P jb f rest l else 0) i)) (nI i) from KL 7 0 rfl
    intro t
    induction t with
    | zero =>
      intro i hi
      have hi : i = 7 := hi
      subst hi
      exact b_X9_waysBefore_26 ⟨fun _ => k, fun w => absurd (Int32.le_refl _) w⟩
    | succ t ih =>
      intro i hi
      have hn := ih (i + 1) (by omega)
      have hst : gsm (fun l => if (jwN jb x).testBit l = true then vyT P jb f rest l else 0) (i + 1) = gsm (fun l => if (jwN jb x).testBit l = true then vyT P jb f rest l else 0) i + (if (jwN jb x).testBit i = true then vyT P jb f rest i else 0) := rfl
      rw [hst] at hn
      refine b_X9_waysBefore_26 ?_
      rw [nI_leI (by decide) (by omega), show (nI x).toNatClampNeg = x from nI_clamp (by omega), r6 x hx, tb_l (x := inN jb x) (k := i) (by omega) (in_64 x), in_tb (by omega), show nI rest * nI 7 + nI i = nI (rest * 7 + i) from by rw [pk_mul, nI_add], show (nI (rest * 7 + i)).toNatClampNeg = rest * 7 + i from nI_clamp (by omega), hW z i (by omega), lN_add]
      refine ⟨fun w => absurd w (by omega), fun _ => ⟨(x_vp (by omega)).mpr hx, fun w => ⟨(x_vp (by omega)).mpr (by omega), b_X9_waysBefore_66 ?_⟩, fun w => b_X9_waysBefore_66 ?_⟩⟩
      · rw [if_pos w] at hn
        rw [nI_add]
        exact hn
      · rw [if_neg w, Nat.add_zero] at hn
        rw [nI_add]
        exact hn
theorem wi_ne {q r l m : Nat} (hl : l < 7) (hm : m < 7) (h : ¬ q = r) : ¬ q * 7 + l = r * 7 + m := by omega
theorem u_cwOf (hP : bPl S P o) (hR : bRT S P v jb) (f : Option Nat) (hf : ∀ x, f = some x → x < 7) (part : Nat) (hpt : part < 2 ^ P.1)
    (hW : ∀ p, p < P.1 → part.testBit p = true → ¬ part - 2 ^ p = 0 → ∀ l, l < 7 → S.2.2.2.2 29 ((part - 2 ^ p) * 7 + l) = lN (vyT P jb f (part - 2 ^ p) l)) (hz : ∀ l, l < 7 → S.2.2.2.2 29 (part * 7 + l) = lN 0) (K : ms_S → Prop)
    (k : ∀ S', cF aWy S S' → (∀ i, (∀ l, l < 7 → ¬ i = part * 7 + l) → S'.2.2.2.2 29 i = S.2.2.2.2 29 i) → (∀ l, l < 7 → S'.2.2.2.2 29 (part * 7 + l) = lN (vyT P jb f part l)) → K S') : ctU G 2 M_X9_countWaysOf false [.ref 25, .int (nI part), .int (fI f)] lC S tl K := by
  obtain ⟨p1, p2, p3, p4, p5, l0, l1, l2, p6⟩ := id hP
  have h5 : part < 512 := Nat.lt_of_lt_of_le hpt (p2_9 p1)
  refine m_X9_countWaysOf (fun n0 => ?_)
  suffices KL : ∀ t p X, p + t = P.1 → cF aWy S X → (∀ i, (∀ l, l < 7 → ¬ i = part * 7 + l) → X.2.2.2.2 29 i = S.2.2.2.2 29 i) → (∀ l, l < 7 → X.2.2.2.2 29 (part * 7 + l) = lN (gsm (fun c => if oeK P part c ∧ oeB P c = l then vbT P jb f (part - 2 ^ (c / 2)) (oeA P c) else 0) (2 * p))) → L_X9_countWaysOf_2 G false n0 tl K X (nI part) (fI f) (nI p) from KL P.1 0 S (Nat.zero_add _) cF.rf (fun _ _ => rfl) hz
  intro t
  induction t with
  | zero =>
    intro p X hp x1 x2 x3
    have hp : p = P.1 := hp
    subst hp
    refine b_X9_countWaysOf_2 ?_
    rw [(bPl_F x1 aWy_pl hP).2.2.1]
    exact ⟨fun _ => k X x1 x2 x3, fun z => absurd (Int32.le_refl _) z⟩
  | succ t ih =>
    intro p X hp x1 x2 x3
    have hPX := bPl_F x1 aWy_pl hP
    obtain ⟨o1, o2, o3, o4, _⟩ := hPX.2.2.2.2.1 p (by omega)
    have hRX := bRT_F x1 rfl rfl rfl rfl hR
    have hv9 : vp_in (nI p) 9 := (x_vp (by omega)).mpr (by omega)
    have hst : ∀ l, gsm (fun c => if oeK P part c ∧ oeB P c = l then vbT P jb f (part - 2 ^ (c / 2)) (oeA P c) else 0) (2 * (p + 1)) = gsm (fun c => if oeK P part c ∧ oeB P c = l then vbT P jb f (part - 2 ^ (c / 2)) (oeA P c) else 0) (2 * p) + (if part.testBit p = true ∧ P.2.2.2.1 p = l then vbT P jb f (part - 2 ^ p) (P.2.2.1 p) else 0) + (if (part.testBit p = true ∧ ¬ P.2.2.1 p = P.2.2.2.1 p) ∧ P.2.2.1 p = l then vbT P jb f (part - 2 ^ p) (P.2.2.2.1 p) else 0) := by
      intro l
      show (gsm _ (2 * p) + (if oeK P part (2 * p) ∧ oeB P (2 * p) = l then vbT P jb f (part - 2 ^ ((2 * p) / 2)) (oeA P (2 * p)) else 0)) + (if oeK P part (2 * p + 1) ∧ oeB P (2 * p + 1) = l then vbT P jb f (part - 2 ^ ((2 * p + 1) / 2)) (oeA P (2 * p + 1)) else 0) = _
      rw [oeA_0, oeA_1, oeB_0, oeB_1]
      congr 1
      · congr 1
        exact ife ⟨fun w => ⟨oeK_0.mp w.1, w.2⟩, fun w => ⟨oeK_0.mpr w.1, w.2⟩⟩ (fun _ => by rw [(oe_d p).1])
      · exact ife ⟨fun w => ⟨oeK_1.mp w.1, w.2⟩, fun w => ⟨oeK_1.mpr w.1, w.2⟩⟩ (fun _ => by rw [(oe_d p).2.1])
    refine b_X9_countWaysOf_2 ?_
    rw [hPX.2.2.1, nI_leI (by omega) (by omega), nu_1shl (by omega), nu_clr part h5 p (by omega), show (nI p).toNatClampNeg = p from nI_clamp (by omega), o1, o3]
    refine ⟨fun z => absurd z (by omega), fun _ => ?_⟩
    have KN : ∀ Y, cF aWy S Y → (∀ i, (∀ l, l < 7 → ¬ i = part * 7 + l) → Y.2.2.2.2 29 i = S.2.2.2.2 29 i) → (∀ l, l < 7 → Y.2.2.2.2 29 (part * 7 + l) = lN (gsm (fun c => if oeK P part c ∧ oeB P c = l then vbT P jb f (part - 2 ^ (c / 2)) (oeA P c) else 0) (2 * (p + 1)))) → L_X9_countWaysOf_105 G false n0 tl K Y (nI part) (fI f) (nI p) := fun Y y1 y2 y3 => b_X9_countWaysOf_105 (by rw [nI_add]; exact ih (p + 1) Y (by omega) y1 y2 y3)
    by_cases tb : part.testBit p = true
    · have h2j : 2 ^ p ≤ part := Nat.ge_two_pow_of_testBit tb
      have hpos := Nat.two_pow_pos p
      rw [if_pos tb, nI_eq (by omega) (by omega), show ∀ l, nI part * nI 7 + nI l = nI (part * 7 + l) from fun l => by rw [pk_mul, nI_add], show (nI part * nI 7 + nI (P.2.2.1 p)) = nI (part * 7 + P.2.2.1 p) from by rw [pk_mul, nI_add]]
      rw [show (nI (part * 7 + P.2.2.2.1 p)).toNatClampNeg = part * 7 + P.2.2.2.1 p from nI_clamp (by omega), show (nI (part * 7 + P.2.2.1 p)).toNatClampNeg = part * 7 + P.2.2.1 p from nI_clamp (by omega)]
      have va : vp_in (nI (part * 7 + P.2.2.1 p)) 3584 := (x_vp (by omega)).mpr (by omega)
      have vb : vp_in (nI (part * 7 + P.2.2.2.1 p)) 3584 := (x_vp (by omega)).mpr (by omega)
      have hne : ¬ part - 2 ^ p = part := by omega
      have hW1 : ¬ part - 2 ^ p = 0 → ∀ l, l < 7 → X.2.2.2.2 29 ((part - 2 ^ p) * 7 + l) = lN (vyT P jb f (part - 2 ^ p) l) := fun z l hl => (x2 _ (fun m hm => wi_ne hl hm hne)).trans (hW p (by omega) tb z l hl)
      refine ⟨fun z => absurd z hne, fun _ => ⟨hv9, hv9, vb, ?_⟩⟩
      refine u_wBefore hPX hRX f hf _ (by omega) _ o2 hW1 _ ⟨vb, fun z => ?_, fun z => ⟨va, ?_⟩⟩
      · have z : P.2.2.1 p = P.2.2.2.1 p := (nI_eq (by omega) (by omega)).mp z
        refine KN _ (x1.tr (cF.sL rfl)) (fun i hi => ?_) (fun l hl => ?_)
        · show vp_updL (X.2.2.2.2 29) _ _ i = _
          rw [updL_no (hi _ o4)]
          exact x2 i hi
        · show vp_updL (X.2.2.2.2 29) _ _ _ = _
          rw [hst l, if_neg (c := (part.testBit p = true ∧ ¬ P.2.2.1 p = P.2.2.2.1 p) ∧ P.2.2.1 p = l) (fun w => w.1.2 z), Nat.add_zero]
          by_cases e : P.2.2.2.1 p = l
          · rw [← e, updL_at, if_pos ⟨tb, rfl⟩, x3 _ o4, lN_add]
          · rw [updL_no (by omega), if_neg (fun w => e w.2), Nat.add_zero]
            exact x3 l hl
      · have z : ¬ P.2.2.1 p = P.2.2.2.1 p := fun w => z (by rw [w])
        have f1 : cF aWy S (sL X 29 (part * 7 + P.2.2.2.1 p) (X.2.2.2.2 29 (part * 7 + P.2.2.2.1 p) + lN (vbT P jb f (part - 2 ^ p) (P.2.2.1 p)))) := x1.tr (cF.sL rfl)
        refine u_wBefore (bPl_F f1 aWy_pl hP) (bRT_F f1 rfl rfl rfl rfl hR) f hf _ (by omega) _ o4 (fun y l hl => ?_) _ ⟨va, ?_⟩
        · show vp_updL (X.2.2.2.2 29) _ _ _ = _
          rw [updL_no (wi_ne hl o4 hne)]
          exact hW1 y l hl
        refine KN _ (f1.tr (cF.sL rfl)) (fun i hi => ?_) (fun l hl => ?_)
        · show vp_updL (vp_updL (X.2.2.2.2 29) _ _) _ _ i = _
          rw [updL_no (hi _ o2), updL_no (hi _ o4)]
          exact x2 i hi
        · show vp_updL (vp_updL (X.2.2.2.2 29) _ _) _ _ _ = _
          rw [hst l]
          by_cases e : P.2.2.1 p = l
          · rw [← e, updL_at, updL_no (by omega), if_neg (fun w => z w.2.symm), if_pos ⟨⟨tb, z⟩, rfl⟩, x3 _ o2, lN_add, Nat.add_zero]
          · rw [updL_no (by omega), if_neg (c := (part.testBit p = true ∧ ¬ P.2.2.1 p = P.2.2.2.1 p) ∧ P.2.2.1 p = l) (fun w => e w.2), Nat.add_zero]
            by_cases e2 : P.2.2.2.1 p = l
            · rw [← e2, updL_at, if_pos ⟨tb, rfl⟩, x3 _ o4, lN_add]
            · rw [updL_no (by omega), if_neg (fun w => e2 w.2), Nat.add_zero]
              exact x3 l hl
    · rw [if_neg tb, nI_eq (by omega) (by omega)]
      refine ⟨fun _ => KN X x1 x2 (fun l hl => ?_), fun z => absurd rfl z⟩
      rw [hst l, if_neg (fun w => tb w.1), if_neg (fun w => tb w.1.1)]
      exact x3 l hl
abbrev wyI (P : tPL) (jb : Nat → Nat) (f : Option Nat) (set part : Nat) (X : ms_S) : Prop := ∀ r, r &&& set = r → ¬ r = 0 → qk set r ≤ qk set part → ∀ l, l < 7 → X.2.2.2.2 29 (r * 7 + l) = lN (vyT P jb f r l)
theorem u_cWz {n0 : Nat} {K : ms_S → Prop} (f : Option Nat) (set part nx : Nat) (hn5 : nx < 512) (hrn : ∀ r, r &&& set = r → qk set r ≤ qk set part → ¬ r = nx) (k : ∀ Y, cF aWy S Y → wyI P jb f set part Y → (∀ l, l < 7 → Y.2.2.2.2 29 (nx * 7 + l) = lN 0) → L_X9_countWays_37 G false n0 tl K Y (fI f) (nI set) (nI nx) (nI (qk set part)) (nI 7)) : ∀ u j (Y : ms_S), j + u = 7 → cF aWy S Y → wyI P jb f set part Y → (∀ l, l < j → Y.2.2.2.2 29 (nx * 7 + l) = lN 0) → L_X9_countWays_37 G false n0 tl K Y (fI f) (nI set) (nI nx) (nI (qk set part)) (nI j) := by
  intro u
  induction u with
  | succ u ihu =>
    intro j Y hj y1 y2 y3
    refine b_X9_countWays_37 ?_
    rw [nI_leI (by decide) (by omega), show nI nx * nI 7 + nI j = nI (nx * 7 + j) from by rw [pk_mul, nI_add], show (nI (nx * 7 + j)).toNatClampNeg = nx * 7 + j from nI_clamp (by omega), nI_add]
    refine ⟨fun w => absurd w (by omega), fun _ => ⟨(x_vp (by omega)).mpr (by omega), ihu (j + 1) _ (by omega) (y1.tr (cF.sL rfl)) (fun r hr h0 hq l hl => ?_) (fun l hl => ?_)⟩⟩
    · show vp_updL (Y.2.2.2.2 29) _ _ _ = _
      rw [updL_no (wi_ne hl (show j < 7 by omega) (hrn r hr hq))]
      exact y2 r hr h0 hq l hl
    · show vp_updL (Y.2.2.2.2 29) _ _ _ = _
      by_cases e : l = j
      · rw [e, updL_at]
      · rw [updL_no (by omega)]
        exact y3 l (by omega)
  | zero =>
    intro j Y hj y1 y2 y3
    have hj : j = 7 := hj
    rw [hj] at y3 ⊢
    exact k Y y1 y2 y3
theorem u_cWs {n0 : Nat} {K : ms_S → Prop} (hP : bPl S P o) (hR : bRT S P v jb) (f : Option Nat) (hf : ∀ x, f = some x → x < 7) (set part nx : Nat) (hset : set < 2 ^ P.1) (h5 : set < 512) (hD : dnS S P jb set) (hns : nx &&& set = nx) (hnx : qk set nx = qk set part + 1) (hn0 : ¬ nx = 0) (hrn : ∀ r, r &&& set = r → qk set r ≤ qk set part → ¬ r = nx)
    (hnext : ∀ Y, cF aWy S Y → wyI P jb f set part Y → (∀ l, l < 7 → Y.2.2.2.2 29 (nx * 7 + l) = lN (vyT P jb f nx l)) → L_X9_countWays_83 G false n0 tl K Y (fI f) (nI set) (nI nx) (nI (qk set part))) (Y : ms_S) (y1 : cF aWy S Y) (y2 : wyI P jb f set part Y) (y3 : ∀ l, l < 7 → Y.2.2.2.2 29 (nx * 7 + l) = lN 0) : L_X9_countWays_37 G false n0 tl K Y (fI f) (nI set) (nI nx) (nI (qk set part)) (nI 7) := by
  have p1 := hP.1
  have hnl : nx ≤ set := by rw [← hns]; exact Nat.and_le_right
  have hrc : rcN P jb nx < 2 ^ 56 := by_lt7 (fun f _ => row_lt (jb := jb) hP nx f)
  have hvn : vp_in (nI nx) 512 := (x_vp (by omega)).mpr (by omega)
  have e26 : Y.2.2.2.2 26 nx = lN (rcN P jb nx) := (congrFun (y1.2.2.2.1 26 rfl) nx).trans (hD nx hns)
  refine b_X9_countWays_37 ⟨fun _ => ?_, fun w => absurd (Int32.le_refl _) w⟩
  rw [show (nI nx).toNatClampNeg = nx from nI_clamp (by omega), e26, lg_cmp_eq, pk_lEQ (by omega) (by decide)]
  refine ⟨hvn, fun w => hnext Y y1 y2 (fun l hl => ?_), fun w => ?_⟩
  · rw [vy_no p1 (oe_7 hP) f hf hn0 (by omega) (byN_0.mp w) hl]
    exact y3 l hl
  · refine u_cwOf (bPl_F y1 aWy_pl hP) (bRT_F y1 rfl rfl rfl rfl hR) f hf nx (by omega) (fun p hp tb h0 l hl => ?_) y3 _ (fun Z z1 z2 z3 => hnext Z (y1.tr z1) (fun r hr h0 hq l hl => ?_) z3)
    · have hc := qk_cl (set := set) (r := nx) (p := p) (by omega) (by omega) hns tb
      exact y2 _ (sub_cl h5 (by omega) hns tb) h0 (by omega) l hl
    · rw [z2 _ (fun m hm => wi_ne hl hm (hrn r hr hq))]
      exact y2 r hr h0 hq l hl
theorem u_cWL {n0 : Nat} {K : ms_S → Prop} (hP : bPl S P o) (hR : bRT S P v jb) (f : Option Nat) (hf : ∀ x, f = some x → x < 7) (set : Nat) (hset : set < 2 ^ P.1) (h5 : set < 512) (hD : dnS S P jb set)
    (k : ∀ S', cF aWy S S' → (∀ r, r &&& set = r → ¬ r = 0 → ∀ l, l < 7 → S'.2.2.2.2 29 (r * 7 + l) = lN (vyT P jb f r l)) → K S') : ∀ t part (X : ms_S), part &&& set = part → qk set part + t = 512 → cF aWy S X → wyI P jb f set part X → L_X9_countWays_12 G false n0 tl K X (fI f) (nI set) (nI part) (nI (qk set part)) := by
  intro t
  induction t with
  | zero =>
    intro part X hs ht
    have := qk_512 set part
    exact absurd ht (by omega)
  | succ t ih =>
    intro part X hs ht x1 x3
    have hq5 := qk_512 set part
    have hps : part ≤ set := by rw [← hs]; exact Nat.and_le_right
    refine b_X9_countWays_12 ?_
    rw [nI_leI (by decide) (by omega), nI_eq (by omega) (by omega), nu_nx h5 (by omega)]
    refine ⟨fun z => absurd z (by omega), fun _ => ⟨fun z => b_X9_countWays_89 ?_, fun z => ?_⟩⟩
    · rw [z] at x3
      exact k X x1 (fun r hr h0 => x3 r hr h0 (qkN_mo (set := set) hr 9))
    · have hnx := qk_nx h5 hs z
      have hns := nx_sub set part
      generalize nxN set part = nx at hnx hns ⊢
      have hnl : nx ≤ set := by rw [← hns]; exact Nat.and_le_right
      have hn0 : ¬ nx = 0 := fun w => by
        rw [w, show qk set 0 = 0 from qkN_0 set 9] at hnx
        omega
      have hrn : ∀ r, r &&& set = r → qk set r ≤ qk set part → ¬ r = nx := fun r _ hq w => by rw [w] at hq; omega
      refine u_cWz f set part nx (by omega) hrn (u_cWs hP hR f hf set part nx hset h5 hD hns hnx hn0 hrn (fun Y y1 y2 y3 => b_X9_countWays_83 ?_)) 7 0 X rfl x1 x3 (fun l hl => absurd hl (Nat.not_lt_zero _))
      rw [nI_add, ← hnx]
      refine ih nx Y hns (by omega) y1 (fun r hr h0 hq l hl => ?_)
      by_cases e : r = nx
      · rw [e]
        exact y3 l hl
      · have hne : ¬ qk set r = qk set nx := fun q => e (qk_inj h5 hr hns q)
        exact y2 r hr h0 (by omega) l hl
theorem u_cW (hP : bPl S P o) (hR : bRT S P v jb) (f : Option Nat) (hf : ∀ x, f = some x → x < 7) (set : Nat) (hset : set < 2 ^ P.1) (hD : dnS S P jb set) (K : ms_S → Prop)
    (k : ∀ S', cF aWy S S' → (∀ r, r &&& set = r → ¬ r = 0 → ∀ l, l < 7 → S'.2.2.2.2 29 (r * 7 + l) = lN (vyT P jb f r l)) → K S') : ctU G 3 M_X9_countWays false [.ref 25, .int (nI set), .int (fI f)] lC S tl K := by
  have p1 := hP.1
  have h5 : set < 512 := Nat.lt_of_lt_of_le hset (p2_9 p1)
  refine m_X9_countWays (fun n0 => ?_)
  rw [pk_andN (n := set) (by omega) (m := nI 511) 9 (by decide), Nat.mod_eq_of_lt (show set < 2 ^ 9 from h5)]
  have h0 : qk set 0 = 0 := qkN_0 set 9
  have := u_cWL (G := G) (tl := tl) (n0 := n0) hP hR f hf set hset h5 hD k 512 0 S (Nat.zero_and _) (by rw [h0]) cF.rf (fun r hr h00 hq => by
    rw [h0] at hq
    exact absurd (qk_z h5 hr (by omega)) h00)
  rw [h0] at this
  exact this
theorem rw_0 {en : Nat} {f : Option Nat} : rwT P jb en 0 f = 0 := by
  rw [show rwT P jb en 0 f = _ from rw_g P (wyT P jb en) 0 f P.1]
  refine Classical.byContradiction (fun w => ?_)
  obtain ⟨c, _, c2⟩ := gsm_n.mp w
  exact c2 (if_neg (fun y => by have := y.1.1; rw [Nat.zero_testBit] at this; cases this))
theorem m127 : ∀ l, l < 7 → (127 : Nat).testBit l = true := by decide
theorem u_allRows (hP : bPl S P o) (hR : bRT S P v jb) (set : Nat) (hset : set < 2 ^ P.1) (K : Int64 → ms_S → Prop) (k : ∀ S', cF aWR S S' → bRT S' P v jb → K (lN (rwT P jb 127 set none)) S') : ctL G 5 M_X9_allRows false [.ref 25, .int (nI set)] lC S tl K := by
  have p1 := hP.1
  have h5 : set < 512 := Nat.lt_of_lt_of_le hset (p2_9 p1)
  have hl : rcN P jb set < 2 ^ 56 := by_lt7 (c := fun f => rowT P jb set f) (fun f _ => row_lt hP set f)
  refine m_X9_allRows (fun n0 => ?_)
  rw [x_eq0 (by omega)]
  refine ⟨fun z => b_X9_allRows_12 ?_, fun z => ?_⟩
  · subst z
    rw [rw_0] at k
    exact k S cF.rf hR
  refine m_X9_isRow (fun n1 => u_reach hP hR set hset _ (fun S1 f1 h1 d1 => ?_))
  rw [lg_cmp_eq, pk_lEQ (by omega) (by decide)]
  refine ⟨fun w => ⟨fun _ => b_X9_allRows_12 ?_, fun y => absurd rfl y⟩, fun w => ⟨fun y => absurd y (by decide), fun _ => ?_⟩⟩
  · rw [(rw_row p1 (oe_7 hP) hset).mpr (byN_0.mp w)] at k
    exact k S1 (f1.mono wr_R) h1
  refine u_cW (bPl_F f1 aRc_pl hP) h1 none (fun x q => by cases q) set hset d1 _ (fun S2 f2 w2 => ?_)
  rw [← vy_M p1 (oe_7 hP) none set z hset] at k
  suffices KL : ∀ t i, i + t = 7 → L_X9_allRows_25 G false n0 tl K S2 (nI set) (lN (gsm (fun l => if (127 : Nat).testBit l = true then vyT P jb none set l else 0) i)) (nI i) from KL 7 0 rfl
  intro t
  induction t with
  | zero =>
    intro i hi
    have hi : i = 7 := hi
    subst hi
    exact b_X9_allRows_25 ⟨fun _ => k S2 ((f1.mono wr_R).tr (f2.mono wr_W)) (bRT_F f2 rfl rfl rfl rfl h1), fun y => absurd (Int32.le_refl _) y⟩
  | succ t ih =>
    intro i hi
    have hn := ih (i + 1) (by omega)
    rw [show gsm (fun l => if (127 : Nat).testBit l = true then vyT P jb none set l else 0) (i + 1) = gsm (fun l => if (127 : Nat).testBit l = true then vyT P jb none set l else 0) i + (if (127 : Nat).testBit i = true then vyT P jb none set i else 0) from rfl, if_pos (m127 i (by omega))] at hn
    refine b_X9_allRows_25 ?_
    rw [nI_leI (by decide) (by omega), pk_andN (n := set) (by omega) (m := nI 511) 9 (by decide), Nat.mod_eq_of_lt (show set < 2 ^ 9 from h5), show nI set * nI 7 + nI i = nI (set * 7 + i) from by rw [pk_mul, nI_add], show (nI (set * 7 + i)).toNatClampNeg = set * 7 + i from nI_clamp (by omega), w2 set (Nat.and_self _) z i (by omega), lN_add, nI_add]
    exact ⟨fun y => absurd y (by omega), fun _ => ⟨(x_vp (by omega)).mpr (by omega), hn⟩⟩
theorem cl_0 : ∀ n, clN P jb 0 n = 0
  | 0 => rfl
  | n + 1 => by
    show clN P jb 0 n + rwT P jb (jwN jb n) 0 (some n) = 0
    rw [cl_0 n, rw_0]
theorem cl_and {set f : Nat} (hP : bPl S P o) (hf : f < 7) : (rcN P jb set / 2 ^ (f * 8) &&& inN jb f) &&& 127 = rowT P jb set f &&& jwN jb f := by
  have hrl := row_lt (jb := jb) hP set f
  apply Nat.eq_of_testBit_eq
  intro i
  rw [Nat.testBit_and, Nat.testBit_and, Nat.testBit_and, Nat.testBit_div_two_pow]
  by_cases hi : i < 7
  · have hb := byN_tb (c := fun f => rowT P jb set f) (f := f) (i := i) (by omega) (n := 7) (fun f _ => Nat.lt_trans (row_lt (jb := jb) hP set f) (by decide))
    rw [decide_eq_true hf, Bool.true_and] at hb
    rw [in_tb hi, m127 i hi, Bool.and_true, Nat.add_comm i, hb]
  · have h7 : 2 ^ 7 ≤ 2 ^ i := Nat.pow_le_pow_right (by decide) (by omega)
    rw [Nat.testBit_lt_two_pow (x := 127) (by omega), Nat.testBit_lt_two_pow (x := rowT P jb set f) (by omega), Bool.and_false, Bool.false_and]
theorem u_closed (hP : bPl S P o) (hR : bRT S P v jb) (set : Nat) (hset : set < 2 ^ P.1) (K : Int64 → ms_S → Prop) (k : ∀ S', cF aWR S S' → bRT S' P v jb → K (lN (clN P jb set 7)) S') : ctL G 4 M_X9_closedRows false [.ref 25, .int (nI set)] lC S tl K := by
  have p1 := hP.1
  have h5 : set < 512 := Nat.lt_of_lt_of_le hset (p2_9 p1)
  have hl : rcN P jb set < 2 ^ 56 := by_lt7 (c := fun f => rowT P jb set f) (fun f _ => row_lt hP set f)
  refine m_X9_closedRows (fun n0 => ?_)
  rw [x_eq0 (by omega)]
  refine ⟨fun z => ?_, fun z => u_reach hP hR set hset _ (fun S1 f1 h1 d1 => ?_)⟩
  · subst z
    rw [cl_0] at k
    exact k S cF.rf hR
  have hP1 := bPl_F f1 aRc_pl hP
  suffices KL : ∀ t i (X : ms_S), i + t = 7 → cF aWy S1 X → L_X9_closedRows_18 G false n0 tl K X (nI set) (lN (rcN P jb set)) (lN (clN P jb set i)) (nI i) from KL 7 0 S1 rfl cF.rf
  intro t
  induction t with
  | zero =>
    intro i X hi x1
    have hi : i = 7 := hi
    subst hi
    exact b_X9_closedRows_18 ⟨fun _ => k X ((f1.mono wr_R).tr (x1.mono wr_W)) (bRT_F x1 rfl rfl rfl rfl h1), fun y => absurd (Int32.le_refl _) y⟩
  | succ t ih =>
    intro i X hi x1
    have hPX := bPl_F x1 aWy_pl hP1
    have hRX : bRT X P v jb := bRT_F x1 rfl rfl rfl rfl h1
    have hclS : clN P jb set (i + 1) = clN P jb set i + rwT P jb (jwN jb i) set (some i) := rfl
    have hn := fun Y y => ih (i + 1) Y (by omega) y
    rw [hclS, ← vy_M p1 (oe_7 hP) (some i) set z hset] at hn
    have hsm : rowT P jb set i &&& jwN jb i < 2 ^ 63 := Nat.lt_of_le_of_lt Nat.and_le_left (Nat.lt_trans (row_lt (jb := jb) hP set i) (by decide))
    refine b_X9_closedRows_18 ?_
    rw [nI_leI (by decide) (by omega), show (nI i).toNatClampNeg = i from nI_clamp (by omega), hRX.2.2.2.2.2.1 i (by omega), show nI i * nI 8 = nI (i * 8) from pk_mul _ _, nl_ushr (by omega) (by omega), show (127 : Int64) = lN 127 from by decide, nl_and, nl_and, cl_and hP (by omega), lg_cmp_eq, pk_lEQ (by omega) (by decide)]
    refine ⟨fun y => absurd y (by omega), fun _ => ⟨(x_vp (by omega)).mpr (by omega), fun w => b_X9_closedRows_108 ?_, fun w => ?_⟩⟩
    · have h0 : gsm (fun l => if (jwN jb i).testBit l = true then vyT P jb (some i) set l else 0) 7 = 0 := Classical.byContradiction (fun y => by
        obtain ⟨l, l1, l2⟩ := gsm_n.mp y
        by_cases q : (jwN jb i).testBit l = true
        · rw [if_pos q] at l2
          have h3 := (vy_N p1 (oe_7 hP) i set set (Nat.le_refl _) z hset l).mp l2
          have h4 : (rowT P jb set i &&& jwN jb i).testBit l = true := by rw [Nat.testBit_and, h3, q]; rfl
          rw [w, Nat.zero_testBit] at h4
          cases h4
        · rw [if_neg q] at l2
          exact l2 rfl)
      rw [h0, Nat.add_zero] at hn
      rw [nI_add]
      exact hn X x1
    · have d2 : dnS X P jb set := fun r hr => (congrFun (x1.2.2.2.1 26 rfl) r).trans (d1 r hr)
      refine u_cW hPX hRX (some i) (fun x q => by cases q; omega) set hset d2 _ (fun Y y1 w2 => ?_)
      have hRY : bRT Y P v jb := bRT_F y1 rfl rfl rfl rfl hRX
      suffices KI : ∀ u j, j + u = 7 → L_X9_closedRows_59 G false n0 tl K Y (nI set) (lN (rcN P jb set)) (lN (clN P jb set i + gsm (fun l => if (jwN jb i).testBit l = true then vyT P jb (some i) set l else 0) j)) (nI i) (nI j) from KI 7 0 rfl
      intro u
      induction u with
      | zero =>
        intro j hj
        have hj : j = 7 := hj
        subst hj
        refine b_X9_closedRows_59 ⟨fun _ => b_X9_closedRows_108 ?_, fun y => absurd (Int32.le_refl _) y⟩
        rw [nI_add]
        exact hn Y (x1.tr y1)
      | succ u ihu =>
        intro j hj
        have hm := ihu (j + 1) (by omega)
        rw [show gsm (fun l => if (jwN jb i).testBit l = true then vyT P jb (some i) set l else 0) (j + 1) = gsm (fun l => if (jwN jb i).testBit l = true then vyT P jb (some i) set l else 0) j + (if (jwN jb i).testBit j = true then vyT P jb (some i) set j else 0) from rfl, ← Nat.add_assoc] at hm
        refine b_X9_closedRows_59 ?_
        rw [nI_leI (by decide) (by omega)]
        refine ⟨fun y => absurd y (by omega), fun _ => u_meets hRY j i (by omega) (by omega) _ ?_⟩
        rw [x_b0, ← jw_tb (jb := jb) (x := i) (show j < 7 by omega), pk_andN (n := set) (by omega) (m := nI 511) 9 (by decide), Nat.mod_eq_of_lt (show set < 2 ^ 9 from h5), show nI set * nI 7 + nI j = nI (set * 7 + j) from by rw [pk_mul, nI_add], show (nI (set * 7 + j)).toNatClampNeg = set * 7 + j from nI_clamp (by omega), w2 set (Nat.and_self _) z j (by omega)]
        refine ⟨fun y => b_X9_closedRows_99 ?_, fun y => ⟨(x_vp (by omega)).mpr (by omega), b_X9_closedRows_99 ?_⟩⟩
        · rw [y, if_neg (by decide)] at hm
          rw [lN_add, nI_add]
          exact hm
        · have y : (jwN jb i).testBit j = true := by
            cases hq : (jwN jb i).testBit j with
            | true => rfl
            | false => exact absurd hq y
          rw [if_pos y] at hm
          rw [lN_add, nI_add]
          exact hm
end CORE9

