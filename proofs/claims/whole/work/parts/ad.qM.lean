/-! ===== the program: exchanges ===== -/
def sxK (P : tPL) (s : tES) (h x y : Nat) : Bool := decide (s.1 x = nI h) && (decide (¬ s.1 y < 0) && (decide (¬ s.1 y = nI h) && (mayK P s false h y && mayK P s false (cl (s.1 y)) x)))
abbrev sxE (P : tPL) (s : tES) (h x : Nat) : Nat := bitsN (sxK P s h x) P.1
def aEx : Nat → Bool := fun a => aW a || Nat.beq a 34
theorem ex_W (a : Nat) (h : aEx a = false) : aW a = false := by
  unfold aEx at h
  simp only [Bool.or_eq_false_iff] at h
  exact h.1
theorem aEx_pl : plA aEx := ⟨rfl, rfl, rfl, rfl, rfl, rfl, rfl, rfl, rfl, rfl⟩
theorem bl_t {b : Bool} (h : ¬ b = false) : b = true := by
  cases b with
  | true => rfl
  | false => exact absurd rfl h
def exB (P : tPL) (jb : Nat → Nat) (rest ch : Nat) : Bool := anB (fun y => ch.testBit y && isRowK P jb (rest ||| 2 ^ y) 7) P.1
def ex1 (P : tPL) (s : tES) (jb : Nat → Nat) (h share : Nat) : Bool := anB (fun x => exB P jb (clB share x) (sxE P s h x)) P.1
def ex3 (P : tPL) (s : tES) (jb : Nat → Nat) (h share x y v : Nat) : Bool := decide (x < v) && exB P jb (clB (clB share x) v ||| 2 ^ y) (clB (sxE P s h v) y)
def ex2 (P : tPL) (s : tES) (jb : Nat → Nat) (h share : Nat) : Bool := anB (fun x => anB (fun y => sxK P s h x y && anB (fun v => ex3 P s jb h share x y v) P.1) P.1) P.1
section CORE13
variable {G : ab_G} {S : ms_S} {tl : ab_H} {P : tPL} {o : Nat → Option tDQ} {s : tES} {dn v : Nat} {jb : Nat → Nat}
theorem u_fEx (hP : bPl S P o) (hs : bES S P s dn) (ha : S.1 31 7 = bI false) (h : Nat) (hh : h < P.2.1) (K : ms_S → Prop) (k : ∀ S', cF aEx S S' → (∀ x, x < P.1 → S'.2.2.2.1 34 x = nI (sxE P s h x)) → K S') : ctU G 6 M_X3_findExchanges false [.ref 31, .ref 46, .int (nI h)] lC S tl K := by
  have p1 := hP.1
  have p2 := hP.2.1
  have hho := hs.2.2.2.2.2.2.2.2.2.1
  refine m_X3_findExchanges (fun n0 => ?_)
  suffices KL : ∀ t x (X : ms_S), x + t = P.1 → cF aEx S X → (∀ i, i < x → X.2.2.2.1 34 i = nI (sxE P s h i)) → L_X3_findExchanges_2 G false n0 tl K X (nI h) (nI x) from KL P.1 0 S (Nat.zero_add _) cF.rf (fun i hi => absurd hi (Nat.not_lt_zero _))
  intro t
  induction t with
  | zero =>
    intro x X hx x1 x2
    have hx : x = P.1 := hx
    subst hx
    refine b_X3_findExchanges_2 ?_
    rw [(bPl_F x1 aEx_pl hP).2.2.1]
    exact ⟨fun _ => k X x1 x2, fun z => absurd (Int32.le_refl _) z⟩
  | succ t ih =>
    intro x X hx x1 x2
    have hPX := bPl_F x1 aEx_pl hP
    have hv9 : vp_in (nI x) 9 := (x_vp (by omega)).mpr (by omega)
    have hc : (nI x).toNatClampNeg = x := nI_clamp (by omega)
    refine b_X3_findExchanges_2 ?_
    rw [hPX.2.2.1, nI_leI (by omega) (by omega), hc]
    refine ⟨fun z => absurd z (by omega), fun _ => ⟨hv9, ?_⟩⟩
    have f1 : cF aEx S (sA X 34 x (nI 0)) := x1.tr (cF.sA rfl)
    have hz : ∀ i, i < x → (sA X 34 x (nI 0)).2.2.2.1 34 i = nI (sxE P s h i) := fun i hi => by
      show upd (X.2.2.2.1 34) x (nI 0) i = _
      rw [pk_un (by omega)]
      exact x2 i hi
    have h0 : (sA X 34 x (nI 0)).2.2.2.1 34 x = nI 0 := by
      show upd (X.2.2.2.1 34) x (nI 0) x = _
      rw [pk_us]
    generalize sA X 34 x (nI 0) = Y at f1 hz h0 ⊢
    refine u_holder false (bPl_F f1 aEx_pl hP) (bES_F f1 ⟨rfl, rfl, rfl, rfl⟩ hs) x (by omega) _ ?_
    have hnext : ∀ Z, cF aEx S Z → (∀ i, i < x → Z.2.2.2.1 34 i = nI (sxE P s h i)) → Z.2.2.2.1 34 x = nI (sxE P s h x) → L_X3_findExchanges_104 G false n0 tl K Z (nI h) (nI x) := fun Z z1 z2 z3 => b_X3_findExchanges_104 (by
      rw [nI_add]
      refine ih (x + 1) Z (by omega) z1 (fun i hi => ?_)
      by_cases e : i = x
      · rw [e]; exact z3
      · exact z2 i (by omega))
    refine ⟨fun hx2 => ?_, fun hx2 => hnext Y f1 hz (h0.trans ?_)⟩
    · suffices KI : ∀ u y (Z : ms_S), y + u = P.1 → cF aEx S Z → (∀ i, i < x → Z.2.2.2.1 34 i = nI (sxE P s h i)) → Z.2.2.2.1 34 x = nI (bitsN (sxK P s h x) y) → L_X3_findExchanges_32 G false n0 tl K Z (nI h) (nI x) (nI y) from KI P.1 0 Y (Nat.zero_add _) f1 hz h0
      intro u
      induction u with
      | zero =>
        intro y Z hy z1 z2 z3
        have hy : y = P.1 := hy
        subst hy
        refine b_X3_findExchanges_32 ?_
        rw [(bPl_F z1 aEx_pl hP).2.2.1]
        exact ⟨fun _ => hnext Z z1 z2 z3, fun z => absurd (Int32.le_refl _) z⟩
      | succ u ihu =>
        intro y Z hy z1 z2 z3
        have hPZ := bPl_F z1 aEx_pl hP
        have hsZ : bES Z P s dn := bES_F z1 ⟨rfl, rfl, rfl, rfl⟩ hs
        have hno : ∀ W, cF aEx S W → W.2.2.2.1 34 = Z.2.2.2.1 34 → sxK P s h x y = false → L_X3_findExchanges_98 G false n0 tl K W (nI h) (nI x) (nI y) := fun W w1 w2 hb => b_X3_findExchanges_98 (by
          rw [nI_add]
          refine ihu (y + 1) W (by omega) w1 (fun i hi => by rw [w2]; exact z2 i hi) ?_
          rw [w2, z3, bitsN_0 hb])
        refine b_X3_findExchanges_32 ?_
        rw [hPZ.2.2.1, nI_leI (by omega) (by omega)]
        refine ⟨fun z => absurd z (by omega), fun _ => u_holder false hPZ hsZ y (by omega) _ ⟨fun z => hno Z z1 rfl ?_, fun zn => ⟨fun z => hno Z z1 rfl ?_, fun ze => ?_⟩⟩⟩
        · unfold sxK
          rw [decide_eq_false (p := ¬ s.1 y < 0) (fun w => w z), Bool.false_and, Bool.and_false]
        · unfold sxK
          rw [decide_eq_false (p := ¬ s.1 y = nI h) (fun w => w z), Bool.false_and, Bool.and_false, Bool.and_false]
        rcases hoOk_cases hho (show y < P.1 by omega) with w | ⟨q, hq, eq⟩
        · exact absurd w zn
        have hsx : sxK P s h x y = (mayK P s false h y && mayK P s false q x) := by
          unfold sxK
          rw [decide_eq_true hx2, decide_eq_true zn, decide_eq_true ze, eq, cl_nI (by omega)]
          rfl
        rw [eq]
        refine u_may hPZ hsZ y h (by omega) hh false ((congrFun (z1.1 31 rfl) 7).trans ha) _ (fun S2 f2 => ?_)
        have y1 := z1.tr (f2.mono ex_W)
        rw [x_b0]
        refine ⟨fun z => hno S2 y1 (f2.2.2.1 34 rfl) (by rw [hsx, z]; rfl), fun z => ?_⟩
        refine u_may (bPl_F y1 aEx_pl hP) (bES_F y1 ⟨rfl, rfl, rfl, rfl⟩ hs) x q (by omega) hq false ((congrFun (y1.1 31 rfl) 7).trans ha) _ (fun S3 f3 => ?_)
        have g3 := y1.tr (f3.mono ex_W)
        have e34 : S3.2.2.2.1 34 = Z.2.2.2.1 34 := (f3.2.2.1 34 rfl).trans (f2.2.2.1 34 rfl)
        rw [x_b0]
        refine ⟨fun w => hno S3 g3 e34 (by rw [hsx, w, Bool.and_false]), fun w => ⟨hv9, hv9, b_X3_findExchanges_98 ?_⟩⟩
        rw [nI_add, hc, e34, z3, nu_set (by omega)]
        refine ihu (y + 1) _ (by omega) (g3.tr (cF.sA rfl)) (fun i hi => ?_) ?_
        · show upd (S3.2.2.2.1 34) x _ i = _
          rw [pk_un (by omega), e34]
          exact z2 i hi
        · show upd (S3.2.2.2.1 34) x _ x = _
          rw [pk_us, bitsN_1 (by rw [hsx, bl_t z, bl_t w]; rfl)]
    · have : ∀ n, bitsN (sxK P s h x) n = 0 := by
        intro n
        induction n with
        | zero => rfl
        | succ n ihn =>
          rw [bitsN_0, ihn]
          unfold sxK
          rw [decide_eq_false hx2]
          rfl
      exact (congrArg nI (this P.1)).symm
theorem u_exB (hP : bPl S P o) (hR : bRT S P v jb) (rest ch : Nat) (hr : rest < 2 ^ P.1) (hc : ch < 2 ^ 9) (K : Int32 → ms_S → Prop) (k : ∀ S', cF aRc S S' → bRT S' P v jb → K (bI (exB P jb rest ch)) S') : ctI G 5 M_X3_exchangeMakesRow false [.ref 31, .int (nI rest), .int (nI ch)] lC S tl K := by
  have p1 := hP.1
  refine m_X3_exchangeMakesRow (fun n0 => ?_)
  suffices KL : ∀ t y (X : ms_S), y + t = P.1 → cF aRc S X → bRT X P v jb → anB (fun y => ch.testBit y && isRowK P jb (rest ||| 2 ^ y) 7) y = false → L_X3_exchangeMakesRow_2 G false n0 tl K X (nI rest) (nI ch) (nI y) from KL P.1 0 S (Nat.zero_add _) cF.rf hR rfl
  intro t
  induction t with
  | zero =>
    intro y X hy x1 x2 x3
    have hy : y = P.1 := hy
    subst hy
    refine b_X3_exchangeMakesRow_2 ?_
    rw [(bPl_F x1 aRc_pl hP).2.2.1]
    have k := k X x1 x2
    unfold exB at k
    rw [x3] at k
    exact ⟨fun _ => k, fun z => absurd (Int32.le_refl _) z⟩
  | succ t ih =>
    intro y X hy x1 x2 x3
    have hPX := bPl_F x1 aRc_pl hP
    have hno : ∀ Z, cF aRc S Z → bRT Z P v jb → (ch.testBit y && isRowK P jb (rest ||| 2 ^ y) 7) = false → L_X3_exchangeMakesRow_39 G false n0 tl K Z (nI rest) (nI ch) (nI y) := fun Z z1 z2 hb => b_X3_exchangeMakesRow_39 (by
      rw [nI_add]
      exact ih (y + 1) Z (by omega) z1 z2 (by rw [anB_s, x3, hb]; rfl))
    refine b_X3_exchangeMakesRow_2 ?_
    rw [hPX.2.2.1, nI_leI (by omega) (by omega), tb_u (by omega) (by omega), nu_set (by omega)]
    refine ⟨fun z => absurd z (by omega), fun _ => ⟨fun z => u_isRow hPX x2 _ (Nat.or_lt_two_pow hr (Nat.pow_lt_pow_right (by decide) (by omega))) _ (fun Z f z2 => ?_), fun z => hno X x1 x2 ?_⟩⟩
    · have z1 := x1.tr f
      rw [x_b0]
      refine ⟨fun w => hno Z z1 z2 (by rw [w, Bool.and_false]), fun w => ?_⟩
      have k := k Z z1 z2
      unfold exB at k
      rw [anB_i (f := fun y => ch.testBit y && isRowK P jb (rest ||| 2 ^ y) 7) (show y < P.1 by omega) (by show (ch.testBit y && _) = true; rw [z, bl_t w]; rfl)] at k
      exact k
    · cases e : ch.testBit y with
      | true => exact absurd e z
      | false => rfl
theorem clb9 {x p : Nat} {n : Nat} (h : x < 2 ^ n) : clB x p < 2 ^ n := clB_lt h
theorem u_ex1 (hP : bPl S P o) (hR : bRT S P v jb) (h share : Nat) (hsh : share < 2 ^ P.1) (hE : ∀ x, x < P.1 → S.2.2.2.1 34 x = nI (sxE P s h x)) (K : Int32 → ms_S → Prop) (k : ∀ S', cF aRc S S' → bRT S' P v jb → K (bI (ex1 P s jb h share)) S') : ctI G 6 M_X3_oneExchangeMakesRow false [.ref 31, .int (nI share)] lC S tl K := by
  have p1 := hP.1
  have h5 : share < 512 := Nat.lt_of_lt_of_le hsh (p2_9 p1)
  refine m_X3_oneExchangeMakesRow (fun n0 => ?_)
  suffices KL : ∀ t x (X : ms_S), x + t = P.1 → cF aRc S X → bRT X P v jb → anB (fun x => exB P jb (clB share x) (sxE P s h x)) x = false → L_X3_oneExchangeMakesRow_2 G false n0 tl K X (nI share) (nI x) from KL P.1 0 S (Nat.zero_add _) cF.rf hR rfl
  intro t
  induction t with
  | zero =>
    intro x X hx x1 x2 x3
    have hx : x = P.1 := hx
    subst hx
    refine b_X3_oneExchangeMakesRow_2 ?_
    rw [(bPl_F x1 aRc_pl hP).2.2.1]
    have k := k X x1 x2
    unfold ex1 at k
    rw [x3] at k
    exact ⟨fun _ => k, fun z => absurd (Int32.le_refl _) z⟩
  | succ t ih =>
    intro x X hx x1 x2 x3
    have hPX := bPl_F x1 aRc_pl hP
    have hv9 : vp_in (nI x) 9 := (x_vp (by omega)).mpr (by omega)
    refine b_X3_oneExchangeMakesRow_2 ?_
    rw [hPX.2.2.1, nI_leI (by omega) (by omega), show (nI x).toNatClampNeg = x from nI_clamp (by omega), nu_1shl (by omega), nu_clr share h5 x (by omega), (congrFun (x1.2.2.1 34 rfl) x).trans (hE x (by omega))]
    refine ⟨fun z => absurd z (by omega), fun _ => ⟨hv9, u_exB hPX x2 _ _ (clb9 hsh) (Nat.lt_of_lt_of_le (bitsN_lt _ _) (p2_9 p1)) _ (fun Z f z2 => ?_)⟩⟩
    have z1 := x1.tr f
    rw [x_b0, nI_add]
    refine ⟨fun w => ih (x + 1) Z (by omega) z1 z2 (by rw [anB_s, x3, w]; rfl), fun w => ?_⟩
    have k := k Z z1 z2
    unfold ex1 at k
    rw [anB_i (f := fun x => exB P jb (clB share x) (sxE P s h x)) (show x < P.1 by omega) (bl_t w)] at k
    exact k
theorem u_ex2 (hP : bPl S P o) (hR : bRT S P v jb) (h share : Nat) (hsh : share < 2 ^ P.1) (hE : ∀ x, x < P.1 → S.2.2.2.1 34 x = nI (sxE P s h x)) (K : Int32 → ms_S → Prop) (k : ∀ S', cF aRc S S' → bRT S' P v jb → K (bI (ex2 P s jb h share)) S') : ctI G 6 M_X3_twoExchangesMakeRow false [.ref 31, .int (nI share)] lC S tl K := by
  have p1 := hP.1
  have h5 : share < 512 := Nat.lt_of_lt_of_le hsh (p2_9 p1)
  refine m_X3_twoExchangesMakeRow (fun n0 => ?_)
  suffices KL : ∀ t x (X : ms_S), x + t = P.1 → cF aRc S X → bRT X P v jb → anB (fun x => anB (fun y => sxK P s h x y && anB (fun v => ex3 P s jb h share x y v) P.1) P.1) x = false → L_X3_twoExchangesMakeRow_2 G false n0 tl K X (nI share) (nI x) from KL P.1 0 S (Nat.zero_add _) cF.rf hR rfl
  intro t
  induction t with
  | zero =>
    intro x X hx x1 x2 x3
    have hx : x = P.1 := hx
    subst hx
    refine b_X3_twoExchangesMakeRow_2 ?_
    rw [(bPl_F x1 aRc_pl hP).2.2.1]
    have k := k X x1 x2
    unfold ex2 at k
    rw [x3] at k
    exact ⟨fun _ => k, fun z => absurd (Int32.le_refl _) z⟩
  | succ t ih =>
    intro x X hx x1 x2 x3
    have hPX := bPl_F x1 aRc_pl hP
    have hv9 : vp_in (nI x) 9 := (x_vp (by omega)).mpr (by omega)
    refine b_X3_twoExchangesMakeRow_2 ?_
    rw [hPX.2.2.1, nI_leI (by omega) (by omega)]
    refine ⟨fun z => absurd z (by omega), fun _ => ?_⟩
    suffices KY : ∀ u y (Y : ms_S), y + u = P.1 → cF aRc S Y → bRT Y P v jb → anB (fun y => sxK P s h x y && anB (fun v => ex3 P s jb h share x y v) P.1) y = false → L_X3_twoExchangesMakeRow_15 G false n0 tl K Y (nI share) (nI x) (nI y) from KY P.1 0 X (Nat.zero_add _) x1 x2 rfl
    intro u
    induction u with
    | zero =>
      intro y Y hy y1 y2 y3
      have hy : y = P.1 := hy
      subst hy
      refine b_X3_twoExchangesMakeRow_15 ?_
      rw [(bPl_F y1 aRc_pl hP).2.2.1, nI_add]
      exact ⟨fun _ => ih (x + 1) Y (by omega) y1 y2 (by rw [anB_s, x3]; exact y3), fun z => absurd (Int32.le_refl _) z⟩
    | succ u ihu =>
      intro y Y hy y1 y2 y3
      have hPY := bPl_F y1 aRc_pl hP
      have hEb : sxE P s h x < 2 ^ 9 := Nat.lt_of_lt_of_le (bitsN_lt _ _) (p2_9 p1)
      have hno : ∀ Z, cF aRc S Z → bRT Z P v jb → (sxK P s h x y && anB (fun v => ex3 P s jb h share x y v) P.1) = false → L_X3_twoExchangesMakeRow_110 G false n0 tl K Z (nI share) (nI x) (nI y) := fun Z z1 z2 hb => b_X3_twoExchangesMakeRow_110 (by
        rw [nI_add]
        exact ihu (y + 1) Z (by omega) z1 z2 (by rw [anB_s, y3, hb]; rfl))
      refine b_X3_twoExchangesMakeRow_15 ?_
      rw [hPY.2.2.1, nI_leI (by omega) (by omega), show (nI x).toNatClampNeg = x from nI_clamp (by omega), (congrFun (y1.2.2.1 34 rfl) x).trans (hE x (by omega)), tb_u (by omega) (by omega), nu_1shl (by omega), nI_add, bitsN_tb, decide_eq_true (show y < P.1 by omega), Bool.true_and]
      refine ⟨fun z => absurd z (by omega), fun _ => ⟨hv9, fun z => ?_, fun z => hno Y y1 y2 ?_⟩⟩
      · suffices KV : ∀ r w (Z : ms_S), w + r = P.1 → x < w → cF aRc S Z → bRT Z P v jb → anB (fun v => ex3 P s jb h share x y v) w = false → L_X3_twoExchangesMakeRow_50 G false n0 tl K Z (nI share) (nI x) (nI y) (nI (2 ^ y)) (nI w) by
          refine KV (P.1 - (x + 1)) (x + 1) Y (by omega) (by omega) y1 y2 ?_
          have : ∀ n, n ≤ x + 1 → anB (fun v => ex3 P s jb h share x y v) n = false := by
            intro n
            induction n with
            | zero => intro _; rfl
            | succ n ihn =>
              intro hn
              rw [anB_s, ihn (by omega)]
              show ex3 P s jb h share x y n = false
              unfold ex3
              rw [decide_eq_false (by omega)]
              rfl
          exact this (x + 1) (Nat.le_refl _)
        intro r
        induction r with
        | zero =>
          intro w Z hw hxw z1 z2 z3
          have hw : w = P.1 := hw
          subst hw
          refine b_X3_twoExchangesMakeRow_50 ?_
          rw [(bPl_F z1 aRc_pl hP).2.2.1]
          exact ⟨fun _ => hno Z z1 z2 (by rw [z3, Bool.and_false]), fun z => absurd (Int32.le_refl _) z⟩
        | succ r ihr =>
          intro w Z hw hxw z1 z2 z3
          have hPZ := bPl_F z1 aRc_pl hP
          have hEw : sxE P s h w < 2 ^ 9 := Nat.lt_of_lt_of_le (bitsN_lt _ _) (p2_9 p1)
          have hc1 : clB share x < 512 := clB_lt h5
          refine b_X3_twoExchangesMakeRow_50 ?_
          rw [hPZ.2.2.1, nI_leI (by omega) (by omega), show (nI w).toNatClampNeg = w from nI_clamp (by omega), (congrFun (z1.2.2.1 34 rfl) w).trans (hE w (by omega)), nu_1shl (show x < 31 by omega), nu_1shl (show w < 31 by omega), nu_clr share h5 x (by omega), nu_clr (clB share x) hc1 w (by omega), nu_clr (sxE P s h w) hEw y (by omega), nu_or]
          refine ⟨fun z => absurd z (by omega), fun _ => ⟨(x_vp (by omega)).mpr (by omega), u_exB hPZ z2 _ _ (Nat.or_lt_two_pow (clb9 (clb9 hsh)) (Nat.pow_lt_pow_right (by decide) (by omega))) (clB_lt hEw) _ (fun V f v2 => ?_)⟩⟩
          have v1 := z1.tr f
          have he : ex3 P s jb h share x y w = exB P jb (clB (clB share x) w ||| 2 ^ y) (clB (sxE P s h w) y) := by
            unfold ex3
            rw [decide_eq_true hxw]
            rfl
          rw [x_b0, nI_add, ← he]
          refine ⟨fun q => ihr (w + 1) V (by omega) (by omega) v1 v2 (by rw [anB_s, z3, q]; rfl), fun q => ?_⟩
          have k := k V v1 v2
          have e1 : anB (fun v => ex3 P s jb h share x y v) P.1 = true := anB_i (show w < P.1 by omega) (bl_t q)
          have e2 : anB (fun y => sxK P s h x y && anB (fun v => ex3 P s jb h share x y v) P.1) P.1 = true := anB_i (show y < P.1 by omega) (by show (sxK P s h x y && anB (fun v => ex3 P s jb h share x y v) P.1) = true; rw [z, e1]; rfl)
          unfold ex2 at k
          rw [anB_i (f := fun x => anB (fun y => sxK P s h x y && anB (fun v => ex3 P s jb h share x y v) P.1) P.1) (show x < P.1 by omega) e2] at k
          exact k
      · cases e : sxK P s h x y with
        | true => exact absurd e z
        | false => rfl
end CORE13
theorem clB_tb {r p : Nat} (hr : r < 512) (j : Nat) : (clB r p).testBit j = (r.testBit j && !decide (j = p)) := by
  unfold clB
  by_cases hp : r.testBit p = true
  · rw [if_pos hp]
    have p9 : p < 9 := tb_lt (n := 9) hr hp
    by_cases hj : j < 9
    · exact sb_t r hr p p9 hp j hj
    · have h9 : 2 ^ 9 ≤ 2 ^ j := Nat.pow_le_pow_right (by decide) (by omega)
      rw [Nat.testBit_lt_two_pow (x := r) (by omega), Nat.testBit_lt_two_pow (x := r - 2 ^ p) (Nat.lt_of_le_of_lt (Nat.sub_le _ _) (by omega))]
      rfl
  · rw [if_neg hp]
    by_cases e : j = p
    · rw [e, decide_eq_true rfl]
      cases hq : r.testBit p with
      | true => exact absurd hq hp
      | false => rfl
    · rw [decide_eq_false e]
      cases r.testBit j <;> rfl
theorem anB_c {f f' : Nat → Bool} : ∀ {n : Nat}, (∀ i, i < n → f i = f' i) → anB f n = anB f' n
  | 0, _ => rfl
  | n + 1, h => by
    rw [anB_s, anB_s, anB_c (fun i hi => h i (by omega)), h n (by omega)]
theorem bo_iff {a b : Bool} (h : a = true ↔ b = true) : a = b := by
  cases a <;> cases b <;> simp_all
section SWP
variable {g : tSG} {h : Nat}
theorem sx_sw (x y : Nat) : sxK g.1.1 g.1.2.2.2.1 h x y = swK g h x y := rfl
theorem ex1_sw (set : Nat) : ex1 g.1.1 g.1.2.2.2.1 (jbC g.1) h set = anB (fun x => anB (sw1 g h set x) g.1.1.1) g.1.1.1 := by
  unfold ex1 exB
  refine anB_c (fun x _ => anB_c (fun y hy => ?_))
  rw [bitsN_tb, decide_eq_true hy, Bool.true_and]
  rfl
theorem th2 {set x y w z : Nat} (hs : set < 512) (hyw : ¬ y = w) : clB (clB set x) w ||| 2 ^ y ||| 2 ^ z = thN (thN set x y) w z ∨ ¬ y < 9 := by
  by_cases hy : y < 9
  · left
    have h1 : clB set x < 512 := clB_lt hs
    have h2 : clB set x ||| 2 ^ y < 2 ^ 9 := Nat.or_lt_two_pow h1 (Nat.pow_lt_pow_right (by decide) hy)
    apply Nat.eq_of_testBit_eq
    intro j
    show (clB (clB set x) w ||| 2 ^ y ||| 2 ^ z).testBit j = (clB (clB set x ||| 2 ^ y) w ||| 2 ^ z).testBit j
    rw [Nat.testBit_or, Nat.testBit_or, Nat.testBit_or, clB_tb h1, clB_tb h2, Nat.testBit_or]
    congr 1
    by_cases e : j = w
    · rw [decide_eq_true e, Nat.testBit_two_pow, decide_eq_false (fun q => hyw (by omega))]
      simp
    · rw [decide_eq_false e]
      simp
  · exact Or.inr hy
theorem ex2_sw {set : Nat} (hp9 : g.1.1.1 ≤ 9) (hs : set < 512) : ex2 g.1.1 g.1.2.2.2.1 (jbC g.1) h set = anB (fun x => anB (sw2 g h set x) g.1.1.1) g.1.1.1 := by
  have hE : ∀ v, sxE g.1.1 g.1.2.2.2.1 h v < 512 := fun v => Nat.lt_of_lt_of_le (bitsN_lt _ _) (p2_9 hp9)
  have hne : ∀ {x y v w}, swK g h x y = true → swK g h v w = true → ¬ y = v := by
    intro x y v w h1 h2 e
    unfold swK at h1 h2
    simp only [Bool.and_eq_true, decide_eq_true_eq] at h1 h2
    rw [e] at h1
    exact h1.2.2.1 h2.1
  apply bo_iff
  unfold ex2
  rw [anB_iff, anB_iff]
  have hcm : ∀ x y v w, clB (clB set x) v ||| 2 ^ y ||| 2 ^ w = clB (clB set v) x ||| 2 ^ w ||| 2 ^ y := by
    intro x y v w
    apply Nat.eq_of_testBit_eq
    intro j
    simp only [Nat.testBit_or]
    rw [clB_tb (clB_lt hs), clB_tb (clB_lt hs), clB_tb hs, clB_tb hs]
    cases set.testBit j <;> cases decide (j = x) <;> cases decide (j = v) <;> cases (2 ^ y).testBit j <;> cases (2 ^ w).testBit j <;> rfl
  constructor
  · rintro ⟨x, hx, h1⟩
    obtain ⟨y, hy, h2⟩ := anB_iff.mp h1
    rw [Bool.and_eq_true] at h2
    obtain ⟨v, hv, h3⟩ := anB_iff.mp h2.2
    unfold ex3 exB at h3
    rw [Bool.and_eq_true, decide_eq_true_eq] at h3
    obtain ⟨w, hw, h4⟩ := anB_iff.mp h3.2
    rw [Bool.and_eq_true, clB_tb (hE v), bitsN_tb, decide_eq_true hw, Bool.true_and, Bool.and_eq_true] at h4
    have hyv := hne h2.1 h4.1.1
    have hwy : ¬ w = y := by simpa using h4.1.2
    refine ⟨x, hx, anB_iff.mpr ⟨y, hy, ?_⟩⟩
    unfold sw2
    rw [Bool.and_eq_true]
    refine ⟨h2.1, anB_iff.mpr ⟨v, hv, anB_iff.mpr ⟨w, hw, ?_⟩⟩⟩
    unfold swT
    rw [decide_eq_true (show ¬ v = x by omega), decide_eq_true hwy, show swK g h v w = true from h4.1.1, ← (th2 hs hyv).resolve_right (by omega), h4.2]
    rfl
  · rintro ⟨x, hx, h1⟩
    obtain ⟨y, hy, h2⟩ := anB_iff.mp h1
    unfold sw2 at h2
    rw [Bool.and_eq_true] at h2
    obtain ⟨v, hv, h3⟩ := anB_iff.mp h2.2
    obtain ⟨w, hw, h4⟩ := anB_iff.mp h3
    unfold swT at h4
    simp only [Bool.and_eq_true, decide_eq_true_eq] at h4
    obtain ⟨a1, a2, a3, a4⟩ := h4
    have hyv := hne h2.1 a3
    have hwx := hne a3 h2.1
    rw [← (th2 hs hyv).resolve_right (by omega)] at a4
    have mk : ∀ x y v w, x < g.1.1.1 → y < g.1.1.1 → v < g.1.1.1 → w < g.1.1.1 → x < v → ¬ w = y → swK g h x y = true → swK g h v w = true → isRowK g.1.1 (jbC g.1) (clB (clB set x) v ||| 2 ^ y ||| 2 ^ w) 7 = true → ∃ k, k < g.1.1.1 ∧ anB (fun y => sxK g.1.1 g.1.2.2.2.1 h k y && anB (fun v => ex3 g.1.1 g.1.2.2.2.1 (jbC g.1) h set k y v) g.1.1.1) g.1.1.1 = true := by
      intro x y v w hx hy hv hw b1 b2 b3 b4 b5
      refine ⟨x, hx, anB_iff.mpr ⟨y, hy, ?_⟩⟩
      rw [Bool.and_eq_true]
      refine ⟨b3, anB_iff.mpr ⟨v, hv, ?_⟩⟩
      unfold ex3 exB
      rw [Bool.and_eq_true]
      refine ⟨decide_eq_true b1, anB_iff.mpr ⟨w, hw, ?_⟩⟩
      rw [Bool.and_eq_true, clB_tb (hE v), bitsN_tb, decide_eq_true hw, Bool.true_and, Bool.and_eq_true]
      exact ⟨⟨b4, by rw [decide_eq_false b2]; rfl⟩, b5⟩
    by_cases c : x < v
    · exact mk x y v w hx hy hv hw c a2 h2.1 a3 a4
    · exact mk v w x y hv hw hx hy (by omega) (fun e => a2 e.symm) a3 h2.1 (by rw [← hcm]; exact a4)
end SWP

