/-! ===== the program: the first row ===== -/
theorem wy_fit {P : tPL} {jb : Nat → Nat} (hp9 : P.1 ≤ 9) (hA : ∀ c, c < 2 * P.1 → oeA P c < 7 ∧ oeB P c < 7) {rest b : Nat} (hr : rest < 2 ^ P.1) (hb : b < 7) : (¬ wyT P jb 127 rest b = 0) ↔ (rest = 0 ∨ ∃ x, x < 7 ∧ (jb b).testBit x = true ∧ ¬ rowT P jb rest x = 0) := by
  by_cases h0 : rest = 0
  · subst h0
    rw [wyT_0, if_pos (m127 b hb)]
    exact ⟨fun _ => Or.inl rfl, fun _ => by decide⟩
  have hrow : ∀ x, (¬ rwT P jb 127 rest (some x) = 0) ↔ ¬ rowT P jb rest x = 0 := by
    intro x
    rw [← vy_M hp9 hA (some x) rest h0 hr, gsm_n]
    constructor
    · rintro ⟨l, l1, l2⟩ w
      rw [if_pos (m127 l l1)] at l2
      have := (vy_N hp9 hA x rest rest (Nat.le_refl _) h0 hr l).mp l2
      rw [w, Nat.zero_testBit] at this
      cases this
    · intro w
      obtain ⟨l, hl⟩ := Nat.exists_testBit_of_ne_zero w
      have hl7 : l < 7 := tb_lt (n := 7) (rowT_lt P jb rest x (fun p hp => by have := hA (2 * p) (by omega); rw [oeA_0, oeB_0] at this; exact this)) hl
      exact ⟨l, hl7, by rw [if_pos (m127 l hl7)]; exact (vy_N hp9 hA x rest rest (Nat.le_refl _) h0 hr l).mpr hl⟩
  rw [wyT_eq P jb 127 rest b h0, wx_g, gsm_n]
  constructor
  · rintro ⟨c, c1, c2⟩
    by_cases w : oeK P rest c ∧ (jb b).testBit (oeA P c) = true
    · rw [if_pos w] at c2
      refine Or.inr ⟨oeA P c, (hA c c1).1, w.2, (hrow _).mp ?_⟩
      rw [show rwT P jb 127 rest (some (oeA P c)) = _ from rw_g P (wyT P jb 127) rest _ P.1, gsm_n]
      exact ⟨c, c1, by rw [if_pos ⟨w.1, Or.inr rfl⟩]; exact c2⟩
    · rw [if_neg w] at c2
      exact absurd rfl c2
  · intro w
    obtain ⟨x, x1, x2, x3⟩ := w.resolve_left h0
    have h4 := (hrow x).mpr x3
    rw [show rwT P jb 127 rest (some x) = _ from rw_g P (wyT P jb 127) rest _ P.1, gsm_n] at h4
    obtain ⟨c, c1, c2⟩ := h4
    refine ⟨c, c1, ?_⟩
    by_cases y : oeK P rest c ∧ (some x = none ∨ some x = some (oeA P c))
    · rw [if_pos y] at c2
      have hx : x = oeA P c := y.2.elim (fun q => by cases q) (fun q => Option.some.inj q)
      rw [if_pos ⟨y.1, by rw [← hx]; exact x2⟩]
      exact c2
    · rw [if_neg y] at c2
      exact absurd rfl c2
section CORE10
variable {G : ab_G} {S : ms_S} {tl : ab_H} {P : tPL} {o : Nat → Option tDQ} {v : Nat} {jb : Nat → Nat}
theorem rc_and {set f : Nat} (hP : bPl S P o) (hf : f < 7) : (rcN P jb set / 2 ^ (f * 8)) &&& 127 = rowT P jb set f := by
  have hrl := row_lt (jb := jb) hP set f
  apply Nat.eq_of_testBit_eq
  intro i
  rw [Nat.testBit_and, Nat.testBit_div_two_pow]
  by_cases hi : i < 7
  · have hb := byN_tb (c := fun f => rowT P jb set f) (f := f) (i := i) (by omega) (n := 7) (fun f _ => Nat.lt_trans (row_lt (jb := jb) hP set f) (by decide))
    rw [decide_eq_true hf, Bool.true_and] at hb
    rw [m127 i hi, Bool.and_true, Nat.add_comm i, hb]
  · have h7 : 2 ^ 7 ≤ 2 ^ i := Nat.pow_le_pow_right (by decide) (by omega)
    rw [Nat.testBit_lt_two_pow (x := 127) (by omega), Nat.testBit_lt_two_pow (x := rowT P jb set f) (by omega), Bool.and_false]
abbrev fitB (P : tPL) (jb : Nat → Nat) (en : Option Nat) (a b rest : Nat) : Bool := mtB en (fun e => (jb e).testBit a) && decide (¬ wyT P jb 127 rest b = 0)
theorem u_fit9 (hP : bPl S P o) (hR : bRT S P v jb) (en : Option Nat) (hen : ∀ x, en = some x → x < 7) (a b rest : Nat) (ha : a < 7) (hb : b < 7) (hr : rest < 2 ^ P.1) (K : Int32 → ms_S → Prop) (k : ∀ S', cF aRc S S' → bRT S' P v jb → K (bI (fitB P jb en a b rest)) S') : ctI G 4 M_X9_fits false [.ref 25, .int (fI en), .int (nI a), .int (nI b), .int (nI rest)] lC S tl K := by
  have p1 := hP.1
  have h5 : rest < 512 := Nat.lt_of_lt_of_le hr (p2_9 p1)
  have hl : rcN P jb rest < 2 ^ 56 := by_lt7 (c := fun f => rowT P jb rest f) (fun f _ => row_lt hP rest f)
  have K16 : ∀ {n0 : Nat}, mtB en (fun e => (jb e).testBit a) = true → L_X9_fits_16 G false n0 tl K S (nI b) (nI rest) := by
    intro n0 hm
    unfold fitB at k
    rw [hm, Bool.true_and] at k
    have hfit := wy_fit (jb := jb) p1 (oe_7 hP) hr hb
    refine b_X9_fits_16 (u_reach hP hR rest hr _ (fun S1 f1 h1 _ => ?_))
    have k := k S1 f1 h1
    suffices KL : ∀ t i, i + t = 7 → (∀ x, x < i → ¬ ((jb b).testBit x = true ∧ ¬ rowT P jb rest x = 0)) → L_X9_fits_27 G false n0 tl K S1 (nI b) (nI rest) (lN (rcN P jb rest)) (nI i) from KL 7 0 rfl (fun x hx => absurd hx (Nat.not_lt_zero _))
    intro t
    induction t with
    | zero =>
      intro i hi hn
      have hi : i = 7 := hi
      subst hi
      refine b_X9_fits_27 ?_
      rw [x_eq0 (by omega)]
      refine ⟨fun _ => ⟨fun z => b_X9_fits_79 ⟨Or.inr rfl, ?_⟩, fun z => b_X9_fits_79 ⟨Or.inl rfl, ?_⟩⟩, fun z => absurd (Int32.le_refl _) z⟩
      · rw [decide_eq_true (hfit.mpr (Or.inl z))] at k
        exact k
      · rw [decide_eq_false (fun y => (hfit.mp y).elim z (fun ⟨x, x1, x2, x3⟩ => hn x x1 ⟨x2, x3⟩))] at k
        exact k
    | succ t ih =>
      intro i hi hn
      have hsm : rowT P jb rest i < 2 ^ 63 := Nat.lt_trans (row_lt (jb := jb) hP rest i) (by decide)
      have hno : ¬ ((jb b).testBit i = true ∧ ¬ rowT P jb rest i = 0) → L_X9_fits_63 G false n0 tl K S1 (nI b) (nI rest) (lN (rcN P jb rest)) (nI i) := fun z => b_X9_fits_63 (by
        rw [nI_add]
        refine ih (i + 1) (by omega) (fun x hx => ?_)
        by_cases e : x = i
        · rw [e]; exact z
        · exact hn x (by omega))
      refine b_X9_fits_27 ?_
      rw [nI_leI (by decide) (by omega)]
      refine ⟨fun z => absurd z (by omega), fun _ => u_meets h1 b i hb (by omega) _ ?_⟩
      rw [x_b0, show nI i * nI 8 = nI (i * 8) from pk_mul _ _, nl_ushr (by omega) (by omega), show (127 : Int64) = lN 127 from by decide, nl_and, rc_and hP (by omega), lg_cmp_eq, pk_lEQ (by omega) (by decide)]
      refine ⟨fun z => hno (fun y => by rw [z] at y; exact Bool.noConfusion y.1), fun z => ⟨fun y => hno (fun w => w.2 y), fun y => ?_⟩⟩
      have z : (jb b).testBit i = true := by
        cases hq : (jb b).testBit i with
        | true => rfl
        | false => exact absurd hq z
      rw [decide_eq_true (hfit.mpr (Or.inr ⟨i, by omega, z, y⟩))] at k
      exact k
  refine m_X9_fits (fun n0 => ?_)
  rw [fI_n hen]
  refine ⟨fun z => K16 (by rw [z]; rfl), fun z => ?_⟩
  cases en with
  | none => exact absurd rfl z
  | some e =>
    refine u_meets hR e a (hen e rfl) ha _ ?_
    rw [x_b0]
    refine ⟨fun y => ?_, fun y => K16 ?_⟩
    · have k := k S cF.rf hR
      unfold fitB at k
      rw [show mtB (some e) (fun e => (jb e).testBit a) = false from y, Bool.false_and] at k
      exact k
    · show (jb e).testBit a = true
      cases hq : (jb e).testBit a with
      | true => rfl
      | false => exact absurd hq y
def stpI : Option Nat → Int32
  | none => -(nI 2)
  | some c => nI (10 * (c / 2) + c % 2)
theorem frB_0 {set p : Nat} {en : Option Nat} : frB P jb set en (2 * p) = (set.testBit p && fitB P jb en (P.2.2.1 p) (P.2.2.2.1 p) (set - 2 ^ p)) := by
  unfold frB fitB
  rw [(oe_d p).1, (oe_d p).2.2.1]
  rfl
theorem frB_1 {set p : Nat} {en : Option Nat} : frB P jb set en (2 * p + 1) = (set.testBit p && (!(decide (P.2.2.1 p = P.2.2.2.1 p)) && fitB P jb en (P.2.2.2.1 p) (P.2.2.1 p) (set - 2 ^ p))) := by
  unfold frB fitB
  rw [(oe_d p).2.1, (oe_d p).2.2.2]
  rfl
theorem u_fB (hP : bPl S P o) (hR : bRT S P v jb) (en : Option Nat) (hen : ∀ x, en = some x → x < 7) (set : Nat) (hs : set < 2 ^ P.1) (K : Int32 → ms_S → Prop) (k : ∀ S', cF aRc S S' → bRT S' P v jb → K (stpI (frK P jb set en (2 * P.1))) S') : ctI G 5 M_X9_firstBehind false [.ref 25, .int (nI set), .int (fI en)] lC S tl K := by
  have p1 := hP.1
  have h5 : set < 512 := Nat.lt_of_lt_of_le hs (p2_9 p1)
  refine m_X9_firstBehind (fun n0 => ?_)
  suffices KL : ∀ t p (X : ms_S), p + t = P.1 → cF aRc S X → bRT X P v jb → frK P jb set en (2 * p) = none → L_X9_firstBehind_2 G false n0 tl K X (nI set) (fI en) (nI p) from KL P.1 0 S (Nat.zero_add _) cF.rf hR rfl
  intro t
  induction t with
  | zero =>
    intro p X hp x1 x2 x3
    have hp : p = P.1 := hp
    subst hp
    have k := k X x1 x2
    rw [x3] at k
    refine b_X9_firstBehind_2 ?_
    rw [(bPl_F x1 aRc_pl hP).2.2.1]
    exact ⟨fun _ => k, fun z => absurd (Int32.le_refl _) z⟩
  | succ t ih =>
    intro p X hp x1 x2 x3
    have hPX := bPl_F x1 aRc_pl hP
    obtain ⟨o1, o2, o3, o4, _⟩ := hPX.2.2.2.2.1 p (by omega)
    have hv9 : vp_in (nI p) 9 := (x_vp (by omega)).mpr (by omega)
    have hno : ∀ Y, cF aRc S Y → bRT Y P v jb → frB P jb set en (2 * p) = false → frB P jb set en (2 * p + 1) = false → L_X9_firstBehind_96 G false n0 tl K Y (nI set) (fI en) (nI p) := fun Y y1 y2 h1 h2 => b_X9_firstBehind_96 (by
      rw [nI_add]
      refine ih (p + 1) Y (by omega) y1 y2 ?_
      show frK P jb set en (2 * p + 1 + 1) = none
      rw [frK_s (show frK P jb set en (2 * p + 1) = none by rw [frK_s x3, h1]; rfl), h2]
      rfl)
    have hyes : ∀ c, c < 2 * P.1 → frK P jb set en (c + 1) = some c → frK P jb set en (2 * P.1) = some c := fun c hc h => by
      have := frK_m h (2 * P.1 - (c + 1))
      rw [show c + 1 + (2 * P.1 - (c + 1)) = 2 * P.1 by omega] at this
      exact this
    refine b_X9_firstBehind_2 ?_
    rw [hPX.2.2.1, nI_leI (by omega) (by omega), nu_1shl (by omega), nu_clr set h5 p (by omega), show (nI p).toNatClampNeg = p from nI_clamp (by omega), o1, o3]
    refine ⟨fun z => absurd z (by omega), fun _ => ?_⟩
    by_cases tb : set.testBit p = true
    · have h2j : 2 ^ p ≤ set := Nat.ge_two_pow_of_testBit tb
      have hpos := Nat.two_pow_pos p
      rw [if_pos tb, nI_eq (by omega) (by omega)]
      refine ⟨fun z => absurd z (by omega), fun _ => ⟨hv9, hv9, u_fit9 hPX x2 en hen _ _ _ o2 o4 (by omega) _ (fun S1 f1 r1 => ?_)⟩⟩
      have y1 := x1.tr f1
      have hP1 := bPl_F y1 aRc_pl hP
      obtain ⟨w1, w2, w3, w4, _⟩ := hP1.2.2.2.2.1 p (by omega)
      rw [x_b0, w1, w3]
      refine ⟨fun z => ⟨hv9, hv9, u_fit9 hP1 r1 en hen _ _ _ o4 o2 (by omega) _ (fun S2 f2 r2 => ?_)⟩, fun z => ?_⟩
      · have z2 := y1.tr f2
        have h0 : frB P jb set en (2 * p) = false := by rw [frB_0, z, Bool.and_false]
        rw [x_b0]
        refine ⟨fun y => hno S2 z2 r2 h0 (by rw [frB_1, y, Bool.and_false, Bool.and_false]), fun y => ?_⟩
        have y : fitB P jb en (P.2.2.2.1 p) (P.2.2.1 p) (set - 2 ^ p) = true := by
          cases hq : fitB P jb en (P.2.2.2.1 p) (P.2.2.1 p) (set - 2 ^ p) with
          | true => rfl
          | false => exact absurd hq y
        have hd : ¬ P.2.2.1 p = P.2.2.2.1 p := fun e => by rw [e] at z y; rw [z] at y; cases y
        have h1 : frB P jb set en (2 * p + 1) = true := by rw [frB_1, y, tb, decide_eq_false hd]; rfl
        have k := k S2 z2 r2
        rw [hyes (2 * p + 1) (by omega) (by rw [frK_s (show frK P jb set en (2 * p + 1) = none by rw [frK_s x3, h0]; rfl), h1]; rfl)] at k
        unfold stpI at k
        dsimp only at k
        rw [(oe_d p).2.1, (oe_d p).2.2.2] at k
        rw [show nI p * nI 10 + nI 1 = nI (10 * p + 1) from by rw [pk_mul, nI_add, Nat.mul_comm]]
        exact k
      · have z : fitB P jb en (P.2.2.1 p) (P.2.2.2.1 p) (set - 2 ^ p) = true := by
          cases hq : fitB P jb en (P.2.2.1 p) (P.2.2.2.1 p) (set - 2 ^ p) with
          | true => rfl
          | false => exact absurd hq z
        have h1 : frB P jb set en (2 * p) = true := by rw [frB_0, z, tb]; rfl
        have k := k S1 y1 r1
        rw [hyes (2 * p) (by omega) (by rw [frK_s x3, h1]; rfl)] at k
        unfold stpI at k
        dsimp only at k
        rw [(oe_d p).1, (oe_d p).2.2.1] at k
        rw [show nI p * nI 10 = nI (10 * p + 0) from by rw [pk_mul, Nat.mul_comm]; rfl]
        exact k
    · rw [if_neg tb, nI_eq (by omega) (by omega)]
      have tb : set.testBit p = false := by
        cases hq : set.testBit p with
        | false => rfl
        | true => exact absurd hq tb
      exact ⟨fun _ => hno X x1 x2 (by rw [frB_0, tb]; rfl) (by rw [frB_1, tb]; rfl), fun z => absurd rfl z⟩
theorem d10 : ∀ c, c < 18 → nI (10 * (c / 2) + c % 2) / nI 10 = nI (c / 2) ∧ nI (10 * (c / 2) + c % 2) - nI (10 * (c / 2) + c % 2) / nI 10 * nI 10 = nI (c % 2) := by decide +kernel
theorem u_place (hP : bPl S P o) (hR : bRT S P v jb) (set : Nat) (hset : set < 2 ^ P.1) (kk : Nat) (hk : kk < 2 ^ 20) (K : Int32 → ms_S → Prop) (k : ∀ S', cF aRc S S' → bRT S' P v jb → K (if pop set 9 ≤ kk ∨ rwT P jb 127 set none = 0 then -(nI 2) else nI (10 * ((frS P jb set (kk + 1)).2.2 / 2) + (frS P jb set (kk + 1)).2.2 % 2)) S') : ctI G 6 M_X9_placeInFirst false [.ref 25, .int (nI set), .int (nI kk)] lC S tl K := by
  have p1 := hP.1
  have h5 : set < 512 := Nat.lt_of_lt_of_le hset (p2_9 p1)
  have hp9 := pop_le set 9
  refine m_X9_placeInFirst (fun n0 => u_bitCount G false S tl _ h5 _ ?_)
  rw [nI_leI (by omega) (by omega)]
  refine ⟨fun z => b_X9_placeInFirst_16 ?_, fun hpk => u_isRow hP hR set hset _ (fun S1 f1 r1 => ?_)⟩
  · rw [if_pos (Or.inl z)] at k
    exact k S cF.rf hR
  have hrr : isRowK P jb set 7 = false ↔ rwT P jb 127 set none = 0 := by
    rw [isRow_N, rw_row p1 (oe_7 hP) hset, decide_eq_false_iff_not, Classical.not_not]
    exact byN_0
  rw [x_b0, hrr]
  refine ⟨fun z => b_X9_placeInFirst_16 ?_, fun hrw => ?_⟩
  · rw [if_pos (Or.inr z)] at k
    exact k S1 f1 r1
  rw [if_neg (fun z => z.elim hpk hrw)] at k
  suffices KI : ∀ d i (X : ms_S) (code : Int32), i + d = kk + 1 → cF aRc S X → bRT X P v jb → frO P jb (frS P jb set i).1 (frS P jb set i).2.1 → pop (frS P jb set i).1 9 + i = pop set 9 → (frS P jb set i).1 < 2 ^ P.1 → (0 < i → code = nI (10 * ((frS P jb set i).2.2 / 2) + (frS P jb set i).2.2 % 2)) → L_X9_placeInFirst_31 G false n0 tl K X (nI kk) (nI (frS P jb set i).1) (fI (frS P jb set i).2.1) code (nI i) from KI (kk + 1) 0 S1 _ (Nat.zero_add _) f1 r1 hrw rfl hset (fun z => absurd z (Nat.lt_irrefl 0))
  intro d
  induction d with
  | zero =>
    intro i X code hd x1 x2 h1 h2 h3 h4
    have hd : i = kk + 1 := hd
    have h6 := h4 (by omega)
    rw [hd] at h6 ⊢
    refine b_X9_placeInFirst_31 ?_
    rw [h6, nI_ltI (by omega) (by omega)]
    exact ⟨fun _ => k X x1 x2, fun z => absurd (Nat.lt_succ_self _) z⟩
  | succ d ih =>
    intro i X code hd x1 x2 h1 h2 h3 h4
    have h9 := ih (i + 1)
    have hn0 : ¬ (frS P jb set i).1 = 0 := fun z => by
      rw [z] at h2
      have e0 : pop 0 9 = 0 := by decide
      omega
    obtain ⟨c0, hc0⟩ := fr_ex hn0 h1
    have eS : frS P jb set (i + 1) = ((frS P jb set i).1 - 2 ^ (c0 / 2), some (if c0 % 2 = 0 then P.2.2.2.1 (c0 / 2) else P.2.2.1 (c0 / 2)), c0) := by
      show (match frK P jb (frS P jb set i).1 (frS P jb set i).2.1 (2 * P.1) with | some c => _ | none => _) = _
      rw [hc0]
    rw [eS] at h9
    generalize frS P jb set i = st at *
    obtain ⟨set1, en, co⟩ := st
    dsimp only at *
    obtain ⟨hc1, hc2⟩ := frK_lt hc0
    have hen7 : ∀ x, en = some x → x < 7 := fun x hx => by
      subst hx
      exact h1.1
    have h15 : set1 < 512 := Nat.lt_of_lt_of_le h3 (p2_9 p1)
    refine b_X9_placeInFirst_31 ?_
    rw [nI_ltI (by omega) (by omega)]
    refine ⟨fun z => absurd z (by omega), fun _ => u_fB (bPl_F x1 aRc_pl hP) x2 en hen7 set1 h3 _ (fun S3 f3 r3 => ?_)⟩
    have g3 := x1.tr f3
    have hP3 := bPl_F g3 aRc_pl hP
    obtain ⟨w1, w2, w3, w4, _⟩ := hP3.2.2.2.2.1 (c0 / 2) (by omega)
    rw [hc0]
    unfold stpI
    obtain ⟨d1, d2⟩ := d10 c0 (by omega)
    unfold frB at hc2
    simp only [Bool.and_eq_true, decide_eq_true_eq] at hc2
    obtain ⟨hb1, hb2, hb3, hb4⟩ := hc2
    have hpc := pop_cl set1 h15 (c0 / 2) (by omega) hb1
    have h10 := fun X => h9 X (nI (10 * (c0 / 2) + c0 % 2)) (by omega)
    have h11 := h10 S3 g3 r3 ⟨by split <;> assumption, hb4⟩ (by omega) (Nat.lt_of_le_of_lt (Nat.sub_le _ _) h3) (fun _ => rfl)
    dsimp only
    rw [d2, d1, show (nI (c0 / 2)).toNatClampNeg = c0 / 2 from nI_clamp (by omega), w1, w3, nu_rest h15 (by omega) hb1, nI_eq (by omega) (by decide)]
    refine ⟨fun _ => ⟨by decide, by decide, fun q => ⟨(x_vp (by omega)).mpr (by omega), b_X9_placeInFirst_102 ?_⟩, fun q => ⟨(x_vp (by omega)).mpr (by omega), b_X9_placeInFirst_102 ?_⟩⟩, fun q => absurd ((x_0le (by omega)).mpr trivial) q⟩
    · rw [if_neg (by omega)] at h11
      rw [nI_add]
      exact h11
    · rw [if_pos (by omega)] at h11
      rw [nI_add]
      exact h11
end CORE10

