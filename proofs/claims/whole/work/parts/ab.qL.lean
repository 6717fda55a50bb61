/-! ===== the program: how likely ===== -/
theorem pv_nx {set part : Nat} (hs : set < 512) (hp : part &&& set = part) (hn : ¬ part = set) : part < nxN set part ∧ ∀ x, x &&& set = x → part < x → nxN set part ≤ x := by
  have h1 := qk_nx hs hp hn
  have hns := nx_sub set part
  generalize nxN set part = nx at h1 hns
  have hn0 : ¬ nx = 0 := fun w => by
    rw [w, show qk set 0 = 0 from qkN_0 set 9] at h1
    omega
  have h2 := qk_pv hs hns hn0
  have hpv : pvN set nx &&& set = pvN set nx := by
    unfold pvN
    rw [Nat.and_assoc, Nat.and_self]
  have e : pvN set nx = part := qk_inj hs hpv hp (by omega)
  refine ⟨?_, ?_⟩
  · have : pvN set nx ≤ nx - 1 := Nat.and_le_left
    rw [e] at this
    omega
  intro x hx hlt
  refine Classical.byContradiction (fun z => ?_)
  have := sb_gap nx nx (Nat.le_refl _) set x hns (by omega) hx (by omega)
  rw [show (nx - 1) &&& set = part from e] at this
  omega
theorem lk_gap (R : Nat → Bool) (box set n a : Nat) : ∀ d, (∀ x, a ≤ x → x < a + d → ¬ x &&& box = x) → lkN R box set n (a + d) = lkN R box set n a
  | 0, _ => rfl
  | d + 1, h => by
    show (if (a + d) &&& box = a + d ∧ _ then _ else lkN R box set n (a + d)) = _
    rw [if_neg (fun z => h (a + d) (by omega) (by omega) z.1)]
    exact lk_gap R box set n a d (fun x h1 h2 => h x h1 (by omega))
/-- how many parts of n there are -/
def bnN : Nat → Nat → Nat
  | _, 0 => 1
  | 0, _ + 1 => 0
  | m + 1, n + 1 => bnN m (n + 1) + bnN m n
theorem bn_ge (m n : Nat) : bnN m 0 = 1 := by cases m <;> rfl
theorem pw_tab : ∀ m, m < 9 → ∀ k, k < 512 → k < 2 ^ m → pop (2 ^ m + k) 9 = pop k 9 + 1 := by decide +kernel
theorem pw_tb {m k i : Nat} (hk : k < 2 ^ m) : (2 ^ m + k).testBit i = (decide (i = m) || k.testBit i) := by
  have h := Nat.two_pow_add_eq_or_of_lt hk 1
  rw [Nat.mul_one] at h
  rw [h, Nat.testBit_or, Nat.testBit_two_pow]
  congr 1
  exact decide_eq_decide.mpr ⟨fun h => h.symm, fun h => h.symm⟩
theorem pw_sub {m k box : Nat} (hk : k < 2 ^ m) : ((2 ^ m + k) &&& box = 2 ^ m + k) ↔ (box.testBit m = true ∧ k &&& box = k) := by
  constructor
  · intro h
    refine ⟨sb_tb h (by rw [pw_tb hk, decide_eq_true rfl]; rfl), sb_of (fun i hi => sb_tb h (by rw [pw_tb hk, hi, Bool.or_true]))⟩
  · rintro ⟨h1, h2⟩
    refine sb_of (fun i hi => ?_)
    rw [pw_tb hk, Bool.or_eq_true, decide_eq_true_eq] at hi
    rcases hi with w | w
    · rw [w]; exact h1
    · exact sb_tb h2 w
theorem lk_j (R : Nat → Bool) (box set n m : Nat) (hm : m < 9) : ∀ j, j ≤ 2 ^ m → (lkN R box set n (2 ^ m + j)).2 = (lkN R box set n (2 ^ m)).2 + (if box.testBit m = true then (match n with | 0 => 0 | n' + 1 => (lkN R box set n' j).2) else 0)
  | 0, _ => by
    rw [Nat.add_zero]
    split
    · cases n <;> rfl
    · rfl
  | j + 1, hj => by
    have ih := lk_j R box set n m hm j (by omega)
    have h9 : 2 ^ m ≤ 2 ^ 8 := Nat.pow_le_pow_right (by decide) (by omega)
    have hp := pw_tab m hm j (by omega) (by omega)
    have hs := pw_sub (m := m) (k := j) (box := box) (by omega)
    have e1 : (lkN R box set n (2 ^ m + (j + 1))).2 = if (2 ^ m + j) &&& box = 2 ^ m + j ∧ pop (2 ^ m + j) 9 = n then (lkN R box set n (2 ^ m + j)).2 + 1 else (lkN R box set n (2 ^ m + j)).2 := by
      show (if (2 ^ m + j) &&& box = 2 ^ m + j ∧ pop (2 ^ m + j) 9 = n then _ else lkN R box set n (2 ^ m + j)).2 = _
      split <;> rfl
    rw [e1, ih, hp]
    by_cases tb : box.testBit m = true
    · rw [if_pos tb, if_pos tb]
      cases n with
      | zero =>
        rw [if_neg (fun z => absurd z.2 (by omega))]
      | succ n =>
        have e2 : (lkN R box set n (j + 1)).2 = if j &&& box = j ∧ pop j 9 = n then (lkN R box set n j).2 + 1 else (lkN R box set n j).2 := by
          show (if j &&& box = j ∧ pop j 9 = n then _ else lkN R box set n j).2 = _
          split <;> rfl
        dsimp only
        rw [e2]
        by_cases z : j &&& box = j ∧ pop j 9 = n
        · rw [if_pos z, if_pos ⟨hs.mpr ⟨tb, z.1⟩, by omega⟩, Nat.add_assoc]
        · rw [if_neg z, if_neg (fun w => z ⟨(hs.mp w.1).2, by omega⟩)]
    · rw [if_neg tb, if_neg tb, if_neg (fun z => tb (hs.mp z.1).1)]
theorem lk_2 (R : Nat → Bool) (box set : Nat) : ∀ m, m ≤ 9 → ∀ n, (lkN R box set n (2 ^ m)).2 = bnN (pop box m) n
  | 0, _, n => by
    have e : (lkN R box set n (2 ^ 0)).2 = if 0 &&& box = 0 ∧ pop 0 9 = n then 1 else 0 := by
      show (if 0 &&& box = 0 ∧ pop 0 9 = n then ((lkN R box set n 0).1 + (if R (set ||| 0) = true then 1 else 0), (lkN R box set n 0).2 + 1) else lkN R box set n 0).2 = _
      split <;> rfl
    rw [e, show pop 0 9 = 0 from by decide]
    cases n with
    | zero => rw [if_pos ⟨Nat.zero_and _, rfl⟩]; rfl
    | succ n => rw [if_neg (fun z => absurd z.2 (by omega))]; rfl
  | m + 1, hm, n => by
    have ih := lk_2 R box set m (by omega)
    rw [show 2 ^ (m + 1) = 2 ^ m + 2 ^ m from by rw [Nat.pow_succ]; omega, lk_j R box set n m (by omega) (2 ^ m) (Nat.le_refl _), ih, pop_s]
    by_cases tb : box.testBit m = true
    · rw [if_pos tb, if_pos tb]
      cases n with
      | zero =>
        rw [bn_ge _ 0, bn_ge _ 0]
        rfl
      | succ n =>
        dsimp only
        rw [ih]
        rfl
    · rw [if_neg tb, if_neg tb, Nat.add_zero, Nat.add_zero]
/-- sets of n out of so many, by products -/
def soF (a : Nat) : Nat → Int32
  | 0 => nI 1
  | i + 1 => (soF a i * ((nI a - nI (i + 1)) + nI 1)) / nI (i + 1)
theorem so_tab : ∀ a, a < 10 → ∀ n, n < 10 → n ≤ a → soF a n = nI (bnN a n) := by decide +kernel
theorem u_setsOf (G : ab_G) {lay : List ms_D} (S : ms_S) (tl : ab_H) (a n : Nat) (ha : a < 10) (hn : n ≤ a) (K : Int32 → ms_S → Prop) (k : K (nI (bnN a n)) S) : ctI G 1 M_X11_setsOf false [.int (nI a), .int (nI n)] lay S tl K := by
  refine ctI.pk (m_X11_setsOf (fun n0 => ?_))
  suffices KL : ∀ t i, i + t = n → L_X11_setsOf_4 G false n0 (hLy lay S tl) (fun v _ => K v S) ms_0 (nI a) (nI n) (soF a i) (nI (i + 1)) from KL n 0 (Nat.zero_add _)
  intro t
  induction t with
  | zero =>
    intro i hi
    have hi : i = n := hi
    subst hi
    refine b_X11_setsOf_4 ?_
    rw [nI_ltI (by omega) (by omega), so_tab a ha i (by omega) hn]
    exact ⟨fun _ => k, fun z => absurd (Nat.lt_succ_self _) z⟩
  | succ t ih =>
    intro i hi
    refine b_X11_setsOf_4 ?_
    rw [nI_ltI (by omega) (by omega), nI_add]
    exact ⟨fun z => absurd z (by omega), fun _ => ⟨fun z => absurd ((x_eq0 (by omega)).mp z) (by omega), ih (i + 1) (by omega)⟩⟩
theorem u_gcd (G : ab_G) {lay : List ms_D} (S : ms_S) (tl : ab_H) (a b : Nat) (ha : a < 2 ^ 10) (hb : b < 2 ^ 10) (K : Int32 → ms_S → Prop) (k : K (nI (Nat.gcd b a)) S) : ctI G 1 M_X11_commonDivisor false [.int (nI a), .int (nI b)] lay S tl K := by
  refine ctI.pk (m_X11_commonDivisor (fun n0 => ?_))
  have KL : ∀ j x y i, x < 2 ^ 10 → y ≤ x → x * y < 2 ^ j → i + j ≤ 60 → Nat.gcd y x = Nat.gcd b a → L_X11_commonDivisor_7 G false n0 (hLy lay S tl) (fun v _ => K v S) ms_0 (nI x) (nI y) (nI i) := by
    intro j
    induction j with
    | zero =>
      intro x y i hx hy hxy hi hg
      have h0 : y = 0 := by
        rcases Nat.eq_zero_or_pos y with z | z
        · exact z
        · have := Nat.mul_pos (show 0 < x by omega) z
          omega
      subst h0
      refine b_X11_commonDivisor_7 ⟨fun z => absurd ((nI_leI (a := 64) (by decide) (by omega)).mp z) (by omega), fun _ => ⟨fun _ => ?_, fun z => absurd rfl z⟩⟩
      rw [← hg, Nat.gcd_zero_left] at k
      exact k
    | succ j ih =>
      intro x y i hx hy hxy hi hg
      refine b_X11_commonDivisor_7 ?_
      rw [nI_leI (by decide) (by omega), x_eq0 (by omega)]
      refine ⟨fun z => absurd z (by omega), fun _ => ⟨fun z => ?_, fun z => ⟨z, ?_⟩⟩⟩
      · subst z
        rw [← hg, Nat.gcd_zero_left] at k
        exact k
      · have hm := Nat.mod_lt x (show 0 < y by omega)
        have h2 : 2 * (x % y) ≤ x := by
          have h3 := Nat.div_add_mod x y
          have h4 : 1 ≤ x / y := Nat.div_pos hy (by omega)
          have h5 : y * 1 ≤ y * (x / y) := Nat.mul_le_mul_left _ h4
          omega
        rw [pk_mod (by omega) (by omega) (by omega), nI_add]
        refine ih y (x % y) (i + 1) (by omega) (by omega) ?_ (by omega) ?_
        · have h6 : y * (2 * (x % y)) ≤ y * x := Nat.mul_le_mul_left _ h2
          rw [Nat.mul_comm y x, Nat.mul_left_comm] at h6
          rw [Nat.pow_succ] at hxy
          omega
        · rw [← Nat.gcd_rec]
          exact hg
  have hab : ∀ {x y : Nat}, x < 2 ^ 10 → y < 2 ^ 10 → x * y < 2 ^ 20 := fun {x y} hx hy => Nat.lt_of_le_of_lt (Nat.mul_le_mul (Nat.le_of_lt_succ hx) (Nat.le_of_lt_succ hy)) (by decide)
  by_cases h : b ≤ a
  · exact KL 20 a b 0 ha h (hab ha hb) (by decide) rfl
  · refine b_X11_commonDivisor_7 ?_
    rw [x_eq0 (by omega)]
    refine ⟨fun z => absurd z (by decide), fun _ => ⟨fun z => absurd z (by omega), fun z => ⟨z, ?_⟩⟩⟩
    rw [pk_mod (by omega) (by omega) (by omega), Nat.mod_eq_of_lt (by omega), nI_add]
    exact KL 20 b a 1 hb (by omega) (hab hb ha) (by decide) (Nat.gcd_comm _ _)
section CORE12
variable {G : ab_G} {S : ms_S} {tl : ab_H} {P : tPL} {o : Nat → Option tDQ} {v : Nat} {jb : Nat → Nat}
theorem u_stm (hP : bPl S P o) (hR : bRT S P v jb) (share box n : Nat) (hs : share < 2 ^ P.1) (hb : box < 2 ^ P.1) (hn : n ≤ 9) (K : Int32 → ms_S → Prop) (k : ∀ S', cF aRc S S' → bRT S' P v jb → K (nI (lkN (fun s => isRowK P jb s 7) box share n 512).1) S') : ctI G 5 M_X9_setsThatMakeRow false [.ref 25, .int (nI share), .int (nI box), .int (nI n)] lC S tl K := by
  have p1 := hP.1
  have h5 : box < 512 := Nat.lt_of_lt_of_le hb (p2_9 p1)
  refine m_X9_setsThatMakeRow (fun n0 => ?_)
  have h0 : qk box 0 = 0 := qkN_0 box 9
  suffices KL : ∀ t part (X : ms_S), part &&& box = part → qk box part + t = 512 → cF aRc S X → bRT X P v jb → L_X9_setsThatMakeRow_9 G false n0 tl K X (nI share) (nI box) (nI n) (nI (lkN (fun s => isRowK P jb s 7) box share n part).1) (nI part) (nI (qk box part)) by
    have := KL 512 0 S (Nat.zero_and _) (by rw [h0]) cF.rf hR
    rw [h0] at this
    exact this
  intro t
  induction t with
  | zero =>
    intro part X hp ht
    have := qk_512 box part
    exact absurd ht (by omega)
  | succ t ih =>
    intro part X hp ht x1 x2
    have hq5 := qk_512 box part
    have hpb : part ≤ box := by rw [← hp]; exact Nat.and_le_right
    have hpo := pop_le part 9
    have K40 : ∀ Y, cF aRc S Y → bRT Y P v jb → L_X9_setsThatMakeRow_40 G false n0 tl K Y (nI share) (nI box) (nI n) (nI (lkN (fun s => isRowK P jb s 7) box share n (part + 1)).1) (nI part) (nI (qk box part)) := by
      intro Y y1 y2
      refine b_X9_setsThatMakeRow_40 ?_
      rw [nI_eq (by omega) (by omega), nu_nx h5 (by omega), nI_add]
      refine ⟨fun z => b_X9_setsThatMakeRow_63 ?_, fun z => ?_⟩
      · have hg := lk_gap (fun s => isRowK P jb s 7) box share n (part + 1) (512 - (part + 1)) (fun x h1 _ h3 => by
          have : x ≤ box := by rw [← h3]; exact Nat.and_le_right
          omega)
        rw [show part + 1 + (512 - (part + 1)) = 512 by omega] at hg
        rw [← hg]
        exact k Y y1 y2
      · have hnx := qk_nx h5 hp z
        have hns := nx_sub box part
        obtain ⟨hlt, hgap⟩ := pv_nx h5 hp z
        generalize nxN box part = nx at hnx hns hgap hlt ⊢
        have hg := lk_gap (fun s => isRowK P jb s 7) box share n (part + 1) (nx - (part + 1)) (fun x h1 h2 h3 => by
          have := hgap x h3 (by omega)
          omega)
        rw [show part + 1 + (nx - (part + 1)) = nx by omega] at hg
        rw [← hg, ← hnx]
        exact ih nx Y hns (by omega) y1 y2
    have hst : (lkN (fun s => isRowK P jb s 7) box share n (part + 1)).1 = if pop part 9 = n ∧ isRowK P jb (share ||| part) 7 = true then (lkN (fun s => isRowK P jb s 7) box share n part).1 + 1 else (lkN (fun s => isRowK P jb s 7) box share n part).1 := by
      show (if part &&& box = part ∧ pop part 9 = n then ((lkN (fun s => isRowK P jb s 7) box share n part).1 + (if isRowK P jb (share ||| part) 7 = true then 1 else 0), (lkN (fun s => isRowK P jb s 7) box share n part).2 + 1) else lkN (fun s => isRowK P jb s 7) box share n part).1 = _
      by_cases z : pop part 9 = n
      · rw [if_pos ⟨hp, z⟩]
        dsimp only
        by_cases y : isRowK P jb (share ||| part) 7 = true
        · rw [if_pos y, if_pos ⟨z, y⟩]
        · rw [if_neg y, if_neg (fun w => y w.2), Nat.add_zero]
      · rw [if_neg (fun w => z w.2), if_neg (fun w => z w.1)]
    rw [hst] at K40
    refine b_X9_setsThatMakeRow_9 ?_
    rw [nI_leI (by decide) (by omega)]
    refine ⟨fun z => absurd z (by omega), fun _ => u_bitCount G false X tl _ (by omega) _ ?_⟩
    rw [nI_eq (by omega) (by omega), nu_or, nI_add]
    refine ⟨fun z => u_isRow (bPl_F x1 aRc_pl hP) x2 _ (Nat.or_lt_two_pow hs (by omega)) _ (fun Y f y2 => ?_), fun z => ?_⟩
    · have y1 := x1.tr f
      rw [x_b0]
      refine ⟨fun y => ?_, fun y => ?_⟩
      · have := K40 Y y1 y2
        rw [if_neg (fun w => by rw [y] at w; exact Bool.noConfusion w.2)] at this
        exact this
      · have y : isRowK P jb (share ||| part) 7 = true := by
          cases e : isRowK P jb (share ||| part) 7 with
          | true => rfl
          | false => exact absurd e y
        have := K40 Y y1 y2
        rw [if_pos ⟨z, y⟩] at this
        exact this
    · have := K40 X x1 x2
      rw [if_neg (fun w => z w.1)] at this
      exact this
end CORE12

