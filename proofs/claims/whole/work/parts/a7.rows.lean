/-! ===== rows counted from their first piece, and from their last ===== -/
def gsm (f : Nat → Nat) : Nat → Nat
  | 0 => 0
  | n + 1 => gsm f n + f n
theorem gsm_c {f g : Nat → Nat} : ∀ {n : Nat}, (∀ i, i < n → f i = g i) → gsm f n = gsm g n
  | 0, _ => rfl
  | n + 1, h => by
    show gsm f n + f n = gsm g n + g n
    rw [gsm_c (fun i hi => h i (by omega)), h n (by omega)]
theorem gsm_add (f g : Nat → Nat) : ∀ n, gsm (fun i => f i + g i) n = gsm f n + gsm g n
  | 0 => rfl
  | n + 1 => by
    show gsm (fun i => f i + g i) n + (f n + g n) = (gsm f n + f n) + (gsm g n + g n)
    rw [gsm_add f g n]
    omega
theorem gsm_0 : ∀ n, gsm (fun _ => 0) n = 0
  | 0 => rfl
  | n + 1 => by
    show gsm (fun _ => 0) n + 0 = 0
    rw [gsm_0 n]
theorem gsm_sw (f : Nat → Nat → Nat) (m : Nat) : ∀ n, gsm (fun i => gsm (f i) m) n = gsm (fun j => gsm (fun i => f i j) n) m
  | 0 => (gsm_0 m).symm
  | n + 1 => by
    show gsm (fun i => gsm (f i) m) n + gsm (f n) m = gsm (fun j => gsm (fun i => f i j) n + f n j) m
    rw [gsm_sw f m n, ← gsm_add]
theorem gsm_if {c : Prop} {_ : Decidable c} (f : Nat → Nat) (n : Nat) : (if c then gsm f n else 0) = gsm (fun i => if c then f i else 0) n := by
  by_cases h : c
  · rw [if_pos h]
    exact gsm_c (fun i _ => (if_pos h).symm)
  · rw [if_neg h]
    exact (gsm_0 n).symm.trans (gsm_c (fun i _ => (if_neg h).symm))
theorem gsm_n {f : Nat → Nat} : ∀ {n : Nat}, (¬ gsm f n = 0) ↔ ∃ i, i < n ∧ ¬ f i = 0
  | 0 => ⟨fun h => absurd rfl h, fun ⟨_, h, _⟩ => absurd h (Nat.not_lt_zero _)⟩
  | n + 1 => by
    have ih := gsm_n (f := f) (n := n)
    show (¬ gsm f n + f n = 0) ↔ _
    constructor
    · intro h
      by_cases z : f n = 0
      · obtain ⟨i, h1, h2⟩ := ih.mp (by omega)
        exact ⟨i, by omega, h2⟩
      · exact ⟨n, by omega, z⟩
    · rintro ⟨i, h1, h2⟩ h
      by_cases z : i = n
      · rw [z] at h2
        omega
      · exact ih.mpr ⟨i, by omega, h2⟩ (by omega)
theorem gsm_1 {x : Nat} {v : Nat → Nat} : ∀ {n : Nat}, gsm (fun l => if x = l then v l else 0) n = if x < n then v x else 0
  | 0 => rfl
  | n + 1 => by
    show gsm (fun l => if x = l then v l else 0) n + (if x = n then v n else 0) = _
    rw [gsm_1 (n := n)]
    by_cases z : x = n
    · rw [if_pos z, if_neg (by omega), if_pos (by omega), z, Nat.zero_add]
    · rw [if_neg z, Nat.add_zero]
      by_cases y : x < n
      · rw [if_pos y, if_pos (by omega)]
      · rw [if_neg y, if_neg (by omega)]
theorem ife {c d : Prop} {_ : Decidable c} {_ : Decidable d} {x y : Nat} (h : c ↔ d) (e : d → x = y) : (if c then x else 0) = (if d then y else 0) := by
  by_cases z : d
  · rw [if_pos z, if_pos (h.mpr z), e z]
  · rw [if_neg z, if_neg (fun w => z (h.mp w))]
theorem if_if {c d : Prop} {_ : Decidable c} {_ : Decidable d} {x : Nat} : (if c then (if d then x else 0) else 0) = if c ∧ d then x else 0 := by
  by_cases z : c
  · rw [if_pos z]
    exact ife ⟨fun w => ⟨z, w⟩, fun w => w.2⟩ (fun _ => rfl)
  · rw [if_neg z, if_neg (fun w => z w.1)]
/-! a piece laid one way or the other: its ends -/
def oeA (P : tPL) (c : Nat) : Nat := if c % 2 = 0 then P.2.2.1 (c / 2) else P.2.2.2.1 (c / 2)
def oeB (P : tPL) (c : Nat) : Nat := if c % 2 = 0 then P.2.2.2.1 (c / 2) else P.2.2.1 (c / 2)
abbrev oeK (P : tPL) (set c : Nat) : Prop := set.testBit (c / 2) = true ∧ (c % 2 = 0 ∨ ¬ P.2.2.1 (c / 2) = P.2.2.2.1 (c / 2))
theorem oe_d (n : Nat) : (2 * n) / 2 = n ∧ (2 * n + 1) / 2 = n ∧ (2 * n) % 2 = 0 ∧ (2 * n + 1) % 2 = 1 := by omega
theorem oeA_0 (P : tPL) (n : Nat) : oeA P (2 * n) = P.2.2.1 n := by
  unfold oeA
  rw [(oe_d n).1, (oe_d n).2.2.1]
  rfl
theorem oeA_1 (P : tPL) (n : Nat) : oeA P (2 * n + 1) = P.2.2.2.1 n := by
  unfold oeA
  rw [(oe_d n).2.1, (oe_d n).2.2.2]
  rfl
theorem oeB_0 (P : tPL) (n : Nat) : oeB P (2 * n) = P.2.2.2.1 n := by
  unfold oeB
  rw [(oe_d n).1, (oe_d n).2.2.1]
  rfl
theorem oeB_1 (P : tPL) (n : Nat) : oeB P (2 * n + 1) = P.2.2.1 n := by
  unfold oeB
  rw [(oe_d n).2.1, (oe_d n).2.2.2]
  rfl
theorem oeK_0 {P : tPL} {set n : Nat} : oeK P set (2 * n) ↔ set.testBit n = true := by
  unfold oeK
  rw [(oe_d n).1, (oe_d n).2.2.1]
  exact ⟨fun h => h.1, fun h => ⟨h, Or.inl rfl⟩⟩
theorem oeK_1 {P : tPL} {set n : Nat} : oeK P set (2 * n + 1) ↔ set.testBit n = true ∧ ¬ P.2.2.1 n = P.2.2.2.1 n := by
  unfold oeK
  rw [(oe_d n).2.1, (oe_d n).2.2.2]
  exact ⟨fun h => ⟨h.1, h.2.resolve_left (by decide)⟩, fun h => ⟨h.1, Or.inr h.2⟩⟩
theorem wx_g (P : tPL) (jb : Nat → Nat) (T : Nat → Nat → Nat) (set e : Nat) : ∀ n, wxN P.2.2.1 P.2.2.2.1 jb T set e n = gsm (fun c => if oeK P set c ∧ (jb e).testBit (oeA P c) = true then T (set - 2 ^ (c / 2)) (oeB P c) else 0) (2 * n)
  | 0 => rfl
  | n + 1 => by
    show (if set.testBit n = true then (wxN P.2.2.1 P.2.2.2.1 jb T set e n + (if (jb e).testBit (P.2.2.1 n) = true then T (set - 2 ^ n) (P.2.2.2.1 n) else 0)) + (if ¬ P.2.2.1 n = P.2.2.2.1 n ∧ (jb e).testBit (P.2.2.2.1 n) = true then T (set - 2 ^ n) (P.2.2.1 n) else 0) else wxN P.2.2.1 P.2.2.2.1 jb T set e n) = (gsm _ (2 * n) + (if oeK P set (2 * n) ∧ (jb e).testBit (oeA P (2 * n)) = true then T (set - 2 ^ ((2 * n) / 2)) (oeB P (2 * n)) else 0)) + (if oeK P set (2 * n + 1) ∧ (jb e).testBit (oeA P (2 * n + 1)) = true then T (set - 2 ^ ((2 * n + 1) / 2)) (oeB P (2 * n + 1)) else 0)
    rw [← wx_g P jb T set e n, oeA_0, oeA_1, oeB_0, oeB_1]
    by_cases h : set.testBit n = true
    · rw [if_pos h]
      congr 1
      · congr 1
        exact ife ⟨fun w => ⟨oeK_0.mpr h, w⟩, fun w => w.2⟩ (fun _ => by rw [(oe_d n).1])
      · exact ife ⟨fun w => ⟨oeK_1.mpr ⟨h, w.1⟩, w.2⟩, fun w => ⟨(oeK_1.mp w.1).2, w.2⟩⟩ (fun _ => by rw [(oe_d n).2.1])
    · rw [if_neg h, if_neg (fun w => h (oeK_0.mp w.1)), if_neg (fun w => h (oeK_1.mp w.1).1)]
      rfl
theorem rw_g (P : tPL) (T : Nat → Nat → Nat) (set : Nat) (f : Option Nat) : ∀ n, rwN P.2.2.1 P.2.2.2.1 T set f n = gsm (fun c => if oeK P set c ∧ (f = none ∨ f = some (oeA P c)) then T (set - 2 ^ (c / 2)) (oeB P c) else 0) (2 * n)
  | 0 => rfl
  | n + 1 => by
    show (if set.testBit n = true then (rwN P.2.2.1 P.2.2.2.1 T set f n + (if f = none ∨ f = some (P.2.2.1 n) then T (set - 2 ^ n) (P.2.2.2.1 n) else 0)) + (if ¬ P.2.2.1 n = P.2.2.2.1 n ∧ (f = none ∨ f = some (P.2.2.2.1 n)) then T (set - 2 ^ n) (P.2.2.1 n) else 0) else rwN P.2.2.1 P.2.2.2.1 T set f n) = (gsm _ (2 * n) + (if oeK P set (2 * n) ∧ (f = none ∨ f = some (oeA P (2 * n))) then T (set - 2 ^ ((2 * n) / 2)) (oeB P (2 * n)) else 0)) + (if oeK P set (2 * n + 1) ∧ (f = none ∨ f = some (oeA P (2 * n + 1))) then T (set - 2 ^ ((2 * n + 1) / 2)) (oeB P (2 * n + 1)) else 0)
    rw [← rw_g P T set f n, oeA_0, oeA_1, oeB_0, oeB_1]
    by_cases h : set.testBit n = true
    · rw [if_pos h]
      congr 1
      · congr 1
        exact ife ⟨fun w => ⟨oeK_0.mpr h, w⟩, fun w => w.2⟩ (fun _ => by rw [(oe_d n).1])
      · exact ife ⟨fun w => ⟨oeK_1.mpr ⟨h, w.1⟩, w.2⟩, fun w => ⟨(oeK_1.mp w.1).2, w.2⟩⟩ (fun _ => by rw [(oe_d n).2.1])
    · rw [if_neg h, if_neg (fun w => h (oeK_0.mp w.1)), if_neg (fun w => h (oeK_1.mp w.1).1)]
      rfl
/-- two pieces: which is taken first doesn't matter -/
theorem oe_sw {P : tPL} {set c d : Nat} (hs : set < 512) : (oeK P set c ∧ oeK P (set - 2 ^ (c / 2)) d) ↔ (oeK P set d ∧ oeK P (set - 2 ^ (d / 2)) c) := by
  have key : ∀ c d, oeK P set c → oeK P (set - 2 ^ (c / 2)) d → oeK P set d ∧ oeK P (set - 2 ^ (d / 2)) c := by
    intro c d h1 h2
    have c9 : c / 2 < 9 := tb_lt (n := 9) hs h1.1
    have d9 : d / 2 < 9 := tb_lt (n := 9) (Nat.lt_of_le_of_lt (Nat.sub_le _ _) hs) h2.1
    have h3 := h2.1
    rw [sb_t set hs _ c9 h1.1 _ d9, Bool.and_eq_true] at h3
    have hne : ¬ d / 2 = c / 2 := by simpa using h3.2
    refine ⟨⟨h3.1, h2.2⟩, ?_, h1.2⟩
    rw [sb_t set hs _ d9 h3.1 _ c9, h1.1, decide_eq_false (fun w => hne w.symm)]
    rfl
  exact ⟨fun h => key c d h.1 h.2, fun h => key d c h.1 h.2⟩
theorem oe_D {P : tPL} {set N : Nat} (hs : set < 512) (A B : Nat → Prop) [DecidablePred A] [DecidablePred B] (X : Nat → Nat → Nat) : gsm (fun d => if oeK P set d ∧ A d then gsm (fun c => if oeK P (set - 2 ^ (d / 2)) c ∧ B c then X c d else 0) N else 0) N = gsm (fun c => if oeK P set c ∧ B c then gsm (fun d => if oeK P (set - 2 ^ (c / 2)) d ∧ A d then X c d else 0) N else 0) N := by
  have e1 : ∀ d, (if oeK P set d ∧ A d then gsm (fun c => if oeK P (set - 2 ^ (d / 2)) c ∧ B c then X c d else 0) N else 0) = gsm (fun c => if (oeK P set d ∧ A d) ∧ oeK P (set - 2 ^ (d / 2)) c ∧ B c then X c d else 0) N := fun d => by
    rw [gsm_if]
    exact gsm_c (fun c _ => if_if)
  have e2 : ∀ c, (if oeK P set c ∧ B c then gsm (fun d => if oeK P (set - 2 ^ (c / 2)) d ∧ A d then X c d else 0) N else 0) = gsm (fun d => if (oeK P set c ∧ B c) ∧ oeK P (set - 2 ^ (c / 2)) d ∧ A d then X c d else 0) N := fun c => by
    rw [gsm_if]
    exact gsm_c (fun d _ => if_if)
  rw [gsm_c (fun d _ => e1 d), gsm_c (g := fun c => gsm (fun d => if (oeK P set c ∧ B c) ∧ oeK P (set - 2 ^ (c / 2)) d ∧ A d then X c d else 0) N) (fun c _ => e2 c), gsm_sw]
  refine gsm_c (fun c _ => gsm_c (fun d _ => ife ?_ (fun _ => rfl)))
  constructor
  · rintro ⟨⟨h1, h2⟩, h3, h4⟩
    obtain ⟨h5, h6⟩ := (oe_sw hs).mp ⟨h1, h3⟩
    exact ⟨⟨h5, h4⟩, h6, h2⟩
  · rintro ⟨⟨h1, h2⟩, h3, h4⟩
    obtain ⟨h5, h6⟩ := (oe_sw hs).mp ⟨h1, h3⟩
    exact ⟨⟨h5, h4⟩, h6, h2⟩
/-- a set of one piece, or one that is more -/
theorem oe_one {P : tPL} {set c d : Nat} (hs : set < 512) (hc : oeK P set c) (h0 : set - 2 ^ (c / 2) = 0) (hd : oeK P set d) : set - 2 ^ (d / 2) = 0 := by
  have c9 : c / 2 < 9 := tb_lt (n := 9) hs hc.1
  have d9 : d / 2 < 9 := tb_lt (n := 9) hs hd.1
  by_cases z : d / 2 = c / 2
  · rw [z]
    exact h0
  · have := sb_t set hs _ c9 hc.1 _ d9
    rw [h0, Nat.zero_testBit, hd.1, decide_eq_false z] at this
    cases this
theorem oe_lt {P : tPL} {set c n : Nat} (hs : set < 2 ^ n) (hc : oeK P set c) : set - 2 ^ (c / 2) < set ∧ set - 2 ^ (c / 2) < 2 ^ n := by
  have h1 := Nat.ge_two_pow_of_testBit hc.1
  have h2 := Nat.two_pow_pos (c / 2)
  omega
section ROWS
variable {P : tPL} {jb : Nat → Nat}
theorem jw_tb {e x : Nat} (he : e < 7) : (jwN jb x).testBit e = (jb e).testBit x := by rw [bitsN_tb, decide_eq_true he, Bool.true_and]
/-- rows behind an end, by their last piece -/
theorem wy_L (hp9 : P.1 ≤ 9) (hA : ∀ c, c < 2 * P.1 → oeA P c < 7 ∧ oeB P c < 7) : ∀ n set, set ≤ n → ¬ set = 0 → set < 2 ^ P.1 → ∀ en e, e < 7 → wyT P jb en set e = gsm (fun c => if oeK P set c ∧ en.testBit (oeB P c) = true then wyT P jb (jwN jb (oeA P c)) (set - 2 ^ (c / 2)) e else 0) (2 * P.1) := by
  intro n
  induction n with
  | zero => intro set h1 h2; exact absurd (Nat.le_zero.mp h1) h2
  | succ n ih =>
    intro set h1 h0 hs en e he
    have hs5 : set < 512 := Nat.lt_of_lt_of_le hs (p2_9 hp9)
    rw [wyT_eq P jb en set e h0, wx_g]
    by_cases z : ∃ c, oeK P set c ∧ set - 2 ^ (c / 2) = 0
    · obtain ⟨c0, z1, z2⟩ := z
      refine gsm_c (fun c hc => ?_)
      by_cases k : oeK P set c
      · rw [oe_one hs5 z1 z2 k, wyT_0, wyT_0, jw_tb he, if_if, if_if]
        exact ife ⟨fun w => ⟨⟨k, w.2⟩, w.1.2⟩, fun w => ⟨⟨k, w.2⟩, w.1.2⟩⟩ (fun _ => rfl)
      · rw [if_neg (fun w => k w.1), if_neg (fun w => k w.1)]
    · have e1 : ∀ c, c < 2 * P.1 → (if oeK P set c ∧ (jb e).testBit (oeA P c) = true then wyT P jb en (set - 2 ^ (c / 2)) (oeB P c) else 0) = (if oeK P set c ∧ (jb e).testBit (oeA P c) = true then gsm (fun d => if oeK P (set - 2 ^ (c / 2)) d ∧ en.testBit (oeB P d) = true then wyT P jb (jwN jb (oeA P d)) (set - 2 ^ (c / 2) - 2 ^ (d / 2)) (oeB P c) else 0) (2 * P.1) else 0) := fun c hc => ife Iff.rfl (fun w => by
        have hl := oe_lt hs w.1
        exact ih _ (by omega) (fun y => z ⟨c, w.1, y⟩) hl.2 en _ (hA c hc).2)
      have e2 : ∀ d, (if oeK P set d ∧ en.testBit (oeB P d) = true then wyT P jb (jwN jb (oeA P d)) (set - 2 ^ (d / 2)) e else 0) = (if oeK P set d ∧ en.testBit (oeB P d) = true then gsm (fun c => if oeK P (set - 2 ^ (d / 2)) c ∧ (jb e).testBit (oeA P c) = true then wyT P jb (jwN jb (oeA P d)) (set - 2 ^ (c / 2) - 2 ^ (d / 2)) (oeB P c) else 0) (2 * P.1) else 0) := fun d => ife Iff.rfl (fun w => by
        rw [wyT_eq P jb _ _ e (fun y => z ⟨d, w.1, y⟩), wx_g]
        exact gsm_c (fun c _ => by rw [Nat.sub_right_comm]))
      rw [gsm_c e1, gsm_c (fun d _ => e2 d)]
      exact oe_D hs5 (fun c => (jb e).testBit (oeA P c) = true) (fun d => en.testBit (oeB P d) = true) (fun d c => wyT P jb (jwN jb (oeA P d)) (set - 2 ^ (c / 2) - 2 ^ (d / 2)) (oeB P c))
/-- rows that end in l -/
def vbT (P : tPL) (jb : Nat → Nat) (f : Option Nat) (rest x : Nat) : Nat := if rest = 0 then (if f = none ∨ f = some x then 1 else 0) else rwT P jb (jwN jb x) rest f
def vyT (P : tPL) (jb : Nat → Nat) (f : Option Nat) (set l : Nat) : Nat := gsm (fun c => if oeK P set c ∧ oeB P c = l then vbT P jb f (set - 2 ^ (c / 2)) (oeA P c) else 0) (2 * P.1)
theorem vy_M (hp9 : P.1 ≤ 9) (hA : ∀ c, c < 2 * P.1 → oeA P c < 7 ∧ oeB P c < 7) (f : Option Nat) (set : Nat) (h0 : ¬ set = 0) (hs : set < 2 ^ P.1) (en : Nat) : gsm (fun l => if en.testBit l = true then vyT P jb f set l else 0) 7 = rwT P jb en set f := by
  have hs5 : set < 512 := Nat.lt_of_lt_of_le hs (p2_9 hp9)
  have e0 : gsm (fun l => if en.testBit l = true then vyT P jb f set l else 0) 7 = gsm (fun c => if oeK P set c ∧ en.testBit (oeB P c) = true then vbT P jb f (set - 2 ^ (c / 2)) (oeA P c) else 0) (2 * P.1) := by
    unfold vyT
    rw [gsm_c (g := fun l => gsm (fun c => if en.testBit l = true then (if oeK P set c ∧ oeB P c = l then vbT P jb f (set - 2 ^ (c / 2)) (oeA P c) else 0) else 0) (2 * P.1)) (fun l _ => gsm_if _ _), gsm_sw]
    refine gsm_c (fun c hc => ?_)
    have e : ∀ l, l < 7 → (if en.testBit l = true then (if oeK P set c ∧ oeB P c = l then vbT P jb f (set - 2 ^ (c / 2)) (oeA P c) else 0) else 0) = (if oeB P c = l then (if oeK P set c ∧ en.testBit l = true then vbT P jb f (set - 2 ^ (c / 2)) (oeA P c) else 0) else 0) := fun l _ => by
      rw [if_if, if_if]
      exact ife ⟨fun w => ⟨w.2.2, w.2.1, w.1⟩, fun w => ⟨w.2.2, w.2.1, w.1⟩⟩ (fun _ => rfl)
    rw [gsm_c e, gsm_1 (v := fun l => if oeK P set c ∧ en.testBit l = true then vbT P jb f (set - 2 ^ (c / 2)) (oeA P c) else 0), if_pos (hA c hc).2]
  rw [e0, show rwT P jb en set f = _ from rw_g P (wyT P jb en) set f P.1]
  by_cases z : ∃ c, oeK P set c ∧ set - 2 ^ (c / 2) = 0
  · obtain ⟨c0, z1, z2⟩ := z
    refine gsm_c (fun c hc => ?_)
    by_cases k : oeK P set c
    · rw [oe_one hs5 z1 z2 k, wyT_0]
      unfold vbT
      rw [if_pos rfl, if_if, if_if]
      exact ife ⟨fun w => ⟨⟨k, w.2⟩, w.1.2⟩, fun w => ⟨⟨k, w.2⟩, w.1.2⟩⟩ (fun _ => rfl)
    · rw [if_neg (fun w => k w.1), if_neg (fun w => k w.1)]
  · have e1 : ∀ c, (if oeK P set c ∧ en.testBit (oeB P c) = true then vbT P jb f (set - 2 ^ (c / 2)) (oeA P c) else 0) = (if oeK P set c ∧ en.testBit (oeB P c) = true then gsm (fun d => if oeK P (set - 2 ^ (c / 2)) d ∧ (f = none ∨ f = some (oeA P d)) then wyT P jb (jwN jb (oeA P c)) (set - 2 ^ (c / 2) - 2 ^ (d / 2)) (oeB P d) else 0) (2 * P.1) else 0) := fun c => ife Iff.rfl (fun w => by
      unfold vbT
      rw [if_neg (fun y => z ⟨c, w.1, y⟩)]
      exact rw_g _ _ _ _ _)
    have e2 : ∀ d, d < 2 * P.1 → (if oeK P set d ∧ (f = none ∨ f = some (oeA P d)) then wyT P jb en (set - 2 ^ (d / 2)) (oeB P d) else 0) = (if oeK P set d ∧ (f = none ∨ f = some (oeA P d)) then gsm (fun c => if oeK P (set - 2 ^ (d / 2)) c ∧ en.testBit (oeB P c) = true then wyT P jb (jwN jb (oeA P c)) (set - 2 ^ (c / 2) - 2 ^ (d / 2)) (oeB P d) else 0) (2 * P.1) else 0) := fun d hd => ife Iff.rfl (fun w => by
      have hl := oe_lt hs w.1
      rw [wy_L hp9 hA _ _ (Nat.le_refl _) (fun y => z ⟨d, w.1, y⟩) hl.2 en _ (hA d hd).2]
      exact gsm_c (fun c _ => by rw [Nat.sub_right_comm]))
    rw [gsm_c (fun c _ => e1 c), gsm_c e2]
    exact oe_D hs5 (fun c => en.testBit (oeB P c) = true) (fun d => f = none ∨ f = some (oeA P d)) (fun d c => wyT P jb (jwN jb (oeA P c)) (set - 2 ^ (c / 2) - 2 ^ (d / 2)) (oeB P d))
theorem orp {X y l : Nat} {c : Prop} {_ : Decidable c} : (X ||| (if c then 2 ^ y else 0)).testBit l = true ↔ X.testBit l = true ∨ (c ∧ y = l) := by
  rw [Nat.testBit_or, Bool.or_eq_true]
  by_cases h : c
  · rw [if_pos h, Nat.testBit_two_pow, decide_eq_true_eq]
    exact ⟨fun w => w.imp id (fun z => ⟨h, z⟩), fun w => w.imp id (fun z => z.2)⟩
  · rw [if_neg h, Nat.zero_testBit]
    exact ⟨fun w => w.imp id (fun z => by cases z), fun w => w.imp id (fun z => absurd z.1 h)⟩
theorem anB_ii {F : Nat → Bool} {n : Nat} : anB F n = true ↔ ∃ e, e < n ∧ F e = true := by
  constructor
  · intro h
    obtain ⟨e, h1, h2⟩ := anB_ex h
    exact ⟨e, h1, h2⟩
  · rintro ⟨e, h1, h2⟩
    cases hb : anB F n with
    | true => rfl
    | false =>
      have := anB_f hb e h1
      rw [h2] at this
      cases this
/-- what makes l a last end of the set's rows that begin with f, by their last piece -/
def lsQ (jb T : Nat → Nat) (set f l p a b : Nat) : Prop := b = l ∧ ((set = 2 ^ p ∧ a = f) ∨ (¬ set = 2 ^ p ∧ ∃ x, x < 7 ∧ (T (set - 2 ^ p)).testBit x = true ∧ (jb x).testBit a = true))
theorem lt_g (P : tPL) (jb T : Nat → Nat) (set f l : Nat) : ∀ n, (ltN P.2.2.1 P.2.2.2.1 jb T set f n).testBit l = true ↔ ∃ c, c < 2 * n ∧ set.testBit (c / 2) = true ∧ lsQ jb T set f l (c / 2) (oeA P c) (oeB P c)
  | 0 => by
    show (0 : Nat).testBit l = true ↔ _
    rw [Nat.zero_testBit]
    exact ⟨fun h => Bool.noConfusion h, fun ⟨c, h, _⟩ => absurd h (by omega)⟩
  | n + 1 => by
    have ih := lt_g P jb T set f l n
    have hspl : (∃ c, c < 2 * (n + 1) ∧ set.testBit (c / 2) = true ∧ lsQ jb T set f l (c / 2) (oeA P c) (oeB P c)) ↔ ((∃ c, c < 2 * n ∧ set.testBit (c / 2) = true ∧ lsQ jb T set f l (c / 2) (oeA P c) (oeB P c)) ∨ (set.testBit n = true ∧ lsQ jb T set f l n (P.2.2.1 n) (P.2.2.2.1 n))) ∨ (set.testBit n = true ∧ lsQ jb T set f l n (P.2.2.2.1 n) (P.2.2.1 n)) := by
      obtain ⟨d1, d2, d3, d4⟩ := oe_d n
      constructor
      · rintro ⟨c, h1, h2⟩
        by_cases z : c < 2 * n
        · exact Or.inl (Or.inl ⟨c, z, h2⟩)
        · by_cases y : c = 2 * n
          · subst y
            rw [d1, oeA_0, oeB_0] at h2
            exact Or.inl (Or.inr h2)
          · have y : c = 2 * n + 1 := by omega
            subst y
            rw [d2, oeA_1, oeB_1] at h2
            exact Or.inr h2
      · rintro ((⟨c, h1, h2⟩ | h) | h)
        · exact ⟨c, by omega, h2⟩
        · exact ⟨2 * n, by omega, by rw [d1, oeA_0, oeB_0]; exact h⟩
        · exact ⟨2 * n + 1, by omega, by rw [d2, oeA_1, oeB_1]; exact h⟩
    rw [hspl, ← ih]
    show (if set.testBit n = true then (if set = 2 ^ n then (ltN P.2.2.1 P.2.2.2.1 jb T set f n ||| (if P.2.2.1 n = f then 2 ^ P.2.2.2.1 n else 0)) ||| (if P.2.2.2.1 n = f then 2 ^ P.2.2.1 n else 0) else ltN P.2.2.1 P.2.2.2.1 jb T set f n ||| bhN jb (P.2.2.1 n) (P.2.2.2.1 n) (T (set - 2 ^ n)) 7) else ltN P.2.2.1 P.2.2.2.1 jb T set f n).testBit l = true ↔ _
    by_cases h : set.testBit n = true
    · rw [if_pos h]
      by_cases h2 : set = 2 ^ n
      · rw [if_pos h2, orp, orp]
        unfold lsQ
        constructor
        · rintro ((w | w) | w)
          · exact Or.inl (Or.inl w)
          · exact Or.inl (Or.inr ⟨h, w.2, Or.inl ⟨h2, w.1⟩⟩)
          · exact Or.inr ⟨h, w.2, Or.inl ⟨h2, w.1⟩⟩
        · rintro ((w | ⟨_, w1, w2⟩) | ⟨_, w1, w2⟩)
          · exact Or.inl (Or.inl w)
          · exact Or.inl (Or.inr ⟨w2.elim (fun y => y.2) (fun y => absurd h2 y.1), w1⟩)
          · exact Or.inr ⟨w2.elim (fun y => y.2) (fun y => absurd h2 y.1), w1⟩
      · rw [if_neg h2, bh_eq, ← Nat.or_assoc, orp, orp, anB_ii, anB_ii]
        unfold lsQ
        have ea : ∀ x, (∃ e, e < 7 ∧ anF jb (T (set - 2 ^ n)) x e = true) ↔ ∃ e, e < 7 ∧ (T (set - 2 ^ n)).testBit e = true ∧ (jb e).testBit x = true := fun x => by
          constructor
          · rintro ⟨e, h1, h2⟩
            have h2 : ((T (set - 2 ^ n)).testBit e && (jb e).testBit x) = true := h2
            rw [Bool.and_eq_true] at h2
            exact ⟨e, h1, h2⟩
          · rintro ⟨e, h1, h2⟩
            refine ⟨e, h1, ?_⟩
            show ((T (set - 2 ^ n)).testBit e && (jb e).testBit x) = true
            rw [h2.1, h2.2]
            rfl
        rw [ea, ea]
        constructor
        · rintro ((w | w) | w)
          · exact Or.inl (Or.inl w)
          · exact Or.inl (Or.inr ⟨h, w.2, Or.inr ⟨h2, w.1⟩⟩)
          · exact Or.inr ⟨h, w.2, Or.inr ⟨h2, w.1⟩⟩
        · rintro ((w | ⟨_, w1, w2⟩) | ⟨_, w1, w2⟩)
          · exact Or.inl (Or.inl w)
          · exact Or.inl (Or.inr ⟨w2.elim (fun y => absurd y.1 h2) (fun y => y.2), w1⟩)
          · exact Or.inr ⟨w2.elim (fun y => absurd y.1 h2) (fun y => y.2), w1⟩
    · rw [if_neg h]
      exact ⟨fun w => Or.inl (Or.inl w), fun w => by
        rcases w with (w | w) | w
        · exact w
        · exact absurd w.1 h
        · exact absurd w.1 h⟩
/-- of a piece with two like ends one way is enough -/
theorem oe_ev {set c : Nat} (hb : set.testBit (c / 2) = true) (hc : c < 2 * P.1) : ∃ d, d < 2 * P.1 ∧ oeK P set d ∧ d / 2 = c / 2 ∧ oeA P d = oeA P c ∧ oeB P d = oeB P c := by
  by_cases z : c % 2 = 0 ∨ ¬ P.2.2.1 (c / 2) = P.2.2.2.1 (c / 2)
  · exact ⟨c, hc, ⟨hb, z⟩, rfl, rfl, rfl⟩
  · have h1 : c % 2 = 1 := by have := Nat.mod_two_eq_zero_or_one c; omega
    have h2 : P.2.2.1 (c / 2) = P.2.2.2.1 (c / 2) := Classical.byContradiction (fun y => z (Or.inr y))
    have h3 : c = 2 * (c / 2) + 1 := by omega
    have e1 : oeA P c = P.2.2.2.1 (c / 2) := by rw [h3, oeA_1, ← h3]
    have e2 : oeB P c = P.2.2.1 (c / 2) := by rw [h3, oeB_1, ← h3]
    refine ⟨2 * (c / 2), by omega, ⟨by rw [(oe_d _).1]; exact hb, Or.inl (oe_d _).2.2.1⟩, (oe_d _).1, ?_, ?_⟩
    · rw [oeA_0, e1, h2]
    · rw [oeB_0, e2, h2]
theorem vy_N (hp9 : P.1 ≤ 9) (hA : ∀ c, c < 2 * P.1 → oeA P c < 7 ∧ oeB P c < 7) (f : Nat) : ∀ n set, set ≤ n → ¬ set = 0 → set < 2 ^ P.1 → ∀ l, (¬ vyT P jb (some f) set l = 0) ↔ (rowT P jb set f).testBit l = true := by
  intro n
  induction n with
  | zero => intro set h1 h2; exact absurd (Nat.le_zero.mp h1) h2
  | succ n ih =>
    intro set h1 h0 hs l
    have hs5 : set < 512 := Nat.lt_of_lt_of_le hs (p2_9 hp9)
    rw [rowT_eq, lt_g]
    unfold vyT
    rw [gsm_n]
    have hvb : ∀ c, oeK P set c → ((¬ vbT P jb (some f) (set - 2 ^ (c / 2)) (oeA P c) = 0) ↔ ((set = 2 ^ (c / 2) ∧ oeA P c = f) ∨ (¬ set = 2 ^ (c / 2) ∧ ∃ x, x < 7 ∧ (rowT P jb (set - 2 ^ (c / 2)) f).testBit x = true ∧ (jb x).testBit (oeA P c) = true))) := by
      intro c hc
      have hl := oe_lt hs hc
      have hg := Nat.ge_two_pow_of_testBit hc.1
      unfold vbT
      by_cases z : set = 2 ^ (c / 2)
      · rw [if_pos (by omega)]
        by_cases y : oeA P c = f
        · rw [if_pos (Or.inr (by rw [y]))]
          exact ⟨fun _ => Or.inl ⟨z, y⟩, fun _ => by decide⟩
        · rw [if_neg (fun w => w.elim (fun q => by cases q) (fun q => y (Option.some.inj q).symm))]
          exact ⟨fun w => absurd rfl w, fun w => w.elim (fun q => absurd q.2 y) (fun q => absurd z q.1)⟩
      · have hne : ¬ set - 2 ^ (c / 2) = 0 := by omega
        rw [if_neg hne, ← vy_M hp9 hA (some f) _ hne hl.2, gsm_n]
        constructor
        · rintro ⟨x, x1, x2⟩
          by_cases w : (jwN jb (oeA P c)).testBit x = true
          · rw [if_pos w] at x2
            rw [jw_tb x1] at w
            exact Or.inr ⟨z, x, x1, (ih _ (by omega) hne hl.2 x).mp x2, w⟩
          · rw [if_neg w] at x2
            exact absurd rfl x2
        · intro w
          obtain ⟨_, x, x1, x2, x3⟩ := w.resolve_left (fun q => z q.1)
          refine ⟨x, x1, ?_⟩
          rw [if_pos (by rw [jw_tb x1]; exact x3)]
          exact (ih _ (by omega) hne hl.2 x).mpr x2
    constructor
    · rintro ⟨c, c1, c2⟩
      by_cases w : oeK P set c ∧ oeB P c = l
      · rw [if_pos w] at c2
        exact ⟨c, c1, w.1.1, w.2, (hvb c w.1).mp c2⟩
      · rw [if_neg w] at c2
        exact absurd rfl c2
    · rintro ⟨c, c1, c2, c3, c4⟩
      obtain ⟨d, d1, d2, d3, d4, d5⟩ := oe_ev (P := P) c2 c1
      refine ⟨d, d1, ?_⟩
      rw [if_pos ⟨d2, d5.trans c3⟩]
      refine (hvb d d2).mpr ?_
      rw [d3, d4]
      exact c4
/-- rows that begin anyhow -/
theorem rw_none {en set : Nat} (h : ¬ rwT P jb en set none = 0) (hA : ∀ c, c < 2 * P.1 → oeA P c < 7 ∧ oeB P c < 7) : ∃ f, f < 7 ∧ ¬ rwT P jb en set (some f) = 0 := by
  rw [show rwT P jb en set none = _ from rw_g P (wyT P jb en) set none P.1, gsm_n] at h
  obtain ⟨c, c1, c2⟩ := h
  refine ⟨oeA P c, (hA c c1).1, ?_⟩
  rw [show rwT P jb en set (some (oeA P c)) = _ from rw_g P (wyT P jb en) set _ P.1, gsm_n]
  refine ⟨c, c1, ?_⟩
  by_cases w : oeK P set c
  · rw [if_pos ⟨w, Or.inl rfl⟩] at c2
    rw [if_pos ⟨w, Or.inr rfl⟩]
    exact c2
  · rw [if_neg (fun y => w y.1)] at c2
    exact absurd rfl c2
theorem rw_mo {en set f : Nat} (h : ¬ rwT P jb en set (some f) = 0) : ¬ rwT P jb en set none = 0 := by
  rw [show rwT P jb en set (some f) = _ from rw_g P (wyT P jb en) set _ P.1, gsm_n] at h
  rw [show rwT P jb en set none = _ from rw_g P (wyT P jb en) set none P.1, gsm_n]
  obtain ⟨c, c1, c2⟩ := h
  refine ⟨c, c1, ?_⟩
  by_cases w : oeK P set c ∧ (some f = none ∨ some f = some (oeA P c))
  · rw [if_pos w] at c2
    rw [if_pos ⟨w.1, Or.inl rfl⟩]
    exact c2
  · rw [if_neg w] at c2
    exact absurd rfl c2
/-- no row, no way -/
theorem vy_no (hp9 : P.1 ≤ 9) (hA : ∀ c, c < 2 * P.1 → oeA P c < 7 ∧ oeB P c < 7) (f : Option Nat) (hf : ∀ x, f = some x → x < 7) {set : Nat} (h0 : ¬ set = 0) (hs : set < 2 ^ P.1) (hr : ∀ f, f < 7 → rowT P jb set f = 0) {l : Nat} (hl : l < 7) : vyT P jb f set l = 0 := by
  have key : ∀ x, x < 7 → vyT P jb (some x) set l = 0 := fun x hx => Classical.byContradiction (fun w => by
    have := (vy_N hp9 hA x set set (Nat.le_refl _) h0 hs l).mp w
    rw [hr x hx, Nat.zero_testBit] at this
    cases this)
  cases f with
  | some x => exact key x (hf x rfl)
  | none =>
    refine Classical.byContradiction (fun w => ?_)
    have h1 : ¬ rwT P jb (2 ^ l) set none = 0 := by
      rw [← vy_M hp9 hA none set h0 hs, gsm_n]
      exact ⟨l, hl, by rw [if_pos (by rw [Nat.testBit_two_pow]; exact decide_eq_true rfl)]; exact w⟩
    obtain ⟨x, x1, x2⟩ := rw_none h1 hA
    rw [← vy_M hp9 hA (some x) set h0 hs, gsm_n] at x2
    obtain ⟨m, m1, m2⟩ := x2
    by_cases y : (2 ^ l).testBit m = true
    · rw [if_pos y] at m2
      rw [Nat.testBit_two_pow, decide_eq_true_eq] at y
      rw [← y] at m2
      exact m2 (key x x1)
    · rw [if_neg y] at m2
      exact m2 rfl
/-- there is a row, if one is counted -/
theorem rw_row (hp9 : P.1 ≤ 9) (hA : ∀ c, c < 2 * P.1 → oeA P c < 7 ∧ oeB P c < 7) {set : Nat} (hs : set < 2 ^ P.1) : rwT P jb 127 set none = 0 ↔ ∀ f, f < 7 → rowT P jb set f = 0 := by
  by_cases h0 : set = 0
  · subst h0
    refine ⟨fun _ f _ => rowT_0 P jb f, fun _ => ?_⟩
    rw [show rwT P jb 127 0 none = _ from rw_g P (wyT P jb 127) 0 none P.1]
    refine Classical.byContradiction (fun w => ?_)
    obtain ⟨c, _, c2⟩ := gsm_n.mp w
    exact c2 (if_neg (fun y => by have := y.1.1; rw [Nat.zero_testBit] at this; cases this))
  constructor
  · intro h f hf
    refine Classical.byContradiction (fun w => ?_)
    obtain ⟨l, hl⟩ := Nat.exists_testBit_of_ne_zero w
    have hl7 : l < 7 := tb_lt (n := 7) (rowT_lt P jb set f (fun p hp => by have := hA (2 * p) (by omega); rw [oeA_0, oeB_0] at this; exact this)) hl
    have h1 := (vy_N hp9 hA f set set (Nat.le_refl _) h0 hs l).mpr hl
    refine rw_mo (f := f) ?_ h
    rw [← vy_M hp9 hA (some f) set h0 hs, gsm_n]
    refine ⟨l, hl7, ?_⟩
    have : ∀ l, l < 7 → (127 : Nat).testBit l = true := by decide
    rw [if_pos (this l hl7)]
    exact h1
  · intro h
    rw [← vy_M hp9 hA none set h0 hs]
    refine Classical.byContradiction (fun w => ?_)
    obtain ⟨l, l1, l2⟩ := gsm_n.mp w
    rw [vy_no hp9 hA none (fun x q => by cases q) h0 hs h l1] at l2
    exact l2 (by split <;> rfl)
end ROWS

