/-! ===== the program: the missing piece, what to ask ===== -/
theorem low_f {M P : Nat} (h1 : M.testBit P = true) (h2 : ∀ i, i < P → M.testBit i = false) : M = 2 ^ (P + 1) * (M / 2 ^ (P + 1)) + 2 ^ P := by
  have e : M % 2 ^ (P + 1) = 2 ^ P := by
    apply Nat.eq_of_testBit_eq
    intro i
    rw [Nat.testBit_mod_two_pow]
    by_cases z : i = P
    · rw [z, h1, Nat.testBit_two_pow_self, decide_eq_true (by omega)]; rfl
    · rw [Nat.testBit_two_pow_of_ne (fun w => z w.symm)]
      by_cases y : i < P
      · rw [h2 i y, Bool.and_false]
      · rw [decide_eq_false (by omega), Bool.false_and]
  have := Nat.div_add_mod M (2 ^ (P + 1))
  rw [e] at this
  exact this.symm
theorem tz_tab : ∀ p, p < 31 → tzA (nI (2 ^ p - 1)) = nI p := by decide +kernel
theorem tz_m {m p : Nat} (hm : m < 2 ^ 31) (h1 : m.testBit p = true) (h2 : ∀ i, i < p → m.testBit i = false) : tzF (nI m) = nI p := by
  have hp : p < 31 := by
    apply Decidable.byContradiction
    intro w
    rw [Nat.testBit_lt_two_pow (Nat.lt_of_lt_of_le hm (Nat.pow_le_pow_right (by decide) (by omega)))] at h1
    cases h1
  have hf := low_f h1 h2
  have hpos : 0 < 2 ^ p := Nat.two_pow_pos p
  have hm1 : m - 1 = 2 ^ (p + 1) * (m / 2 ^ (p + 1)) + (2 ^ p - 1) := by omega
  have e : dif (m - 1) m = 2 ^ p - 1 := by
    apply Nat.eq_of_testBit_eq
    intro i
    rw [dif_tb (by omega), Nat.testBit_two_pow_sub_one]
    have e1 : (m - 1).testBit i = if i < p + 1 then (2 ^ p - 1).testBit i else (m / 2 ^ (p + 1)).testBit (i - (p + 1)) := by
      rw [hm1]
      exact Nat.testBit_two_pow_mul_add _ (by rw [Nat.pow_succ]; omega) i
    have e2 : m.testBit i = if i < p + 1 then (2 ^ p).testBit i else (m / 2 ^ (p + 1)).testBit (i - (p + 1)) := by
      conv => lhs; rw [hf]
      exact Nat.testBit_two_pow_mul_add _ (by rw [Nat.pow_succ]; omega) i
    rw [e1, e2]
    by_cases z : i < p + 1
    · rw [if_pos z, if_pos z, Nat.testBit_two_pow_sub_one]
      by_cases y : i = p
      · rw [y, Nat.testBit_two_pow_self, decide_eq_false (Nat.lt_irrefl _)]; rfl
      · rw [Nat.testBit_two_pow_of_ne (fun w => y w.symm), Bool.not_false, Bool.and_true]
    · rw [if_neg z, if_neg z, decide_eq_false (show ¬ i < p by omega)]
      cases (m / 2 ^ (p + 1)).testBit (i - (p + 1)) <;> rfl
  unfold tzF
  rw [Int32.and_comm, pk_sub (show 1 ≤ m by
    apply Decidable.byContradiction
    intro w
    rw [show m = 0 by omega, Nat.zero_testBit] at h1
    cases h1), nu_dif, e]
  exact tz_tab p hp
theorem nI_md {M : Nat} : nI M = nI (M % 2 ^ 32) := by
  apply Int32.toBitVec_inj.mp
  apply BitVec.eq_of_toNat_eq
  show M % 2 ^ 32 = M % 2 ^ 32 % 2 ^ 32
  rw [Nat.mod_mod]
/-! pairs -/
theorem pr_sort : prL.Pairwise (fun a b => 8 * a.1 + a.2 < 8 * b.1 + b.2) := by decide
theorem pr_mem : ∀ x, x < 7 → ∀ y, y < 7 → (x ≤ y ↔ (x, y) ∈ prL) := by decide
theorem pr_lt : ∀ q, q ∈ prL → q.1 ≤ q.2 ∧ q.2 < 7 := by decide
theorem ms_1 (f : Nat → Nat → Bool) : ∀ (l : List (Nat × Nat)) (z : Nat × Int32), (l.foldl (msS f) z).1 = z.1 + (l.map (fun q => if f q.1 q.2 = true then 1 else 0)).sum
  | [], z => rfl
  | q :: l, z => by
    rw [List.foldl_cons, ms_1 f l, List.map_cons, List.sum_cons]
    unfold msS
    split <;> omega
theorem ms_2 (f : Nat → Nat → Bool) : ∀ (l : List (Nat × Nat)) (z : Nat × Int32), 0 ≤ z.2 → (l.foldl (msS f) z).2 = z.2
  | [], z, _ => rfl
  | q :: l, z, h => by
    rw [List.foldl_cons]
    have e : (msS f z q).2 = z.2 := by
      unfold msS
      by_cases c : f q.1 q.2 = true
      · rw [if_pos c]
        show (if 0 ≤ z.2 then z.2 else _) = _
        rw [if_pos h]
      · rw [if_neg c]
    rw [ms_2 f l _ (by rw [e]; exact h), e]
theorem ms_3 (f : Nat → Nat → Bool) : ∀ (l : List (Nat × Nat)) (z : Nat × Int32), ¬ 0 ≤ z.2 → (∀ q, q ∈ l → 10 * q.1 + q.2 < 2 ^ 31) → (l.foldl (msS f) z).2 = match l.find? (fun q => f q.1 q.2) with | none => z.2 | some q => nI (10 * q.1 + q.2)
  | [], z, _, _ => rfl
  | q :: l, z, h, hb => by
    rw [List.foldl_cons, List.find?_cons]
    cases hf : f q.1 q.2 with
    | true =>
      have e : (msS f z q).2 = nI (10 * q.1 + q.2) := by
        unfold msS
        rw [if_pos hf]
        show (if 0 ≤ z.2 then z.2 else _) = _
        rw [if_neg h]
      rw [ms_2 f l _ (by
        rw [e, show (0 : Int32) = nI 0 from rfl, nI_leI (by decide) (hb q List.mem_cons_self)]
        exact Nat.zero_le _), e]
    | false =>
      have e : msS f z q = z := by
        unfold msS
        rw [if_neg (by rw [hf]; exact Bool.false_ne_true)]
      rw [e]
      exact ms_3 f l z h (fun q hq => hb q (List.mem_cons_of_mem _ hq))
/-- the bytes of what is left -/
abbrev cM (f : Nat → Nat → Bool) (x : Nat) : Nat := bitsN (fun y => decide (x ≤ y) && f x y) 7
theorem cM_lt (f : Nat → Nat → Bool) (x : Nat) : cM f x < 128 := bitsN_lt _ 7
theorem cM_tb (f : Nat → Nat → Bool) {x y : Nat} (hy : y < 8) : (byN (cM f) 7).testBit (x * 8 + y) = (decide (x < 7) && (decide (y < 7) && (decide (x ≤ y) && f x y))) := by
  rw [byN_tb hy (fun f' _ => Nat.lt_of_lt_of_le (cM_lt f f') (by decide)), bitsN_tb]
theorem cM_none (f : Nat → Nat → Bool) (h : prL.find? (fun q => f q.1 q.2) = none) : byN (cM f) 7 = 0 := by
  apply Nat.eq_of_testBit_eq
  intro i
  rw [Nat.zero_testBit, show i = (i / 8) * 8 + i % 8 by omega, cM_tb f (Nat.mod_lt _ (by decide))]
  by_cases z1 : i / 8 < 7
  · by_cases z2 : i % 8 < 7
    · by_cases z3 : i / 8 ≤ i % 8
      · have hm := (pr_mem _ z1 _ z2).mp z3
        have := List.find?_eq_none.mp h _ hm
        have e : f (i / 8) (i % 8) = false := by
          cases q : f (i / 8) (i % 8) with
          | false => rfl
          | true => exact absurd q this
        rw [e, Bool.and_false, Bool.and_false, Bool.and_false]
      · rw [decide_eq_false z3, Bool.false_and, Bool.and_false, Bool.and_false]
    · rw [decide_eq_false z2, Bool.false_and, Bool.and_false]
  · rw [decide_eq_false z1, Bool.false_and]
theorem cM_some (f : Nat → Nat → Bool) {q : Nat × Nat} (h : prL.find? (fun q => f q.1 q.2) = some q) : q.1 ≤ q.2 ∧ q.2 < 7 ∧ (byN (cM f) 7).testBit (q.1 * 8 + q.2) = true ∧ ∀ i, i < q.1 * 8 + q.2 → (byN (cM f) 7).testBit i = false := by
  obtain ⟨hf, as, bs, hl, ha⟩ := List.find?_eq_some_iff_append.mp h
  have hm : q ∈ prL := by rw [hl]; exact List.mem_append_right _ List.mem_cons_self
  obtain ⟨q1, q2⟩ := pr_lt q hm
  refine ⟨q1, q2, ?_, fun i hi => ?_⟩
  · rw [cM_tb f (by omega), decide_eq_true (by omega), decide_eq_true q2, decide_eq_true q1]
    exact hf
  · rw [show i = (i / 8) * 8 + i % 8 by omega, cM_tb f (Nat.mod_lt _ (by decide))]
    by_cases z1 : i / 8 < 7
    · by_cases z2 : i % 8 < 7
      · by_cases z3 : i / 8 ≤ i % 8
        · have hm2 := (pr_mem _ z1 _ z2).mp z3
          have hs := pr_sort
          rw [hl] at hm2 hs
          rw [List.pairwise_append, List.pairwise_cons] at hs
          rcases List.mem_append.mp hm2 with w | w
          · have := ha _ w
            simp only [Bool.not_eq_true'] at this
            rw [show f (i / 8) (i % 8) = false from this, Bool.and_false, Bool.and_false, Bool.and_false]
          · exfalso
            rcases List.mem_cons.mp w with w | w
            · rw [← w] at hi
              have hi : i < i / 8 * 8 + i % 8 := hi
              omega
            · have := hs.2.1.1 _ w
              have : 8 * q.1 + q.2 < 8 * (i / 8) + i % 8 := this
              omega
        · rw [decide_eq_false z3, Bool.false_and, Bool.and_false, Bool.and_false]
      · rw [decide_eq_false z2, Bool.false_and, Bool.and_false]
    · rw [decide_eq_false z1, Bool.false_and]
theorem pb_t (b k : Nat) : b / 2 ^ k % 2 = if b.testBit k = true then 1 else 0 := by
  rw [Nat.testBit_eq_decide_div_mod_eq]
  rcases (show b / 2 ^ k % 2 = 0 ∨ b / 2 ^ k % 2 = 1 by omega) with e | e
  · rw [e, if_neg (by decide)]
  · rw [e, if_pos (by decide)]
theorem pop_c (c : Nat) : pop c 8 = (if c.testBit 0 = true then 1 else 0) + (if c.testBit 1 = true then 1 else 0) + (if c.testBit 2 = true then 1 else 0) + (if c.testBit 3 = true then 1 else 0) + (if c.testBit 4 = true then 1 else 0) + (if c.testBit 5 = true then 1 else 0) + (if c.testBit 6 = true then 1 else 0) + (if c.testBit 7 = true then 1 else 0) := by
  show 0 + c / 2 ^ 0 % 2 + c / 2 ^ 1 % 2 + c / 2 ^ 2 % 2 + c / 2 ^ 3 % 2 + c / 2 ^ 4 % 2 + c / 2 ^ 5 % 2 + c / 2 ^ 6 % 2 + c / 2 ^ 7 % 2 = _
  rw [pb_t, pb_t, pb_t, pb_t, pb_t, pb_t, pb_t, pb_t, Nat.zero_add]
abbrev wE (e x : Nat) : Nat := bitsN (fun y => decide (x ≤ y) && (decide (x = e) || decide (y = e))) 7
/-- as numbers -/
abbrev nB (b : Bool) : Nat := if b = true then 1 else 0
theorem rw_c (h : Nat → Bool) : pop (bitsN h 7) 8 = nB (h 0) + nB (h 1) + nB (h 2) + nB (h 3) + nB (h 4) + nB (h 5) + nB (h 6) := by
  rw [pop_c]
  simp only [bitsN_tb]
  rfl
theorem bits_and (h k : Nat → Bool) : bitsN h 7 &&& bitsN k 7 = bitsN (fun y => h y && k y) 7 := by
  apply Nat.eq_of_testBit_eq
  intro i
  rw [Nat.testBit_and, bitsN_tb, bitsN_tb, bitsN_tb]
  cases decide (i < 7) <;> cases h i <;> cases k i <;> rfl
theorem cnt_s (f : Nat → Nat → Bool) : pop (cM f 0) 8 + pop (cM f 1) 8 + pop (cM f 2) 8 + pop (cM f 3) 8 + pop (cM f 4) 8 + pop (cM f 5) 8 + pop (cM f 6) 8 = (prL.map (fun q => if f q.1 q.2 = true then 1 else 0)).sum := by
  rw [rw_c, rw_c, rw_c, rw_c, rw_c, rw_c, rw_c]
  show (nB (f 0 0) + nB (f 0 1) + nB (f 0 2) + nB (f 0 3) + nB (f 0 4) + nB (f 0 5) + nB (f 0 6)) + (0 + nB (f 1 1) + nB (f 1 2) + nB (f 1 3) + nB (f 1 4) + nB (f 1 5) + nB (f 1 6)) + (0 + 0 + nB (f 2 2) + nB (f 2 3) + nB (f 2 4) + nB (f 2 5) + nB (f 2 6)) + (0 + 0 + 0 + nB (f 3 3) + nB (f 3 4) + nB (f 3 5) + nB (f 3 6)) + (0 + 0 + 0 + 0 + nB (f 4 4) + nB (f 4 5) + nB (f 4 6)) + (0 + 0 + 0 + 0 + 0 + nB (f 5 5) + nB (f 5 6)) + (0 + 0 + 0 + 0 + 0 + 0 + nB (f 6 6)) = nB (f 0 0) + (nB (f 0 1) + (nB (f 0 2) + (nB (f 0 3) + (nB (f 0 4) + (nB (f 0 5) + (nB (f 0 6) + (nB (f 1 1) + (nB (f 1 2) + (nB (f 1 3) + (nB (f 1 4) + (nB (f 1 5) + (nB (f 1 6) + (nB (f 2 2) + (nB (f 2 3) + (nB (f 2 4) + (nB (f 2 5) + (nB (f 2 6) + (nB (f 3 3) + (nB (f 3 4) + (nB (f 3 5) + (nB (f 3 6) + (nB (f 4 4) + (nB (f 4 5) + (nB (f 4 6) + (nB (f 5 5) + (nB (f 5 6) + (nB (f 6 6) + 0)))))))))))))))))))))))))))
  simp only [Nat.zero_add, Nat.add_zero]
  simp only [Nat.add_assoc]
theorem cnt_0 (f : Nat → Nat → Bool) : pop (cM f 0) 8 + pop (cM f 1) 8 + pop (cM f 2) 8 + pop (cM f 3) 8 + pop (cM f 4) 8 + pop (cM f 5) 8 + pop (cM f 6) 8 = (msF f 28).1 := by
  rw [cnt_s]
  have := ms_1 f prL (0, -(nI 2))
  rw [Nat.zero_add] at this
  exact this.symm
theorem ak_1 (f : Nat → Nat → Bool) (e : Nat) : ∀ (l : List (Nat × Nat)) (z : Nat × Nat), (l.foldl (akS f e) z).1 = z.1 + (l.map (fun q => if (f q.1 q.2 && (decide (q.1 = e) || decide (q.2 = e))) = true then 1 else 0)).sum ∧ (l.foldl (akS f e) z).2 = z.2 + (l.map (fun q => if f q.1 q.2 = true then 1 else 0)).sum
  | [], z => ⟨rfl, rfl⟩
  | q :: l, z => by
    have ih := ak_1 f e l (akS f e z q)
    rw [List.foldl_cons, ih.1, ih.2, List.map_cons, List.sum_cons, List.map_cons, List.sum_cons]
    unfold akS
    by_cases c : f q.1 q.2 = true
    · rw [if_pos c, if_pos c, c, Bool.true_and, ← Bool.decide_or]
      by_cases y : q.1 = e ∨ q.2 = e
      · rw [if_pos y, if_pos (decide_eq_true y)]
        exact ⟨by show z.1 + 1 + _ = _; omega, by show z.2 + 1 + _ = _; omega⟩
      · rw [if_neg y, if_neg (by rw [decide_eq_false y]; exact Bool.false_ne_true)]
        exact ⟨by show z.1 + 0 + _ = _; omega, by show z.2 + 1 + _ = _; omega⟩
    · rw [if_neg c, if_neg c, if_neg (fun w => c (Bool.and_eq_true _ _ ▸ w).1)]
      exact ⟨by omega, by omega⟩
theorem cnt_e (f : Nat → Nat → Bool) (e : Nat) : pop (cM f 0 &&& wE e 0) 8 + pop (cM f 1 &&& wE e 1) 8 + pop (cM f 2 &&& wE e 2) 8 + pop (cM f 3 &&& wE e 3) 8 + pop (cM f 4 &&& wE e 4) 8 + pop (cM f 5 &&& wE e 5) 8 + pop (cM f 6 &&& wE e 6) 8 = (akF f e 28).1 := by
  have h := ak_1 f e prL (0, 0)
  have c := cnt_s (fun x y => f x y && (decide (x = e) || decide (y = e)))
  have g : ∀ x, cM f x &&& wE e x = cM (fun x y => f x y && (decide (x = e) || decide (y = e))) x := by
    intro x
    show bitsN _ 7 &&& bitsN _ 7 = bitsN _ 7
    rw [bits_and]
    congr 1
    funext y
    show (decide (x ≤ y) && f x y && (decide (x ≤ y) && (decide (x = e) || decide (y = e)))) = (decide (x ≤ y) && (f x y && (decide (x = e) || decide (y = e))))
    cases decide (x ≤ y) <;> cases f x y <;> cases (decide (x = e) || decide (y = e)) <;> rfl
  rw [g, g, g, g, g, g, g, c]
  rw [Nat.zero_add] at h
  exact h.1.symm
theorem cnt_t (f : Nat → Nat → Bool) (e : Nat) : (akF f e 28).2 = (msF f 28).1 := by
  have h := (ak_1 f e prL (0, 0)).2
  have h2 := ms_1 f prL (0, -(nI 2))
  exact h.trans h2.symm
theorem by_78 {c : Nat → Nat} : byN c 7 = byN (fun x => if x < 7 then c x else 0) 8 := by
  show _ = byN (fun x => if x < 7 then c x else 0) 7 + (if 7 < 7 then c 7 else 0) * 256 ^ 7
  rw [if_neg (by decide), Nat.zero_mul, Nat.add_zero]
  exact byN_c (fun x hx => by rw [if_pos hx])
theorem u_bit7 (G : ab_G) {fr : Bool} {lay : List ms_D} (S : ms_S) (tl : ab_H) (C : Nat → Nat) (hC : ∀ f, f < 7 → C f < 128) (K : Int32 → ms_S → Prop) (k : K (nI (pop (C 0) 8 + pop (C 1) 8 + pop (C 2) 8 + pop (C 3) 8 + pop (C 4) 8 + pop (C 5) 8 + pop (C 6) 8)) S) : ctI G 1 M_J13_bitCount_l fr [.long (lN (byN C 7))] lay S tl K := by
  rw [by_78]
  exact u_bitL G S tl (fun x => if x < 7 then C x else 0) (fun x _ => by
    show (if x < 7 then C x else 0) < 128
    split
    · exact hC x (by assumption)
    · decide) K (by
      rw [if_pos (by decide), if_pos (by decide), if_pos (by decide), if_pos (by decide), if_pos (by decide), if_pos (by decide), if_pos (by decide), if_neg (by decide), show pop 0 8 = 0 from rfl, Nat.add_zero]
      exact k)

