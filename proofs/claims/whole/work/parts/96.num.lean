/-! ===== longs as bits; seven bytes in a long ===== -/
theorem nl_and (x y : Nat) : lN x &&& lN y = lN (x &&& y) := by
  apply Int64.toBitVec_inj.mp
  show BitVec.ofNat 64 x &&& BitVec.ofNat 64 y = BitVec.ofNat 64 (x &&& y)
  apply BitVec.eq_of_getLsbD_eq
  intro j hj
  simp [BitVec.getLsbD_ofNat, Nat.testBit_and, hj]
theorem nl_or (x y : Nat) : lN x ||| lN y = lN (x ||| y) := by
  apply Int64.toBitVec_inj.mp
  show BitVec.ofNat 64 x ||| BitVec.ofNat 64 y = BitVec.ofNat 64 (x ||| y)
  apply BitVec.eq_of_getLsbD_eq
  intro j hj
  simp [BitVec.getLsbD_ofNat, Nat.testBit_or, hj]
theorem nl_sm : ∀ k, k < 64 → (((nI k).toInt64 &&& 63).toBitVec.smod 64).toNat = k := by decide +kernel
theorem nl_us : ∀ k, k < 64 → (((nI k).toInt64.toUInt64 &&& Int64.toUInt64 63).toBitVec % 64).toNat = k := by decide +kernel
theorem nl_tn {n : Nat} (h : n < 2 ^ 64) : (lN n).toBitVec.toNat = n := Nat.mod_eq_of_lt h
theorem nl_shl {x k : Nat} (hk : k < 64) : lN x <<< ((nI k).toInt64 &&& 63) = lN (x * 2 ^ k) := by
  apply Int64.toBitVec_inj.mp
  apply BitVec.eq_of_toNat_eq
  show ((lN x).toBitVec <<< (((nI k).toInt64 &&& 63).toBitVec.smod 64).toNat).toNat = (x * 2 ^ k) % 2 ^ 64
  rw [nl_sm k hk, BitVec.toNat_shiftLeft, Nat.shiftLeft_eq]
  show x % 2 ^ 64 * 2 ^ k % 2 ^ 64 = _
  rw [Nat.mul_mod, Nat.mod_mod, ← Nat.mul_mod]
theorem nl_ushr {x k : Nat} (hk : k < 64) (hx : x < 2 ^ 64) : ((lN x).toUInt64 >>> ((nI k).toInt64.toUInt64 &&& Int64.toUInt64 63)).toInt64 = lN (x / 2 ^ k) := by
  apply Int64.toBitVec_inj.mp
  apply BitVec.eq_of_toNat_eq
  have e : ((lN x).toUInt64 >>> ((nI k).toInt64.toUInt64 &&& Int64.toUInt64 63)).toInt64.toBitVec = (lN x).toBitVec >>> (((nI k).toInt64.toUInt64 &&& Int64.toUInt64 63).toBitVec % 64).toNat := UInt64.toBitVec_shiftRight _ _
  rw [e, nl_us k hk, BitVec.toNat_ushiftRight, Nat.shiftRight_eq_div_pow, nl_tn hx, nl_tn (Nat.lt_of_le_of_lt (Nat.div_le_self _ _) hx)]
theorem nl_one (x : Nat) : lN x &&& lN 1 = lN (x % 2) := by rw [nl_and, Nat.and_one_is_mod]
/-- one bit of a long -/
theorem tb_l {x k : Nat} (hk : k < 64) (hx : x < 2 ^ 64) : (lg_cmp (((lN x).toUInt64 >>> ((nI k).toInt64.toUInt64 &&& Int64.toUInt64 63)).toInt64 &&& lN 1) (lN 1) = 0) ↔ x.testBit k = true := by
  rw [lg_cmp_eq, nl_ushr hk hx, nl_one, pk_lEQ (by omega) (by decide), nu_tb]
/-- one bit of an int -/
theorem tb_u {x k : Nat} (hk : k < 32) (hx : x < 2 ^ 32) : ((((nI x).toUInt32 >>> ((nI k).toUInt32 &&& Int32.toUInt32 31)).toInt32) &&& nI 1 = nI 1) ↔ x.testBit k = true := by
  rw [nu_ushr hk hx, nu_one, nI_eq (by omega) (by decide), nu_tb]
theorem heldN_tb (f : Nat → Int32) (x : Int32) (k : Nat) : ∀ n, (heldN f x n).testBit k = (decide (k < n) && decide (f k = x))
  | 0 => by
    show (0 : Nat).testBit k = _
    simp
  | n + 1 => by
    show (heldN f x n ||| (if f n = x then 2 ^ n else 0)).testBit k = _
    rw [Nat.testBit_or, heldN_tb f x k n]
    by_cases h : f n = x
    · rw [if_pos h, Nat.testBit_two_pow]
      by_cases z : n = k
      · subst z
        simp [h]
      · rw [decide_eq_false z, Bool.or_false]
        congr 1
        exact decide_eq_decide.mpr (by omega)
    · rw [if_neg h, Nat.zero_testBit, Bool.or_false]
      by_cases z : n = k
      · subst z
        simp [h]
      · congr 1
        exact decide_eq_decide.mpr (by omega)
/-- bytes -/
def byN (c : Nat → Nat) : Nat → Nat
  | 0 => 0
  | n + 1 => byN c n + c n * 256 ^ n
theorem byN_lt {c : Nat → Nat} : ∀ {n : Nat}, (∀ f, f < n → c f < 256) → byN c n < 256 ^ n
  | 0, _ => by show 0 < 1; decide
  | n + 1, h => by
    have ih := byN_lt (n := n) (fun f hf => h f (by omega))
    have h1 := h n (by omega)
    show byN c n + c n * 256 ^ n < 256 ^ (n + 1)
    have h2 : c n * 256 ^ n ≤ 255 * 256 ^ n := Nat.mul_le_mul_right _ (by omega)
    rw [Nat.pow_succ]
    omega
theorem byN_tb {c : Nat → Nat} {f i : Nat} (hi : i < 8) : ∀ {n : Nat}, (∀ f, f < n → c f < 256) → (byN c n).testBit (f * 8 + i) = (decide (f < n) && (c f).testBit i)
  | 0, _ => by
    show (0 : Nat).testBit _ = _
    simp
  | n + 1, h => by
    have ih := byN_tb (f := f) hi (n := n) (fun f hf => h f (by omega))
    have hl := byN_lt (n := n) (fun f hf => h f (by omega))
    have h1 := h n (by omega)
    show (byN c n + c n * 256 ^ n).testBit _ = _
    have e8 : (256 : Nat) ^ n = 2 ^ (8 * n) := by rw [show (256 : Nat) = 2 ^ 8 from rfl, ← Nat.pow_mul]
    rw [e8] at hl ⊢
    rw [Nat.add_comm, Nat.mul_comm (c n), Nat.testBit_two_pow_mul_add _ hl]
    by_cases z : f < n
    · rw [if_pos (by omega), ih, decide_eq_true z, decide_eq_true (show f < n + 1 by omega)]
    · rw [if_neg (by omega)]
      by_cases y : f = n
      · subst y
        rw [show f * 8 + i - 8 * f = i by omega, decide_eq_true (show f < f + 1 by omega), Bool.true_and]
      · rw [decide_eq_false (show ¬ f < n + 1 by omega), Bool.false_and]
        refine Nat.testBit_lt_two_pow (Nat.lt_of_lt_of_le h1 ?_)
        exact (Nat.pow_le_pow_right (n := 2) (i := 8) (j := f * 8 + i - 8 * n) (by decide) (by omega))
theorem by_ext {a b : Nat} (h : ∀ f i, i < 8 → a.testBit (f * 8 + i) = b.testBit (f * 8 + i)) : a = b := by
  apply Nat.eq_of_testBit_eq
  intro k
  have := h (k / 8) (k % 8) (Nat.mod_lt _ (by decide))
  rwa [Nat.div_add_mod' k 8] at this
theorem byN_and {c d : Nat → Nat} {n : Nat} (hc : ∀ f, f < n → c f < 256) (hd : ∀ f, f < n → d f < 256) : byN c n &&& byN d n = byN (fun f => c f &&& d f) n := by
  apply by_ext
  intro f i hi
  rw [Nat.testBit_and, byN_tb hi hc, byN_tb hi hd, byN_tb hi (fun f hf => Nat.lt_of_le_of_lt Nat.and_le_left (hc f hf)), Nat.testBit_and]
  cases decide (f < n) <;> simp
theorem byN_or {c d : Nat → Nat} {n : Nat} (hc : ∀ f, f < n → c f < 256) (hd : ∀ f, f < n → d f < 256) : byN c n ||| byN d n = byN (fun f => c f ||| d f) n := by
  apply by_ext
  intro f i hi
  rw [Nat.testBit_or, byN_tb hi hc, byN_tb hi hd, byN_tb hi (fun f hf => Nat.or_lt_two_pow (n := 8) (hc f hf) (hd f hf)), Nat.testBit_or]
  cases decide (f < n) <;> simp
theorem byN_add {c d : Nat → Nat} : ∀ {n : Nat}, byN c n + byN d n = byN (fun f => c f + d f) n
  | 0 => rfl
  | n + 1 => by
    have ih := byN_add (c := c) (d := d) (n := n)
    show byN c n + c n * 256 ^ n + (byN d n + d n * 256 ^ n) = byN (fun f => c f + d f) n + (c n + d n) * 256 ^ n
    rw [← ih, Nat.add_mul]
    omega
theorem byN_mul {c : Nat → Nat} {m : Nat} : ∀ {n : Nat}, byN c n * m = byN (fun f => c f * m) n
  | 0 => Nat.zero_mul _
  | n + 1 => by
    have ih := byN_mul (c := c) (m := m) (n := n)
    show (byN c n + c n * 256 ^ n) * m = byN (fun f => c f * m) n + c n * m * 256 ^ n
    rw [← ih, Nat.add_mul, Nat.mul_assoc, Nat.mul_comm (256 ^ n), ← Nat.mul_assoc]
theorem byN_c {c d : Nat → Nat} : ∀ {n : Nat}, (∀ f, f < n → c f = d f) → byN c n = byN d n
  | 0, _ => rfl
  | n + 1, h => by
    show byN c n + c n * 256 ^ n = byN d n + d n * 256 ^ n
    rw [byN_c (fun f hf => h f (by omega)), h n (by omega)]
theorem byN_0 {c : Nat → Nat} : ∀ {n : Nat}, byN c n = 0 ↔ ∀ f, f < n → c f = 0
  | 0 => ⟨fun _ f hf => absurd hf (Nat.not_lt_zero _), fun _ => rfl⟩
  | n + 1 => by
    have ih := byN_0 (c := c) (n := n)
    have hp : 0 < 256 ^ n := Nat.pow_pos (by decide)
    show byN c n + c n * 256 ^ n = 0 ↔ _
    constructor
    · intro h f hf
      have h1 : byN c n = 0 := by omega
      have h2 : c n * 256 ^ n = 0 := by omega
      by_cases z : f = n
      · subst z
        rcases Nat.mul_eq_zero.mp h2 with h3 | h3
        · exact h3
        · omega
      · exact ih.mp h1 f (by omega)
    · intro h
      rw [ih.mpr (fun f hf => h f (by omega)), h n (by omega)]
      simp
/-- the first ones: a byte that isn't 0 gives its lowest bit -/
theorem by_firsts {c : Nat → Nat} (hc : ∀ f, f < 7 → c f < 128) : (byN c 7 + 35887507618889599) / 2 ^ 7 &&& 282578800148737 = byN (fun f => if c f = 0 then 0 else 1) 7 := by
  have e1 : (35887507618889599 : Nat) = byN (fun _ => 127) 7 := by decide
  have e2 : (282578800148737 : Nat) = byN (fun _ => 1) 7 := by decide
  rw [e1, e2, byN_add]
  apply by_ext
  intro f i hi
  have hs : ∀ f, f < 7 → c f + 127 < 256 := fun f hf => by have := hc f hf; omega
  rw [Nat.testBit_and, byN_tb hi (fun _ _ => by decide), byN_tb hi (fun f hf => by split <;> decide), Nat.testBit_div_two_pow]
  by_cases hf : f < 7
  · rw [decide_eq_true hf, Bool.true_and, Bool.true_and]
    by_cases h0 : i = 0
    · subst h0
      rw [show f * 8 + 0 + 7 = f * 8 + 7 from rfl, byN_tb (by decide) hs, decide_eq_true hf, Bool.true_and]
      have h1 := hc f hf
      by_cases hz : c f = 0
      · rw [if_pos hz, hz]
        decide
      · rw [if_neg hz]
        have : (c f + 127).testBit 7 = true := by
          rw [Nat.testBit_eq_decide_div_mod_eq]
          have h2 : (c f + 127) / 2 ^ 7 = 1 := by omega
          rw [h2]
          decide
        rw [this]
        decide
    · have h1 : (1 : Nat).testBit i = false := by
        rw [show (1 : Nat) = 2 ^ 0 from rfl, Nat.testBit_two_pow]
        exact decide_eq_false (fun z => h0 z.symm)
      rw [h1, Bool.and_false]
      split
      · simp
      · exact h1.symm
  · rw [decide_eq_false hf]
    simp

