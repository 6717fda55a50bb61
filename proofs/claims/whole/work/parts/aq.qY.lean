/-! ===== bits of a long counted ===== -/
theorem by_shm {c : Nat → Nat} {s m n : Nat} (hs : s < 8) (hc : ∀ f, f < n → c f < 256) (hm : m < 2 ^ (8 - s)) : byN c n / 2 ^ s &&& byN (fun _ => m) n = byN (fun f => c f / 2 ^ s &&& m) n := by
  have hm8 : m < 256 := Nat.lt_of_lt_of_le hm (Nat.pow_le_pow_right (n := 2) (i := 8 - s) (j := 8) (by decide) (by omega))
  apply by_ext
  intro f i hi
  rw [Nat.testBit_and, Nat.testBit_div_two_pow, byN_tb hi (fun _ _ => hm8), byN_tb hi (fun f _ => Nat.lt_of_le_of_lt Nat.and_le_right hm8), Nat.testBit_and, Nat.testBit_div_two_pow]
  by_cases h : i + s < 8
  · rw [show f * 8 + i + s = f * 8 + (i + s) by omega, byN_tb h hc]
    cases decide (f < n) <;> cases (c f).testBit (i + s) <;> cases m.testBit i <;> rfl
  · have : m.testBit i = false := Nat.testBit_lt_two_pow (Nat.lt_of_lt_of_le hm (Nat.pow_le_pow_right (by decide) (by omega)))
    rw [this, Bool.and_false, Bool.and_false, Bool.and_false, Bool.and_false]
theorem by_sub {c d : Nat → Nat} {n : Nat} (h : ∀ f, f < n → d f ≤ c f) : byN c n - byN d n = byN (fun f => c f - d f) n ∧ byN d n ≤ byN c n := by
  have e : byN (fun f => c f - d f) n + byN d n = byN c n := by
    rw [byN_add]
    exact byN_c (fun f hf => Nat.sub_add_cancel (h f hf))
  omega
theorem lN_sb {a b : Nat} (h : b ≤ a) : lN a - lN b = lN (a - b) := by
  have e : lN (a - b) + lN b = lN a := by rw [lN_add, Nat.sub_add_cancel h]
  rw [← e, Int64.add_sub_cancel]
theorem bc_byte : ∀ b, b < 128 → b / 2 &&& 85 ≤ b ∧ (b - (b / 2 &&& 85) &&& 51) + ((b - (b / 2 &&& 85)) / 4 &&& 51) ≤ 68 ∧ ((b - (b / 2 &&& 85) &&& 51) + ((b - (b / 2 &&& 85)) / 4 &&& 51)) % 16 + ((b - (b / 2 &&& 85) &&& 51) + ((b - (b / 2 &&& 85)) / 4 &&& 51)) / 16 = pop b 8 ∧ ((b - (b / 2 &&& 85) &&& 51) + ((b - (b / 2 &&& 85)) / 4 &&& 51)) % 16 ≤ 4 ∧ ((b - (b / 2 &&& 85) &&& 51) + ((b - (b / 2 &&& 85)) / 4 &&& 51)) / 16 ≤ 4 := by decide +kernel
theorem by8 (c : Nat → Nat) : byN c 8 = c 0 + c 1 * 256 + c 2 * 65536 + c 3 * 16777216 + c 4 * 4294967296 + c 5 * 1099511627776 + c 6 * 281474976710656 + c 7 * 72057594037927936 := by
  show 0 + c 0 * 256 ^ 0 + c 1 * 256 ^ 1 + c 2 * 256 ^ 2 + c 3 * 256 ^ 3 + c 4 * 256 ^ 4 + c 5 * 256 ^ 5 + c 6 * 256 ^ 6 + c 7 * 256 ^ 7 = _
  omega
theorem by_nib {e : Nat → Nat} (hl : ∀ f, f < 8 → e f % 16 ≤ 4) (hh : ∀ f, f < 8 → e f / 16 ≤ 4) : (byN e 8 + byN e 8 / 16) &&& byN (fun _ => 15) 8 = byN (fun f => e f % 16 + e f / 16) 8 := by
  have e1 : byN e 8 + byN e 8 / 16 = byN (fun f => (e f % 16 + e f / 16) + 16 * (e f / 16 + (if f = 7 then 0 else e (f + 1) % 16))) 8 := by
    have hX : byN e 8 = (e 0 % 16 + 16 * (e 0 / 16)) + (e 1 % 16 + 16 * (e 1 / 16)) * 256 + (e 2 % 16 + 16 * (e 2 / 16)) * 65536 + (e 3 % 16 + 16 * (e 3 / 16)) * 16777216 + (e 4 % 16 + 16 * (e 4 / 16)) * 4294967296 + (e 5 % 16 + 16 * (e 5 / 16)) * 1099511627776 + (e 6 % 16 + 16 * (e 6 / 16)) * 281474976710656 + (e 7 % 16 + 16 * (e 7 / 16)) * 72057594037927936 := by
      rw [by8, Nat.mod_add_div, Nat.mod_add_div, Nat.mod_add_div, Nat.mod_add_div, Nat.mod_add_div, Nat.mod_add_div, Nat.mod_add_div, Nat.mod_add_div]
    rw [hX, by8]
    rw [if_neg (by decide), if_neg (by decide), if_neg (by decide), if_neg (by decide), if_neg (by decide), if_neg (by decide), if_neg (by decide), if_pos rfl]
    have a0 := hl 0 (by decide); have a1 := hl 1 (by decide); have a2 := hl 2 (by decide); have a3 := hl 3 (by decide)
    have a4 := hl 4 (by decide); have a5 := hl 5 (by decide); have a6 := hl 6 (by decide); have a7 := hl 7 (by decide)
    clear hX hl hh
    generalize e 0 % 16 = l0 at *; generalize e 0 / 16 = h0 at *
    generalize e 1 % 16 = l1 at *; generalize e 1 / 16 = h1 at *
    generalize e 2 % 16 = l2 at *; generalize e 2 / 16 = h2 at *
    generalize e 3 % 16 = l3 at *; generalize e 3 / 16 = h3 at *
    generalize e 4 % 16 = l4 at *; generalize e 4 / 16 = h4 at *
    generalize e 5 % 16 = l5 at *; generalize e 5 / 16 = h5 at *
    generalize e 6 % 16 = l6 at *; generalize e 6 / 16 = h6 at *
    generalize e 7 % 16 = l7 at *; generalize e 7 / 16 = h7 at *
    have d : ((l0 + 16 * h0) + (l1 + 16 * h1) * 256 + (l2 + 16 * h2) * 65536 + (l3 + 16 * h3) * 16777216 + (l4 + 16 * h4) * 4294967296 + (l5 + 16 * h5) * 1099511627776 + (l6 + 16 * h6) * 281474976710656 + (l7 + 16 * h7) * 72057594037927936) / 16 = h0 + l1 * 16 + h1 * 256 + l2 * 4096 + h2 * 65536 + l3 * 1048576 + h3 * 16777216 + l4 * 268435456 + h4 * 4294967296 + l5 * 68719476736 + h5 * 1099511627776 + l6 * 17592186044416 + h6 * 281474976710656 + l7 * 4503599627370496 + h7 * 72057594037927936 := by omega
    rw [d]
    omega
  have hb : ∀ f, f < 8 → (e f % 16 + e f / 16) + 16 * (e f / 16 + (if f = 7 then 0 else e (f + 1) % 16)) < 256 := by
    intro f hf
    have h1 := hl f hf
    have h2 := hh f hf
    by_cases z : f = 7
    · rw [if_pos z]; omega
    · rw [if_neg z]
      have h3 := hl (f + 1) (by omega)
      omega
  rw [e1, byN_and hb (fun _ _ => by decide)]
  refine byN_c (fun f hf => ?_)
  have h1 := hl f hf
  have h2 := hh f hf
  rw [show (15 : Nat) = 2 ^ 4 - 1 by decide, Nat.and_two_pow_sub_one_eq_mod]
  omega
theorem by_sum {q : Nat → Nat} (hq : ∀ f, f < 8 → q f ≤ 8) : (byN q 8 + byN q 8 / 256 + (byN q 8 + byN q 8 / 256) / 65536 + (byN q 8 + byN q 8 / 256 + (byN q 8 + byN q 8 / 256) / 65536) / 4294967296) % 128 = q 0 + q 1 + q 2 + q 3 + q 4 + q 5 + q 6 + q 7 := by
  rw [by8]
  have a0 := hq 0 (by decide); have a1 := hq 1 (by decide); have a2 := hq 2 (by decide); have a3 := hq 3 (by decide)
  have a4 := hq 4 (by decide); have a5 := hq 5 (by decide); have a6 := hq 6 (by decide); have a7 := hq 7 (by decide)
  generalize q 0 = b0 at *; generalize q 1 = b1 at *; generalize q 2 = b2 at *; generalize q 3 = b3 at *
  generalize q 4 = b4 at *; generalize q 5 = b5 at *; generalize q 6 = b6 at *; generalize q 7 = b7 at *
  have d1 : (b0 + b1 * 256 + b2 * 65536 + b3 * 16777216 + b4 * 4294967296 + b5 * 1099511627776 + b6 * 281474976710656 + b7 * 72057594037927936) / 256 = b1 + b2 * 256 + b3 * 65536 + b4 * 16777216 + b5 * 4294967296 + b6 * 1099511627776 + b7 * 281474976710656 := by omega
  rw [d1]
  have d2 : (b0 + b1 * 256 + b2 * 65536 + b3 * 16777216 + b4 * 4294967296 + b5 * 1099511627776 + b6 * 281474976710656 + b7 * 72057594037927936 + (b1 + b2 * 256 + b3 * 65536 + b4 * 16777216 + b5 * 4294967296 + b6 * 1099511627776 + b7 * 281474976710656)) / 65536 = (b2 + b3) + (b3 + b4) * 256 + (b4 + b5) * 65536 + (b5 + b6) * 16777216 + (b6 + b7) * 4294967296 + b7 * 1099511627776 := by omega
  rw [d2]
  have d3 : (b0 + b1 * 256 + b2 * 65536 + b3 * 16777216 + b4 * 4294967296 + b5 * 1099511627776 + b6 * 281474976710656 + b7 * 72057594037927936 + (b1 + b2 * 256 + b3 * 65536 + b4 * 16777216 + b5 * 4294967296 + b6 * 1099511627776 + b7 * 281474976710656) + ((b2 + b3) + (b3 + b4) * 256 + (b4 + b5) * 65536 + (b5 + b6) * 16777216 + (b6 + b7) * 4294967296 + b7 * 1099511627776)) / 4294967296 = (b4 + b5 + b6 + b7) + (b5 + b6 + b7) * 256 + (b6 + b7) * 65536 + b7 * 16777216 := by omega
  rw [d3]
  omega

