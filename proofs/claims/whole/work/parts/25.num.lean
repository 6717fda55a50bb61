/-! ===== plain facts on numbers ===== -/
theorem nu_or (x y : Nat) : nI x ||| nI y = nI (x ||| y) := by
  apply Int32.toBitVec_inj.mp
  show BitVec.ofNat 32 x ||| BitVec.ofNat 32 y = BitVec.ofNat 32 (x ||| y)
  apply BitVec.eq_of_getLsbD_eq
  intro j hj
  simp [BitVec.getLsbD_ofNat, Nat.testBit_or, hj]
theorem nu_and (x y : Nat) : nI x &&& nI y = nI (x &&& y) := by
  apply Int32.toBitVec_inj.mp
  show BitVec.ofNat 32 x &&& BitVec.ofNat 32 y = BitVec.ofNat 32 (x &&& y)
  apply BitVec.eq_of_getLsbD_eq
  intro j hj
  simp [BitVec.getLsbD_ofNat, Nat.testBit_and, hj]
theorem nu_xor (x y : Nat) : nI x ^^^ nI y = nI (x ^^^ y) := by
  apply Int32.toBitVec_inj.mp
  show BitVec.ofNat 32 x ^^^ BitVec.ofNat 32 y = BitVec.ofNat 32 (x ^^^ y)
  apply BitVec.eq_of_getLsbD_eq
  intro j hj
  simp [BitVec.getLsbD_ofNat, Nat.testBit_xor, hj]
theorem nu_sm : ∀ k, k < 32 → ((nI k &&& 31).toBitVec.smod 32).toNat = k := by decide +kernel
theorem nu_us : ∀ k, k < 32 → (((nI k).toUInt32 &&& Int32.toUInt32 31).toBitVec % 32).toNat = k := by decide +kernel
theorem nu_shl {x k : Nat} (hk : k < 32) (h : x * 2 ^ k < 2 ^ 32) : nI x <<< (nI k &&& 31) = nI (x * 2 ^ k) := pk_shlN _ k (nu_sm k hk) h
theorem nu_shr {x k : Nat} (hk : k < 32) (h : x < 2 ^ 31) : nI x >>> (nI k &&& 31) = nI (x / 2 ^ k) := pk_shrN h _ k (nu_sm k hk)
theorem nu_ushr {x k : Nat} (hk : k < 32) (h : x < 2 ^ 32) : ((nI x).toUInt32 >>> ((nI k).toUInt32 &&& Int32.toUInt32 31)).toInt32 = nI (x / 2 ^ k) := pk_ushrN h _ k (nu_us k hk)
theorem nu_one (x : Nat) : nI x &&& nI 1 = nI (x % 2) := by rw [nu_and, Nat.and_one_is_mod]
theorem nu_tb (x k : Nat) : (x / 2 ^ k % 2 = 1) ↔ x.testBit k = true := by rw [Nat.testBit_eq_decide_div_mod_eq]; simp
