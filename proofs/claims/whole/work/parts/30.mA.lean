/-! ===== the reference: helpers ===== -/
abbrev hM (S : ms_S) (tl : ab_H) : ab_H := ms_h S 0 lM ++ tl
/-- set bits below k -/
def pop (b : Nat) : Nat → Nat
  | 0 => 0
  | k + 1 => pop b k + b / 2 ^ k % 2
def heldN (f : Nat → Int32) (x : Int32) : Nat → Nat
  | 0 => 0
  | i + 1 => heldN f x i ||| (if f i = x then 2 ^ i else 0)
theorem heldN_lt (f : Nat → Int32) (x : Int32) : ∀ n, heldN f x n < 2 ^ n
  | 0 => by simp [heldN]
  | n + 1 => by
    have h1 := heldN_lt f x n
    unfold heldN
    apply Nat.or_lt_two_pow
    · have := Nat.pow_lt_pow_right (show 1 < 2 by omega) (show n < n + 1 by omega)
      omega
    · split
      · exact Nat.pow_lt_pow_right (by omega) (by omega)
      · exact Nat.two_pow_pos _
theorem nu_bit {x k : Nat} (hk : k < 32) (h : x < 2 ^ 31) : (nI x >>> (nI k &&& 31)) &&& nI 1 = nI (x / 2 ^ k % 2) := by rw [nu_shr hk h, nu_one]
set_option maxRecDepth 100000 in
set_option maxHeartbeats 4000000 in
theorem c_isIn (G : ab_G) (fr : Bool) (x lo hi : Int32) (h : ab_H) : ab_CT G 1 M_X12_isIn fr [.int x, .int lo, .int hi] h 0 0 (fun r h' => r = some (.int (if ¬ x < lo ∧ ¬ hi < x then nI 1 else nI 0)) ∧ h' = h) := by
  refine wp_ct o_X12_isIn (Nat.le_of_ble_eq_true rfl) ?_
  repeat refine wq_s rfl ?_
  refine wp_ite (fun hq => ?_) (fun hq => ?_)
  · repeat refine wq_s rfl ?_
    exact wp_ri rfl rfl rfl ⟨by rw [if_neg (fun z => z.1 hq)], rfl⟩
  · repeat refine wq_s rfl ?_
    refine wp_ite (fun hq2 => ?_) (fun hq2 => ?_)
    · repeat refine wq_s rfl ?_
      exact wp_ri rfl rfl rfl ⟨by rw [if_neg (fun z => z.2 hq2)], rfl⟩
    · repeat refine wq_s rfl ?_
      exact wp_ri rfl rfl rfl ⟨by rw [if_pos ⟨hq, hq2⟩], rfl⟩
set_option maxRecDepth 100000 in
set_option maxHeartbeats 4000000 in
theorem c_isOf (G : ab_G) (fr : Bool) (x k : Int32) (h : ab_H) : ab_CT G 1 M_X12_isOf fr [.int x, .int k] h 0 0 (fun r h' => r = some (.int (if (x >>> (k &&& 31)) &&& nI 1 = nI 1 then nI 1 else nI 0)) ∧ h' = h) := by
  refine wp_ct o_X12_isOf (Nat.le_of_ble_eq_true rfl) ?_
  repeat refine wq_s rfl ?_
  refine wp_ite (fun hq => ?_) (fun hq => ?_)
  · repeat refine wq_s rfl ?_
    exact wp_ri rfl rfl rfl ⟨by rw [if_pos hq], rfl⟩
  · repeat refine wq_s rfl ?_
    exact wp_ri rfl rfl rfl ⟨by rw [if_neg hq], rfl⟩
set_option maxRecDepth 100000 in
set_option maxHeartbeats 4000000 in
theorem c_isEnd (G : ab_G) (fr : Bool) (x : Int32) (h : ab_H) : ab_CT G 1 M_X12_isEnd fr [.int x] h 0 0 (fun r h' => r = some (.int (if ¬ x < 0 ∧ ¬ nI 6 < x then nI 1 else nI 0)) ∧ h' = h) := by
  refine wp_ct o_X12_isEnd (Nat.le_of_ble_eq_true rfl) ?_
  repeat refine wq_s rfl ?_
  refine wp_ite (fun hq => ?_) (fun hq => ?_)
  · repeat refine wq_s rfl ?_
    exact wp_ri rfl rfl rfl ⟨by rw [if_neg (fun z => z.1 hq)], rfl⟩
  · repeat refine wq_s rfl ?_
    refine wp_ite (fun hq2 => ?_) (fun hq2 => ?_)
    · repeat refine wq_s rfl ?_
      exact wp_ri rfl rfl rfl ⟨by rw [if_neg (fun z => z.2 hq2)], rfl⟩
    · repeat refine wq_s rfl ?_
      exact wp_ri rfl rfl rfl ⟨by rw [if_pos ⟨hq, hq2⟩], rfl⟩
set_option maxRecDepth 100000 in
set_option maxHeartbeats 4000000 in
theorem c_apartOf (G : ab_G) (fr : Bool) (x y : Int32) (h : ab_H) : ab_CT G 1 M_X12_apartOf fr [.int x, .int y] h 0 0 (fun r h' => r = some (.int (if x ≤ y then y - x else x - y)) ∧ h' = h) := by
  refine wp_ct o_X12_apartOf (Nat.le_of_ble_eq_true rfl) ?_
  repeat refine wq_s rfl ?_
  refine wp_ite (fun hq => ?_) (fun hq => ?_)
  · repeat refine wq_s rfl ?_
    exact wp_ri rfl rfl rfl ⟨by rw [if_pos hq], rfl⟩
  · repeat refine wq_s rfl ?_
    exact wp_ri rfl rfl rfl ⟨by rw [if_neg hq], rfl⟩
set_option maxRecDepth 100000 in
set_option maxHeartbeats 4000000 in
theorem c_isPiece (G : ab_G) (fr : Bool) (S : ms_S) (tl : ab_H) (x : Int32) : ab_CT G 1 M_X12_isPiece fr [.ref 0, .int x] (hM S tl) 0 0 (fun r h' => r = some (.int (if ¬ x < 0 ∧ ¬ m_pieces S ≤ x then nI 1 else nI 0)) ∧ h' = hM S tl) := by
  refine wp_ct o_X12_isPiece (Nat.le_of_ble_eq_true rfl) ?_
  repeat refine ws_s rfl ?_
  refine wp_ite (fun hq => ?_) (fun hq => ?_)
  · repeat refine ws_s rfl ?_
    exact wp_ri rfl rfl rfl ⟨by rw [if_neg (fun z => z.1 hq)], rfl⟩
  · repeat refine ws_s rfl ?_
    refine wp_ite (fun hq2 => ?_) (fun hq2 => ?_)
    · repeat refine ws_s rfl ?_
      exact wp_ri rfl rfl rfl ⟨by rw [if_neg (fun z => z.2 hq2)], rfl⟩
    · repeat refine ws_s rfl ?_
      exact wp_ri rfl rfl rfl ⟨by rw [if_pos ⟨hq, hq2⟩], rfl⟩
set_option maxRecDepth 100000 in
set_option maxHeartbeats 4000000 in
theorem c_isHeir (G : ab_G) (fr : Bool) (S : ms_S) (tl : ab_H) (x : Int32) : ab_CT G 1 M_X12_isHeir fr [.ref 0, .int x] (hM S tl) 0 0 (fun r h' => r = some (.int (if ¬ x < 0 ∧ ¬ m_heirs S ≤ x then nI 1 else nI 0)) ∧ h' = hM S tl) := by
  refine wp_ct o_X12_isHeir (Nat.le_of_ble_eq_true rfl) ?_
  repeat refine ws_s rfl ?_
  refine wp_ite (fun hq => ?_) (fun hq => ?_)
  · repeat refine ws_s rfl ?_
    exact wp_ri rfl rfl rfl ⟨by rw [if_neg (fun z => z.1 hq)], rfl⟩
  · repeat refine ws_s rfl ?_
    refine wp_ite (fun hq2 => ?_) (fun hq2 => ?_)
    · repeat refine ws_s rfl ?_
      exact wp_ri rfl rfl rfl ⟨by rw [if_neg (fun z => z.2 hq2)], rfl⟩
    · repeat refine ws_s rfl ?_
      exact wp_ri rfl rfl rfl ⟨by rw [if_pos ⟨hq, hq2⟩], rfl⟩
set_option maxRecDepth 100000 in
set_option maxHeartbeats 4000000 in
theorem c_manyOf (G : ab_G) (fr : Bool) (b9 : Nat) (h : ab_H) (hb : b9 < 2 ^ 31) : ab_CT G 1 M_X12_manyOf fr [.int (nI b9)] h 0 0 (fun r h' => r = some (.int (nI (pop b9 9))) ∧ h' = h) := by
  refine wp_ct o_X12_manyOf (Nat.le_of_ble_eq_true rfl) ?_
  iterate 4 refine wq_s rfl ?_
  refine wp_down 9 (fun i => [some (.int (nI b9)), some (.int (nI (pop b9 i))), some (.int (nI i))]) (fun _ => h) ?_ (fun i hi k => ?_)
  · repeat refine wq_s rfl ?_
    exact wp_ri rfl rfl rfl ⟨rfl, rfl⟩
  · repeat refine wq_s rfl ?_
    refine wp_ite (fun hq => absurd hq (nI_ge hi (by decide))) (fun hq => ?_)
    repeat refine wq_s rfl ?_
    refine wq_b rfl ?_
    exact wp_eqL (by simp only [pop, ← nI_add]; rw [← nu_bit (show i < 32 by omega) hb]; rfl) k
set_option maxRecDepth 100000 in
set_option maxHeartbeats 4000000 in
theorem c_heldBy (G : ab_G) (fr : Bool) (S : ms_S) (tl : ab_H) (bb n : Nat) (x : Int32) (hbb : bb < 2) (hn : n ≤ 9) (hp : m_pieces S = nI n) : ab_CT G 1 M_X12_heldBy fr [.ref 0, .int (nI bb), .int x] (hM S tl) 0 0 (fun r h' => r = some (.int (nI (heldN (fun p => a_holder S (9 * bb + p)) x n))) ∧ h' = hM S tl) := by
  refine wp_ct o_X12_heldBy (Nat.le_of_ble_eq_true rfl) ?_
  iterate 4 refine ws_s rfl ?_
  refine wp_down n (fun i => [some (.ref 0), some (.int (nI bb)), some (.int x), some (.int (nI (heldN (fun p => a_holder S (9 * bb + p)) x i))), some (.int (nI i))]) (fun _ => hM S tl) ?_ (fun i hi k => ?_)
  · repeat refine ws_s rfl ?_
    refine wp_ite (fun hq => ?_) (fun hq => absurd (by show m_pieces S ≤ nI n; rw [hp]; exact nI_le (Nat.le_refl _) (by omega)) hq)
    repeat refine ws_s rfl ?_
    exact wp_ri rfl rfl rfl ⟨rfl, rfl⟩
  · repeat refine ws_s rfl ?_
    refine wp_ite (fun hq => absurd hq (by show ¬ m_pieces S ≤ nI i; rw [hp]; exact nI_ge (by omega) (by omega))) (fun hq => ?_)
    repeat refine ws_s rfl ?_
    have e1 : nI 9 * nI bb + nI i = nI (9 * bb + i) := by rw [pk_mul, nI_add]
    refine ws_g rfl (by show vp_in (nI 9 * nI bb + nI i) 18; rw [e1]; exact vp_in_nI (by omega) (by omega)) ?_
    repeat refine ws_s rfl ?_
    have e2 : a_holder S (nI 9 * nI bb + nI i).toNatClampNeg = a_holder S (9 * bb + i) := by rw [e1, nI_clamp (by omega)]
    refine wp_ite (fun hq2 => ?_) (fun hq2 => ?_)
    · repeat refine ws_s rfl ?_
      refine ws_b rfl ?_
      exact wp_eqL (by simp only [heldN, ← nu_or, ← nI_add]; rw [if_pos (e2.symm.trans hq2), ← Nat.one_mul (2 ^ i), ← nu_shl (show i < 32 by omega) (by have := Nat.pow_le_pow_right (n := 2) (by omega) (show i ≤ 9 by omega); omega)]; rfl) k
    · repeat refine ws_s rfl ?_
      refine ws_b rfl ?_
      exact wp_eqL (by simp only [heldN, ← nu_or, ← nI_add]; rw [if_neg (fun z => hq2 (e2.trans z))]; rfl) k
