/-! ===== subsets in their order ===== -/
def qkN (set r : Nat) : Nat → Nat
  | 0 => 0
  | j + 1 => qkN set r j + (if set.testBit j && r.testBit j then 2 ^ pop set j else 0)
abbrev qk (set r : Nat) : Nat := qkN set r 9
def nxN (set part : Nat) : Nat := (part + 4294967296 - set) &&& set
def pvN (set part : Nat) : Nat := (part - 1) &&& set
theorem sb_t : ∀ r, r < 512 → ∀ p, p < 9 → r.testBit p = true → ∀ j, j < 9 → (r - 2 ^ p).testBit j = (r.testBit j && !decide (j = p)) := by decide +kernel
theorem qkN_lt (set r : Nat) : ∀ n, qkN set r n < 2 ^ pop set n
  | 0 => by show 0 < 1; decide
  | n + 1 => by
    have ih := qkN_lt set r n
    show qkN set r n + (if set.testBit n && r.testBit n then 2 ^ pop set n else 0) < 2 ^ pop set (n + 1)
    rw [pop_s]
    by_cases h : set.testBit n = true
    · rw [h, if_pos rfl, Nat.pow_succ]
      split <;> omega
    · have h : set.testBit n = false := by simpa using h
      rw [h, Bool.false_and, if_neg (by decide), if_neg (by decide)]
      exact ih
theorem qk_512 (set r : Nat) : qk set r < 512 := Nat.lt_of_lt_of_le (qkN_lt set r 9) (Nat.pow_le_pow_right (n := 2) (i := pop set 9) (j := 9) (by decide) (pop_le set 9))
theorem qkN_0 (set : Nat) : ∀ n, qkN set 0 n = 0
  | 0 => rfl
  | n + 1 => by
    show qkN set 0 n + _ = 0
    rw [qkN_0 set n, Nat.zero_testBit, Bool.and_false]
    rfl
theorem qkN_c {s r q : Nat} : ∀ {n : Nat}, (∀ j, j < n → r.testBit j = q.testBit j) → qkN s r n = qkN s q n
  | 0, _ => rfl
  | n + 1, h => by
    show qkN s r n + (if s.testBit n && r.testBit n then 2 ^ pop s n else 0) = qkN s q n + (if s.testBit n && q.testBit n then 2 ^ pop s n else 0)
    rw [qkN_c (fun j hj => h j (by omega)), h n (by omega)]
theorem qkN_s (s r n : Nat) : qkN s r (n + 1) = qkN s r n + (if s.testBit n && r.testBit n then 2 ^ pop s n else 0) := rfl
theorem md_s (x n : Nat) : x % 2 ^ (n + 1) = x % 2 ^ n + 2 ^ n * (if x.testBit n = true then 1 else 0) := by
  have h1 : x % 2 ^ n < 2 ^ n := Nat.mod_lt _ (Nat.two_pow_pos n)
  apply Nat.eq_of_testBit_eq
  intro j
  rw [Nat.add_comm (x % 2 ^ n), Nat.testBit_two_pow_mul_add _ h1, Nat.testBit_mod_two_pow, Nat.testBit_mod_two_pow]
  by_cases hj : j < n
  · rw [if_pos hj, decide_eq_true hj, decide_eq_true (show j < n + 1 by omega)]
  · rw [if_neg hj]
    by_cases he : j = n
    · subst he
      rw [decide_eq_true (show j < j + 1 by omega), Nat.sub_self, Bool.true_and]
      cases x.testBit j <;> rfl
    · rw [decide_eq_false (show ¬ j < n + 1 by omega), Bool.false_and]
      symm
      refine Nat.testBit_lt_two_pow (Nat.lt_of_lt_of_le (show (if x.testBit n = true then 1 else 0) < 2 by split <;> decide) ?_)
      exact (Nat.pow_le_pow_right (n := 2) (i := 1) (j := j - n) (by decide) (by omega))
theorem qk_full (s : Nat) : ∀ n, qkN s s n + 1 = 2 ^ pop s n
  | 0 => rfl
  | n + 1 => by
    have ih := qk_full s n
    rw [qkN_s, pop_s]
    cases h : s.testBit n with
    | true =>
      rw [show (true && true) = true from rfl, if_pos rfl, if_pos rfl, Nat.pow_succ]
      omega
    | false =>
      rw [show (false && false) = false from rfl, if_neg (by decide), if_neg (by decide)]
      exact ih
theorem md_tb {x n j : Nat} (hj : j < n) : (x % 2 ^ n).testBit j = x.testBit j := by rw [Nat.testBit_mod_two_pow, decide_eq_true hj, Bool.true_and]
theorem md_le {s r : Nat} (h : r &&& s = r) (n : Nat) : r % 2 ^ n ≤ s % 2 ^ n := by
  have e : r % 2 ^ n &&& s % 2 ^ n = r % 2 ^ n := by
    apply Nat.eq_of_testBit_eq
    intro j
    rw [Nat.testBit_and, Nat.testBit_mod_two_pow, Nat.testBit_mod_two_pow]
    cases hr : r.testBit j with
    | false => simp
    | true => rw [sb_tb h hr]; simp
  rw [← e]
  exact Nat.and_le_right
theorem qk_A {s r : Nat} (h : r &&& s = r) : ∀ n, ¬ r % 2 ^ n = s % 2 ^ n → qkN s ((r % 2 ^ n + 2 ^ n - s % 2 ^ n) &&& s) n = qkN s r n + 1
  | 0, hn => absurd (by rw [Nat.pow_zero, Nat.mod_one, Nat.mod_one]) hn
  | n + 1, hn => by
    have hle := md_le h n
    have hs := Nat.mod_lt s (Nat.two_pow_pos n)
    rw [md_s r n, md_s s n] at hn ⊢
    have hcb : r.testBit n = true → s.testBit n = true := fun z => sb_tb h z
    by_cases z : r % 2 ^ n = s % 2 ^ n
    · -- the bits below are full: bit n comes
      have hb : s.testBit n = true ∧ r.testBit n = false := by
        cases hr : r.testBit n with
        | true =>
          rw [hr, hcb hr, z] at hn
          exact absurd rfl hn
        | false =>
          cases hs2 : s.testBit n with
          | true => exact ⟨rfl, rfl⟩
          | false =>
            rw [hr, hs2, z] at hn
            exact absurd rfl hn
      rw [hb.1, hb.2, z, if_neg (by decide), if_pos rfl, Nat.mul_zero, Nat.mul_one, Nat.pow_succ, show s % 2 ^ n + 0 + 2 ^ n * 2 - (s % 2 ^ n + 2 ^ n) = 2 ^ n by omega, qkN_s, qkN_s, hb.1, hb.2, Nat.testBit_and, hb.1, Nat.testBit_two_pow, decide_eq_true rfl]
      have e1 : qkN s (2 ^ n &&& s) n = 0 := by
        rw [qkN_c (q := 0) (fun j hj => by rw [Nat.testBit_and, Nat.testBit_two_pow, decide_eq_false (by omega), Bool.false_and, Nat.zero_testBit])]
        exact qkN_0 s n
      have e2 : qkN s r n = qkN s s n := qkN_c (fun j hj => by rw [← md_tb hj, z, md_tb hj])
      have e3 := qk_full s n
      rw [e1, e2]
      simp only [Bool.and_self, if_true, Bool.and_false]
      rw [if_neg (by decide)]
      omega
    · have ih := qk_A h n z
      have hlt : r % 2 ^ n + 2 ^ n - s % 2 ^ n < 2 ^ n := by omega
      generalize hm : r % 2 ^ n + 2 ^ n - s % 2 ^ n = m at ih hlt
      have hk : ∃ k, (r % 2 ^ n + 2 ^ n * (if r.testBit n = true then 1 else 0)) + 2 ^ (n + 1) - (s % 2 ^ n + 2 ^ n * (if s.testBit n = true then 1 else 0)) = 2 ^ n * k + m ∧ (s.testBit n = true → (k.testBit 0 = r.testBit n)) := by
        rw [Nat.pow_succ]
        cases hr : r.testBit n with
        | true =>
          rw [hcb hr, if_pos rfl]
          exact ⟨1, by omega, fun _ => rfl⟩
        | false =>
          rw [if_neg (by decide)]
          cases hs2 : s.testBit n with
          | true =>
            rw [if_pos rfl]
            exact ⟨0, by omega, fun _ => rfl⟩
          | false =>
            rw [if_neg (by decide)]
            exact ⟨1, by omega, fun w => by cases w⟩
      obtain ⟨k, k1, k2⟩ := hk
      have eb : (2 ^ n * k + m).testBit n = k.testBit 0 := by rw [Nat.testBit_two_pow_mul_add _ hlt, if_neg (Nat.lt_irrefl n), Nat.sub_self]
      rw [k1, qkN_s, qkN_s, Nat.testBit_and, eb]
      have e1 : qkN s ((2 ^ n * k + m) &&& s) n = qkN s (m &&& s) n := qkN_c (fun j hj => by rw [Nat.testBit_and, Nat.testBit_and, Nat.testBit_two_pow_mul_add _ hlt, if_pos hj])
      rw [e1, ih]
      cases hs2 : s.testBit n with
      | true =>
        rw [k2 hs2, Bool.and_true]
        omega
      | false =>
        rw [Bool.false_and, Bool.false_and, if_neg (by decide)]
theorem qk_B {s r : Nat} (h : r &&& s = r) : ∀ n, ¬ r % 2 ^ n = 0 → qkN s ((r % 2 ^ n - 1) &&& s) n + 1 = qkN s r n
  | 0, hn => absurd (by rw [Nat.pow_zero, Nat.mod_one]) hn
  | n + 1, hn => by
    have hr2 := Nat.mod_lt r (Nat.two_pow_pos n)
    rw [md_s r n] at hn ⊢
    by_cases z : r % 2 ^ n = 0
    · have hb : r.testBit n = true := by
        cases hr : r.testBit n with
        | true => rfl
        | false =>
          rw [hr, z] at hn
          exact absurd rfl hn
      have hs2 := sb_tb h hb
      rw [hb, z, if_pos rfl, Nat.mul_one, Nat.zero_add, qkN_s, qkN_s, hs2, hb, Nat.testBit_and, hs2]
      have e0 : (2 ^ n - 1).testBit n = false := Nat.testBit_lt_two_pow (by have := Nat.two_pow_pos n; omega)
      have e1 : qkN s ((2 ^ n - 1) &&& s) n = qkN s s n := qkN_c (fun j hj => by rw [Nat.testBit_and, Nat.testBit_two_pow_sub_one, decide_eq_true hj, Bool.true_and])
      have e2 : qkN s r n = 0 := by
        rw [qkN_c (q := 0) (fun j hj => by rw [← md_tb hj, z])]
        exact qkN_0 s n
      have e3 := qk_full s n
      rw [e0, e1, e2]
      simp only [Bool.false_and, Bool.and_self, if_true, Bool.and_false]
      rw [if_neg (by decide)]
      omega
    · have ih := qk_B h n z
      have hlt : r % 2 ^ n - 1 < 2 ^ n := by omega
      generalize hm : r % 2 ^ n - 1 = m at ih hlt
      generalize hkk : (if r.testBit n = true then 1 else 0) = k
      have eb : (2 ^ n * k + m).testBit n = k.testBit 0 := by rw [Nat.testBit_two_pow_mul_add _ hlt, if_neg (Nat.lt_irrefl n), Nat.sub_self]
      rw [show r % 2 ^ n + 2 ^ n * k - 1 = 2 ^ n * k + m by omega, qkN_s, qkN_s, Nat.testBit_and, eb]
      have e1 : ∀ k, qkN s ((2 ^ n * k + m) &&& s) n = qkN s (m &&& s) n := fun k => qkN_c (fun j hj => by rw [Nat.testBit_and, Nat.testBit_and, Nat.testBit_two_pow_mul_add _ hlt, if_pos hj])
      rw [e1]
      cases hr : r.testBit n with
      | true =>
        rw [hr, if_pos rfl] at hkk
        rw [sb_tb h hr, ← hkk]
        simp
        omega
      | false =>
        rw [hr, if_neg (by decide)] at hkk
        rw [← hkk]
        simp
        exact ih
theorem md_9 {x : Nat} (h : x < 512) : x % 2 ^ 9 = x := Nat.mod_eq_of_lt h
theorem qk_nx {set r : Nat} (hs : set < 512) (hr : r &&& set = r) (hn : ¬ r = set) : qk set (nxN set r) = qk set r + 1 := by
  have hr5 : r < 512 := by rw [← hr]; exact Nat.lt_of_le_of_lt Nat.and_le_right hs
  have h := qk_A hr 9 (by rw [md_9 hr5, md_9 hs]; exact hn)
  rw [md_9 hr5, md_9 hs] at h
  have hle : r ≤ set := by rw [← hr]; exact Nat.and_le_right
  have hlt : r + 2 ^ 9 - set < 2 ^ 9 := by omega
  rw [← h]
  unfold nxN
  refine qkN_c (fun j hj => ?_)
  rw [Nat.testBit_and, Nat.testBit_and, show r + 4294967296 - set = 2 ^ 9 * 8388607 + (r + 2 ^ 9 - set) by omega, Nat.testBit_two_pow_mul_add _ hlt, if_pos hj]
theorem qk_pv {set r : Nat} (hs : set < 512) (hr : r &&& set = r) (hn : ¬ r = 0) : qk set (pvN set r) + 1 = qk set r := by
  have hr5 : r < 512 := by rw [← hr]; exact Nat.lt_of_le_of_lt Nat.and_le_right hs
  have h := qk_B hr 9 (by rw [md_9 hr5]; exact hn)
  rw [md_9 hr5] at h
  exact h
theorem qkN_i {s r q : Nat} (hr : r &&& s = r) (hq : q &&& s = q) : ∀ n, qkN s r n = qkN s q n → ∀ j, j < n → r.testBit j = q.testBit j
  | 0, _, j, hj => absurd hj (Nat.not_lt_zero _)
  | n + 1, h, j, hj => by
    have l1 := qkN_lt s r n
    have l2 := qkN_lt s q n
    rw [qkN_s, qkN_s] at h
    have hrs : r.testBit n = true → s.testBit n = true := fun z => sb_tb hr z
    have hqs : q.testBit n = true → s.testBit n = true := fun z => sb_tb hq z
    have hb : r.testBit n = q.testBit n ∧ qkN s r n = qkN s q n := by
      cases h1 : r.testBit n with
      | true =>
        rw [h1, hrs h1] at h
        cases h2 : q.testBit n with
        | true =>
          rw [h2] at h
          exact ⟨rfl, by omega⟩
        | false =>
          rw [h2] at h
          simp at h
          omega
      | false =>
        rw [h1] at h
        cases h2 : q.testBit n with
        | true =>
          rw [h2, hqs h2] at h
          simp at h
          omega
        | false =>
          rw [h2] at h
          exact ⟨rfl, by omega⟩
    by_cases z : j = n
    · rw [z]; exact hb.1
    · exact qkN_i hr hq n hb.2 j (by omega)
theorem qk_inj {set r q : Nat} (hs : set < 512) (hr : r &&& set = r) (hq : q &&& set = q) (h : qk set r = qk set q) : r = q := by
  have h1 : r < 512 := by rw [← hr]; exact Nat.lt_of_le_of_lt Nat.and_le_right hs
  have h2 : q < 512 := by rw [← hq]; exact Nat.lt_of_le_of_lt Nat.and_le_right hs
  rw [← md_9 h1, ← md_9 h2]
  apply Nat.eq_of_testBit_eq
  intro j
  rw [Nat.testBit_mod_two_pow, Nat.testBit_mod_two_pow]
  by_cases hj : j < 9
  · rw [qkN_i hr hq 9 h j hj]
  · rw [decide_eq_false hj]
    rfl
theorem qkN_cl {set r q p : Nat} (h : ∀ j, j < 9 → q.testBit j = (r.testBit j && !decide (j = p))) (hp : r.testBit p = true) (hs : set.testBit p = true) : ∀ n, n ≤ 9 → qkN set q n + (if p < n then 2 ^ pop set p else 0) = qkN set r n
  | 0, _ => by rw [if_neg (Nat.not_lt_zero _)]; rfl
  | n + 1, hn => by
    have ih := qkN_cl h hp hs n (by omega)
    show qkN set q n + (if set.testBit n && q.testBit n then 2 ^ pop set n else 0) + (if p < n + 1 then 2 ^ pop set p else 0) = qkN set r n + (if set.testBit n && r.testBit n then 2 ^ pop set n else 0)
    rw [h n (by omega)]
    by_cases z : n = p
    · subst z
      rw [if_neg (Nat.lt_irrefl n)] at ih
      rw [decide_eq_true rfl, hs, hp, if_pos (Nat.lt_succ_self n)]
      simp
      omega
    · rw [decide_eq_false z]
      rw [show (r.testBit n && !false) = r.testBit n by simp]
      by_cases y : p < n
      · rw [if_pos y] at ih
        rw [if_pos (show p < n + 1 by omega)]
        omega
      · rw [if_neg y] at ih
        rw [if_neg (show ¬ p < n + 1 by omega)]
        omega
theorem qk_cl {set r p : Nat} (hr : r < 512) (hp9 : p < 9) (hrs : r &&& set = r) (hp : r.testBit p = true) : qk set (r - 2 ^ p) < qk set r := by
  have h := qkN_cl (set := set) (q := r - 2 ^ p) (fun j hj => sb_t r hr p hp9 hp j hj) hp (sb_tb hrs hp) 9 (Nat.le_refl _)
  rw [if_pos hp9] at h
  have : 0 < 2 ^ pop set p := Nat.two_pow_pos _
  show qkN set (r - 2 ^ p) 9 < qkN set r 9
  omega
theorem qk_z {set r : Nat} (hs : set < 512) (hr : r &&& set = r) (h : qk set r = 0) : r = 0 := qk_inj hs hr (Nat.zero_and _) (by rw [h]; exact (qkN_0 set 9).symm)
theorem nx_sub (set part : Nat) : nxN set part &&& set = nxN set part := by
  unfold nxN
  rw [Nat.and_assoc, Nat.and_self]
theorem pv_sub (set part : Nat) : pvN set part &&& set = pvN set part := by
  unfold pvN
  rw [Nat.and_assoc, Nat.and_self]
theorem sub_512 {set r : Nat} (hs : set < 512) (h : r &&& set = r) : r < 512 := by rw [← h]; exact Nat.lt_of_le_of_lt Nat.and_le_right hs
theorem nu_nx {set part : Nat} (hs : set < 512) (hp : part < 512) : (nI part - nI set) &&& nI set = nI (nxN set part) := by
  have e : nI part - nI set = nI (part + 4294967296 - set) := by
    rw [← pk_sub (by omega), ← nI_add]
    rw [show nI 4294967296 = 0 from by decide, Int32.add_zero]
  rw [e, nu_and]
  rfl
theorem sub_cl {set r p : Nat} (hs : set < 512) (hp9 : p < 9) (hr : r &&& set = r) (hp : r.testBit p = true) : (r - 2 ^ p) &&& set = r - 2 ^ p := by
  have hr5 := sub_512 hs hr
  apply Nat.eq_of_testBit_eq
  intro j
  rw [Nat.testBit_and]
  by_cases hj : j < 9
  · rw [sb_t r hr5 p hp9 hp j hj]
    cases hb : r.testBit j with
    | false => rfl
    | true =>
      rw [sb_tb hr hb]
      simp
  · have h1 : (r - 2 ^ p).testBit j = false := Nat.testBit_lt_two_pow (Nat.lt_of_lt_of_le (Nat.lt_of_le_of_lt (Nat.sub_le r (2 ^ p)) (show r < 2 ^ 9 from hr5)) (Nat.pow_le_pow_right (by decide) (by omega)))
    rw [h1]
    rfl
theorem sub_tr {a b c : Nat} (h1 : a &&& b = a) (h2 : b &&& c = b) : a &&& c = a := by
  rw [← h1, Nat.and_assoc, h2]
/-- of two subsets one of which is part of the other the lesser comes first -/
theorem qkN_mo {set a b : Nat} (h : a &&& b = a) : ∀ n, qkN set a n ≤ qkN set b n
  | 0 => Nat.le_refl _
  | n + 1 => by
    have ih := qkN_mo (set := set) h n
    show qkN set a n + (if set.testBit n && a.testBit n then 2 ^ pop set n else 0) ≤ qkN set b n + (if set.testBit n && b.testBit n then 2 ^ pop set n else 0)
    cases ha : a.testBit n with
    | false =>
      rw [Bool.and_false, if_neg (by decide)]
      omega
    | true =>
      rw [sb_tb h ha]
      omega
theorem bitsN_cg {f g : Nat → Bool} : ∀ {n : Nat}, (∀ j, j < n → f j = g j) → bitsN f n = bitsN g n
  | 0, _ => rfl
  | n + 1, h => by
    show bitsN f n ||| (if f n = true then 2 ^ n else 0) = bitsN g n ||| (if g n = true then 2 ^ n else 0)
    rw [bitsN_cg (fun j hj => h j (by omega)), h n (by omega)]
/-! ===== the program: rows ===== -/
abbrev rcN (P : tPL) (jb : Nat → Nat) (set : Nat) : Nat := byN (fun f => rowT P jb set f) 7
abbrev inN (jb : Nat → Nat) (e : Nat) : Nat := byN (fun _ => jwN jb e) 7
def bRT (S : ms_S) (P : tPL) (v : Nat) (jb : Nat → Nat) : Prop := S.1 25 7 = nI v ∧ 0 < v ∧ v < 2 ^ 30 ∧ (∀ e, e < 7 → jb e < 2 ^ 7) ∧ S.2.1 25 6 = lN (byN jb 7) ∧ (∀ e, e < 7 → S.2.2.2.2 28 e = lN (inN jb e)) ∧ S.2.2.2.2 26 0 = lN 0 ∧ ∀ set, set < 512 → (∃ u, u ≤ v ∧ S.2.2.2.1 27 set = nI u) ∧ (S.2.2.2.1 27 set = nI v → (set < 2 ^ P.1 → S.2.2.2.2 26 set = lN (rcN P jb set)) ∧ ∀ r, r &&& set = r → ¬ r = 0 → S.2.2.2.1 27 r = nI v)
theorem bRT_F {A : Nat → Bool} {S S' : ms_S} {P : tPL} {v : Nat} {jb : Nat → Nat} (f : cF A S S') (h5 : A 25 = false) (h6 : A 26 = false) (h7 : A 27 = false) (h8 : A 28 = false) (h : bRT S P v jb) : bRT S' P v jb := by
  unfold bRT
  rw [f.1 25 h5, f.2.1 25 h5, f.2.2.2.1 26 h6, f.2.2.1 27 h7, f.2.2.2.1 28 h8]
  exact h
def aUs : Nat → Bool := fun a => Nat.beq a 25 || Nat.beq a 28
def aRc : Nat → Bool := fun a => Nat.beq a 26 || Nat.beq a 27
theorem jw_lt (jb : Nat → Nat) (e : Nat) : jwN jb e < 128 := bitsN_lt _ 7
theorem by_lt7 {c : Nat → Nat} (hc : ∀ f, f < 7 → c f < 128) : byN c 7 < 2 ^ 56 := by
  have := byN_lt (c := c) (n := 7) (fun f hf => Nat.lt_trans (hc f hf) (by decide))
  exact Nat.lt_of_lt_of_le this (by decide)
theorem by_inj {c d : Nat → Nat} (hc : ∀ f, f < 7 → c f < 128) (hd : ∀ f, f < 7 → d f < 128) (h : byN c 7 = byN d 7) : ∀ f, f < 7 → c f = d f := by
  intro f hf
  apply Nat.eq_of_testBit_eq
  intro i
  by_cases hi : i < 8
  · have h1 := byN_tb (f := f) hi (n := 7) (fun f hf => Nat.lt_trans (hc f hf) (by decide : 128 < 256))
    have h2 := byN_tb (f := f) hi (n := 7) (fun f hf => Nat.lt_trans (hd f hf) (by decide : 128 < 256))
    rw [h, h2, decide_eq_true hf, Bool.true_and, Bool.true_and] at h1
    exact h1.symm
  · have hp : 128 ≤ 2 ^ i := Nat.le_trans (show 128 ≤ 2 ^ 7 by decide) (Nat.pow_le_pow_right (by decide) (by omega))
    rw [Nat.testBit_lt_two_pow (Nat.lt_of_lt_of_le (hc f hf) hp), Nat.testBit_lt_two_pow (Nat.lt_of_lt_of_le (hd f hf) hp)]
section CORE3
variable {G : ab_G} {S : ms_S} {tl : ab_H} {P : tPL} {o : Nat → Option tDQ}
theorem u_use {v : Nat} {jb : Nat → Nat} (hR : bRT S P v jb) (jn : Nat → Nat) (hjn : ∀ e, e < 7 → jn e < 2 ^ 7) (hv : v + 1 < 2 ^ 30) (K : ms_S → Prop) (k : ∀ S' v', cF aUs S S' → v' ≤ v + 1 → bRT S' P v' jn → K S') : ctU G 1 M_X9_use false [.ref 25, .long (lN (byN jn 7))] lC S tl K := by
  obtain ⟨r1, r2, r3, r4, r5, r6, r7, r8⟩ := id hR
  have hL1 := by_lt7 (c := jn) hjn
  have hL2 := by_lt7 (c := jb) r4
  refine m_X9_use (fun n0 => ?_)
  rw [lg_cmp_eq, r5, pk_lEQ (by omega) (by omega)]
  refine ⟨fun z => ?_, fun z => ?_⟩
  · have hj := by_inj hjn r4 z
    refine k S v cF.rf (by omega) ⟨r1, r2, r3, hjn, by rw [r5, z], fun e he => ?_, r7, fun set hset => ⟨(r8 set hset).1, fun y => ⟨fun w => ?_, ((r8 set hset).2 y).2⟩⟩⟩
    · rw [r6 e he]
      congr 1
      refine byN_c (fun f hf => ?_)
      show bitsN _ 7 = bitsN _ 7
      exact bitsN_cg (fun n hn => by rw [hj n hn])
    · rw [((r8 set hset).2 y).1 w]
      congr 1
      exact byN_c (fun f hf => rowT_jb (fun e he => (hj e he).symm) set f)
  · rw [r1, nI_add]
    have KO : ∀ t e (X : ms_S), e + t = 7 → cF aUs S X → X.1 25 7 = nI (v + 1) → X.2.1 25 6 = lN (byN jn 7) → (∀ d, d < e → X.2.2.2.2 28 d = lN (inN jn d)) → L_X9_use_27 G false n0 tl K X (lN (byN jn 7)) (nI e) := by
      intro t
      induction t with
      | zero =>
        intro e X he x1 x2 x3 x4
        have he : e = 7 := he
        subst he
        refine b_X9_use_27 ⟨fun _ => k X (v + 1) x1 (Nat.le_refl _) ⟨x2, by omega, hv, hjn, x3, x4, (congrFun (x1.2.2.2.1 26 rfl) 0).trans r7, fun set hset => ?_⟩, fun y => absurd (Int32.le_refl _) y⟩
        obtain ⟨⟨u, u1, u2⟩, u3⟩ := r8 set hset
        rw [x1.2.2.1 27 rfl]
        refine ⟨⟨u, by omega, u2⟩, fun y => ?_⟩
        rw [u2, nI_eq (by omega) (by omega)] at y
        omega
      | succ t ih =>
        intro e X he x1 x2 x3 x4
        refine b_X9_use_27 ?_
        rw [nI_leI (by decide) (by omega)]
        refine ⟨fun y => absurd y (by omega), fun _ => ?_⟩
        have KI : ∀ q c, c + q = 7 → L_X9_use_39 G false n0 tl K X (lN (byN jn 7)) (nI e) (lN (bitsN (fun x => (jn x).testBit e) c)) (nI c) := by
          intro q
          induction q with
          | zero =>
            intro c hc
            have hc : c = 7 := hc
            subst hc
            refine b_X9_use_39 ?_
            rw [nI_clamp (by omega), show (282578800148737 : Int64) = lN (byN (fun _ => 1) 7) from by decide, lN_mul, Nat.mul_comm, byN_mul, nI_add]
            refine ⟨fun _ => ⟨(x_vp (by omega)).mpr (by omega), ih (e + 1) _ (by omega) (x1.tr (cF.sL rfl)) x2 x3 (fun d hd => ?_)⟩, fun y => absurd (Int32.le_refl _) y⟩
            show vp_updL (X.2.2.2.2 28) e _ d = _
            by_cases y : d = e
            · subst y
              rw [updL_at]
              congr 1
              exact byN_c (fun f hf => Nat.one_mul _)
            · rw [updL_no y]
              exact x4 d (by omega)
          | succ q ihq =>
            intro c hc
            have hn := ihq (c + 1) (by omega)
            refine b_X9_use_39 ?_
            rw [nI_leI (by decide) (by omega)]
            refine ⟨fun y => absurd y (by omega), fun _ => ?_⟩
            rw [pk_mul, nI_add, nl_ushr (by omega) (by omega), nl_one, nl_shl (by omega), nl_or, nI_add]
            have hb := byN_tb (c := jn) (f := c) (i := e) (by omega) (n := 7) (fun f hf => Nat.lt_trans (hjn f hf) (by decide))
            rw [decide_eq_true (show c < 7 by omega), Bool.true_and] at hb
            cases hx : (jn c).testBit e with
            | true =>
              rw [hx] at hb
              rw [bitsN_1 (f := fun x => (jn x).testBit e) (p := c) hx] at hn
              rw [(nu_tb _ _).mpr hb, Nat.one_mul]
              exact hn
            | false =>
              rw [hx] at hb
              rw [bitsN_0 (f := fun x => (jn x).testBit e) (p := c) hx] at hn
              have : byN jn 7 / 2 ^ (c * 8 + e) % 2 = 0 := (Nat.mod_two_eq_zero_or_one _).elim id (fun y => by rw [(nu_tb _ _).mp y] at hb; cases hb)
              rw [this, Nat.zero_mul, Nat.or_zero]
              exact hn
        exact KI 7 0 rfl
    exact KO 7 0 _ rfl ((cF.sWa rfl).tr (cF.sVa rfl)) rfl rfl (fun d hd => absurd hd (Nat.not_lt_zero _))
theorem u_meets {v : Nat} {jb : Nat → Nat} (hR : bRT S P v jb) (a c : Nat) (ha : a < 7) (hc : c < 7) (K : Int32 → ms_S → Prop) (k : K (bI ((jb a).testBit c)) S) : ctI G 1 M_X9_meets false [.ref 25, .int (nI a), .int (nI c)] lC S tl K := by
  obtain ⟨r1, r2, r3, r4, r5, r6, r7, r8⟩ := id hR
  have hL2 := by_lt7 (c := jb) r4
  have hb := byN_tb (c := jb) (f := a) (i := c) (by omega) (n := 7) (fun f hf => Nat.lt_trans (r4 f hf) (by decide))
  rw [decide_eq_true ha, Bool.true_and] at hb
  refine m_X9_meets (fun n0 => ?_)
  rw [r5, pk_mul, nI_add, tb_l (by omega) (by omega), hb]
  refine ⟨fun z => ?_, fun z => ?_⟩
  · rw [z] at k
    exact k
  · rw [show (jb a).testBit c = false by simpa using z] at k
    exact k
end CORE3

