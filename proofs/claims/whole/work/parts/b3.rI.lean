/-! ===== the program: a law read whole ===== -/
theorem leafS_w {b : Nat → Nat} {n i j : Nat} {u u' : tSU} (hw : u.2.2.2.2.1 = true) (q : leafS b n u i = .ok (u', j)) : u'.2.2.2.2.1 = decide (tT b n i = 10 ∨ tT b n i = 32) ∧ (u'.2.2.2.2.1 = true → u'.2.2.2.2.2 = true) := by
  obtain ⟨a1, a2, a3, a4, a5, a6⟩ := tk_qA b n i
  unfold leafS at q
  rw [is_40, is_13] at q
  by_cases z : tT b n i = 32
  · rw [decide_eq_true z, if_pos rfl] at q
    rw [decide_eq_true (Or.inr z)]
    by_cases y : u.2.2.1 = 8
    · rw [if_pos y] at q; cases q
    · rw [if_neg y] at q
      cases q
      exact ⟨hw, fun _ => rfl⟩
  · rw [decide_eq_false z, if_neg Bool.false_ne_true] at q
    by_cases z2 : (decide (tT b n i = 10) && u.2.2.2.2.2) = true
    · rw [if_pos z2] at q
      rw [Bool.and_eq_true, decide_eq_true_eq] at z2
      rw [decide_eq_true (Or.inl z2.1)]
      by_cases y : u.2.2.2.1 = 64
      · rw [if_pos y] at q; cases q
      · rw [if_neg y] at q
        cases q
        exact ⟨hw, fun _ => z2.2⟩
    · rw [if_neg z2] at q
      by_cases z3 : tkK b n i = 1 ∧ 14 ≤ tkW b n i
      · rw [if_pos z3] at q
        have := a4.mp z3
        rw [decide_eq_false (by omega)]
        by_cases y : u.2.2.2.1 = 64
        · rw [if_pos y] at q; cases q
        · rw [if_neg y] at q
          cases q
          exact ⟨rfl, fun w => by cases w⟩
      · rw [if_neg z3] at q
        by_cases z4 : tkK b n i = 3
        · rw [if_pos z4] at q
          have := a6.mp z4
          rw [decide_eq_false (by omega)]
          by_cases y : 9999 < tkW b n i
          · rw [if_pos y] at q; cases q
          · rw [if_neg y] at q
            by_cases y : u.2.2.2.1 = 64
            · rw [if_pos y] at q; cases q
            · rw [if_neg y] at q
              cases q
              exact ⟨rfl, fun w => by cases w⟩
        · rw [if_neg z4] at q; cases q
theorem leafS_n {b : Nat → Nat} {n i : Nat} {u : tSU} (h : tT b n i = 10) (hm : u.2.2.2.2.2 = false) : leafS b n u i = .error (1, tkP b n i) := by
  obtain ⟨a1, a2, a3, a4, a5, a6⟩ := tk_qA b n i
  unfold leafS
  rw [is_40, is_13, decide_eq_false (by omega), if_neg Bool.false_ne_true, hm, Bool.and_false, if_neg Bool.false_ne_true, if_neg (fun w => by have := a4.mp w; omega), if_neg (fun w => by have := a6.mp w; omega)]
theorem sumS_s {b : Nat → Nat} {n f i : Nat} {u : tSU} : sumS b n (f + 1) u i = if (decide (tT b n i = 34) && (!u.2.2.2.2.1 && decide (u.2.2.1 = 0))) = true then .ok ((bdW 1 u.2.1 u.1).1, i) else bE (if u.2.2.2.2.1 = true then leafS b n u i else signS b n u i) (fun r => sumS b n f r.1 r.2) := by
  rw [← is_59]
  rfl
theorem sg_op {b : Nat → Nat} {n i : Nat} {u : tSU} (h : ¬ (tT b n i = 33 ∧ 0 < u.2.2.1)) (h0 : sgK b n i = 0) : signS b n u i = .error (1, tkP b n i) := by
  unfold signS
  rw [is_41, ← Bool.decide_and, decide_eq_false h, if_neg Bool.false_ne_true, if_pos h0]
theorem sg_cl {b : Nat → Nat} {n i : Nat} {u : tSU} (h : tT b n i = 33) (h0 : 0 < u.2.2.1) : signS b n u i = .ok (((bdW 1 u.2.1 u.1).1, (bdW 1 u.2.1 u.1).2.tail, u.2.2.1 - 1, u.2.2.2.1, u.2.2.2.2.1, u.2.2.2.2.2), tkN b n i) := by
  unfold signS
  rw [is_41, ← Bool.decide_and, decide_eq_true ⟨h, h0⟩, if_pos rfl]
theorem sg_wt {b : Nat → Nat} {n i j : Nat} {u u' : tSU} (h0 : ¬ sgK b n i = 0) (q : signS b n u i = .ok (u', j)) : u'.2.2.2.2.1 = true ∧ u'.2.2.2.2.2 = decide (rkN (sgK b n i) < 3) := by
  have h33 : ¬ tT b n i = 33 := fun z => h0 ((tk_qB b n i).2.2.1.mpr (by omega))
  unfold signS at q
  rw [is_41, decide_eq_false h33, if_neg (show ¬ (false && decide (0 < u.2.2.1)) = true from Bool.false_ne_true), if_neg h0] at q
  by_cases h4 : (decide (rkN (sgK b n i) = 4) && hd4 (bdW (if rkN (sgK b n i) = 4 then 5 else rkN (sgK b n i)) u.2.1 u.1).2) = true
  · rw [if_pos h4] at q; cases q
  · rw [if_neg h4] at q
    by_cases hc : u.2.2.2.1 = 64
    · rw [if_pos hc] at q; cases q
    · rw [if_neg hc] at q
      cases q
      exact ⟨rfl, rfl⟩
theorem tk_lt {b : Nat → Nat} {n i : Nat} (hi : i ≤ n) (h : ¬ tkK b n i = 0) : i < tkN b n i ∧ tkN b n i ≤ n := by
  sorry

