/-! ===== the program: a token of a law ===== -/
def sgW (k w : Nat) : Nat := if (decide (k = 1) && decide (w = 11)) = true then 3 else if (decide (k = 1) && decide (w = 12)) = true then 4 else if k = 5 then 5 + w else if (decide (k = 4) && decide (w = 43)) = true then 11 else if (decide (k = 4) && decide (w = 45)) = true then 12 else if (decide (k = 4) && decide (w = 42)) = true then 13 else if (decide (k = 4) && decide (w = 47)) = true then 14 else 0
def tcW (k w : Nat) : Nat := tkC (k, w, 0, 0)
def tqA (k w : Nat) : Prop := tcW k w < 64 ∧ ((k = 4 ∧ w = 40) ↔ tcW k w = 32) ∧ ((k = 1 ∧ w = 13) ↔ tcW k w = 10) ∧ ((k = 1 ∧ 14 ≤ w) ↔ (1 ≤ tcW k w ∧ tcW k w ≤ 7)) ∧ (k = 1 → 14 ≤ w → tcW k w = w - 13 ∧ w ≤ 20) ∧ (k = 3 ↔ tcW k w = 36)
def tqB (k w : Nat) : Prop := ((k = 4 ∧ w = 41) ↔ tcW k w = 33) ∧ ((k = 4 ∧ w = 59) ↔ tcW k w = 34) ∧ (sgW k w = 0 ↔ ¬ (8 ≤ tcW k w ∧ tcW k w ≤ 20 ∧ ¬ tcW k w = 10)) ∧ (¬ sgW k w = 0 → tcW k w = wk (sgW k w))
def tqC (k w : Nat) : Prop := (k = 0 ↔ tcW k w = 37) ∧ (k = 2 ↔ tcW k w = 35) ∧ ((k = 1 ∧ w ≤ 7) ↔ (21 ≤ tcW k w ∧ tcW k w ≤ 28)) ∧ (k = 1 → w ≤ 10 → tcW k w = 21 + w) ∧ ((k = 1 ∧ 8 ≤ w ∧ w ≤ 10) ↔ (29 ≤ tcW k w ∧ tcW k w ≤ 31))
theorem tq_1A : ∀ w, w < 21 → tqA 1 w := by unfold tqA; decide
theorem tq_1B : ∀ w, w < 21 → tqB 1 w := by unfold tqB; decide
theorem tq_1C : ∀ w, w < 21 → tqC 1 w := by unfold tqC; decide
theorem tq_5A : ∀ w, w < 6 → tqA 5 w := by unfold tqA; decide
theorem tq_5B : ∀ w, w < 6 → tqB 5 w := by unfold tqB; decide
theorem tq_5C : ∀ w, w < 6 → tqC 5 w := by unfold tqC; decide
theorem tq_4A {w : Nat} (h : w = 59 ∨ w = 40 ∨ w = 41 ∨ w = 43 ∨ w = 45 ∨ w = 42 ∨ w = 47 ∨ w = 37) : tqA 4 w := by
  rcases h with rfl | rfl | rfl | rfl | rfl | rfl | rfl | rfl <;> (unfold tqA; decide)
theorem tq_4B {w : Nat} (h : w = 59 ∨ w = 40 ∨ w = 41 ∨ w = 43 ∨ w = 45 ∨ w = 42 ∨ w = 47 ∨ w = 37) : tqB 4 w := by
  rcases h with rfl | rfl | rfl | rfl | rfl | rfl | rfl | rfl <;> (unfold tqB; decide)
theorem tq_4C {w : Nat} (h : w = 59 ∨ w = 40 ∨ w = 41 ∨ w = 43 ∨ w = 45 ∨ w = 42 ∨ w = 47 ∨ w = 37) : tqC 4 w := by
  rcases h with rfl | rfl | rfl | rfl | rfl | rfl | rfl | rfl <;> (unfold tqC; decide)
theorem tq_o (k w : Nat) (h : k = 0 ∨ k = 2 ∨ k = 3 ∨ k = 6) : tqA k w ∧ tqB k w ∧ tqC k w := by
  rcases h with rfl | rfl | rfl | rfl <;> simp [tqA, tqB, tqC, tcW, tkC, sgW]
theorem tk_is (b : Nat → Nat) (n i : Nat) : (tkK b n i = 1 ∧ tkW b n i < 21) ∨ (tkK b n i = 5 ∧ tkW b n i < 6) ∨ (tkK b n i = 4 ∧ (tkW b n i = 59 ∨ tkW b n i = 40 ∨ tkW b n i = 41 ∨ tkW b n i = 43 ∨ tkW b n i = 45 ∨ tkW b n i = 42 ∨ tkW b n i = 47 ∨ tkW b n i = 37)) ∨ (tkK b n i = 0 ∨ tkK b n i = 2 ∨ tkK b n i = 3 ∨ tkK b n i = 6) := by
  show ((tk b n i).1 = 1 ∧ (tk b n i).2.1 < 21) ∨ ((tk b n i).1 = 5 ∧ (tk b n i).2.1 < 6) ∨ ((tk b n i).1 = 4 ∧ ((tk b n i).2.1 = 59 ∨ (tk b n i).2.1 = 40 ∨ (tk b n i).2.1 = 41 ∨ (tk b n i).2.1 = 43 ∨ (tk b n i).2.1 = 45 ∨ (tk b n i).2.1 = 42 ∨ (tk b n i).2.1 = 47 ∨ (tk b n i).2.1 = 37)) ∨ ((tk b n i).1 = 0 ∨ (tk b n i).1 = 2 ∨ (tk b n i).1 = 3 ∨ (tk b n i).1 = 6)
  unfold tk
  generalize ru (wsB b) n i = a
  unfold tkA
  split
  · exact Or.inr (Or.inr (Or.inr (Or.inl rfl)))
  · split
    · split
      · rename_i c q
        exact Or.inl ⟨rfl, (wkF_lt q).1⟩
      · split
        · exact Or.inr (Or.inr (Or.inr (Or.inr (Or.inl rfl))))
        · exact Or.inr (Or.inr (Or.inr (Or.inr (Or.inr (Or.inr rfl)))))
    · split
      · exact Or.inr (Or.inr (Or.inr (Or.inr (Or.inr (Or.inl rfl)))))
      · unfold sgT
        generalize (if a + 1 < n then b (a + 1) else 0) = d
        by_cases z1 : b a = 61
        · rw [if_pos z1]; exact Or.inr (Or.inl ⟨rfl, Nat.le_of_ble_eq_true rfl⟩)
        · rw [if_neg z1]
          by_cases z2 : b a = 60
          · rw [if_pos z2]
            refine Or.inr (Or.inl ?_)
            split
            · exact ⟨rfl, Nat.le_of_ble_eq_true rfl⟩
            · split
              · exact ⟨rfl, Nat.le_of_ble_eq_true rfl⟩
              · exact ⟨rfl, Nat.le_of_ble_eq_true rfl⟩
          · rw [if_neg z2]
            by_cases z3 : b a = 62
            · rw [if_pos z3]
              refine Or.inr (Or.inl ?_)
              split
              · exact ⟨rfl, Nat.le_of_ble_eq_true rfl⟩
              · exact ⟨rfl, Nat.le_of_ble_eq_true rfl⟩
            · rw [if_neg z3]
              split
              · rename_i q
                exact Or.inr (Or.inr (Or.inl ⟨rfl, q⟩))
              · exact Or.inr (Or.inr (Or.inr (Or.inr (Or.inr (Or.inr rfl)))))
theorem tk_q (b : Nat → Nat) (n i : Nat) : tqA (tkK b n i) (tkW b n i) ∧ tqB (tkK b n i) (tkW b n i) ∧ tqC (tkK b n i) (tkW b n i) := by
  rcases tk_is b n i with ⟨e, h⟩ | ⟨e, h⟩ | ⟨e, h⟩ | h
  · rw [e]; exact ⟨tq_1A _ h, tq_1B _ h, tq_1C _ h⟩
  · rw [e]; exact ⟨tq_5A _ h, tq_5B _ h, tq_5C _ h⟩
  · rw [e]; exact ⟨tq_4A h, tq_4B h, tq_4C h⟩
  · exact tq_o _ _ h
/-- the program's token -/
abbrev tT (b : Nat → Nat) (n i : Nat) : Nat := tcW (tkK b n i) (tkW b n i)
theorem tT_C (b : Nat → Nat) (n i : Nat) : tkC (tk b n i) = tT b n i := rfl
theorem tT_sg (b : Nat → Nat) (n i : Nat) : sgK b n i = sgW (tkK b n i) (tkW b n i) := rfl
theorem is_tk {b : Nat → Nat} {n i k w : Nat} : isTk b n i k w = decide (tkK b n i = k ∧ tkW b n i = w) := by
  show (decide _ && decide _) = _
  rw [Bool.decide_and]
theorem is_40 {b : Nat → Nat} {n i : Nat} : isTk b n i 4 40 = decide (tT b n i = 32) := by rw [is_tk]; exact decide_eq_decide.mpr (tk_q b n i).1.2.1
theorem is_13 {b : Nat → Nat} {n i : Nat} : isTk b n i 1 13 = decide (tT b n i = 10) := by rw [is_tk]; exact decide_eq_decide.mpr (tk_q b n i).1.2.2.1
theorem is_41 {b : Nat → Nat} {n i : Nat} : isTk b n i 4 41 = decide (tT b n i = 33) := by rw [is_tk]; exact decide_eq_decide.mpr (tk_q b n i).2.1.1
theorem is_59 {b : Nat → Nat} {n i : Nat} : isTk b n i 4 59 = decide (tT b n i = 34) := by rw [is_tk]; exact decide_eq_decide.mpr (tk_q b n i).2.1.2.1
/-! what is known of a law that is being read -/
def iPu (f : Nat) (u : tSU) : Prop := iSu f u ∧ (∀ j, j < u.1.1 → vK u.1.2 j) ∧ srt u.2.1 ∧ (u.2.2.2.2.1 = true → u.2.2.2.2.2 = true → hdr u.2.1 ≤ 3)
theorem iPu_0 {f : Nat} (h : f ≤ 64) : iPu f (u0 f) := ⟨⟨h, rfl, rfl, Nat.zero_le 8, fun _ q => absurd q List.not_mem_nil, rfl⟩, fun _ q => absurd q (Nat.not_lt_zero _), trivial, fun _ _ => Nat.zero_le _⟩
theorem vK_up {q : tDQ} {x : Nat × Nat} (h : ∀ j, j < q.1 → vK q.2 j) (h1 : x.1 ≤ 1) (h2 : x.1 = 1 → x.2 < 7) (h3 : x.2 ≤ 9999) : ∀ j, j < q.1 + 1 → vK (up q.2 q.1 x) j := by
  intro j hj
  by_cases y : j = q.1
  · subst y
    unfold vK
    rw [up_at]
    exact ⟨by omega, h2, h3, fun w => absurd w (by omega), fun w => absurd w (by omega)⟩
  · have g := h j (by omega)
    unfold vK at g ⊢
    rw [up_no y, ixF_up (by omega)]
    exact g
theorem iPu_val {f : Nat} {u : tSU} {x : Nat × Nat} {c : Bool} (h : iPu f u) (hw : u.2.2.2.2.1 = true) (hc : ¬ u.2.2.2.1 = 64) (h1 : x.1 ≤ 1) (h2 : x.1 = 1 → x.2 < 7) (h3 : x.2 ≤ 9999) : iPu f ((u.1.1 + 1, up u.1.2 u.1.1 x), u.2.1, u.2.2.1, u.2.2.2.1 + 1, false, c) := by
  obtain ⟨⟨i1, i2, i3, i4, i5, i6⟩, v, s, m⟩ := h
  rw [hw, if_pos rfl] at i6
  refine ⟨⟨by show u.2.2.2.1 + 1 ≤ 64; omega, by show f + (u.1.1 + 1) + nzC u.2.1 = u.2.2.2.1 + 1; omega, i3, i4, i5, ?_⟩, vK_up v h1 h2 h3, s, fun q => by cases q⟩
  show (ixF (up u.1.2 u.1.1 x) (u.1.1 + 1)).length = bnC u.2.1 + 1
  rw [ixF_s]
  unfold stI
  rw [if_pos h1, List.length_cons]
  omega
theorem wOk_c {k : Nat} {W : List Nat} (hk : k ≤ 14) (h1 : ¬ k = 1) (h : wOk W) : wOk (k :: W) := fun j hj => by
  rcases List.mem_cons.mp hj with e | e
  · rw [e]; exact ⟨hk, h1⟩
  · exact h j e
theorem iPu_open {f : Nat} {u : tSU} (h : iPu f u) (ho : ¬ u.2.2.1 = 8) : iPu f (u.1, 0 :: u.2.1, u.2.2.1 + 1, u.2.2.2.1, u.2.2.2.2.1, true) := by
  obtain ⟨⟨i1, i2, i3, i4, i5, i6⟩, v, s, m⟩ := h
  exact ⟨⟨i1, by show f + u.1.1 + (0 + nzC u.2.1) = _; rw [Nat.zero_add]; exact i2, by show 1 + zrC u.2.1 = u.2.2.1 + 1; omega, by show u.2.2.1 + 1 ≤ 8; omega, wOk_c (by decide) (by decide) i5, by show _ = 0 + bnC u.2.1 + _; rw [Nat.zero_add]; exact i6⟩, v, ⟨Or.inl rfl, s⟩, fun _ _ => Nat.zero_le _⟩
theorem iPu_not {f : Nat} {u : tSU} (h : iPu f u) (hw : u.2.2.2.2.1 = true) (hm : u.2.2.2.2.2 = true) (hc : ¬ u.2.2.2.1 = 64) : iPu f (u.1, 2 :: u.2.1, u.2.2.1, u.2.2.2.1 + 1, u.2.2.2.2.1, u.2.2.2.2.2) := by
  obtain ⟨⟨i1, i2, i3, i4, i5, i6⟩, v, s, m⟩ := h
  exact ⟨⟨by show u.2.2.2.1 + 1 ≤ 64; omega, by show f + u.1.1 + (1 + nzC u.2.1) = u.2.2.2.1 + 1; omega, by show 0 + zrC u.2.1 = u.2.2.1; omega, i4, wOk_c (by decide) (by decide) i5, by show _ = 0 + bnC u.2.1 + _; rw [Nat.zero_add]; exact i6⟩, v, ⟨Or.inr (m hw hm), s⟩, fun _ _ => by show 3 ≤ 3; decide⟩
theorem iPu_leaf {b : Nat → Nat} {n i j f : Nat} {u u' : tSU} (h : iPu f u) (hw : u.2.2.2.2.1 = true) (q : leafS b n u i = .ok (u', j)) : iPu f u' := by
  unfold leafS at q
  split at q
  · split at q
    · cases q
    · rename_i _ ho
      cases q
      exact iPu_open h ho
  · split at q
    · rename_i hn
      split at q
      · cases q
      · rename_i hc
        cases q
        rw [Bool.and_eq_true] at hn
        exact iPu_not h hw hn.2 hc
    · split at q
      · rename_i hn
        split at q
        · cases q
        · rename_i hc
          cases q
          have := (tk_q b n i).1.2.2.2.2.1 hn.1 hn.2
          exact iPu_val h hw hc (by show 1 ≤ 1; decide) (fun _ => by show tkW b n i - 14 < 7; omega) (by show tkW b n i - 14 ≤ 9999; omega)
      · split at q
        · split at q
          · cases q
          · split at q
            · cases q
            · rename_i h9 hc
              cases q
              exact iPu_val h hw hc (by show 0 ≤ 1; decide) (fun z => by cases z) (by show tkW b n i ≤ 9999; omega)
        · cases q

