/-! ===== the program: games, which end is better ===== -/
/-- k more laid is better than b, for the one whose turn it is -/
def btB (k b : Nat) : Bool := if k % 2 = 1 then decide (b % 2 = 0 ∨ k < b) else decide (b % 2 = 0 ∧ b < k)
theorem gB_bt (b k : Nat) : gB (some b) k = if btB k b = true then k else b := by
  unfold gB btB
  by_cases h : k % 2 = 1
  · simp [h]
  · simp [h]
theorem bt_self (b : Nat) : btB b b = false := by
  unfold btB
  split
  · exact decide_eq_false (by omega)
  · exact decide_eq_false (by omega)
theorem gB_cm : ∀ r, r < 11 → ∀ k, k < 11 → ∀ l, l < 11 → gB (some (gB (some r) k)) l = gB (some (gB (some r) l)) k := by decide +kernel
theorem gB_n0 : ∀ k, k < 11 → ¬ k = 0 → gB (some 0) k = k := by decide +kernel
/-- a way to go on, if there is one -/
def apG (c : Bool) (k r : Nat) : Nat := if c = true then gB (some r) k else r
theorem gB_lt {b k n : Nat} (hb : b < n) (hk : k < n) : gB (some b) k < n := by
  rw [gB_bt]
  split
  · exact hk
  · exact hb
theorem apG_lt {c : Bool} {k r n : Nat} (hr : r < n) (hk : c = true → k < n) : apG c k r < n := by
  unfold apG
  split
  · rename_i h
    exact gB_lt hr (hk h)
  · exact hr
theorem apG_cm {c d : Bool} {k l r : Nat} (hr : r < 11) (hk : k < 11) (hl : l < 11) : apG d l (apG c k r) = apG c k (apG d l r) := by
  unfold apG
  cases c with
  | false => cases d <;> rfl
  | true =>
    cases d with
    | false => rfl
    | true => exact gB_cm r hr k hk l hl
/-- the reference's step, without its none -/
theorem eb1_ap {jb : Nat → Nat} {T : Nat → Nat → Nat → Nat} {set f e p a z : Nat} {b : Option Nat} (h1 : T (set ||| 2 ^ p) f z + 1 < 11) (h2 : T (set ||| 2 ^ p) a e + 1 < 11) : opN (eb1 jb T set f e p a z b) = apG ((jb z).testBit f) (T (set ||| 2 ^ p) a e + 1) (apG ((jb e).testBit a) (T (set ||| 2 ^ p) f z + 1) (opN b)) := by
  have key : ∀ (b : Option Nat) (k : Nat), k < 11 → ¬ k = 0 → gB b k = gB (some (opN b)) k := by
    intro b k hk h0
    cases b with
    | none => exact (gB_n0 k hk h0).symm
    | some b => rfl
  have inner : opN (if (jb e).testBit a = true then some (gB b (T (set ||| 2 ^ p) f z + 1)) else b) = apG ((jb e).testBit a) (T (set ||| 2 ^ p) f z + 1) (opN b) := by
    unfold apG
    by_cases c : (jb e).testBit a = true
    · rw [if_pos c, if_pos c]
      exact key b _ h1 (by omega)
    · rw [if_neg c, if_neg c]
  unfold eb1
  rw [← inner]
  generalize (if (jb e).testBit a = true then some (gB b (T (set ||| 2 ^ p) f z + 1)) else b) = b'
  unfold apG
  by_cases c : (jb z).testBit f = true
  · rw [if_pos c, if_pos c]
    exact key b' _ h2 (by omega)
  · rw [if_neg c, if_neg c]
theorem u_better (G : ab_G) {lay : List ms_D} (S : ms_S) (tl : ab_H) (t k b : Nat) (ht : t < 20) (hk : k < 20) (hb : b < 20) (K : Int32 → ms_S → Prop) (c : K (bI (btB k b)) S) : ctI G 1 M_X2_isBetter false [.int (nI (t + k)), .int (nI (t + b)), .int (nI t)] lay S tl K := by
  have e1 : nI (t + k) - nI t = nI k := by rw [pk_sub (by omega), show t + k - t = k by omega]
  have e2 : nI (t + b) - nI t = nI b := by rw [pk_sub (by omega), show t + b - t = b by omega]
  have h2 : ∀ {n : Nat}, ¬ n % 2 = 1 → n % 2 = 0 := fun {n} h => by have := Nat.mod_two_eq_zero_or_one n; omega
  refine ctI.pk (m_X2_isBetter (fun n0 => ?_))
  rw [e1, pk_mod (by omega) (by decide) (by decide), nI_eq (by omega) (by decide)]
  have K29 : ∀ w w' : Bool, (w = true ↔ k % 2 = 1) → (w' = true ↔ b % 2 = 1) → L_X2_isBetter_29 G false n0 (hLy lay S tl) (fun v _ => K v S) ms_0 (nI (t + k)) (nI (t + b)) (bI w) (bI w') := by
    intro w w' hw hw'
    refine b_X2_isBetter_29 ?_
    rw [bI_eq, x_b0, nI_leI (by omega) (by omega), nI_leI (by omega) (by omega)]
    refine ⟨fun z => ⟨fun y => ⟨fun q => b_X2_isBetter_66 ⟨Or.inl rfl, ?_⟩, fun q => b_X2_isBetter_66 ⟨Or.inr rfl, ?_⟩⟩, fun y => ⟨fun q => b_X2_isBetter_66 ⟨Or.inl rfl, ?_⟩, fun q => b_X2_isBetter_66 ⟨Or.inr rfl, ?_⟩⟩⟩, fun z => ⟨?_, ?_⟩⟩
    · have k0 : ¬ k % 2 = 1 := fun q => by rw [hw.mpr q] at y; cases y
      have e : btB k b = false := by unfold btB; rw [if_neg k0]; exact decide_eq_false (by omega)
      rw [e] at c
      exact c
    · have k0 : ¬ k % 2 = 1 := fun q => by rw [hw.mpr q] at y; cases y
      have b0 : ¬ b % 2 = 1 := fun q => by rw [← z] at hw'; rw [hw'.mpr q] at y; cases y
      have e : btB k b = true := by unfold btB; rw [if_neg k0]; exact decide_eq_true ⟨h2 b0, by omega⟩
      rw [e] at c
      exact c
    · have k1 : k % 2 = 1 := hw.mp (bl_t y)
      have b1 : b % 2 = 1 := hw'.mp (by rw [← z]; exact bl_t y)
      have e : btB k b = false := by unfold btB; rw [if_pos k1]; exact decide_eq_false (by omega)
      rw [e] at c
      exact c
    · have k1 : k % 2 = 1 := hw.mp (bl_t y)
      have e : btB k b = true := by unfold btB; rw [if_pos k1]; exact decide_eq_true (by omega)
      rw [e] at c
      exact c
    · cases w
      · exact Or.inl rfl
      · exact Or.inr rfl
    · have e : btB k b = w := by
        unfold btB
        cases w with
        | true =>
          have b0 : ¬ b % 2 = 1 := fun q => z (hw'.mpr q).symm
          rw [if_pos (hw.mp rfl)]
          exact decide_eq_true (Or.inl (h2 b0))
        | false =>
          have k0 : ¬ k % 2 = 1 := fun q => by cases hw.mpr q
          have b1 : b % 2 = 1 := hw'.mp (bl_t (fun q => z q.symm))
          rw [if_neg k0]
          exact decide_eq_false (by omega)
      rw [e] at c
      exact c
  have K14 : ∀ w : Bool, (w = true ↔ k % 2 = 1) → L_X2_isBetter_14 G false n0 (hLy lay S tl) (fun v _ => K v S) ms_0 (nI (t + k)) (nI (t + b)) (nI t) (bI w) := by
    intro w hw
    refine b_X2_isBetter_14 ⟨by decide, ?_⟩
    rw [e2, pk_mod (by omega) (by decide) (by decide), nI_eq (by omega) (by decide)]
    exact ⟨fun z => K29 w true hw ⟨fun _ => z, fun _ => rfl⟩, fun z => K29 w false hw ⟨fun q => Bool.noConfusion q, fun q => absurd q z⟩⟩
  exact ⟨by decide, fun z => K14 true ⟨fun _ => z, fun _ => rfl⟩, fun z => K14 false ⟨fun q => Bool.noConfusion q, fun q => absurd q z⟩⟩

