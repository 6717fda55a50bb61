/-! ===== the reference: the draft becomes the text that holds ===== -/
def cpF (f : Nat → Int32) (k j : Nat) : Nat → Int32 := fun i => if i < j then f (k + i) else f i
/-- array a is copied up to place j -/
def cpL (k a : Nat) (S : ms_S) (j : Nat) (Y : ms_S) : Prop := Y.1 = S.1 ∧ Y.2.1 = S.2.1 ∧ (∀ c, ¬ c = a → Y.2.2.2.1 c = S.2.2.2.1 c) ∧ Y.2.2.2.1 a = cpF (S.2.2.2.1 a) k j
/-- arrays 4 up to n are copied -/
def cpd (S : ms_S) (n : Nat) (X : ms_S) : Prop := X.1 = S.1 ∧ X.2.1 = S.2.1 ∧ ∀ a, X.2.2.2.1 a = if 4 ≤ a ∧ a < n then cpF (S.2.2.2.1 a) (loB a) (loB a) else S.2.2.2.1 a
theorem cpF_0 {f : Nat → Int32} {k : Nat} : cpF f k 0 = f := by
  funext i
  exact if_neg (Nat.not_lt_zero _)
theorem cpF_s {f : Nat → Int32} {k j : Nat} : upd (cpF f k j) j (cpF f k j (k + j)) = cpF f k (j + 1) := by
  funext i
  by_cases h : i = j
  · subst h
    rw [upd_at]
    unfold cpF
    rw [if_neg (by omega), if_pos (by omega)]
  · rw [upd_no h]
    unfold cpF
    by_cases h2 : i < j
    · rw [if_pos h2, if_pos (by omega)]
    · rw [if_neg h2, if_neg (by omega)]
theorem cpL.z {k a : Nat} {S : ms_S} : cpL k a S 0 S := ⟨rfl, rfl, fun _ _ => rfl, cpF_0.symm⟩
theorem cpL.s {k a j : Nat} {S Y : ms_S} (h : cpL k a S j Y) : cpL k a S (j + 1) (sA Y a j (Y.2.2.2.1 a (k + j))) := by
  obtain ⟨h1, h2, h3, h4⟩ := h
  refine ⟨h1, h2, fun c hc => (u1_ne hc).trans (h3 c hc), ?_⟩
  show u1 Y.2.2.2.1 a (upd (Y.2.2.2.1 a) j (Y.2.2.2.1 a (k + j))) a = _
  rw [u1_eq, h4, cpF_s]
theorem cpd.s {a : Nat} {S X Y : ms_S} (h : cpd S a X) (ha : 4 ≤ a) (q : cpL (loB a) a X (loB a) Y) : cpd S (a + 1) Y := by
  obtain ⟨h1, h2, h3⟩ := h
  obtain ⟨q1, q2, q3, q4⟩ := q
  refine ⟨q1.trans h1, q2.trans h2, fun c => ?_⟩
  by_cases hc : c = a
  · subst hc
    rw [q4, h3 c, if_neg (by omega), if_pos ⟨ha, by omega⟩]
  · rw [q3 c hc, h3 c]
    by_cases z : 4 ≤ c ∧ c < a
    · rw [if_pos z, if_pos ⟨z.1, by omega⟩]
    · rw [if_neg z, if_neg (by omega)]
theorem cpd.z {S : ms_S} : cpd S 4 S := ⟨rfl, rfl, fun a => by rw [if_neg (by omega)]⟩
theorem u_cp4 (G : ab_G) (fr : Bool) (S X : ms_S) (tl : ab_H) (h : cpd S 4 X) (K : ms_S → Prop) (c : ∀ Y, cpd S 5 Y → K Y) : ctU G 1 M_X12_copies fr [.ref 4, .int (nI 2)] lM X tl K := by
  refine m_X12_copies4 (fun n0 => ?_)
  suffices KL : ∀ r j (Y : ms_S), j + r = 2 → cpL 2 4 X j Y → L_X12_copies4_2 G fr n0 tl K Y (nI 2) (nI j) from KL 2 0 X rfl cpL.z
  intro r
  induction r with
  | zero =>
    intro j Y hj hy
    refine b_X12_copies4_2 ?_
    rw [nI_leI (by decide) (by omega)]
    have hj : j = 2 := hj
    subst hj
    exact ⟨fun _ => c Y (h.s (by decide) hy), fun z => absurd (Nat.le_refl _) z⟩
  | succ r ih =>
    intro j Y hj hy
    refine b_X12_copies4_2 ?_
    rw [nI_leI (by decide) (by omega), nI_add, nI_clamp (by omega), nI_clamp (by omega), nI_add]
    exact ⟨fun z => absurd z (by omega), fun _ => ⟨(x_vp (by omega)).mpr (by omega), (x_vp (by omega)).mpr (by omega), ih (j + 1) _ (by omega) hy.s⟩⟩
theorem u_cp5 (G : ab_G) (fr : Bool) (S X : ms_S) (tl : ab_H) (h : cpd S 5 X) (K : ms_S → Prop) (c : ∀ Y, cpd S 6 Y → K Y) : ctU G 1 M_X12_copies fr [.ref 5, .int (nI 9)] lM X tl K := by
  refine m_X12_copies5 (fun n0 => ?_)
  suffices KL : ∀ r j (Y : ms_S), j + r = 9 → cpL 9 5 X j Y → L_X12_copies5_2 G fr n0 tl K Y (nI 9) (nI j) from KL 9 0 X rfl cpL.z
  intro r
  induction r with
  | zero =>
    intro j Y hj hy
    refine b_X12_copies5_2 ?_
    rw [nI_leI (by decide) (by omega)]
    have hj : j = 9 := hj
    subst hj
    exact ⟨fun _ => c Y (h.s (by decide) hy), fun z => absurd (Nat.le_refl _) z⟩
  | succ r ih =>
    intro j Y hj hy
    refine b_X12_copies5_2 ?_
    rw [nI_leI (by decide) (by omega), nI_add, nI_clamp (by omega), nI_clamp (by omega), nI_add]
    exact ⟨fun z => absurd z (by omega), fun _ => ⟨(x_vp (by omega)).mpr (by omega), (x_vp (by omega)).mpr (by omega), ih (j + 1) _ (by omega) hy.s⟩⟩
theorem u_cp6 (G : ab_G) (fr : Bool) (S X : ms_S) (tl : ab_H) (h : cpd S 6 X) (K : ms_S → Prop) (c : ∀ Y, cpd S 7 Y → K Y) : ctU G 1 M_X12_copies fr [.ref 6, .int (nI 9)] lM X tl K := by
  refine m_X12_copies6 (fun n0 => ?_)
  suffices KL : ∀ r j (Y : ms_S), j + r = 9 → cpL 9 6 X j Y → L_X12_copies6_2 G fr n0 tl K Y (nI 9) (nI j) from KL 9 0 X rfl cpL.z
  intro r
  induction r with
  | zero =>
    intro j Y hj hy
    refine b_X12_copies6_2 ?_
    rw [nI_leI (by decide) (by omega)]
    have hj : j = 9 := hj
    subst hj
    exact ⟨fun _ => c Y (h.s (by decide) hy), fun z => absurd (Nat.le_refl _) z⟩
  | succ r ih =>
    intro j Y hj hy
    refine b_X12_copies6_2 ?_
    rw [nI_leI (by decide) (by omega), nI_add, nI_clamp (by omega), nI_clamp (by omega), nI_add]
    exact ⟨fun z => absurd z (by omega), fun _ => ⟨(x_vp (by omega)).mpr (by omega), (x_vp (by omega)).mpr (by omega), ih (j + 1) _ (by omega) hy.s⟩⟩
theorem u_cp7 (G : ab_G) (fr : Bool) (S X : ms_S) (tl : ab_H) (h : cpd S 7 X) (K : ms_S → Prop) (c : ∀ Y, cpd S 8 Y → K Y) : ctU G 1 M_X12_copies fr [.ref 7, .int (nI 9)] lM X tl K := by
  refine m_X12_copies7 (fun n0 => ?_)
  suffices KL : ∀ r j (Y : ms_S), j + r = 9 → cpL 9 7 X j Y → L_X12_copies7_2 G fr n0 tl K Y (nI 9) (nI j) from KL 9 0 X rfl cpL.z
  intro r
  induction r with
  | zero =>
    intro j Y hj hy
    refine b_X12_copies7_2 ?_
    rw [nI_leI (by decide) (by omega)]
    have hj : j = 9 := hj
    subst hj
    exact ⟨fun _ => c Y (h.s (by decide) hy), fun z => absurd (Nat.le_refl _) z⟩
  | succ r ih =>
    intro j Y hj hy
    refine b_X12_copies7_2 ?_
    rw [nI_leI (by decide) (by omega), nI_add, nI_clamp (by omega), nI_clamp (by omega), nI_add]
    exact ⟨fun z => absurd z (by omega), fun _ => ⟨(x_vp (by omega)).mpr (by omega), (x_vp (by omega)).mpr (by omega), ih (j + 1) _ (by omega) hy.s⟩⟩
theorem u_cp8 (G : ab_G) (fr : Bool) (S X : ms_S) (tl : ab_H) (h : cpd S 8 X) (K : ms_S → Prop) (c : ∀ Y, cpd S 9 Y → K Y) : ctU G 1 M_X12_copies fr [.ref 8, .int (nI 9)] lM X tl K := by
  refine m_X12_copies8 (fun n0 => ?_)
  suffices KL : ∀ r j (Y : ms_S), j + r = 9 → cpL 9 8 X j Y → L_X12_copies8_2 G fr n0 tl K Y (nI 9) (nI j) from KL 9 0 X rfl cpL.z
  intro r
  induction r with
  | zero =>
    intro j Y hj hy
    refine b_X12_copies8_2 ?_
    rw [nI_leI (by decide) (by omega)]
    have hj : j = 9 := hj
    subst hj
    exact ⟨fun _ => c Y (h.s (by decide) hy), fun z => absurd (Nat.le_refl _) z⟩
  | succ r ih =>
    intro j Y hj hy
    refine b_X12_copies8_2 ?_
    rw [nI_leI (by decide) (by omega), nI_add, nI_clamp (by omega), nI_clamp (by omega), nI_add]
    exact ⟨fun z => absurd z (by omega), fun _ => ⟨(x_vp (by omega)).mpr (by omega), (x_vp (by omega)).mpr (by omega), ih (j + 1) _ (by omega) hy.s⟩⟩
theorem u_cp9 (G : ab_G) (fr : Bool) (S X : ms_S) (tl : ab_H) (h : cpd S 9 X) (K : ms_S → Prop) (c : ∀ Y, cpd S 10 Y → K Y) : ctU G 1 M_X12_copies fr [.ref 9, .int (nI 9)] lM X tl K := by
  refine m_X12_copies9 (fun n0 => ?_)
  suffices KL : ∀ r j (Y : ms_S), j + r = 9 → cpL 9 9 X j Y → L_X12_copies9_2 G fr n0 tl K Y (nI 9) (nI j) from KL 9 0 X rfl cpL.z
  intro r
  induction r with
  | zero =>
    intro j Y hj hy
    refine b_X12_copies9_2 ?_
    rw [nI_leI (by decide) (by omega)]
    have hj : j = 9 := hj
    subst hj
    exact ⟨fun _ => c Y (h.s (by decide) hy), fun z => absurd (Nat.le_refl _) z⟩
  | succ r ih =>
    intro j Y hj hy
    refine b_X12_copies9_2 ?_
    rw [nI_leI (by decide) (by omega), nI_add, nI_clamp (by omega), nI_clamp (by omega), nI_add]
    exact ⟨fun z => absurd z (by omega), fun _ => ⟨(x_vp (by omega)).mpr (by omega), (x_vp (by omega)).mpr (by omega), ih (j + 1) _ (by omega) hy.s⟩⟩
theorem u_cp10 (G : ab_G) (fr : Bool) (S X : ms_S) (tl : ab_H) (h : cpd S 10 X) (K : ms_S → Prop) (c : ∀ Y, cpd S 11 Y → K Y) : ctU G 1 M_X12_copies fr [.ref 10, .int (nI 5)] lM X tl K := by
  refine m_X12_copies10 (fun n0 => ?_)
  suffices KL : ∀ r j (Y : ms_S), j + r = 5 → cpL 5 10 X j Y → L_X12_copies10_2 G fr n0 tl K Y (nI 5) (nI j) from KL 5 0 X rfl cpL.z
  intro r
  induction r with
  | zero =>
    intro j Y hj hy
    refine b_X12_copies10_2 ?_
    rw [nI_leI (by decide) (by omega)]
    have hj : j = 5 := hj
    subst hj
    exact ⟨fun _ => c Y (h.s (by decide) hy), fun z => absurd (Nat.le_refl _) z⟩
  | succ r ih =>
    intro j Y hj hy
    refine b_X12_copies10_2 ?_
    rw [nI_leI (by decide) (by omega), nI_add, nI_clamp (by omega), nI_clamp (by omega), nI_add]
    exact ⟨fun z => absurd z (by omega), fun _ => ⟨(x_vp (by omega)).mpr (by omega), (x_vp (by omega)).mpr (by omega), ih (j + 1) _ (by omega) hy.s⟩⟩
theorem u_cp11 (G : ab_G) (fr : Bool) (S X : ms_S) (tl : ab_H) (h : cpd S 11 X) (K : ms_S → Prop) (c : ∀ Y, cpd S 12 Y → K Y) : ctU G 1 M_X12_copies fr [.ref 11, .int (nI 8)] lM X tl K := by
  refine m_X12_copies11 (fun n0 => ?_)
  suffices KL : ∀ r j (Y : ms_S), j + r = 8 → cpL 8 11 X j Y → L_X12_copies11_2 G fr n0 tl K Y (nI 8) (nI j) from KL 8 0 X rfl cpL.z
  intro r
  induction r with
  | zero =>
    intro j Y hj hy
    refine b_X12_copies11_2 ?_
    rw [nI_leI (by decide) (by omega)]
    have hj : j = 8 := hj
    subst hj
    exact ⟨fun _ => c Y (h.s (by decide) hy), fun z => absurd (Nat.le_refl _) z⟩
  | succ r ih =>
    intro j Y hj hy
    refine b_X12_copies11_2 ?_
    rw [nI_leI (by decide) (by omega), nI_add, nI_clamp (by omega), nI_clamp (by omega), nI_add]
    exact ⟨fun z => absurd z (by omega), fun _ => ⟨(x_vp (by omega)).mpr (by omega), (x_vp (by omega)).mpr (by omega), ih (j + 1) _ (by omega) hy.s⟩⟩
theorem u_cp12 (G : ab_G) (fr : Bool) (S X : ms_S) (tl : ab_H) (h : cpd S 12 X) (K : ms_S → Prop) (c : ∀ Y, cpd S 13 Y → K Y) : ctU G 1 M_X12_copies fr [.ref 12, .int (nI 8)] lM X tl K := by
  refine m_X12_copies12 (fun n0 => ?_)
  suffices KL : ∀ r j (Y : ms_S), j + r = 8 → cpL 8 12 X j Y → L_X12_copies12_2 G fr n0 tl K Y (nI 8) (nI j) from KL 8 0 X rfl cpL.z
  intro r
  induction r with
  | zero =>
    intro j Y hj hy
    refine b_X12_copies12_2 ?_
    rw [nI_leI (by decide) (by omega)]
    have hj : j = 8 := hj
    subst hj
    exact ⟨fun _ => c Y (h.s (by decide) hy), fun z => absurd (Nat.le_refl _) z⟩
  | succ r ih =>
    intro j Y hj hy
    refine b_X12_copies12_2 ?_
    rw [nI_leI (by decide) (by omega), nI_add, nI_clamp (by omega), nI_clamp (by omega), nI_add]
    exact ⟨fun z => absurd z (by omega), fun _ => ⟨(x_vp (by omega)).mpr (by omega), (x_vp (by omega)).mpr (by omega), ih (j + 1) _ (by omega) hy.s⟩⟩
theorem u_cp13 (G : ab_G) (fr : Bool) (S X : ms_S) (tl : ab_H) (h : cpd S 13 X) (K : ms_S → Prop) (c : ∀ Y, cpd S 14 Y → K Y) : ctU G 1 M_X12_copies fr [.ref 13, .int (nI 8)] lM X tl K := by
  refine m_X12_copies13 (fun n0 => ?_)
  suffices KL : ∀ r j (Y : ms_S), j + r = 8 → cpL 8 13 X j Y → L_X12_copies13_2 G fr n0 tl K Y (nI 8) (nI j) from KL 8 0 X rfl cpL.z
  intro r
  induction r with
  | zero =>
    intro j Y hj hy
    refine b_X12_copies13_2 ?_
    rw [nI_leI (by decide) (by omega)]
    have hj : j = 8 := hj
    subst hj
    exact ⟨fun _ => c Y (h.s (by decide) hy), fun z => absurd (Nat.le_refl _) z⟩
  | succ r ih =>
    intro j Y hj hy
    refine b_X12_copies13_2 ?_
    rw [nI_leI (by decide) (by omega), nI_add, nI_clamp (by omega), nI_clamp (by omega), nI_add]
    exact ⟨fun z => absurd z (by omega), fun _ => ⟨(x_vp (by omega)).mpr (by omega), (x_vp (by omega)).mpr (by omega), ih (j + 1) _ (by omega) hy.s⟩⟩
theorem u_cp14 (G : ab_G) (fr : Bool) (S X : ms_S) (tl : ab_H) (h : cpd S 14 X) (K : ms_S → Prop) (c : ∀ Y, cpd S 15 Y → K Y) : ctU G 1 M_X12_copies fr [.ref 14, .int (nI 10)] lM X tl K := by
  refine m_X12_copies14 (fun n0 => ?_)
  suffices KL : ∀ r j (Y : ms_S), j + r = 10 → cpL 10 14 X j Y → L_X12_copies14_2 G fr n0 tl K Y (nI 10) (nI j) from KL 10 0 X rfl cpL.z
  intro r
  induction r with
  | zero =>
    intro j Y hj hy
    refine b_X12_copies14_2 ?_
    rw [nI_leI (by decide) (by omega)]
    have hj : j = 10 := hj
    subst hj
    exact ⟨fun _ => c Y (h.s (by decide) hy), fun z => absurd (Nat.le_refl _) z⟩
  | succ r ih =>
    intro j Y hj hy
    refine b_X12_copies14_2 ?_
    rw [nI_leI (by decide) (by omega), nI_add, nI_clamp (by omega), nI_clamp (by omega), nI_add]
    exact ⟨fun z => absurd z (by omega), fun _ => ⟨(x_vp (by omega)).mpr (by omega), (x_vp (by omega)).mpr (by omega), ih (j + 1) _ (by omega) hy.s⟩⟩
theorem u_cp15 (G : ab_G) (fr : Bool) (S X : ms_S) (tl : ab_H) (h : cpd S 15 X) (K : ms_S → Prop) (c : ∀ Y, cpd S 16 Y → K Y) : ctU G 1 M_X12_copies fr [.ref 15, .int (nI 10)] lM X tl K := by
  refine m_X12_copies15 (fun n0 => ?_)
  suffices KL : ∀ r j (Y : ms_S), j + r = 10 → cpL 10 15 X j Y → L_X12_copies15_2 G fr n0 tl K Y (nI 10) (nI j) from KL 10 0 X rfl cpL.z
  intro r
  induction r with
  | zero =>
    intro j Y hj hy
    refine b_X12_copies15_2 ?_
    rw [nI_leI (by decide) (by omega)]
    have hj : j = 10 := hj
    subst hj
    exact ⟨fun _ => c Y (h.s (by decide) hy), fun z => absurd (Nat.le_refl _) z⟩
  | succ r ih =>
    intro j Y hj hy
    refine b_X12_copies15_2 ?_
    rw [nI_leI (by decide) (by omega), nI_add, nI_clamp (by omega), nI_clamp (by omega), nI_add]
    exact ⟨fun z => absurd z (by omega), fun _ => ⟨(x_vp (by omega)).mpr (by omega), (x_vp (by omega)).mpr (by omega), ih (j + 1) _ (by omega) hy.s⟩⟩
theorem u_cp17 (G : ab_G) (fr : Bool) (S X : ms_S) (tl : ab_H) (h : cpd S 17 X) (K : ms_S → Prop) (c : ∀ Y, cpd S 18 Y → K Y) : ctU G 1 M_X12_copies fr [.ref 17, .int (nI 3)] lM X tl K := by
  refine m_X12_copies17 (fun n0 => ?_)
  suffices KL : ∀ r j (Y : ms_S), j + r = 3 → cpL 3 17 X j Y → L_X12_copies17_2 G fr n0 tl K Y (nI 3) (nI j) from KL 3 0 X rfl cpL.z
  intro r
  induction r with
  | zero =>
    intro j Y hj hy
    refine b_X12_copies17_2 ?_
    rw [nI_leI (by decide) (by omega)]
    have hj : j = 3 := hj
    subst hj
    exact ⟨fun _ => c Y (h.s (by decide) hy), fun z => absurd (Nat.le_refl _) z⟩
  | succ r ih =>
    intro j Y hj hy
    refine b_X12_copies17_2 ?_
    rw [nI_leI (by decide) (by omega), nI_add, nI_clamp (by omega), nI_clamp (by omega), nI_add]
    exact ⟨fun z => absurd z (by omega), fun _ => ⟨(x_vp (by omega)).mpr (by omega), (x_vp (by omega)).mpr (by omega), ih (j + 1) _ (by omega) hy.s⟩⟩
theorem u_cp18 (G : ab_G) (fr : Bool) (S X : ms_S) (tl : ab_H) (h : cpd S 18 X) (K : ms_S → Prop) (c : ∀ Y, cpd S 19 Y → K Y) : ctU G 1 M_X12_copies fr [.ref 18, .int (nI 3)] lM X tl K := by
  refine m_X12_copies18 (fun n0 => ?_)
  suffices KL : ∀ r j (Y : ms_S), j + r = 3 → cpL 3 18 X j Y → L_X12_copies18_2 G fr n0 tl K Y (nI 3) (nI j) from KL 3 0 X rfl cpL.z
  intro r
  induction r with
  | zero =>
    intro j Y hj hy
    refine b_X12_copies18_2 ?_
    rw [nI_leI (by decide) (by omega)]
    have hj : j = 3 := hj
    subst hj
    exact ⟨fun _ => c Y (h.s (by decide) hy), fun z => absurd (Nat.le_refl _) z⟩
  | succ r ih =>
    intro j Y hj hy
    refine b_X12_copies18_2 ?_
    rw [nI_leI (by decide) (by omega), nI_add, nI_clamp (by omega), nI_clamp (by omega), nI_add]
    exact ⟨fun z => absurd z (by omega), fun _ => ⟨(x_vp (by omega)).mpr (by omega), (x_vp (by omega)).mpr (by omega), ih (j + 1) _ (by omega) hy.s⟩⟩
theorem u_cp19 (G : ab_G) (fr : Bool) (S X : ms_S) (tl : ab_H) (h : cpd S 19 X) (K : ms_S → Prop) (c : ∀ Y, cpd S 20 Y → K Y) : ctU G 1 M_X12_copies fr [.ref 19, .int (nI 64)] lM X tl K := by
  refine m_X12_copies19 (fun n0 => ?_)
  suffices KL : ∀ r j (Y : ms_S), j + r = 64 → cpL 64 19 X j Y → L_X12_copies19_2 G fr n0 tl K Y (nI 64) (nI j) from KL 64 0 X rfl cpL.z
  intro r
  induction r with
  | zero =>
    intro j Y hj hy
    refine b_X12_copies19_2 ?_
    rw [nI_leI (by decide) (by omega)]
    have hj : j = 64 := hj
    subst hj
    exact ⟨fun _ => c Y (h.s (by decide) hy), fun z => absurd (Nat.le_refl _) z⟩
  | succ r ih =>
    intro j Y hj hy
    refine b_X12_copies19_2 ?_
    rw [nI_leI (by decide) (by omega), nI_add, nI_clamp (by omega), nI_clamp (by omega), nI_add]
    exact ⟨fun z => absurd z (by omega), fun _ => ⟨(x_vp (by omega)).mpr (by omega), (x_vp (by omega)).mpr (by omega), ih (j + 1) _ (by omega) hy.s⟩⟩
theorem u_cp20 (G : ab_G) (fr : Bool) (S X : ms_S) (tl : ab_H) (h : cpd S 20 X) (K : ms_S → Prop) (c : ∀ Y, cpd S 21 Y → K Y) : ctU G 1 M_X12_copies fr [.ref 20, .int (nI 64)] lM X tl K := by
  refine m_X12_copies20 (fun n0 => ?_)
  suffices KL : ∀ r j (Y : ms_S), j + r = 64 → cpL 64 20 X j Y → L_X12_copies20_2 G fr n0 tl K Y (nI 64) (nI j) from KL 64 0 X rfl cpL.z
  intro r
  induction r with
  | zero =>
    intro j Y hj hy
    refine b_X12_copies20_2 ?_
    rw [nI_leI (by decide) (by omega)]
    have hj : j = 64 := hj
    subst hj
    exact ⟨fun _ => c Y (h.s (by decide) hy), fun z => absurd (Nat.le_refl _) z⟩
  | succ r ih =>
    intro j Y hj hy
    refine b_X12_copies20_2 ?_
    rw [nI_leI (by decide) (by omega), nI_add, nI_clamp (by omega), nI_clamp (by omega), nI_add]
    exact ⟨fun z => absurd z (by omega), fun _ => ⟨(x_vp (by omega)).mpr (by omega), (x_vp (by omega)).mpr (by omega), ih (j + 1) _ (by omega) hy.s⟩⟩
theorem u_cp21 (G : ab_G) (fr : Bool) (S X : ms_S) (tl : ab_H) (h : cpd S 21 X) (K : ms_S → Prop) (c : ∀ Y, cpd S 22 Y → K Y) : ctU G 1 M_X12_copies fr [.ref 21, .int (nI 64)] lM X tl K := by
  refine m_X12_copies21 (fun n0 => ?_)
  suffices KL : ∀ r j (Y : ms_S), j + r = 64 → cpL 64 21 X j Y → L_X12_copies21_2 G fr n0 tl K Y (nI 64) (nI j) from KL 64 0 X rfl cpL.z
  intro r
  induction r with
  | zero =>
    intro j Y hj hy
    refine b_X12_copies21_2 ?_
    rw [nI_leI (by decide) (by omega)]
    have hj : j = 64 := hj
    subst hj
    exact ⟨fun _ => c Y (h.s (by decide) hy), fun z => absurd (Nat.le_refl _) z⟩
  | succ r ih =>
    intro j Y hj hy
    refine b_X12_copies21_2 ?_
    rw [nI_leI (by decide) (by omega), nI_add, nI_clamp (by omega), nI_clamp (by omega), nI_add]
    exact ⟨fun z => absurd z (by omega), fun _ => ⟨(x_vp (by omega)).mpr (by omega), (x_vp (by omega)).mpr (by omega), ih (j + 1) _ (by omega) hy.s⟩⟩

