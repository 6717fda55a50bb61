/-! ===== the program: estates copied, the past, the image ===== -/
abbrev eC (d s : Nat) : List Nat := [d, d + 1, d + 2, d + 3, s, s + 1, s + 2, s + 3]
def okC (d s : Nat) : Prop := lyIn (eC d s) lB (eC d s) lE2 ∧ ndL (eC d s) = true
theorem okC_86_82 : okC 86 82 := ⟨⟨rfl, rfl, ⟨rfl, rfl, ⟨rfl, rfl, ⟨rfl, rfl, ⟨rfl, rfl, ⟨rfl, rfl, ⟨rfl, rfl, ⟨rfl, rfl, trivial⟩⟩⟩⟩⟩⟩⟩⟩, by decide +kernel⟩
theorem okC_82_86 : okC 82 86 := ⟨⟨rfl, rfl, ⟨rfl, rfl, ⟨rfl, rfl, ⟨rfl, rfl, ⟨rfl, rfl, ⟨rfl, rfl, ⟨rfl, rfl, ⟨rfl, rfl, trivial⟩⟩⟩⟩⟩⟩⟩⟩, by decide +kernel⟩
theorem okC_90_82 : okC 90 82 := ⟨⟨rfl, rfl, ⟨rfl, rfl, ⟨rfl, rfl, ⟨rfl, rfl, ⟨rfl, rfl, ⟨rfl, rfl, ⟨rfl, rfl, ⟨rfl, rfl, trivial⟩⟩⟩⟩⟩⟩⟩⟩, by decide +kernel⟩
theorem okC_82_90 : okC 82 90 := ⟨⟨rfl, rfl, ⟨rfl, rfl, ⟨rfl, rfl, ⟨rfl, rfl, ⟨rfl, rfl, ⟨rfl, rfl, ⟨rfl, rfl, ⟨rfl, rfl, trivial⟩⟩⟩⟩⟩⟩⟩⟩, by decide +kernel⟩
theorem okC_p {j : Nat} (h : j < 20) : okC (95 + 4 * j) 82 ∧ okC 82 (95 + 4 * j) := by
  rcases (show j = 0 ∨ j = 1 ∨ j = 2 ∨ j = 3 ∨ j = 4 ∨ j = 5 ∨ j = 6 ∨ j = 7 ∨ j = 8 ∨ j = 9 ∨ j = 10 ∨ j = 11 ∨ j = 12 ∨ j = 13 ∨ j = 14 ∨ j = 15 ∨ j = 16 ∨ j = 17 ∨ j = 18 ∨ j = 19 by omega) with rfl | rfl | rfl | rfl | rfl | rfl | rfl | rfl | rfl | rfl | rfl | rfl | rfl | rfl | rfl | rfl | rfl | rfl | rfl | rfl
  · exact ⟨⟨⟨rfl, rfl, ⟨rfl, rfl, ⟨rfl, rfl, ⟨rfl, rfl, ⟨rfl, rfl, ⟨rfl, rfl, ⟨rfl, rfl, ⟨rfl, rfl, trivial⟩⟩⟩⟩⟩⟩⟩⟩, by decide +kernel⟩, ⟨⟨rfl, rfl, ⟨rfl, rfl, ⟨rfl, rfl, ⟨rfl, rfl, ⟨rfl, rfl, ⟨rfl, rfl, ⟨rfl, rfl, ⟨rfl, rfl, trivial⟩⟩⟩⟩⟩⟩⟩⟩, by decide +kernel⟩⟩
  · exact ⟨⟨⟨rfl, rfl, ⟨rfl, rfl, ⟨rfl, rfl, ⟨rfl, rfl, ⟨rfl, rfl, ⟨rfl, rfl, ⟨rfl, rfl, ⟨rfl, rfl, trivial⟩⟩⟩⟩⟩⟩⟩⟩, by decide +kernel⟩, ⟨⟨rfl, rfl, ⟨rfl, rfl, ⟨rfl, rfl, ⟨rfl, rfl, ⟨rfl, rfl, ⟨rfl, rfl, ⟨rfl, rfl, ⟨rfl, rfl, trivial⟩⟩⟩⟩⟩⟩⟩⟩, by decide +kernel⟩⟩
  · exact ⟨⟨⟨rfl, rfl, ⟨rfl, rfl, ⟨rfl, rfl, ⟨rfl, rfl, ⟨rfl, rfl, ⟨rfl, rfl, ⟨rfl, rfl, ⟨rfl, rfl, trivial⟩⟩⟩⟩⟩⟩⟩⟩, by decide +kernel⟩, ⟨⟨rfl, rfl, ⟨rfl, rfl, ⟨rfl, rfl, ⟨rfl, rfl, ⟨rfl, rfl, ⟨rfl, rfl, ⟨rfl, rfl, ⟨rfl, rfl, trivial⟩⟩⟩⟩⟩⟩⟩⟩, by decide +kernel⟩⟩
  · exact ⟨⟨⟨rfl, rfl, ⟨rfl, rfl, ⟨rfl, rfl, ⟨rfl, rfl, ⟨rfl, rfl, ⟨rfl, rfl, ⟨rfl, rfl, ⟨rfl, rfl, trivial⟩⟩⟩⟩⟩⟩⟩⟩, by decide +kernel⟩, ⟨⟨rfl, rfl, ⟨rfl, rfl, ⟨rfl, rfl, ⟨rfl, rfl, ⟨rfl, rfl, ⟨rfl, rfl, ⟨rfl, rfl, ⟨rfl, rfl, trivial⟩⟩⟩⟩⟩⟩⟩⟩, by decide +kernel⟩⟩
  · exact ⟨⟨⟨rfl, rfl, ⟨rfl, rfl, ⟨rfl, rfl, ⟨rfl, rfl, ⟨rfl, rfl, ⟨rfl, rfl, ⟨rfl, rfl, ⟨rfl, rfl, trivial⟩⟩⟩⟩⟩⟩⟩⟩, by decide +kernel⟩, ⟨⟨rfl, rfl, ⟨rfl, rfl, ⟨rfl, rfl, ⟨rfl, rfl, ⟨rfl, rfl, ⟨rfl, rfl, ⟨rfl, rfl, ⟨rfl, rfl, trivial⟩⟩⟩⟩⟩⟩⟩⟩, by decide +kernel⟩⟩
  · exact ⟨⟨⟨rfl, rfl, ⟨rfl, rfl, ⟨rfl, rfl, ⟨rfl, rfl, ⟨rfl, rfl, ⟨rfl, rfl, ⟨rfl, rfl, ⟨rfl, rfl, trivial⟩⟩⟩⟩⟩⟩⟩⟩, by decide +kernel⟩, ⟨⟨rfl, rfl, ⟨rfl, rfl, ⟨rfl, rfl, ⟨rfl, rfl, ⟨rfl, rfl, ⟨rfl, rfl, ⟨rfl, rfl, ⟨rfl, rfl, trivial⟩⟩⟩⟩⟩⟩⟩⟩, by decide +kernel⟩⟩
  · exact ⟨⟨⟨rfl, rfl, ⟨rfl, rfl, ⟨rfl, rfl, ⟨rfl, rfl, ⟨rfl, rfl, ⟨rfl, rfl, ⟨rfl, rfl, ⟨rfl, rfl, trivial⟩⟩⟩⟩⟩⟩⟩⟩, by decide +kernel⟩, ⟨⟨rfl, rfl, ⟨rfl, rfl, ⟨rfl, rfl, ⟨rfl, rfl, ⟨rfl, rfl, ⟨rfl, rfl, ⟨rfl, rfl, ⟨rfl, rfl, trivial⟩⟩⟩⟩⟩⟩⟩⟩, by decide +kernel⟩⟩
  · exact ⟨⟨⟨rfl, rfl, ⟨rfl, rfl, ⟨rfl, rfl, ⟨rfl, rfl, ⟨rfl, rfl, ⟨rfl, rfl, ⟨rfl, rfl, ⟨rfl, rfl, trivial⟩⟩⟩⟩⟩⟩⟩⟩, by decide +kernel⟩, ⟨⟨rfl, rfl, ⟨rfl, rfl, ⟨rfl, rfl, ⟨rfl, rfl, ⟨rfl, rfl, ⟨rfl, rfl, ⟨rfl, rfl, ⟨rfl, rfl, trivial⟩⟩⟩⟩⟩⟩⟩⟩, by decide +kernel⟩⟩
  · exact ⟨⟨⟨rfl, rfl, ⟨rfl, rfl, ⟨rfl, rfl, ⟨rfl, rfl, ⟨rfl, rfl, ⟨rfl, rfl, ⟨rfl, rfl, ⟨rfl, rfl, trivial⟩⟩⟩⟩⟩⟩⟩⟩, by decide +kernel⟩, ⟨⟨rfl, rfl, ⟨rfl, rfl, ⟨rfl, rfl, ⟨rfl, rfl, ⟨rfl, rfl, ⟨rfl, rfl, ⟨rfl, rfl, ⟨rfl, rfl, trivial⟩⟩⟩⟩⟩⟩⟩⟩, by decide +kernel⟩⟩
  · exact ⟨⟨⟨rfl, rfl, ⟨rfl, rfl, ⟨rfl, rfl, ⟨rfl, rfl, ⟨rfl, rfl, ⟨rfl, rfl, ⟨rfl, rfl, ⟨rfl, rfl, trivial⟩⟩⟩⟩⟩⟩⟩⟩, by decide +kernel⟩, ⟨⟨rfl, rfl, ⟨rfl, rfl, ⟨rfl, rfl, ⟨rfl, rfl, ⟨rfl, rfl, ⟨rfl, rfl, ⟨rfl, rfl, ⟨rfl, rfl, trivial⟩⟩⟩⟩⟩⟩⟩⟩, by decide +kernel⟩⟩
  · exact ⟨⟨⟨rfl, rfl, ⟨rfl, rfl, ⟨rfl, rfl, ⟨rfl, rfl, ⟨rfl, rfl, ⟨rfl, rfl, ⟨rfl, rfl, ⟨rfl, rfl, trivial⟩⟩⟩⟩⟩⟩⟩⟩, by decide +kernel⟩, ⟨⟨rfl, rfl, ⟨rfl, rfl, ⟨rfl, rfl, ⟨rfl, rfl, ⟨rfl, rfl, ⟨rfl, rfl, ⟨rfl, rfl, ⟨rfl, rfl, trivial⟩⟩⟩⟩⟩⟩⟩⟩, by decide +kernel⟩⟩
  · exact ⟨⟨⟨rfl, rfl, ⟨rfl, rfl, ⟨rfl, rfl, ⟨rfl, rfl, ⟨rfl, rfl, ⟨rfl, rfl, ⟨rfl, rfl, ⟨rfl, rfl, trivial⟩⟩⟩⟩⟩⟩⟩⟩, by decide +kernel⟩, ⟨⟨rfl, rfl, ⟨rfl, rfl, ⟨rfl, rfl, ⟨rfl, rfl, ⟨rfl, rfl, ⟨rfl, rfl, ⟨rfl, rfl, ⟨rfl, rfl, trivial⟩⟩⟩⟩⟩⟩⟩⟩, by decide +kernel⟩⟩
  · exact ⟨⟨⟨rfl, rfl, ⟨rfl, rfl, ⟨rfl, rfl, ⟨rfl, rfl, ⟨rfl, rfl, ⟨rfl, rfl, ⟨rfl, rfl, ⟨rfl, rfl, trivial⟩⟩⟩⟩⟩⟩⟩⟩, by decide +kernel⟩, ⟨⟨rfl, rfl, ⟨rfl, rfl, ⟨rfl, rfl, ⟨rfl, rfl, ⟨rfl, rfl, ⟨rfl, rfl, ⟨rfl, rfl, ⟨rfl, rfl, trivial⟩⟩⟩⟩⟩⟩⟩⟩, by decide +kernel⟩⟩
  · exact ⟨⟨⟨rfl, rfl, ⟨rfl, rfl, ⟨rfl, rfl, ⟨rfl, rfl, ⟨rfl, rfl, ⟨rfl, rfl, ⟨rfl, rfl, ⟨rfl, rfl, trivial⟩⟩⟩⟩⟩⟩⟩⟩, by decide +kernel⟩, ⟨⟨rfl, rfl, ⟨rfl, rfl, ⟨rfl, rfl, ⟨rfl, rfl, ⟨rfl, rfl, ⟨rfl, rfl, ⟨rfl, rfl, ⟨rfl, rfl, trivial⟩⟩⟩⟩⟩⟩⟩⟩, by decide +kernel⟩⟩
  · exact ⟨⟨⟨rfl, rfl, ⟨rfl, rfl, ⟨rfl, rfl, ⟨rfl, rfl, ⟨rfl, rfl, ⟨rfl, rfl, ⟨rfl, rfl, ⟨rfl, rfl, trivial⟩⟩⟩⟩⟩⟩⟩⟩, by decide +kernel⟩, ⟨⟨rfl, rfl, ⟨rfl, rfl, ⟨rfl, rfl, ⟨rfl, rfl, ⟨rfl, rfl, ⟨rfl, rfl, ⟨rfl, rfl, ⟨rfl, rfl, trivial⟩⟩⟩⟩⟩⟩⟩⟩, by decide +kernel⟩⟩
  · exact ⟨⟨⟨rfl, rfl, ⟨rfl, rfl, ⟨rfl, rfl, ⟨rfl, rfl, ⟨rfl, rfl, ⟨rfl, rfl, ⟨rfl, rfl, ⟨rfl, rfl, trivial⟩⟩⟩⟩⟩⟩⟩⟩, by decide +kernel⟩, ⟨⟨rfl, rfl, ⟨rfl, rfl, ⟨rfl, rfl, ⟨rfl, rfl, ⟨rfl, rfl, ⟨rfl, rfl, ⟨rfl, rfl, ⟨rfl, rfl, trivial⟩⟩⟩⟩⟩⟩⟩⟩, by decide +kernel⟩⟩
  · exact ⟨⟨⟨rfl, rfl, ⟨rfl, rfl, ⟨rfl, rfl, ⟨rfl, rfl, ⟨rfl, rfl, ⟨rfl, rfl, ⟨rfl, rfl, ⟨rfl, rfl, trivial⟩⟩⟩⟩⟩⟩⟩⟩, by decide +kernel⟩, ⟨⟨rfl, rfl, ⟨rfl, rfl, ⟨rfl, rfl, ⟨rfl, rfl, ⟨rfl, rfl, ⟨rfl, rfl, ⟨rfl, rfl, ⟨rfl, rfl, trivial⟩⟩⟩⟩⟩⟩⟩⟩, by decide +kernel⟩⟩
  · exact ⟨⟨⟨rfl, rfl, ⟨rfl, rfl, ⟨rfl, rfl, ⟨rfl, rfl, ⟨rfl, rfl, ⟨rfl, rfl, ⟨rfl, rfl, ⟨rfl, rfl, trivial⟩⟩⟩⟩⟩⟩⟩⟩, by decide +kernel⟩, ⟨⟨rfl, rfl, ⟨rfl, rfl, ⟨rfl, rfl, ⟨rfl, rfl, ⟨rfl, rfl, ⟨rfl, rfl, ⟨rfl, rfl, ⟨rfl, rfl, trivial⟩⟩⟩⟩⟩⟩⟩⟩, by decide +kernel⟩⟩
  · exact ⟨⟨⟨rfl, rfl, ⟨rfl, rfl, ⟨rfl, rfl, ⟨rfl, rfl, ⟨rfl, rfl, ⟨rfl, rfl, ⟨rfl, rfl, ⟨rfl, rfl, trivial⟩⟩⟩⟩⟩⟩⟩⟩, by decide +kernel⟩, ⟨⟨rfl, rfl, ⟨rfl, rfl, ⟨rfl, rfl, ⟨rfl, rfl, ⟨rfl, rfl, ⟨rfl, rfl, ⟨rfl, rfl, ⟨rfl, rfl, trivial⟩⟩⟩⟩⟩⟩⟩⟩, by decide +kernel⟩⟩
  · exact ⟨⟨⟨rfl, rfl, ⟨rfl, rfl, ⟨rfl, rfl, ⟨rfl, rfl, ⟨rfl, rfl, ⟨rfl, rfl, ⟨rfl, rfl, ⟨rfl, rfl, trivial⟩⟩⟩⟩⟩⟩⟩⟩, by decide +kernel⟩, ⟨⟨rfl, rfl, ⟨rfl, rfl, ⟨rfl, rfl, ⟨rfl, rfl, ⟨rfl, rfl, ⟨rfl, rfl, ⟨rfl, rfl, ⟨rfl, rfl, trivial⟩⟩⟩⟩⟩⟩⟩⟩, by decide +kernel⟩⟩
def aEd (d : Nat) : Nat → Bool := fun a => Nat.ble d a && Nat.ble a (d + 3)
theorem aEd_n {d a : Nat} (h : a < d ∨ d + 3 < a) : aEd d a = false := bt_f (by omega)
theorem aEd_y {d a : Nat} (h : d ≤ a) (h2 : a ≤ d + 3) : aEd d a = true := by
  unfold aEd
  rw [Nat.ble_eq_true_of_le h, Nat.ble_eq_true_of_le h2]
  rfl
theorem eC_a {d s : Nat} : ∀ k, k < (eC d s).length → aCp k = true → aEd d ((eC d s).getD k 0) = true := by
  intro k hk h
  rcases (show k = 0 ∨ k = 1 ∨ k = 2 ∨ k = 3 ∨ k = 4 ∨ k = 5 ∨ k = 6 ∨ k = 7 by have : k < 8 := hk; omega) with rfl | rfl | rfl | rfl | rfl | rfl | rfl | rfl
  · exact aEd_y (Nat.le_refl _) (Nat.le_add_right _ _)
  · exact aEd_y (Nat.le_add_right _ _) (Nat.add_le_add_left (by decide) _)
  · exact aEd_y (Nat.le_add_right _ _) (Nat.add_le_add_left (by decide) _)
  · exact aEd_y (Nat.le_add_right _ _) (Nat.le_refl _)
  · cases h
  · cases h
  · cases h
  · cases h
theorem u_copyB {G : ab_G} {tl : ab_H} {S : ms_S} {d s : Nat} (h : okC d s) (K : ms_S → Prop) (k : ∀ S', cF (aEd d) S S' → (∀ P x dn, bEs S s P x dn → bEs S' d P x dn) → K S') : ctU G 1 M_X1_copyFrom false [.ref d, .ref s] lB S tl K := by
  refine ctU.tr (eC d s) h.1 h.2 (as' := [.ref 0, .ref 4]) rfl (fun G' => u_copy (G := G') (S := rsS (eC d s) S) (tl := []) false _ (fun T f x1 x2 => k _ (mg_cF f eC_a) (fun P x dn hx => ?_)))
  have q0 : (mgS (eC d s) S T).1 d = T.1 0 := rs_mg h.2 (V := S.1) (T := T.1) (k := 0) (show 0 < 8 by decide)
  have q1 : (mgS (eC d s) S T).2.2.2.1 (d + 1) = T.2.2.2.1 1 := rs_mg h.2 (V := S.2.2.2.1) (T := T.2.2.2.1) (k := 1) (show 1 < 8 by decide)
  have q2 : (mgS (eC d s) S T).2.2.2.1 (d + 2) = T.2.2.2.1 2 := rs_mg h.2 (V := S.2.2.2.1) (T := T.2.2.2.1) (k := 2) (show 2 < 8 by decide)
  have q3 : (mgS (eC d s) S T).2.2.2.1 (d + 3) = T.2.2.2.1 3 := rs_mg h.2 (V := S.2.2.2.1) (T := T.2.2.2.1) (k := 3) (show 3 < 8 by decide)
  obtain ⟨y1, y2, y3, y4, y5, y6, y7, y8, y9, y10⟩ := hx
  refine ⟨fun i hi => ?_, fun i hi => ⟨?_, (y2 i hi).2⟩, fun i hi => ?_, ?_, y5, ?_, ?_, ?_, ⟨?_, y9.2⟩, y10⟩
  · rw [q1]; exact (x1 i hi).1.trans (y1 i hi)
  · rw [q2]; exact (x1 i hi).2.1.trans (y2 i hi).1
  · rw [q3]; exact (x1 i hi).2.2.trans (y3 i hi)
  · rw [q0]; exact (x2 3 (by decide) (by decide)).trans y4
  · rw [q0]; exact (x2 4 (by decide) (by decide)).trans y6
  · rw [q0]; exact (x2 5 (by decide) (by decide)).trans y7
  · rw [q0]; exact (x2 6 (by decide) (by decide)).trans y8
  · rw [q0]; exact (x2 7 (by decide) (by decide)).trans y9.1
/-! parts of the state when few cells change -/
theorem bQ_X {A : Nat → Bool} {S S' : ms_S} {g : tSG} {o : Nat → Option tDQ} {V : Nat} {s' : tES} {dn' : Nat} {U' : tU} {im' : tIm} (h : bQ S g o V) (f : cF A S S') (hA : ∀ a, (1 ≤ a ∧ a ≤ 81) → A a = false)
    (hE : bEs S' 82 g.1.1 s' dn') (hd : s'.2.2.2.2 ≤ 9000) (hi : bQi S' g.1.1 im') (hu : bQu S' g.1.1 U' s' dn') (h15 : S'.1 0 15 = S.1 0 15) (h16 : S'.1 0 16 = S.1 0 16) : bQ S' (gS g s' dn' U' im') o V := by
  obtain ⟨h1, h2, h3, h4, h5, h6, h7, h8⟩ := h
  have f2 : cF (fun k => A (e_CN.getD k 0)) (cN S) (cN S') := rs_cF2 f
  have hB : ∀ k, k < 46 → (fun k => A (e_CN.getD k 0)) k = false := by
    intro k hk
    have t : ∀ k, k < 46 → 1 ≤ e_CN.getD k 0 ∧ e_CN.getD k 0 ≤ 81 := by decide
    exact hA _ (t k hk)
  refine ⟨?_, bQw_F f2 (hB 32 (by decide)) (hB 33 (by decide)) (hB 25 (by decide)) (hB 26 (by decide)) (hB 27 (by decide)) (hB 28 (by decide)) (congrFun (f2.1 31 (hB 31 (by decide))) 6) (congrFun (f2.1 31 (hB 31 (by decide))) 7) h2, bNt_F f2 (hB 40 (by decide)) (hB 41 (by decide)) (hB 42 (by decide)) (hB 43 (by decide)) (hB 44 (by decide)) (hB 45 (by decide)) h3, hE, hd, hi, hu, ?_⟩
  · exact bQp_F (g := g) f2 ⟨hB 0 (by decide), hB 2 (by decide), hB 3 (by decide), hB 4 (by decide), hB 13 (by decide), hB 14 (by decide), hB 17 (by decide), hB 18 (by decide), hB 21 (by decide), hB 22 (by decide)⟩ (hB 1 (by decide)) (hB 5 (by decide)) (hB 6 (by decide)) (hB 7 (by decide)) (hB 8 (by decide)) (hB 9 (by decide)) (hB 10 (by decide)) (hB 11 (by decide)) h1
  · obtain ⟨t1, t2, t3, t4, t5, t6⟩ := h8
    exact ⟨t1, (congrFun (f.1 1 (hA 1 (by decide))) 2).trans t2, fun i hi => ⟨(congrFun (f.2.2.1 2 (hA 2 (by decide))) i).trans (t3 i hi).1, (t3 i hi).2⟩, fun k hk => (congrFun (f.2.2.1 3 (hA 3 (by decide))) k).trans (t4 k hk), h15.trans t5, h16.trans t6⟩
theorem pPa_b {e u k : Nat} : 95 ≤ pPa e u k ∧ pPa e u k ≤ 171 := by
  show 95 ≤ 95 + 4 * ((e + 20 - u + k) % 20) ∧ 95 + 4 * ((e + 20 - u + k) % 20) ≤ 171
  omega
section PAST
variable {G : ab_G} {tl : ab_H} {S : ms_S} {g : tSG} {o : Nat → Option tDQ} {V : Nat}
theorem d_keep (hQ : bQ S g o V) : ctI G 2 M_X11_keep false [.ref 0] lB S tl (fun v S' => bQ S' (N_keep g) o (V + 5000) ∧ v = nI g.1.2.2.2.1.2.2.2.2) := by
  refine ctI.ab (fun K hK => m_X11_keep (fun n0 => u_copyB okC_90_82 _ (fun S1 f1 hc => hK _ _ ?_)))
  obtain ⟨h1, h2, h3, h4, h5, h6, h7, h8⟩ := id hQ
  have e82 : S1.1 82 3 = nI g.1.2.2.2.1.2.2.2.2 := (congrFun (f1.1 82 rfl) 3).trans h4.2.2.2.1
  refine ⟨bQ_m (V := V) ?_ (by omega), e82⟩
  have f2 : cF (fun a => aEd 90 a || Nat.beq a 0) S (sV S1 14 (nI 1)) := (f1.mono (fun a q => (Bool.or_eq_false_iff.mp q).1)).tr (cF.sVa (a := 0) rfl)
  have nA : ∀ a, ¬ a = 0 → (a < 90 ∨ 93 < a) → (fun a => aEd 90 a || Nat.beq a 0) a = false := fun a z y => by
    show (aEd 90 a || Nat.beq a 0) = false
    rw [aEd_n y, bq_ne z]; rfl
  refine bQ_X hQ f2 (fun a ha => nA a (by omega) (by omega)) ?_ h5 ?_ ?_ (congrFun (f1.1 0 rfl) 15) (congrFun (f1.1 0 rfl) 16)
  · exact bEs_F (bEs_N.mp h4) (f2.1 82 (nA 82 (by decide) (by decide))) (f2.2.2.1 83 (nA 83 (by decide) (by decide))) (f2.2.2.1 84 (nA 84 (by decide) (by decide))) (f2.2.2.1 85 (nA 85 (by decide) (by decide)))
  · refine ⟨rfl, fun x hx => ?_⟩
    cases hx
    exact ⟨bEs_F (S := S1) (hc _ _ _ (bEs_N.mp h4)) rfl rfl rfl rfl, h5⟩
  · refine bQu_F h7 (congrFun (f1.1 0 rfl) 12) (congrFun (f1.1 0 rfl) 13) (fun a q => f2.1 a (nA a (by omega) (by omega))) (fun a q => f2.2.2.1 a (nA a (by omega) (by omega)))
theorem d_back (hQ : bQ S g o V) : ctI G 2 M_X11_back false [.ref 0] lB S tl (fun v S' => bQ S' (N_back g) o (V + 5000) ∧ v = A_back g) := by
  refine ctI.ab (fun K hK => m_X11_back (fun n0 => ?_))
  obtain ⟨h1, h2, h3, h4, h5, h6, h7, h8⟩ := id hQ
  unfold N_back A_back at hK
  rw [show S.1 0 14 = bI g.2.2.1.isSome from h6.1, x_b0]
  cases hi : g.2.2.1 with
  | none =>
    rw [hi] at hK
    exact ⟨fun _ => hK _ _ ⟨bQ_m hQ (by omega), rfl⟩, fun q => absurd rfl q⟩
  | some x =>
    rw [hi] at hK h6
    dsimp only at hK
    refine ⟨(fun q => by cases q), fun _ => u_copyB okC_82_90 _ (fun S1 f1 hc => hK _ _ ?_)⟩
    obtain ⟨i1, i2⟩ := h6.2 x rfl
    have e1 := hc _ _ _ i1
    refine ⟨bQ_m (V := V) ?_ (by omega), e1.2.2.2.1⟩
    have f2 : cF (fun a => aEd 82 a || Nat.beq a 0) S (sV S1 13 (nI 0)) := (f1.mono (fun a q => (Bool.or_eq_false_iff.mp q).1)).tr (cF.sVa (a := 0) rfl)
    have nA : ∀ a, ¬ a = 0 → (a < 82 ∨ 85 < a) → (fun a => aEd 82 a || Nat.beq a 0) a = false := fun a z y => by
      show (aEd 82 a || Nat.beq a 0) = false
      rw [aEd_n y, bq_ne z]; rfl
    refine bQ_X hQ f2 (fun a ha => nA a (by omega) (by omega)) (bEs_F (S := S1) e1 rfl rfl rfl rfl) i2 ?_ ?_ (congrFun (f1.1 0 rfl) 15) (congrFun (f1.1 0 rfl) 16)
    · refine ⟨(congrFun (f1.1 0 rfl) 14).trans h6.1, fun y hy => ⟨bEs_F (h6.2 y hy).1 (f2.1 90 (nA 90 (by decide) (by decide))) (f2.2.2.1 91 (nA 91 (by decide) (by decide))) (f2.2.2.1 92 (nA 92 (by decide) (by decide))) (f2.2.2.1 93 (nA 93 (by decide) (by decide))), (h6.2 y hy).2⟩⟩
    · obtain ⟨u1, u2, e, u3, u4, u5⟩ := h7
      exact ⟨Nat.zero_le _, rfl, e, u3, (congrFun (f1.1 0 rfl) 12).trans u4, fun k hk => absurd hk (Nat.not_lt_zero _)⟩
theorem u_rem (hQ : bQ S g o V) (K : ms_S → Prop) (k : ∀ S', bQ S' (gS g g.1.2.2.2.1 g.1.2.2.2.2 (pushU g.2.1 g.1.2.2.2.1) g.2.2.1) o V → (∀ P x dn, bEs S 86 P x dn → bEs S' 86 P x dn) → K S') : ctU G 2 M_X11_remember false [.ref 0] lB S tl K := by
  obtain ⟨h1, h2, h3, h4, h5, h6, ⟨u1, u2, e, u3, u4, u5⟩, h9⟩ := id hQ
  have h8 := h6
  refine m_X11_remember (fun n0 => ?_)
  have KK : ∀ j, j < 20 → S.1 0 12 = nI j → ctU G 1 M_X1_copyFrom false [.ref (95 + 4 * j), .ref 82] lB S tl (fun S1 => ¬ (nI 20) = 0 ∧ (K (sV (sV S1 12 (((S1.1 0 12) + (nI 1)) - ((S1.1 0 12) + (nI 1)) / (nI 20) * (nI 20))) 13 (if (nI 20) < ((S1.1 0 13) + (nI 1)) then (nI 20) else ((S1.1 0 13) + (nI 1)))))) := by
    intro j hj ej
    have hje : j = e := (nI_eq (by omega) (by omega)).mp (ej.symm.trans u4)
    subst hje
    refine u_copyB (okC_p hj).1 _ (fun S1 f1 hc => ⟨by decide, ?_⟩)
    have n0' : aEd (95 + 4 * j) 0 = false := aEd_n (by omega)
    rw [show S1.1 0 12 = nI j from (congrFun (f1.1 0 n0') 12).trans u4, show S1.1 0 13 = nI g.2.1.1 from (congrFun (f1.1 0 n0') 13).trans u2, nI_add, nI_add, pk_mod (by omega) (by decide) (by decide)]
    have e13 : (if nI 20 < nI (g.2.1.1 + 1) then nI 20 else nI (g.2.1.1 + 1)) = nI (if g.2.1.1 = 20 then 20 else g.2.1.1 + 1) := by
      by_cases z : g.2.1.1 = 20
      · rw [if_pos z, if_pos ((nI_ltI (by decide) (by omega)).mpr (by omega))]
      · rw [if_neg z, if_neg (fun w => by have := (nI_ltI (by decide) (by omega)).mp w; omega)]
    rw [e13]
    have f2 : cF (fun a => aEd (95 + 4 * j) a || Nat.beq a 0) S (sV (sV S1 12 (nI ((j + 1) % 20))) 13 (nI (if g.2.1.1 = 20 then 20 else g.2.1.1 + 1))) := ((f1.mono (fun a q => (Bool.or_eq_false_iff.mp q).1)).tr (cF.sVa (a := 0) (by show (aEd (95 + 4 * j) 0 || true) = true; rw [Bool.or_true]))).tr (cF.sVa (a := 0) (by show (aEd (95 + 4 * j) 0 || true) = true; rw [Bool.or_true]))
    have nA : ∀ a, ¬ a = 0 → (a < 95 + 4 * j ∨ 95 + 4 * j + 3 < a) → (fun a => aEd (95 + 4 * j) a || Nat.beq a 0) a = false := fun a z y => by
      show (aEd (95 + 4 * j) a || Nat.beq a 0) = false
      rw [aEd_n y, bq_ne z]; rfl
    refine k _ (bQ_X hQ f2 (fun a ha => nA a (by omega) (by omega)) ?_ h5 ?_ ?_ (congrFun (f1.1 0 n0') 15) (congrFun (f1.1 0 n0') 16)) (fun P x dn hx => bEs_F hx (f2.1 86 (nA 86 (by decide) (by omega))) (f2.2.2.1 87 (nA 87 (by decide) (by omega))) (f2.2.2.1 88 (nA 88 (by decide) (by omega))) (f2.2.2.1 89 (nA 89 (by decide) (by omega))))
    · exact bEs_F (bEs_N.mp h4) (f2.1 82 (nA 82 (by decide) (by omega))) (f2.2.2.1 83 (nA 83 (by decide) (by omega))) (f2.2.2.1 84 (nA 84 (by decide) (by omega))) (f2.2.2.1 85 (nA 85 (by decide) (by omega)))
    · refine ⟨(congrFun (f1.1 0 n0') 14).trans h8.1, fun y hy => ⟨bEs_F (h8.2 y hy).1 (f2.1 90 (nA 90 (by decide) (by omega))) (f2.2.2.1 91 (nA 91 (by decide) (by omega))) (f2.2.2.1 92 (nA 92 (by decide) (by omega))) (f2.2.2.1 93 (nA 93 (by decide) (by omega))), (h8.2 y hy).2⟩⟩
    · have old : ∀ m, m < 20 → ¬ m = j → ∀ x dn, bEs S (95 + 4 * m) g.1.1 x dn → bEs (sV (sV S1 12 (nI ((j + 1) % 20))) 13 (nI (if g.2.1.1 = 20 then 20 else g.2.1.1 + 1))) (95 + 4 * m) g.1.1 x dn := by
        intro m hm hne x dn hx
        exact bEs_F hx (f2.1 _ (nA _ (by omega) (by omega))) (f2.2.2.1 _ (nA _ (by omega) (by omega))) (f2.2.2.1 _ (nA _ (by omega) (by omega))) (f2.2.2.1 _ (nA _ (by omega) (by omega)))
      have new : bEs (sV (sV S1 12 (nI ((j + 1) % 20))) 13 (nI (if g.2.1.1 = 20 then 20 else g.2.1.1 + 1))) (95 + 4 * j) g.1.1 g.1.2.2.2.1 g.1.2.2.2.2 := bEs_F (S := S1) (hc _ _ _ (bEs_N.mp h4)) (u2_o (by omega) |>.trans (u2_o (by omega))) rfl rfl rfl
      show bQu _ g.1.1 (pushU g.2.1 g.1.2.2.2.1) g.1.2.2.2.1 g.1.2.2.2.2
      unfold pushU
      by_cases z : g.2.1.1 = 20
      · simp only [if_pos z] at old new ⊢
        refine ⟨Nat.le_refl _, rfl, (j + 1) % 20, by omega, rfl, fun k hk => ?_⟩
        have hk : k < 20 := hk
        show bEs _ (95 + 4 * (((j + 1) % 20 + 20 - 20 + k) % 20)) g.1.1 ((if k = 19 then rwS g.1.2.2.2.1 else g.2.1.2 (k + 1)).1, (if k = 19 then rwS g.1.2.2.2.1 else g.2.1.2 (k + 1)).2.1, (if k = 19 then rwS g.1.2.2.2.1 else g.2.1.2 (k + 1)).2.2, g.1.2.2.2.1.2.2.2) _
        by_cases y : k = 19
        · rw [if_pos y, show ((j + 1) % 20 + 20 - 20 + k) % 20 = j by omega]
          exact new
        · rw [if_neg y]
          have := u5 (k + 1) (by omega)
          have this : bEs S (95 + 4 * ((j + 20 - g.2.1.1 + (k + 1)) % 20)) _ _ _ := this
          rw [show (j + 20 - g.2.1.1 + (k + 1)) % 20 = ((j + 1) % 20 + 20 - 20 + k) % 20 by omega] at this
          exact old _ (by omega) (by omega) _ _ this
      · simp only [if_neg z] at old new ⊢
        refine ⟨by show g.2.1.1 + 1 ≤ 20; omega, rfl, (j + 1) % 20, by omega, rfl, fun k hk => ?_⟩
        have hk : k < g.2.1.1 + 1 := hk
        show bEs _ (95 + 4 * (((j + 1) % 20 + 20 - (g.2.1.1 + 1) + k) % 20)) g.1.1 ((if k = g.2.1.1 then rwS g.1.2.2.2.1 else g.2.1.2 k).1, (if k = g.2.1.1 then rwS g.1.2.2.2.1 else g.2.1.2 k).2.1, (if k = g.2.1.1 then rwS g.1.2.2.2.1 else g.2.1.2 k).2.2, g.1.2.2.2.1.2.2.2) _
        by_cases y : k = g.2.1.1
        · rw [if_pos y, show ((j + 1) % 20 + 20 - (g.2.1.1 + 1) + k) % 20 = j by omega]
          exact new
        · rw [if_neg y]
          have := u5 k (by omega)
          have this : bEs S (95 + 4 * ((j + 20 - g.2.1.1 + k) % 20)) _ _ _ := this
          rw [show (j + 20 - g.2.1.1 + k) % 20 = ((j + 1) % 20 + 20 - (g.2.1.1 + 1) + k) % 20 by omega] at this
          exact old _ (by omega) (by omega) _ _ this
  refine ⟨by rw [u4]; exact (x_vp (by omega)).mpr u3, fun z => KK 0 (by decide) z, fun z => KK 1 (by decide) z, fun z => KK 2 (by decide) z, fun z => KK 3 (by decide) z, fun z => KK 4 (by decide) z, fun z => KK 5 (by decide) z, fun z => KK 6 (by decide) z, fun z => KK 7 (by decide) z, fun z => KK 8 (by decide) z, fun z => KK 9 (by decide) z, fun z => KK 10 (by decide) z, fun z => KK 11 (by decide) z, fun z => KK 12 (by decide) z, fun z => KK 13 (by decide) z, fun z => KK 14 (by decide) z, fun z => KK 15 (by decide) z, fun z => KK 16 (by decide) z, fun z => KK 17 (by decide) z, fun z => KK 18 (by decide) z, fun z => KK 19 (by decide) z⟩
theorem d_undo (hQ : bQ S g o V) : ctI G 2 M_X11_undo false [.ref 0] lB S tl (fun v S' => bQ S' (N_undo g) o (V + 5000) ∧ v = A_undo g) := by
  refine ctI.ab (fun K hK => m_X11_undo (fun n0 => ?_))
  obtain ⟨h1, h2, h3, h4, h5, h6, ⟨u1, u2, e, u3, u4, u5⟩, h8⟩ := id hQ
  unfold N_undo A_undo at hK
  rw [u2, u4, show (0 : Int32) = nI 0 from rfl, nI_eq (by omega) (by decide), nI_add, pk_sub (by omega), pk_mod (by omega) (by decide) (by decide)]
  refine ⟨fun z => hK _ _ (by rw [if_pos z, if_pos z]; exact ⟨bQ_m hQ (by omega), rfl⟩), fun z => ⟨by decide, (x_vp (by omega)).mpr (by omega), ?_⟩⟩
  rw [if_neg z, if_neg z] at hK
  rw [pk_sub (by omega)]
  have KK : ∀ j, j < 20 → nI ((e + 20 - 1) % 20) = nI j → ctU G 1 M_X1_copyFrom false [.ref 82, .ref (95 + 4 * j)] lB (sV (sV S 12 (nI ((e + 20 - 1) % 20))) 13 (nI (g.2.1.1 - 1))) tl (fun S1 => K (S1.1 0 13) S1) := by
    intro j hj ej
    have hje : (e + 20 - 1) % 20 = j := (nI_eq (by omega) (by omega)).mp ej
    rw [hje]
    refine u_copyB (okC_p hj).2 _ (fun S1 f1 hc => hK _ _ ⟨bQ_m (V := V) ?_ (by omega), congrFun (f1.1 0 rfl) 13⟩)
    have f2 : cF (fun a => aEd 82 a || Nat.beq a 0) S S1 := ((cF.sVa (S := S) (a := 0) (k := 12) (x := nI j) rfl).tr (cF.sVa (a := 0) (k := 13) (x := nI (g.2.1.1 - 1)) rfl)).tr (f1.mono (fun a q => (Bool.or_eq_false_iff.mp q).1))
    have nA : ∀ a, ¬ a = 0 → (a < 82 ∨ 85 < a) → (fun a => aEd 82 a || Nat.beq a 0) a = false := fun a z y => by
      show (aEd 82 a || Nat.beq a 0) = false
      rw [aEd_n y, bq_ne z]; rfl
    have hp := u5 (g.2.1.1 - 1) (by omega)
    have hp : bEs S (95 + 4 * ((e + 20 - g.2.1.1 + (g.2.1.1 - 1)) % 20)) _ _ _ := hp
    rw [show (e + 20 - g.2.1.1 + (g.2.1.1 - 1)) % 20 = j by omega] at hp
    refine bQ_X hQ f2 (fun a ha => nA a (by omega) (by omega)) (hc _ _ _ (bEs_F hp (u2_o (by omega) |>.trans (u2_o (by omega))) rfl rfl rfl)) h5 ?_ ?_ (congrFun (f1.1 0 rfl) 15) (congrFun (f1.1 0 rfl) 16)
    · exact ⟨(congrFun (f1.1 0 rfl) 14).trans h6.1, fun y hy => ⟨bEs_F (h6.2 y hy).1 (f2.1 90 (nA 90 (by decide) (by decide))) (f2.2.2.1 91 (nA 91 (by decide) (by decide))) (f2.2.2.1 92 (nA 92 (by decide) (by decide))) (f2.2.2.1 93 (nA 93 (by decide) (by decide))), (h6.2 y hy).2⟩⟩
    · refine ⟨by show g.2.1.1 - 1 ≤ 20; omega, congrFun (f1.1 0 rfl) 13, j, hj, congrFun (f1.1 0 rfl) 12, fun k hk => ?_⟩
      have hk : k < g.2.1.1 - 1 := hk
      have hk2 := u5 k (by omega)
      have hk2 : bEs S (95 + 4 * ((e + 20 - g.2.1.1 + k) % 20)) _ _ _ := hk2
      show bEs S1 (95 + 4 * ((j + 20 - (g.2.1.1 - 1) + k) % 20)) _ _ _
      rw [show (j + 20 - (g.2.1.1 - 1) + k) % 20 = (e + 20 - g.2.1.1 + k) % 20 by omega]
      exact bEs_F hk2 (f2.1 _ (nA _ (by omega) (by omega))) (f2.2.2.1 _ (nA _ (by omega) (by omega))) (f2.2.2.1 _ (nA _ (by omega) (by omega))) (f2.2.2.1 _ (nA _ (by omega) (by omega)))
  refine ⟨fun z => KK 0 (by decide) z, fun z => KK 1 (by decide) z, fun z => KK 2 (by decide) z, fun z => KK 3 (by decide) z, fun z => KK 4 (by decide) z, fun z => KK 5 (by decide) z, fun z => KK 6 (by decide) z, fun z => KK 7 (by decide) z, fun z => KK 8 (by decide) z, fun z => KK 9 (by decide) z, fun z => KK 10 (by decide) z, fun z => KK 11 (by decide) z, fun z => KK 12 (by decide) z, fun z => KK 13 (by decide) z, fun z => KK 14 (by decide) z, fun z => KK 15 (by decide) z, fun z => KK 16 (by decide) z, fun z => KK 17 (by decide) z, fun z => KK 18 (by decide) z, fun z => KK 19 (by decide) z⟩
end PAST

