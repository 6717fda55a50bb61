/-! ===== both objects in one world: the program's cells first, the reference's behind them ===== -/
def plM : List Nat := [175, 176, 177, 178, 179, 180, 181, 182, 183, 184, 185, 186, 187, 188, 189, 190, 191, 192, 193, 194, 195, 196, 197, 198, 199, 200, 201, 202, 203, 204, 205, 206, 207, 208, 209, 210, 211, 212, 213, 214, 215]
def lMs : List ms_D := lM.map (rnD plM)
def lL0 : List ms_D := lB ++ lMs
def glF {α : Type} (V W : Nat → α) : Nat → α := fun a => cond (Nat.ble 175 a) (W (a - 175)) (V a)
def glU (S Sm : ms_S) : ms_S := (glF S.1 Sm.1, glF S.2.1 Sm.2.1, S.2.2.1, glF S.2.2.2.1 Sm.2.2.2.1, glF S.2.2.2.2 Sm.2.2.2.2)
def mT (Sm : ms_S) : ab_H := ms_h (glU ms_0 Sm) 175 lMs
theorem glF_lt {α : Type} {V W : Nat → α} {a : Nat} (h : a < 175) : glF V W a = V a := by
  unfold glF
  rw [show Nat.ble 175 a = false by cases q : Nat.ble 175 a with | false => rfl | true => exact absurd (Nat.le_of_ble_eq_true q) (by omega)]
  rfl
theorem wl_app (S : ms_S) : ∀ (l1 l2 : List ms_D) (a : Nat), ms_h S a (l1 ++ l2) = ms_h S a l1 ++ ms_h S (a + l1.length) l2
  | [], l2, a => rfl
  | d :: t, l2, a => by
    show ms_c S a d :: ms_h S (a + 1) (t ++ l2) = ms_c S a d :: (ms_h S (a + 1) t ++ ms_h S (a + (t.length + 1)) l2)
    rw [wl_app S t l2 (a + 1), show a + 1 + t.length = a + (t.length + 1) by omega]
theorem wl_cong {S S' : ms_S} : ∀ (l : List ms_D) (a : Nat), (∀ b, a ≤ b → b < a + l.length → S.1 b = S'.1 b ∧ S.2.1 b = S'.2.1 b ∧ S.2.2.1 b = S'.2.2.1 b ∧ S.2.2.2.1 b = S'.2.2.2.1 b ∧ S.2.2.2.2 b = S'.2.2.2.2 b) → ms_h S a l = ms_h S' a l
  | [], a, _ => rfl
  | d :: t, a, h => by
    obtain ⟨h1, h2, h3, h4, h5⟩ := h a (Nat.le_refl _) (by simp)
    show ms_c S a d :: ms_h S (a + 1) t = ms_c S' a d :: ms_h S' (a + 1) t
    rw [ms_c_congr (fun k => congrFun h1 k) (fun k => congrFun h2 k) (fun k => congrFun h3 k) h4 h5 d, wl_cong t (a + 1) (fun b q1 q2 => h b (by omega) (by simp; omega))]
set_option maxRecDepth 100000 in
theorem lB_len : lB.length = 175 := rfl
set_option maxRecDepth 100000 in
theorem gl_tail (S Sm : ms_S) : ms_h (glU S Sm) 175 lMs = mT Sm := rfl
theorem gl_A (S Sm : ms_S) (tl : ab_H) : hLy lL0 (glU S Sm) tl = hLy lB S (mT Sm ++ tl) := by
  show ms_h (glU S Sm) 0 (lB ++ lMs) ++ tl = ms_h S 0 lB ++ (mT Sm ++ tl)
  rw [wl_app, lB_len, Nat.zero_add, gl_tail, List.append_assoc]
  rw [wl_cong (S := glU S Sm) (S' := S) lB 0 (fun b _ q => ?_)]
  rw [lB_len, Nat.zero_add] at q
  exact ⟨glF_lt q, glF_lt q, rfl, glF_lt q, glF_lt q⟩
set_option maxRecDepth 100000 in
theorem gl_B (S Sm : ms_S) : hLy lM (rsS plM (glU S Sm)) [] = hLy lM Sm [] := rfl
theorem plM_no : ∀ a, a < 175 → pxF plM a 0 = none := by decide +kernel
set_option maxRecDepth 100000 in
theorem gl_C (S Sm T : ms_S) (tl : ab_H) : hLy lL0 (mgS plM (glU S Sm) T) tl = hLy lB S (mT T ++ tl) := by
  show ms_h (mgS plM (glU S Sm) T) 0 (lB ++ lMs) ++ tl = ms_h S 0 lB ++ (mT T ++ tl)
  rw [wl_app, lB_len, Nat.zero_add, show ms_h (mgS plM (glU S Sm) T) 175 lMs = mT T from rfl, List.append_assoc]
  rw [wl_cong (S := mgS plM (glU S Sm) T) (S' := S) lB 0 (fun b _ q => ?_)]
  rw [lB_len, Nat.zero_add] at q
  exact ⟨(mgF_no (plM_no b q)).trans (glF_lt q), (mgF_no (plM_no b q)).trans (glF_lt q), rfl, (mgF_no (plM_no b q)).trans (glF_lt q), (mgF_no (plM_no b q)).trans (glF_lt q)⟩
theorem plM_nd : ndL plM = true := by decide +kernel
set_option maxRecDepth 100000 in
theorem plM_ly : lyIn plM lL0 plM lM := ⟨rfl, rfl, ⟨rfl, rfl, ⟨rfl, rfl, ⟨rfl, rfl, ⟨rfl, rfl, ⟨rfl, rfl, ⟨rfl, rfl, ⟨rfl, rfl, ⟨rfl, rfl, ⟨rfl, rfl, ⟨rfl, rfl, ⟨rfl, rfl, ⟨rfl, rfl, ⟨rfl, rfl, ⟨rfl, rfl, ⟨rfl, rfl, ⟨rfl, rfl, ⟨rfl, rfl, ⟨rfl, rfl, ⟨rfl, rfl, ⟨rfl, rfl, ⟨rfl, rfl, ⟨rfl, rfl, ⟨rfl, rfl, ⟨rfl, rfl, ⟨rfl, rfl, ⟨rfl, rfl, ⟨rfl, rfl, ⟨rfl, rfl, ⟨rfl, rfl, ⟨rfl, rfl, ⟨rfl, rfl, ⟨rfl, rfl, ⟨rfl, rfl, ⟨rfl, rfl, ⟨rfl, rfl, ⟨rfl, rfl, ⟨rfl, rfl, ⟨rfl, rfl, ⟨rfl, rfl, ⟨rfl, rfl, trivial⟩⟩⟩⟩⟩⟩⟩⟩⟩⟩⟩⟩⟩⟩⟩⟩⟩⟩⟩⟩⟩⟩⟩⟩⟩⟩⟩⟩⟩⟩⟩⟩⟩⟩⟩⟩⟩⟩⟩⟩⟩

