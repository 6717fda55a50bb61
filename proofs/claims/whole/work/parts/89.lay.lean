/-! printed by wip/tools/mklayb.py: the program as memories -/
def lwsF (a b c : Nat) : Nat → Option Nat
  | 0 => some a
  | 1 => some b
  | 2 => some c
  | _ => none
def paF (a : Nat) : Nat → Option Nat := fun j => cond (Nat.blt j 20) (some (a + 4 * j)) none
theorem rn_lws {g : Nat → Nat} {a b c : Nat} : (fun j => (lwsF a b c j).map g) = lwsF (g a) (g b) (g c) := by
  funext j
  match j with
  | 0 => rfl
  | 1 => rfl
  | 2 => rfl
  | n + 3 => rfl
def lTp : List ms_D := [.inr (.inl (10, [(2, 1), (2, 2), (0, 0), (0, 0), (0, 0), (0, 0), (0, 0), (0, 0)])), .inl (0, 700), .inl (0, 32)]
def lLw : List ms_D := [.inr (.inl (4, [(2, 1), (2, 2), (2, 3), (0, 0), (0, 0)])), .inl (0, 64), .inl (1, 64), .inl (1, 8)]
def lPl : List ms_D := [.inr (.inl (7, [(2, 1), (2, 2), (2, 3), (2, 4), (2, 5), (2, 6), (2, 7), (2, 8), (2, 9), (2, 10), (2, 11), (2, 12), (0, 0), (0, 0), (0, 0), (0, 0), (0, 0), (0, 0)])), .inl (0, 9), .inl (0, 9), .inl (0, 9), .inl (0, 9), .inl (0, 5), .inl (0, 5), .inl (0, 8), .inl (0, 8), .inl (0, 8), .inl (0, 10), .inl (0, 10), .inr (.inr (3, 3, lwsF 13 17 21)), .inr (.inl (4, [(2, 14), (2, 15), (2, 16), (0, 0), (0, 0)])), .inl (0, 64), .inl (1, 64), .inl (1, 8), .inr (.inl (4, [(2, 18), (2, 19), (2, 20), (0, 0), (0, 0)])), .inl (0, 64), .inl (1, 64), .inl (1, 8), .inr (.inl (4, [(2, 22), (2, 23), (2, 24), (0, 0), (0, 0)])), .inl (0, 64), .inl (1, 64), .inl (1, 8)]
def lE2 : List ms_D := [.inr (.inl (1, [(2, 1), (2, 2), (2, 3), (0, 0), (0, 0), (0, 0), (0, 0), (0, 0)])), .inl (0, 5), .inl (0, 5), .inl (0, 5), .inr (.inl (1, [(2, 5), (2, 6), (2, 7), (0, 0), (0, 0), (0, 0), (0, 0), (0, 0)])), .inl (0, 5), .inl (0, 5), .inl (0, 5)]
def lLR : List ms_D := [.inr (.inl (10, [(2, 1), (2, 2), (0, 0), (0, 0), (0, 0), (0, 0), (0, 0), (0, 0)])), .inl (0, 700), .inl (0, 32), .inr (.inl (5, [(2, 0), (2, 4), (0, 0), (0, 0), (0, 0), (0, 0), (2, 5)])), .inl (0, 72), .inr (.inl (4, [(2, 6), (2, 7), (2, 8), (0, 0), (0, 0)])), .inl (0, 64), .inl (1, 64), .inl (1, 8)]
def lC : List ms_D := [.inr (.inl (7, [(2, 1), (2, 2), (2, 3), (2, 4), (2, 5), (2, 6), (2, 7), (2, 8), (2, 9), (2, 10), (2, 11), (2, 12), (0, 0), (0, 0), (0, 0), (0, 0), (0, 0), (0, 0)])), .inl (0, 9), .inl (0, 9), .inl (0, 9), .inl (0, 9), .inl (0, 5), .inl (0, 5), .inl (0, 8), .inl (0, 8), .inl (0, 8), .inl (0, 10), .inl (0, 10), .inr (.inr (3, 3, lwsF 13 17 21)), .inr (.inl (4, [(2, 14), (2, 15), (2, 16), (0, 0), (0, 0)])), .inl (0, 64), .inl (1, 64), .inl (1, 8), .inr (.inl (4, [(2, 18), (2, 19), (2, 20), (0, 0), (0, 0)])), .inl (0, 64), .inl (1, 64), .inl (1, 8), .inr (.inl (4, [(2, 22), (2, 23), (2, 24), (0, 0), (0, 0)])), .inl (0, 64), .inl (1, 64), .inl (1, 8), .inr (.inl (9, [(2, 0), (2, 26), (2, 27), (2, 28), (2, 29), (2, 30), (1, 0), (0, 0)])), .inl (1, 512), .inl (0, 512), .inl (1, 7), .inl (1, 3584), .inl (0, 512), .inr (.inl (3, [(2, 0), (2, 25), (2, 32), (2, 33), (2, 34), (2, 35), (0, 0), (0, 0), (0, 0), (0, 0), (0, 0)])), .inl (1, 128), .inl (0, 128), .inl (0, 9), .inl (0, 512), .inr (.inl (0, [(2, 0), (2, 31), (0, 0), (0, 0), (0, 0), (0, 0)])), .inr (.inl (2, [(2, 0), (2, 25), (2, 38), (2, 39), (0, 0), (0, 0)])), .inl (0, 2), .inl (0, 3584), .inr (.inl (6, [(2, 41), (2, 42), (2, 43), (2, 44), (2, 45), (0, 0), (0, 0)])), .inl (0, 24), .inl (0, 24), .inl (0, 24), .inl (0, 24), .inl (2, 24), .inr (.inl (1, [(2, 47), (2, 48), (2, 49), (0, 0), (0, 0), (0, 0), (0, 0), (0, 0)])), .inl (0, 5), .inl (0, 5), .inl (0, 5)]
def lB : List ms_D := [.inr (.inl (11, [(2, 1), (2, 4), (2, 29), (2, 61), (2, 67), (2, 72), (2, 73), (2, 76), (2, 82), (2, 86), (2, 90), (2, 94), (0, 0), (0, 0), (0, 0), (0, 0), (0, 0)])), .inr (.inl (10, [(2, 2), (2, 3), (0, 0), (0, 0), (0, 0), (0, 0), (0, 0), (0, 0)])), .inl (0, 700), .inl (0, 32), .inr (.inl (7, [(2, 5), (2, 6), (2, 7), (2, 8), (2, 9), (2, 10), (2, 11), (2, 12), (2, 13), (2, 14), (2, 15), (2, 16), (0, 0), (0, 0), (0, 0), (0, 0), (0, 0), (0, 0)])), .inl (0, 9), .inl (0, 9), .inl (0, 9), .inl (0, 9), .inl (0, 5), .inl (0, 5), .inl (0, 8), .inl (0, 8), .inl (0, 8), .inl (0, 10), .inl (0, 10), .inr (.inr (3, 3, lwsF 17 21 25)), .inr (.inl (4, [(2, 18), (2, 19), (2, 20), (0, 0), (0, 0)])), .inl (0, 64), .inl (1, 64), .inl (1, 8), .inr (.inl (4, [(2, 22), (2, 23), (2, 24), (0, 0), (0, 0)])), .inl (0, 64), .inl (1, 64), .inl (1, 8), .inr (.inl (4, [(2, 26), (2, 27), (2, 28), (0, 0), (0, 0)])), .inl (0, 64), .inl (1, 64), .inl (1, 8), .inr (.inl (8, [(2, 1), (2, 55), (2, 30), (0, 0)])), .inr (.inl (7, [(2, 31), (2, 32), (2, 33), (2, 34), (2, 35), (2, 36), (2, 37), (2, 38), (2, 39), (2, 40), (2, 41), (2, 42), (0, 0), (0, 0), (0, 0), (0, 0), (0, 0), (0, 0)])), .inl (0, 9), .inl (0, 9), .inl (0, 9), .inl (0, 9), .inl (0, 5), .inl (0, 5), .inl (0, 8), .inl (0, 8), .inl (0, 8), .inl (0, 10), .inl (0, 10), .inr (.inr (3, 3, lwsF 43 47 51)), .inr (.inl (4, [(2, 44), (2, 45), (2, 46), (0, 0), (0, 0)])), .inl (0, 64), .inl (1, 64), .inl (1, 8), .inr (.inl (4, [(2, 48), (2, 49), (2, 50), (0, 0), (0, 0)])), .inl (0, 64), .inl (1, 64), .inl (1, 8), .inr (.inl (4, [(2, 52), (2, 53), (2, 54), (0, 0), (0, 0)])), .inl (0, 64), .inl (1, 64), .inl (1, 8), .inr (.inl (5, [(2, 1), (2, 56), (0, 0), (0, 0), (0, 0), (0, 0), (3, 0)])), .inl (0, 72), .inr (.inl (4, [(2, 58), (2, 59), (2, 60), (0, 0), (0, 0)])), .inl (0, 64), .inl (1, 64), .inl (1, 8), .inr (.inl (9, [(2, 4), (2, 62), (2, 63), (2, 64), (2, 65), (2, 66), (1, 0), (0, 0)])), .inl (1, 512), .inl (0, 512), .inl (1, 7), .inl (1, 3584), .inl (0, 512), .inr (.inl (3, [(2, 4), (2, 61), (2, 68), (2, 69), (2, 70), (2, 71), (0, 0), (0, 0), (0, 0), (0, 0), (0, 0)])), .inl (1, 128), .inl (0, 128), .inl (0, 9), .inl (0, 512), .inr (.inl (0, [(2, 4), (2, 67), (0, 0), (0, 0), (0, 0), (0, 0)])), .inr (.inl (2, [(2, 4), (2, 61), (2, 74), (2, 75), (0, 0), (0, 0)])), .inl (0, 2), .inl (0, 3584), .inr (.inl (6, [(2, 77), (2, 78), (2, 79), (2, 80), (2, 81), (0, 0), (0, 0)])), .inl (0, 24), .inl (0, 24), .inl (0, 24), .inl (0, 24), .inl (2, 24), .inr (.inl (1, [(2, 83), (2, 84), (2, 85), (0, 0), (0, 0), (0, 0), (0, 0), (0, 0)])), .inl (0, 5), .inl (0, 5), .inl (0, 5), .inr (.inl (1, [(2, 87), (2, 88), (2, 89), (0, 0), (0, 0), (0, 0), (0, 0), (0, 0)])), .inl (0, 5), .inl (0, 5), .inl (0, 5), .inr (.inl (1, [(2, 91), (2, 92), (2, 93), (0, 0), (0, 0), (0, 0), (0, 0), (0, 0)])), .inl (0, 5), .inl (0, 5), .inl (0, 5), .inr (.inr (4, 20, paF 95)), .inr (.inl (1, [(2, 96), (2, 97), (2, 98), (0, 0), (0, 0), (0, 0), (0, 0), (0, 0)])), .inl (0, 5), .inl (0, 5), .inl (0, 5), .inr (.inl (1, [(2, 100), (2, 101), (2, 102), (0, 0), (0, 0), (0, 0), (0, 0), (0, 0)])), .inl (0, 5), .inl (0, 5), .inl (0, 5), .inr (.inl (1, [(2, 104), (2, 105), (2, 106), (0, 0), (0, 0), (0, 0), (0, 0), (0, 0)])), .inl (0, 5), .inl (0, 5), .inl (0, 5), .inr (.inl (1, [(2, 108), (2, 109), (2, 110), (0, 0), (0, 0), (0, 0), (0, 0), (0, 0)])), .inl (0, 5), .inl (0, 5), .inl (0, 5), .inr (.inl (1, [(2, 112), (2, 113), (2, 114), (0, 0), (0, 0), (0, 0), (0, 0), (0, 0)])), .inl (0, 5), .inl (0, 5), .inl (0, 5), .inr (.inl (1, [(2, 116), (2, 117), (2, 118), (0, 0), (0, 0), (0, 0), (0, 0), (0, 0)])), .inl (0, 5), .inl (0, 5), .inl (0, 5), .inr (.inl (1, [(2, 120), (2, 121), (2, 122), (0, 0), (0, 0), (0, 0), (0, 0), (0, 0)])), .inl (0, 5), .inl (0, 5), .inl (0, 5), .inr (.inl (1, [(2, 124), (2, 125), (2, 126), (0, 0), (0, 0), (0, 0), (0, 0), (0, 0)])), .inl (0, 5), .inl (0, 5), .inl (0, 5), .inr (.inl (1, [(2, 128), (2, 129), (2, 130), (0, 0), (0, 0), (0, 0), (0, 0), (0, 0)])), .inl (0, 5), .inl (0, 5), .inl (0, 5), .inr (.inl (1, [(2, 132), (2, 133), (2, 134), (0, 0), (0, 0), (0, 0), (0, 0), (0, 0)])), .inl (0, 5), .inl (0, 5), .inl (0, 5), .inr (.inl (1, [(2, 136), (2, 137), (2, 138), (0, 0), (0, 0), (0, 0), (0, 0), (0, 0)])), .inl (0, 5), .inl (0, 5), .inl (0, 5), .inr (.inl (1, [(2, 140), (2, 141), (2, 142), (0, 0), (0, 0), (0, 0), (0, 0), (0, 0)])), .inl (0, 5), .inl (0, 5), .inl (0, 5), .inr (.inl (1, [(2, 144), (2, 145), (2, 146), (0, 0), (0, 0), (0, 0), (0, 0), (0, 0)])), .inl (0, 5), .inl (0, 5), .inl (0, 5), .inr (.inl (1, [(2, 148), (2, 149), (2, 150), (0, 0), (0, 0), (0, 0), (0, 0), (0, 0)])), .inl (0, 5), .inl (0, 5), .inl (0, 5), .inr (.inl (1, [(2, 152), (2, 153), (2, 154), (0, 0), (0, 0), (0, 0), (0, 0), (0, 0)])), .inl (0, 5), .inl (0, 5), .inl (0, 5), .inr (.inl (1, [(2, 156), (2, 157), (2, 158), (0, 0), (0, 0), (0, 0), (0, 0), (0, 0)])), .inl (0, 5), .inl (0, 5), .inl (0, 5), .inr (.inl (1, [(2, 160), (2, 161), (2, 162), (0, 0), (0, 0), (0, 0), (0, 0), (0, 0)])), .inl (0, 5), .inl (0, 5), .inl (0, 5), .inr (.inl (1, [(2, 164), (2, 165), (2, 166), (0, 0), (0, 0), (0, 0), (0, 0), (0, 0)])), .inl (0, 5), .inl (0, 5), .inl (0, 5), .inr (.inl (1, [(2, 168), (2, 169), (2, 170), (0, 0), (0, 0), (0, 0), (0, 0), (0, 0)])), .inl (0, 5), .inl (0, 5), .inl (0, 5), .inr (.inl (1, [(2, 172), (2, 173), (2, 174), (0, 0), (0, 0), (0, 0), (0, 0), (0, 0)])), .inl (0, 5), .inl (0, 5), .inl (0, 5)]
abbrev e_TpB : List Nat := [1, 2, 3]
theorem e_TpB_n : ndL e_TpB = true := by decide +kernel
theorem e_TpB_i : lyIn e_TpB lB e_TpB lTp := ⟨rfl, rfl, ⟨rfl, rfl, ⟨rfl, rfl, trivial⟩⟩⟩
abbrev e_TpR : List Nat := [0, 1, 2]
theorem e_TpR_n : ndL e_TpR = true := by decide +kernel
theorem e_TpR_i : lyIn e_TpR lLR e_TpR lTp := ⟨rfl, rfl, ⟨rfl, rfl, ⟨rfl, rfl, trivial⟩⟩⟩
abbrev e_LwC0 : List Nat := [13, 14, 15, 16]
theorem e_LwC0_n : ndL e_LwC0 = true := by decide +kernel
theorem e_LwC0_i : lyIn e_LwC0 lC e_LwC0 lLw := ⟨rfl, rfl, ⟨rfl, rfl, ⟨rfl, rfl, ⟨rfl, rfl, trivial⟩⟩⟩⟩
abbrev e_LwC1 : List Nat := [17, 18, 19, 20]
theorem e_LwC1_n : ndL e_LwC1 = true := by decide +kernel
theorem e_LwC1_i : lyIn e_LwC1 lC e_LwC1 lLw := ⟨rfl, rfl, ⟨rfl, rfl, ⟨rfl, rfl, ⟨rfl, rfl, trivial⟩⟩⟩⟩
abbrev e_LwC2 : List Nat := [21, 22, 23, 24]
theorem e_LwC2_n : ndL e_LwC2 = true := by decide +kernel
theorem e_LwC2_i : lyIn e_LwC2 lC e_LwC2 lLw := ⟨rfl, rfl, ⟨rfl, rfl, ⟨rfl, rfl, ⟨rfl, rfl, trivial⟩⟩⟩⟩
abbrev e_LwP0 : List Nat := [13, 14, 15, 16]
theorem e_LwP0_n : ndL e_LwP0 = true := by decide +kernel
theorem e_LwP0_i : lyIn e_LwP0 lPl e_LwP0 lLw := ⟨rfl, rfl, ⟨rfl, rfl, ⟨rfl, rfl, ⟨rfl, rfl, trivial⟩⟩⟩⟩
abbrev e_LwP1 : List Nat := [17, 18, 19, 20]
theorem e_LwP1_n : ndL e_LwP1 = true := by decide +kernel
theorem e_LwP1_i : lyIn e_LwP1 lPl e_LwP1 lLw := ⟨rfl, rfl, ⟨rfl, rfl, ⟨rfl, rfl, ⟨rfl, rfl, trivial⟩⟩⟩⟩
abbrev e_LwP2 : List Nat := [21, 22, 23, 24]
theorem e_LwP2_n : ndL e_LwP2 = true := by decide +kernel
theorem e_LwP2_i : lyIn e_LwP2 lPl e_LwP2 lLw := ⟨rfl, rfl, ⟨rfl, rfl, ⟨rfl, rfl, ⟨rfl, rfl, trivial⟩⟩⟩⟩
abbrev e_LwB0 : List Nat := [17, 18, 19, 20]
theorem e_LwB0_n : ndL e_LwB0 = true := by decide +kernel
theorem e_LwB0_i : lyIn e_LwB0 lB e_LwB0 lLw := ⟨rfl, rfl, ⟨rfl, rfl, ⟨rfl, rfl, ⟨rfl, rfl, trivial⟩⟩⟩⟩
abbrev e_LwB1 : List Nat := [21, 22, 23, 24]
theorem e_LwB1_n : ndL e_LwB1 = true := by decide +kernel
theorem e_LwB1_i : lyIn e_LwB1 lB e_LwB1 lLw := ⟨rfl, rfl, ⟨rfl, rfl, ⟨rfl, rfl, ⟨rfl, rfl, trivial⟩⟩⟩⟩
abbrev e_LwB2 : List Nat := [25, 26, 27, 28]
theorem e_LwB2_n : ndL e_LwB2 = true := by decide +kernel
theorem e_LwB2_i : lyIn e_LwB2 lB e_LwB2 lLw := ⟨rfl, rfl, ⟨rfl, rfl, ⟨rfl, rfl, ⟨rfl, rfl, trivial⟩⟩⟩⟩
abbrev e_LwD0 : List Nat := [43, 44, 45, 46]
theorem e_LwD0_n : ndL e_LwD0 = true := by decide +kernel
theorem e_LwD0_i : lyIn e_LwD0 lB e_LwD0 lLw := ⟨rfl, rfl, ⟨rfl, rfl, ⟨rfl, rfl, ⟨rfl, rfl, trivial⟩⟩⟩⟩
abbrev e_LwD1 : List Nat := [47, 48, 49, 50]
theorem e_LwD1_n : ndL e_LwD1 = true := by decide +kernel
theorem e_LwD1_i : lyIn e_LwD1 lB e_LwD1 lLw := ⟨rfl, rfl, ⟨rfl, rfl, ⟨rfl, rfl, ⟨rfl, rfl, trivial⟩⟩⟩⟩
abbrev e_LwD2 : List Nat := [51, 52, 53, 54]
theorem e_LwD2_n : ndL e_LwD2 = true := by decide +kernel
theorem e_LwD2_i : lyIn e_LwD2 lB e_LwD2 lLw := ⟨rfl, rfl, ⟨rfl, rfl, ⟨rfl, rfl, ⟨rfl, rfl, trivial⟩⟩⟩⟩
abbrev e_LwR : List Nat := [5, 6, 7, 8]
theorem e_LwR_n : ndL e_LwR = true := by decide +kernel
theorem e_LwR_i : lyIn e_LwR lLR e_LwR lLw := ⟨rfl, rfl, ⟨rfl, rfl, ⟨rfl, rfl, ⟨rfl, rfl, trivial⟩⟩⟩⟩
abbrev e_PlC : List Nat := [0, 1, 2, 3, 4, 5, 6, 7, 8, 9, 10, 11, 12, 13, 14, 15, 16, 17, 18, 19, 20, 21, 22, 23, 24]
theorem e_PlC_n : ndL e_PlC = true := by decide +kernel
theorem e_PlC_i : lyIn e_PlC lC e_PlC lPl := ⟨rfl, rfl, ⟨rfl, rfl, ⟨rfl, rfl, ⟨rfl, rfl, ⟨rfl, rfl, ⟨rfl, rfl, ⟨rfl, rfl, ⟨rfl, rfl, ⟨rfl, rfl, ⟨rfl, rfl, ⟨rfl, rfl, ⟨rfl, rfl, ⟨by show _ = some (Sum.inr (Sum.inr (3, 3, fun j => (lwsF _ _ _ j).map _))); rw [rn_lws]; rfl, rfl, ⟨rfl, rfl, ⟨rfl, rfl, ⟨rfl, rfl, ⟨rfl, rfl, ⟨rfl, rfl, ⟨rfl, rfl, ⟨rfl, rfl, ⟨rfl, rfl, ⟨rfl, rfl, ⟨rfl, rfl, ⟨rfl, rfl, ⟨rfl, rfl, trivial⟩⟩⟩⟩⟩⟩⟩⟩⟩⟩⟩⟩⟩⟩⟩⟩⟩⟩⟩⟩⟩⟩⟩⟩⟩
abbrev e_PlB : List Nat := [4, 5, 6, 7, 8, 9, 10, 11, 12, 13, 14, 15, 16, 17, 18, 19, 20, 21, 22, 23, 24, 25, 26, 27, 28]
theorem e_PlB_n : ndL e_PlB = true := by decide +kernel
theorem e_PlB_i : lyIn e_PlB lB e_PlB lPl := ⟨rfl, rfl, ⟨rfl, rfl, ⟨rfl, rfl, ⟨rfl, rfl, ⟨rfl, rfl, ⟨rfl, rfl, ⟨rfl, rfl, ⟨rfl, rfl, ⟨rfl, rfl, ⟨rfl, rfl, ⟨rfl, rfl, ⟨rfl, rfl, ⟨by show _ = some (Sum.inr (Sum.inr (3, 3, fun j => (lwsF _ _ _ j).map _))); rw [rn_lws]; rfl, rfl, ⟨rfl, rfl, ⟨rfl, rfl, ⟨rfl, rfl, ⟨rfl, rfl, ⟨rfl, rfl, ⟨rfl, rfl, ⟨rfl, rfl, ⟨rfl, rfl, ⟨rfl, rfl, ⟨rfl, rfl, ⟨rfl, rfl, ⟨rfl, rfl, trivial⟩⟩⟩⟩⟩⟩⟩⟩⟩⟩⟩⟩⟩⟩⟩⟩⟩⟩⟩⟩⟩⟩⟩⟩⟩
abbrev e_PlD : List Nat := [30, 31, 32, 33, 34, 35, 36, 37, 38, 39, 40, 41, 42, 43, 44, 45, 46, 47, 48, 49, 50, 51, 52, 53, 54]
theorem e_PlD_n : ndL e_PlD = true := by decide +kernel
theorem e_PlD_i : lyIn e_PlD lB e_PlD lPl := ⟨rfl, rfl, ⟨rfl, rfl, ⟨rfl, rfl, ⟨rfl, rfl, ⟨rfl, rfl, ⟨rfl, rfl, ⟨rfl, rfl, ⟨rfl, rfl, ⟨rfl, rfl, ⟨rfl, rfl, ⟨rfl, rfl, ⟨rfl, rfl, ⟨by show _ = some (Sum.inr (Sum.inr (3, 3, fun j => (lwsF _ _ _ j).map _))); rw [rn_lws]; rfl, rfl, ⟨rfl, rfl, ⟨rfl, rfl, ⟨rfl, rfl, ⟨rfl, rfl, ⟨rfl, rfl, ⟨rfl, rfl, ⟨rfl, rfl, ⟨rfl, rfl, ⟨rfl, rfl, ⟨rfl, rfl, ⟨rfl, rfl, ⟨rfl, rfl, trivial⟩⟩⟩⟩⟩⟩⟩⟩⟩⟩⟩⟩⟩⟩⟩⟩⟩⟩⟩⟩⟩⟩⟩⟩⟩
abbrev e_CN : List Nat := [4, 5, 6, 7, 8, 9, 10, 11, 12, 13, 14, 15, 16, 17, 18, 19, 20, 21, 22, 23, 24, 25, 26, 27, 28, 61, 62, 63, 64, 65, 66, 67, 68, 69, 70, 71, 72, 73, 74, 75, 76, 77, 78, 79, 80, 81, 82, 83, 84, 85]
theorem e_CN_n : ndL e_CN = true := by decide +kernel
theorem e_CN_i : lyIn e_CN lB e_CN lC := ⟨rfl, rfl, ⟨rfl, rfl, ⟨rfl, rfl, ⟨rfl, rfl, ⟨rfl, rfl, ⟨rfl, rfl, ⟨rfl, rfl, ⟨rfl, rfl, ⟨rfl, rfl, ⟨rfl, rfl, ⟨rfl, rfl, ⟨rfl, rfl, ⟨by show _ = some (Sum.inr (Sum.inr (3, 3, fun j => (lwsF _ _ _ j).map _))); rw [rn_lws]; rfl, rfl, ⟨rfl, rfl, ⟨rfl, rfl, ⟨rfl, rfl, ⟨rfl, rfl, ⟨rfl, rfl, ⟨rfl, rfl, ⟨rfl, rfl, ⟨rfl, rfl, ⟨rfl, rfl, ⟨rfl, rfl, ⟨rfl, rfl, ⟨rfl, rfl, ⟨rfl, rfl, ⟨rfl, rfl, ⟨rfl, rfl, ⟨rfl, rfl, ⟨rfl, rfl, ⟨rfl, rfl, ⟨rfl, rfl, ⟨rfl, rfl, ⟨rfl, rfl, ⟨rfl, rfl, ⟨rfl, rfl, ⟨rfl, rfl, ⟨rfl, rfl, ⟨rfl, rfl, ⟨rfl, rfl, ⟨rfl, rfl, ⟨rfl, rfl, ⟨rfl, rfl, ⟨rfl, rfl, ⟨rfl, rfl, ⟨rfl, rfl, ⟨rfl, rfl, ⟨rfl, rfl, ⟨rfl, rfl, ⟨rfl, rfl, trivial⟩⟩⟩⟩⟩⟩⟩⟩⟩⟩⟩⟩⟩⟩⟩⟩⟩⟩⟩⟩⟩⟩⟩⟩⟩⟩⟩⟩⟩⟩⟩⟩⟩⟩⟩⟩⟩⟩⟩⟩⟩⟩⟩⟩⟩⟩⟩⟩⟩⟩
abbrev e_CT : List Nat := [4, 5, 6, 7, 8, 9, 10, 11, 12, 13, 14, 15, 16, 17, 18, 19, 20, 21, 22, 23, 24, 25, 26, 27, 28, 61, 62, 63, 64, 65, 66, 67, 68, 69, 70, 71, 72, 73, 74, 75, 76, 77, 78, 79, 80, 81, 86, 87, 88, 89]
theorem e_CT_n : ndL e_CT = true := by decide +kernel
theorem e_CT_i : lyIn e_CT lB e_CT lC := ⟨rfl, rfl, ⟨rfl, rfl, ⟨rfl, rfl, ⟨rfl, rfl, ⟨rfl, rfl, ⟨rfl, rfl, ⟨rfl, rfl, ⟨rfl, rfl, ⟨rfl, rfl, ⟨rfl, rfl, ⟨rfl, rfl, ⟨rfl, rfl, ⟨by show _ = some (Sum.inr (Sum.inr (3, 3, fun j => (lwsF _ _ _ j).map _))); rw [rn_lws]; rfl, rfl, ⟨rfl, rfl, ⟨rfl, rfl, ⟨rfl, rfl, ⟨rfl, rfl, ⟨rfl, rfl, ⟨rfl, rfl, ⟨rfl, rfl, ⟨rfl, rfl, ⟨rfl, rfl, ⟨rfl, rfl, ⟨rfl, rfl, ⟨rfl, rfl, ⟨rfl, rfl, ⟨rfl, rfl, ⟨rfl, rfl, ⟨rfl, rfl, ⟨rfl, rfl, ⟨rfl, rfl, ⟨rfl, rfl, ⟨rfl, rfl, ⟨rfl, rfl, ⟨rfl, rfl, ⟨rfl, rfl, ⟨rfl, rfl, ⟨rfl, rfl, ⟨rfl, rfl, ⟨rfl, rfl, ⟨rfl, rfl, ⟨rfl, rfl, ⟨rfl, rfl, ⟨rfl, rfl, ⟨rfl, rfl, ⟨rfl, rfl, ⟨rfl, rfl, ⟨rfl, rfl, ⟨rfl, rfl, ⟨rfl, rfl, trivial⟩⟩⟩⟩⟩⟩⟩⟩⟩⟩⟩⟩⟩⟩⟩⟩⟩⟩⟩⟩⟩⟩⟩⟩⟩⟩⟩⟩⟩⟩⟩⟩⟩⟩⟩⟩⟩⟩⟩⟩⟩⟩⟩⟩⟩⟩⟩⟩⟩⟩
abbrev e_TN : List Nat := [86, 87, 88, 89, 82, 83, 84, 85]
theorem e_TN_n : ndL e_TN = true := by decide +kernel
theorem e_TN_i : lyIn e_TN lB e_TN lE2 := ⟨rfl, rfl, ⟨rfl, rfl, ⟨rfl, rfl, ⟨rfl, rfl, ⟨rfl, rfl, ⟨rfl, rfl, ⟨rfl, rfl, ⟨rfl, rfl, trivial⟩⟩⟩⟩⟩⟩⟩⟩
abbrev e_NT : List Nat := [82, 83, 84, 85, 86, 87, 88, 89]
theorem e_NT_n : ndL e_NT = true := by decide +kernel
theorem e_NT_i : lyIn e_NT lB e_NT lE2 := ⟨rfl, rfl, ⟨rfl, rfl, ⟨rfl, rfl, ⟨rfl, rfl, ⟨rfl, rfl, ⟨rfl, rfl, ⟨rfl, rfl, ⟨rfl, rfl, trivial⟩⟩⟩⟩⟩⟩⟩⟩
abbrev e_IN : List Nat := [90, 91, 92, 93, 82, 83, 84, 85]
theorem e_IN_n : ndL e_IN = true := by decide +kernel
theorem e_IN_i : lyIn e_IN lB e_IN lE2 := ⟨rfl, rfl, ⟨rfl, rfl, ⟨rfl, rfl, ⟨rfl, rfl, ⟨rfl, rfl, ⟨rfl, rfl, ⟨rfl, rfl, ⟨rfl, rfl, trivial⟩⟩⟩⟩⟩⟩⟩⟩
abbrev e_NI : List Nat := [82, 83, 84, 85, 90, 91, 92, 93]
theorem e_NI_n : ndL e_NI = true := by decide +kernel
theorem e_NI_i : lyIn e_NI lB e_NI lE2 := ⟨rfl, rfl, ⟨rfl, rfl, ⟨rfl, rfl, ⟨rfl, rfl, ⟨rfl, rfl, ⟨rfl, rfl, ⟨rfl, rfl, ⟨rfl, rfl, trivial⟩⟩⟩⟩⟩⟩⟩⟩

