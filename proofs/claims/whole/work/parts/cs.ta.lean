/-! ===== the throws' words are the statement's (places printed by wip/tools/mkcs.py) ===== -/
def pc_rf : List Cond := [.isRef (.static Bundle.tN "UNASSIGNED_STACK" Bundle.steD), .isRef (.static Bundle.tN "SUPPRESSED_SENTINEL" Bundle.listD)]
def pc_kk : List (Nat × Nat) → List Cond → Bool
  | [], [] => true
  | j :: js, w :: ws => (decide ((tb_c j.1)[j.2]? = some w) || decide (w ∈ pc_rf)) && pc_kk js ws
  | _, _ => false
theorem pc_kk_in : ∀ (js : List (Nat × Nat)) (ws : List Cond), pc_kk js ws = true → ∀ w ∈ ws, w ∈ lw_tbl ∨ w ∈ pc_rf
  | [], [], _ => fun w hw => nomatch hw
  | j :: js, w :: ws, h => by
    intro v hv
    have h : ((decide ((tb_c j.1)[j.2]? = some w) || decide (w ∈ pc_rf)) && pc_kk js ws) = true := h
    rw [Bool.and_eq_true, Bool.or_eq_true] at h
    rcases List.mem_cons.mp hv with rfl | hv
    · rcases h.1 with h1 | h1
      · exact Or.inl (tb_c_in j.1 _ (List.mem_of_getElem? (of_decide_eq_true h1)))
      · exact Or.inr (of_decide_eq_true h1)
    · exact pc_kk_in js ws h.2 v hv
  | [], _ :: _, h => nomatch h
  | _ :: _, [], h => nomatch h
def pc_i1 : List (Nat × Nat) := [(6, 139), (1, 24), (1, 21), (6, 161), (6, 170), (6, 173), (6, 176), (6, 178), (6, 162), (6, 163), (1, 35), (1, 36), (6, 164), (6, 169), (6, 174), (6, 194), (6, 151), (6, 195), (6, 153), (6, 196), (6, 155), (6, 165), (6, 166), (6, 167), (6, 168), (6, 157), (6, 190), (6, 191), (6, 193), (6, 157), (6, 181), (6, 182), (6, 183), (6, 184), (6, 143), (6, 184), (6, 185), (6, 186), (6, 187), (6, 145), (6, 187), (6, 188), (6, 189), (6, 190), (6, 147), (6, 180), (6, 140), (6, 141), (6, 148), (6, 149), (6, 150), (6, 152), (6, 154), (6, 156), (99, 0), (99, 0), (6, 160), (6, 159), (6, 158)]
def pc_i2 : List (Nat × Nat) := [(6, 205), (1, 25), (1, 21), (6, 161), (6, 170), (6, 173), (6, 176), (6, 178), (6, 162), (6, 163), (1, 35), (1, 36), (6, 164), (6, 169), (6, 174), (6, 194), (6, 151), (6, 195), (6, 153), (6, 196), (6, 155), (6, 165), (6, 166), (6, 167), (6, 168), (6, 157), (6, 190), (6, 191), (6, 193), (6, 157), (6, 216), (6, 217), (6, 218), (6, 184), (6, 143), (6, 184), (6, 185), (6, 186), (6, 187), (6, 145), (6, 187), (6, 188), (6, 189), (6, 190), (6, 147), (6, 215), (6, 206), (6, 207), (6, 208), (6, 172), (6, 209), (6, 210), (6, 211), (6, 212), (99, 0), (99, 0), (6, 160), (6, 159), (6, 213)]
def pc_i3 : List (Nat × Nat) := [(6, 132), (6, 133), (6, 134)]
theorem pc_in1 : ∀ w ∈ pc_w1, w ∈ lw_tbl ∨ w ∈ pc_rf := pc_kk_in pc_i1 pc_w1 (by decide +kernel)
theorem pc_in2 : ∀ w ∈ pc_w2, w ∈ lw_tbl ∨ w ∈ pc_rf := pc_kk_in pc_i2 pc_w2 (by decide +kernel)
theorem pc_in3 : ∀ w ∈ pc_w3, w ∈ lw_tbl ∨ w ∈ pc_rf := pc_kk_in pc_i3 pc_w3 (by decide +kernel)

