/-! java/lang/Math (its methods aren't walked: the kit has rows for them) -/
theorem mt_i : Cond.initialized "java/lang/Math" ∈ ab_T := ab_T_in (tb_c_in 1 _ (List.mem_of_getElem? (i := 19) (rfl : (tb_c 1)[19]? = some (Cond.initialized "java/lang/Math")))) rfl
theorem mt_max_c : Cond.code Lib.Math.max.name Lib.Math.max.code 2 (some .int) ∈ ab_T := ab_T_in (tb_c_in 4 _ (List.mem_of_getElem? (i := 38) (rfl : (tb_c 4)[38]? = some (Cond.code Lib.Math.max.name Lib.Math.max.code 2 (some .int))))) rfl
theorem mt_max_s : Cond.static Lib.Math.max.name ∈ ab_T := ab_T_in (tb_c_in 4 _ (List.mem_of_getElem? (i := 37) (rfl : (tb_c 4)[37]? = some (Cond.static Lib.Math.max.name)))) rfl
theorem mt_min_c : Cond.code Lib.Math.min.name Lib.Math.min.code 2 (some .int) ∈ ab_T := ab_T_in (tb_c_in 3 _ (List.mem_of_getElem? (i := 142) (rfl : (tb_c 3)[142]? = some (Cond.code Lib.Math.min.name Lib.Math.min.code 2 (some .int))))) rfl
theorem mt_min_s : Cond.static Lib.Math.min.name ∈ ab_T := ab_T_in (tb_c_in 3 _ (List.mem_of_getElem? (i := 141) (rfl : (tb_c 3)[141]? = some (Cond.static Lib.Math.min.name)))) rfl
theorem mt_abs_c : Cond.code Lib.Math.abs.name Lib.Math.abs.code 1 (some .int) ∈ ab_T := ab_T_in (tb_c_in 4 _ (List.mem_of_getElem? (i := 133) (rfl : (tb_c 4)[133]? = some (Cond.code Lib.Math.abs.name Lib.Math.abs.code 1 (some .int))))) rfl
theorem mt_abs_s : Cond.static Lib.Math.abs.name ∈ ab_T := ab_T_in (tb_c_in 4 _ (List.mem_of_getElem? (i := 132) (rfl : (tb_c 4)[132]? = some (Cond.static Lib.Math.abs.name)))) rfl
theorem mt_maxl_c : Cond.code Lib.MathLoose.max_long.x Lib.MathLoose.max_long.code 4 (some .long) ∈ ab_T := ab_T_in (tb_c_in 5 _ (List.mem_of_getElem? (i := 35) (rfl : (tb_c 5)[35]? = some (Cond.code Lib.MathLoose.max_long.x Lib.MathLoose.max_long.code 4 (some .long))))) rfl
theorem mt_maxl_s : Cond.static Lib.MathLoose.max_long.x ∈ ab_T := ab_T_in (tb_c_in 5 _ (List.mem_of_getElem? (i := 34) (rfl : (tb_c 5)[34]? = some (Cond.static Lib.MathLoose.max_long.x)))) rfl
theorem mt_minl_c : Cond.code Lib.MathLoose.min_long.x Lib.MathLoose.min_long.code 4 (some .long) ∈ ab_T := ab_T_in (tb_c_in 5 _ (List.mem_of_getElem? (i := 32) (rfl : (tb_c 5)[32]? = some (Cond.code Lib.MathLoose.min_long.x Lib.MathLoose.min_long.code 4 (some .long))))) rfl
theorem mt_minl_s : Cond.static Lib.MathLoose.min_long.x ∈ ab_T := ab_T_in (tb_c_in 5 _ (List.mem_of_getElem? (i := 31) (rfl : (tb_c 5)[31]? = some (Cond.static Lib.MathLoose.min_long.x)))) rfl
section WMT
variable {G : ab_G} {d : Nat} {M : ab_MD} {fr : Bool} {n0 : Nat} {post : Option Value → ab_H → Prop} {pc : Nat} {L : List (Option Value)} {st : List Value} {h : ab_H}
theorem wp_max {idx : Nat} {x y : Int32} (row : ab_lk M.2.2.2.2.2.2 pc = some (.invokestatic idx, 3)) (hm : ab_lk M.1.2.2.2.1 idx = some Lib.Math.max.name) (hsum : (st.map fun v => v.category).sum ≤ 8) (hd : 1 ≤ d) (k : wp G d M fr n0 post (pc + 3) L (.int (if x < y then y else x) :: st) h) : wp G d M fr n0 post pc L (.int y :: .int x :: st) h := by
  intro p e s m args below meth c C hr hl H locs ls J hlv
  obtain ⟨hx, hb, hts, hown, hml, hnm, hK, hOM⟩ := id C
  refine va_mmax hx hb (hml.trans hlv.1.symm) hown (hts _ (hOM.1.2.1 _ (ab_lk_mem hm))) (hts _ mt_max_s) (hts _ mt_i) (hts _ mt_max_c) hd ?_ (Nat.le_refl _) (Nat.le_refl _) (hOM.2.2.2 _ (ab_lk_mem row)).1 (k p e s m args below meth c C hr hl H locs ls J hlv)
  have := ab_cat_sum (ab_ad G) st
  show ((st.map (ab_v (ab_ad G))).map fun v => v.category).sum + 13 ≤ 64 * d
  omega
theorem wp_min {idx : Nat} {x y : Int32} (row : ab_lk M.2.2.2.2.2.2 pc = some (.invokestatic idx, 3)) (hm : ab_lk M.1.2.2.2.1 idx = some Lib.Math.min.name) (hsum : (st.map fun v => v.category).sum ≤ 8) (hd : 1 ≤ d) (k : wp G d M fr n0 post (pc + 3) L (.int (if y < x then y else x) :: st) h) : wp G d M fr n0 post pc L (.int y :: .int x :: st) h := by
  intro p e s m args below meth c C hr hl H locs ls J hlv
  obtain ⟨hx, hb, hts, hown, hml, hnm, hK, hOM⟩ := id C
  refine va_mmin hx hb (hml.trans hlv.1.symm) hown (hts _ (hOM.1.2.1 _ (ab_lk_mem hm))) (hts _ mt_min_s) (hts _ mt_i) (hts _ mt_min_c) hd ?_ (Nat.le_refl _) (Nat.le_refl _) (hOM.2.2.2 _ (ab_lk_mem row)).1 (k p e s m args below meth c C hr hl H locs ls J hlv)
  have := ab_cat_sum (ab_ad G) st
  show ((st.map (ab_v (ab_ad G))).map fun v => v.category).sum + 13 ≤ 64 * d
  omega
theorem wp_abs {idx : Nat} {x : Int32} (row : ab_lk M.2.2.2.2.2.2 pc = some (.invokestatic idx, 3)) (hm : ab_lk M.1.2.2.2.1 idx = some Lib.Math.abs.name) (hsum : (st.map fun v => v.category).sum ≤ 8) (hd : 1 ≤ d) (k : wp G d M fr n0 post (pc + 3) L (.int (if 0 ≤ x then x else 0 - x) :: st) h) : wp G d M fr n0 post pc L (.int x :: st) h := by
  intro p e s m args below meth c C hr hl H locs ls J hlv
  obtain ⟨hx, hb, hts, hown, hml, hnm, hK, hOM⟩ := id C
  refine va_mabs hx hb (hml.trans hlv.1.symm) hown (hts _ (hOM.1.2.1 _ (ab_lk_mem hm))) (hts _ mt_abs_s) (hts _ mt_i) (hts _ mt_abs_c) hd ?_ (Nat.le_refl _) (Nat.le_refl _) (hOM.2.2.2 _ (ab_lk_mem row)).1 (k p e s m args below meth c C hr hl H locs ls J hlv)
  have := ab_cat_sum (ab_ad G) st
  show ((st.map (ab_v (ab_ad G))).map fun v => v.category).sum + 13 ≤ 64 * d
  omega
theorem wp_maxl {idx : Nat} {x y : Int64} (row : ab_lk M.2.2.2.2.2.2 pc = some (.invokestatic idx, 3)) (hm : ab_lk M.1.2.2.2.1 idx = some Lib.MathLoose.max_long.x) (hsum : (st.map fun v => v.category).sum ≤ 8) (hd : 1 ≤ d) (k : wp G d M fr n0 post (pc + 3) L (.long (if y < x then x else y) :: st) h) : wp G d M fr n0 post pc L (.long y :: .long x :: st) h := by
  intro p e s m args below meth c C hr hl H locs ls J hlv
  obtain ⟨hx, hb, hts, hown, hml, hnm, hK, hOM⟩ := id C
  refine va_mmax_long hx hb (hml.trans hlv.1.symm) hown (hts _ (hOM.1.2.1 _ (ab_lk_mem hm))) (hts _ mt_maxl_s) (hts _ mt_i) (hts _ mt_maxl_c) hd ?_ (Nat.le_refl _) (Nat.le_refl _) (hOM.2.2.2 _ (ab_lk_mem row)).1 (k p e s m args below meth c C hr hl H locs ls J hlv)
  have := ab_cat_sum (ab_ad G) st
  show ((st.map (ab_v (ab_ad G))).map fun v => v.category).sum + 15 ≤ 64 * d
  omega
theorem wp_minl {idx : Nat} {x y : Int64} (row : ab_lk M.2.2.2.2.2.2 pc = some (.invokestatic idx, 3)) (hm : ab_lk M.1.2.2.2.1 idx = some Lib.MathLoose.min_long.x) (hsum : (st.map fun v => v.category).sum ≤ 8) (hd : 1 ≤ d) (k : wp G d M fr n0 post (pc + 3) L (.long (if y < x then y else x) :: st) h) : wp G d M fr n0 post pc L (.long y :: .long x :: st) h := by
  intro p e s m args below meth c C hr hl H locs ls J hlv
  obtain ⟨hx, hb, hts, hown, hml, hnm, hK, hOM⟩ := id C
  refine va_mmin_long hx hb (hml.trans hlv.1.symm) hown (hts _ (hOM.1.2.1 _ (ab_lk_mem hm))) (hts _ mt_minl_s) (hts _ mt_i) (hts _ mt_minl_c) hd ?_ (Nat.le_refl _) (Nat.le_refl _) (hOM.2.2.2 _ (ab_lk_mem row)).1 (k p e s m args below meth c C hr hl H locs ls J hlv)
  have := ab_cat_sum (ab_ad G) st
  show ((st.map (ab_v (ab_ad G))).map fun v => v.category).sum + 15 ≤ 64 * d
  omega
end WMT
/-! a reference out of an array; System.arraycopy -/
theorem ac_n : Cond.native arraycopyName ∈ ab_T := ab_T_in (tb_c_in 4 _ (List.mem_of_getElem? (i := 68) (rfl : (tb_c 4)[68]? = some (Cond.native arraycopyName)))) rfl
theorem ac_s : Cond.static arraycopyName ∈ ab_T := ab_T_in (tb_c_in 4 _ (List.mem_of_getElem? (i := 67) (rfl : (tb_c 4)[67]? = some (Cond.static arraycopyName)))) rfl
theorem ac_i : Cond.initialized "java/lang/System" ∈ ab_T := ab_T_in (tb_c_in 1 _ (List.mem_of_getElem? (i := 20) (rfl : (tb_c 1)[20]? = some (Cond.initialized "java/lang/System")))) rfl
theorem ac_X7 : Cond.methodLink RX7 80 arraycopyName ∈ ab_T := ab_T_in (tb_c_in 4 _ (List.mem_of_getElem? (i := 66) (rfl : (tb_c 4)[66]? = some (Cond.methodLink RX7 80 arraycopyName)))) rfl
theorem ac_X4 : Cond.methodLink RX4 30 arraycopyName ∈ ab_T := ab_T_in (tb_c_in 4 _ (List.mem_of_getElem? (i := 73) (rfl : (tb_c 4)[73]? = some (Cond.methodLink RX4 30 arraycopyName)))) rfl
abbrev sCp (S : ms_S) (a0 a1 : Nat) (sp dp n : Int32) : ms_S := (S.1, S.2.1, S.2.2.1, u1 S.2.2.2.1 a1 (va_cpy (S.2.2.2.1 a0) (S.2.2.2.1 a1) sp.toNatClampNeg dp.toNatClampNeg n.toNatClampNeg), S.2.2.2.2)
section WAA
variable {G : ab_G} {d : Nat} {M : ab_MD} {fr : Bool} {n0 : Nat} {post : Option Value → ab_H → Prop} {pc : Nat} {L : List (Option Value)} {st : List Value} {S : ms_S} {lay : List ms_D} {tl : ab_H}
theorem ws_aal {kd N a b : Nat} {f : Nat → Option Nat} {i : Int32} (row : ab_lk M.2.2.2.2.2.2 pc = some (.aaload, 1)) (he : lay[a]? = some (.inr (.inr (kd, N, f)))) (hk : kd = 3 ∨ kd = 4) (hi : vp_in i N) (hv : f i.toNatClampNeg = some b) (k : wp G d M fr n0 post (pc + 1) L (.ref b :: st) (ms_h S 0 lay ++ tl)) : wp G d M fr n0 post pc L (.int i :: .ref a :: st) (ms_h S 0 lay ++ tl) := by
  refine ws_g (g := vp_in i N) (pc' := pc + 1) (L' := L) (st' := va_rf (f i.toNatClampNeg) :: st) (S' := S) ?_ hi ?_
  · rcases hk with rfl | rfl <;> simp only [ms_st, row, ms_in, he]
  · rw [hv]
    exact k
theorem ws_cp {idx a0 a1 N0 N1 : Nat} {sp dp n : Int32} (row : ab_lk M.2.2.2.2.2.2 pc = some (.invokestatic idx, 3)) (w1 : Cond.methodLink M.1.1 idx arraycopyName ∈ ab_T) (e0 : lay[a0]? = some (.inl (0, N0))) (e1 : lay[a1]? = some (.inl (0, N1))) (h1 : ¬ sp < 0) (h2 : ¬ dp < 0) (h3 : ¬ n < 0) (h4 : sp.toNatClampNeg + n.toNatClampNeg ≤ N0) (h5 : dp.toNatClampNeg + n.toNatClampNeg ≤ N1) (hsum : (st.map fun v => v.category).sum ≤ 8) (hd : 1 ≤ d)
    (k : wp G d M fr n0 post (pc + 3) L st (ms_h (sCp S a0 a1 sp dp n) 0 lay ++ tl)) : wp G d M fr n0 post pc L (.int n :: .int dp :: .ref a1 :: .int sp :: .ref a0 :: st) (ms_h S 0 lay ++ tl) := by
  intro p e s m args below meth c C hr hl
  refine ab_copy (f := S.2.2.2.1 a0) (g := S.2.2.2.1 a1) (N0 := N0) (N1 := N1) C row w1 ac_n ac_s ac_i (ms_get e0) (ms_get e1) h1 h2 h3 h4 h5 hsum ⟨hd, by show 64 ≤ 64 * d; omega⟩ ?_
  have := ms_set (S := S) (S' := sCp S a0 a1 sp dp n) (tl := tl) e1 (fun i d' hi => ms_c_congr (S := S) (S' := sCp S a0 a1 sp dp n) (a := i) (fun _ => rfl) (fun _ => rfl) (fun _ => rfl) (u1_ne hi).symm rfl d')
  rw [show ms_c (sCp S a0 a1 sp dp n) a1 (.inl (0, N1)) = .inl (0, N1, .inl (va_cpy (S.2.2.2.1 a0) (S.2.2.2.1 a1) sp.toNatClampNeg dp.toNatClampNeg n.toNatClampNeg)) from by show Sum.inl (0, N1, Sum.inl (u1 _ a1 _ a1)) = _; rw [u1_eq]] at this
  rw [this]
  exact k p e s m args below meth c C hr hl
end WAA
theorem vp_ix {i : Int32} {N : Nat} (hN : N < 2 ^ 31) (h : vp_in i N) : ∃ j, j < N ∧ i = nI j := by
  unfold vp_in at h
  refine ⟨i.toNatClampNeg, Nat.lt_of_not_le (fun z => h (Or.inr z)), ?_⟩
  obtain ⟨j, h1, h2⟩ := ix_t (x := i) (n := N) hN ⟨fun z => h (Or.inl z), fun z => h (Or.inr (by
    have h0 : ¬ i < 0 := fun z => h (Or.inl z)
    have h3 : (nI N).toInt ≤ i.toInt := Int32.le_iff_toInt_le.mp z
    rw [nI_toInt hN] at h3
    have h4 : 0 ≤ i.toInt := by
      have := Int32.le_iff_toInt_le.mp (Int32.not_lt.mp h0)
      exact this
    show N ≤ i.toInt.toNat
    omega))⟩
  rw [h2, nI_clamp (by omega)]
theorem vp_sp3 {i : Int32} (h : vp_in i 3) (q0 : ¬ i = nI 0) (q1 : ¬ i = nI 1) (q2 : ¬ i = nI 2) : False := by
  obtain ⟨j, h1, rfl⟩ := vp_ix (by decide) h
  rcases (show j = 0 ∨ j = 1 ∨ j = 2 by omega) with rfl | rfl | rfl
  · exact q0 rfl
  · exact q1 rfl
  · exact q2 rfl

