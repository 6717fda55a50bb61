/-! ===== the reference: what comes, tried otherwise, by chance ===== -/
theorem dw_dn (P : tPL) (s : tES) (dn : Nat) : dwN P s false dn = dn := by
  unfold dwN
  exact if_neg (fun z => by cases z.2)
theorem dyD_dn (P : tPL) (T : tTD) (o : tOP) (x : tES × Nat) (ho : o.1 = false) : ∀ k, (dyD P T o x k).2 = x.2
  | 0 => rfl
  | k + 1 => by
    have ih := dyD_dn P T o x ho k
    unfold dyD dyD1
    split
    · dsimp only
      rw [ho, dw_dn, ih]
    · exact ih
theorem gm_dn (P : tPL) (T : tTD) (o : tOP) (x : tES × Nat) (ho : o.1 = false) : ∀ k, (gmS P T o x k).2 = x.2
  | 0 => rfl
  | k + 1 => by
    have ih := gm_dn P T o x ho k
    show (dyD P T o (_, _) _).2 = _
    rw [dyD_dn P T o _ ho]
    exact ih
theorem dyL_la (P : tPL) (o : tOP) (jb : Nat → Nat) (x : tES) : ∀ h, (dyL P o jb (x, 0) h).2 < 2 ^ h
  | 0 => by show 0 < 1; decide
  | h + 1 => by
    have ih := dyL_la P o jb x h
    have hp := Nat.pow_lt_pow_right (show 1 < 2 by omega) (show h < h + 1 by omega)
    unfold dyL dyL1
    split
    · omega
    · split
      · omega
      · exact Nat.or_lt_two_pow (by omega) hp
theorem mZ_of {S S' : ms_S} (h : mB fZ aZ 1 S S') (hd : m_drawn S' = m_drawn S) : mZ S S' := by
  refine ⟨h, funext fun a => funext fun k => ?_⟩
  by_cases q : a = 0 ∧ k = 57
  · obtain ⟨rfl, rfl⟩ := q
    exact hd
  · exact h.2.1 a k (by
      by_cases q1 : a = 0
      · exact Or.inr (fun z => q ⟨q1, z⟩)
      · exact Or.inl q1)
/-- the same with another number drawn -/
abbrev cdn (C : tC) (dn : Nat) : tC := (C.1, C.2.1, C.2.2.1, C.2.2.2.1, dn)
theorem mC_dn {S S' : ms_S} {C : tC} {dn : Nat} (hC : mC S C) (h : mB fZ aZ 1 S S') (hW : mRW S' C.1) (hd : m_drawn S' = lN dn) (hdn : dn < 2 ^ 31) : mC S' (cdn C dn) := by
  obtain ⟨c1, c2, c3, c4, c5, c6, c7, c8, c9, c10⟩ := hC
  exact ⟨mPL_mZ h c1, mTD_mZ h c2, (congrFun (h.2.2.2.1 4 rfl rfl) 0).trans c3, c4, mES_ot h (by decide) c5, c6, c7, hd, hdn, hW⟩
abbrev gAll (P : tPL) (s : tES) : Nat := (List.range P.2.1).foldl (fun x i => x + s.2.1 i) 0
abbrev lAll (P : tPL) (s : tES) : Nat := (List.range P.2.1).foldl (fun x i => x + s.2.2.1 i) 0
/-- the estate n days on, by options -/
abbrev onS (C : tC) (o : tOP) (n : Nat) : tES := (gmS C.1 C.2.1 o (C.2.2.2.1, C.2.2.2.2) n).1
def A_aheadB (C : tC) (n w h : Int32) : Bool := inK n 0 99 && (inK w 0 4 && (decide (nI 2 ≤ w) || hrK C.1 h))
def A_ahead (C : tC) (n w h : Int32) : Int32 := if A_aheadB C n w h = true then (if w = nI 0 then nI ((onS C (opP C.2.2.1) (cl n)).2.1 (cl h)) else if w = nI 1 then nI (manyK C.1 (onS C (opP C.2.2.1) (cl n)) (cl h)) else if w = nI 2 then nI (lAll C.1 (onS C (opP C.2.2.1) (cl n))) - nI (lAll C.1 C.2.2.2.1) else if w = nI 3 then nI (onS C (opP C.2.2.1) (cl n)).2.2.2.1 - nI C.2.2.2.1.2.2.2.1 else nI (pop (bxN C.1 (onS C (opP C.2.2.1) (cl n))) 9)) else -(nI 1)
theorem held9 {f : Nat → Int32} {x : Int32} {n : Nat} (h : n ≤ 9) : heldN f x n < 2 ^ 9 := Nat.lt_of_lt_of_le (heldN_lt f x n) (Nat.pow_le_pow_right (by decide) h)
/-- heldBy by a board's estate -/
theorem c_heldE (G : ab_G) (fr : Bool) (S : ms_S) (tl : ab_H) (P : tPL) (s : tES) (bb : Nat) (x : Int32) (hbb : bb < 2) (hP : mPL S P) (hs : mES S bb s) : ab_CT G 1 M_X12_heldBy fr [.ref 0, .int (nI bb), .int x] (hM S tl) 0 0 (fun r h' => r = some (.int (nI (heldN s.1 x P.1))) ∧ h' = hM S tl) := by
  have ct := c_heldBy G fr S tl bb P.1 x hbb hP.1 hP.2.2.1
  rw [show heldN (fun p => a_holder S (9 * bb + p)) x P.1 = heldN s.1 x P.1 from heldN_congr (fun i hi => hs.1 i (by have := hP.1; omega))] at ct
  exact ct
set_option maxRecDepth 100000 in
set_option maxHeartbeats 4000000 in
theorem c_ahead (G : ab_G) (fr : Bool) (S : ms_S) (tl : ab_H) (C : tC) (hC : mC S C) (n w h : Int32) :
    ab_CT G 9 M_X12_ahead fr [.ref 0, .int n, .int w, .int h] (hM S tl) 0 0 (pQ (sV S 2 (nI 0)) tl C (.int (A_ahead C n w h))) := by
  refine wp_ct o_X12_ahead (Nat.le_of_ble_eq_true rfl) ?_
  generalize (hM S tl).length = n0
  have hC0 := th_C hC (nI 0)
  generalize hS0 : sV S 2 (nI 0) = S0 at hC0 ⊢
  have hZ0 : mZ S0 S0 := mZ.rf
  have ht0 : m_thrown S0 = nI 0 := by rw [← hS0]; rfl
  obtain ⟨c1, c2, c3, c4, c5, c6, c7, c8, c9, c10⟩ := id hC0
  obtain ⟨q1, q2, q3, q4, q5, q6⟩ := id c1
  iterate 3 refine ws_s rfl ?_
  refine wp_eqS hS0.symm ?_
  have K37 : A_aheadB C n w h = false → wp G 9 M_X12_ahead fr n0 (pQ S0 tl C (.int (A_ahead C n w h))) 37 [some (.ref 0), some (.int n), some (.int w), some (.int h)] [] (hM S0 tl) := by
    intro hn
    repeat refine ws_s rfl ?_
    exact wp_ri rfl rfl rfl (pQ.i hZ0 hC0 ht0 (by unfold A_ahead; rw [if_neg (by rw [hn]; decide)]))
  repeat refine ws_s rfl ?_
  refine wp_S (c_isInK G fr (hM S0 tl) n 0 99) rfl rfl o_X12_isIn s_X12_isIn rfl rfl (Nat.le_of_ble_eq_true rfl) (by decide) ?_
  repeat refine ws_s rfl ?_
  refine wp_bn rfl (fun hb => K37 (by unfold A_aheadB; rw [hb]; rfl)) (fun hb => ?_)
  repeat refine ws_s rfl ?_
  refine wp_S (c_isInK G fr (hM S0 tl) w 0 4) rfl rfl o_X12_isIn s_X12_isIn rfl rfl (Nat.le_of_ble_eq_true rfl) (by decide) ?_
  repeat refine ws_s rfl ?_
  refine wp_bn rfl (fun hb2 => K37 (by unfold A_aheadB; rw [hb2, Bool.false_and, Bool.and_false])) (fun hb2 => ?_)
  have hB : A_aheadB C n w h = (decide (nI 2 ≤ w) || hrK C.1 h) := by
    unfold A_aheadB
    rw [hb, hb2]
    rfl
  obtain ⟨jn, _, hjn, rfl⟩ := inK_t (by decide) (by decide) hb
  obtain ⟨jw, _, hjw, rfl⟩ := inK_t (by decide) (by decide) hb2
  have K39 : A_aheadB C (nI jn) (nI jw) h = true → (jw < 2 → hrK C.1 h = true) → wp G 9 M_X12_ahead fr n0 (pQ S0 tl C (.int (A_ahead C (nI jn) (nI jw) h))) 39 [some (.ref 0), some (.int (nI jn)), some (.int (nI jw)), some (.int h)] [] (hM S0 tl) := by
    intro hBt hh
    have hA : A_ahead C (nI jn) (nI jw) h = (if nI jw = nI 0 then nI ((onS C (opP C.2.2.1) jn).2.1 (cl h)) else if nI jw = nI 1 then nI (manyK C.1 (onS C (opP C.2.2.1) jn) (cl h)) else if nI jw = nI 2 then nI (lAll C.1 (onS C (opP C.2.2.1) jn)) - nI (lAll C.1 C.2.2.2.1) else if nI jw = nI 3 then nI (onS C (opP C.2.2.1) jn).2.2.2.1 - nI C.2.2.2.1.2.2.2.1 else nI (pop (bxN C.1 (onS C (opP C.2.2.1) jn)) 9)) := by
      unfold A_ahead
      rw [if_pos hBt, cl_nI (by omega)]
    rw [hA]
    repeat refine ws_s rfl ?_
    refine wp_cV rfl rfl o_X12_layTried v_X12_layTried (c_layTried G fr S0 tl C hC0) rfl rfl rfl (Nat.le_of_ble_eq_true rfl) (by decide) ?_
    rintro r h' ⟨S1, rfl, z1, hC1, hs1, hO1, rfl⟩
    repeat refine ws_s rfl ?_
    refine wp_cV rfl rfl o_X12_goMany v_X12_goMany (c_goMany G fr S1 tl C.1 C.2.1 (opP C.2.2.1) C.2.2.2.1 jn C.2.2.2.2 hC1.1 hC1.2.1 hO1 hs1 c6 hC1.2.2.2.2.2.2.2.2.2 c9 hC1.2.2.2.2.2.2.2.1 c7 hjn) rfl rfl rfl (Nat.le_of_ble_eq_true rfl) (by decide) ?_
    rintro r h' ⟨S2, rfl, m2, hs2, hd2, hw2, rfl⟩
    have z2 : mZ S1 S2 := mZ_of m2.BZ (by rw [hd2, gm_dn C.1 C.2.1 (opP C.2.2.1) (C.2.2.2.1, C.2.2.2.2) rfl jn]; exact hC1.2.2.2.2.2.2.2.1.symm)
    have hC2 := mC_mZ hC1 z2 hw2
    have hZ2 := (hZ0.tr z1).tr z2
    have ht2 : m_thrown S2 = nI 0 := (hZ2.1.1 0 2 (Or.inr rfl)).trans ht0
    change mES S2 1 (onS C (opP C.2.2.1) jn) at hs2
    repeat refine ws_s rfl ?_
    rcases (show jw = 0 ∨ jw = 1 ∨ jw = 2 ∨ jw = 3 ∨ jw = 4 by omega) with rfl | rfl | rfl | rfl | rfl
    · obtain ⟨jh, hjh, rfl⟩ := hrK_t q2 (hh (by decide))
      refine wp_tsw (off := 31) (t := 80) rfl (by decide) (by decide) (by decide) (by decide) ?_
      repeat refine ws_s rfl ?_
      refine ws_ld (k := 5 + jh) rfl (by first | rfl | (simp only [pk_mul, nI_add]; done)) (by omega) (by decide) ((hs2.2.1 jh (by omega)).1) ?_
      exact wp_ri rfl rfl rfl (pQ.i hZ2 hC2 ht2 (by rw [cl_nI (by omega)]; rfl))
    · obtain ⟨jh, hjh, rfl⟩ := hrK_t q2 (hh (by decide))
      refine wp_tsw (off := 40) (t := 89) rfl (by decide) (by decide) (by decide) (by decide) ?_
      repeat refine ws_s rfl ?_
      refine wp_V (c_heldE G fr S2 tl C.1 _ 1 (nI jh) (by decide) hC2.1 hs2) rfl rfl o_X12_heldBy v_X12_heldBy rfl rfl rfl (Nat.le_of_ble_eq_true rfl) (by decide) ?_
      refine wp_S (c_manyOf G fr _ (hM S2 tl) (Nat.lt_trans (held9 q1) (by decide))) rfl rfl o_X12_manyOf s_X12_manyOf rfl rfl (Nat.le_of_ble_eq_true rfl) (by decide) ?_
      exact wp_ri rfl rfl rfl (pQ.i hZ2 hC2 ht2 (by rw [cl_nI (by omega)]; rfl))
    · refine wp_tsw (off := 50) (t := 99) rfl (by decide) (by decide) (by decide) (by decide) ?_
      repeat refine ws_s rfl ?_
      refine wp_V (c_laidAll G fr S2 tl 1 C.1.2.1 (onS C (opP C.2.2.1) jn).2.2.1 (by decide) q2 hC2.1.2.2.2.1 hs2.2.2.1) rfl rfl o_X12_laidAll v_X12_laidAll rfl rfl rfl (Nat.le_of_ble_eq_true rfl) (by decide) ?_
      repeat refine ws_s rfl ?_
      refine wp_V (c_laidAll G fr S2 tl 0 C.1.2.1 C.2.2.2.1.2.2.1 (by decide) q2 hC2.1.2.2.2.1 hC2.2.2.2.2.1.2.2.1) rfl rfl o_X12_laidAll v_X12_laidAll rfl rfl rfl (Nat.le_of_ble_eq_true rfl) (by decide) ?_
      repeat refine ws_s rfl ?_
      exact wp_ri rfl rfl rfl (pQ.i hZ2 hC2 ht2 rfl)
    · refine wp_tsw (off := 62) (t := 111) rfl (by decide) (by decide) (by decide) (by decide) ?_
      repeat refine ws_s rfl ?_
      refine ws_ld (k := 1) rfl (by first | rfl | (simp only [pk_mul, nI_add]; done)) (by omega) (by decide) (hs2.2.2.2.1) ?_
      repeat refine ws_s rfl ?_
      refine ws_ld (k := 0) rfl (by first | rfl | (simp only [pk_mul, nI_add]; done)) (by omega) (by decide) (hC2.2.2.2.2.1.2.2.2.1) ?_
      repeat refine ws_s rfl ?_
      exact wp_ri rfl rfl rfl (pQ.i hZ2 hC2 ht2 rfl)
    · refine wp_tsd (t := 125) rfl (by decide) (by decide) ?_
      repeat refine ws_s rfl ?_
      refine wp_V (c_heldE G fr S2 tl C.1 _ 1 (-(nI 2)) (by decide) hC2.1 hs2) rfl rfl o_X12_heldBy v_X12_heldBy rfl rfl rfl (Nat.le_of_ble_eq_true rfl) (by decide) ?_
      refine wp_S (c_manyOf G fr _ (hM S2 tl) (Nat.lt_trans (held9 q1) (by decide))) rfl rfl o_X12_manyOf s_X12_manyOf rfl rfl (Nat.le_of_ble_eq_true rfl) (by decide) ?_
      exact wp_ri rfl rfl rfl (pQ.i hZ2 hC2 ht2 rfl)
  repeat refine ws_s rfl ?_
  refine wp_le (x := 2) (y := jw) rfl rfl (by decide) (by omega) (fun hw => ?_) (fun hw => ?_)
  · exact K39 (by rw [hB, decide_eq_true (nI_le hw (by omega))]; rfl) (fun z => by omega)
  · rw [decide_eq_false (nI_ge hw (by decide)), Bool.false_or] at hB
    repeat refine ws_s rfl ?_
    refine wp_V (c_isHeirK G fr S0 tl C.1 h q4) rfl rfl o_X12_isHeir v_X12_isHeir rfl rfl rfl (Nat.le_of_ble_eq_true rfl) (by decide) ?_
    repeat refine ws_s rfl ?_
    refine wp_bn rfl (fun hb3 => K37 (by rw [hB, hb3])) (fun hb3 => ?_)
    exact K39 (by rw [hB, hb3]) (fun _ => hb3)
