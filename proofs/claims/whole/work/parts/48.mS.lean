/-! ===== the reference: when one lays, tried otherwise, by chance ===== -/
/-- layers of the day behind k days -/
abbrev laN (P : tPL) (T : tTD) (o : tOP) (x : tES × Nat) (k : Nat) : Nat := (dgC P T o (gmS P T o x k).1 (gmS P T o x k).2).2
def lyN (P : tPL) (T : tTD) (o : tOP) (x : tES × Nat) (h : Nat) : Nat → Nat → Int32
  | 0, _ => -(nI 2)
  | f + 1, k => if (laN P T o x k).testBit h = true then nI (k + 1) else lyN P T o x h f (k + 1)
def A_lays (C : tC) (h : Int32) : Int32 := if hrK C.1 h = true then lyN C.1 C.2.1 (opP C.2.2.1) (C.2.2.2.1, C.2.2.2.2) (cl h) 99 0 else -(nI 1)
set_option maxRecDepth 100000 in
set_option maxHeartbeats 4000000 in
theorem c_lays (G : ab_G) (fr : Bool) (S : ms_S) (tl : ab_H) (C : tC) (hC : mC S C) (h : Int32) :
    ab_CT G 9 M_X12_lays fr [.ref 0, .int h] (hM S tl) 0 0 (pQ (sV S 2 (nI 0)) tl C (.int (A_lays C h))) := by
  refine wp_ct o_X12_lays (Nat.le_of_ble_eq_true rfl) ?_
  generalize (hM S tl).length = n0
  have hC0 := th_C hC (nI 0)
  generalize hS0 : sV S 2 (nI 0) = S0 at hC0 ⊢
  have hZ0 : mZ S0 S0 := mZ.rf
  have ht0 : m_thrown S0 = nI 0 := by rw [← hS0]; rfl
  obtain ⟨c1, c2, c3, c4, c5, c6, c7, c8, c9, c10⟩ := id hC0
  obtain ⟨q1, q2, q3, q4, q5, q6⟩ := id c1
  iterate 3 refine ws_s rfl ?_
  refine wp_eqS hS0.symm ?_
  repeat refine ws_s rfl ?_
  refine wp_V (c_isHeirK G fr S0 tl C.1 h q4) rfl rfl o_X12_isHeir v_X12_isHeir rfl rfl rfl (Nat.le_of_ble_eq_true rfl) (by decide) ?_
  repeat refine ws_s rfl ?_
  refine wp_bn rfl (fun hb => ?_) (fun hb => ?_)
  · repeat refine ws_s rfl ?_
    exact wp_ri rfl rfl rfl (pQ.i hZ0 hC0 ht0 (by unfold A_lays; rw [if_neg (by rw [hb]; decide)]))
  obtain ⟨jh, hjh, rfl⟩ := hrK_t q2 hb
  have hA : A_lays C (nI jh) = lyN C.1 C.2.1 (opP C.2.2.1) (C.2.2.2.1, C.2.2.2.2) jh 99 0 := by
    unfold A_lays
    rw [if_pos hb, cl_nI (by omega)]
  rw [hA]
  generalize hans : lyN C.1 C.2.1 (opP C.2.2.1) (C.2.2.2.1, C.2.2.2.2) jh 99 0 = ans
  repeat refine ws_s rfl ?_
  refine wp_cV rfl rfl o_X12_layTried v_X12_layTried (c_layTried G fr S0 tl C hC0) rfl rfl rfl (Nat.le_of_ble_eq_true rfl) (by decide) ?_
  rintro r h' ⟨S1, rfl, z1, hC1, hs1, hO1, rfl⟩
  have ht1 : ∀ t, t < C.2.1.1 → C.2.1.2.1 t < C.1.1 ∧ C.2.1.2.2.1 t < C.1.1 := fun t ht => ⟨(c2.2.2.2.2.1 t ht).2.1, (c2.2.2.2.2.1 t ht).2.2.2.1⟩
  have ht2 : ∀ t, t < C.2.1.2.2.2.2.1 → C.2.1.2.2.2.2.2.1 t < C.1.2.1 := fun t ht => (c2.2.2.2.2.2 t ht).2.1
  iterate 2 refine ws_s rfl ?_
  have K : ∀ f k (X : ms_S), k + f = 99 → mB fB aR 1 S1 X → mES X 1 (gmS C.1 C.2.1 (opP C.2.2.1) (C.2.2.2.1, C.2.2.2.2) k).1 → m_drawn X = lN (gmS C.1 C.2.1 (opP C.2.2.1) (C.2.2.2.1, C.2.2.2.2) k).2 → mRW X C.1 → ans = lyN C.1 C.2.1 (opP C.2.2.1) (C.2.2.2.1, C.2.2.2.2) jh f k → wp G 9 M_X12_lays fr n0 (pQ S0 tl C (.int ans)) 21 [some (.ref 0), some (.int (nI jh)), some (.int (nI (k + 1)))] [] (hM X tl) := by
    intro f
    induction f with
    | zero =>
      intro k X hk x1 x2 x3 x4 hly
      have hdn := gm_dn C.1 C.2.1 (opP C.2.2.1) (C.2.2.2.1, C.2.2.2.2) rfl k
      have z2 : mZ S1 X := mZ_of x1.BZ (by rw [x3, hdn]; exact hC1.2.2.2.2.2.2.2.1.symm)
      repeat refine ws_s rfl ?_
      refine wp_lt (x := 99) (rfl) (rfl) (by first | omega | decide) (by first | omega | decide) (fun z => ?_) (fun z => absurd z (by omega))
      repeat refine ws_s rfl ?_
      exact wp_ri rfl rfl rfl (pQ.i (z1.tr z2) (mC_mZ hC1 z2 x4) (((z1.tr z2).1.1 0 2 (Or.inr rfl)).trans ht0) (by rw [hly]; rfl))
    | succ f ih =>
      intro k X hk x1 x2 x3 x4 hly
      have hday := gm_day C.1 C.2.1 (opP C.2.2.1) (C.2.2.2.1, C.2.2.2.2) k
      dsimp only at hday
      have hla : laN C.1 C.2.1 (opP C.2.2.1) (C.2.2.2.1, C.2.2.2.2) k < 2 ^ 5 := Nat.lt_of_lt_of_le (dyL_la _ _ _ _ _) (Nat.pow_le_pow_right (by decide) q2)
      unfold lyN at hly
      repeat refine ws_s rfl ?_
      refine wp_lt (x := 99) (rfl) (rfl) (by first | omega | decide) (by first | omega | decide) (fun z => absurd z (by omega)) (fun z => ?_)
      repeat refine ws_s rfl ?_
      refine wp_cV rfl rfl o_X12_dayGoes v_X12_dayGoes (c_dayGoes G fr X tl C.1 C.2.1 (opP C.2.2.1) _ 1 _ (mPL_mB x1 hC1.1) (mTD_mB x1 hC1.2.1) (mOP_mB x1 hO1) x2 (gm_ho ht1 ht2 c6 k) x4 (by decide) (gm_lt _ _ _ _ c9 k) x3 (by omega)) rfl rfl rfl (Nat.le_of_ble_eq_true rfl) (by decide) ?_
      rintro r h' ⟨Y, rfl, y1, y2, y3, y4, y5, rfl⟩
      repeat refine ws_s rfl ?_
      have ct9 := c_isOfN G fr (hM Y tl) (laN C.1 C.2.1 (opP C.2.2.1) (C.2.2.2.1, C.2.2.2.2) k) jh (by omega) (by omega)
      rw [show nI (laN C.1 C.2.1 (opP C.2.2.1) (C.2.2.2.1, C.2.2.2.2) k) = Y.1 0 64 from y4.symm] at ct9
      refine wp_S (ct9) rfl rfl o_X12_isOf s_X12_isOf rfl rfl (Nat.le_of_ble_eq_true rfl) (by decide) ?_
      repeat refine ws_s rfl ?_
      refine wp_bn rfl (fun hf => ?_) (fun hf => ?_)
      · rw [if_neg (by rw [hf]; decide)] at hly
        repeat refine ws_s rfl ?_
        refine ws_b rfl ?_
        exact wp_eqL (by rw [← nI_add (k + 1) 1]; rfl) (ih (k + 1) Y (by omega) (x1.tr y1) y2 y3 y5 hly)
      · rw [if_pos hf] at hly
        have hdn := gm_dn C.1 C.2.1 (opP C.2.2.1) (C.2.2.2.1, C.2.2.2.2) rfl (k + 1)
        have z2 : mZ S1 Y := mZ_of (x1.tr y1).BZ (Eq.trans y3 ((congrArg lN hdn).trans hC1.2.2.2.2.2.2.2.1.symm))
        repeat refine ws_s rfl ?_
        exact wp_ri rfl rfl rfl (pQ.i (z1.tr z2) (mC_mZ hC1 z2 y5) (((z1.tr z2).1.1 0 2 (Or.inr rfl)).trans ht0) (by rw [hly]))
  exact K 99 0 S1 rfl mB.rf hs1 hC1.2.2.2.2.2.2.2.1 hC1.2.2.2.2.2.2.2.2.2 hans.symm
/-! tried -/
def trO (C : tC) (w i : Int32) : tOP := (false, decide (w = nI 0), decide (w = nI 1), decide (w = nI 4), if w = nI 2 then i else -(nI 1), if w = nI 3 then 1 else C.2.2.1)
def A_triedB (C : tC) (w i n : Int32) : Bool := inK w 0 4 && (inK n 0 99 && (if w = nI 2 then hrK C.1 i else decide (i = 0)))
def A_tried (C : tC) (w i n : Int32) : Int32 := if A_triedB C w i n = true then nI (gAll C.1 (onS C (trO C w i) (cl n))) - nI (gAll C.1 C.2.2.2.1) else -(nI 1)
set_option maxRecDepth 100000 in
set_option maxHeartbeats 4000000 in
theorem c_tried (G : ab_G) (fr : Bool) (S : ms_S) (tl : ab_H) (C : tC) (hC : mC S C) (w i n : Int32) :
    ab_CT G 9 M_X12_tried fr [.ref 0, .int w, .int i, .int n] (hM S tl) 0 0 (pQ (sV S 2 (nI 0)) tl C (.int (A_tried C w i n))) := by
  refine wp_ct o_X12_tried (Nat.le_of_ble_eq_true rfl) ?_
  generalize (hM S tl).length = n0
  have hC0 := th_C hC (nI 0)
  generalize hS0 : sV S 2 (nI 0) = S0 at hC0 ⊢
  have hZ0 : mZ S0 S0 := mZ.rf
  have ht0 : m_thrown S0 = nI 0 := by rw [← hS0]; rfl
  obtain ⟨c1, c2, c3, c4, c5, c6, c7, c8, c9, c10⟩ := id hC0
  obtain ⟨q1, q2, q3, q4, q5, q6⟩ := id c1
  iterate 3 refine ws_s rfl ?_
  refine wp_eqS hS0.symm ?_
  have K44 : A_triedB C w i n = false → wp G 9 M_X12_tried fr n0 (pQ S0 tl C (.int (A_tried C w i n))) 44 [some (.ref 0), some (.int w), some (.int i), some (.int n)] [] (hM S0 tl) := by
    intro hn
    repeat refine ws_s rfl ?_
    exact wp_ri rfl rfl rfl (pQ.i hZ0 hC0 ht0 (by unfold A_tried; rw [if_neg (by rw [hn]; decide)]))
  have K124 : ∀ (X : ms_S), A_triedB C w i n = true → mZ S0 X → mC X C → mES X 1 C.2.2.2.1 → mOP X (trO C w i) → wp G 9 M_X12_tried fr n0 (pQ S0 tl C (.int (A_tried C w i n))) 124 [some (.ref 0), some (.int w), some (.int i), some (.int n)] [] (hM X tl) := by
    intro X hB z1 hC1 hs1 hO1
    have hA : A_tried C w i n = nI (gAll C.1 (onS C (trO C w i) (cl n))) - nI (gAll C.1 C.2.2.2.1) := by
      unfold A_tried
      rw [if_pos hB]
    rw [hA]
    have hbn : inK n 0 99 = true := by
      unfold A_triedB at hB
      simp only [Bool.and_eq_true] at hB
      exact hB.2.1
    obtain ⟨jn, _, hjn, rfl⟩ := inK_t (by decide) (by decide) hbn
    rw [cl_nI (show jn < 2 ^ 31 by omega)]
    repeat refine ws_s rfl ?_
    refine wp_cV rfl rfl o_X12_goMany v_X12_goMany (c_goMany G fr X tl C.1 C.2.1 (trO C w i) C.2.2.2.1 jn C.2.2.2.2 hC1.1 hC1.2.1 hO1 hs1 c6 hC1.2.2.2.2.2.2.2.2.2 c9 hC1.2.2.2.2.2.2.2.1 c7 hjn) rfl rfl rfl (Nat.le_of_ble_eq_true rfl) (by decide) ?_
    rintro r h' ⟨S2, rfl, m2, hs2, hd2, hw2, rfl⟩
    have z2 : mZ X S2 := mZ_of m2.BZ (by rw [hd2, gm_dn C.1 C.2.1 (trO C w i) (C.2.2.2.1, C.2.2.2.2) rfl jn]; exact hC1.2.2.2.2.2.2.2.1.symm)
    have hC2 := mC_mZ hC1 z2 hw2
    change mES S2 1 (onS C (trO C w i) jn) at hs2
    repeat refine ws_s rfl ?_
    refine wp_V (c_plainTried G fr S2 tl) rfl rfl o_X12_plainTried v_X12_plainTried rfl rfl rfl (Nat.le_of_ble_eq_true rfl) (by decide) ?_
    have hC3 := ptS_C hC2
    have hZ3 := (z1.tr z2).tr (ptS_Z S2)
    have hs3 : mES (ptS S2) 1 (onS C (trO C w i) jn) := hs2
    repeat refine ws_s rfl ?_
    refine wp_V (c_goldAll G fr (ptS S2) tl 1 C.1.2.1 (onS C (trO C w i) jn).2.1 (by decide) q2 hC3.1.2.2.2.1 (fun j hj => (hs3.2.1 j hj).1)) rfl rfl o_X12_goldAll v_X12_goldAll rfl rfl rfl (Nat.le_of_ble_eq_true rfl) (by decide) ?_
    repeat refine ws_s rfl ?_
    refine wp_V (c_goldAll G fr (ptS S2) tl 0 C.1.2.1 C.2.2.2.1.2.1 (by decide) q2 hC3.1.2.2.2.1 (fun j hj => (hC3.2.2.2.2.1.2.1 j hj).1)) rfl rfl o_X12_goldAll v_X12_goldAll rfl rfl rfl (Nat.le_of_ble_eq_true rfl) (by decide) ?_
    repeat refine ws_s rfl ?_
    exact wp_ri rfl rfl rfl (pQ.i hZ3 hC3 ((hZ3.1.1 0 2 (Or.inr rfl)).trans ht0) rfl)
  repeat refine ws_s rfl ?_
  refine wp_S (c_isInK G fr (hM S0 tl) w 0 4) rfl rfl o_X12_isIn s_X12_isIn rfl rfl (Nat.le_of_ble_eq_true rfl) (by decide) ?_
  repeat refine ws_s rfl ?_
  refine wp_bn rfl (fun hb => K44 (by unfold A_triedB; rw [hb]; rfl)) (fun hb => ?_)
  repeat refine ws_s rfl ?_
  refine wp_S (c_isInK G fr (hM S0 tl) n 0 99) rfl rfl o_X12_isIn s_X12_isIn rfl rfl (Nat.le_of_ble_eq_true rfl) (by decide) ?_
  repeat refine ws_s rfl ?_
  refine wp_bn rfl (fun hb2 => K44 (by unfold A_triedB; rw [hb2, Bool.false_and, Bool.and_false])) (fun hb2 => ?_)
  have hB : A_triedB C w i n = (if w = nI 2 then hrK C.1 i else decide (i = 0)) := by
    unfold A_triedB
    rw [hb, hb2]
    rfl
  obtain ⟨jw, _, hjw, rfl⟩ := inK_t (by decide) (by decide) hb
  have K46 : A_triedB C (nI jw) i n = true → wp G 9 M_X12_tried fr n0 (pQ S0 tl C (.int (A_tried C (nI jw) i n))) 46 [some (.ref 0), some (.int (nI jw)), some (.int i), some (.int n)] [] (hM S0 tl) := by
    intro hBt
    repeat refine ws_s rfl ?_
    refine wp_cV rfl rfl o_X12_layTried v_X12_layTried (c_layTried G fr S0 tl C hC0) rfl rfl rfl (Nat.le_of_ble_eq_true rfl) (by decide) ?_
    rintro r h' ⟨S1, rfl, z1, hC1, hs1, hO1, rfl⟩
    obtain ⟨o1, o2, o3, o4, o5, o6, o7⟩ := hO1
    have zz : ∀ a b c d e : Int32, mZ S1 (sV (sV (sV (sV (sV S1 59 a) 60 b) 62 c) 63 d) 61 e) := fun a b c d e => ((((mZ.sV rfl).tr (mZ.sV rfl)).tr (mZ.sV rfl)).tr (mZ.sV rfl)).tr (mZ.sV rfl)
    have zC : ∀ a b c d e : Int32, mC (sV (sV (sV (sV (sV S1 59 a) 60 b) 62 c) 63 d) 61 e) C := fun a b c d e => mC_mZ hC1 (zz a b c d e) (mRW_F2 (S := S1) rfl rfl rfl hC1.2.2.2.2.2.2.2.2.2)
    rcases (show jw = 0 ∨ jw = 1 ∨ jw = 2 ∨ jw = 3 ∨ jw = 4 by omega) with rfl | rfl | rfl | rfl | rfl
    · repeat refine ws_s rfl ?_
      refine ws_g rfl (Or.inr rfl) ?_
      repeat refine ws_s rfl ?_
      refine ws_g rfl (Or.inl rfl) ?_
      repeat refine ws_s rfl ?_
      refine ws_ld (k := 0) rfl (by first | rfl | (simp only [pk_mul, nI_add]; done)) (by omega) (by decide) (hC1.2.2.1) ?_
      repeat refine ws_s rfl ?_
      refine ws_g rfl (Or.inl rfl) ?_
      exact K124 _ hBt (z1.tr (zz _ _ _ _ _)) (zC _ _ _ _ _) hs1 ⟨o1, rfl, rfl, rfl, rfl, rfl, c4⟩
    · repeat refine ws_s rfl ?_
      refine ws_g rfl (Or.inl rfl) ?_
      repeat refine ws_s rfl ?_
      refine ws_g rfl (Or.inr rfl) ?_
      repeat refine ws_s rfl ?_
      refine ws_ld (k := 0) rfl (by first | rfl | (simp only [pk_mul, nI_add]; done)) (by omega) (by decide) (hC1.2.2.1) ?_
      repeat refine ws_s rfl ?_
      refine ws_g rfl (Or.inl rfl) ?_
      exact K124 _ hBt (z1.tr (zz _ _ _ _ _)) (zC _ _ _ _ _) hs1 ⟨o1, rfl, rfl, rfl, rfl, rfl, c4⟩
    · repeat refine ws_s rfl ?_
      refine ws_g rfl (Or.inl rfl) ?_
      repeat refine ws_s rfl ?_
      refine ws_g rfl (Or.inl rfl) ?_
      repeat refine ws_s rfl ?_
      refine ws_ld (k := 0) rfl (by first | rfl | (simp only [pk_mul, nI_add]; done)) (by omega) (by decide) (hC1.2.2.1) ?_
      repeat refine ws_s rfl ?_
      refine ws_g rfl (Or.inl rfl) ?_
      exact K124 _ hBt (z1.tr (zz _ _ _ _ _)) (zC _ _ _ _ _) hs1 ⟨o1, rfl, rfl, rfl, rfl, rfl, c4⟩
    · repeat refine ws_s rfl ?_
      refine ws_g rfl (Or.inl rfl) ?_
      repeat refine ws_s rfl ?_
      refine ws_g rfl (Or.inl rfl) ?_
      repeat refine ws_s rfl ?_
      refine ws_g rfl (Or.inl rfl) ?_
      exact K124 _ hBt (z1.tr (zz _ _ _ _ _)) (zC _ _ _ _ _) hs1 ⟨o1, rfl, rfl, rfl, rfl, rfl, by show 1 ≤ 9; decide⟩
    · repeat refine ws_s rfl ?_
      refine ws_g rfl (Or.inl rfl) ?_
      repeat refine ws_s rfl ?_
      refine ws_g rfl (Or.inl rfl) ?_
      repeat refine ws_s rfl ?_
      refine ws_ld (k := 0) rfl (by first | rfl | (simp only [pk_mul, nI_add]; done)) (by omega) (by decide) (hC1.2.2.1) ?_
      repeat refine ws_s rfl ?_
      refine ws_g rfl (Or.inr rfl) ?_
      exact K124 _ hBt (z1.tr (zz _ _ _ _ _)) (zC _ _ _ _ _) hs1 ⟨o1, rfl, rfl, rfl, rfl, rfl, c4⟩
  repeat refine ws_s rfl ?_
  refine wp_eq (x := jw) (y := 2) rfl rfl (by omega) (by decide) (fun hw => ?_) (fun hw => ?_)
  · subst hw
    rw [if_pos rfl] at hB
    repeat refine ws_s rfl ?_
    refine wp_V (c_isHeirK G fr S0 tl C.1 i q4) rfl rfl o_X12_isHeir v_X12_isHeir rfl rfl rfl (Nat.le_of_ble_eq_true rfl) (by decide) ?_
    repeat refine ws_s rfl ?_
    refine wp_bn rfl (fun hb3 => ?_) (fun hb3 => K46 (by rw [hB, hb3]))
    iterate 1 refine ws_s rfl ?_
    exact K44 (by rw [hB, hb3])
  · rw [if_neg (fun z => hw ((nI_eq (by omega) (by decide)).mp z))] at hB
    repeat refine ws_s rfl ?_
    refine wp_ite (fun hi => ?_) (fun hi => ?_)
    · exact K46 (by rw [hB, decide_eq_true hi])
    · exact K44 (by rw [hB, decide_eq_false hi])
/-! chance -/
abbrev chO (C : tC) : tOP := (true, false, false, false, -(nI 1), C.2.2.1)
/-- times, number drawn, behind k runs -/
def chN (C : tC) (n h m : Nat) (dn : Nat) : Nat → Nat × Nat
  | 0 => (0, dn)
  | k + 1 => ((chN C n h m dn k).1 + (if m ≤ (gmS C.1 C.2.1 (chO C) (C.2.2.2.1, (chN C n h m dn k).2) n).1.2.1 h then 1 else 0), (gmS C.1 C.2.1 (chO C) (C.2.2.2.1, (chN C n h m dn k).2) n).2)
theorem chN_lt (C : tC) (n h m dn : Nat) (hd : dn < 2 ^ 31) : ∀ k, (chN C n h m dn k).2 < 2 ^ 31
  | 0 => hd
  | k + 1 => gm_lt _ _ _ _ (chN_lt C n h m dn hd k) _
def A_chanceB (C : tC) (sd n h m : Int32) : Bool := decide (¬ sd < 0) && (inK n 1 99 && (hrK C.1 h && inK m 0 99999))
def A_chance (C : tC) (sd n h m : Int32) : Int32 := if A_chanceB C sd n h m = true then nI (chN C (cl n) (cl h) (cl m) (cl sd) 10).1 else -(nI 1)
set_option maxRecDepth 100000 in
set_option maxHeartbeats 4000000 in
theorem c_chance (G : ab_G) (fr : Bool) (S : ms_S) (tl : ab_H) (C : tC) (hC : mC S C) (sd n h m : Int32) :
    ab_CT G 9 M_X12_chance fr [.ref 0, .int sd, .int n, .int h, .int m] (hM S tl) 0 0 (pQ (sV S 2 (nI 0)) tl C (.int (A_chance C sd n h m))) := by
  refine wp_ct o_X12_chance (Nat.le_of_ble_eq_true rfl) ?_
  generalize (hM S tl).length = n0
  have hC0 := th_C hC (nI 0)
  generalize hS0 : sV S 2 (nI 0) = S0 at hC0 ⊢
  have hZ0 : mZ S0 S0 := mZ.rf
  have ht0 : m_thrown S0 = nI 0 := by rw [← hS0]; rfl
  obtain ⟨c1, c2, c3, c4, c5, c6, c7, c8, c9, c10⟩ := id hC0
  obtain ⟨q1, q2, q3, q4, q5, q6⟩ := id c1
  iterate 3 refine ws_s rfl ?_
  refine wp_eqS hS0.symm ?_
  have K38 : A_chanceB C sd n h m = false → wp G 9 M_X12_chance fr n0 (pQ S0 tl C (.int (A_chance C sd n h m))) 38 [some (.ref 0), some (.int sd), some (.int n), some (.int h), some (.int m), none, none, none, none] [] (hM S0 tl) := by
    intro hn
    repeat refine ws_s rfl ?_
    exact wp_ri rfl rfl rfl (pQ.i hZ0 hC0 ht0 (by unfold A_chance; rw [if_neg (by rw [hn]; decide)]))
  repeat refine ws_s rfl ?_
  refine wp_ite (fun hs => ?_) (fun hs => ?_)
  · exact K38 (by unfold A_chanceB; rw [decide_eq_false (fun z => z hs)]; rfl)
  repeat refine ws_s rfl ?_
  refine wp_S (c_isInK G fr (hM S0 tl) n 1 99) rfl rfl o_X12_isIn s_X12_isIn rfl rfl (Nat.le_of_ble_eq_true rfl) (by decide) ?_
  repeat refine ws_s rfl ?_
  refine wp_bn rfl (fun hb => K38 (by unfold A_chanceB; rw [hb, Bool.false_and, Bool.and_false])) (fun hb => ?_)
  repeat refine ws_s rfl ?_
  refine wp_V (c_isHeirK G fr S0 tl C.1 h q4) rfl rfl o_X12_isHeir v_X12_isHeir rfl rfl rfl (Nat.le_of_ble_eq_true rfl) (by decide) ?_
  repeat refine ws_s rfl ?_
  refine wp_bn rfl (fun hb2 => K38 (by unfold A_chanceB; rw [hb2, Bool.false_and, Bool.and_false, Bool.and_false])) (fun hb2 => ?_)
  repeat refine ws_s rfl ?_
  refine wp_S (c_isInK G fr (hM S0 tl) m 0 99999) rfl rfl o_X12_isIn s_X12_isIn rfl rfl (Nat.le_of_ble_eq_true rfl) (by decide) ?_
  repeat refine ws_s rfl ?_
  refine wp_bn rfl (fun hb3 => K38 (by unfold A_chanceB; rw [hb3, Bool.and_false, Bool.and_false, Bool.and_false])) (fun hb3 => ?_)
  have hB : A_chanceB C sd n h m = true := by
    unfold A_chanceB
    rw [hb, hb2, hb3, decide_eq_true hs]
    rfl
  obtain ⟨js, hjs, rfl⟩ := nI_of hs
  obtain ⟨jn, hjn0, hjn, rfl⟩ := inK_t (by decide) (by decide) hb
  obtain ⟨jh, hjh, rfl⟩ := hrK_t q2 hb2
  obtain ⟨jm, _, hjm, rfl⟩ := inK_t (by decide) (by decide) hb3
  have hA : A_chance C (nI js) (nI jn) (nI jh) (nI jm) = nI (chN C jn jh jm js 10).1 := by
    unfold A_chance
    rw [if_pos hB, cl_nI hjs, cl_nI (by omega), cl_nI (by omega), cl_nI (by omega)]
  rw [hA]
  have hCs : mC (sW S0 57 (nI js).toInt64) (cdn C js) := mC_dn hC0 mB.dr (mRW_F2 (S := S0) rfl rfl rfl c10) (nI_l hjs) hjs
  iterate 11 refine ws_s rfl ?_
  refine wp_downX (X := ms_S) 10 (fun k X => mB fZ aZ 1 S0 X ∧ mC X (cdn C (chN C jn jh jm js k).2)) (fun k X => [some (.ref 0), some (.int (nI js)), some (.int (nI jn)), some (.int (nI jh)), some (.int (nI jm)), some (.long (m_drawn S0)), none, some (.int (nI (chN C jn jh jm js k).1)), some (.int (nI k))]) (fun X => hM X tl) ?_ ?_ (sW S0 57 (nI js).toInt64) ⟨mB.dr, hCs⟩
  · rintro X ⟨x1, x2⟩
    repeat refine ws_s rfl ?_
    refine ws_g rfl (Or.inl rfl) ?_
    repeat refine ws_s rfl ?_
    have z2 : mZ S0 (sW (sV X 58 (nI 0)) 57 (m_drawn S0)) := mZ_of ((x1.tr (mB.sV rfl)).tr mB.dr) rfl
    exact wp_ri rfl rfl rfl (pQ.i z2 (mC_mZ hC0 z2 (mRW_F2 (S := X) rfl rfl rfl x2.2.2.2.2.2.2.2.2.2)) ((z2.1.1 0 2 (Or.inr rfl)).trans ht0) rfl)
  · rintro k X hk ⟨x1, x2⟩ kn
    have ekn : chN C jn jh jm js (k + 1) = ((chN C jn jh jm js k).1 + (if jm ≤ (gmS C.1 C.2.1 (chO C) (C.2.2.2.1, (chN C jn jh jm js k).2) jn).1.2.1 jh then 1 else 0), (gmS C.1 C.2.1 (chO C) (C.2.2.2.1, (chN C jn jh jm js k).2) jn).2) := rfl
    have hdl := chN_lt C jn jh jm js hjs k
    rw [ekn] at kn
    generalize chN C jn jh jm js k = cur at x2 kn hdl ⊢
    repeat refine ws_s rfl ?_
    refine wp_le (x := 10) (rfl) (rfl) (by first | omega | decide) (by first | omega | decide) (fun z => absurd z (by omega)) (fun z => ?_)
    repeat refine ws_s rfl ?_
    refine wp_cV rfl rfl o_X12_layTried v_X12_layTried (c_layTried G fr X tl (cdn C cur.2) x2) rfl rfl rfl (Nat.le_of_ble_eq_true rfl) (by decide) ?_
    rintro r h' ⟨S1, rfl, z1, hC1, hs1, hO1, rfl⟩
    obtain ⟨o1, o2, o3, o4, o5, o6, o7⟩ := hO1
    repeat refine ws_s rfl ?_
    refine ws_g rfl (Or.inr rfl) ?_
    repeat refine ws_s rfl ?_
    have z3 : mZ S1 (sV S1 58 (nI 1)) := mZ.sV rfl
    have hC3 := mC_mZ hC1 z3 (mRW_F2 (S := S1) rfl rfl rfl hC1.2.2.2.2.2.2.2.2.2)
    refine wp_cV rfl rfl o_X12_goMany v_X12_goMany (c_goMany G fr (sV S1 58 (nI 1)) tl C.1 C.2.1 (chO C) C.2.2.2.1 jn cur.2 hC3.1 hC3.2.1 ⟨rfl, o2, o3, o4, o5, o6, o7⟩ hs1 c6 hC3.2.2.2.2.2.2.2.2.2 hdl hC3.2.2.2.2.2.2.2.1 c7 hjn) rfl rfl rfl (Nat.le_of_ble_eq_true rfl) (by decide) ?_
    rintro r h' ⟨S2, rfl, m2, hs2, hd2, hw2, rfl⟩
    have hl2 := gm_lt C.1 C.2.1 (chO C) (C.2.2.2.1, cur.2) hdl jn
    have hC4 : mC S2 (cdn C (gmS C.1 C.2.1 (chO C) (C.2.2.2.1, cur.2) jn).2) := mC_dn (C := cdn C cur.2) hC3 m2.BZ hw2 hd2 hl2
    have x5 := ((x1.tr z1.1).tr z3.1).tr m2.BZ
    obtain ⟨eg, hg⟩ := hs2.2.1 jh (by omega)
    have K99 : ∀ v : Nat, (if jm ≤ (gmS C.1 C.2.1 (chO C) (C.2.2.2.1, cur.2) jn).1.2.1 jh then 1 else 0) = v → wp G 9 M_X12_chance fr n0 (pQ S0 tl C (.int (nI (chN C jn jh jm js 10).1))) 99 [some (.ref 0), some (.int (nI js)), some (.int (nI jn)), some (.int (nI jh)), some (.int (nI jm)), some (.long (m_drawn S0)), none, some (.int (nI cur.1)), some (.int (nI k))] [.int (nI v), .int (nI cur.1)] (hM S2 tl) := by
      intro v hv
      rw [hv] at kn
      repeat refine ws_s rfl ?_
      refine ws_b rfl ?_
      exact wp_eqL (by dsimp only; rw [← nI_add k 1, ← nI_add cur.1 v]; rfl) (kn S2 ⟨x5, hC4⟩)
    repeat refine ws_s rfl ?_
    refine ws_ld (k := 5 + jh) rfl (by first | rfl | (simp only [pk_mul, nI_add]; done)) (by omega) (by decide) (eg) ?_
    repeat refine ws_s rfl ?_
    refine wp_lt (rfl) (rfl) (by first | omega | decide) (by first | omega | decide) (fun zz => ?_) (fun zz => ?_)
    · iterate 1 refine ws_s rfl ?_
      exact K99 0 (if_neg (by omega))
    · iterate 2 refine ws_s rfl ?_
      exact K99 1 (if_pos zz)
