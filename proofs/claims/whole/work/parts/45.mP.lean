/-! ===== the reference: queries ===== -/
def pQ (S : ms_S) (tl : ab_H) (C : tC) (a : Value) (r : Option Value) (h' : ab_H) : Prop := ∃ S', h' = hM S' tl ∧ mZ S S' ∧ mC S' C ∧ m_thrown S' = nI 0 ∧ r = some a
theorem pQ.i {S X : ms_S} {tl : ab_H} {C : tC} {a b : Int32} (h1 : mZ S X) (h2 : mC X C) (h3 : m_thrown X = nI 0) (h4 : b = a) : pQ S tl C (.int a) (some (.int b)) (hM X tl) := ⟨X, rfl, h1, h2, h3, by rw [h4]⟩
theorem pQ.l {S X : ms_S} {tl : ab_H} {C : tC} {a b : Int64} (h1 : mZ S X) (h2 : mC X C) (h3 : m_thrown X = nI 0) (h4 : b = a) : pQ S tl C (.long a) (some (.long b)) (hM X tl) := ⟨X, rfl, h1, h2, h3, by rw [h4]⟩
theorem th_C {S : ms_S} {C : tC} (h : mC S C) (x : Int32) : mC (sV S 2 x) C := h
theorem th_2 (S : ms_S) (x y : Int32) : mZ (sV S 2 y) (sV (sV S 2 x) 2 y) := by
  refine ⟨⟨fun a k _ => ?_, fun _ _ _ => rfl, rfl, fun _ _ _ => rfl, fun _ _ => rfl, fun _ _ => rfl, fun _ _ => ⟨rfl, rfl⟩, fun _ _ => ⟨rfl, rfl⟩⟩, rfl⟩
  show u2 (u2 S.1 0 2 x) 0 2 y a k = u2 S.1 0 2 y a k
  unfold u2
  cases (Nat.beq a 0 && Nat.beq k 2) <;> rfl
/-- small numbers of a switch -/
theorem ts_c (x : Int32) (n : Nat) (hn : n < 2 ^ 30) : (∃ j, j ≤ n ∧ x = nI j) ∨ ((∀ j, j ≤ n → ¬ x = nI j) ∧ (x.toInt < 0 ∨ (n : Int) < x.toInt)) := by
  rcases pk_ix x (n := n + 1) (by omega) with q | q | ⟨j, hj, rfl⟩
  · have q2 : x.toInt < 0 := Int32.lt_iff_toInt_lt.mp q
    refine Or.inr ⟨fun j hj z => ?_, Or.inl q2⟩
    rw [z, nI_toInt (by omega)] at q2
    omega
  · have q2 : (n + 1 : Nat) ≤ x.toInt := by
      have := Int32.le_iff_toInt_le.mp q
      rw [nI_toInt (by omega)] at this
      exact this
    refine Or.inr ⟨fun j hj z => ?_, Or.inr (by omega)⟩
    rw [z, nI_toInt (by omega)] at q2
    omega
  · exact Or.inl ⟨j, by omega, rfl⟩
abbrev cl (x : Int32) : Nat := x.toNatClampNeg
theorem cl_nI {j : Nat} (h : j < 2 ^ 31) : cl (nI j) = j := nI_clamp h
/-! heir -/
def A_heir (C : tC) (h w : Int32) : Int32 := if hrK C.1 h = true then (if w = 0 then nI (C.2.2.2.1.2.1 (cl h)) else if w = nI 1 then nI (heldN C.2.2.2.1.1 h C.1.1) else if w = nI 2 then nI (C.2.2.2.1.2.2.1 (cl h)) else -(nI 1)) else -(nI 1)
set_option maxRecDepth 100000 in
set_option maxHeartbeats 4000000 in
theorem c_heir (G : ab_G) (fr : Bool) (S : ms_S) (tl : ab_H) (C : tC) (hC : mC S C) (h w : Int32) :
    ab_CT G 2 M_X12_heir fr [.ref 0, .int h, .int w] (hM S tl) 0 0 (pQ (sV S 2 (nI 0)) tl C (.int (A_heir C h w))) := by
  refine wp_ct o_X12_heir (Nat.le_of_ble_eq_true rfl) ?_
  generalize (hM S tl).length = n0
  have hC0 := th_C hC (nI 0)
  generalize hS0 : sV S 2 (nI 0) = S0 at hC0 ⊢
  have hZ0 : mZ S0 S0 := mZ.rf
  have ht0 : m_thrown S0 = nI 0 := by rw [← hS0]; rfl
  obtain ⟨c1, c2, c3, c4, c5, c6, c7, c8, c9, c10⟩ := id hC0
  obtain ⟨q1, q2, q3, q4, q5, q6⟩ := id c1
  iterate 3 refine ws_s rfl ?_
  refine wp_eqS hS0.symm ?_
  repeat refine ws_s rfl ?_
  refine wp_V (c_isHeirK G fr S0 tl C.1 h q4) rfl rfl o_X12_isHeir v_X12_isHeir rfl rfl rfl (Nat.le_of_ble_eq_true rfl) (by decide) ?_
  repeat refine ws_s rfl ?_
  refine wp_bn rfl (fun hb => ?_) (fun hb => ?_)
  · repeat refine ws_s rfl ?_
    exact wp_ri rfl rfl rfl (pQ.i hZ0 hC0 ht0 (by unfold A_heir; rw [if_neg (by rw [hb]; decide)]))
  · obtain ⟨j, hj, rfl⟩ := hrK_t q2 hb
    have e1 := (c5.2.1 j (by omega)).1
    have e2 := c5.2.2.1 j (by omega)
    rw [show 5 * 0 + j = j by omega] at e1 e2
    have ea : A_heir C (nI j) w = (if w = 0 then nI (C.2.2.2.1.2.1 j) else if w = nI 1 then nI (heldN C.2.2.2.1.1 (nI j) C.1.1) else if w = nI 2 then nI (C.2.2.2.1.2.2.1 j) else -(nI 1)) := by
      unfold A_heir
      rw [if_pos hb, cl_nI (by omega)]
    have hbx : heldN (fun p => a_holder S0 (9 * 0 + p)) (nI j) C.1.1 = heldN C.2.2.2.1.1 (nI j) C.1.1 := heldN_congr (fun i hi => c5.1 i (by omega))
    have ct1 := c_heldBy G fr S0 tl 0 C.1.1 (nI j) (by decide) q1 q3
    rw [hbx] at ct1
    repeat refine ws_s rfl ?_
    refine wp_ite (fun h0 => ?_) (fun h0 => ?_)
    · repeat refine ws_s rfl ?_
      refine ws_ld (k := j) rfl (by first | rfl | (simp only [pk_mul, nI_add]; done)) (by omega) (by decide) (e1) ?_
      repeat refine ws_s rfl ?_
      exact wp_ri rfl rfl rfl (pQ.i hZ0 hC0 ht0 (by rw [ea, if_pos h0]))
    · repeat refine ws_s rfl ?_
      refine wp_ite (fun h1 => ?_) (fun h1 => ?_)
      · repeat refine ws_s rfl ?_
        refine wp_V (ct1) rfl rfl o_X12_heldBy v_X12_heldBy rfl rfl rfl (Nat.le_of_ble_eq_true rfl) (by decide) ?_
        repeat refine ws_s rfl ?_
        exact wp_ri rfl rfl rfl (pQ.i hZ0 hC0 ht0 (by rw [ea, if_neg h0, if_pos h1]))
      · repeat refine ws_s rfl ?_
        refine wp_ite (fun h2 => ?_) (fun h2 => ?_)
        · repeat refine ws_s rfl ?_
          refine ws_ld (k := j) rfl (by first | rfl | (simp only [pk_mul, nI_add]; done)) (by omega) (by decide) (e2) ?_
          repeat refine ws_s rfl ?_
          exact wp_ri rfl rfl rfl (pQ.i hZ0 hC0 ht0 (by rw [ea, if_neg h0, if_neg h1, if_pos h2]))
        · repeat refine ws_s rfl ?_
          exact wp_ri rfl rfl rfl (pQ.i hZ0 hC0 ht0 (by rw [ea, if_neg h0, if_neg h1, if_neg h2]))
/-! piece -/
def A_piece (C : tC) (p w : Int32) : Int32 × Nat := if pcK C.1 p = true then (if w = nI 0 then (nI (C.1.2.2.1 (cl p)), 0) else if w = nI 1 then (nI (C.1.2.2.2.1 (cl p)), 0) else if w = nI 2 then (nI (C.1.2.2.2.2.1 (cl p)), 0) else if w = nI 3 then (C.2.2.2.1.1 (cl p), 0) else (nI 0, 2)) else (nI 0, 1)
set_option maxRecDepth 100000 in
set_option maxHeartbeats 4000000 in
theorem c_fails (G : ab_G) (fr : Bool) (S : ms_S) (tl : ab_H) (x : Int32) :
    ab_CT G 1 M_X12_fails fr [.ref 0, .int x] (hM S tl) 0 0 (fun r h' => r = some (.int (nI 0)) ∧ h' = hM (sV S 2 x) tl) := by
  refine ct_of o_X12_fails (Nat.le_of_ble_eq_true rfl) (fun n0 post hp => ?_)
  repeat refine ws_s rfl ?_
  exact wp_ri rfl rfl rfl hp
set_option maxRecDepth 100000 in
set_option maxHeartbeats 4000000 in
theorem c_piece (G : ab_G) (fr : Bool) (S : ms_S) (tl : ab_H) (C : tC) (hC : mC S C) (p w : Int32) :
    ab_CT G 2 M_X12_piece fr [.ref 0, .int p, .int w] (hM S tl) 0 0 (fun r h' => ∃ S', h' = hM S' tl ∧ mZ (sV S 2 (nI (A_piece C p w).2)) S' ∧ mC S' C ∧ r = some (.int (A_piece C p w).1)) := by
  refine wp_ct o_X12_piece (Nat.le_of_ble_eq_true rfl) ?_
  generalize hpost : (fun (r : Option Value) (h' : ab_H) => ∃ S', h' = hM S' tl ∧ mZ (sV S 2 (nI (A_piece C p w).2)) S' ∧ mC S' C ∧ r = some (.int (A_piece C p w).1)) = post
  generalize (hM S tl).length = n0
  have hC0 := th_C hC (nI 0)
  have hZ0 : mZ (sV S 2 (nI 0)) (sV S 2 (nI 0)) := mZ.rf
  generalize hS0 : sV S 2 (nI 0) = S0 at hC0
  have ht0 : m_thrown S0 = nI 0 := by rw [← hS0]; rfl
  obtain ⟨c1, c2, c3, c4, c5, c6, c7, c8, c9, c10⟩ := id hC0
  obtain ⟨q1, q2, q3, q4, q5, q6⟩ := id c1
  iterate 3 refine ws_s rfl ?_
  refine wp_eqS hS0.symm ?_
  repeat refine ws_s rfl ?_
  refine wp_V (c_isPieceK G fr S0 tl C.1 p q3) rfl rfl o_X12_isPiece v_X12_isPiece rfl rfl rfl (Nat.le_of_ble_eq_true rfl) (by decide) ?_
  repeat refine ws_s rfl ?_
  refine wp_bn rfl (fun hb => ?_) (fun hb => ?_)
  · repeat refine ws_s rfl ?_
    refine wp_V (c_fails G fr S0 tl (nI 1)) rfl rfl o_X12_fails v_X12_fails rfl rfl rfl (Nat.le_of_ble_eq_true rfl) (by decide) ?_
    refine wp_ri rfl rfl rfl ?_
    rw [← hpost]
    unfold A_piece
    rw [if_neg (by rw [hb]; decide)]
    rw [← hS0] at hC0 ⊢
    exact ⟨_, rfl, th_2 S _ _, th_C hC0 _, rfl⟩
  · obtain ⟨j, hj, rfl⟩ := pcK_t q1 hb
    obtain ⟨e1, e2, e3, e4, e5, e6⟩ := q5 j hj
    have e7 := c5.1 j (by omega)
    rw [show 9 * 0 + j = j by omega] at e7
    have ea : A_piece C (nI j) w = (if w = nI 0 then (nI (C.1.2.2.1 j), 0) else if w = nI 1 then (nI (C.1.2.2.2.1 j), 0) else if w = nI 2 then (nI (C.1.2.2.2.2.1 j), 0) else if w = nI 3 then (C.2.2.2.1.1 j, 0) else (nI 0, 2)) := by
      unfold A_piece
      rw [if_pos hb, cl_nI (by omega)]
    rw [ea] at hpost
    repeat refine ws_s rfl ?_
    rcases ts_c w 3 (by decide) with ⟨k, hk, rfl⟩ | ⟨hk, hd⟩
    · rcases (show k = 0 ∨ k = 1 ∨ k = 2 ∨ k = 3 by omega) with rfl | rfl | rfl | rfl
      · refine wp_tsw (off := 32) (t := 52) rfl (by decide) (by decide) (by decide) (by decide) ?_
        repeat refine ws_s rfl ?_
        refine ws_ld (k := j) rfl (by first | rfl | (simp only [pk_mul, nI_add]; done)) (by omega) (by decide) (e1) ?_
        refine wp_ri rfl rfl rfl ?_
        rw [← hpost]
        rw [← hS0] at hC0 ⊢
        exact ⟨_, rfl, hZ0, hC0, rfl⟩
      · refine wp_tsw (off := 39) (t := 59) rfl (by decide) (by decide) (by decide) (by decide) ?_
        repeat refine ws_s rfl ?_
        refine ws_ld (k := j) rfl (by first | rfl | (simp only [pk_mul, nI_add]; done)) (by omega) (by decide) (e3) ?_
        refine wp_ri rfl rfl rfl ?_
        rw [← hpost]
        rw [← hS0] at hC0 ⊢
        exact ⟨_, rfl, hZ0, hC0, rfl⟩
      · refine wp_tsw (off := 46) (t := 66) rfl (by decide) (by decide) (by decide) (by decide) ?_
        repeat refine ws_s rfl ?_
        refine ws_ld (k := j) rfl (by first | rfl | (simp only [pk_mul, nI_add]; done)) (by omega) (by decide) (e5) ?_
        refine wp_ri rfl rfl rfl ?_
        rw [← hpost]
        rw [← hS0] at hC0 ⊢
        exact ⟨_, rfl, hZ0, hC0, rfl⟩
      · refine wp_tsw (off := 53) (t := 73) rfl (by decide) (by decide) (by decide) (by decide) ?_
        repeat refine ws_s rfl ?_
        refine ws_ld (k := j) rfl (by first | rfl | (simp only [pk_mul, nI_add]; done)) (by omega) (by decide) (e7) ?_
        refine wp_ri rfl rfl rfl ?_
        rw [← hpost]
        rw [← hS0] at hC0 ⊢
        exact ⟨_, rfl, hZ0, hC0, rfl⟩
    · refine wp_tsd (t := 80) rfl hd (by decide) ?_
      repeat refine ws_s rfl ?_
      refine wp_V (c_fails G fr S0 tl (nI 2)) rfl rfl o_X12_fails v_X12_fails rfl rfl rfl (Nat.le_of_ble_eq_true rfl) (by decide) ?_
      refine wp_ri rfl rfl rfl ?_
      rw [← hpost, if_neg (hk 0 (by decide)), if_neg (hk 1 (by decide)), if_neg (hk 2 (by decide)), if_neg (hk 3 (by decide))]
      rw [← hS0] at hC0 ⊢
      exact ⟨_, rfl, th_2 S _ _, th_C hC0 _, rfl⟩
/-! joins -/
def A_joins (C : tC) (a c : Int32) : Int32 := if enK a = true ∧ enK c = true then bI (jnK C.1 C.2.2.2.1.2.2.2.2 false (cl a) (cl c)) else -(nI 1)
theorem bit_bI (b k : Nat) : nI (b / 2 ^ k % 2) = bI (b.testBit k) := by
  by_cases h : b.testBit k = true
  · rw [h, (nu_tb b k).mpr h]
    rfl
  · have h2 : b / 2 ^ k % 2 < 2 := Nat.mod_lt _ (by omega)
    have h3 : ¬ b / 2 ^ k % 2 = 1 := fun q => h ((nu_tb b k).mp q)
    rw [Bool.not_eq_true] at h
    rw [h, show b / 2 ^ k % 2 = 0 by omega]
    rfl
set_option maxRecDepth 100000 in
set_option maxHeartbeats 4000000 in
theorem c_joins (G : ab_G) (fr : Bool) (S : ms_S) (tl : ab_H) (C : tC) (hC : mC S C) (a c : Int32) :
    ab_CT G 5 M_X12_joins fr [.ref 0, .int a, .int c] (hM S tl) 0 0 (pQ (sV S 2 (nI 0)) tl C (.int (A_joins C a c))) := by
  refine wp_ct o_X12_joins (Nat.le_of_ble_eq_true rfl) ?_
  generalize (hM S tl).length = n0
  have hC0 := th_C hC (nI 0)
  generalize hS0 : sV S 2 (nI 0) = S0 at hC0 ⊢
  have hZ0 : mZ S0 S0 := mZ.rf
  have ht0 : m_thrown S0 = nI 0 := by rw [← hS0]; rfl
  obtain ⟨c1, c2, c3, c4, c5, c6, c7, c8, c9, c10⟩ := id hC0
  obtain ⟨q1, q2, q3, q4, q5, q6⟩ := id c1
  iterate 3 refine ws_s rfl ?_
  refine wp_eqS hS0.symm ?_
  have K19 : ¬ (enK a = true ∧ enK c = true) → wp G 5 M_X12_joins fr n0 (pQ S0 tl C (.int (A_joins C a c))) 19 [some (.ref 0), some (.int a), some (.int c)] [] (hM S0 tl) := by
    intro hn
    repeat refine ws_s rfl ?_
    exact wp_ri rfl rfl rfl (pQ.i hZ0 hC0 ht0 (by unfold A_joins; rw [if_neg hn]))
  repeat refine ws_s rfl ?_
  refine wp_S (c_isEndK G fr (hM S0 tl) a) rfl rfl o_X12_isEnd s_X12_isEnd rfl rfl (Nat.le_of_ble_eq_true rfl) (by decide) ?_
  repeat refine ws_s rfl ?_
  refine wp_bn rfl (fun hb => K19 (fun z => by rw [hb] at z; cases z.1)) (fun hb => ?_)
  repeat refine ws_s rfl ?_
  refine wp_S (c_isEndK G fr (hM S0 tl) c) rfl rfl o_X12_isEnd s_X12_isEnd rfl rfl (Nat.le_of_ble_eq_true rfl) (by decide) ?_
  repeat refine ws_s rfl ?_
  refine wp_bn rfl (fun hb2 => K19 (fun z => by rw [hb2] at z; cases z.2)) (fun hb2 => ?_)
  obtain ⟨ja, hja, rfl⟩ := enK_t hb
  obtain ⟨jc, hjc, rfl⟩ := enK_t hb2
  repeat refine ws_s rfl ?_
  refine wp_V (c_plainTried G fr S0 tl) rfl rfl o_X12_plainTried v_X12_plainTried rfl rfl rfl (Nat.le_of_ble_eq_true rfl) (by decide) ?_
  have hCp := ptS_C hC0
  have hOp := ptS_O hC0
  have hZp := hZ0.tr (ptS_Z S0)
  repeat refine ws_s rfl ?_
  refine wp_cV rfl rfl o_X12_layJoins v_X12_layJoins (c_layJoins G fr (ptS S0) tl C.1 C.2.2.2.1 0 hCp.1 hCp.2.2.2.2.1 (by decide)) rfl rfl rfl (Nat.le_of_ble_eq_true rfl) (by decide) ?_
  rintro r h' ⟨S1, rfl, hm1, hj1, rfl⟩
  have hm2 := hm1.JR
  repeat refine ws_s rfl ?_
  rw [dec_bI hOp.2.2.1] at hj1
  refine ws_ld (k := ja) rfl (by first | rfl | (simp only [pk_mul, nI_add]; done)) (by omega) (by decide) (hj1 ja hja) ?_
  repeat refine ws_s rfl ?_
  have hlt := bitsN_lt (jnK C.1 C.2.2.2.1.2.2.2.2 (opP C.2.2.1).2.2.1 ja) 7
  refine wp_ri rfl rfl rfl (pQ.i (hZp.tr hm2.Z) (mC_mZ hCp hm2.Z (mRW_F hm1 rfl rfl rfl hCp.2.2.2.2.2.2.2.2.2)) ((hm2.1 0 2 (Or.inr rfl)).trans ht0) ?_)
  rw [nu_bit (by omega) (by omega), bit_bI, bitsN_tb]
  unfold A_joins
  rw [if_pos ⟨hb, hb2⟩, cl_nI (by omega), cl_nI (by omega), decide_eq_true hjc]
  rfl
