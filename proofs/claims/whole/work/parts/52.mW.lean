/-! ===== the reference: give, trade, lay, go ===== -/
/-- the options laid plain keep all -/
theorem pt_I {S : ms_S} {g : tSG} (h : mI S g) : mI (ptS S) g := ⟨ptS_C h.1, mU_F (S := S) rfl rfl h.2.1, mIm_F (S := S) rfl rfl rfl rfl rfl h.2.2.1, mRs_W (S := S) (ptS_Z S).1.W h.2.2.2⟩
theorem mI_E {S S' : ms_S} {g : tSG} (hI : mI S g) (h : mE fR aR S S') (hW : mRW S' g.1.1) : mI S' g :=
  ⟨mC_mZ hI.1 h.Z hW, mU_F (h.1 0 79 (Or.inr rfl)) (h.2.2.2.1 39 rfl) hI.2.1, mIm_F (h.1 0 81 (Or.inr rfl)) (h.2.2.2.1 40 rfl) (h.1 0 83 (Or.inr rfl)) (h.1 0 84 (Or.inr rfl)) (congrFun (congrFun h.2.1 0) 85) hI.2.2.1, mRs_W h.Z.1.W hI.2.2.2⟩
theorem mI_Z0 {S S' : ms_S} {g : tSG} (hI : mI S g) (h : mZ S S') (hW : mRW S' g.1.1) : mI S' g :=
  ⟨mC_mZ hI.1 h hW, mU_F (h.1.1 0 79 (Or.inr rfl)) (h.1.2.2.2.1 39 rfl rfl) hI.2.1, mIm_F (h.1.1 0 81 (Or.inr rfl)) (h.1.2.2.2.1 40 rfl rfl) (h.1.1 0 83 (Or.inr rfl)) (h.1.1 0 84 (Or.inr rfl)) (congrFun (congrFun h.2 0) 85) hI.2.2.1, mRs_W h.1.W hI.2.2.2⟩
def giK (g : tSG) (p h : Int32) : Bool := pcK g.1.1 p && (decide (¬ g.1.2.2.2.1.1 (cl p) = -(nI 3)) && (if h = -(nI 1) then decide (¬ g.1.2.2.2.1.1 (cl p) = -(nI 2)) else hrK g.1.1 h && (decide (¬ g.1.2.2.2.1.1 (cl p) = h) && mayK g.1.1 g.1.2.2.2.1 false (cl h) (cl p))))
def N_give (g : tSG) (p h : Int32) : tSG := if giK g p h = true then gS g (upd g.1.2.2.2.1.1 (cl p) (if h = -(nI 1) then -(nI 2) else h), g.1.2.2.2.1.2) g.1.2.2.2.2 (pushU g.2.1 g.1.2.2.2.1) g.2.2.1 else g
set_option maxRecDepth 100000 in
set_option maxHeartbeats 4000000 in
theorem c_give (G : ab_G) (fr : Bool) (S : ms_S) (tl : ab_H) (g : tSG) (hI : mI S g) (p h : Int32) :
    ab_CT G 5 M_X12_give fr [.ref 0, .int p, .int h] (hM S tl) 0 0 (pA tl (N_give g p h) (.int (bI (giK g p h)))) := by
  refine wp_ct o_X12_give (Nat.le_of_ble_eq_true rfl) ?_
  generalize (hM S tl).length = n0
  have hI0 : mI (sV S 2 (nI 0)) g := th_I hI (nI 0)
  generalize hS0 : sV S 2 (nI 0) = S0 at hI0
  have ht0 : m_thrown S0 = nI 0 := by rw [← hS0]; rfl
  obtain ⟨hC0, hU0, hM0, hR0⟩ := id hI0
  obtain ⟨c1, c2, c3, c4, c5, c6, c7, c8, c9, c10⟩ := id hC0
  obtain ⟨q1, q2, q3, q4, q5, q6⟩ := id c1
  iterate 3 refine ws_s rfl ?_
  refine wp_eqS hS0.symm ?_
  repeat refine ws_s rfl ?_
  refine wp_V (c_plainTried G fr S0 tl) rfl rfl o_X12_plainTried v_X12_plainTried rfl rfl rfl (Nat.le_of_ble_eq_true rfl) (by decide) ?_
  have hIp := pt_I hI0
  have hOp := ptS_O hC0
  have htp : m_thrown (ptS S0) = nI 0 := ht0
  generalize ptS S0 = Sp at hIp hOp htp
  obtain ⟨d1, d2, d3, d4, d5, d6, d7, d8, d9, d10⟩ := id hIp.1
  have K75 : ∀ X : ms_S, mI X g → m_thrown X = nI 0 → giK g p h = false → wp G 5 M_X12_give fr n0 (pA tl (N_give g p h) (.int (bI (giK g p h)))) 75 [some (.ref 0), some (.int p), some (.int h)] [] (hM X tl) := by
    intro X hX htX hn
    have e1 : N_give g p h = g := if_neg (by rw [hn]; decide)
    rw [e1, hn]
    repeat refine ws_s rfl ?_
    exact wp_ri rfl rfl rfl (pA.i hX htX rfl)
  repeat refine ws_s rfl ?_
  refine wp_V (c_isPieceK G fr Sp tl g.1.1 p hIp.1.1.2.2.1) rfl rfl o_X12_isPiece v_X12_isPiece rfl rfl rfl (Nat.le_of_ble_eq_true rfl) (by decide) ?_
  repeat refine ws_s rfl ?_
  refine wp_bn rfl (fun hb => K75 Sp hIp htp (by unfold giK; rw [hb]; rfl)) (fun hb => ?_)
  obtain ⟨jp, hjp, rfl⟩ := pcK_t q1 hb
  have ep : cl (nI jp) = jp := cl_nI (by omega)
  have eh := d5.1 jp (by omega)
  rw [show 9 * 0 + jp = jp by omega] at eh
  have hg : giK g (nI jp) h = (decide (¬ g.1.2.2.2.1.1 jp = -(nI 3)) && (if h = -(nI 1) then decide (¬ g.1.2.2.2.1.1 jp = -(nI 2)) else hrK g.1.1 h && (decide (¬ g.1.2.2.2.1.1 jp = h) && mayK g.1.1 g.1.2.2.2.1 false (cl h) jp))) := by
    unfold giK
    rw [hb, ep]
    rfl
  have K77 : ∀ X : ms_S, mI X g → m_thrown X = nI 0 → giK g (nI jp) h = true → ((¬ h = -(nI 1)) → ∃ jh, jh < g.1.1.2.1 ∧ h = nI jh) → wp G 5 M_X12_give fr n0 (pA tl (N_give g (nI jp) h) (.int (bI (giK g (nI jp) h)))) 77 [some (.ref 0), some (.int (nI jp)), some (.int h)] [] (hM X tl) := by
    intro X hX htX hy hjh
    have e1 : N_give g (nI jp) h = gS g (upd g.1.2.2.2.1.1 jp (if h = -(nI 1) then -(nI 2) else h), g.1.2.2.2.1.2) g.1.2.2.2.2 (pushU g.2.1 g.1.2.2.2.1) g.2.2.1 := by
      unfold N_give
      rw [if_pos hy, ep]
    rw [e1, hy]
    obtain ⟨i1, i2, i3, i4⟩ := id hX
    repeat refine ws_s rfl ?_
    refine wp_cV rfl rfl o_X12_remember v_X12_remember (c_remember G fr X tl g.1.1 g.1.2.2.2.1 g.2.1 i1.2.2.2.2.1 i2 c6) rfl rfl rfl (Nat.le_of_ble_eq_true rfl) (by decide) ?_
    rintro r h' ⟨Y, rfl, y1, y2, rfl⟩
    have sY : mES Y 0 g.1.2.2.2.1 := mES_A y1 rfl rfl rfl rfl rfl i1.2.2.2.2.1
    have K97 : ∀ v : Int32, v = (if h = -(nI 1) then -(nI 2) else h) → (v = -(nI 2) ∨ ∃ jh, jh < g.1.1.2.1 ∧ v = nI jh) → wp G 5 M_X12_give fr n0 (pA tl (gS g (upd g.1.2.2.2.1.1 jp (if h = -(nI 1) then -(nI 2) else h), g.1.2.2.2.1.2) g.1.2.2.2.2 (pushU g.2.1 g.1.2.2.2.1) g.2.2.1) (.int (bI true))) 97 [some (.ref 0), some (.int (nI jp)), some (.int h)] [.int v, .int (nI jp), .ref 26] (hM Y tl) := by
      intro v hv hv2
      rw [← hv]
      refine ws_sa (k := jp) rfl (by first | rfl | (simp only [pk_mul, nI_add]; done)) (by omega) (by decide) (rfl) ?_
      repeat refine ws_s rfl ?_
      refine wp_ri rfl rfl rfl (pA.i (mI_mk hX ((y1.W fUn_U a39_U).tr (mW.sA rfl)) ⟨fun q hq => ?_, sY.2.1, sY.2.2.1, sY.2.2.2.1, sY.2.2.2.2.1, sY.2.2.2.2.2⟩ (fun q hq => ?_) c7 ((congrFun (congrFun y1.2.1 0) 57).trans i1.2.2.2.2.2.2.2.1) c9 (mRW_F2 (S := X) (y1.1 0 68 (Or.inr rfl)) (y1.2.2.2.1 32 rfl) (y1.2.2.2.1 33 rfl) i1.2.2.2.2.2.2.2.2.2) (mU_F (S := Y) rfl rfl y2) (mIm_F (S := X) (y1.1 0 81 (Or.inr rfl)) (y1.2.2.2.1 40 rfl) (y1.1 0 83 (Or.inr rfl)) (y1.1 0 84 (Or.inr rfl)) (congrFun (congrFun y1.2.1 0) 85) i3)) ((y1.1 0 2 (Or.inr rfl)).trans htX) rfl)
      · have h1 := sY.1 q hq
        rw [show 9 * 0 + q = q by omega] at h1 ⊢
        show upd (Y.2.2.2.1 26) jp v q = upd g.1.2.2.2.1.1 jp v q
        unfold upd
        by_cases z : q = jp
        · rw [if_pos z, if_pos z]
        · rw [if_neg z, if_neg z]
          exact h1
      · show upd g.1.2.2.2.1.1 jp v q = _ ∨ upd g.1.2.2.2.1.1 jp v q = _ ∨ ∃ z, z < g.1.1.2.1 ∧ upd g.1.2.2.2.1.1 jp v q = _
        unfold upd
        by_cases z : q = jp
        · rw [if_pos z]
          rcases hv2 with w | w
          · exact Or.inl w
          · exact Or.inr (Or.inr w)
        · rw [if_neg z]
          exact c6 q hq
    repeat refine ws_s rfl ?_
    refine wp_ite (fun hh => ?_) (fun hh => ?_)
    · iterate 2 refine ws_s rfl ?_
      exact K97 _ (by rw [if_pos hh]; rfl) (Or.inl rfl)
    · iterate 1 refine ws_s rfl ?_
      exact K97 _ (by rw [if_neg hh]) (Or.inr (hjh hh))
  repeat refine ws_s rfl ?_
  refine ws_ld (k := jp) rfl (by first | rfl | (simp only [pk_mul, nI_add]; done)) (by omega) (by decide) (eh) ?_
  repeat refine ws_s rfl ?_
  refine wp_ite (fun h3 => ?_) (fun h3 => ?_)
  · exact K75 Sp hIp htp (by rw [hg, decide_eq_false (fun z => z h3)]; rfl)
  rw [decide_eq_true (show ¬ g.1.2.2.2.1.1 jp = -(nI 3) from h3), Bool.true_and] at hg
  repeat refine ws_s rfl ?_
  refine wp_ite (fun hh => ?_) (fun hh => ?_)
  · rw [if_pos hh] at hg
    repeat refine ws_s rfl ?_
    refine ws_ld (k := jp) rfl (by first | rfl | (simp only [pk_mul, nI_add]; done)) (by omega) (by decide) (eh) ?_
    repeat refine ws_s rfl ?_
    refine wp_ite (fun h2 => ?_) (fun h2 => ?_)
    · iterate 1 refine ws_s rfl ?_
      exact K75 Sp hIp htp (by rw [hg, decide_eq_false (fun z => z h2)])
    · exact K77 Sp hIp htp (by rw [hg]; exact decide_eq_true h2) (fun z => absurd hh z)
  · rw [if_neg hh] at hg
    repeat refine ws_s rfl ?_
    refine wp_V (c_isHeirK G fr Sp tl g.1.1 h hIp.1.1.2.2.2.1) rfl rfl o_X12_isHeir v_X12_isHeir rfl rfl rfl (Nat.le_of_ble_eq_true rfl) (by decide) ?_
    repeat refine ws_s rfl ?_
    refine wp_bn rfl (fun hb2 => K75 Sp hIp htp (by rw [hg, hb2]; rfl)) (fun hb2 => ?_)
    rw [hb2, Bool.true_and] at hg
    repeat refine ws_s rfl ?_
    refine ws_ld (k := jp) rfl (by first | rfl | (simp only [pk_mul, nI_add]; done)) (by omega) (by decide) (eh) ?_
    repeat refine ws_s rfl ?_
    refine wp_ite (fun h4 => ?_) (fun h4 => ?_)
    · exact K75 Sp hIp htp (by rw [hg, decide_eq_false (fun z => z h4)]; rfl)
    rw [decide_eq_true h4, Bool.true_and] at hg
    obtain ⟨jh, hjh, rfl⟩ := hrK_t q2 hb2
    rw [cl_nI (show jh < 2 ^ 31 by omega)] at hg
    have ct := c_may G fr Sp tl g.1.1 g.1.2.2.2.1 0 jh jp d1 d5 (by decide) (by omega) hjp
    rw [dec_bI hOp.2.2.2.1] at ct
    repeat refine ws_s rfl ?_
    refine wp_cV rfl rfl o_X12_may v_X12_may (ct) rfl rfl rfl (Nat.le_of_ble_eq_true rfl) (by decide) ?_
    rintro r h' ⟨Y, rfl, y1, rfl⟩
    have hY := mI_E hIp y1.LR (mRW_F y1 rfl rfl rfl d10)
    have htY : m_thrown Y = nI 0 := (y1.1 0 2 (Or.inr rfl)).trans htp
    repeat refine ws_s rfl ?_
    refine wp_bn rfl (fun hb3 => K75 Y hY htY (by rw [hg]; exact hb3)) (fun hb3 => K77 Y hY htY (by rw [hg]; exact hb3) (fun _ => ⟨jh, hjh, rfl⟩))
/-! trade -/
def tdK (g : tSG) (p q : Int32) : Bool := pcK g.1.1 p && (pcK g.1.1 q && (decide (¬ p = q) && trK g.1.1 g.1.2.2.2.1 false (cl p) (cl q)))
def N_trade (g : tSG) (p q : Int32) : tSG := if tdK g p q = true then gS g (trS g.1.2.2.2.1 (cl p) (cl q)) g.1.2.2.2.2 (pushU g.2.1 g.1.2.2.2.1) g.2.2.1 else g
theorem i32_nat (x : Int32) : ∃ n : Nat, x = nI n := ⟨x.toBitVec.toNat, by
  apply Int32.toBitVec_inj.mp
  show x.toBitVec = BitVec.ofNat 32 x.toBitVec.toNat
  rw [BitVec.ofNat_toNat, BitVec.setWidth_eq]⟩
theorem hoOk_tr {P : tPL} {s : tES} {p q : Nat} (hp : p < P.1) (hq : q < P.1) (h : hoOk P s) : hoOk P (trS s p q) := by
  intro z hz
  show upd (upd s.1 _ _) _ _ z = _ ∨ upd (upd s.1 _ _) _ _ z = _ ∨ ∃ w, w < P.2.1 ∧ upd (upd s.1 _ _) _ _ z = _
  unfold upd
  split
  · exact h _ hp
  · split
    · exact h _ hq
    · exact h z hz
set_option maxRecDepth 100000 in
set_option maxHeartbeats 4000000 in
theorem c_trade (G : ab_G) (fr : Bool) (S : ms_S) (tl : ab_H) (g : tSG) (hI : mI S g) (p q : Int32) :
    ab_CT G 6 M_X12_trade fr [.ref 0, .int p, .int q] (hM S tl) 0 0 (pA tl (N_trade g p q) (.int (bI (tdK g p q)))) := by
  refine wp_ct o_X12_trade (Nat.le_of_ble_eq_true rfl) ?_
  generalize (hM S tl).length = n0
  have hI0 : mI (sV S 2 (nI 0)) g := th_I hI (nI 0)
  generalize hS0 : sV S 2 (nI 0) = S0 at hI0
  have ht0 : m_thrown S0 = nI 0 := by rw [← hS0]; rfl
  obtain ⟨hC0, hU0, hM0, hR0⟩ := id hI0
  obtain ⟨c1, c2, c3, c4, c5, c6, c7, c8, c9, c10⟩ := id hC0
  obtain ⟨q1, q2, q3, q4, q5, q6⟩ := id c1
  iterate 3 refine ws_s rfl ?_
  refine wp_eqS hS0.symm ?_
  repeat refine ws_s rfl ?_
  refine wp_V (c_plainTried G fr S0 tl) rfl rfl o_X12_plainTried v_X12_plainTried rfl rfl rfl (Nat.le_of_ble_eq_true rfl) (by decide) ?_
  have hIp := pt_I hI0
  have hOp := ptS_O hC0
  have htp : m_thrown (ptS S0) = nI 0 := ht0
  generalize ptS S0 = Sp at hIp hOp htp
  obtain ⟨d1, d2, d3, d4, d5, d6, d7, d8, d9, d10⟩ := id hIp.1
  have K30 : tdK g p q = false → wp G 6 M_X12_trade fr n0 (pA tl (N_trade g p q) (.int (bI (tdK g p q)))) 30 [some (.ref 0), some (.int p), some (.int q), none] [] (hM Sp tl) := by
    intro hn
    have e1 : N_trade g p q = g := if_neg (by rw [hn]; decide)
    rw [e1, hn]
    repeat refine ws_s rfl ?_
    exact wp_ri rfl rfl rfl (pA.i hIp htp rfl)
  repeat refine ws_s rfl ?_
  refine wp_V (c_isPieceK G fr Sp tl g.1.1 p d1.2.2.1) rfl rfl o_X12_isPiece v_X12_isPiece rfl rfl rfl (Nat.le_of_ble_eq_true rfl) (by decide) ?_
  repeat refine ws_s rfl ?_
  refine wp_bn rfl (fun hb => K30 (by unfold tdK; rw [hb]; rfl)) (fun hb => ?_)
  repeat refine ws_s rfl ?_
  refine wp_V (c_isPieceK G fr Sp tl g.1.1 q d1.2.2.1) rfl rfl o_X12_isPiece v_X12_isPiece rfl rfl rfl (Nat.le_of_ble_eq_true rfl) (by decide) ?_
  repeat refine ws_s rfl ?_
  refine wp_bn rfl (fun hb2 => K30 (by unfold tdK; rw [hb2, Bool.false_and, Bool.and_false])) (fun hb2 => ?_)
  repeat refine ws_s rfl ?_
  refine wp_ite (fun h3 => ?_) (fun h3 => ?_)
  · exact K30 (by unfold tdK; rw [decide_eq_false (fun z => z h3), Bool.false_and, Bool.and_false, Bool.and_false])
  obtain ⟨jp, hjp, rfl⟩ := pcK_t q1 hb
  obtain ⟨jq, hjq, rfl⟩ := pcK_t q1 hb2
  have ep : cl (nI jp) = jp := cl_nI (by omega)
  have eq9 : cl (nI jq) = jq := cl_nI (by omega)
  have hg : tdK g (nI jp) (nI jq) = trK g.1.1 g.1.2.2.2.1 false jp jq := by
    unfold tdK
    rw [hb, hb2, ep, eq9, decide_eq_true h3]
    rfl
  iterate 2 refine ws_s rfl ?_
  refine wp_downX (X := ms_S) 9 (fun i X => mZ Sp X ∧ X.1 = Sp.1 ∧ mRW X g.1.1 ∧ ∀ z, z < i → a_holder X (9 + z) = g.1.2.2.2.1.1 z) (fun i X => [some (.ref 0), some (.int (nI jp)), some (.int (nI jq)), some (.int (nI i))]) (fun X => hM X tl) ?_ ?_ Sp ⟨mZ.rf, rfl, d10, fun p hp => by omega⟩
  · rintro X ⟨x1, x0, x2, x3⟩
    iterate 5 refine ws_s rfl ?_
    refine wp_downX (X := ms_S) 5 (fun i X => mZ Sp X ∧ X.1 = Sp.1 ∧ mRW X g.1.1 ∧ (∀ z, z < 9 → a_holder X (9 + z) = g.1.2.2.2.1.1 z) ∧ ∀ z, z < i → a_gold X (5 + z) = nI (g.1.2.2.2.1.2.1 z)) (fun i X => [some (.ref 0), some (.int (nI jp)), some (.int (nI jq)), some (.int (nI i))]) (fun X => hM X tl) ?_ ?_ X ⟨x1, x0, x2, x3, fun p hp => by omega⟩
    · rintro X ⟨x1, x0, x2, x3, x4⟩
      have hIX := mI_Z0 hIp x1 x2
      obtain ⟨l1, hl1⟩ : ∃ l : Nat → Nat, ∀ z, a_laid X (5 + z) = nI (l z) := ⟨fun z => (i32_nat (a_laid X (5 + z))).choose, fun z => (i32_nat (a_laid X (5 + z))).choose_spec⟩
      obtain ⟨r1, hr1⟩ := i32_nat (a_refused X 1)
      repeat refine ws_s rfl ?_
      refine ws_ld (k := 0) rfl (by first | rfl | (simp only [pk_mul, nI_add]; done)) (by omega) (by decide) (hIX.1.2.2.2.2.1.2.2.2.2.1) ?_
      refine ws_sa (k := 1) rfl (by first | rfl | (simp only [pk_mul, nI_add]; done)) (by omega) (by decide) (rfl) ?_
      repeat refine ws_s rfl ?_
      have z1 : mZ X (sA X 30 1 (nI g.1.2.2.2.1.2.2.2.2)) := ⟨mB.da, rfl⟩
      have hIY := mI_Z0 hIX z1 (mRW_F2 (S := X) rfl rfl rfl x2)
      have hE1 : mES (sA X 30 1 (nI g.1.2.2.2.1.2.2.2.2)) 1 (g.1.2.2.2.1.1, g.1.2.2.2.1.2.1, l1, r1, g.1.2.2.2.1.2.2.2.2) := ⟨fun z hz => x3 z hz, fun z hz => ⟨x4 z hz, (c5.2.1 z hz).2⟩, fun z _ => hl1 z, hr1, rfl, c5.2.2.2.2.2⟩
      have htY : m_thrown (sA X 30 1 (nI g.1.2.2.2.1.2.2.2.2)) = nI 0 := (x1.1.1 0 2 (Or.inr rfl)).trans htp
      have hamY : m_allMay (sA X 30 1 (nI g.1.2.2.2.1.2.2.2.2)) = bI false := (congrFun (congrFun x0 0) 61).trans hOp.2.2.2.1
      have ct := c_tradesOne G fr (sA X 30 1 (nI g.1.2.2.2.1.2.2.2.2)) tl g.1.1 (g.1.2.2.2.1.1, g.1.2.2.2.1.2.1, l1, r1, g.1.2.2.2.1.2.2.2.2) 1 jp jq hIY.1.1 hE1 (by decide) hjp hjq c6
      rw [dec_bI hamY] at ct
      refine wp_cV rfl rfl o_X12_tradesOne v_X12_tradesOne (ct) rfl rfl rfl (Nat.le_of_ble_eq_true rfl) (by decide) ?_
      rintro r h' ⟨Y, rfl, y1, y2, y3, rfl⟩
      have zY : mZ (sA X 30 1 (nI g.1.2.2.2.1.2.2.2.2)) Y := ⟨y1.LZ, y3⟩
      have hI2 := mI_Z0 hIY zY (mRW_mB y1 hIY.1.2.2.2.2.2.2.2.2.2)
      have ht2 : m_thrown Y = nI 0 := (y1.1 0 2 (Or.inr rfl)).trans htY
      have ham2 : m_allMay Y = bI false := (y1.1 0 61 (Or.inr rfl)).trans hamY
      generalize sA X 30 1 (nI g.1.2.2.2.1.2.2.2.2) = X' at *
      change tdK g (nI jp) (nI jq) = trK g.1.1 (g.1.2.2.2.1.1, g.1.2.2.2.1.2.1, l1, r1, g.1.2.2.2.1.2.2.2.2) false jp jq at hg
      repeat refine ws_s rfl ?_
      refine wp_bn rfl (fun hf => ?_) (fun hf => ?_)
      · have e1 : N_trade g (nI jp) (nI jq) = g := if_neg (by rw [hg, hf]; decide)
        rw [e1, hg, hf]
        repeat refine ws_s rfl ?_
        exact wp_ri rfl rfl rfl (pA.i hI2 ht2 rfl)
      · have e1 : N_trade g (nI jp) (nI jq) = gS g (trS g.1.2.2.2.1 jp jq) g.1.2.2.2.2 (pushU g.2.1 g.1.2.2.2.1) g.2.2.1 := by
          unfold N_trade
          rw [if_pos (by rw [hg, hf]), ep, eq9]
        rw [e1, hg, hf]
        obtain ⟨i1, i2, i3, i4⟩ := id hI2
        repeat refine ws_s rfl ?_
        refine wp_cV rfl rfl o_X12_remember v_X12_remember (c_remember G fr Y tl g.1.1 g.1.2.2.2.1 g.2.1 i1.2.2.2.2.1 i2 c6) rfl rfl rfl (Nat.le_of_ble_eq_true rfl) (by decide) ?_
        rintro r h' ⟨Z, rfl, v1, v2, rfl⟩
        have sZ : mES Z 0 g.1.2.2.2.1 := mES_A v1 rfl rfl rfl rfl rfl i1.2.2.2.2.1
        have PZ : mPL Z g.1.1 := mPL_W (v1.W fUn_U a39_U) i1.1
        have amZ : m_allMay Z = bI false := (v1.1 0 61 (Or.inr rfl)).trans ham2
        have ct2 := c_tradesOne G fr Z tl g.1.1 g.1.2.2.2.1 0 jp jq PZ sZ (by decide) hjp hjq c6
        have hf2 : trK g.1.1 g.1.2.2.2.1 false jp jq = true := hf
        rw [dec_bI amZ, hf2, if_pos rfl] at ct2
        repeat refine ws_s rfl ?_
        refine wp_cV rfl rfl o_X12_tradesOne v_X12_tradesOne (ct2) rfl rfl rfl (Nat.le_of_ble_eq_true rfl) (by decide) ?_
        rintro r h' ⟨V, rfl, w1, w2, w3, rfl⟩
        refine wp_ri rfl rfl rfl (pA.i (mI_mk hI2 ((v1.W fUn_U a39_U).tr w1.LZ.W) w2 (hoOk_tr hjp hjq c6) c7 ((congrFun (congrFun w3 0) 57).trans ((congrFun (congrFun v1.2.1 0) 57).trans i1.2.2.2.2.2.2.2.1)) c9 (mRW_mB w1 (mRW_F v1 rfl rfl rfl i1.2.2.2.2.2.2.2.2.2)) (mU_F (S := Z) (w1.1 0 79 (Or.inr rfl)) (w1.2.2.2.1 39 rfl rfl) v2) (mIm_F (S := Y) ((w1.1 0 81 (Or.inr rfl)).trans (v1.1 0 81 (Or.inr rfl))) ((w1.2.2.2.1 40 rfl rfl).trans (v1.2.2.2.1 40 rfl)) ((w1.1 0 83 (Or.inr rfl)).trans (v1.1 0 83 (Or.inr rfl))) ((w1.1 0 84 (Or.inr rfl)).trans (v1.1 0 84 (Or.inr rfl))) ((congrFun (congrFun w3 0) 85).trans (congrFun (congrFun v1.2.1 0) 85)) i3)) ((w1.1 0 2 (Or.inr rfl)).trans ((v1.1 0 2 (Or.inr rfl)).trans ht2)) rfl)
    · rintro i X hi ⟨x1, x0, x2, x3, x4⟩ kn
      have e1 := ((mC_mZ hIp.1 x1 x2).2.2.2.2.1.2.1 i hi).1
      rw [show 5 * 0 + i = i by omega] at e1
      repeat refine ws_s rfl ?_
      refine wp_le (x := 5) (rfl) (rfl) (by first | omega | decide) (by first | omega | decide) (fun z => absurd z (by omega)) (fun z => ?_)
      repeat refine ws_s rfl ?_
      refine ws_ld (k := i) rfl (by first | rfl | (simp only [pk_mul, nI_add]; done)) (by omega) (by decide) (e1) ?_
      refine ws_sa (k := 5 + i) rfl (by first | rfl | (simp only [pk_mul, nI_add]; done)) (by omega) (by decide) (rfl) ?_
      repeat refine ws_s rfl ?_
      refine ws_b rfl ?_
      refine wp_eqL (by rw [← nI_add i 1]; rfl) (kn _ ⟨x1.tr ⟨mB.go (by omega), rfl⟩, x0, mRW_F2 (S := X) rfl rfl rfl x2, x3, fun p hp => ?_⟩)
      show upd (X.2.2.2.1 27) (5 + i) _ (5 + p) = _
      unfold upd
      by_cases z1 : p = i
      · rw [if_pos (by omega), z1]
      · rw [if_neg (by omega)]
        exact x4 p (by omega)
  · rintro i X hi ⟨x1, x0, x2, x3⟩ kn
    have e1 := (mC_mZ hIp.1 x1 x2).2.2.2.2.1.1 i hi
    rw [show 9 * 0 + i = i by omega] at e1
    repeat refine ws_s rfl ?_
    refine wp_le (x := 9) (rfl) (rfl) (by first | omega | decide) (by first | omega | decide) (fun z => absurd z (by omega)) (fun z => ?_)
    repeat refine ws_s rfl ?_
    refine ws_ld (k := i) rfl (by first | rfl | (simp only [pk_mul, nI_add]; done)) (by omega) (by decide) (e1) ?_
    refine ws_sa (k := 9 + i) rfl (by first | rfl | (simp only [pk_mul, nI_add]; done)) (by omega) (by decide) (rfl) ?_
    repeat refine ws_s rfl ?_
    refine ws_b rfl ?_
    refine wp_eqL (by rw [← nI_add i 1]; rfl) (kn _ ⟨x1.tr ⟨mB.ho rfl (by omega), rfl⟩, x0, mRW_F2 (S := X) rfl rfl rfl x2, fun p hp => ?_⟩)
    show upd (X.2.2.2.1 26) (9 + i) _ (9 + p) = _
    unfold upd
    by_cases z1 : p = i
    · rw [if_pos (by omega), z1]
    · rw [if_neg (by omega)]
      exact x3 p (by omega)
/-! lay -/
def lyK (g : tSG) (h : Int32) : Option Nat := if hrK g.1.1 h = true then (if manyK g.1.1 g.1.2.2.2.1 (cl h) < g.1.2.2.1 then none else (dOut g.1.1 g.1.2.2.2.1 (jbK g.1.1 g.1.2.2.2.1.2.2.2.2 false) (cl h) 7).map (fun q => q.1)) else none
def N_lay (g : tSG) (h : Int32) : tSG := match lyK g h with | none => g | some d => gS g (spS g.1.1 g.1.2.2.2.1 (cl h) d) g.1.2.2.2.2 (pushU g.2.1 g.1.2.2.2.1) g.2.2.1
def A_lay (g : tSG) (h : Int32) : Int32 := if hrK g.1.1 h = true then (match lyK g h with | none => -(nI 2) | some d => nI d) else -(nI 1)
theorem hoOk_sp {P : tPL} {s : tES} {h d : Nat} (hh : hoOk P s) : hoOk P (spS P s h d) := by
  intro p hp
  show (if p < P.1 ∧ s.1 p = nI h then -(nI 3) else s.1 p) = _ ∨ (if p < P.1 ∧ s.1 p = nI h then -(nI 3) else s.1 p) = _ ∨ ∃ q, q < P.2.1 ∧ (if p < P.1 ∧ s.1 p = nI h then -(nI 3) else s.1 p) = _
  split
  · exact Or.inr (Or.inl rfl)
  · exact hh p hp
set_option maxRecDepth 100000 in
set_option maxHeartbeats 4000000 in
theorem c_lay (G : ab_G) (fr : Bool) (S : ms_S) (tl : ab_H) (g : tSG) (hI : mI S g) (h : Int32) :
    ab_CT G 6 M_X12_lay fr [.ref 0, .int h] (hM S tl) 0 0 (pA tl (N_lay g h) (.int (A_lay g h))) := by
  refine wp_ct o_X12_lay (Nat.le_of_ble_eq_true rfl) ?_
  generalize (hM S tl).length = n0
  have hI0 : mI (sV S 2 (nI 0)) g := th_I hI (nI 0)
  generalize hS0 : sV S 2 (nI 0) = S0 at hI0
  have ht0 : m_thrown S0 = nI 0 := by rw [← hS0]; rfl
  obtain ⟨hC0, hU0, hM0, hR0⟩ := id hI0
  obtain ⟨c1, c2, c3, c4, c5, c6, c7, c8, c9, c10⟩ := id hC0
  obtain ⟨q1, q2, q3, q4, q5, q6⟩ := id c1
  iterate 3 refine ws_s rfl ?_
  refine wp_eqS hS0.symm ?_
  repeat refine ws_s rfl ?_
  refine wp_V (c_isHeirK G fr S0 tl g.1.1 h q4) rfl rfl o_X12_isHeir v_X12_isHeir rfl rfl rfl (Nat.le_of_ble_eq_true rfl) (by decide) ?_
  repeat refine ws_s rfl ?_
  refine wp_bn rfl (fun hb => ?_) (fun hb => ?_)
  · have e0 : lyK g h = none := if_neg (by rw [hb]; decide)
    have e1 : N_lay g h = g := by
      unfold N_lay
      rw [e0]
    have e2 : A_lay g h = -(nI 1) := if_neg (by rw [hb]; decide)
    rw [e1, e2]
    repeat refine ws_s rfl ?_
    exact wp_ri rfl rfl rfl (pA.i hI0 ht0 rfl)
  obtain ⟨jh, hjh, rfl⟩ := hrK_t q2 hb
  have ej : cl (nI jh) = jh := cl_nI (by omega)
  have eK : lyK g (nI jh) = (if manyK g.1.1 g.1.2.2.2.1 jh < g.1.2.2.1 then none else (dOut g.1.1 g.1.2.2.2.1 (jbK g.1.1 g.1.2.2.2.1.2.2.2.2 false) jh 7).map (fun q => q.1)) := by
    unfold lyK
    rw [if_pos hb, ej]
  repeat refine ws_s rfl ?_
  refine wp_V (c_plainTried G fr S0 tl) rfl rfl o_X12_plainTried v_X12_plainTried rfl rfl rfl (Nat.le_of_ble_eq_true rfl) (by decide) ?_
  have hIp := pt_I hI0
  have hOp := ptS_O hC0
  have htp : m_thrown (ptS S0) = nI 0 := ht0
  generalize ptS S0 = Sp at hIp hOp htp
  obtain ⟨d1, d2, d3, d4, d5, d6, d7, d8, d9, d10⟩ := id hIp.1
  repeat refine ws_s rfl ?_
  refine wp_cV rfl rfl o_X12_layRows v_X12_layRows (c_layRows G fr Sp tl g.1.1 g.1.2.2.2.1 0 d1 d5 (by decide) d10) rfl rfl rfl (Nat.le_of_ble_eq_true rfl) (by decide) ?_
  rintro r h' ⟨S1, rfl, hm1, hj1, hr1, hw1, rfl⟩
  rw [dec_bI hOp.2.2.1] at hr1
  have hI1 := mI_E hIp hm1 hw1
  have ht1 : m_thrown S1 = nI 0 := (hm1.1 0 2 (Or.inr rfl)).trans htp
  have hO1 : m_needBy S1 = nI g.1.2.2.1 := (hm1.1 0 63 (Or.inr rfl)).trans hOp.2.2.2.2.2.1
  have K49 : ∀ X : ms_S, mI X g → m_thrown X = nI 0 → lyK g (nI jh) = none → wp G 6 M_X12_lay fr n0 (pA tl (N_lay g (nI jh)) (.int (A_lay g (nI jh)))) 49 [some (.ref 0), some (.int (nI jh))] [] (hM X tl) := by
    intro X hX htX e0
    have e1 : N_lay g (nI jh) = g := by
      unfold N_lay
      rw [e0]
    have e2 : A_lay g (nI jh) = -(nI 2) := by
      unfold A_lay
      rw [e0, if_pos hb]
    rw [e1, e2]
    repeat refine ws_s rfl ?_
    exact wp_ri rfl rfl rfl (pA.i hX htX rfl)
  have hpl := pop_le (heldN g.1.2.2.2.1.1 (nI jh) g.1.1.1) 9
  repeat refine ws_s rfl ?_
  refine wp_V (c_heldE G fr S1 tl g.1.1 g.1.2.2.2.1 0 (nI jh) (by decide) hI1.1.1 hI1.1.2.2.2.2.1) rfl rfl o_X12_heldBy v_X12_heldBy rfl rfl rfl (Nat.le_of_ble_eq_true rfl) (by decide) ?_
  refine wp_S (c_manyOf G fr _ (hM S1 tl) (Nat.lt_trans (held9 q1) (by decide))) rfl rfl o_X12_manyOf s_X12_manyOf rfl rfl (Nat.le_of_ble_eq_true rfl) (by decide) ?_
  repeat refine ws_s rfl ?_
  refine wp_lt (rfl) (hO1) (by first | omega | decide) (by first | omega | decide) (fun hlt => ?_) (fun hlt => ?_)
  · exact K49 S1 hI1 ht1 (by rw [eK, if_pos hlt])
  rw [if_neg (Nat.not_lt.mpr hlt)] at eK
  repeat refine ws_s rfl ?_
  refine wp_cV rfl rfl o_X12_isDear v_X12_isDear (c_isDear G fr S1 tl g.1.1 g.1.2.2.2.1 (jbK g.1.1 g.1.2.2.2.1.2.2.2.2 false) 0 jh hI1.1.1 hI1.1.2.2.2.2.1 (by decide) (by omega) hr1) rfl rfl rfl (Nat.le_of_ble_eq_true rfl) (by decide) ?_
  rintro r h' ⟨S2, rfl, hm2, hd2, rfl⟩
  have hI2 := mI_E hI1 hm2.DR (mRW_F hm2 rfl rfl rfl hw1)
  have ht2 : m_thrown S2 = nI 0 := (hm2.1 0 2 (Or.inr rfl)).trans ht1
  cases hdo : dOut g.1.1 g.1.2.2.2.1 (jbK g.1.1 g.1.2.2.2.1.2.2.2.2 false) jh 7 with
  | none =>
    rw [hdo] at eK
    iterate 1 refine ws_s rfl ?_
    exact K49 S2 hI2 ht2 eK
  | some qd =>
    rw [hdo] at eK hd2
    have e1 : N_lay g (nI jh) = gS g (spS g.1.1 g.1.2.2.2.1 jh qd.1) g.1.2.2.2.2 (pushU g.2.1 g.1.2.2.2.1) g.2.2.1 := by
      unfold N_lay
      rw [eK, ej]
      rfl
    have e2 : A_lay g (nI jh) = nI qd.1 := by
      unfold A_lay
      rw [eK, if_pos hb]
      rfl
    rw [e1, e2]
    obtain ⟨i1, i2, i3, i4⟩ := id hI2
    repeat refine ws_s rfl ?_
    refine wp_cV rfl rfl o_X12_remember v_X12_remember (c_remember G fr S2 tl g.1.1 g.1.2.2.2.1 g.2.1 i1.2.2.2.2.1 i2 c6) rfl rfl rfl (Nat.le_of_ble_eq_true rfl) (by decide) ?_
    rintro r h' ⟨Z, rfl, v1, v2, rfl⟩
    have sZ : mES Z 0 g.1.2.2.2.1 := mES_A v1 rfl rfl rfl rfl rfl i1.2.2.2.2.1
    have PZ : mPL Z g.1.1 := mPL_W (v1.W fUn_U a39_U) i1.1
    repeat refine ws_s rfl ?_
    refine wp_cV rfl rfl o_X12_spends v_X12_spends (c_spends G fr Z tl g.1.1 g.1.2.2.2.1 0 jh qd.1 PZ sZ (by decide) (by omega) ((v1.1 0 69 (Or.inr rfl)).trans hd2.1) hd2.2.2.2) rfl rfl rfl (Nat.le_of_ble_eq_true rfl) (by decide) ?_
    rintro r h' ⟨V, rfl, w1, w2, w3, rfl⟩
    repeat refine ws_s rfl ?_
    refine wp_ri rfl rfl rfl (pA.i (mI_mk hI2 ((v1.W fUn_U a39_U).tr w1.LZ.W) w2 (hoOk_sp c6) c7 ((congrFun (congrFun w3 0) 57).trans ((congrFun (congrFun v1.2.1 0) 57).trans i1.2.2.2.2.2.2.2.1)) c9 (mRW_mB w1 (mRW_F v1 rfl rfl rfl i1.2.2.2.2.2.2.2.2.2)) (mU_F (S := Z) (w1.1 0 79 (Or.inr rfl)) (w1.2.2.2.1 39 rfl rfl) v2) (mIm_F (S := S2) ((w1.1 0 81 (Or.inr rfl)).trans (v1.1 0 81 (Or.inr rfl))) ((w1.2.2.2.1 40 rfl rfl).trans (v1.2.2.2.1 40 rfl)) ((w1.1 0 83 (Or.inr rfl)).trans (v1.1 0 83 (Or.inr rfl))) ((w1.1 0 84 (Or.inr rfl)).trans (v1.1 0 84 (Or.inr rfl))) ((congrFun (congrFun w3 0) 85).trans (congrFun (congrFun v1.2.1 0) 85)) i3)) ((w1.1 0 2 (Or.inr rfl)).trans ((v1.1 0 2 (Or.inr rfl)).trans ht2)) ((w1.1 0 69 (Or.inr rfl)).trans ((v1.1 0 69 (Or.inr rfl)).trans hd2.1)))
/-! go -/
def goK (g : tSG) (n : Int32) : Bool := inK n 0 99 && decide (g.1.2.2.2.1.2.2.2.2 + cl n ≤ 9000)
abbrev goX (g : tSG) (n : Nat) : tES × Nat := gmS g.1.1 g.1.2.1 (chO g.1) (g.1.2.2.2.1, g.1.2.2.2.2) n
def N_go (g : tSG) (n : Int32) : tSG := if goK g n = true then gS g (goX g (cl n)).1 (goX g (cl n)).2 (if cl n = 0 then g.2.1 else (0, g.2.1.2)) g.2.2.1 else g
def A_go (g : tSG) (n : Int32) : Int32 := if goK g n = true then nI (g.1.2.2.2.1.2.2.2.2 + cl n) else -(nI 1)
set_option maxRecDepth 100000 in
set_option maxHeartbeats 4000000 in
theorem c_go (G : ab_G) (fr : Bool) (S : ms_S) (tl : ab_H) (g : tSG) (hI : mI S g) (n : Int32) :
    ab_CT G 8 M_X12_go fr [.ref 0, .int n] (hM S tl) 0 0 (pA tl (N_go g n) (.int (A_go g n))) := by
  refine wp_ct o_X12_go (Nat.le_of_ble_eq_true rfl) ?_
  generalize (hM S tl).length = n0
  have hI0 : mI (sV S 2 (nI 0)) g := th_I hI (nI 0)
  generalize hS0 : sV S 2 (nI 0) = S0 at hI0
  have ht0 : m_thrown S0 = nI 0 := by rw [← hS0]; rfl
  obtain ⟨hC0, hU0, hM0, hR0⟩ := id hI0
  obtain ⟨c1, c2, c3, c4, c5, c6, c7, c8, c9, c10⟩ := id hC0
  obtain ⟨q1, q2, q3, q4, q5, q6⟩ := id c1
  iterate 3 refine ws_s rfl ?_
  refine wp_eqS hS0.symm ?_
  have K29 : goK g n = false → wp G 8 M_X12_go fr n0 (pA tl (N_go g n) (.int (A_go g n))) 29 [some (.ref 0), some (.int n), none] [] (hM S0 tl) := by
    intro hn
    have e1 : N_go g n = g := if_neg (by rw [hn]; decide)
    have e2 : A_go g n = -(nI 1) := if_neg (by rw [hn]; decide)
    rw [e1, e2]
    repeat refine ws_s rfl ?_
    exact wp_ri rfl rfl rfl (pA.i hI0 ht0 rfl)
  repeat refine ws_s rfl ?_
  refine wp_S (c_isInK G fr (hM S0 tl) n 0 99) rfl rfl o_X12_isIn s_X12_isIn rfl rfl (Nat.le_of_ble_eq_true rfl) (by decide) ?_
  repeat refine ws_s rfl ?_
  refine wp_bn rfl (fun hb => K29 (by unfold goK; rw [hb]; rfl)) (fun hb => ?_)
  obtain ⟨jn, _, hjn, rfl⟩ := inK_t (by decide) (by decide) hb
  have ej : cl (nI jn) = jn := cl_nI (by omega)
  have eK : goK g (nI jn) = decide (g.1.2.2.2.1.2.2.2.2 + jn ≤ 9000) := by
    unfold goK
    rw [hb, ej]
    rfl
  repeat refine ws_s rfl ?_
  refine ws_ld (k := 0) rfl (by first | rfl | (simp only [pk_mul, nI_add]; done)) (by omega) (by decide) (c5.2.2.2.2.1) ?_
  repeat refine ws_s rfl ?_
  refine wp_le (x := g.1.2.2.2.1.2.2.2.2 + jn) (y := 9000) (nI_add _ _) rfl (by omega) (by decide) (fun hd => ?_) (fun hd => K29 (by rw [eK]; exact decide_eq_false (by omega)))
  have hy : goK g (nI jn) = true := by rw [eK]; exact decide_eq_true hd
  have e1 : N_go g (nI jn) = gS g (goX g jn).1 (goX g jn).2 (if jn = 0 then g.2.1 else (0, g.2.1.2)) g.2.2.1 := by
    unfold N_go
    rw [if_pos hy, ej]
  have e2 : A_go g (nI jn) = nI (g.1.2.2.2.1.2.2.2.2 + jn) := by
    unfold A_go
    rw [if_pos hy, ej]
  rw [e1, e2]
  repeat refine ws_s rfl ?_
  refine wp_V (c_plainTried G fr S0 tl) rfl rfl o_X12_plainTried v_X12_plainTried rfl rfl rfl (Nat.le_of_ble_eq_true rfl) (by decide) ?_
  have hIp := pt_I hI0
  obtain ⟨o1, o2, o3, o4, o5, o6, o7⟩ := ptS_O hC0
  have htp : m_thrown (ptS S0) = nI 0 := ht0
  generalize ptS S0 = Sp at hIp o1 o2 o3 o4 o5 o6 htp
  repeat refine ws_s rfl ?_
  refine ws_g rfl (Or.inr rfl) ?_
  have z1 : mZ Sp (sV Sp 58 (nI 1)) := mZ.sV rfl
  have hIq := mI_Z0 hIp z1 (mRW_F2 (S := Sp) rfl rfl rfl hIp.1.2.2.2.2.2.2.2.2.2)
  have hOq : mOP (sV Sp 58 (nI 1)) (chO g.1) := ⟨rfl, o2, o3, o4, o5, o6, o7⟩
  have htq : m_thrown (sV Sp 58 (nI 1)) = nI 0 := htp
  iterate 2 refine ws_s rfl ?_
  generalize hSq : sV Sp 58 (nI 1) = Sq at hIq hOq htq
  obtain ⟨d1, d2, d3, d4, d5, d6, d7, d8, d9, d10⟩ := id hIq.1
  have ht1 : ∀ t, t < g.1.2.1.1 → g.1.2.1.2.1 t < g.1.1.1 ∧ g.1.2.1.2.2.1 t < g.1.1.1 := fun t ht => ⟨(c2.2.2.2.2.1 t ht).2.1, (c2.2.2.2.2.1 t ht).2.2.2.1⟩
  have ht2 : ∀ t, t < g.1.2.1.2.2.2.2.1 → g.1.2.1.2.2.2.2.2.1 t < g.1.1.2.1 := fun t ht => (c2.2.2.2.2.2 t ht).2.1
  have hgd := gm_day g.1.1 g.1.2.1 (chO g.1) (g.1.2.2.2.1, g.1.2.2.2.2)
  refine wp_downX (X := ms_S) jn (fun i X => mB fB aR 0 Sq X ∧ mES X 0 (goX g i).1 ∧ m_drawn X = lN (goX g i).2 ∧ mRW X g.1.1) (fun i X => [some (.ref 0), some (.int (nI jn)), some (.int (nI i))]) (fun X => hM X tl) ?_ ?_ (sV Sp 58 (nI 1)) (by rw [hSq]; exact ⟨mB.rf, d5, d8, d10⟩)
  · rintro X ⟨x1, x2, x3, x4⟩
    repeat refine ws_s rfl ?_
    refine wp_le (rfl) (rfl) (by first | omega | decide) (by first | omega | decide) (fun z => ?_) (fun z => absurd z (by omega))
    repeat refine ws_s rfl ?_
    refine ws_g rfl (Or.inl rfl) ?_
    repeat refine ws_s rfl ?_
    have hday := hgd jn
    dsimp only at hday
    have wX : mW Sq X := x1.BZ.W
    have uX := mU_F (x1.1 0 79 (Or.inr rfl)) (x1.2.2.2.1 39 rfl rfl) hIq.2.1
    have iX := mIm_F (x1.1 0 81 (Or.inr rfl)) (x1.2.2.2.1 40 rfl rfl) (x1.1 0 83 (Or.inr rfl)) (x1.1 0 84 (Or.inr rfl)) (x1.2.1 0 85 (Or.inr (by decide))) hIq.2.2.1
    have tX : m_thrown X = nI 0 := (x1.1 0 2 (Or.inr rfl)).trans htq
    have K76 : ∀ (v : Int32) (U' : tU), mU (sV (sV X 58 (nI 0)) 79 v) g.1.1 U' → wp G 8 M_X12_go fr n0 (pA tl (gS g (goX g jn).1 (goX g jn).2 U' g.2.2.1) (.int (nI (g.1.2.2.2.1.2.2.2.2 + jn)))) 76 [some (.ref 0), some (.int (nI jn)), some (.int (nI jn))] [.int v, .ref 0] (hM (sV X 58 (nI 0)) tl) := by
      intro v U' hU'
      repeat refine ws_s rfl ?_
      refine ws_ld (k := 0) rfl (by first | rfl | (simp only [pk_mul, nI_add]; done)) (by omega) (by decide) (x2.2.2.2.2.1) ?_
      refine wp_ri rfl rfl rfl (pA.i (mI_mk hIq ((wX.tr (mW.sV rfl)).tr (mW.sV rfl)) x2 (gm_ho ht1 ht2 c6 jn) (by show (goX g jn).1.2.2.2.2 ≤ 9000; rw [hday]; exact hd) x3 (gm_lt _ _ _ _ c9 jn) (mRW_F2 (S := X) rfl rfl rfl x4) hU' (mIm_F (S := X) rfl rfl rfl rfl rfl iX)) tX (by rw [hday]))
    refine wp_le (x := jn) (y := 0) rfl rfl (by omega) (by decide) (fun z => ?_) (fun z => ?_)
    · rw [if_pos (by omega)]
      iterate 2 refine ws_s rfl ?_
      exact K76 _ _ ⟨uX.1, uX.2.1, uX.2.2⟩
    · rw [if_neg (by omega)]
      iterate 2 refine ws_s rfl ?_
      exact K76 _ _ ⟨by show 0 ≤ 20; decide, rfl, fun k hk => absurd hk (Nat.not_lt_zero k)⟩
  · rintro i X hi ⟨x1, x2, x3, x4⟩ kn
    repeat refine ws_s rfl ?_
    refine wp_le (rfl) (rfl) (by first | omega | decide) (by first | omega | decide) (fun z => absurd z (by omega)) (fun z => ?_)
    repeat refine ws_s rfl ?_
    have hday : (goX g i).1.2.2.2.2 = g.1.2.2.2.1.2.2.2.2 + i := hgd i
    refine wp_cV rfl rfl o_X12_dayGoes v_X12_dayGoes (c_dayGoes G fr X tl g.1.1 g.1.2.1 (chO g.1) (goX g i).1 0 (goX g i).2 (mPL_mB x1 d1) (mTD_mB x1 d2) (mOP_mB x1 hOq) x2 (gm_ho ht1 ht2 c6 i) x4 (by decide) (gm_lt _ _ _ _ c9 i) x3 (by omega)) rfl rfl rfl (Nat.le_of_ble_eq_true rfl) (by decide) ?_
    rintro r h' ⟨Y, rfl, y1, y2, y3, y4, y5, rfl⟩
    repeat refine ws_s rfl ?_
    refine ws_b rfl ?_
    exact wp_eqL (by rw [← nI_add i 1]; rfl) (kn Y ⟨x1.tr y1, y2, y3, y5⟩)
