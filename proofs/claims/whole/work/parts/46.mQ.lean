/-! ===== the reference: a law asked, the dearest, what comes ===== -/
abbrev NTH : Int64 := -9223372036854775808
def lwA (C : tC) (w a c : Nat) : Option Int64 := if w = 0 then C.1.2.2.2.2.2.2 0 (env a c 0 (absd a c) 0 0 C.2.2.2.1.2.2.2.2) else if w = 1 then C.1.2.2.2.2.2.2 1 (envM C.1 C.2.2.2.1 c a) else C.1.2.2.2.2.2.2 2 (env (C.1.2.2.1 a) (C.1.2.2.2.1 a) (C.1.2.2.2.2.1 a) (if absd (C.1.2.2.1 a) (C.1.2.2.2.1 a) = 0 then 1 else 0) (manyK C.1 C.2.2.2.1 c) (C.2.2.2.1.2.1 c) C.2.2.2.1.2.2.2.2)
def A_lawB (C : tC) (w a c : Int32) : Bool := inK w 0 2 && (C.1.2.2.2.2.2.1 (cl w) && (if w = 0 then enK a && enK c else pcK C.1 a && hrK C.1 c))
def A_law (C : tC) (w a c : Int32) : Int64 := if A_lawB C w a c = true then (lwA C (cl w) (cl a) (cl c)).getD NTH else NTH
theorem lj_names {S : ms_S} {a b c d dy : Nat} {x y z w : Int32} (hd : a_day S 0 = nI dy) (ex : x = nI a) (ey : y = nI b) (ez : z = nI c) (ew : w = nI d) : ∀ i, i < 7 → a_names (sL (sL (sL (sL (sL (sL (sL S 24 0 x.toInt64) 24 1 y.toInt64) 24 2 z.toInt64) 24 3 w.toInt64) 24 4 (lN 0)) 24 5 (lN 0)) 24 6 (nI dy).toInt64) i = env a b c d 0 0 dy i := by
  intro i hi
  subst ex ey ez ew
  match i, hi with
  | 0, _ => rfl
  | 1, _ => rfl
  | 2, _ => rfl
  | 3, _ => rfl
  | 4, _ => rfl
  | 5, _ => rfl
  | 6, _ => rfl
  | n + 7, h => omega
set_option maxRecDepth 100000 in
set_option maxHeartbeats 4000000 in
theorem c_lawQ (G : ab_G) (fr : Bool) (S : ms_S) (tl : ab_H) (C : tC) (hC : mC S C) (w a c : Int32) :
    ab_CT G 4 M_X12_law fr [.ref 0, .int w, .int a, .int c] (hM S tl) 0 0 (pQ (sV S 2 (nI 0)) tl C (.long (A_law C w a c))) := by
  refine wp_ct o_X12_law (Nat.le_of_ble_eq_true rfl) ?_
  generalize (hM S tl).length = n0
  have hC0 := th_C hC (nI 0)
  generalize hS0 : sV S 2 (nI 0) = S0 at hC0 ⊢
  have hZ0 : mZ S0 S0 := mZ.rf
  have ht0 : m_thrown S0 = nI 0 := by rw [← hS0]; rfl
  obtain ⟨c1, c2, c3, c4, c5, c6, c7, c8, c9, c10⟩ := id hC0
  obtain ⟨q1, q2, q3, q4, q5, q6⟩ := id c1
  iterate 3 refine ws_s rfl ?_
  refine wp_eqS hS0.symm ?_
  have K60 : A_lawB C w a c = false → wp G 4 M_X12_law fr n0 (pQ S0 tl C (.long (A_law C w a c))) 60 [some (.ref 0), some (.int w), some (.int a), some (.int c), none, none] [] (hM S0 tl) := by
    intro hn
    repeat refine ws_s rfl ?_
    exact wp_rl rfl rfl (pQ.l hZ0 hC0 ht0 (by unfold A_law; rw [if_neg (by rw [hn]; decide)]))
  have K162 : ∀ (X : ms_S) (jw : Nat) (nm : Nat → Int64) (l4 l5 : Option Value), jw < 3 → w = nI jw → mE fL aL S0 X → (∀ i, i < 7 → a_names X i = nm i) → C.1.2.2.2.2.2.1 jw = true → A_law C w a c = (C.1.2.2.2.2.2.2 jw nm).getD NTH → wp G 4 M_X12_law fr n0 (pQ S0 tl C (.long (A_law C w a c))) 162 [some (.ref 0), some (.int w), some (.int a), some (.int c), l4, l5] [] (hM X tl) := by
    intro X jw nm l4 l5 hjw ew hm hnm htold hA
    subst ew
    have hPX := mPL_mE hm.LR c1
    repeat refine ws_s rfl ?_
    refine wp_cV rfl rfl o_X12_lawOf v_X12_lawOf (c_law G fr X tl jw _ hjw ((hPX.2.2.2.2.2 jw hjw).2 htold) nm hnm) rfl rfl rfl (Nat.le_of_ble_eq_true rfl) (by decide) ?_
    rintro r h' ⟨Y, rfl, hm2, he, rfl⟩
    have hm3 := (hm.tr hm2).LR
    have hCY := mC_mZ hC0 hm3.Z (mRW_F (hm.tr hm2) rfl rfl rfl c10)
    have htY : m_thrown Y = nI 0 := (hm3.1 0 2 (Or.inr rfl)).trans ht0
    rw [hA]
    cases hv : C.1.2.2.2.2.2.2 jw nm with
    | none =>
      rw [hv] at he
      repeat refine ws_s rfl ?_
      rw [show Y.1 0 51 = bI true from he]
      repeat refine ws_s rfl ?_
      exact wp_rl rfl rfl (pQ.l (hZ0.tr hm3.Z) hCY htY rfl)
    | some v =>
      rw [hv] at he
      repeat refine ws_s rfl ?_
      rw [show Y.1 0 51 = bI false from he]
      repeat refine ws_s rfl ?_
      exact wp_rl rfl rfl (pQ.l (hZ0.tr hm3.Z) hCY htY rfl)
  repeat refine ws_s rfl ?_
  refine wp_S (c_isInK G fr (hM S0 tl) w 0 2) rfl rfl o_X12_isIn s_X12_isIn rfl rfl (Nat.le_of_ble_eq_true rfl) (by decide) ?_
  repeat refine ws_s rfl ?_
  refine wp_bn rfl (fun hb => K60 (by unfold A_lawB; rw [hb]; rfl)) (fun hb => ?_)
  obtain ⟨jw, _, hjw, rfl⟩ := inK_t (by decide) (by decide) hb
  have ew : cl (nI jw) = jw := cl_nI (by omega)
  have hB : A_lawB C (nI jw) a c = (C.1.2.2.2.2.2.1 jw && (if nI jw = 0 then enK a && enK c else pcK C.1 a && hrK C.1 c)) := by
    unfold A_lawB
    rw [hb, ew]
    rfl
  repeat refine ws_s rfl ?_
  refine ws_ld (k := jw) rfl (by first | rfl | (simp only [pk_mul, nI_add]; done)) (by omega) (by decide) ((q6 jw (by omega)).1) ?_
  repeat refine ws_s rfl ?_
  refine wp_bn rfl (fun hb1 => K60 (by rw [hB, hb1]; rfl)) (fun hb1 => ?_)
  rw [hb1, Bool.true_and] at hB
  repeat refine ws_s rfl ?_
  refine wp_eq (x := jw) (y := 0) rfl rfl (by omega) (by decide) (fun hw => ?_) (fun hw => ?_)
  · subst hw
    rw [if_pos (show nI 0 = 0 from rfl)] at hB
    repeat refine ws_s rfl ?_
    refine wp_S (c_isEndK G fr (hM S0 tl) a) rfl rfl o_X12_isEnd s_X12_isEnd rfl rfl (Nat.le_of_ble_eq_true rfl) (by decide) ?_
    repeat refine ws_s rfl ?_
    refine wp_bn rfl (fun hb2 => K60 (by rw [hB, hb2]; rfl)) (fun hb2 => ?_)
    rw [hb2, Bool.true_and] at hB
    repeat refine ws_s rfl ?_
    refine wp_S (c_isEndK G fr (hM S0 tl) c) rfl rfl o_X12_isEnd s_X12_isEnd rfl rfl (Nat.le_of_ble_eq_true rfl) (by decide) ?_
    repeat refine ws_s rfl ?_
    refine wp_bn rfl (fun hb3 => ?_) (fun hb3 => ?_)
    · iterate 1 refine ws_s rfl ?_
      exact K60 (by rw [hB, hb3])
    rw [hb3] at hB
    obtain ⟨ja, hja, rfl⟩ := enK_t hb2
    obtain ⟨jc, hjc, rfl⟩ := enK_t hb3
    repeat refine ws_s rfl ?_
    refine wp_S (c_apartOf G fr (nI ja) (nI jc) (hM S0 tl)) rfl rfl o_X12_apartOf s_X12_apartOf rfl rfl (Nat.le_of_ble_eq_true rfl) (by decide) ?_
    refine wp_V (c_layNames G fr S0 tl (nI ja) (nI jc) (nI 0) _) rfl rfl o_X12_layNames v_X12_layNames rfl rfl rfl (Nat.le_of_ble_eq_true rfl) (by decide) ?_
    repeat refine ws_s rfl ?_
    refine ws_ld (k := 0) rfl (by first | rfl | (simp only [pk_mul, nI_add]; done)) (by omega) (by decide) (c5.2.2.2.2.1) ?_
    repeat refine ws_s rfl ?_
    refine ws_sl (k := 6) rfl (by first | rfl | (simp only [pk_mul, nI_add]; done)) (by omega) (by decide) (rfl) ?_
    iterate 1 refine ws_s rfl ?_
    refine K162 _ 0 (env ja jc 0 (absd ja jc) 0 0 C.2.2.2.1.2.2.2.2) _ _ (by decide) rfl ((lnS_mE S0 _ _ _ _).tr (mE.sL rfl)) (lj_names c5.2.2.2.2.1 rfl rfl rfl (apart_nI (by omega) (by omega))) hb1 ?_
    unfold A_law
    rw [if_pos hB, ew, cl_nI (by omega), cl_nI (by omega)]
    rfl
  · have hw' : ¬ nI jw = 0 := fun z => hw ((nI_eq (b := 0) (by omega) (by decide)).mp z)
    rw [if_neg hw'] at hB
    repeat refine ws_s rfl ?_
    refine wp_V (c_isPieceK G fr S0 tl C.1 a q3) rfl rfl o_X12_isPiece v_X12_isPiece rfl rfl rfl (Nat.le_of_ble_eq_true rfl) (by decide) ?_
    repeat refine ws_s rfl ?_
    refine wp_bn rfl (fun hb2 => K60 (by rw [hB, hb2]; rfl)) (fun hb2 => ?_)
    rw [hb2, Bool.true_and] at hB
    repeat refine ws_s rfl ?_
    refine wp_V (c_isHeirK G fr S0 tl C.1 c q4) rfl rfl o_X12_isHeir v_X12_isHeir rfl rfl rfl (Nat.le_of_ble_eq_true rfl) (by decide) ?_
    repeat refine ws_s rfl ?_
    refine wp_bn rfl (fun hb3 => K60 (by rw [hB, hb3])) (fun hb3 => ?_)
    rw [hb3] at hB
    obtain ⟨ja, hja, rfl⟩ := pcK_t q1 hb2
    obtain ⟨jc, hjc, rfl⟩ := hrK_t q2 hb3
    obtain ⟨e1, e2, e3, e4, e5, e6⟩ := q5 ja hja
    have hA : A_law C (nI jw) (nI ja) (nI jc) = (lwA C jw ja jc).getD NTH := by
      unfold A_law
      rw [if_pos hB, ew, cl_nI (by omega), cl_nI (by omega)]
    repeat refine ws_s rfl ?_
    refine wp_eq (x := jw) (y := 0) rfl rfl (by omega) (by decide) (fun z => absurd z hw) (fun _ => ?_)
    repeat refine ws_s rfl ?_
    refine ws_ld (k := ja) rfl (by first | rfl | (simp only [pk_mul, nI_add]; done)) (by omega) (by decide) (e1) ?_
    repeat refine ws_s rfl ?_
    refine ws_ld (k := ja) rfl (by first | rfl | (simp only [pk_mul, nI_add]; done)) (by omega) (by decide) (e3) ?_
    refine wp_S (c_apartOf G fr (nI (C.1.2.2.1 ja)) (nI (C.1.2.2.2.1 ja)) (hM S0 tl)) rfl rfl o_X12_apartOf s_X12_apartOf rfl rfl (Nat.le_of_ble_eq_true rfl) (by decide) ?_
    rw [apart_nI (show C.1.2.2.1 ja < 2 ^ 31 by omega) (show C.1.2.2.2.1 ja < 2 ^ 31 by omega)]
    have hab : absd (C.1.2.2.1 ja) (C.1.2.2.2.1 ja) < 2 ^ 31 := by
      unfold absd
      split <;> omega
    repeat refine ws_s rfl ?_
    refine ws_ld (k := ja) rfl (by first | rfl | (simp only [pk_mul, nI_add]; done)) (by omega) (by decide) (e1) ?_
    repeat refine ws_s rfl ?_
    refine ws_ld (k := ja) rfl (by first | rfl | (simp only [pk_mul, nI_add]; done)) (by omega) (by decide) (e3) ?_
    repeat refine ws_s rfl ?_
    refine ws_ld (k := ja) rfl (by first | rfl | (simp only [pk_mul, nI_add]; done)) (by omega) (by decide) (e5) ?_
    have K153 : ∀ kv : Nat, A_law C (nI jw) (nI ja) (nI jc) = (C.1.2.2.2.2.2.2 jw (env (C.1.2.2.1 ja) (C.1.2.2.2.1 ja) (C.1.2.2.2.2.1 ja) kv (manyK C.1 C.2.2.2.1 jc) (C.2.2.2.1.2.1 jc) C.2.2.2.1.2.2.2.2)).getD NTH → wp G 4 M_X12_law fr n0 (pQ S0 tl C (.long (A_law C (nI jw) (nI ja) (nI jc)))) 153 [some (.ref 0), some (.int (nI jw)), some (.int (nI ja)), some (.int (nI jc)), some (.int (nI (absd (C.1.2.2.1 ja) (C.1.2.2.2.1 ja)))), none] [.int (nI kv), .int (nI (C.1.2.2.2.2.1 ja)), .int (nI (C.1.2.2.2.1 ja)), .int (nI (C.1.2.2.1 ja)), .ref 0] (hM S0 tl) := by
      intro kv hkv
      refine wp_V (c_layNames G fr S0 tl (nI (C.1.2.2.1 ja)) (nI (C.1.2.2.2.1 ja)) (nI (C.1.2.2.2.2.1 ja)) (nI kv)) rfl rfl o_X12_layNames v_X12_layNames rfl rfl rfl (Nat.le_of_ble_eq_true rfl) (by decide) ?_
      repeat refine ws_s rfl ?_
      refine wp_V (c_layHeir G fr _ tl 0 jc C.1.1 (by decide) (by omega) q1 q3) rfl rfl o_X12_layHeir v_X12_layHeir rfl rfl rfl (Nat.le_of_ble_eq_true rfl) (by decide) ?_
      exact K162 _ jw _ _ _ (by omega) rfl ((lnS_mE S0 _ _ _ _).tr (lhS_mE _ _ _ _)) (lh_names c5 (by omega) q1 rfl rfl rfl rfl) hb1 hkv
    repeat refine ws_s rfl ?_
    refine wp_eq (x := jw) (y := 1) rfl rfl (by omega) (by decide) (fun hw1 => ?_) (fun hw1 => ?_)
    · iterate 2 refine ws_s rfl ?_
      refine K153 _ ?_
      subst hw1
      rw [hA]
      rfl
    · have hw2 : jw = 2 := by omega
      subst hw2
      repeat refine ws_s rfl ?_
      refine wp_eq (y := 0) rfl rfl hab (by decide) (fun hk => ?_) (fun hk => ?_)
      · iterate 2 refine ws_s rfl ?_
        refine K153 _ ?_
        rw [hA]
        unfold lwA
        rw [if_neg (by decide), if_neg (by decide), if_pos hk]
      · iterate 1 refine ws_s rfl ?_
        refine K153 _ ?_
        rw [hA]
        unfold lwA
        rw [if_neg (by decide), if_neg (by decide), if_neg hk]
/-! dearest -/
def A_dearest (C : tC) (h w : Int32) : Int32 := if hrK C.1 h = true ∧ inK w 0 2 = true then (match dOut C.1 C.2.2.2.1 (jbK C.1 C.2.2.2.1.2.2.2.2 false) (cl h) 7 with | none => -(nI 2) | some q => if w = 0 then nI q.1 else if w = nI 1 then nI q.2.1 else nI q.2.2) else -(nI 1)
set_option maxRecDepth 100000 in
set_option maxHeartbeats 4000000 in
theorem c_dearest (G : ab_G) (fr : Bool) (S : ms_S) (tl : ab_H) (C : tC) (hC : mC S C) (h w : Int32) :
    ab_CT G 6 M_X12_dearest fr [.ref 0, .int h, .int w] (hM S tl) 0 0 (pQ (sV S 2 (nI 0)) tl C (.int (A_dearest C h w))) := by
  refine wp_ct o_X12_dearest (Nat.le_of_ble_eq_true rfl) ?_
  generalize (hM S tl).length = n0
  have hC0 := th_C hC (nI 0)
  generalize hS0 : sV S 2 (nI 0) = S0 at hC0 ⊢
  have hZ0 : mZ S0 S0 := mZ.rf
  have ht0 : m_thrown S0 = nI 0 := by rw [← hS0]; rfl
  obtain ⟨c1, c2, c3, c4, c5, c6, c7, c8, c9, c10⟩ := id hC0
  obtain ⟨q1, q2, q3, q4, q5, q6⟩ := id c1
  iterate 3 refine ws_s rfl ?_
  refine wp_eqS hS0.symm ?_
  have K22 : ¬ (hrK C.1 h = true ∧ inK w 0 2 = true) → wp G 6 M_X12_dearest fr n0 (pQ S0 tl C (.int (A_dearest C h w))) 22 [some (.ref 0), some (.int h), some (.int w)] [] (hM S0 tl) := by
    intro hn
    repeat refine ws_s rfl ?_
    exact wp_ri rfl rfl rfl (pQ.i hZ0 hC0 ht0 (by unfold A_dearest; rw [if_neg hn]))
  repeat refine ws_s rfl ?_
  refine wp_V (c_isHeirK G fr S0 tl C.1 h q4) rfl rfl o_X12_isHeir v_X12_isHeir rfl rfl rfl (Nat.le_of_ble_eq_true rfl) (by decide) ?_
  repeat refine ws_s rfl ?_
  refine wp_bn rfl (fun hb => K22 (fun z => by rw [hb] at z; cases z.1)) (fun hb => ?_)
  repeat refine ws_s rfl ?_
  refine wp_S (c_isInK G fr (hM S0 tl) w 0 2) rfl rfl o_X12_isIn s_X12_isIn rfl rfl (Nat.le_of_ble_eq_true rfl) (by decide) ?_
  repeat refine ws_s rfl ?_
  refine wp_bn rfl (fun hb2 => K22 (fun z => by rw [hb2] at z; cases z.2)) (fun hb2 => ?_)
  obtain ⟨jh, hjh, rfl⟩ := hrK_t q2 hb
  have hA : A_dearest C (nI jh) w = (match dOut C.1 C.2.2.2.1 (jbK C.1 C.2.2.2.1.2.2.2.2 false) jh 7 with | none => -(nI 2) | some q => if w = 0 then nI q.1 else if w = nI 1 then nI q.2.1 else nI q.2.2) := by
    unfold A_dearest
    rw [if_pos ⟨hb, hb2⟩, cl_nI (by omega)]
  repeat refine ws_s rfl ?_
  refine wp_V (c_plainTried G fr S0 tl) rfl rfl o_X12_plainTried v_X12_plainTried rfl rfl rfl (Nat.le_of_ble_eq_true rfl) (by decide) ?_
  have hCp := ptS_C hC0
  have hOp := ptS_O hC0
  have hZp := hZ0.tr (ptS_Z S0)
  repeat refine ws_s rfl ?_
  refine wp_cV rfl rfl o_X12_layRows v_X12_layRows (c_layRows G fr (ptS S0) tl C.1 C.2.2.2.1 0 hCp.1 hCp.2.2.2.2.1 (by decide) hCp.2.2.2.2.2.2.2.2.2) rfl rfl rfl (Nat.le_of_ble_eq_true rfl) (by decide) ?_
  rintro r h' ⟨S1, rfl, hm1, hj1, hr1, hw1, rfl⟩
  rw [dec_bI hOp.2.2.1] at hr1
  have hC1 := mC_mZ hCp hm1.Z hw1
  repeat refine ws_s rfl ?_
  refine wp_cV rfl rfl o_X12_isDear v_X12_isDear (c_isDear G fr S1 tl C.1 C.2.2.2.1 _ 0 jh hC1.1 hC1.2.2.2.2.1 (by decide) (by omega) hr1) rfl rfl rfl (Nat.le_of_ble_eq_true rfl) (by decide) ?_
  rintro r h' ⟨S2, rfl, hm2, hd2, rfl⟩
  have hC2 := mC_mZ hC1 hm2.DR.Z (mRW_F hm2 rfl rfl rfl hw1)
  have hZ2 := (hZp.tr hm1.Z).tr hm2.DR.Z
  have ht2 : m_thrown S2 = nI 0 := ((hm2.1 0 2 (Or.inr rfl)).trans (hm1.1 0 2 (Or.inr rfl))).trans ht0
  rw [hA]
  change dRep S2 (dOut C.1 C.2.2.2.1 (jbK C.1 C.2.2.2.1.2.2.2.2 false) jh 7) at hd2
  cases hdo : dOut C.1 C.2.2.2.1 (jbK C.1 C.2.2.2.1.2.2.2.2 false) jh 7 with
  | none =>
    repeat refine ws_s rfl ?_
    exact wp_ri rfl rfl rfl (pQ.i hZ2 hC2 ht2 rfl)
  | some q =>
    rw [hdo] at hd2
    repeat refine ws_s rfl ?_
    refine wp_ite (fun h0 => ?_) (fun h0 => ?_)
    · repeat refine ws_s rfl ?_
      exact wp_ri rfl rfl rfl (pQ.i hZ2 hC2 ht2 (hd2.1.trans (by dsimp only; rw [if_pos h0])))
    · repeat refine ws_s rfl ?_
      refine wp_ite (fun h1 => ?_) (fun h1 => ?_)
      · repeat refine ws_s rfl ?_
        exact wp_ri rfl rfl rfl (pQ.i hZ2 hC2 ht2 (hd2.2.1.trans (by dsimp only; rw [if_neg h0, if_pos h1])))
      · repeat refine ws_s rfl ?_
        exact wp_ri rfl rfl rfl (pQ.i hZ2 hC2 ht2 (hd2.2.2.1.trans (by dsimp only; rw [if_neg h0, if_neg h1])))
