/-! ===== the reference: names of a heir, options, numbers, may ===== -/
/-- what layHeir writes -/
def lhS (S : ms_S) (bb hh n : Nat) : ms_S := sL (sL (sL S 24 4 (nI (pop (heldN (fun p => a_holder S (9 * bb + p)) (nI hh) n) 9)).toInt64) 24 5 (a_gold S (5 * bb + hh)).toInt64) 24 6 (a_day S bb).toInt64
set_option maxRecDepth 100000 in
set_option maxHeartbeats 4000000 in
theorem c_layHeir (G : ab_G) (fr : Bool) (S : ms_S) (tl : ab_H) (bb hh n : Nat) (hbb : bb < 2) (hhh : hh < 5) (hn : n ≤ 9) (hp9 : m_pieces S = nI n) : ab_CT G 2 M_X12_layHeir fr [.ref 0, .int (nI bb), .int (nI hh)] (hM S tl) 0 0 (fun r h' => r = none ∧ h' = hM (lhS S bb hh n) tl) := by
  refine ct_of o_X12_layHeir (Nat.le_of_ble_eq_true rfl) (fun n0 post hp => ?_)
  repeat refine ws_s rfl ?_
  refine wp_V (c_heldBy G fr S tl bb n (nI hh) hbb hn hp9) rfl rfl o_X12_heldBy v_X12_heldBy rfl rfl rfl (by show (1 + (1 + 0)) ≤ 8; decide) (by decide) ?_
  have hlt := heldN_lt (fun p => a_holder S (9 * bb + p)) (nI hh) n
  have hlt2 : heldN (fun p => a_holder S (9 * bb + p)) (nI hh) n < 2 ^ 31 := Nat.lt_of_lt_of_le hlt (Nat.pow_le_pow_right (by omega) (by omega))
  refine wp_S (c_manyOf G fr _ (hM S tl) hlt2) rfl rfl o_X12_manyOf s_X12_manyOf rfl rfl (by show (1 + (1 + 0)) ≤ 8; decide) (by decide) ?_
  repeat refine ws_s rfl ?_
  refine ws_g rfl (vp_in_nI (by decide) (by decide)) ?_
  repeat refine ws_s rfl ?_
  have e1 : nI 5 * nI bb + nI hh = nI (5 * bb + hh) := by rw [pk_mul, nI_add]
  refine ws_g rfl (by show vp_in (nI 5 * nI bb + nI hh) 10; rw [e1]; exact vp_in_nI (by omega) (by decide)) ?_
  rw [e1, nI_clamp (show 5 * bb + hh < 2 ^ 31 by omega)]
  repeat refine ws_s rfl ?_
  refine ws_g rfl (vp_in_nI (by decide) (by decide)) ?_
  repeat refine ws_s rfl ?_
  refine ws_g rfl (vp_in_nI hbb (by decide)) ?_
  rw [nI_clamp (show bb < 2 ^ 31 by omega)]
  repeat refine ws_s rfl ?_
  refine ws_g rfl (vp_in_nI (by decide) (by decide)) ?_
  exact wp_rv rfl rfl hp
/-- the options as they are told -/
def ptS (S : ms_S) : ms_S := sV (sV (sV (sV (sV (sV S 58 (nI 0)) 59 (nI 0)) 60 (nI 0)) 61 (nI 0)) 62 (-(nI 1))) 63 (a_once S 0)
set_option maxRecDepth 100000 in
set_option maxHeartbeats 4000000 in
theorem c_plainTried (G : ab_G) (fr : Bool) (S : ms_S) (tl : ab_H) : ab_CT G 1 M_X12_plainTried fr [.ref 0] (hM S tl) 0 0 (fun r h' => r = none ∧ h' = hM (ptS S) tl) := by
  refine ct_of o_X12_plainTried (Nat.le_of_ble_eq_true rfl) (fun n0 post hp => ?_)
  repeat refine ws_s rfl ?_
  refine ws_g rfl (Or.inl rfl) ?_
  repeat refine ws_s rfl ?_
  refine ws_g rfl (Or.inl rfl) ?_
  repeat refine ws_s rfl ?_
  refine ws_g rfl (Or.inl rfl) ?_
  repeat refine ws_s rfl ?_
  refine ws_g rfl (Or.inl rfl) ?_
  repeat refine ws_s rfl ?_
  refine ws_g rfl (vp_in_nI (by decide) (by decide)) ?_
  repeat refine ws_s rfl ?_
  exact wp_rv rfl rfl hp
set_option maxRecDepth 100000 in
set_option maxHeartbeats 4000000 in
theorem c_number1 (G : ab_G) (fr : Bool) (S : ms_S) (tl : ab_H) (n : Int32) (hn : ¬ n.toInt64 = 0) : ab_CT G 1 M_X12_number1 fr [.ref 0, .int n] (hM S tl) 0 0 (fun r h' => r = some (.int ((m_drawn S * 1103515245 + 12345 &&& 2147483647) / 65536 - (m_drawn S * 1103515245 + 12345 &&& 2147483647) / 65536 / n.toInt64 * n.toInt64).toInt32) ∧ h' = hM (sW S 57 (m_drawn S * 1103515245 + 12345 &&& 2147483647)) tl) := by
  refine ct_of o_X12_number1 (Nat.le_of_ble_eq_true rfl) (fun n0 post hp => ?_)
  repeat refine ws_s rfl ?_
  refine ws_g rfl (by show ¬ (65536 : Int64) = 0; decide) ?_
  repeat refine ws_s rfl ?_
  refine ws_g rfl hn ?_
  repeat refine ws_s rfl ?_
  exact wp_ri rfl rfl rfl hp
set_option maxRecDepth 100000 in
set_option maxHeartbeats 4000000 in
theorem c_goldAll (G : ab_G) (fr : Bool) (S : ms_S) (tl : ab_H) (bb n : Nat) (g : Nat → Nat) (hbb : bb < 2) (hn : n ≤ 5) (hp9 : m_heirs S = nI n) (hg : ∀ i, i < 5 → a_gold S (5 * bb + i) = nI (g i)) : ab_CT G 1 M_X12_goldAll fr [.ref 0, .int (nI bb)] (hM S tl) 0 0 (fun r h' => r = some (.int (nI ((List.range n).foldl (fun x i => x + g i) 0))) ∧ h' = hM S tl) := by
  refine ct_of o_X12_goldAll (Nat.le_of_ble_eq_true rfl) (fun n0 post hp => ?_)
  iterate 4 refine ws_s rfl ?_
  refine wp_down n (fun i => [some (.ref 0), some (.int (nI bb)), some (.int (nI ((List.range i).foldl (fun x i => x + g i) 0))), some (.int (nI i))]) (fun _ => hM S tl) ?_ (fun i hi k => ?_)
  · repeat refine ws_s rfl ?_
    refine wp_ite (fun hq => ?_) (fun hq => absurd (by show m_heirs S ≤ nI n; rw [hp9]; exact nI_le (Nat.le_refl _) (by omega)) hq)
    repeat refine ws_s rfl ?_
    exact wp_ri rfl rfl rfl hp
  · repeat refine ws_s rfl ?_
    refine wp_ite (fun hq => absurd hq (by show ¬ m_heirs S ≤ nI i; rw [hp9]; exact nI_ge (by omega) (by omega))) (fun hq => ?_)
    repeat refine ws_s rfl ?_
    have e1 : nI 5 * nI bb + nI i = nI (5 * bb + i) := by rw [pk_mul, nI_add]
    refine ws_g rfl (by show vp_in (nI 5 * nI bb + nI i) 10; rw [e1]; exact vp_in_nI (by omega) (by decide)) ?_
    rw [e1, nI_clamp (show 5 * bb + i < 2 ^ 31 by omega), show S.2.2.2.1 27 (5 * bb + i) = nI (g i) from hg i (by omega)]
    repeat refine ws_s rfl ?_
    refine ws_b rfl ?_
    exact wp_eqL (by simp only [List.range_succ, List.foldl_append, List.foldl_cons, List.foldl_nil, ← nI_add]; rfl) k
