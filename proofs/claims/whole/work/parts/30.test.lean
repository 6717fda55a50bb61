abbrev hM (S : ms_S) (tl : ab_H) : ab_H := ms_h S 0 lM ++ tl
set_option maxRecDepth 100000 in
set_option maxHeartbeats 4000000 in
theorem c_isOf (G : ab_G) (fr : Bool) (x k : Int32) (h : ab_H) : ab_CT G 1 M_X12_isOf fr [.int x, .int k] h 0 0 (fun r h' => r = some (.int (if (x >>> (k &&& 31)) &&& nI 1 = nI 1 then nI 1 else nI 0)) ∧ h' = h) := by
  refine wp_ct o_X12_isOf (Nat.le_of_ble_eq_true rfl) ?_
  iterate 7 refine wq_s rfl ?_
  refine wp_ite (fun hq => ?_) (fun hq => ?_)
  · iterate 2 refine wq_s rfl ?_
    exact wp_ri rfl rfl rfl ⟨by rw [if_pos hq], rfl⟩
  · iterate 1 refine wq_s rfl ?_
    exact wp_ri rfl rfl rfl ⟨by rw [if_neg hq], rfl⟩
def heldN (f : Nat → Int32) (x : Int32) : Nat → Nat
  | 0 => 0
  | i + 1 => heldN f x i ||| (if f i = x then 2 ^ i else 0)
set_option maxRecDepth 100000 in
set_option maxHeartbeats 4000000 in
theorem c_heldBy (G : ab_G) (fr : Bool) (S : ms_S) (tl : ab_H) (bb n : Nat) (x : Int32) (hbb : bb < 2) (hn : n ≤ 9) (hp : m_pieces S = nI n) : ab_CT G 1 M_X12_heldBy fr [.ref 0, .int (nI bb), .int x] (hM S tl) 0 0 (fun r h' => r = some (.int (nI (heldN (fun p => a_holder S (9 * bb + p)) x n))) ∧ h' = hM S tl) := by
  refine wp_ct o_X12_heldBy (Nat.le_of_ble_eq_true rfl) ?_
  generalize hf : (fun p => a_holder S (9 * bb + p)) = f
  iterate 4 refine ws_s rfl ?_
  have loop : ∀ (k i : Nat) (n0 : Nat) (post : Option Value → ab_H → Prop), i + k = n → post (some (.int (nI (heldN f x n)))) (hM S tl) → wp G 1 M_X12_heldBy fr n0 post 5 [some (.ref 0), some (.int (nI bb)), some (.int x), some (.int (nI (heldN f x i))), some (.int (nI i))] [] (hM S tl) := by
    intro k
    induction k with
    | zero =>
      intro i n0 post hi hpost
      have hi : i = n := by omega
      subst hi
      iterate 4 refine ws_s rfl ?_
      refine wp_ite (fun hq => ?_) (fun hq => absurd (by show m_pieces S ≤ nI i; rw [hp]; exact nI_le (Nat.le_refl _) (by omega)) hq)
      iterate 1 refine ws_s rfl ?_
      exact wp_ri rfl rfl rfl hpost
    | succ k ih =>
      intro i n0 post hi hpost
      iterate 4 refine ws_s rfl ?_
      refine wp_ite (fun hq => absurd hq (by show ¬ m_pieces S ≤ nI i; rw [hp]; exact nI_ge (by omega) (by omega))) (fun hq => ?_)
      iterate 8 refine ws_s rfl ?_
      have e1 : nI 9 * nI bb + nI i = nI (9 * bb + i) := by rw [pk_mul, nI_add]
      refine ws_g rfl (by show vp_in (nI 9 * nI bb + nI i) 18; rw [e1]; exact vp_in_nI (by omega) (by omega)) ?_
      iterate 2 refine ws_s rfl ?_
      have e2 : a_holder S (nI 9 * nI bb + nI i).toNatClampNeg = f i := by rw [e1, nI_clamp (by omega), ← hf]
      refine wp_ite (fun hq2 => ?_) (fun hq2 => ?_)
      · iterate 8 refine ws_s rfl ?_
        have e3 : nI (heldN f x i) ||| (nI 1 <<< (nI i &&& 31)) = nI (heldN f x (i + 1)) := by
          rw [nu_shl (by omega) (by have := Nat.pow_le_pow_right (n := 2) (by omega) (show i ≤ 9 by omega); omega), nu_or, Nat.one_mul]
          show _ = nI (_ ||| (if f i = x then 2 ^ i else 0))
          rw [if_pos (e2.symm.trans hq2)]
        show wp G 1 M_X12_heldBy fr n0 post 5 [some (.ref 0), some (.int (nI bb)), some (.int x), some (.int (nI (heldN f x i) ||| (nI 1 <<< (nI i &&& 31)))), some (.int (nI i + nI 1))] [] (hM S tl)
        rw [e3, nI_add]
        exact ih (i + 1) n0 post (by omega) hpost
      · iterate 5 refine ws_s rfl ?_
        have e3 : nI (heldN f x i) ||| nI 0 = nI (heldN f x (i + 1)) := by
          rw [nu_or]
          show _ = nI (_ ||| (if f i = x then 2 ^ i else 0))
          rw [if_neg (fun z => hq2 (e2.trans z))]
        show wp G 1 M_X12_heldBy fr n0 post 5 [some (.ref 0), some (.int (nI bb)), some (.int x), some (.int (nI (heldN f x i) ||| nI 0)), some (.int (nI i + nI 1))] [] (hM S tl)
        rw [e3, nI_add]
        exact ih (i + 1) n0 post (by omega) hpost
  exact loop n 0 _ _ (by omega) ⟨rfl, rfl⟩
