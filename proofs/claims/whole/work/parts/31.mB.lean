/-! ===== the reference: laws worked out ===== -/
def bdE (er : Int32) (n : Int64) : Prop := ¬ er = 0 ∨ 1000000000000 < n ∨ n < -1000000000000
def bdD (er : Int32) (n : Int64) : Decidable (bdE er n) := by unfold bdE; infer_instance
set_option maxRecDepth 100000 in
set_option maxHeartbeats 4000000 in
theorem c_bounded (G : ab_G) (fr : Bool) (S : ms_S) (tl : ab_H) (n : Int64) : ab_CT G 1 M_X12_bounded fr [.ref 0, .long n] (hM S tl) 0 0 (fun r h' => r = some (.long (@ite _ (bdE (m_isError S) n) (bdD _ _) (lN 0) n)) ∧ h' = hM (sV S 51 (@ite _ (bdE (m_isError S) n) (bdD _ _) (nI 1) (nI 0))) tl) := by
  refine ct_of o_X12_bounded (Nat.le_of_ble_eq_true rfl) (fun n0 post hp => ?_)
  have K1 : bdE (m_isError S) n → wp G 1 M_X12_bounded fr n0 post 24 [some (.ref 0), some (.long n), none] [.ref 0] (hM S tl) := by
    intro hE
    rw [if_pos hE, if_pos hE] at hp
    repeat refine ws_s rfl ?_
    refine ws_g rfl (Or.inr rfl) ?_
    repeat refine ws_s rfl ?_
    exact wp_rl rfl rfl hp
  repeat refine ws_s rfl ?_
  refine wp_ite (fun h1 => ?_) (fun h1 => K1 (Or.inl h1))
  repeat refine ws_s rfl ?_
  refine wp_ite (fun h2 => K1 (Or.inr (Or.inl ((lg_cmp_gt _ _).mp h2)))) (fun h2 => ?_)
  repeat refine ws_s rfl ?_
  refine wp_ite (fun h3 => ?_) (fun h3 => K1 (Or.inr (Or.inr (by have := mt (lg_cmp_ge _ _).mpr h3; exact Int64.not_le.mp this))))
  have hE : ¬ bdE (m_isError S) n := by
    rintro (z | z | z)
    · exact z h1
    · exact h2 ((lg_cmp_gt _ _).mpr z)
    · exact absurd ((lg_cmp_ge _ _).mp h3) (Int64.not_le.mpr z)
  rw [if_neg hE, if_neg hE] at hp
  repeat refine ws_s rfl ?_
  refine ws_g rfl (Or.inl rfl) ?_
  repeat refine ws_s rfl ?_
  exact wp_rl rfl rfl hp
abbrev ab64 (x : Int64) : Int64 := if 0 ≤ x then x else -x
def tmE (x y : Int64) : Prop := ¬ x = 0 ∧ ¬ y = 0 ∧ 1000000000000 / ab64 x < ab64 y
def tmF (er : Int32) (x y : Int64) : Prop := ¬ er = 0 ∨ tmE x y
def tmD (er : Int32) (x y : Int64) : Decidable (tmF er x y) := by unfold tmF tmE; infer_instance
set_option maxRecDepth 100000 in
set_option maxHeartbeats 4000000 in
theorem c_times (G : ab_G) (fr : Bool) (S : ms_S) (tl : ab_H) (x y : Int64) : ab_CT G 1 M_X12_times fr [.ref 0, .long x, .long y] (hM S tl) 0 0 (fun r h' => r = some (.long (@ite _ (tmF (m_isError S) x y) (tmD _ _ _) (lN 0) (x * y))) ∧ h' = hM (sV S 51 (@ite _ (tmF (m_isError S) x y) (tmD _ _ _) (nI 1) (nI 0))) tl) := by
  refine ct_of o_X12_times (Nat.le_of_ble_eq_true rfl) (fun n0 post hp => ?_)
  -- behind the product's test
  have K5 : ∀ (mu : Int32), ((mu = nI 1 ∧ tmE x y) ∨ (mu = nI 0 ∧ ¬ tmE x y)) → wp G 1 M_X12_times fr n0 post 49 [some (.ref 0), some (.long x), none, some (.long y), none, none] [.int mu] (hM S tl) := by
    intro mu hmu
    have K1 : tmF (m_isError S) x y → wp G 1 M_X12_times fr n0 post 64 [some (.ref 0), some (.long x), none, some (.long y), none, some (.int mu)] [.ref 0] (hM S tl) := by
      intro hE
      rw [if_pos hE, if_pos hE] at hp
      repeat refine ws_s rfl ?_
      refine ws_g rfl (Or.inr rfl) ?_
      repeat refine ws_s rfl ?_
      exact wp_rl rfl rfl hp
    repeat refine ws_s rfl ?_
    refine wp_ite (fun h1 => ?_) (fun h1 => K1 (Or.inl h1))
    repeat refine ws_s rfl ?_
    refine wp_ite (fun h2 => ?_) (fun h2 => K1 (Or.inr ?_))
    · have hE : ¬ tmF (m_isError S) x y := by
        rintro (z | z)
        · exact z h1
        · rcases hmu with ⟨a9, b9⟩ | ⟨a9, b9⟩
          · rw [a9] at h2; exact absurd h2 (by decide)
          · exact b9 z
      rw [if_neg hE, if_neg hE] at hp
      repeat refine ws_s rfl ?_
      refine ws_g rfl (Or.inl rfl) ?_
      repeat refine ws_s rfl ?_
      exact wp_rl rfl rfl hp
    · rcases hmu with ⟨a9, b9⟩ | ⟨a9, b9⟩
      · exact b9
      · exact absurd a9 h2
  have K4 : ¬ tmE x y → wp G 1 M_X12_times fr n0 post 48 [some (.ref 0), some (.long x), none, some (.long y), none, none] [] (hM S tl) := by
    intro hE
    iterate 1 refine ws_s rfl ?_
    exact K5 (nI 0) (Or.inr ⟨rfl, hE⟩)
  repeat refine ws_s rfl ?_
  refine wp_ite (fun h1 => K4 (fun z => z.1 ((lg_cmp_eq _ _).mp h1))) (fun h1 => ?_)
  have hx0 : ¬ x = 0 := fun z => h1 ((lg_cmp_eq _ _).mpr z)
  repeat refine ws_s rfl ?_
  refine wp_ite (fun h2 => K4 (fun z => z.2.1 ((lg_cmp_eq _ _).mp h2))) (fun h2 => ?_)
  have hy0 : ¬ y = 0 := fun z => h2 ((lg_cmp_eq _ _).mpr z)
  repeat refine ws_s rfl ?_
  have K3 : ∀ (ay ax : Int64), ay = ab64 y → ax = ab64 x → wp G 1 M_X12_times fr n0 post 39 [some (.ref 0), some (.long x), none, some (.long y), none, none] [.long ax, .long 1000000000000, .long ay] (hM S tl) := by
    intro ay ax e1 e2
    refine ws_g rfl (show ¬ ax = 0 from ?_) ?_
    · rw [e2]
      intro z
      unfold ab64 at z
      split at z
      · exact hx0 z
      · exact hx0 (by have := congrArg (fun w => -w) z; simpa using this)
    repeat refine ws_s rfl ?_
    refine wp_ite (fun h3 => K4 (fun z => ?_)) (fun h3 => ?_)
    · have h4 := (lg_cmp_le _ _).mp h3
      rw [e1, e2] at h4
      exact absurd z.2.2 (Int64.not_lt.mpr h4)
    · iterate 2 refine ws_s rfl ?_
      refine K5 (nI 1) (Or.inl ⟨rfl, hx0, hy0, ?_⟩)
      have h4 := mt (lg_cmp_le _ _).mpr h3
      rw [e1, e2] at h4
      exact Int64.not_le.mp h4
  have K2 : ∀ (ay : Int64), ay = ab64 y → wp G 1 M_X12_times fr n0 post 24 [some (.ref 0), some (.long x), none, some (.long y), none, none] [.long ay] (hM S tl) := by
    intro ay e1
    repeat refine ws_s rfl ?_
    refine wp_ite (fun h3 => ?_) (fun h3 => ?_)
    · iterate 1 refine ws_s rfl ?_
      exact K3 ay x e1 (if_pos (show (0 : Int64) ≤ x from (lg_cmp_ge _ _).mp h3)).symm
    · iterate 3 refine ws_s rfl ?_
      exact K3 ay (-x) e1 (if_neg (show ¬ (0 : Int64) ≤ x from fun z => h3 ((lg_cmp_ge _ _).mpr z))).symm
  refine wp_ite (fun h3 => ?_) (fun h3 => ?_)
  · iterate 1 refine ws_s rfl ?_
    exact K2 y (if_pos (show (0 : Int64) ≤ y from (lg_cmp_ge _ _).mp h3)).symm
  · iterate 3 refine ws_s rfl ?_
    exact K2 (-y) (if_neg (show ¬ (0 : Int64) ≤ y from fun z => h3 ((lg_cmp_ge _ _).mpr z))).symm
def cmN (k : Nat) (x y : Int64) : Bool := match k with
  | 5 => decide (x < y)
  | 6 => decide (x ≤ y)
  | 7 => decide (x = y)
  | 8 => decide (¬ x = y)
  | 9 => decide (y ≤ x)
  | _ => decide (y < x)
abbrev bI (b : Bool) : Int32 := if b = true then nI 1 else nI 0
abbrev bL (b : Bool) : Int64 := if b = true then lN 1 else lN 0
set_option maxRecDepth 100000 in
set_option maxHeartbeats 4000000 in
theorem c_compares (G : ab_G) (fr : Bool) (h : ab_H) (k : Nat) (hk : 5 ≤ k ∧ k ≤ 10) (x y : Int64) : ab_CT G 1 M_X12_compares fr [.int (nI k), .long x, .long y] h 0 0 (fun r h' => r = some (.int (bI (cmN k x y))) ∧ h' = h) := by
  refine ct_of o_X12_compares (Nat.le_of_ble_eq_true rfl) (fun n0 post hp => ?_)
  iterate 1 refine wq_s rfl ?_
  rcases (show k = 5 ∨ k = 6 ∨ k = 7 ∨ k = 8 ∨ k = 9 ∨ k = 10 by omega) with rfl | rfl | rfl | rfl | rfl | rfl
  · refine wp_tsw (off := 35) (t := 36) rfl (by decide) (by decide) (by decide) (by decide) ?_
    repeat refine wq_s rfl ?_
    refine wp_ite (fun h1 => ?_) (fun h1 => ?_)
    · have hb : cmN 5 x y = false := decide_eq_false (Int64.not_lt.mpr ((lg_cmp_ge _ _).mp h1))
      rw [hb] at hp
      repeat refine wq_s rfl ?_
      exact wp_ri rfl rfl rfl hp
    · have hb : cmN 5 x y = true := decide_eq_true (Int64.not_le.mp (mt (lg_cmp_ge _ _).mpr h1))
      rw [hb] at hp
      repeat refine wq_s rfl ?_
      exact wp_ri rfl rfl rfl hp
  · refine wp_tsw (off := 47) (t := 48) rfl (by decide) (by decide) (by decide) (by decide) ?_
    repeat refine wq_s rfl ?_
    refine wp_ite (fun h1 => ?_) (fun h1 => ?_)
    · have hb : cmN 6 x y = false := decide_eq_false (Int64.not_le.mpr ((lg_cmp_gt _ _).mp h1))
      rw [hb] at hp
      repeat refine wq_s rfl ?_
      exact wp_ri rfl rfl rfl hp
    · have hb : cmN 6 x y = true := decide_eq_true (Int64.not_lt.mp (mt (lg_cmp_gt _ _).mpr h1))
      rw [hb] at hp
      repeat refine wq_s rfl ?_
      exact wp_ri rfl rfl rfl hp
  · refine wp_tsw (off := 59) (t := 60) rfl (by decide) (by decide) (by decide) (by decide) ?_
    repeat refine wq_s rfl ?_
    refine wp_ite (fun h1 => ?_) (fun h1 => ?_)
    · have hb : cmN 7 x y = true := decide_eq_true ((lg_cmp_eq _ _).mp h1)
      rw [hb] at hp
      repeat refine wq_s rfl ?_
      exact wp_ri rfl rfl rfl hp
    · have hb : cmN 7 x y = false := decide_eq_false (mt (lg_cmp_eq _ _).mpr h1)
      rw [hb] at hp
      repeat refine wq_s rfl ?_
      exact wp_ri rfl rfl rfl hp
  · refine wp_tsw (off := 71) (t := 72) rfl (by decide) (by decide) (by decide) (by decide) ?_
    repeat refine wq_s rfl ?_
    refine wp_ite (fun h1 => ?_) (fun h1 => ?_)
    · have hb : cmN 8 x y = false := decide_eq_false (fun z => z ((lg_cmp_eq _ _).mp h1))
      rw [hb] at hp
      repeat refine wq_s rfl ?_
      exact wp_ri rfl rfl rfl hp
    · have hb : cmN 8 x y = true := decide_eq_true (mt (lg_cmp_eq _ _).mpr h1)
      rw [hb] at hp
      repeat refine wq_s rfl ?_
      exact wp_ri rfl rfl rfl hp
  · refine wp_tsw (off := 83) (t := 84) rfl (by decide) (by decide) (by decide) (by decide) ?_
    repeat refine wq_s rfl ?_
    refine wp_ite (fun h1 => ?_) (fun h1 => ?_)
    · have hb : cmN 9 x y = false := decide_eq_false (Int64.not_le.mpr ((lg_cmp_lt _ _).mp h1))
      rw [hb] at hp
      repeat refine wq_s rfl ?_
      exact wp_ri rfl rfl rfl hp
    · have hb : cmN 9 x y = true := decide_eq_true (Int64.not_lt.mp (mt (lg_cmp_lt _ _).mpr h1))
      rw [hb] at hp
      repeat refine wq_s rfl ?_
      exact wp_ri rfl rfl rfl hp
  · refine wp_tsd (t := 96) rfl (by decide) (by decide) ?_
    repeat refine wq_s rfl ?_
    refine wp_ite (fun h1 => ?_) (fun h1 => ?_)
    · have hb : cmN 10 x y = false := decide_eq_false (Int64.not_lt.mpr ((lg_cmp_le _ _).mp h1))
      rw [hb] at hp
      repeat refine wq_s rfl ?_
      exact wp_ri rfl rfl rfl hp
    · have hb : cmN 10 x y = true := decide_eq_true (Int64.not_le.mp (mt (lg_cmp_le _ _).mpr h1))
      rw [hb] at hp
      repeat refine wq_s rfl ?_
      exact wp_ri rfl rfl rfl hp
set_option maxRecDepth 100000 in
set_option maxHeartbeats 4000000 in
theorem c_layNames (G : ab_G) (fr : Bool) (S : ms_S) (tl : ab_H) (x y z w : Int32) : ab_CT G 1 M_X12_layNames fr [.ref 0, .int x, .int y, .int z, .int w] (hM S tl) 0 0 (fun r h' => r = none ∧ h' = hM (sL (sL (sL (sL (sL (sL S 24 0 x.toInt64) 24 1 y.toInt64) 24 2 z.toInt64) 24 3 w.toInt64) 24 4 (lN 0)) 24 5 (lN 0)) tl) := by
  refine ct_of o_X12_layNames (Nat.le_of_ble_eq_true rfl) (fun n0 post hp => ?_)
  repeat refine ws_s rfl ?_
  refine ws_g rfl (vp_in_nI (by decide) (by decide)) ?_
  repeat refine ws_s rfl ?_
  refine ws_g rfl (vp_in_nI (by decide) (by decide)) ?_
  repeat refine ws_s rfl ?_
  refine ws_g rfl (vp_in_nI (by decide) (by decide)) ?_
  repeat refine ws_s rfl ?_
  refine ws_g rfl (vp_in_nI (by decide) (by decide)) ?_
  repeat refine ws_s rfl ?_
  refine ws_g rfl (vp_in_nI (by decide) (by decide)) ?_
  repeat refine ws_s rfl ?_
  refine ws_g rfl (vp_in_nI (by decide) (by decide)) ?_
  exact wp_rv rfl rfl hp
