/-! ===== the reference: laws worked out ===== -/
def bdE (er : Int32) (n : Int64) : Prop := ¬ er = 0 ∨ 1000000000000 < n ∨ n < -1000000000000
def bdD (er : Int32) (n : Int64) : Decidable (bdE er n) := by unfold bdE; infer_instance
set_option maxRecDepth 100000 in
set_option maxHeartbeats 4000000 in
theorem c_bounded (G : ab_G) (fr : Bool) (S : ms_S) (tl : ab_H) (n : Int64) : ab_CT G 1 M_X12_bounded fr [.ref 0, .long n] (hM S tl) 0 0 (fun r h' => r = some (.long (@ite _ (bdE (m_isError S) n) (bdD _ _) (lN 0) n)) ∧ h' = hM (sV S 51 (@ite _ (bdE (m_isError S) n) (bdD _ _) (nI 1) (nI 0))) tl) := by
  refine ct_of o_X12_bounded (Nat.le_of_ble_eq_true rfl) (fun n0 post hp => ?_)
  have K1 : bdE (m_isError S) n → wp G 1 M_X12_bounded fr n0 post 24 [some (.ref 0), some (.long n), none] [.ref 0] (hM S tl) := by
    intro hE
    rw [if_pos hE, if_pos hE] at hp
    repeat refine ws_s rfl ?_
    refine ws_g rfl (Or.inr rfl) ?_
    repeat refine ws_s rfl ?_
    exact wp_rl rfl rfl hp
  repeat refine ws_s rfl ?_
  refine wp_ite (fun h1 => ?_) (fun h1 => K1 (Or.inl h1))
  repeat refine ws_s rfl ?_
  refine wp_ite (fun h2 => K1 (Or.inr (Or.inl ((lg_cmp_gt _ _).mp h2)))) (fun h2 => ?_)
  repeat refine ws_s rfl ?_
  refine wp_ite (fun h3 => ?_) (fun h3 => K1 (Or.inr (Or.inr (by have := mt (lg_cmp_ge _ _).mpr h3; exact Int64.not_le.mp this))))
  have hE : ¬ bdE (m_isError S) n := by
    rintro (z | z | z)
    · exact z h1
    · exact h2 ((lg_cmp_gt _ _).mpr z)
    · exact absurd ((lg_cmp_ge _ _).mp h3) (Int64.not_le.mpr z)
  rw [if_neg hE, if_neg hE] at hp
  repeat refine ws_s rfl ?_
  refine ws_g rfl (Or.inl rfl) ?_
  repeat refine ws_s rfl ?_
  exact wp_rl rfl rfl hp
