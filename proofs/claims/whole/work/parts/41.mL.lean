/-! ===== the reference: a row is laid, a piece is drawn ===== -/
/-- heir h has laid all he holds, worth d -/
def spS (P : tPL) (s : tES) (h d : Nat) : tES := (fun p => if p < P.1 ∧ s.1 p = nI h then -(nI 3) else s.1 p, fun i => if i = h then min 99999 (s.2.1 h + d) else s.2.1 i, fun i => if i = h then s.2.2.1 h + 1 else s.2.2.1 i, s.2.2.2)
set_option maxRecDepth 100000 in
set_option maxHeartbeats 4000000 in
theorem c_spends (G : ab_G) (fr : Bool) (S : ms_S) (tl : ab_H) (P : tPL) (s : tES) (bb hh d9 : Nat) (hP : mPL S P) (hs : mES S bb s) (hbb : bb < 2) (hhh : hh < 5) (hd : m_dear S = nI d9) (hd9 : d9 ≤ 9999) :
    ab_CT G 1 M_X12_spends fr [.ref 0, .int (nI bb), .int (nI hh)] (hM S tl) 0 0 (fun r h' => ∃ S', h' = hM S' tl ∧ mB fL aL bb S S' ∧ mES S' bb (spS P s hh d9) ∧ S'.2.1 = S.2.1 ∧ r = none) := by
  refine wp_ct o_X12_spends (Nat.le_of_ble_eq_true rfl) ?_
  generalize hpost : (fun (r : Option Value) (h' : ab_H) => ∃ S', h' = hM S' tl ∧ mB fL aL bb S S' ∧ mES S' bb (spS P s hh d9) ∧ S'.2.1 = S.2.1 ∧ r = none) = post
  generalize (hM S tl).length = n0
  obtain ⟨q1, q2, q3, q4, q5, q6⟩ := id hP
  obtain ⟨s1, s2, s3, s4, s5, s6⟩ := id hs
  obtain ⟨eg, hg⟩ := s2 hh hhh
  have e1 : nI 5 * nI bb + nI hh = nI (5 * bb + hh) := by rw [pk_mul, nI_add]
  have c1 : (nI (5 * bb + hh)).toNatClampNeg = 5 * bb + hh := nI_clamp (by omega)
  have gd : vp_in (nI 5 * nI bb + nI hh) 10 := by rw [e1]; exact vp_in_nI (by omega) (by decide)
  have E1 : S.2.2.2.1 27 (5 * bb + hh) = nI (s.2.1 hh) := eg
  -- behind the gold
  have K49 : ∀ v : Int32, v = nI (min 99999 (s.2.1 hh + d9)) → wp G 1 M_X12_spends fr n0 post 49 [some (.ref 0), some (.int (nI bb)), some (.int (nI hh)), none] [.int v, .int (nI (5 * bb + hh)), .ref 27] (hM S tl) := by
    intro v hv
    subst hv
    refine ws_g rfl (by rw [← e1]; exact gd) ?_
    rw [c1]
    repeat refine ws_s rfl ?_
    refine ws_g rfl gd ?_
    rw [e1, c1, show (sA S 27 (5 * bb + hh) (nI (min 99999 (s.2.1 hh + d9)))).2.2.2.1 28 (5 * bb + hh) = nI (s.2.2.1 hh) from s3 hh hhh]
    repeat refine ws_s rfl ?_
    rw [nI_add]
    refine ws_g rfl (by rw [← e1]; exact gd) ?_
    rw [c1]
    iterate 2 refine ws_s rfl ?_
    refine wp_downX (X := ms_S) P.1 (fun p X => mB fL aL bb S X ∧ mES X bb (fun j => if j < p ∧ s.1 j = nI hh then -(nI 3) else s.1 j, (spS P s hh d9).2) ∧ X.2.1 = S.2.1) (fun p X => [some (.ref 0), some (.int (nI bb)), some (.int (nI hh)), some (.int (nI p))]) (fun X => hM X tl) ?_ ?_ (sA (sA S 27 (5 * bb + hh) (nI (min 99999 (s.2.1 hh + d9)))) 28 (5 * bb + hh) (nI (s.2.2.1 hh + 1))) ⟨(mB.go (by omega)).tr (mB.la (by omega)), ⟨fun p hp => ?_, fun j hj => ?_, fun j hj => ?_, s4, s5, s6⟩, rfl⟩
    · rintro S1 ⟨m1, m2, m3⟩
      have ep : S1.1 0 12 = nI P.1 := (m1.1 0 12 (Or.inr rfl)).trans q3
      repeat refine ws_s rfl ?_
      refine wp_ite (fun hq => ?_) (fun hq => absurd (by show S1.1 0 12 ≤ nI P.1; rw [ep]; exact nI_le (Nat.le_refl _) (by omega)) hq)
      refine wp_rv rfl rfl ?_
      rw [← hpost]
      exact ⟨S1, rfl, m1, m2, m3, rfl⟩
    · intro p S1 hp ⟨m1, m2, m3⟩ kp
      have ep : S1.1 0 12 = nI P.1 := (m1.1 0 12 (Or.inr rfl)).trans q3
      have e3 : nI 9 * nI bb + nI p = nI (9 * bb + p) := by rw [pk_mul, nI_add]
      have c3 : (nI (9 * bb + p)).toNatClampNeg = 9 * bb + p := nI_clamp (by omega)
      have g3 : vp_in (nI 9 * nI bb + nI p) 18 := by rw [e3]; exact vp_in_nI (by omega) (by decide)
      have E3 : S1.2.2.2.1 26 (9 * bb + p) = s.1 p := by
        have := m2.1 p (by omega)
        dsimp only at this
        rw [if_neg (by omega)] at this
        exact this
      have K115 : ∀ v : Int32, v = (if s.1 p = nI hh then -(nI 3) else s.1 p) → wp G 1 M_X12_spends fr n0 post 115 [some (.ref 0), some (.int (nI bb)), some (.int (nI hh)), some (.int (nI p))] [.int v, .int (nI (9 * bb + p)), .ref 26] (hM S1 tl) := by
        intro v hv
        refine ws_g rfl (by rw [← e3]; exact g3) ?_
        rw [c3]
        repeat refine ws_s rfl ?_
        refine ws_b rfl ?_
        refine wp_eqL (by rw [← nI_add p 1]; rfl) (kp (sA S1 26 (9 * bb + p) v) ⟨m1.tr (mB.ho rfl (by omega)), ⟨fun j hj => ?_, m2.2.1, m2.2.2.1, m2.2.2.2.1, m2.2.2.2.2.1, m2.2.2.2.2.2⟩, m3⟩)
        show upd (S1.2.2.2.1 26) (9 * bb + p) v (9 * bb + j) = (if j < p + 1 ∧ s.1 j = nI hh then -(nI 3) else s.1 j)
        unfold upd
        by_cases z1 : j = p
        · subst z1
          rw [if_pos rfl, hv]
          by_cases z2 : s.1 j = nI hh
          · rw [if_pos z2, if_pos ⟨by omega, z2⟩]
          · rw [if_neg z2, if_neg (fun z => z2 z.2)]
        · rw [if_neg (by omega)]
          have h5 := m2.1 j hj
          dsimp only at h5
          rw [show S1.2.2.2.1 26 (9 * bb + j) = _ from h5]
          by_cases z2 : s.1 j = nI hh
          · by_cases z3 : j < p
            · rw [if_pos ⟨z3, z2⟩, if_pos ⟨by omega, z2⟩]
            · rw [if_neg (fun z => z3 z.1), if_neg (fun z => by omega)]
          · rw [if_neg (fun z => z2 z.2), if_neg (fun z => z2 z.2)]
      repeat refine ws_s rfl ?_
      refine wp_ite (fun hq => absurd hq (by show ¬ S1.1 0 12 ≤ nI p; rw [ep]; exact nI_ge (by omega) (by omega))) (fun hq => ?_)
      repeat refine ws_s rfl ?_
      refine ws_g rfl g3 ?_
      rw [e3, c3, E3]
      iterate 2 refine ws_s rfl ?_
      refine wp_ite (fun hq2 => ?_) (fun hq2 => ?_)
      · iterate 2 refine ws_s rfl ?_
        exact K115 _ (by rw [if_pos hq2]; rfl)
      · repeat refine ws_s rfl ?_
        refine ws_g rfl g3 ?_
        rw [e3, c3, E3]
        exact K115 _ (by rw [if_neg hq2])
    · show S.2.2.2.1 26 (9 * bb + p) = (if p < 0 ∧ s.1 p = nI hh then -(nI 3) else s.1 p)
      rw [if_neg (fun z => by omega)]
      exact s1 p hp
    · show upd (S.2.2.2.1 27) (5 * bb + hh) (nI (min 99999 (s.2.1 hh + d9))) (5 * bb + j) = nI (if j = hh then min 99999 (s.2.1 hh + d9) else s.2.1 j) ∧ (if j = hh then min 99999 (s.2.1 hh + d9) else s.2.1 j) ≤ 99999
      unfold upd
      by_cases z1 : j = hh
      · rw [if_pos z1, if_pos (by omega)]
        exact ⟨rfl, Nat.min_le_left _ _⟩
      · rw [if_neg z1, if_neg (by omega)]
        exact s2 j hj
    · show upd (S.2.2.2.1 28) (5 * bb + hh) (nI (s.2.2.1 hh + 1)) (5 * bb + j) = nI (if j = hh then s.2.2.1 hh + 1 else s.2.2.1 j)
      unfold upd
      by_cases z1 : j = hh
      · rw [if_pos z1, if_pos (by omega)]
      · rw [if_neg z1, if_neg (by omega)]
        exact s3 j hj
  repeat refine ws_s rfl ?_
  refine ws_g rfl gd ?_
  rw [e1, c1, E1]
  iterate 5 refine ws_s rfl ?_
  rw [show S.1 0 69 = nI d9 from hd, nI_add]
  refine wp_ite (fun hq => ?_) (fun hq => ?_)
  · have hle : s.2.1 hh + d9 ≤ 99999 := (nI_leI (by omega) (by decide)).mp (show nI (s.2.1 hh + d9) ≤ nI 99999 from hq)
    repeat refine ws_s rfl ?_
    refine ws_g rfl gd ?_
    rw [e1, c1, E1]
    repeat refine ws_s rfl ?_
    rw [show S.1 0 69 = nI d9 from hd, nI_add]
    exact K49 _ (by rw [Nat.min_eq_right hle])
  · have hle : ¬ s.2.1 hh + d9 ≤ 99999 := fun z => hq (show nI (s.2.1 hh + d9) ≤ nI 99999 from (nI_leI (by omega) (by decide)).mpr z)
    iterate 2 refine ws_s rfl ?_
    exact K49 _ (by rw [Nat.min_eq_left (by omega)]; rfl)
