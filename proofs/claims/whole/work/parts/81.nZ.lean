/-! ===== the reference: the sum of a law ===== -/
theorem leafS_j {b : Nat → Nat} {n i j : Nat} {u u' : tSU} (h : leafS b n u i = .ok (u', j)) : j = tkN b n i ∧ ¬ tkK b n i = 0 := by
  constructor
  · unfold leafS at h
    repeat' split at h
    all_goals first | (cases h; rfl) | cases h
  · intro z
    simp [leafS, isTk, z] at h
theorem signS_j {b : Nat → Nat} {n i j : Nat} {u u' : tSU} (h : signS b n u i = .ok (u', j)) : j = tkN b n i ∧ ¬ tkK b n i = 0 := by
  constructor
  · unfold signS at h
    repeat' split at h
    all_goals first | (cases h; rfl) | cases h
  · intro z
    simp [signS, sgK, isTk, z] at h
theorem ixF_one {kn : Nat → Nat × Nat} : ∀ {m : Nat}, (ixF kn m).length = 1 → 0 < m ∧ ixF kn m = [m - 1]
  | 0, h => by cases h
  | m + 1, h => by
    refine ⟨Nat.succ_pos m, ?_⟩
    have h : (stI (ixF kn m) (kn m).1 m).length = 1 := h
    show stI (ixF kn m) (kn m).1 m = [m]
    unfold stI at h ⊢
    split
    · rename_i q
      rw [if_pos q] at h
      rw [List.length_eq_zero_iff.mp (Nat.succ.inj h)]
    · rename_i q
      rw [if_neg q] at h
      split
      · rename_i q2
        rw [if_pos q2] at h
        rw [List.length_eq_zero_iff.mp (Nat.succ.inj h)]
      · rename_i q2
        rw [if_neg q2] at h
        rw [List.length_eq_zero_iff.mp (Nat.succ.inj h)]
theorem c_sumRead (G : ab_G) (fr : Bool) (S : ms_S) (tl : ab_H) (b : Nat → Nat) (n f i0 : Nat) (hf : f ≤ 64) (h21 : S.1 0 21 = nI f) (h46 : S.1 0 46 = nI f) (hc : mCu S b n i0) (K : Int32 → ms_S → Prop)
    (kE : ∀ X fl p, sumS b n 701 (u0 f) i0 = .error (fl, p) → mSe S f fl p X → K (nI 0) X)
    (kO : ∀ X q j, sumS b n 701 (u0 f) i0 = .ok (q, j) → mSg fX f S X → X.1 0 21 = nI (f + q.1) → X.1 0 46 = nI (f + q.1) → mCu X b n j → knR X f q.1 q.2 → 0 < q.1 → f + q.1 ≤ 64 → ixF q.2 q.1 = [q.1 - 1] → K (nI 1) X) : ctI G 4 M_X12_sumRead fr [.ref 0] lM S tl K := by
  refine m_X12_sumRead (fun n0 => ?_)
  have hn7 := hc.1.1
  have init : mSm S b n f (u0 f) i0 (sV (sV (sV (sV (sV S 43 (nI 0)) 44 (nI 0)) 45 (nI 0)) 47 (nI 1)) 48 (nI 1)) := by
    refine ⟨(((((mSg.sV rfl)).tr (mSg.sV rfl)).tr (mSg.sV rfl)).tr (mSg.sV rfl)).tr (mSg.sV rfl), ⟨h21, rfl, trivial, rfl, trivial, fun j hj => absurd hj (Nat.not_lt_zero _)⟩, rfl, h46, rfl, rfl, mCu_F hc (fun k z1 z2 => ((((u2_ne (Or.inr (by omega))).trans (u2_ne (Or.inr (by omega)))).trans (u2_ne (Or.inr (by omega)))).trans (u2_ne (Or.inr (by omega)))).trans (u2_ne (Or.inr (by omega)))) rfl rfl, ⟨hf, rfl, rfl, Nat.zero_le _, fun k hk => (nomatch hk), rfl⟩⟩
  suffices KL : ∀ (F : Nat) (u : tSU) (i : Nat) (X : ms_S), n - i < F → mSm S b n f u i X → sumS b n F u i = sumS b n 701 (u0 f) i0 → L_X12_sumRead_25 G fr n0 tl K X from KL 701 (u0 f) i0 _ (by omega) init rfl
  intro F
  induction F with
  | zero => intro u i X hF; exact absurd hF (Nat.not_lt_zero _)
  | succ F ih =>
    intro u i X hF hm he
    obtain ⟨g1, g2, g3, g4, g5, g6, g7, i1, i2, i3, i4, i5, i6⟩ := id hm
    obtain ⟨b1, b2, b3, b4, b5, b6⟩ := mCu_b g7
    have hlen := len_C u.2.1
    have hbn := bn_le u.2.1
    have hU : sumS b n (F + 1) u i = if (isTk b n i 4 59 && (!u.2.2.2.2.1 && decide (u.2.2.1 = 0))) = true then .ok ((bdW 1 u.2.1 u.1).1, i) else bE (if u.2.2.2.2.1 = true then leafS b n u i else signS b n u i) (fun r => sumS b n F r.1 r.2) := rfl
    have K48 : (isTk b n i 4 59 && (!u.2.2.2.2.1 && decide (u.2.2.1 = 0))) = false → L_X12_sumRead_48 G fr n0 tl K X := by
      intro hN
      rw [hN, if_neg (by decide)] at hU
      refine b_X12_sumRead_48 ?_
      rw [show X.1 0 47 = bI u.2.2.2.2.1 from g5, x_b0]
      refine ⟨fun q => ?_, fun q => ?_⟩
      · rw [if_neg (by rw [q]; decide)] at hU
        refine c_signs G fr S X tl b n f u i hm q _ (fun Y fl p hx hy => ⟨fun _ => b_X12_sumRead_72 (kE Y fl p (by rw [← he, hU, hx]; rfl) hy), fun z => absurd rfl z⟩) (fun Y u' j hx hy => ⟨fun z => absurd z (by decide), fun _ => ih u' j Y ?_ hy (by rw [← he, hU, hx]; rfl)⟩)
        obtain ⟨z1, z2⟩ := signS_j hx
        have := b6 z2
        omega
      · rw [if_pos (nf_t q)] at hU
        refine c_leafRead G fr S X tl b n f u i hm (nf_t q) _ (fun Y fl p hx hy => ⟨fun _ => b_X12_sumRead_72 (kE Y fl p (by rw [← he, hU, hx]; rfl) hy), fun z => absurd rfl z⟩) (fun Y u' j hx hy => ⟨fun z => absurd z (by decide), fun _ => ih u' j Y ?_ hy (by rw [← he, hU, hx]; rfl)⟩)
        obtain ⟨z1, z2⟩ := leafS_j hx
        have := b6 z2
        omega
    refine b_X12_sumRead_25 (u_isSign G fr X tl b n i 59 g7 (by decide) _ ?_)
    rw [x_b0]
    refine ⟨fun q => K48 (by rw [q]; rfl), fun q => ?_⟩
    rw [show X.1 0 47 = bI u.2.2.2.2.1 from g5, x_b0]
    refine ⟨fun q2 => ?_, fun q2 => K48 (by rw [nf_t q2]; simp)⟩
    rw [g3, x_le0 (by omega)]
    refine ⟨fun q3 => ?_, fun q3 => K48 (by rw [decide_eq_false q3]; simp)⟩
    rw [if_neg (by rw [q2]; decide)] at i6
    rw [if_pos (by rw [nf_t q, q2, decide_eq_true q3]; rfl)] at hU
    refine c_bind G fr X tl f 1 u.1 u.2.1 (by decide) (by decide) g2 i5 (by omega) (by omega) (by omega) _ (fun Y y1 y2 y3 y4 y5 => ?_)
    have hbd : (bdW 1 u.2.1 u.1).1.1 + nzC (bdW 1 u.2.1 u.1).2 = u.1.1 + nzC u.2.1 := by
      rcases bn_bd (ls := 1) (W := u.2.1) (q := u.1) with e | e
      · exact e
      · omega
    have hhd := hd_bd (ls := 1) (W := u.2.1) (q := u.1)
    generalize hB : bdW 1 u.2.1 u.1 = B at y2 y3 y4 y5 hbd hhd hU
    have hB2 : B.2 = [] := by
      rcases hhd with hhd | ⟨k2, r2, hB2, hk2⟩
      · exact hhd
      · exfalso
        rw [hB2] at y3 y5
        obtain ⟨h14, h1⟩ := y3 k2 List.mem_cons_self
        have hk0 := rk_0 hk2 h14 h1
        subst hk0
        have y5 : 1 + zrC r2 = zrC u.2.1 := y5
        omega
    rw [hB2] at hbd y4
    have hbd : B.1.1 + 0 = u.1.1 + nzC u.2.1 := hbd
    obtain ⟨x1, x2⟩ := ixF_one y4
    exact kO Y B.1 i (by rw [← he, hU]) (g1.tr (y1.mono fBX)) y2.1 ((y1.1 46 rfl).trans (g4.trans (by rw [show u.2.2.2.1 = f + B.1.1 by omega]))) (mCu_Bd y1 g7) y2.2.2.2.2.2 x1 (by omega) x2

