/-! ===== the reference: text ===== -/
theorem bI_a1 (b : Bool) : bI b &&& 1 = bI b := by cases b <;> rfl
def evW : Option tDQ → (Nat → Int64) → Option Int64
  | some q => evQ q
  | none => fun _ => none
def gNew (g : tSG) (D : tDR) : tSG :=
  (((D.1.1, D.2.1.1, D.1.2.2.1, D.1.2.2.2.1, D.1.2.2.2.2, (fun w => ((lwD D).2 w).isSome), fun w => evW ((lwD D).2 w)),
    (D.2.2.1.1, D.2.2.1.2.1, D.2.2.1.2.2.1, D.2.2.1.2.2.2, D.2.2.2.1.1, D.2.2.2.1.2.1, D.2.2.2.1.2.2),
    D.2.2.2.2.1.1.getD 2, s0K D.2.1.2.2, D.2.2.2.2.1.2.getD 0),
   (0, g.2.1.2), none, (0, -(nI 1), g.2.2.2.1.2.2), (D.1.2.1, D.2.1.2.1, D.2.2.2.2.1.2.getD 0, D.2.1.2.2, (lwD D).1), (0, (tpG g).2.1, nI 0, -(nI 1)))
set_option maxHeartbeats 1000000 in
theorem u_keep (G : ab_G) (fr : Bool) (S : ms_S) (tl : ab_H) (D : tDR) (g : tSG) (hz : m_tapeSize S = nI 0 ∧ m_thrown S = nI 0 ∧ m_fault S = nI 0 ∧ m_faultPlace S = -(nI 1)) (hw : mWd S) (hD : mDr S D) (K : ms_S → Prop) (c : ∀ Z, qE (gNew g D) Z → K Z) : ctU G 3 M_X12_keepText fr [.ref 0] lM S tl K := by
  refine m_X12_keepText (fun n0 => ?_)
  generalize hS1 : sV (sV (sV (sV (sV S 12 (S.1 0 17)) 13 (S.1 0 18)) 14 (S.1 0 19)) 15 (S.1 0 20)) 16 (S.1 0 21) = S1
  have f12 : S1.1 0 12 = S.1 0 17 := by rw [← hS1]; rfl
  have f13 : S1.1 0 13 = S.1 0 18 := by rw [← hS1]; rfl
  have f14 : S1.1 0 14 = S.1 0 19 := by rw [← hS1]; rfl
  have f15 : S1.1 0 15 = S.1 0 20 := by rw [← hS1]; rfl
  have f16 : S1.1 0 16 = S.1 0 21 := by rw [← hS1]; rfl
  have f1 : S1.1 0 1 = S.1 0 1 := by rw [← hS1]; rfl
  have f2 : S1.1 0 2 = S.1 0 2 := by rw [← hS1]; rfl
  have f4 : S1.1 0 4 = S.1 0 4 := by rw [← hS1]; rfl
  have f5 : S1.1 0 5 = S.1 0 5 := by rw [← hS1]; rfl
  have ao : S1.2.2.2.1 = S.2.2.2.1 := by rw [← hS1]
  clear hS1
  obtain ⟨d1, d2, d3, d4, d5, d6⟩ := hD
  refine u_cp4 G fr S1 S1 tl cpd.z _ (fun X4 h4 => ?_)
  refine u_cp5 G fr S1 X4 tl h4 _ (fun X5 h5 => ?_)
  refine u_cp6 G fr S1 X5 tl h5 _ (fun X6 h6 => ?_)
  refine u_cp7 G fr S1 X6 tl h6 _ (fun X7 h7 => ?_)
  refine u_cp8 G fr S1 X7 tl h7 _ (fun X8 h8 => ?_)
  refine u_cp9 G fr S1 X8 tl h8 _ (fun X9 h9 => ?_)
  refine u_cp10 G fr S1 X9 tl h9 _ (fun X10 h10 => ?_)
  refine u_cp11 G fr S1 X10 tl h10 _ (fun X11 h11 => ?_)
  refine u_cp12 G fr S1 X11 tl h11 _ (fun X12 h12 => ?_)
  refine u_cp13 G fr S1 X12 tl h12 _ (fun X13 h13 => ?_)
  refine u_cp14 G fr S1 X13 tl h13 _ (fun X14 h14 => ?_)
  refine u_cp15 G fr S1 X14 tl h14 _ (fun X15 h15 => ?_)
  have KB : ∀ X21, cpd S1 22 X21 → ctU G 2 M_X12_begin fr [.ref 0] lM X21 tl (fun S6 => K S6) := by
    intro X21 h21
    obtain ⟨y1, y2, y3⟩ := h21
    rw [ao] at y3
    have lo : ∀ a i, 4 ≤ a → a < 22 → i < loB a → X21.2.2.2.1 a i = S.2.2.2.1 a (loB a + i) := by
      intro a i q1 q2 q3
      rw [y3 a, if_pos ⟨q1, q2⟩]
      exact if_pos q3
    have yf : ∀ k, X21.1 0 k = S1.1 0 k := fun k => congrFun (congrFun y1 0) k
    obtain ⟨e1, e2, e3⟩ := id d1
    obtain ⟨e4, e5, e6, e7⟩ := id d2
    obtain ⟨e8, e9, e10⟩ := id d3
    obtain ⟨e11, e12, e13⟩ := id d4
    obtain ⟨o1, o2, o3, o4, o5, o6, o7⟩ := id d5
    obtain ⟨l1, l2, l3, l4⟩ := id d6
    refine m_X12_begin (fun n1 => (c_atFirst G fr (sV X21 68 (nI 0)) tl 0 D.2.1.2.2 (by decide) (fun p hp => (lo 9 p (by decide) (by decide) hp).trans (e7 p hp).1)).mo (fun S' ⟨b1, b2, b3⟩ => ⟨(x_vp (by decide)).mpr (by decide), ctU.eq (c_plainTried G fr _ tl) (c _ ?_)⟩))
    rw [show (nI 1).toNatClampNeg = 1 from rfl]
    have bf : ∀ k, ¬ k = 68 → S'.1 0 k = S1.1 0 k := fun k hk => ((b1.1 0 k (Or.inr rfl)).trans (u2_ne (Or.inr hk))).trans (yf k)
    have ba : ∀ a, aQ a = false → S'.2.2.2.1 a = X21.2.2.2.1 a := fun a ha => b1.2.2.2.1 a rfl ha
    have bl : ∀ a i, aQ a = false → 4 ≤ a → a < 22 → i < loB a → S'.2.2.2.1 a i = S.2.2.2.1 a (loB a + i) := fun a i q0 q1 q2 q3 => (congrFun (ba a q0) i).trans (lo a i q1 q2 q3)
    have o6' : S'.2.2.2.1 4 1 = nI (D.2.2.2.2.1.2.getD 0) := (bl 4 1 rfl (by decide) (by decide) (by decide)).trans o6
    rw [o6', nI_l (by omega)]
    have hho : ∀ p, p < D.1.1 → D.2.1.2.2 p = -(nI 2) ∨ D.2.1.2.2 p = -(nI 3) ∨ ∃ h, h < D.2.1.1 ∧ D.2.1.2.2 p = nI h := fun p hp => (e7 p (by omega)).2.imp id Or.inr
    refine ⟨⟨⟨⟨e1, e4, ((bf 12 (by decide)).trans f12).trans e2, ((bf 13 (by decide)).trans f13).trans e5, fun p hp => ?_, fun w hw3 => ⟨(bl 16 w rfl (by decide) (by decide) hw3).trans (l4 w hw3).1, fun q => ?_⟩⟩, ⟨e8, e11, ((bf 14 (by decide)).trans f14).trans e9, ((bf 15 (by decide)).trans f15).trans e12, fun t ht => ?_, fun t ht => ?_⟩, (bl 4 0 rfl (by decide) (by decide) (by decide)).trans o3, o5, b3, hho, Nat.zero_le _, rfl, ?_, Or.inl (b1.1 0 68 (Or.inr rfl))⟩, ⟨Nat.zero_le _, rfl, fun k hk => absurd hk (Nat.not_lt_zero _)⟩, ⟨rfl, fun x hx => by cases hx⟩, ⟨Nat.zero_le _, rfl, rfl, Or.inl rfl, fun k hk => absurd hk (Nat.not_lt_zero _)⟩, ⟨fun p hp => ?_, fun p hp => ?_, o6', o7, fun p hp => ?_, hho, ((bf 16 (by decide)).trans f16).trans l2⟩, ⟨Nat.zero_le _, ((bf 1 (by decide)).trans f1).trans hz.1, fun k hk => absurd hk (Nat.not_lt_zero _), ((bf 4 (by decide)).trans f4).trans hz.2.2.1, ((bf 5 (by decide)).trans f5).trans hz.2.2.2⟩, fun i hi => ?_⟩, ((bf 2 (by decide)).trans f2).trans hz.2.1⟩
    · have hp : p < D.1.1 := hp
      obtain ⟨z1, z2, z3, z4, z5, z6, z7⟩ := e3 p hp
      exact ⟨(bl 6 p rfl (by decide) (by decide) (show p < 9 by omega)).trans z2, z3, (bl 7 p rfl (by decide) (by decide) (show p < 9 by omega)).trans z4, z5, (bl 8 p rfl (by decide) (by decide) (show p < 9 by omega)).trans z6, z7⟩
    · have q : ((lwD D).2 w).isSome = true := q
      obtain ⟨qq, hq⟩ := Option.isSome_iff_exists.mp q
      obtain ⟨f, z1, z2, z3, z4, z5, z6⟩ := (l4 w hw3).2 qq hq
      show lwE _ w (evW ((lwD D).2 w))
      rw [hq]
      refine lwE_of (q := qq) (f := f) ((bl 17 w rfl (by decide) (by decide) hw3).trans z1) ((bl 18 w rfl (by decide) (by decide) hw3).trans z2) z3 (by omega) (fun j hj => ?_) z6
      obtain ⟨g1, g2, g3, g4, g5, g6, g7⟩ := z5 j hj
      have c19 := bl 19 (f + j) rfl (by decide) (by decide) (show f + j < 64 by omega)
      have c20 := bl 20 (f + j) rfl (by decide) (by decide) (show f + j < 64 by omega)
      have c21 := bl 21 (f + j) rfl (by decide) (by decide) (show f + j < 64 by omega)
      refine ⟨c19.trans g1, g2, fun y => c20.trans (g3 y), g4, g5, fun y => ?_, fun y => ?_⟩
      · obtain ⟨a, r, w1, w2⟩ := g6 y
        exact ⟨a, r, w1, c20.trans w2⟩
      · obtain ⟨cc, a, r, w1, w2, w3⟩ := g7 y
        exact ⟨cc, a, r, w1, c20.trans w2, c21.trans w3⟩
    · have ht : t < D.2.2.1.1 := ht
      obtain ⟨z1, z2, z3, z4, z5, z6⟩ := e10 t ht
      exact ⟨(bl 11 t rfl (by decide) (by decide) (show t < 8 by omega)).trans z1, z2, (bl 12 t rfl (by decide) (by decide) (show t < 8 by omega)).trans z3, z4, (bl 13 t rfl (by decide) (by decide) (show t < 8 by omega)).trans z5, z6⟩
    · have ht : t < D.2.2.2.1.1 := ht
      obtain ⟨z1, z2, z3, z4⟩ := e13 t ht
      exact ⟨(bl 14 t rfl (by decide) (by decide) (show t < 10 by omega)).trans z1, z2, (bl 15 t rfl (by decide) (by decide) (show t < 10 by omega)).trans z3, z4⟩
    · show D.2.2.2.2.1.2.getD 0 < 2 ^ 31
      omega
    · have hp : p < D.1.1 := hp
      exact (bl 5 p rfl (by decide) (by decide) (show p < 9 by omega)).trans (e3 p hp).1
    · have hp : p < D.2.1.1 := hp
      exact (bl 10 p rfl (by decide) (by decide) (show p < 5 by omega)).trans (e6 p hp)
    · exact (bl 9 p rfl (by decide) (by decide) hp).trans (e7 p hp).1
    · refine ((congrFun (ba 2 rfl) i).trans (congrFun (y3 2) i)).trans ?_
      rw [if_neg (by decide)]
      exact hw i hi
  suffices KL : ∀ r j (Y : ms_S), j + r = 3 → cpL 3 16 X15 j Y → L_X12_keepText_148 G fr n0 tl K Y (nI j) from KL 3 0 X15 rfl cpL.z
  intro r
  induction r with
  | zero =>
    intro j Y hj hy
    refine b_X12_keepText_148 ?_
    rw [nI_leI (by decide) (by omega)]
    have hj : j = 3 := hj
    subst hj
    refine ⟨fun _ => ?_, fun z => absurd (Nat.le_refl _) z⟩
    have h16 : cpd S1 17 Y := h15.s (by decide) hy
    exact u_cp17 G fr S1 Y tl h16 _ (fun X17 h17 => u_cp18 G fr S1 X17 tl h17 _ (fun X18 h18 => u_cp19 G fr S1 X18 tl h18 _ (fun X19 h19 => u_cp20 G fr S1 X19 tl h19 _ (fun X20 h20 => u_cp21 G fr S1 X20 tl h20 _ (fun X21 h21 => KB X21 h21)))))
  | succ r ih =>
    intro j Y hj hy
    have e : Y.2.2.2.1 16 (3 + j) &&& 1 = Y.2.2.2.1 16 (3 + j) := by
      have e1 : Y.2.2.2.1 16 (3 + j) = S.2.2.2.1 16 (3 + j) := by
        rw [hy.2.2.2]
        show (if 3 + j < j then _ else _) = _
        rw [if_neg (by omega), h15.2.2 16, if_neg (by decide), ao]
      rw [e1, (d6.2.2.2 j (by omega)).1]
      exact bI_a1 _
    refine b_X12_keepText_148 ?_
    rw [nI_leI (by decide) (by omega), nI_add, nI_clamp (by omega), nI_clamp (by omega), nI_add, e]
    exact ⟨fun z => absurd z (by omega), fun _ => ⟨(x_vp (by omega)).mpr (by omega), (x_vp (by omega)).mpr (by omega), ih (j + 1) _ (by omega) hy.s⟩⟩
def pAll (b : Nat → Nat) (n : Nat) : Nat → tDR → Nat → Nat → Except (Nat × Nat) (tDR × Nat)
  | 0, _, _, _ => .error (0, 0)
  | f + 1, D, i, l => if tkK b n i = 0 then .ok (D, l) else bE (pLine b n D i) (fun r => pAll b n f r.1 r.2 (l + 1))
abbrev txR (g : tSG) (x : Int32) : Except (Nat × Nat) (tDR × Nat) := pAll (tpG g).2.1 (cl x) 701 D0 0 0
def txB (g : tSG) (x : Int32) : Bool := decide (¬ x < 0 ∧ x ≤ nI (tpG g).1)
def N_text (g : tSG) (x : Int32) : tSG := if txB g x = true then (match txR g x with | .error e => (g.1, g.2.1, g.2.2.1, g.2.2.2.1, g.2.2.2.2.1, (0, (tpG g).2.1, nI e.1, nI e.2)) | .ok r => gNew g r.1) else g
def A_text (g : tSG) (x : Int32) : Int32 := if txB g x = true then (match txR g x with | .error _ => -(nI 1) | .ok r => nI r.2) else -(nI 2)
theorem c_text (G : ab_G) (fr : Bool) (S : ms_S) (tl : ab_H) (g : tSG) (hI : mI S g) (x : Int32) :
    ctI G 6 M_X12_text fr [.ref 0, .int x] lM S tl (fun v S' => qE (N_text g x) S' ∧ v = A_text g x) := by
  refine ctI.ab (fun K hK => m_X12_text (fun n0 => ?_))
  have q0 := qE_0 hI
  obtain ⟨t1, t2, t3, t4, t5⟩ := id hI.2.2.2.2.2.1
  have hwd := hI.2.2.2.2.2.2
  have e1 : S.1 0 1 = nI (tpG g).1 := t2
  have t1 : (tpG g).1 ≤ 700 := t1
  rw [e1]
  refine ⟨fun z => hK _ _ ?_, fun z => ⟨fun z2 => ?_, fun z2 => hK _ _ ?_⟩⟩
  · have hB : ¬ txB g x = true := by
      unfold txB
      rw [decide_eq_true_eq]
      exact fun q => q.1 z
    unfold N_text A_text
    rw [if_neg hB, if_neg hB]
    exact ⟨q0, rfl⟩
  · have hB : txB g x = true := by
      unfold txB
      rw [decide_eq_true_eq]
      exact ⟨z, z2⟩
    unfold N_text A_text at hK
    rw [if_pos hB, if_pos hB] at hK
    obtain ⟨n, hn, hx⟩ := ix_t (n := (tpG g).1 + 1) (by omega) ⟨z, fun q => by
      have h1 := Int32.le_trans q z2
      rw [nI_leI (by omega) (by omega)] at h1
      omega⟩
    subst hx
    have hcl : cl (nI n) = n := nI_clamp (by omega)
    unfold txR at hK
    rw [hcl] at hK
    generalize hb : (tpG g).2.1 = b at *
    have hb256 : ∀ j, j < n → b j < 256 := fun j hj => (t3 j (by show j < (tpG g).1; omega)).2
    generalize hS1 : sV (sV (sV (sV (sV (sV S 2 (nI 0)) 6 (nI n)) 1 (nI 0)) 4 (nI 0)) 5 (-(nI 1))) 7 (nI 0) = S1
    have lo1 : mLo S S1 := by
      rw [← hS1]
      exact (((((mLo.sV rfl).tr (mLo.sV rfl)).tr (mLo.sV rfl)).tr (mLo.sV rfl)).tr (mLo.sV rfl)).tr (mLo.sV rfl)
    have g6 : S1.1 0 6 = nI n := by rw [← hS1]; rfl
    have g7 : S1.1 0 7 = nI 0 := by rw [← hS1]; rfl
    have g1 : S1.1 0 1 = nI 0 := by rw [← hS1]; rfl
    have g2 : S1.1 0 2 = nI 0 := by rw [← hS1]; rfl
    have g4 : S1.1 0 4 = nI 0 := by rw [← hS1]; rfl
    have g5 : S1.1 0 5 = -(nI 1) := by rw [← hS1]; rfl
    have ga : S1.2.2.2.1 = S.2.2.2.1 := by rw [← hS1]
    clear hS1
    refine u_plain G fr S1 tl _ (fun X x1 x2 x3 => ?_)
    have hTt : mTt X b n := by
      refine ⟨by omega, (x2.1 0 6 (Or.inr rfl)).trans g6, fun i hi => ?_, fun i hi => ?_⟩
      · rw [show a_tape X = S.2.2.2.1 1 from (x2.2.2.2.1 1 rfl).trans (congrFun ga 1)]
        exact t3 i (by show i < (tpG g).1; omega)
      · rw [show a_words X = S.2.2.2.1 2 from (x2.2.2.2.1 2 rfl).trans (congrFun ga 2)]
        exact hwd i hi
    refine c_token G fr X tl b n 0 hTt (Nat.zero_le _) ((x2.1 0 7 (Or.inr rfl)).trans g7) _ (fun Y y1 y2 => ?_)
    have hPz : mPz S b n D0 0 Y := by
      have yG : mE fG fN X Y := y1.KG
      refine ⟨(lo1.tr x1).tr yG.GQ.Lo, ⟨(y1.1 0 1 (Or.inr rfl)).trans ((x2.1 0 1 (Or.inr rfl)).trans g1), (y1.1 0 2 (Or.inr rfl)).trans ((x2.1 0 2 (Or.inr rfl)).trans g2), (y1.1 0 4 (Or.inr rfl)).trans ((x2.1 0 4 (Or.inr rfl)).trans g4), (y1.1 0 5 (Or.inr rfl)).trans ((x2.1 0 5 (Or.inr rfl)).trans g5)⟩, ⟨mTt_E y1 hTt, Nat.zero_le _, y2⟩, mDr_G yG rfl rfl rfl rfl rfl rfl x3⟩
    suffices KL : ∀ (F : Nat) (D : tDR) (i l : Nat) (Z : ms_S), n - i < F → mPz S b n D i Z → pAll b n F D i l = pAll b n 701 D0 0 0 → L_X12_text_55 G fr n0 tl K Z (nI l) from KL 701 D0 0 0 Y (by omega) hPz rfl
    intro F
    induction F with
    | zero => intro D i l Z hF; exact absurd hF (Nat.not_lt_zero _)
    | succ F ih =>
      intro D i l Z hF hZ he
      obtain ⟨w1, w2, w3, w4⟩ := id hZ
      obtain ⟨b1, b2, b3, b4, b5, b6⟩ := mCu_b w3
      have e8 : Z.1 0 8 = nI (tkK b n i) := w3.2.2.1
      have hU : pAll b n (F + 1) D i l = if tkK b n i = 0 then .ok (D, l) else bE (pLine b n D i) (fun r => pAll b n F r.1 r.2 (l + 1)) := rfl
      refine b_X12_text_55 ?_
      rw [e8, x_eq0 (by omega)]
      refine ⟨fun q => ?_, fun q => ?_⟩
      · rw [if_pos q] at hU
        rw [← he, hU] at hK
        exact u_keep G fr Z tl D g w2 w3.1.2.2.2 w4 _ (fun W hW => hK _ _ ⟨hW, rfl⟩)
      · rw [if_neg q] at hU
        refine c_lineRead G fr S Z tl b n i D hZ _ (fun W f p hx hy => ⟨fun _ => ?_, fun y => absurd rfl y⟩) (fun W D' j hx hy => ⟨fun y => absurd y (by decide), fun _ => ?_⟩)
        · rw [hx] at hU
          rw [← he, hU] at hK
          refine hK _ _ ⟨⟨mI_Lo (T := (0, b, nI f, nI p)) hy.1 hI ⟨Nat.zero_le _, hy.2.1, fun k hk => absurd hk (Nat.not_lt_zero _), hy.2.2.2.1, hy.2.2.2.2⟩, hy.2.2.1⟩, rfl⟩
        · rw [hx] at hU
          rw [nI_add]
          have hm := pLine_m hb256 (by omega) w3.2.1 hx
          have hm : i < j ∧ j ≤ n := hm
          exact ih D' j (l + 1) W (by omega) hy (by rw [← he, hU]; rfl)
  · have hB : ¬ txB g x = true := by
      unfold txB
      rw [decide_eq_true_eq]
      exact fun q => z2 q.2
    unfold N_text A_text
    rw [if_neg hB, if_neg hB]
    exact ⟨q0, rfl⟩

