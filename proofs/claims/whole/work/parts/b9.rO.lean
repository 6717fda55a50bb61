/-! ===== the program: a text read whole ===== -/
section READT
variable {G : ab_G} {tl : ab_H} {b : Nat → Nat} {n i : Nat} {S S0 : ms_S} {D : tDR}
theorem u_rLine (h : vPl S0 b n D i S) (K : Int32 → ms_S → Prop)
    (kE : ∀ S' e p', 1 ≤ e → e ≤ 5 → pLine b n D i = .error (e, p') → rG S0 S' → S'.1 1 6 = nI p' → K (nI e) S')
    (kN : ∀ S' j, pLine b n D i = .error (1, tkP b n j) → ¬ tT b n j = 34 → bTk (rsS e_TpB S') (tk b n j) → rG S0 S' → K (nI 0) S')
    (kO : ∀ S' D' j, pLine b n D i = .ok (D', tkN b n j) → tT b n j = 34 → vPl S0 b n D' j S' → K (nI 0) S') : ctI G 6 M_X8_readLine false [.ref 29] lB S tl K := by
  obtain ⟨a1, -⟩ := tk_qA b n i
  obtain ⟨-, -, c3, c4, -⟩ := tk_qC b n i
  have e5 : S.1 1 5 = nI (tT b n i) := h.2.1.2.1.1
  have kB : ∀ r, pBody b n D i = r → tkK b n i = 1 ∧ tkW b n i ≤ 7 → pLine b n D i = bE r (fun r => if isTk b n r.2 4 59 = true then .ok (r.1, tkN b n r.2) else .error (1, tkP b n r.2)) := by
    intro r hr hk
    unfold pLine
    rw [if_pos hk, hr]
  have kE' : tkK b n i = 1 ∧ tkW b n i ≤ 7 → ∀ S' e p', 1 ≤ e → e ≤ 5 → pBody b n D i = .error (e, p') → rG S0 S' → S'.1 1 6 = nI p' → K (nI e) S' := fun hk S' e p' h1 h2 h3 h4 h5 => kE S' e p' h1 h2 ((kB _ h3 hk).trans bE_er) h4 h5
  have kN' : tkK b n i = 1 ∧ tkW b n i ≤ 7 → ∀ S' j, pBody b n D i = .error (1, tkP b n j) → ¬ tT b n j = 34 → bTk (rsS e_TpB S') (tk b n j) → rG S0 S' → K (nI 0) S' := fun hk S' j h1 h2 h3 h4 => kN S' j ((kB _ h1 hk).trans bE_er) h2 h3 h4
  have kO' : tkK b n i = 1 ∧ tkW b n i ≤ 7 → ∀ S' D' j, pBody b n D i = .ok (D', j) → vPl S0 b n D' j S' → K (nI 0) S' := by
    intro hk S' D' j h1 h2
    have e := (kB _ h1 hk).trans bE_ok
    dsimp only at e
    rw [is_59] at e
    by_cases z : tT b n j = 34
    · rw [decide_eq_true z, if_pos rfl] at e
      exact kO S' D' j e z h2
    · rw [decide_eq_false z, if_neg Bool.false_ne_true] at e
      exact kN S' j e z h2.2.1.2.1 h2.1
  have hT : ∀ w, w ≤ 7 → tT b n i = 21 + w → (tkK b n i = 1 ∧ tkW b n i ≤ 7) ∧ tkW b n i = w := by
    intro w hw e
    obtain ⟨k1, k7⟩ := c3.mpr ⟨by omega, by omega⟩
    have := c4 k1 (by omega)
    exact ⟨⟨k1, k7⟩, by omega⟩
  refine m_X8_readLine (fun n0 => ?_)
  rw [e5]
  simp only [nI_eq (show tT b n i < 2 ^ 31 by omega) (show 21 < 2 ^ 31 by decide), nI_eq (show tT b n i < 2 ^ 31 by omega) (show 22 < 2 ^ 31 by decide), nI_eq (show tT b n i < 2 ^ 31 by omega) (show 23 < 2 ^ 31 by decide), nI_eq (show tT b n i < 2 ^ 31 by omega) (show 24 < 2 ^ 31 by decide), nI_eq (show tT b n i < 2 ^ 31 by omega) (show 25 < 2 ^ 31 by decide), nI_eq (show tT b n i < 2 ^ 31 by omega) (show 26 < 2 ^ 31 by decide), nI_eq (show tT b n i < 2 ^ 31 by omega) (show 27 < 2 ^ 31 by decide), nI_eq (show tT b n i < 2 ^ 31 by omega) (show 28 < 2 ^ 31 by decide)]
  refine ⟨fun z => ?_, fun z => ?_, fun z => ?_, fun z => ?_, fun z => ?_, fun z => ?_, fun z => ?_, fun z => ?_, fun x1 x2 x3 x4 x5 x6 x7 x8 => ?_⟩
  · obtain ⟨hk, hw⟩ := hT 0 (by decide) z
    have e : pBody b n D i = pPiece b n D i := by unfold pBody; rw [if_pos hw]
    rw [e] at kE' kO'
    exact u_rPiece h _ (kE' hk) (kO' hk)
  · obtain ⟨hk, hw⟩ := hT 1 (by decide) z
    have e : pBody b n D i = pHeir b n D i := by unfold pBody; rw [if_neg (by omega), if_pos hw]
    rw [e] at kE' kO'
    exact u_rHeir h _ (kE' hk) (kO' hk)
  · obtain ⟨hk, hw⟩ := hT 2 (by decide) z
    have e : pBody b n D i = pShare b n D i := by unfold pBody; rw [if_neg (by omega), if_neg (by omega), if_pos hw]
    rw [e] at kE' kO'
    exact u_rShare h _ (kE' hk) (kO' hk)
  · obtain ⟨hk, hw⟩ := hT 3 (by decide) z
    have e : pBody b n D i = pTrade b n D i := by unfold pBody; rw [if_neg (by omega), if_neg (by omega), if_neg (by omega), if_pos hw]
    rw [e] at kE' kO'
    exact u_rTrade h _ (kE' hk) (kO' hk)
  · obtain ⟨hk, hw⟩ := hT 4 (by decide) z
    have e : pBody b n D i = pDraw b n D i := by unfold pBody; rw [if_neg (by omega), if_neg (by omega), if_neg (by omega), if_neg (by omega), if_pos hw]
    rw [e] at kE' kO'
    exact u_rDraw h _ (kE' hk) (kO' hk)
  · obtain ⟨hk, hw⟩ := hT 5 (by decide) z
    have e : pBody b n D i = pOnce b n D 0 1 9 i := by unfold pBody; rw [if_neg (by omega), if_neg (by omega), if_neg (by omega), if_neg (by omega), if_neg (by omega), if_pos hw]
    rw [e] at kE' kO'
    exact u_rNeed h _ (kE' hk) (kO' hk)
  · obtain ⟨hk, hw⟩ := hT 6 (by decide) z
    have e : pBody b n D i = pOnce b n D 1 0 99999 i := by unfold pBody; rw [if_neg (by omega), if_neg (by omega), if_neg (by omega), if_neg (by omega), if_neg (by omega), if_neg (by omega), if_pos hw]
    rw [e] at kE' kO'
    exact u_rSeed h _ (kE' hk) (kO' hk)
  · obtain ⟨hk, hw⟩ := hT 7 (by decide) z
    have e : pBody b n D i = pLaw b n D i := by unfold pBody; rw [if_neg (by omega), if_neg (by omega), if_neg (by omega), if_neg (by omega), if_neg (by omega), if_neg (by omega), if_neg (by omega)]
    rw [e] at kE' kO' kN'
    exact u_rLaw h _ (kE' hk) (kN' hk) (kO' hk)
  · refine kE S 1 _ (by decide) (by decide) ?_ h.1 h.2.1.2.1.2.1
    unfold pLine
    rw [if_neg (fun w => by have := c3.mp w; omega)]
/-! the draft emptied -/
def aPlz : Nat → Bool := fun a => Nat.beq a 0 || Nat.beq a 6 || Nat.beq a 13 || Nat.beq a 17 || Nat.beq a 21
theorem u_fillS {T : ms_S} (K : ms_S → Prop) (k : ∀ T', cF aPlz T T' → T'.1 = T.1 → (∀ r, r < 5 → T'.2.2.2.1 6 r = nI 0) → K T') : ctU G 1 M_J7_fill false [.ref 6, .int (nI 0)] lPl T tl K := by
  refine m_J7_fillshr (fun n0 => ?_)
  suffices KL : ∀ t i (X : ms_S), i + t = 5 → cF aPlz T X → X.1 = T.1 → (∀ r, r < i → X.2.2.2.1 6 r = nI 0) → L_J7_fillshr_5 G false n0 tl K X (nI 0) (nI i) (nI 5) from KL 5 0 T (Nat.zero_add _) cF.rf rfl (fun r hr => absurd hr (Nat.not_lt_zero _))
  intro t
  induction t with
  | zero =>
    intro i X hi x1 x0 x2
    have hi : i = 5 := hi
    subst hi
    exact b_J7_fillshr_5 ⟨fun _ => k X x1 x0 x2, fun z => absurd (Int32.le_refl _) z⟩
  | succ t ih =>
    intro i X hi x1 x0 x2
    refine b_J7_fillshr_5 ?_
    rw [nI_leI (by decide) (by omega), show (nI i).toNatClampNeg = i from nI_clamp (by omega), nI_add]
    refine ⟨fun z => absurd z (by omega), fun _ => ⟨(x_vp (by omega)).mpr (by omega), ih (i + 1) _ (by omega) (x1.tr (cF.sA rfl)) x0 (fun r hr => ?_)⟩⟩
    show upd (X.2.2.2.1 6) i (nI 0) r = _
    by_cases e : r = i
    · rw [e, pk_us]
    · rw [pk_un e]
      exact x2 r (by omega)
theorem u_clearP {T : ms_S} (K : ms_S → Prop) (k : ∀ T', cF aPlz T T' → bDr T' D0 → K T') : ctU G 2 M_X7_clear false [.ref 0] lPl T tl K := by
  refine m_X7_clear (fun n0 => ?_)
  refine u_fillS (T := sV (sV (sV (sV (sV (sV T 12 (nI 0)) 13 (nI 0)) 14 (nI 0)) 15 (nI 0)) 16 (nI 0)) 17 (-(nI 1))) _ (fun T1 f1 e1 z1 => ?_)
  have f0 : cF aPlz T T1 := ((((((cF.sVa (a := 0) rfl).tr (cF.sVa (a := 0) rfl)).tr (cF.sVa (a := 0) rfl)).tr (cF.sVa (a := 0) rfl)).tr (cF.sVa (a := 0) rfl)).tr (cF.sVa (a := 0) rfl)).tr f1
  refine b_X7_clear_40 ?_
  refine ⟨fun q => absurd q (by decide), fun _ => ⟨(x_vp (by decide)).mpr (by decide), fun _ => m_X4_cleara (fun n1 => ?_), fun q => absurd q (by decide), fun q => absurd q (by decide)⟩⟩
  refine b_X7_clear_40 ?_
  refine ⟨fun q => absurd q (by decide), fun _ => ⟨(x_vp (by decide)).mpr (by decide), fun q => absurd q (by decide), fun _ => m_X4_clearb (fun n1 => ?_), fun q => absurd q (by decide)⟩⟩
  refine b_X7_clear_40 ?_
  refine ⟨fun q => absurd q (by decide), fun _ => ⟨(x_vp (by decide)).mpr (by decide), fun q => absurd q (by decide), fun q => absurd q (by decide), fun _ => m_X4_clearc (fun n1 => ?_)⟩⟩
  refine b_X7_clear_40 ⟨fun _ => ?_, fun q => absurd (by decide) q⟩
  refine k _ ((((((f0.tr (cF.sVa rfl)).tr (cF.sVa rfl)).tr (cF.sVa rfl)).tr (cF.sVa rfl)).tr (cF.sVa rfl)).tr (cF.sVa rfl)) ?_
  have g0 : ∀ j, T1.1 0 j = (sV (sV (sV (sV (sV (sV T 12 (nI 0)) 13 (nI 0)) 14 (nI 0)) 15 (nI 0)) 16 (nI 0)) 17 (-(nI 1))).1 0 j := fun j => by rw [e1]
  refine ⟨⟨by decide, (g0 12).trans rfl, fun p hp => absurd hp (Nat.not_lt_zero _)⟩, ⟨by decide, (g0 13).trans rfl, fun p hp => absurd hp (Nat.not_lt_zero _), fun h hh => z1 h hh, fun p _ => Or.inl rfl⟩, ⟨by decide, (g0 14).trans rfl, fun p hp => absurd hp (Nat.not_lt_zero _)⟩, ⟨by decide, (g0 15).trans rfl, fun p hp => absurd hp (Nat.not_lt_zero _)⟩, ⟨(g0 16).trans rfl, (fun v hv => by cases hv), (g0 17).trans rfl, (fun v hv => by cases hv)⟩, ⟨rfl, by decide, ⟨rfl, rfl⟩, ⟨rfl, rfl⟩, ⟨rfl, rfl⟩⟩⟩
/-! a text -/
def aRt : Nat → Bool := fun a => Nat.beq a 1 || (Nat.ble 29 a && Nat.ble a 60)
def rH (S X : ms_S) : Prop := (∀ a, aRt a = false → X.1 a = S.1 a ∧ X.2.1 a = S.2.1 a ∧ X.2.2.2.1 a = S.2.2.2.1 a ∧ X.2.2.2.2 a = S.2.2.2.2 a) ∧ X.1 1 2 = S.1 1 2
theorem rH.tr {S1 S2 S3 : ms_S} (h1 : rH S1 S2) (h2 : rH S2 S3) : rH S1 S3 := ⟨fun a q => ⟨(h2.1 a q).1.trans (h1.1 a q).1, (h2.1 a q).2.1.trans (h1.1 a q).2.1, (h2.1 a q).2.2.1.trans (h1.1 a q).2.2.1, (h2.1 a q).2.2.2.trans (h1.1 a q).2.2.2⟩, h2.2.trans h1.2⟩
theorem bl_f {a c : Nat} (h : ¬ a ≤ c) : Nat.ble a c = false := by
  cases z : Nat.ble a c with
  | false => rfl
  | true => exact absurd (Nat.le_of_ble_eq_true z) h
theorem rt_n (a : Nat) (h : aRt a = false) : ¬ a = 1 ∧ ¬ (29 ≤ a ∧ a ≤ 60) := by
  refine ⟨(fun z => by rw [z] at h; cases h), fun z => ?_⟩
  unfold aRt at h
  rw [Nat.ble_eq_true_of_le z.1, Nat.ble_eq_true_of_le z.2, Bool.and_true, Bool.or_true] at h
  cases h
theorem bt_f {a c d : Nat} (h : ¬ (c ≤ a ∧ a ≤ d)) : (Nat.ble c a && Nat.ble a d) = false := by
  by_cases z : c ≤ a
  · rw [bl_f (show ¬ a ≤ d by omega), Bool.and_false]
  · rw [bl_f z, Bool.false_and]
theorem rt_ln (a : Nat) (h : aRt a = false) : aLn a = false := by
  obtain ⟨h1, h2⟩ := rt_n a h
  unfold aLn
  rw [bq_ne h1, bt_f (by omega)]
  rfl
theorem rG.H {S X : ms_S} (h : rG S X) : rH S X := ⟨fun a q => h.1 a (rt_ln a q), h.2 2 (by decide)⟩
theorem u_readT (hn : n ≤ 700) (hb : ∀ j, j < n → S.2.2.2.1 2 j = nI (b j) ∧ b j < 256) (hl : ∀ k, k < 32 → S.2.2.2.1 3 k = nI (lgN k)) (K : Int32 → ms_S → Prop)
    (kE : ∀ S' e p', 1 ≤ e → e ≤ 5 → pAll b n 701 D0 0 0 = .error (e, p') → rH S S' → S'.1 1 6 = nI p' → K (nI e) S')
    (kO : ∀ S' D l, pAll b n 701 D0 0 0 = .ok (D, l) → rH S S' → bDr (rsS e_PlD S') D → S'.1 29 3 = nI l → l ≤ 700 → K (nI 0) S') : ctI G 7 M_X8_read false [.ref 29, .int (nI n)] lB S tl K := by
  have hb256 : ∀ j, j < n → b j < 256 := fun j hj => (hb j hj).2
  refine m_X8_read (fun n0 => ?_)
  refine ctU.tr e_PlD e_PlD_i e_PlD_n (as' := [.ref 0]) rfl (fun G' => u_clearP (G := G') (T := rsS e_PlD S) _ (fun T f1 d1 => ?_))
  have g1 : cF (fun a => Nat.ble 30 a && Nat.ble a 54) S (mgS e_PlD S T) := mg_cF f1 (by decide)
  have dS : bDr (rsS e_PlD (mgS e_PlD S T)) D0 := by
    have q := rs_cF e_PlD_n (S := S) (T := T) f1.2.2.2.2
    obtain ⟨h1, h2, h3, h4, h5, h6⟩ := d1
    have q0 := q.1 0 rfl
    have qa : ∀ a, a < 25 → (rsS e_PlD (mgS e_PlD S T)).2.2.2.1 a = T.2.2.2.1 a := fun a ha => rs_mg e_PlD_n (V := S.2.2.2.1) (T := T.2.2.2.1) ha
    have qf : ∀ a, a < 25 → (rsS e_PlD (mgS e_PlD S T)).1 a = T.1 a := fun a ha => rs_mg e_PlD_n (V := S.1) (T := T.1) ha
    exact ⟨bD1_F h1 (congrFun q0 12) (fun a _ _ => qa a (by omega)), bD2_F h2 (congrFun q0 13) (qa 5 (by decide)) (qa 6 (by decide)), bD3_F h3 (congrFun q0 14) (qa 7 (by decide)) (qa 8 (by decide)) (qa 9 (by decide)), bD4_F h4 (congrFun q0 15) (qa 10 (by decide)) (qa 11 (by decide)), bD5_F h5 (congrFun q0 16) (congrFun q0 17), bD6_F h6 (fun a _ h => qf a h) (fun a _ h => qa a h)⟩
  generalize mgS e_PlD S T = S1 at g1 dS
  refine m_X10_rewindB (fun n1 => ?_)
  rw [if_neg (fun w => absurd ((nI_ltI (by decide) (by omega)).mp w) (by omega))]
  generalize hS2 : sVa (sVa (sVa (sVa (sVa S1 29 3 (nI 0)) 1 3 (nI n)) 1 4 (nI 0)) 1 5 (nI 38)) 1 6 (nI 0) = S2
  have e2 : S2.2 = S1.2 := by rw [← hS2]
  have eF : ∀ a, ¬ a = 1 → ¬ a = 29 → S2.1 a = S1.1 a := by
    intro a h1 h2
    rw [← hS2]
    show u2 (u2 (u2 (u2 (u2 S1.1 29 3 _) 1 3 _) 1 4 _) 1 5 _) 1 6 _ a = _
    rw [u2_o h1, u2_o h1, u2_o h1, u2_o h1, u2_o h2]
  have e12 : S2.1 1 2 = S1.1 1 2 := by rw [← hS2]; rfl
  have e13 : S2.1 1 3 = nI n := by rw [← hS2]; rfl
  have e14 : S2.1 1 4 = nI 0 := by rw [← hS2]; rfl
  have e29 : S2.1 29 3 = nI 0 := by rw [← hS2]; rfl
  clear hS2
  have x2 : S2.2.2.2.1 2 = S.2.2.2.1 2 := by rw [e2]; exact g1.2.2.1 2 rfl
  have x3 : S2.2.2.2.1 3 = S.2.2.2.1 3 := by rw [e2]; exact g1.2.2.1 3 rfl
  have hT2 : bTx (rsS e_TpB S2) b n := ⟨hn, e13, fun j hj => ⟨(congrFun x2 j).trans (hb j hj).1, (hb j hj).2⟩, fun k hk => (congrFun x3 k).trans (hl k hk)⟩
  have rH2 : rH S S2 := by
    refine ⟨fun a q => ?_, e12.trans (congrFun (g1.1 1 rfl) 2)⟩
    have n1 : ¬ a = 1 := fun z => by rw [z] at q; cases q
    have n29 : ¬ a = 29 := fun z => by rw [z] at q; cases q
    have qa : (fun a => Nat.ble 30 a && Nat.ble a 54) a = false := bt_f (by have := (rt_n a q).2; omega)
    rw [eF a n1 n29, e2]
    exact ⟨g1.1 a qa, g1.2.1 a qa, g1.2.2.1 a qa, g1.2.2.2.1 a qa⟩
  have dS2 : bDr (rsS e_PlD S2) D0 := by
    obtain ⟨h1, h2, h3, h4, h5, h6⟩ := dS
    have qf : ∀ a, a < 25 → (rsS e_PlD S2).1 a = (rsS e_PlD S1).1 a := by
      intro a ha
      show S2.1 (e_PlD.getD a 0) = S1.1 (e_PlD.getD a 0)
      rw [ePl_g a ha]
      exact eF _ (by omega) (by omega)
    have qa : ∀ a, (rsS e_PlD S2).2.2.2.1 a = (rsS e_PlD S1).2.2.2.1 a := by
      intro a
      show S2.2.2.2.1 _ = S1.2.2.2.1 _
      rw [e2]
    have q0 := qf 0 (by decide)
    exact ⟨bD1_F h1 (congrFun q0 12) (fun a _ _ => qa a), bD2_F h2 (congrFun q0 13) (qa 5) (qa 6), bD3_F h3 (congrFun q0 14) (qa 7) (qa 8) (qa 9), bD4_F h4 (congrFun q0 15) (qa 10) (qa 11), bD5_F h5 (congrFun q0 16) (congrFun q0 17), bD6_F h6 (fun a _ h => qf a h) (fun a _ h => qa a)⟩
  refine u_advB G hT2 (Nat.zero_le _) e14 _ (fun S3 t3 x3 k3 => ?_)
  suffices KL : ∀ t l i (D : tDR) (X : ms_S), l + t = 701 → l ≤ i → rH S X → atT X b n i → bDr (rsS e_PlD X) D → X.1 29 3 = nI l → pAll b n t D i l = pAll b n 701 D0 0 0 → L_X8_read_27 G false n0 tl K X from KL 701 0 0 D0 S3 rfl (Nat.le_refl _) (rH2.tr (rG.tp t3).H) ⟨x3, k3, Nat.zero_le _, (tk_b hb256 (Nat.zero_le _) hn).2.2.2.2.1, hb256⟩ (bDr_tp dS2 t3) ((congrFun (t3.1 29 (by decide)) 3).trans e29) rfl
  intro t
  induction t with
  | zero =>
    intro l i D X hl hli x0 x1
    have := x1.2.2.1
    omega
  | succ t ih =>
    intro l i D X hl hli x0 x1 x2 x29 hR
    have hin := x1.2.2.1
    have hU : pAll b n (t + 1) D i l = if tkK b n i = 0 then .ok (D, l) else bE (pLine b n D i) (fun r => pAll b n t r.1 r.2 (l + 1)) := rfl
    rw [← hR, hU] at kE kO
    obtain ⟨a1, -⟩ := tk_qA b n i
    obtain ⟨c0, -⟩ := tk_qC b n i
    have e5 : X.1 1 5 = nI (tT b n i) := x1.2.1.1
    refine b_X8_read_27 ?_
    rw [x29, e5, nI_leI (by decide) (by omega), nI_eq (b := 37) (by omega) (by decide)]
    have KO : tkK b n i = 0 → L_X8_read_94 G false n0 tl K X := fun q => b_X8_read_94 (kO X D l (if_pos q) x0 x2 x29 (by omega))
    refine ⟨fun q => KO ?_, fun _ => ⟨fun q => KO (c0.mpr q), fun q37 => ?_⟩⟩
    · apply Decidable.byContradiction
      intro w
      have := (tk_b hb256 hin hn).2.2.2.2.2 w
      have := (tk_b hb256 hin hn).2.2.2.2.1
      omega
    · have k0 : ¬ tkK b n i = 0 := fun w => q37 (c0.mp w)
      rw [if_neg k0] at kE kO
      refine u_rLine (S0 := X) ⟨rG.rf, x1, x2⟩ _ (fun S' e p' h1 h2 h3 h4 h5 => ?_) (fun S' j h1 h2 h3 h4 => ?_) (fun S' D' j h1 h2 h3 => ?_)
      · refine ⟨fun w => ?_, fun _ => kE S' e p' h1 h2 (by rw [h3, bE_er]) (x0.tr h4.H) h5⟩
        exfalso
        rw [show (0 : Int32) = nI 0 from rfl, nI_eq (by omega) (by decide)] at w
        omega
      · have e5' : S'.1 1 5 = nI (tT b n j) := h3.1
        obtain ⟨a1', -⟩ := tk_qA b n j
        rw [e5', nI_eq (b := 34) (by omega) (by decide)]
        exact ⟨fun _ => ⟨fun w => absurd w h2, fun _ => kE S' 1 (tkP b n j) (by decide) (by decide) (by rw [h1, bE_er]) (x0.tr h4.H) h3.2.1⟩, fun w => absurd rfl w⟩
      · have e5' : S'.1 1 5 = nI (tT b n j) := h3.2.1.2.1.1
        have e29' : S'.1 29 3 = nI l := (congrFun (h3.1.1 29 rfl).1 3).trans x29
        obtain ⟨a1', -⟩ := tk_qA b n j
        rw [e5', e29', nI_eq (b := 34) (by omega) (by decide), nI_add]
        refine ⟨fun _ => ⟨fun _ => ?_, fun w => absurd h2 w⟩, fun w => absurd rfl w⟩
        refine u_nxtT (S := sVa S' 29 3 (nI (l + 1))) (atT_F h3.2.1 rfl rfl rfl) _ (fun S4 t4 c4 => ?_)
        have pm := pLine_m hb256 hn hin h1
        have pm : i < tkN b n j ∧ tkN b n j ≤ n := pm
        have rX : rH X S4 := by
          have r1 : rH X S' := h3.1.H
          have r2 : rH S' (sVa S' 29 3 (nI (l + 1))) := ⟨fun a q => ⟨u2_o (fun z => by rw [z] at q; cases q), rfl, rfl, rfl⟩, rfl⟩
          exact (r1.tr r2).tr (rG.tp t4).H
        refine ih (l + 1) (tkN b n j) D' S4 (by omega) (by omega) (x0.tr rX) c4 ?_ ((congrFun (t4.1 29 (by decide)) 3).trans rfl) ?_
        · exact bDr_tp (S := sVa S' 29 3 (nI (l + 1))) (by
            have d := h3.2.2
            exact d) t4
        · rw [← hR, hU, if_neg k0, h1, bE_ok]
end READT

