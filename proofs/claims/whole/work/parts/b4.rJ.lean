/-! ===== the program: a law's reading begun; names and numbers ===== -/
set_option maxRecDepth 100000 in
set_option maxHeartbeats 4000000 in
theorem m_X5_readAt {G : ab_G} {fr : Bool} {tl : ab_H} {K : Int32 → ms_S → Prop} {S : ms_S} {i2 : Int32} {p : Nat}
    (h : ∀ n0 : Nat, ctU G 3 M_X10_advance fr [.ref 1] lB (sVa (sVa (sVa (sVa (sRa S 55 6 p) 55 5 i2) 55 2 (nI 0)) 55 3 (nI 0)) 55 4 (nI 0)) tl (fun S1 => L_X5_read_40 G fr n0 tl K S1 (nI 1) (nI 1) (nI 0))) :
    ctI G 4 M_X5_read fr [.ref 55, .ref p, .int i2] lB S tl K := by
  refine wp_ct o_X5_read (Nat.le_of_ble_eq_true rfl) ?_
  replace h := h (hLy lB S tl).length
  revert h
  generalize (hLy lB S tl).length = n0
  intro h
  iterate 21 refine ws_b rfl ?_
  refine wp_cV rfl rfl o_X10_advance v_X10_advance h rfl rfl rfl (Nat.le_of_ble_eq_true rfl) (by decide) ?_
  clear h
  rintro r9 h9 ⟨S1, rfl, rfl, h⟩
  iterate 2 refine ws_b rfl ?_
  exact wp_weak (wk_s (wk_n (wk_n (wk_s (wk_s (wk_s (wk_s (wk_s wk_0)))))))) h
/-- what reading leaves as it was, but for the reference to the law -/
def rdG (p : Nat) (S X : ms_S) : Prop := (∀ a, Nat.beq a 1 = false → aRd p a = false → X.1 a = S.1 a) ∧ (∀ a, aRd p a = false → X.2.1 a = S.2.1 a ∧ X.2.2.2.1 a = S.2.2.2.1 a ∧ X.2.2.2.2 a = S.2.2.2.2 a) ∧ (∀ k, k < 4 → X.1 1 k = S.1 1 k)
section READP
variable {G : ab_G} {tl : ab_H} {p : Nat} {b : Nat → Nat} {n f i : Nat} {S : ms_S}
theorem u_readL (hp : pLw p) (hb : ∀ j, j < n → b j < 256) (hT : bTx (rsS e_TpB S) b n) (hi : i ≤ n) (h4 : S.1 1 4 = nI i) (hf : f ≤ 64) (hz : S.1 p 3 = nI 0 ∧ S.1 p 4 = nI 0) (K : Int32 → ms_S → Prop)
    (kE : ∀ S' e p', (e = 1 ∨ e = 2) → sumS b n 701 (u0 f) i = .error (e, p') → S'.1 1 6 = nI p' → rdG p S S' → K (nI e) S')
    (kN : ∀ S' j, sumS b n 701 (u0 f) i = .error (1, tkP b n j) → ¬ tT b n j = 34 → bTx (rsS e_TpB S') b n → bTk (rsS e_TpB S') (tk b n j) → rdG p S S' → K (nI 0) S')
    (kO : ∀ S' q j, sumS b n 701 (u0 f) i = .ok (q, j) → tT b n j = 34 → j ≤ n → bTx (rsS e_TpB S') b n → bTk (rsS e_TpB S') (tk b n j) → rdG p S S' → lwAt S' p q → vQ q → f + q.1 ≤ 64 → K (nI 0) S') : ctI G 4 M_X5_read false [.ref 55, .ref p, .int (nI (64 - f))] lB S tl K := by
  refine m_X5_readAt (fun n0 => ?_)
  generalize hS1 : sVa (sVa (sVa (sVa (sRa S 55 6 p) 55 5 (nI (64 - f))) 55 2 (nI 0)) 55 3 (nI 0)) 55 4 (nI 0) = S1
  have r55 : ∀ a, ¬ a = 55 → S1.1 a = S.1 a := by
    intro a ha
    rw [← hS1]
    show u2 (u2 (u2 (u2 S.1 55 5 _) 55 2 _) 55 3 _) 55 4 _ a = _
    rw [u2_o ha, u2_o ha, u2_o ha, u2_o ha]
  have r2 : S1.2.1 = S.2.1 ∧ S1.2.2.2 = S.2.2.2 := by rw [← hS1]; exact ⟨rfl, rfl⟩
  have r6 : S1.2.2.1 55 6 = p := by rw [← hS1]; rfl
  have p55 : ¬ p = 55 := by rcases hp with rfl | rfl | rfl <;> decide
  have g0 : ∀ X, rdF p S1 X → rdG p S X := by
    intro X h
    refine ⟨fun a q1 q2 => (h.1 a q1 q2).trans (r55 a (fun z => by rw [z] at q2; cases q2)), fun a q => ?_, fun k hk => (h.2.2.1 k hk).trans (congrFun (r55 1 (by decide)) k)⟩
    obtain ⟨x1, x2, x3⟩ := h.2.1 a q
    exact ⟨x1.trans (congrFun r2.1 a), x2.trans (by rw [r2.2]), x3.trans (by rw [r2.2])⟩
  have hT1 : bTx (rsS e_TpB S1) b n := bTx_B hT (congrFun (r55 1 (by decide)) 3) (by rw [r2.2]) (by rw [r2.2])
  refine u_advB G hT1 hi ((congrFun (r55 1 (by decide)) 4).trans h4) _ (fun S' t0 t1 t2 => ?_)
  refine u_readL0 (f := f) (R := sumS b n 701 (u0 f) i) hp hb K (S0 := S1) (fun X e p' h1 h2 h3 h4 => kE X e p' h1 h2 h3 (g0 X h4)) (fun X j h1 h2 h3 h4 h5 => kN X j h1 h2 h3 h4 (g0 X h5)) (fun X q j h1 h2 h3 h4 h5 h6 h7 h8 h9 => kO X q j h1 h2 h3 h4 h5 (g0 X h6) h7 h8 h9) n0 701 0 i (u0 f) S' (nI 1) rfl (Nat.zero_le _) hi ⟨t1, t2, ?_, by rw [show S'.2.2.1 = S1.2.2.1 by rw [t0.2.2]]; exact r6⟩ (rdF.tp t0) (iPu_0 hf) (fun _ => rfl) rfl
  have e55 : S'.1 55 = S1.1 55 := t0.1 55 (by decide)
  have ep : S'.1 p = S.1 p := (t0.1 p (by rcases hp with rfl | rfl | rfl <;> decide)).trans (r55 p p55)
  refine ⟨⟨?_, ?_, fun j hj => absurd hj (Nat.not_lt_zero _), ?_, trivial⟩, ?_, ?_, 0, by decide, ?_, rfl⟩
  · show S'.1 p 3 = nI 0
    rw [ep]; exact hz.1
  · show S'.1 p 4 = bI (dyQ (0, _))
    rw [ep]; exact hz.2
  · show S'.1 55 2 = nI 0
    rw [e55, ← hS1]; rfl
  · show S'.1 55 3 = nI 0
    rw [e55, ← hS1]; rfl
  · show S'.1 55 5 = nI (64 - f)
    rw [e55, ← hS1]; rfl
  · show S'.1 55 4 = nI 0
    rw [e55, ← hS1]; rfl
theorem u_calledP {fr : Bool} {T : ms_S} {g : Nat → Int32} {k : Nat} {x : Int32} (hk : k ≤ 9) (h : T.1 0 12 = nI k) (hg : ∀ j, j < k → T.2.2.2.1 1 j = g j) (K : Int32 → ms_S → Prop) (c : K (fdA g x k) T) : ctI G 2 M_X7_pieceCalled fr [.ref 0, .int x] lPl T tl K := by
  refine m_X7_pieceCalled (fun n0 => ?_)
  rw [h]
  refine m_X7_placeInP (fun n1 => ?_)
  suffices KL : ∀ t j, j + t = k → fdK g x j = none → L_X7_placeInP_2 G fr n1 tl _ T (nI k) x (nI j) from KL k 0 (Nat.zero_add _) rfl
  intro t
  induction t with
  | zero =>
    intro j hj hn
    have hj : j = k := hj
    subst hj
    refine b_X7_placeInP_2 ⟨fun _ => ?_, fun z => absurd (Int32.le_refl _) z⟩
    unfold fdA at c
    rw [hn] at c
    exact c
  | succ t ih =>
    intro j hj hn
    refine b_X7_placeInP_2 ?_
    rw [nI_leI (by omega) (by omega), nI_leI (by decide) (by omega), show (nI j).toNatClampNeg = j from nI_clamp (by omega), hg j (by omega), nI_add]
    refine ⟨fun z => absurd z (by omega), fun _ => ⟨fun z => absurd z (by omega), fun _ => ⟨(x_vp (by omega)).mpr (by omega), fun z => ?_, fun z => ih (j + 1) (by omega) (by rw [fdK_s hn, if_neg z])⟩⟩⟩
    have h9 := fdK_m (show fdK g x (j + 1) = some j by rw [fdK_s hn, if_pos z]) t
    rw [show j + 1 + t = k by omega] at h9
    unfold fdA at c
    rw [h9] at c
    exact c
theorem u_calledPB {g : Nat → Int32} {k : Nat} {x : Int32} (hk : k ≤ 9) (h : S.1 30 12 = nI k) (hg : ∀ j, j < k → S.2.2.2.1 31 j = g j) (K : Int32 → ms_S → Prop) (c : K (fdA g x k) S) : ctI G 2 M_X7_pieceCalled false [.ref 30, .int x] lB S tl K :=
  ctI.tr e_PlD e_PlD_i e_PlD_n (as' := [.ref 0, .int x]) rfl (fun G' => u_calledP (G := G') (T := rsS e_PlD S) hk h hg _ (by rw [mgS_rs]; exact c))
theorem u_calledH {fr : Bool} {T : ms_S} {g : Nat → Int32} {k : Nat} {x : Int32} (hk : k ≤ 5) (h : T.1 0 13 = nI k) (hg : ∀ j, j < k → T.2.2.2.1 5 j = g j) (K : Int32 → ms_S → Prop) (c : K (fdA g x k) T) : ctI G 2 M_X7_heirCalled fr [.ref 0, .int x] lPl T tl K := by
  refine m_X7_heirCalled (fun n0 => ?_)
  rw [h]
  refine m_X7_placeInH (fun n1 => ?_)
  suffices KL : ∀ t j, j + t = k → fdK g x j = none → L_X7_placeInH_2 G fr n1 tl _ T (nI k) x (nI j) from KL k 0 (Nat.zero_add _) rfl
  intro t
  induction t with
  | zero =>
    intro j hj hn
    have hj : j = k := hj
    subst hj
    refine b_X7_placeInH_2 ⟨fun _ => ?_, fun z => absurd (Int32.le_refl _) z⟩
    unfold fdA at c
    rw [hn] at c
    exact c
  | succ t ih =>
    intro j hj hn
    refine b_X7_placeInH_2 ?_
    rw [nI_leI (by omega) (by omega), nI_leI (by decide) (by omega), show (nI j).toNatClampNeg = j from nI_clamp (by omega), hg j (by omega), nI_add]
    refine ⟨fun z => absurd z (by omega), fun _ => ⟨fun z => absurd z (by omega), fun _ => ⟨(x_vp (by omega)).mpr (by omega), fun z => ?_, fun z => ih (j + 1) (by omega) (by rw [fdK_s hn, if_neg z])⟩⟩⟩
    have h9 := fdK_m (show fdK g x (j + 1) = some j by rw [fdK_s hn, if_pos z]) t
    rw [show j + 1 + t = k by omega] at h9
    unfold fdA at c
    rw [h9] at c
    exact c
theorem u_calledHB {g : Nat → Int32} {k : Nat} {x : Int32} (hk : k ≤ 5) (h : S.1 30 13 = nI k) (hg : ∀ j, j < k → S.2.2.2.1 35 j = g j) (K : Int32 → ms_S → Prop) (c : K (fdA g x k) S) : ctI G 2 M_X7_heirCalled false [.ref 30, .int x] lB S tl K :=
  ctI.tr e_PlD e_PlD_i e_PlD_n (as' := [.ref 0, .int x]) rfl (fun G' => u_calledH (G := G') (T := rsS e_PlD S) hk h hg _ (by rw [mgS_rs]; exact c))
theorem fdA_no {g : Nat → Int32} {x : Int32} {k : Nat} (hk : k < 2 ^ 31) : fdA g x k = -(nI 1) ↔ fdK g x k = none := by
  unfold fdA
  cases h : fdK g x k with
  | none => exact ⟨fun _ => rfl, fun _ => rfl⟩
  | some j =>
    have := (fdK_lt h).1
    refine ⟨fun q => ?_, fun q => by cases q⟩
    exfalso
    have g : (0 : Int32) ≤ nI j := by
      rw [show (0 : Int32) = nI 0 from rfl, nI_leI (by decide) (by omega)]
      exact Nat.zero_le _
    rw [show nI j = -(nI 1) from q] at g
    exact absurd g (by decide)
/-- the tape stands at token i -/
def atT (S : ms_S) (b : Nat → Nat) (n i : Nat) : Prop := bTx (rsS e_TpB S) b n ∧ bTk (rsS e_TpB S) (tk b n i) ∧ i ≤ n ∧ tkN b n i ≤ n ∧ ∀ j, j < n → b j < 256
theorem u_nxtT (h : atT S b n i) (K : ms_S → Prop) (k : ∀ S', tpB S S' → atT S' b n (tkN b n i) → K S') : ctU G 3 M_X10_advance false [.ref 1] lB S tl K :=
  u_advB G h.1 h.2.2.2.1 h.2.1.2.2.1 K (fun S' t0 t1 t2 => k S' t0 ⟨t1, t2, h.2.2.2.1, (tk_b h.2.2.2.2 h.2.2.2.1 t1.1).2.2.2.2.1, h.2.2.2.2⟩)
theorem atT_F {S S' : ms_S} (h : atT S b n i) (h1 : S'.1 1 = S.1 1) (h2 : S'.2.2.2.1 2 = S.2.2.2.1 2) (h3 : S'.2.2.2.1 3 = S.2.2.2.1 3) : atT S' b n i := by
  refine ⟨bTx_B h.1 (congrFun h1 3) h2 h3, ?_, h.2.2⟩
  have h9 := h.2.1
  unfold bTk at h9 ⊢
  rw [show (rsS e_TpB S').1 0 = (rsS e_TpB S).1 0 from h1]
  exact h9
theorem u_numA {k hi : Nat} (h : atT S b n i) (hk : k < 9) (hh : hi ≤ 99999) (K : Int32 → ms_S → Prop)
    (kE : ∀ S' e p', (e = 1 ∨ e = 2) → pNum b n 0 hi (tkN b n i) = .error (e, p') → tpB S S' → S'.1 1 6 = nI p' → K (nI e) S')
    (kO : ∀ S' v, pNum b n 0 hi (tkN b n i) = .ok (v, tkN b n (tkN b n i)) → v ≤ hi → tpB S S' → atT S' b n (tkN b n i) → K (nI 0) (sA S' 32 k (nI v))) : ctI G 4 M_X8_readNumber false [.ref 29, .ref 32, .int (nI k), .int (nI hi)] lB S tl K := by
  refine m_X8_readNumberA (fun n0 => u_nxtT h _ (fun S' t0 t1 => ?_))
  obtain ⟨a1, a2, a3, a4, a5, a6⟩ := tk_qA b n (tkN b n i)
  have e5 : S'.1 1 5 = nI (tT b n (tkN b n i)) := t1.2.1.1
  have e6 : S'.1 1 6 = nI (tkP b n (tkN b n i)) := t1.2.1.2.1
  have K29 : ¬ tT b n (tkN b n i) = 36 → L_X8_readNumberA_29 G false n0 tl K S' := fun z => b_X8_readNumberA_29 (kE S' 1 _ (Or.inl rfl) (if_neg (fun q => z (a6.mp q))) t0 e6)
  rw [e5, nI_eq (b := 36) (by omega) (by decide), show (0 : Int32) = nI 0 from rfl, nI_ltI (by omega) (by decide), nI_ltI (by omega) (by decide), show (nI k).toNatClampNeg = k from nI_clamp (by omega)]
  refine ⟨fun z => ⟨fun q => absurd q (Nat.not_lt_zero _), fun _ => ⟨fun _ => ?_, fun q => absurd hk q⟩⟩, K29⟩
  obtain ⟨v, v1, v2, v3⟩ := t1.2.1.2.2.2.2 (a6.mpr z)
  have v1 : S'.1 1 7 = nI v := v1
  have v3 : v = tkW b n (tkN b n i) ∨ (99999 < v ∧ 99999 < tkW b n (tkN b n i)) := v3
  rw [v1, nI_leI (by omega) (by omega)]
  refine ⟨fun q => ⟨(x_vp (by omega)).mpr hk, ?_⟩, fun q => kE S' 2 _ (Or.inr rfl) ?_ t0 e6⟩
  · refine kO S' v ?_ q t0 t1
    unfold pNum
    rw [if_pos (a6.mpr z), if_pos ⟨Nat.zero_le _, by omega⟩, show tkW b n (tkN b n i) = v by omega]
  · unfold pNum
    rw [if_pos (a6.mpr z), if_neg (fun w => by omega)]
theorem u_numB {k hi : Nat} (h : atT S b n i) (hk : k < 9) (hh : hi ≤ 99999) (K : Int32 → ms_S → Prop)
    (kE : ∀ S' e p', (e = 1 ∨ e = 2) → pNum b n 0 hi (tkN b n i) = .error (e, p') → tpB S S' → S'.1 1 6 = nI p' → K (nI e) S')
    (kO : ∀ S' v, pNum b n 0 hi (tkN b n i) = .ok (v, tkN b n (tkN b n i)) → v ≤ hi → tpB S S' → atT S' b n (tkN b n i) → K (nI 0) (sA S' 33 k (nI v))) : ctI G 4 M_X8_readNumber false [.ref 29, .ref 33, .int (nI k), .int (nI hi)] lB S tl K := by
  refine m_X8_readNumberB (fun n0 => u_nxtT h _ (fun S' t0 t1 => ?_))
  obtain ⟨a1, a2, a3, a4, a5, a6⟩ := tk_qA b n (tkN b n i)
  have e5 : S'.1 1 5 = nI (tT b n (tkN b n i)) := t1.2.1.1
  have e6 : S'.1 1 6 = nI (tkP b n (tkN b n i)) := t1.2.1.2.1
  have K29 : ¬ tT b n (tkN b n i) = 36 → L_X8_readNumberB_29 G false n0 tl K S' := fun z => b_X8_readNumberB_29 (kE S' 1 _ (Or.inl rfl) (if_neg (fun q => z (a6.mp q))) t0 e6)
  rw [e5, nI_eq (b := 36) (by omega) (by decide), show (0 : Int32) = nI 0 from rfl, nI_ltI (by omega) (by decide), nI_ltI (by omega) (by decide), show (nI k).toNatClampNeg = k from nI_clamp (by omega)]
  refine ⟨fun z => ⟨fun q => absurd q (Nat.not_lt_zero _), fun _ => ⟨fun _ => ?_, fun q => absurd hk q⟩⟩, K29⟩
  obtain ⟨v, v1, v2, v3⟩ := t1.2.1.2.2.2.2 (a6.mpr z)
  have v1 : S'.1 1 7 = nI v := v1
  have v3 : v = tkW b n (tkN b n i) ∨ (99999 < v ∧ 99999 < tkW b n (tkN b n i)) := v3
  rw [v1, nI_leI (by omega) (by omega)]
  refine ⟨fun q => ⟨(x_vp (by omega)).mpr hk, ?_⟩, fun q => kE S' 2 _ (Or.inr rfl) ?_ t0 e6⟩
  · refine kO S' v ?_ q t0 t1
    unfold pNum
    rw [if_pos (a6.mpr z), if_pos ⟨Nat.zero_le _, by omega⟩, show tkW b n (tkN b n i) = v by omega]
  · unfold pNum
    rw [if_pos (a6.mpr z), if_neg (fun w => by omega)]
theorem u_numW {k hi : Nat} (h : atT S b n i) (hk : k < 9) (hh : hi ≤ 99999) (K : Int32 → ms_S → Prop)
    (kE : ∀ S' e p', (e = 1 ∨ e = 2) → pNum b n 0 hi (tkN b n i) = .error (e, p') → tpB S S' → S'.1 1 6 = nI p' → K (nI e) S')
    (kO : ∀ S' v, pNum b n 0 hi (tkN b n i) = .ok (v, tkN b n (tkN b n i)) → v ≤ hi → tpB S S' → atT S' b n (tkN b n i) → K (nI 0) (sA S' 34 k (nI v))) : ctI G 4 M_X8_readNumber false [.ref 29, .ref 34, .int (nI k), .int (nI hi)] lB S tl K := by
  refine m_X8_readNumberW (fun n0 => u_nxtT h _ (fun S' t0 t1 => ?_))
  obtain ⟨a1, a2, a3, a4, a5, a6⟩ := tk_qA b n (tkN b n i)
  have e5 : S'.1 1 5 = nI (tT b n (tkN b n i)) := t1.2.1.1
  have e6 : S'.1 1 6 = nI (tkP b n (tkN b n i)) := t1.2.1.2.1
  have K29 : ¬ tT b n (tkN b n i) = 36 → L_X8_readNumberW_29 G false n0 tl K S' := fun z => b_X8_readNumberW_29 (kE S' 1 _ (Or.inl rfl) (if_neg (fun q => z (a6.mp q))) t0 e6)
  rw [e5, nI_eq (b := 36) (by omega) (by decide), show (0 : Int32) = nI 0 from rfl, nI_ltI (by omega) (by decide), nI_ltI (by omega) (by decide), show (nI k).toNatClampNeg = k from nI_clamp (by omega)]
  refine ⟨fun z => ⟨fun q => absurd q (Nat.not_lt_zero _), fun _ => ⟨fun _ => ?_, fun q => absurd hk q⟩⟩, K29⟩
  obtain ⟨v, v1, v2, v3⟩ := t1.2.1.2.2.2.2 (a6.mpr z)
  have v1 : S'.1 1 7 = nI v := v1
  have v3 : v = tkW b n (tkN b n i) ∨ (99999 < v ∧ 99999 < tkW b n (tkN b n i)) := v3
  rw [v1, nI_leI (by omega) (by omega)]
  refine ⟨fun q => ⟨(x_vp (by omega)).mpr hk, ?_⟩, fun q => kE S' 2 _ (Or.inr rfl) ?_ t0 e6⟩
  · refine kO S' v ?_ q t0 t1
    unfold pNum
    rw [if_pos (a6.mpr z), if_pos ⟨Nat.zero_le _, by omega⟩, show tkW b n (tkN b n i) = v by omega]
  · unfold pNum
    rw [if_pos (a6.mpr z), if_neg (fun w => by omega)]
theorem u_numT {k hi : Nat} (h : atT S b n i) (hk : k < 8) (hh : hi ≤ 99999) (K : Int32 → ms_S → Prop)
    (kE : ∀ S' e p', (e = 1 ∨ e = 2) → pNum b n 0 hi (tkN b n i) = .error (e, p') → tpB S S' → S'.1 1 6 = nI p' → K (nI e) S')
    (kO : ∀ S' v, pNum b n 0 hi (tkN b n i) = .ok (v, tkN b n (tkN b n i)) → v ≤ hi → tpB S S' → atT S' b n (tkN b n i) → K (nI 0) (sA S' 39 k (nI v))) : ctI G 4 M_X8_readNumber false [.ref 29, .ref 39, .int (nI k), .int (nI hi)] lB S tl K := by
  refine m_X8_readNumberT (fun n0 => u_nxtT h _ (fun S' t0 t1 => ?_))
  obtain ⟨a1, a2, a3, a4, a5, a6⟩ := tk_qA b n (tkN b n i)
  have e5 : S'.1 1 5 = nI (tT b n (tkN b n i)) := t1.2.1.1
  have e6 : S'.1 1 6 = nI (tkP b n (tkN b n i)) := t1.2.1.2.1
  have K29 : ¬ tT b n (tkN b n i) = 36 → L_X8_readNumberT_29 G false n0 tl K S' := fun z => b_X8_readNumberT_29 (kE S' 1 _ (Or.inl rfl) (if_neg (fun q => z (a6.mp q))) t0 e6)
  rw [e5, nI_eq (b := 36) (by omega) (by decide), show (0 : Int32) = nI 0 from rfl, nI_ltI (by omega) (by decide), nI_ltI (by omega) (by decide), show (nI k).toNatClampNeg = k from nI_clamp (by omega)]
  refine ⟨fun z => ⟨fun q => absurd q (Nat.not_lt_zero _), fun _ => ⟨fun _ => ?_, fun q => absurd hk q⟩⟩, K29⟩
  obtain ⟨v, v1, v2, v3⟩ := t1.2.1.2.2.2.2 (a6.mpr z)
  have v1 : S'.1 1 7 = nI v := v1
  have v3 : v = tkW b n (tkN b n i) ∨ (99999 < v ∧ 99999 < tkW b n (tkN b n i)) := v3
  rw [v1, nI_leI (by omega) (by omega)]
  refine ⟨fun q => ⟨(x_vp (by omega)).mpr hk, ?_⟩, fun q => kE S' 2 _ (Or.inr rfl) ?_ t0 e6⟩
  · refine kO S' v ?_ q t0 t1
    unfold pNum
    rw [if_pos (a6.mpr z), if_pos ⟨Nat.zero_le _, by omega⟩, show tkW b n (tkN b n i) = v by omega]
  · unfold pNum
    rw [if_pos (a6.mpr z), if_neg (fun w => by omega)]
theorem u_numD {k hi : Nat} (h : atT S b n i) (hk : k < 10) (hh : hi ≤ 99999) (K : Int32 → ms_S → Prop)
    (kE : ∀ S' e p', (e = 1 ∨ e = 2) → pNum b n 0 hi (tkN b n i) = .error (e, p') → tpB S S' → S'.1 1 6 = nI p' → K (nI e) S')
    (kO : ∀ S' v, pNum b n 0 hi (tkN b n i) = .ok (v, tkN b n (tkN b n i)) → v ≤ hi → tpB S S' → atT S' b n (tkN b n i) → K (nI 0) (sA S' 41 k (nI v))) : ctI G 4 M_X8_readNumber false [.ref 29, .ref 41, .int (nI k), .int (nI hi)] lB S tl K := by
  refine m_X8_readNumberD (fun n0 => u_nxtT h _ (fun S' t0 t1 => ?_))
  obtain ⟨a1, a2, a3, a4, a5, a6⟩ := tk_qA b n (tkN b n i)
  have e5 : S'.1 1 5 = nI (tT b n (tkN b n i)) := t1.2.1.1
  have e6 : S'.1 1 6 = nI (tkP b n (tkN b n i)) := t1.2.1.2.1
  have K29 : ¬ tT b n (tkN b n i) = 36 → L_X8_readNumberD_29 G false n0 tl K S' := fun z => b_X8_readNumberD_29 (kE S' 1 _ (Or.inl rfl) (if_neg (fun q => z (a6.mp q))) t0 e6)
  rw [e5, nI_eq (b := 36) (by omega) (by decide), show (0 : Int32) = nI 0 from rfl, nI_ltI (by omega) (by decide), nI_ltI (by omega) (by decide), show (nI k).toNatClampNeg = k from nI_clamp (by omega)]
  refine ⟨fun z => ⟨fun q => absurd q (Nat.not_lt_zero _), fun _ => ⟨fun _ => ?_, fun q => absurd hk q⟩⟩, K29⟩
  obtain ⟨v, v1, v2, v3⟩ := t1.2.1.2.2.2.2 (a6.mpr z)
  have v1 : S'.1 1 7 = nI v := v1
  have v3 : v = tkW b n (tkN b n i) ∨ (99999 < v ∧ 99999 < tkW b n (tkN b n i)) := v3
  rw [v1, nI_leI (by omega) (by omega)]
  refine ⟨fun q => ⟨(x_vp (by omega)).mpr hk, ?_⟩, fun q => kE S' 2 _ (Or.inr rfl) ?_ t0 e6⟩
  · refine kO S' v ?_ q t0 t1
    unfold pNum
    rw [if_pos (a6.mpr z), if_pos ⟨Nat.zero_le _, by omega⟩, show tkW b n (tkN b n i) = v by omega]
  · unfold pNum
    rw [if_pos (a6.mpr z), if_neg (fun w => by omega)]
theorem u_newNP {k : Nat} {g : Nat → Int32} (h : atT S b n i) (hk : k < 9) (hf : S.1 30 12 = nI k) (hg : ∀ j, j < k → S.2.2.2.1 31 j = g j) (K : Int32 → ms_S → Prop)
    (kE : ∀ S' e p', (e = 1 ∨ e = 3) → pNew b n g k (tkN b n i) = .error (e, p') → tpB S S' → S'.1 1 6 = nI p' → K (nI e) S')
    (kO : ∀ S' v, pNew b n g k (tkN b n i) = .ok (v, tkN b n (tkN b n i)) → tpB S S' → atT S' b n (tkN b n i) → K (nI 0) (sA S' 31 k (nI v))) : ctI G 4 M_X8_readNewName false [.ref 29, .ref 31, .int (nI k), .int (nI 1)] lB S tl K := by
  refine m_X8_readNewNameP (fun n0 => u_nxtT h _ (fun S' t0 t1 => ?_))
  obtain ⟨a1, -⟩ := tk_qA b n (tkN b n i)
  obtain ⟨-, c2, -⟩ := tk_qC b n (tkN b n i)
  have e5 : S'.1 1 5 = nI (tT b n (tkN b n i)) := t1.2.1.1
  have e6 : S'.1 1 6 = nI (tkP b n (tkN b n i)) := t1.2.1.2.1
  have K29 : ¬ tT b n (tkN b n i) = 35 → L_X8_readNewNameP_29 G false n0 tl K S' := fun z => b_X8_readNewNameP_29 (kE S' 1 _ (Or.inl rfl) (if_neg (fun q => z (c2.mp q))) t0 e6)
  rw [e5, nI_eq (b := 35) (by omega) (by decide), nI_ltI (a := k) (b := 9) (by omega) (by decide), show (nI k < 0) = False from by rw [show (0 : Int32) = nI 0 from rfl, nI_ltI (by omega) (by decide)]; exact eq_false (Nat.not_lt_zero _)]
  refine ⟨fun z => ⟨fun q => q.elim, fun _ => ⟨fun _ => ?_, fun q => absurd hk q⟩⟩, K29⟩
  have e7 : S'.1 1 7 = nI (tkW b n (tkN b n i)) := t1.2.1.2.2.2.1 (c2.mpr z)
  rw [e7]
  refine ⟨fun q => absurd q (by decide), fun _ => u_calledPB (g := g) (by omega) ((congrFun (t0.1 30 (by decide)) 12).trans hf) (fun j hj => ?_) _ (b_X8_readNewNameP_66 ?_)⟩
  · rw [show S'.2.2.2.1 31 = S.2.2.2.1 31 by rw [t0.2.2]]
    exact hg j hj
  · rw [fdA_no (by omega), e7, show (nI k).toNatClampNeg = k from nI_clamp (by omega)]
    refine ⟨fun q => ⟨(x_vp (by omega)).mpr hk, kO S' _ ?_ t0 t1⟩, fun q => kE S' 3 _ (Or.inr rfl) ?_ t0 e6⟩
    · unfold pNew
      rw [if_pos (c2.mpr z), if_pos q]
    · unfold pNew
      rw [if_pos (c2.mpr z), if_neg q]
theorem u_toldP {k : Nat} {g : Nat → Int32} (h : atT S b n i) (hk : k ≤ 9) (hf : S.1 30 12 = nI k) (hg : ∀ j, j < k → S.2.2.2.1 31 j = g j) (K : Int32 → ms_S → Prop)
    (kE : ∀ S' e p', (e = 1 ∨ e = 4) → pThr b n g k (tkN b n i) = .error (e, p') → tpB S S' → S'.1 1 6 = nI p' → K (nI e) S')
    (kO : ∀ S' j, pThr b n g k (tkN b n i) = .ok (j, tkN b n (tkN b n i)) → j < k → fdA g (S'.1 1 7) k = nI j → tpB S S' → atT S' b n (tkN b n i) → K (nI 0) S') : ctI G 4 M_X8_readToldPiece false [.ref 29] lB S tl K := by
  refine m_X8_readToldPiece (fun n0 => u_nxtT h _ (fun S' t0 t1 => ?_))
  obtain ⟨a1, -⟩ := tk_qA b n (tkN b n i)
  obtain ⟨-, c2, -⟩ := tk_qC b n (tkN b n i)
  have e5 : S'.1 1 5 = nI (tT b n (tkN b n i)) := t1.2.1.1
  have e6 : S'.1 1 6 = nI (tkP b n (tkN b n i)) := t1.2.1.2.1
  rw [e5, nI_eq (b := 35) (by omega) (by decide)]
  refine ⟨fun z => ?_, fun z => kE S' 1 _ (Or.inl rfl) (if_neg (fun q => z (c2.mp q))) t0 e6⟩
  have e7 : S'.1 1 7 = nI (tkW b n (tkN b n i)) := t1.2.1.2.2.2.1 (c2.mpr z)
  refine u_calledPB (g := g) hk ((congrFun (t0.1 30 (by decide)) 12).trans hf) (fun j hj => ?_) _ ?_
  · rw [show S'.2.2.2.1 31 = S.2.2.2.1 31 by rw [t0.2.2]]
    exact hg j hj
  · rw [fdA_no (by omega)]
    refine ⟨fun q => b_X8_readToldPiece_44 (kE S' 4 (tkP b n (tkN b n i)) (Or.inr rfl) ?_ t0 e6), fun q => b_X8_readToldPiece_44 ?_⟩
    · unfold pThr
      rw [if_pos (c2.mpr z), ← e7, q]
    · cases y : fdK g (S'.1 1 7) k with
      | none => exact absurd y q
      | some j =>
        refine kO S' j ?_ (fdK_lt y).1 (by unfold fdA; rw [y]) t0 t1
        unfold pThr
        rw [if_pos (c2.mpr z), ← e7, y]
theorem u_newNH {k : Nat} {g : Nat → Int32} (h : atT S b n i) (hk : k < 5) (hf : S.1 30 13 = nI k) (hg : ∀ j, j < k → S.2.2.2.1 35 j = g j) (K : Int32 → ms_S → Prop)
    (kE : ∀ S' e p', (e = 1 ∨ e = 3) → pNew b n g k (tkN b n i) = .error (e, p') → tpB S S' → S'.1 1 6 = nI p' → K (nI e) S')
    (kO : ∀ S' v, pNew b n g k (tkN b n i) = .ok (v, tkN b n (tkN b n i)) → tpB S S' → atT S' b n (tkN b n i) → K (nI 0) (sA S' 35 k (nI v))) : ctI G 4 M_X8_readNewName false [.ref 29, .ref 35, .int (nI k), .int (nI 0)] lB S tl K := by
  refine m_X8_readNewNameH (fun n0 => u_nxtT h _ (fun S' t0 t1 => ?_))
  obtain ⟨a1, -⟩ := tk_qA b n (tkN b n i)
  obtain ⟨-, c2, -⟩ := tk_qC b n (tkN b n i)
  have e5 : S'.1 1 5 = nI (tT b n (tkN b n i)) := t1.2.1.1
  have e6 : S'.1 1 6 = nI (tkP b n (tkN b n i)) := t1.2.1.2.1
  have K29 : ¬ tT b n (tkN b n i) = 35 → L_X8_readNewNameH_29 G false n0 tl K S' := fun z => b_X8_readNewNameH_29 (kE S' 1 _ (Or.inl rfl) (if_neg (fun q => z (c2.mp q))) t0 e6)
  rw [e5, nI_eq (b := 35) (by omega) (by decide), nI_ltI (a := k) (b := 5) (by omega) (by decide), show (nI k < 0) = False from by rw [show (0 : Int32) = nI 0 from rfl, nI_ltI (by omega) (by decide)]; exact eq_false (Nat.not_lt_zero _)]
  refine ⟨fun z => ⟨fun q => q.elim, fun _ => ⟨fun _ => ?_, fun q => absurd hk q⟩⟩, K29⟩
  have e7 : S'.1 1 7 = nI (tkW b n (tkN b n i)) := t1.2.1.2.2.2.1 (c2.mpr z)
  rw [e7]
  refine ⟨fun _ => u_calledHB (g := g) (by omega) ((congrFun (t0.1 30 (by decide)) 13).trans hf) (fun j hj => ?_) _ (b_X8_readNewNameH_66 ?_), fun q => absurd rfl q⟩
  · rw [show S'.2.2.2.1 35 = S.2.2.2.1 35 by rw [t0.2.2]]
    exact hg j hj
  · rw [fdA_no (by omega), e7, show (nI k).toNatClampNeg = k from nI_clamp (by omega)]
    refine ⟨fun q => ⟨(x_vp (by omega)).mpr hk, kO S' _ ?_ t0 t1⟩, fun q => kE S' 3 _ (Or.inr rfl) ?_ t0 e6⟩
    · unfold pNew
      rw [if_pos (c2.mpr z), if_pos q]
    · unfold pNew
      rw [if_pos (c2.mpr z), if_neg q]
theorem u_toldH {k : Nat} {g : Nat → Int32} (h : atT S b n i) (hk : k ≤ 5) (hf : S.1 30 13 = nI k) (hg : ∀ j, j < k → S.2.2.2.1 35 j = g j) (K : Int32 → ms_S → Prop)
    (kE : ∀ S' e p', (e = 1 ∨ e = 4) → pThr b n g k (tkN b n i) = .error (e, p') → tpB S S' → S'.1 1 6 = nI p' → K (nI e) S')
    (kO : ∀ S' j, pThr b n g k (tkN b n i) = .ok (j, tkN b n (tkN b n i)) → j < k → fdA g (S'.1 1 7) k = nI j → tpB S S' → atT S' b n (tkN b n i) → K (nI 0) S') : ctI G 4 M_X8_readToldHeir false [.ref 29] lB S tl K := by
  refine m_X8_readToldHeir (fun n0 => u_nxtT h _ (fun S' t0 t1 => ?_))
  obtain ⟨a1, -⟩ := tk_qA b n (tkN b n i)
  obtain ⟨-, c2, -⟩ := tk_qC b n (tkN b n i)
  have e5 : S'.1 1 5 = nI (tT b n (tkN b n i)) := t1.2.1.1
  have e6 : S'.1 1 6 = nI (tkP b n (tkN b n i)) := t1.2.1.2.1
  rw [e5, nI_eq (b := 35) (by omega) (by decide)]
  refine ⟨fun z => ?_, fun z => kE S' 1 _ (Or.inl rfl) (if_neg (fun q => z (c2.mp q))) t0 e6⟩
  have e7 : S'.1 1 7 = nI (tkW b n (tkN b n i)) := t1.2.1.2.2.2.1 (c2.mpr z)
  refine u_calledHB (g := g) hk ((congrFun (t0.1 30 (by decide)) 13).trans hf) (fun j hj => ?_) _ ?_
  · rw [show S'.2.2.2.1 35 = S.2.2.2.1 35 by rw [t0.2.2]]
    exact hg j hj
  · rw [fdA_no (by omega)]
    refine ⟨fun q => b_X8_readToldHeir_44 (kE S' 4 (tkP b n (tkN b n i)) (Or.inr rfl) ?_ t0 e6), fun q => b_X8_readToldHeir_44 ?_⟩
    · unfold pThr
      rw [if_pos (c2.mpr z), ← e7, q]
    · cases y : fdK g (S'.1 1 7) k with
      | none => exact absurd y q
      | some j =>
        refine kO S' j ?_ (fdK_lt y).1 (by unfold fdA; rw [y]) t0 t1
        unfold pThr
        rw [if_pos (c2.mpr z), ← e7, y]
end READP

