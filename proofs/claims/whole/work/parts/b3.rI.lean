/-! ===== the program: a law read whole ===== -/
theorem leafS_w {b : Nat → Nat} {n i j : Nat} {u u' : tSU} (hw : u.2.2.2.2.1 = true) (q : leafS b n u i = .ok (u', j)) : u'.2.2.2.2.1 = decide (tT b n i = 10 ∨ tT b n i = 32) ∧ (u'.2.2.2.2.1 = true → u'.2.2.2.2.2 = true) := by
  obtain ⟨a1, a2, a3, a4, a5, a6⟩ := tk_qA b n i
  unfold leafS at q
  rw [is_40, is_13] at q
  by_cases z : tT b n i = 32
  · rw [decide_eq_true z, if_pos rfl] at q
    rw [decide_eq_true (Or.inr z)]
    by_cases y : u.2.2.1 = 8
    · rw [if_pos y] at q; cases q
    · rw [if_neg y] at q
      cases q
      exact ⟨hw, fun _ => rfl⟩
  · rw [decide_eq_false z, if_neg Bool.false_ne_true] at q
    by_cases z2 : (decide (tT b n i = 10) && u.2.2.2.2.2) = true
    · rw [if_pos z2] at q
      rw [Bool.and_eq_true, decide_eq_true_eq] at z2
      rw [decide_eq_true (Or.inl z2.1)]
      by_cases y : u.2.2.2.1 = 64
      · rw [if_pos y] at q; cases q
      · rw [if_neg y] at q
        cases q
        exact ⟨hw, fun _ => z2.2⟩
    · rw [if_neg z2] at q
      by_cases z3 : tkK b n i = 1 ∧ 14 ≤ tkW b n i
      · rw [if_pos z3] at q
        have := a4.mp z3
        rw [decide_eq_false (by omega)]
        by_cases y : u.2.2.2.1 = 64
        · rw [if_pos y] at q; cases q
        · rw [if_neg y] at q
          cases q
          exact ⟨rfl, fun w => by cases w⟩
      · rw [if_neg z3] at q
        by_cases z4 : tkK b n i = 3
        · rw [if_pos z4] at q
          have := a6.mp z4
          rw [decide_eq_false (by omega)]
          by_cases y : 9999 < tkW b n i
          · rw [if_pos y] at q; cases q
          · rw [if_neg y] at q
            by_cases y : u.2.2.2.1 = 64
            · rw [if_pos y] at q; cases q
            · rw [if_neg y] at q
              cases q
              exact ⟨rfl, fun w => by cases w⟩
        · rw [if_neg z4] at q; cases q
theorem leafS_n {b : Nat → Nat} {n i : Nat} {u : tSU} (h : tT b n i = 10) (hm : u.2.2.2.2.2 = false) : leafS b n u i = .error (1, tkP b n i) := by
  obtain ⟨a1, a2, a3, a4, a5, a6⟩ := tk_qA b n i
  unfold leafS
  rw [is_40, is_13, decide_eq_false (by omega), if_neg Bool.false_ne_true, hm, Bool.and_false, if_neg Bool.false_ne_true, if_neg (fun w => by have := a4.mp w; omega), if_neg (fun w => by have := a6.mp w; omega)]
theorem sumS_s {b : Nat → Nat} {n f i : Nat} {u : tSU} : sumS b n (f + 1) u i = if (decide (tT b n i = 34) && (!u.2.2.2.2.1 && decide (u.2.2.1 = 0))) = true then .ok ((bdW 1 u.2.1 u.1).1, i) else bE (if u.2.2.2.2.1 = true then leafS b n u i else signS b n u i) (fun r => sumS b n f r.1 r.2) := by
  rw [← is_59]
  rfl
theorem sg_op {b : Nat → Nat} {n i : Nat} {u : tSU} (h : ¬ (tT b n i = 33 ∧ 0 < u.2.2.1)) (h0 : sgK b n i = 0) : signS b n u i = .error (1, tkP b n i) := by
  unfold signS
  rw [is_41, ← Bool.decide_and, decide_eq_false h, if_neg Bool.false_ne_true, if_pos h0]
theorem sg_cl {b : Nat → Nat} {n i : Nat} {u : tSU} (h : tT b n i = 33) (h0 : 0 < u.2.2.1) : signS b n u i = .ok (((bdW 1 u.2.1 u.1).1, (bdW 1 u.2.1 u.1).2.tail, u.2.2.1 - 1, u.2.2.2.1, u.2.2.2.2.1, u.2.2.2.2.2), tkN b n i) := by
  unfold signS
  rw [is_41, ← Bool.decide_and, decide_eq_true ⟨h, h0⟩, if_pos rfl]
theorem sg_wt {b : Nat → Nat} {n i j : Nat} {u u' : tSU} (h0 : ¬ sgK b n i = 0) (q : signS b n u i = .ok (u', j)) : u'.2.2.2.2.1 = true ∧ u'.2.2.2.2.2 = decide (rkN (sgK b n i) < 3) := by
  have h33 : ¬ tT b n i = 33 := fun z => h0 ((tk_qB b n i).2.2.1.mpr (by omega))
  unfold signS at q
  rw [is_41, decide_eq_false h33, if_neg (show ¬ (false && decide (0 < u.2.2.1)) = true from Bool.false_ne_true), if_neg h0] at q
  by_cases h4 : (decide (rkN (sgK b n i) = 4) && hd4 (bdW (if rkN (sgK b n i) = 4 then 5 else rkN (sgK b n i)) u.2.1 u.1).2) = true
  · rw [if_pos h4] at q; cases q
  · rw [if_neg h4] at q
    by_cases hc : u.2.2.2.1 = 64
    · rw [if_pos hc] at q; cases q
    · rw [if_neg hc] at q
      cases q
      exact ⟨rfl, rfl⟩
/-- a law as the draft has it at place p -/
def lwAt (S : ms_S) (p : Nat) (q : tDQ) : Prop := S.1 p 3 = nI q.1 ∧ S.1 p 4 = bI (dyQ q) ∧ ∀ j, j < q.1 → S.2.2.2.1 (p + 1) j = knE (q.2 j)
/-- what reading a law leaves as it was -/
def rdF (p : Nat) (S X : ms_S) : Prop := (∀ a, Nat.beq a 1 = false → aRd p a = false → X.1 a = S.1 a) ∧ (∀ a, aRd p a = false → X.2.1 a = S.2.1 a ∧ X.2.2.2.1 a = S.2.2.2.1 a ∧ X.2.2.2.2 a = S.2.2.2.2 a) ∧ (∀ k, k < 4 → X.1 1 k = S.1 1 k) ∧ X.2.2.1 = S.2.2.1
theorem rdF.rf {p : Nat} {S : ms_S} : rdF p S S := ⟨fun _ _ _ => rfl, fun _ _ => ⟨rfl, rfl, rfl⟩, fun _ _ => rfl, rfl⟩
theorem rdF.tr {p : Nat} {S1 S2 S3 : ms_S} (h1 : rdF p S1 S2) (h2 : rdF p S2 S3) : rdF p S1 S3 := ⟨fun a q1 q2 => (h2.1 a q1 q2).trans (h1.1 a q1 q2), fun a q => ⟨(h2.2.1 a q).1.trans (h1.2.1 a q).1, (h2.2.1 a q).2.1.trans (h1.2.1 a q).2.1, (h2.2.1 a q).2.2.trans (h1.2.1 a q).2.2⟩, fun k q => (h2.2.2.1 k q).trans (h1.2.2.1 k q), h2.2.2.2.trans h1.2.2.2⟩
theorem rdF.tp {p : Nat} {S S' : ms_S} (h : tpB S S') : rdF p S S' := ⟨fun a q _ => h.1 a (fun z => by rw [z] at q; cases q), fun a _ => by rw [h.2.2]; exact ⟨rfl, rfl, rfl⟩, fun k hk => h.2.1 k (Or.inl hk), by rw [h.2.2]⟩
theorem rd_1 {p : Nat} (hp : pLw p) : aRd p 1 = false ∧ aRd p 2 = false ∧ aRd p 3 = false := by rcases hp with rfl | rfl | rfl <;> exact ⟨rfl, rfl, rfl⟩
theorem rdF.lr {p : Nat} (hp : pLw p) {S T : ms_S} (f : cF aQL (rsS (eR p) S) T) : rdF p S (mgS (eR p) S T) ∧ (mgS (eR p) S T).1 1 = S.1 1 := by
  have g : cF (aRd p) S (mgS (eR p) S T) := mg_cF f eR_a
  have e1 := g.1 1 (rd_1 hp).1
  exact ⟨⟨fun a _ q => g.1 a q, fun a q => ⟨g.2.1 a q, g.2.2.1 a q, g.2.2.2.1 a q⟩, fun k _ => congrFun e1 k, g.2.2.2.2⟩, e1⟩
/-- what holds while a law is read -/
def vRd (p : Nat) (b : Nat → Nat) (n i : Nat) (u : tSU) (X : ms_S) : Prop := bTx (rsS e_TpB X) b n ∧ bTk (rsS e_TpB X) (tk b n i) ∧ jLR (rsS (eR p) X) u ∧ X.2.2.1 55 6 = p
theorem jLR_c {X Y : ms_S} {u : tSU} (h : jLR X u) (h3 : Y.1 3 = X.1 3) (h5 : Y.1 5 = X.1 5) (h4 : Y.2.2.2.1 4 = X.2.2.2.1 4) (h6 : Y.2.2.2.1 6 = X.2.2.2.1 6) : jLR Y u := by
  unfold jLR jLW at h ⊢
  rw [h3, h5, h4, h6]
  exact h
theorem jLR_mg {p : Nat} (hp : pLw p) {S T : ms_S} {u : tSU} (h : jLR T u) : jLR (rsS (eR p) (mgS (eR p) S T)) u :=
  jLR_c h (rs_mg (eR_i hp).2 (V := S.1) (T := T.1) (k := 3) (show 3 < 9 by decide)) (rs_mg (eR_i hp).2 (V := S.1) (T := T.1) (k := 5) (show 5 < 9 by decide)) (rs_mg (eR_i hp).2 (V := S.2.2.2.1) (T := T.2.2.2.1) (k := 4) (show 4 < 9 by decide)) (rs_mg (eR_i hp).2 (V := S.2.2.2.1) (T := T.2.2.2.1) (k := 6) (show 6 < 9 by decide))
theorem jLR_tp {p : Nat} (hp : pLw p) {S S' : ms_S} {u : tSU} (f : tpB S S') (h : jLR (rsS (eR p) S) u) : jLR (rsS (eR p) S') u := by
  refine jLR_c h (f.1 55 (by decide)) (f.1 p (by rcases hp with rfl | rfl | rfl <;> decide)) ?_ ?_
  · show S'.2.2.2.1 56 = S.2.2.2.1 56
    rw [f.2.2]
  · show S'.2.2.2.1 (p + 1) = S.2.2.2.1 (p + 1)
    rw [f.2.2]
theorem vRd_lr {p : Nat} (hp : pLw p) {b : Nat → Nat} {n i : Nat} {u u' : tSU} {S T : ms_S} (h : vRd p b n i u S) (f : cF aQL (rsS (eR p) S) T) (j : jLR T u') : vRd p b n i u' (mgS (eR p) S T) := by
  obtain ⟨h1, h2, h3, h4⟩ := h
  obtain ⟨g1, g2⟩ := rdF.lr hp f
  refine ⟨bTx_B h1 (congrFun g2 3) (g1.2.1 2 (rd_1 hp).2.1).2.1 (g1.2.1 3 (rd_1 hp).2.2).2.1, ?_, jLR_mg hp j, h4⟩
  unfold bTk at h2 ⊢
  rw [show (rsS e_TpB (mgS (eR p) S T)).1 0 = (rsS e_TpB S).1 0 from g2]
  exact h2
section READL
variable {G : ab_G} {tl : ab_H} {p : Nat} {b : Nat → Nat} {n f : Nat}
theorem u_adv2 (hp : pLw p) {i : Nat} {u : tSU} {S : ms_S} (hi : i ≤ n) (hN : tkN b n i ≤ n) (h : vRd p b n i u S) (K : ms_S → Prop) (k : ∀ S', rdF p S S' → vRd p b n (tkN b n i) u S' → K S') : ctU G 3 M_X10_advance false [.ref 1] lB S tl K :=
  u_advB G h.1 hN h.2.1.2.2.1 K (fun S' t0 t1 t2 => k S' (rdF.tp t0) ⟨t1, t2, jLR_tp hp t0 h.2.2.1, by rw [show S'.2.2.1 = S.2.2.1 by rw [t0.2.2]]; exact h.2.2.2⟩)
set_option maxHeartbeats 1000000 in
theorem u_readL0 (hp : pLw p) (hb : ∀ j, j < n → b j < 256) (K : Int32 → ms_S → Prop) {S0 : ms_S} {R : Except (Nat × Nat) (tDQ × Nat)}
    (kE : ∀ S' e p', (e = 1 ∨ e = 2) → R = .error (e, p') → S'.1 1 6 = nI p' → rdF p S0 S' → K (nI e) S')
    (kN : ∀ S' j, R = .error (1, tkP b n j) → ¬ tT b n j = 34 → bTx (rsS e_TpB S') b n → bTk (rsS e_TpB S') (tk b n j) → rdF p S0 S' → K (nI 0) S')
    (kO : ∀ S' q j, R = .ok (q, j) → tT b n j = 34 → j ≤ n → bTx (rsS e_TpB S') b n → bTk (rsS e_TpB S') (tk b n j) → rdF p S0 S' → lwAt S' p q → vQ q → f + q.1 ≤ 64 → K (nI 0) S') (n0 : Nat) :
    ∀ t c i (u : tSU) (X : ms_S) (m : Int32), c + t = 701 → c ≤ i → i ≤ n → vRd p b n i u X → rdF p S0 X → iPu f u → (u.2.2.2.2.1 = true → m = bI u.2.2.2.2.2) → sumS b n t u i = R → L_X5_read_40 G false n0 tl K X (bI u.2.2.2.2.1) m (nI c) := by
  intro t
  induction t with
  | zero =>
    intro c i u X m hc hci hin hv hf hP hm hR
    have := hv.1.1
    omega
  | succ t ih =>
    intro c i u X m hc hci hin hv hf hP hm hR
    have hn := hv.1.1
    obtain ⟨l1, l2, l3, l4, l5, l6⟩ := iPu_len hP
    obtain ⟨a1, a2, a3, a4, a5, a6⟩ := tk_qA b n i
    obtain ⟨b1, b2, b3, b4⟩ := tk_qB b n i
    obtain ⟨v1, v2, v3, v4⟩ := id hv
    have eT : X.1 1 5 = nI (tT b n i) := v2.1
    have eP : X.1 1 6 = nI (tkP b n i) := v2.2.1
    rw [sumS_s] at hR
    have tkc : tkN b n i ≤ n := (tk_b hb hin hn).2.2.2.2.1
    have tkd : ¬ tkK b n i = 0 → i < tkN b n i := (tk_b hb hin hn).2.2.2.2.2
    have KN : ∀ (u' : tSU) (m' : Int32) (X' : ms_S), ¬ tkK b n i = 0 → vRd p b n i u' X' → rdF p S0 X' → iPu f u' → (u'.2.2.2.2.1 = true → m' = bI u'.2.2.2.2.2) → sumS b n t u' (tkN b n i) = R → L_X5_read_214 G false n0 tl K X' (bI u'.2.2.2.2.1) m' (nI c) := by
      intro u' m' X' hk hv' hf' hP' hm' hR'
      have tkd := tkd hk
      refine b_X5_read_214 (u_adv2 hp hin (by omega) hv' _ (fun S' s0 s1 => ?_))
      rw [nI_add]
      exact ih (c + 1) _ u' S' m' (by omega) (by omega) (by omega) s1 (hf'.tr s0) hP' hm' hR'
    refine b_X5_read_40 ?_
    rw [eT, nI_ltI (by decide) (by omega), x_b0]
    refine ⟨fun z => absurd z (by omega), fun _ => ⟨fun hw => ?_, fun hw => ?_⟩⟩
    · rw [hw] at hR hm ⊢
      rw [if_neg (c := false = true) Bool.false_ne_true, Bool.not_false, Bool.true_and] at hR
      have K150 : ∀ m', sgK b n i = 0 → ¬ (tT b n i = 33 ∧ 0 < u.2.2.1) → L_X5_read_150 G false n0 tl K X (bI false) m' (nI c) (nI (tT b n i)) := by
        intro m' h0 h33
        refine b_X5_read_150 ⟨fun _ => ?_, fun q => absurd rfl q⟩
        refine lrT (as' := [.ref 3]) hp v4 rfl (fun G' => u_finL (S := rsS (eR p) X) v3 hP hw _ (fun ho => ?_) (fun ho T f0 f1 f2 f3 => ?_))
        · rw [mgS_rs]
          rw [decide_eq_false (p := u.2.2.1 = 0) ho, Bool.and_false, if_neg Bool.false_ne_true, sg_op h33 h0] at hR
          exact kE X 1 _ (Or.inl rfl) hR.symm eP hf
        · obtain ⟨g1, g2⟩ := rdF.lr hp f0
          have hv' := vRd_lr hp hv f0 (u' := u)
          rw [decide_eq_true ho, Bool.and_true] at hR
          have x1 : bTx (rsS e_TpB (mgS (eR p) X T)) b n := bTx_B v1 (congrFun g2 3) (g1.2.1 2 (rd_1 hp).2.1).2.1 (g1.2.1 3 (rd_1 hp).2.2).2.1
          have x2 : bTk (rsS e_TpB (mgS (eR p) X T)) (tk b n i) := by
            unfold bTk at v2 ⊢
            rw [show (rsS e_TpB (mgS (eR p) X T)).1 0 = (rsS e_TpB X).1 0 from g2]
            exact v2
          by_cases z : tT b n i = 34
          · rw [decide_eq_true z, if_pos rfl] at hR
            refine kO _ _ i hR.symm z hin x1 x2 (hf.tr g1) ?_ f2 (by omega)
            have e5 : (mgS (eR p) X T).1 p = T.1 5 := rs_mg (eR_i hp).2 (V := X.1) (T := T.1) (k := 5) (show 5 < 9 by decide)
            have e6 : (mgS (eR p) X T).2.2.2.1 (p + 1) = T.2.2.2.1 6 := rs_mg (eR_i hp).2 (V := X.2.2.2.1) (T := T.2.2.2.1) (k := 6) (show 6 < 9 by decide)
            unfold lwAt
            rw [e5, e6]
            exact ⟨f1.1, f1.2.1, f1.2.2.1⟩
          · rw [decide_eq_false z, if_neg Bool.false_ne_true, sg_op h33 h0] at hR
            exact kN _ i hR.symm z x1 x2 (hf.tr g1)
      refine u_isSgn a1 _ ?_
      rw [x_b0]
      refine ⟨fun z => ?_, fun z => ?_⟩
      · have z := of_decide_eq_false z
        have h0 : sgK b n i = 0 := b3.mpr z
        rw [nI_eq (b := 33) (by omega) (by decide)]
        refine ⟨fun y => ?_, fun y => K150 m h0 (fun q => y q.1)⟩
        rw [show X.1 55 3 = nI u.2.2.1 from v3.2.1, show (0 : Int32) = nI 0 from rfl, nI_leI (by omega) (by decide)]
        refine ⟨fun x => K150 m h0 (fun q => by omega), fun x => b_X5_read_83 ?_⟩
        rw [nI_eq (b := 33) (by omega) (by decide)]
        refine ⟨fun _ => ?_, fun q => absurd y q⟩
        rw [decide_eq_false (p := tT b n i = 34) (by omega), if_neg (show ¬ (false && decide (u.2.2.1 = 0)) = true from Bool.false_ne_true), sg_cl y (by omega), bE_ok] at hR
        refine lrT (as' := [.ref 3]) hp v4 rfl (fun G' => u_clsP (S := rsS (eR p) X) v3 hP (by omega) _ (fun T f0 f1 => b_X5_read_103 ?_))
        rw [nI_eq (b := 33) (by omega) (by decide)]
        refine ⟨fun _ => ⟨fun _ => b_X5_read_125 ?_, fun q => absurd y q⟩, fun q => absurd rfl q⟩
        rw [nI_eq (b := 9) (by omega) (by decide), nI_eq (b := 8) (by omega) (by decide)]
        refine ⟨fun q => absurd q (by omega), fun _ => ⟨fun q => absurd q (by omega), fun _ => b_X5_read_145 ?_⟩⟩
        have h9 := KN ((bdW 1 u.2.1 u.1).1, (bdW 1 u.2.1 u.1).2.tail, u.2.2.1 - 1, u.2.2.2.1, u.2.2.2.2.1, u.2.2.2.2.2) (nI 0) _ (fun q => by rw [(tk_qC b n i).1.mp q] at y; omega) (vRd_lr hp hv f0 f1) (hf.tr (rdF.lr hp f0).1) (iPu_cls hP hw (by omega)) (fun q => by rw [show u.2.2.2.2.1 = true from q] at hw; cases hw) hR
        rw [show (((bdW 1 u.2.1 u.1).1, (bdW 1 u.2.1 u.1).2.tail, u.2.2.1 - 1, u.2.2.2.1, u.2.2.2.2.1, u.2.2.2.2.2) : tSU).2.2.2.2.1 = false from hw] at h9
        exact h9
      · have z := of_decide_eq_true (nf_t z)
        have h0 : ¬ sgK b n i = 0 := fun q => b3.mp q z
        obtain ⟨s1, s2⟩ := sgN_b b n i h0
        obtain ⟨r1, r2, r3, r4, r5, r6, r7, r8⟩ := rk_s s1 s2
        have eW := b4 h0
        rw [decide_eq_false (p := tT b n i = 34) (by omega), if_neg (show ¬ (false && decide (u.2.2.1 = 0)) = true from Bool.false_ne_true)] at hR
        refine b_X5_read_83 ?_
        rw [nI_eq (b := 33) (by omega) (by decide)]
        refine ⟨fun q => absurd q (by omega), fun _ => ?_⟩
        refine lrT (as' := [.ref 3, .int (nI (tT b n i))]) hp v4 rfl (fun G' => u_addSgn (S := rsS (eR p) X) v3 hP hw h0 _ (fun e T he hE f0 => b_X5_read_103 ⟨fun q => ?_, fun _ => ?_⟩) (fun T u' hO f0 f1 => b_X5_read_103 ?_))
        · exfalso
          rcases he with rfl | rfl <;> exact absurd q (by decide)
        · rw [hE, bE_er] at hR
          exact kE _ e _ he hR.symm ((congrFun (rdF.lr hp f0).2 6).trans eP) (hf.tr (rdF.lr hp f0).1)
        · rw [hO, bE_ok] at hR
          obtain ⟨w1, w2⟩ := sg_wt h0 hO
          rw [nI_eq (b := 33) (by omega) (by decide)]
          refine ⟨fun _ => ⟨fun q => absurd q (by omega), fun _ => b_X5_read_125 ?_⟩, fun q => absurd rfl q⟩
          rw [nI_eq (b := 9) (by omega) (by decide), nI_eq (b := 8) (by omega) (by decide)]
          have h9 : ∀ m', m' = bI u'.2.2.2.2.2 → L_X5_read_214 G false n0 tl K (mgS (eR p) X T) (nI 1) m' (nI c) := by
            intro m' em
            have h9 := KN u' m' _ (fun q => by have := (tk_qC b n i).1.mp q; omega) (vRd_lr hp hv f0 f1) (hf.tr (rdF.lr hp f0).1) (iPu_sign hP hw hO) (fun _ => em) hR
            rw [w1] at h9
            exact h9
          rw [w2] at h9
          have h8 : (tT b n i = 8 ∨ tT b n i = 9) → L_X5_read_140 G false n0 tl K (mgS (eR p) X T) (nI 1) (nI c) := fun q => b_X5_read_140 (b_X5_read_145 (h9 _ (by rw [decide_eq_true (r5.mpr (by omega))]; rfl)))
          exact ⟨fun q => h8 (Or.inr q), fun q9 => ⟨fun q => h8 (Or.inl q), fun q8 => b_X5_read_145 (h9 _ (by rw [decide_eq_false (fun w => by have := r5.mp w; omega)]; rfl))⟩⟩
    · have hw := nf_t hw
      have em := hm hw
      rw [hw] at hR ⊢
      rw [Bool.not_true, Bool.false_and, Bool.and_false, if_neg Bool.false_ne_true, if_pos rfl] at hR
      refine b_X5_read_150 ⟨fun q => absurd q (by decide), fun _ => ?_⟩
      rw [em, x_b0, nI_eq (b := 10) (by omega) (by decide)]
      have K175 : (tT b n i = 10 → u.2.2.2.2.2 = true) → L_X5_read_175 G false n0 tl K X (nI c) (nI (tT b n i)) := by
        intro h10
        refine b_X5_read_175 (lrT (as' := [.ref 3, .int (nI (tT b n i))]) hp v4 rfl (fun G' => u_addVal (S := rsS (eR p) X) (b := b) (n := n) (i := i) v3 hP v2 h10 _ (fun e he hE => b_X5_read_181 ⟨fun q => ?_, fun _ => ?_⟩) (fun T u' hO f0 f1 => b_X5_read_181 ?_)))
        · exfalso
          rcases he with rfl | rfl <;> exact absurd q (by decide)
        · rw [hE, bE_er] at hR
          rw [mgS_rs]
          exact kE _ e _ he hR.symm eP hf
        · rw [hO, bE_ok] at hR
          obtain ⟨w1, w2⟩ := leafS_w hw hO
          have hk := (leafS_j hO).2
          rw [nI_eq (b := 10) (by omega) (by decide), nI_eq (b := 32) (by omega) (by decide)]
          have h9 : ∀ m', (u'.2.2.2.2.1 = true → m' = bI true) → L_X5_read_214 G false n0 tl K (mgS (eR p) X T) (bI u'.2.2.2.2.1) m' (nI c) := fun m' e9 => KN u' m' _ hk (vRd_lr hp hv f0 f1) (hf.tr (rdF.lr hp f0).1) (iPu_leaf hP hw hO) (fun q => by rw [w2 q]; exact e9 q) hR
          have h8 : (tT b n i = 10 ∨ tT b n i = 32) → L_X5_read_205 G false n0 tl K (mgS (eR p) X T) (nI c) := fun q => by
            refine b_X5_read_205 (b_X5_read_210 ?_)
            have := h9 (nI 1) (fun _ => rfl)
            rw [w1, decide_eq_true q] at this
            exact this
          refine ⟨fun _ => ⟨fun q => h8 (Or.inl q), fun q10 => ⟨fun q => h8 (Or.inr q), fun q32 => b_X5_read_210 ?_⟩⟩, fun q => absurd rfl q⟩
          have := h9 (nI 0) (fun q => by rw [w1, decide_eq_false (by omega)] at q; cases q)
          rw [w1, decide_eq_false (by omega)] at this
          exact this
      refine ⟨fun q => ⟨fun y => b_X5_read_181 ⟨fun w => absurd w (by decide), fun _ => ?_⟩, fun y => K175 (fun _ => nf_t y)⟩, fun q => K175 (fun w => absurd w q)⟩
      rw [leafS_n q y, bE_er] at hR
      exact kE X 1 _ (Or.inl rfl) hR.symm eP hf
end READL

