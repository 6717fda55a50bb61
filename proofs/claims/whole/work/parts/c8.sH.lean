/-! ===== the program: giving, trading, laying ===== -/
theorem bQ_E {S T : ms_S} {g : tSG} {o : Nat → Option tDQ} {V : Nat} {s' : tES} (h : bQ S g o V) (f : cF aEs (cN S) T) (hE : bES T g.1.1 s' g.1.2.2.2.2) (hs : s'.2.2.2 = g.1.2.2.2.1.2.2.2) : bQ (mgS e_CN S T) (gS g s' g.1.2.2.2.2 g.2.1 g.2.2.1) o V := by
  have g1 : cF (aEd 82) S (mgS e_CN S T) := mg_cF f (by decide)
  have c1 := cN_mg (S := S) (T := T) f.2.2.2.2
  have e1 := bEs_N.mp (bES_F c1 ⟨rfl, rfl, rfl, rfl⟩ hE)
  generalize mgS e_CN S T = S1 at g1 c1 e1
  obtain ⟨h1, h2, h3, h4, h5, h6, h7, h8⟩ := id h
  refine bQ_X h g1 (fun a ha => aEd_n (by omega)) e1 (by rw [hs]; exact h5) (bQi_F h6 (g1.1 0 rfl) (fun a q1 q2 => g1.1 a (aEd_n (by omega))) (fun a q1 q2 => g1.2.2.1 a (aEd_n (by omega)))) ?_ (congrFun (g1.1 0 rfl) 15) (congrFun (g1.1 0 rfl) 16)
  have h9 := bQu_F h7 (congrFun (g1.1 0 rfl) 12) (congrFun (g1.1 0 rfl) 13) (fun a q => g1.1 a (aEd_n (by omega))) (fun a q => g1.2.2.1 a (aEd_n (by omega)))
  unfold bQu at h9 ⊢
  rw [hs]
  exact h9
theorem ho_w {P : tPL} {s : tES} {p : Nat} (h : hoOk P s) (hp : p < P.1) (h3 : ¬ s.1 p = -(nI 3)) : whO P (s.1 p) := by
  rcases h p hp with q | q | ⟨j, h1, h2⟩
  · exact Or.inl q
  · exact absurd q h3
  · exact Or.inr ⟨j, h1, h2⟩
section ACTS
variable {G : ab_G} {tl : ab_H} {S : ms_S} {g : tSG} {o : Nat → Option tDQ} {V : Nat}
theorem d_give (hQ : bQ S g o V) (p h : Int32) : ctI G 6 M_X11_give false [.ref 0, .int p, .int h] lB S tl (fun v S' => bQ S' (N_give g p h) o (V + 5000) ∧ v = bI (giK g p h)) := by
  refine ctI.ab (fun K hK => m_X11_give (fun n0 => u_pc hQ.1.1.2.2.1 p _ ?_))
  have p5 := hQ.1.1.2.1
  have p9 := hQ.1.1.1
  unfold N_give at hK
  have hN : ∀ X, bQ X g o V → giK g p h = false → K (nI 0) X := fun X qX q => hK _ _ ⟨by rw [q, if_neg Bool.false_ne_true]; exact bQ_m qX (by omega), by rw [q]; rfl⟩
  rw [x_b0]
  refine ⟨fun z => b_X11_give_21 (hN S hQ (by unfold giK; rw [z, Bool.false_and])), fun z => ?_⟩
  have z := nf_t z
  obtain ⟨i, hi, rfl⟩ := pc_t p9 z
  have hcl : cl (nI i) = i := nI_clamp (by omega)
  rw [hcl] at hK
  have eK : giK g (nI i) h = (decide (¬ g.1.2.2.2.1.1 i = -(nI 3)) && (if h = -(nI 1) then decide (¬ g.1.2.2.2.1.1 i = -(nI 2)) else hrK g.1.1 h && (decide (¬ g.1.2.2.2.1.1 i = h) && mayK g.1.1 g.1.2.2.2.1 false (cl h) i))) := by
    unfold giK
    rw [z, hcl, Bool.true_and]
  have hho := hQ.2.2.2.1.2.2.2.2.2.2.2.2.2.1
  have K85 : ∀ X y, bQ X g o V → whO g.1.1 y → ¬ g.1.2.2.2.1.1 i = -(nI 3) → giK g (nI i) h = true → y = (if h = -(nI 1) then -(nI 2) else h) → L_X11_give_85 G false n0 tl K X (nI i) (g.1.2.2.2.1.1 i) y := by
    intro X y qX hy h3 hg ey
    rw [hg, if_pos rfl] at hK
    refine b_X11_give_85 (u_rem qX _ (fun S1 q1 _ => ?_))
    refine ctU.tr e_CN e_CN_i e_CN_n (as' := [.ref 46, .int (nI i), .int (g.1.2.2.2.1.1 i), .int y]) rfl (fun G' => u_move (G := G') (S := cN S1) false q1.1.1 q1.2.2.2.1 i hi _ y rfl (ho_w hho hi h3) hy _ (fun T f e => hK _ _ ⟨bQ_m (V := V) ?_ (by omega), rfl⟩))
    rw [← ey]
    exact bQ_E q1 f e rfl
  have K43 : ∀ y, whO g.1.1 y → y = (if h = -(nI 1) then -(nI 2) else h) → (h = -(nI 1) ∨ hrK g.1.1 h = true) → L_X11_give_43 G false n0 tl K S (nI i) (g.1.2.2.2.1.1 i) y := by
    intro y hy ey hh
    refine b_X11_give_43 ⟨fun e => b_X11_give_57 (hN S hQ (by rw [eK, decide_eq_false (fun q => q e), Bool.false_and])), fun e3 => ⟨fun e => b_X11_give_57 (hN S hQ ?_), fun e2 => ⟨fun e => ?_, fun e => ?_⟩⟩⟩
    · rw [eK]
      by_cases w : h = -(nI 1)
      · rw [if_pos w] at ey ⊢
        rw [ey] at e
        rw [decide_eq_false (p := ¬ g.1.2.2.2.1.1 i = -(nI 2)) (fun q => q e), Bool.and_false]
      · rw [if_neg w] at ey ⊢
        rw [ey] at e
        rw [decide_eq_false (p := ¬ g.1.2.2.2.1.1 i = h) (fun q => q e), Bool.false_and, Bool.and_false, Bool.and_false]
    · have w : h = -(nI 1) := by
        apply Decidable.byContradiction
        intro w
        rw [if_neg w] at ey
        obtain ⟨j, hj, ej⟩ := hr_t p5 (hh.resolve_left w)
        rw [ey, ej] at e
        exact n2_ne j (by omega) e.symm
      refine K85 S y hQ hy e3 ?_ ey
      rw [eK, if_pos w, decide_eq_true e3, decide_eq_true (by rw [← e]; exact e2)]
      rfl
    · have w : ¬ h = -(nI 1) := fun w => by rw [if_pos w] at ey; exact e ey
      have hr := hh.resolve_left w
      rw [if_neg w] at ey
      obtain ⟨j, hj, rfl⟩ := hr_t p5 hr
      subst ey
      have hcj : cl (nI j) = j := nI_clamp (by omega)
      rw [if_neg w, hr, decide_eq_true e3, decide_eq_true e2, hcj, Bool.true_and, Bool.true_and, Bool.true_and] at eK
      refine ctI.tr e_CN e_CN_i e_CN_n (as' := [.ref 31, .ref 46, .int (nI i), .int (nI j)]) rfl (fun G' => u_may (G := G') (S := cN S) hQ.1.1 hQ.2.2.2.1 i j hi hj false hQ.2.1.2.2.2 _ (fun T f => ?_))
      have q1 := bQ_nw hQ f (by decide) rfl rfl rfl rfl rfl rfl rfl
      rw [x_b0]
      refine ⟨fun x => hN _ q1 (by rw [eK, x]), fun x => K85 _ _ q1 hy e3 (by rw [eK]; exact nf_t x) (by rw [if_neg w])⟩
  have K23 : (h = -(nI 1) ∨ hrK g.1.1 h = true) → L_X11_give_23 G false n0 tl K S (nI i) h := by
    intro hh
    refine b_X11_give_23 (ctI.tr e_CN e_CN_i e_CN_n (as' := [.ref 46, .int (nI i)]) rfl (fun G' => u_holder (G := G') (S := cN S) false hQ.1.1 hQ.2.2.2.1 i hi _ ?_))
    rw [mgS_rs]
    refine ⟨fun w => K43 _ (Or.inl rfl) (by rw [if_pos w]) hh, fun w => K43 _ ?_ (by rw [if_neg w]) hh⟩
    exact Or.inr (hr_t p5 (hh.resolve_left w))
  refine ⟨fun y => K23 (Or.inl y), fun y => u_hr hQ.1.1.2.2.2.1 h _ ?_⟩
  rw [x_b0]
  refine ⟨fun x => b_X11_give_21 (hN S hQ (by rw [eK, if_neg y, x, Bool.false_and, Bool.and_false])), fun x => K23 (Or.inr (nf_t x))⟩
theorem d_trade (hQ : bQ S g o V) (p q : Int32) : ctI G 7 M_X11_trade false [.ref 0, .int p, .int q] lB S tl (fun v S' => bQ S' (N_trade g p q) o (V + 5000) ∧ v = bI (tdK g p q)) := by
  refine ctI.ab (fun K hK => m_X11_trade (fun n0 => u_pc hQ.1.1.2.2.1 p _ ?_))
  have p9 := hQ.1.1.1
  unfold N_trade at hK
  have hN : ∀ X, bQ X g o V → tdK g p q = false → K (nI 0) X := fun X qX q => hK _ _ ⟨by rw [q, if_neg Bool.false_ne_true]; exact bQ_m qX (by omega), by rw [q]; rfl⟩
  rw [x_b0]
  refine ⟨fun z => b_X11_trade_32 (hN S hQ (by unfold tdK; rw [z, Bool.false_and])), fun z => u_pc hQ.1.1.2.2.1 q _ ?_⟩
  have z := nf_t z
  rw [x_b0]
  refine ⟨fun y => b_X11_trade_32 (hN S hQ (by unfold tdK; rw [y, Bool.false_and, Bool.and_false])), fun y => ?_⟩
  have y := nf_t y
  obtain ⟨i, hi, rfl⟩ := pc_t p9 z
  obtain ⟨j, hj, rfl⟩ := pc_t p9 y
  have hci : cl (nI i) = i := nI_clamp (by omega)
  have hcj : cl (nI j) = j := nI_clamp (by omega)
  rw [hci, hcj] at hK
  have hho := hQ.2.2.2.1.2.2.2.2.2.2.2.2.2.1
  have eK : tdK g (nI i) (nI j) = trK g.1.1 g.1.2.2.2.1 false i j := by
    unfold tdK
    rw [z, y, hci, hcj, Bool.true_and, Bool.true_and]
    by_cases w : nI i = nI j
    · have w2 := (nI_eq (by omega) (by omega)).mp w
      subst w2
      rw [decide_eq_false (fun q => q rfl), Bool.false_and]
      unfold trK
      rw [decide_eq_false (p := ¬ g.1.2.2.2.1.1 i = g.1.2.2.2.1.1 i) (fun q => q rfl), Bool.false_and, Bool.and_false, Bool.and_false]
    · rw [decide_eq_true w, Bool.true_and]
  refine ctI.tr e_CN e_CN_i e_CN_n (as' := [.ref 36, .ref 46, .int (nI i), .int (nI j)]) rfl (fun G' => u_can (G := G') (S := cN S) hQ.1.1 hQ.2.2.2.1 false hQ.2.1.2.2.2 i j hi hj _ (fun T f => ?_))
  have q1 := bQ_nw hQ f (by decide) rfl rfl rfl rfl rfl rfl rfl
  rw [x_b0]
  refine ⟨fun x => b_X11_trade_32 (hN _ q1 (by rw [eK, x])), fun x => ?_⟩
  have x := nf_t x
  rw [eK, x, if_pos rfl] at hK
  unfold trK at x
  simp only [Bool.and_eq_true, decide_eq_true_eq] at x
  obtain ⟨x1, x2, x3, -⟩ := x
  refine u_rem q1 _ (fun S1 q2 _ => ?_)
  refine ctU.tr e_CN e_CN_i e_CN_n (as' := [.ref 46, .int (nI i), .int (nI j)]) rfl (fun G' => u_change (G := G') (S := cN S1) q2.1.1 q2.2.2.2.1 i j hi hj (ho_w hho hi (fun e => x1 (by rw [e]; decide))) (ho_w hho hj (fun e => x2 (by rw [e]; decide))) x3 _ (fun T2 f2 e => hK _ _ ⟨bQ_m (V := V) (bQ_E q2 f2 e rfl) (by omega), rfl⟩))
theorem wr_b {P : tPL} {s : tES} {h f e : Nat} (hw : ∀ p, p < P.1 → P.2.2.2.2.1 p ≤ 99) (hp : P.1 ≤ 9) : wrK P s h f e ≤ 9999 := by
  have h1 := wsN_le P (heldN s.1 (nI h) P.1) hw P.1 (Nat.le_refl _)
  unfold wrK
  split
  · split
    · omega
    · exact cutK_le _
  · omega
theorem ds_b {P : tPL} {s : tES} {jb : Nat → Nat} {h f e : Nat} {acc : Option (Nat × Nat × Nat)} (hw : ∀ p, p < P.1 → P.2.2.2.2.1 p ≤ 99) (hp : P.1 ≤ 9) (ha : ∀ q, acc = some q → q.1 ≤ 9999) : ∀ q, dst P s jb h f e acc = some q → q.1 ≤ 9999 := by
  intro q hq
  have hb := wr_b (P := P) (s := s) (h := h) (f := f) (e := e) hw hp
  unfold dst at hq
  split at hq
  · cases hc : acc with
    | none =>
      rw [hc] at hq
      cases hq
      exact hb
    | some r =>
      rw [hc] at hq
      dsimp only at hq
      split at hq
      · cases hq
        exact hb
      · cases hq
        exact ha _ hc
  · exact ha q hq
theorem dI_b {P : tPL} {s : tES} {jb : Nat → Nat} {h f : Nat} {acc : Option (Nat × Nat × Nat)} (hw : ∀ p, p < P.1 → P.2.2.2.2.1 p ≤ 99) (hp : P.1 ≤ 9) (ha : ∀ q, acc = some q → q.1 ≤ 9999) : ∀ e q, dIn P s jb h f acc e = some q → q.1 ≤ 9999
  | 0, q, hq => ha q hq
  | e + 1, q, hq => ds_b hw hp (dI_b hw hp ha e) q hq
theorem dO_b {P : tPL} {s : tES} {jb : Nat → Nat} {h : Nat} (hw : ∀ p, p < P.1 → P.2.2.2.2.1 p ≤ 99) (hp : P.1 ≤ 9) : ∀ f q, dOut P s jb h f = some q → q.1 ≤ 9999
  | 0, q, hq => by cases hq
  | f + 1, q, hq => dI_b hw hp (dO_b hw hp f) 7 q hq
theorem yr_b {P : tPL} {s : tES} {aj : Bool} {nd h d : Nat} (hw : ∀ p, p < P.1 → P.2.2.2.2.1 p ≤ 99) (hp : P.1 ≤ 9) (e : yrK P s aj nd h = some d) : d ≤ 9999 := by
  unfold yrK at e
  split at e
  · cases e
  · cases hc : dOut P s (jbK P s.2.2.2.2 aj) h 7 with
    | none => rw [hc] at e; cases e
    | some q =>
      rw [hc] at e
      cases e
      exact dO_b hw hp 7 q hc
theorem d_lay (hQ : bQ S g o V) (hV : V + 5000 < 2 ^ 30) (h : Int32) : ctI G 7 M_X11_lay false [.ref 0, .int h] lB S tl (fun v S' => bQ S' (N_lay g h) o (V + 5000) ∧ v = A_lay g h) := by
  refine ctI.ab (fun K hK => m_X11_lay (fun n0 => u_hr hQ.1.1.2.2.2.1 h _ ?_))
  have p5 := hQ.1.1.2.1
  have p9 := hQ.1.1.1
  unfold N_lay A_lay at hK
  rw [x_b0]
  refine ⟨fun z => hK _ _ ?_, fun z => ?_⟩
  · have e : lyK g h = none := by unfold lyK; rw [z, if_neg Bool.false_ne_true]
    rw [e, z, if_neg Bool.false_ne_true]
    exact ⟨bQ_m hQ (by omega), rfl⟩
  have z := nf_t z
  obtain ⟨j, hj, rfl⟩ := hr_t p5 z
  have hcj : cl (nI j) = j := nI_clamp (by omega)
  have eL : lyK g (nI j) = yrK g.1.1 g.1.2.2.2.1 false g.1.2.2.1 j := by
    unfold lyK
    rw [if_pos z, hcj]
    rfl
  rw [if_pos z, eL, hcj] at hK
  refine u_toldB hQ.q0 _ (fun S1 q1 o1 _ _ => u_cpT q1.q0 _ (fun S2 q2 f2 t2 => ?_))
  have o2 : bOP (cN S2) (opP g.1.2.2.1) := bOP_F2 o1 (f2.1 72 rfl) (congrFun (f2.1 67 rfl) 6) (congrFun (f2.1 67 rfl) 7)
  obtain ⟨w1, v, jb, w2, w3⟩ := id q2.2.1
  have c0 := (cNT (S := S2)).1
  have hO' : bOP (cT S2) (opP g.1.2.2.1) := bOP_F2 o2 (c0.1 36 rfl) (congrFun (c0.1 31 rfl) 6) (congrFun (c0.1 31 rfl) 7)
  refine ctI.tr e_CT e_CT_i e_CT_n (as' := [.ref 36, .ref 46, .int (nI j)]) rfl (fun G' => u_layR (G := G') (S0 := cT S2) (S := cT S2) (bPl_F c0 ⟨rfl, rfl, rfl, rfl, rfl, rfl, rfl, rfl, rfl, rfl⟩ q2.1.1) (v := v) ⟨cF.rf, rfl, rfl, bJd_F c0 rfl rfl w1, ⟨jb, bRT_F c0 rfl rfl rfl rfl w3⟩, bEs_T.mpr t2⟩ (by omega) false hO'.2.2.1 g.1.2.2.1 hO'.2.2.2.2.2.1 hQ.1.2.2.2.2.1 j hj _ (fun T v' hv' w => ?_))
  obtain ⟨f, f6, f7, j2, ⟨jb2, r2⟩, hs2⟩ := w
  have g1 : cF aWk S2 (mgS e_CT S2 T) := mg_cF f (by decide)
  have c1 := cT_mg (S := S2) (T := T) f.2.2.2.2
  generalize mgS e_CT S2 T = S3 at g1 c1
  have c2 := (cNT (S := S3)).2
  have x31 : (cN S3).1 31 = T.1 31 := (c2.1 31 rfl).trans (c1.1 31 rfl)
  have q3 : bQ S3 g o (V + 1) := (bQ0_W q2 g1 ⟨bJd_F c2 rfl rfl (bJd_F c1 rfl rfl j2), v', jb2, by omega, bRT_F c2 rfl rfl rfl rfl (bRT_F c1 rfl rfl rfl rfl r2)⟩).q (by rw [x31, f6]; exact hO'.2.2.1) (by rw [x31, f7]; exact hO'.2.2.2.1)
  have t3 := bEs_T.mp (bES_F c1 ⟨rfl, rfl, rfl, rfl⟩ hs2)
  cases hy : yrK g.1.1 g.1.2.2.2.1 false g.1.2.2.1 j with
  | none =>
    rw [hy] at hK
    exact ⟨fun _ => b_X11_lay_62 (hK _ _ ⟨bQ_m q3 (by omega), rfl⟩), fun q => absurd rfl q⟩
  | some d =>
    rw [hy] at hK t3
    dsimp only at hK
    have hd := yr_b (fun p hp => (hQ.1.1.2.2.2.2.1 p hp).2.2.2.2.2) p9 hy
    refine ⟨fun q => ?_, fun _ => ?_⟩
    · exfalso
      have g0 : (0 : Int32) ≤ nI d := by
        rw [show (0 : Int32) = nI 0 from rfl, nI_leI (by decide) (by omega)]
        exact Nat.zero_le _
      rw [show nI d = -(nI 2) from q] at g0
      exact absurd g0 (by decide)
    · refine u_rem q3 _ (fun S4 q4 h86 => u_copyB okC_82_86 _ (fun S5 f5 hc => b_X11_lay_62 (hK _ _ ⟨bQ_m (V := V + 1) ?_ (by omega), rfl⟩)))
      have e5 := hc _ _ _ (h86 _ _ _ t3)
      obtain ⟨h1, h2, h3, h4, h5, h6, h7, h8⟩ := id q4
      have h9 := bQ_X (s' := spS g.1.1 g.1.2.2.2.1 j d) (dn' := g.1.2.2.2.2) q4 f5 (fun a ha => aEd_n (by omega)) e5 h5 (bQi_F h6 (f5.1 0 rfl) (fun a q1 q2 => f5.1 a (aEd_n (by omega))) (fun a q1 q2 => f5.2.2.1 a (aEd_n (by omega)))) (bQu_F h7 (congrFun (f5.1 0 rfl) 12) (congrFun (f5.1 0 rfl) 13) (fun a q => f5.1 a (aEd_n (by omega))) (fun a q => f5.2.2.1 a (aEd_n (by omega)))) (congrFun (f5.1 0 rfl) 15) (congrFun (f5.1 0 rfl) 16)
      exact h9
end ACTS

