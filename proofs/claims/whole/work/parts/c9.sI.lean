/-! ===== the program: days, tried otherwise, by chance ===== -/
theorem cF_67 {S : ms_S} {a k : Nat} {x : Int32} (h : a = 67 ∨ a = 72) : cF aWk S (sVa S a k x) := cF.sVa (by rcases h with rfl | rfl <;> rfl)
theorem bQ0_s {S : ms_S} {g : tSG} {o : Nat → Option tDQ} {V a k : Nat} {x : Int32} (h : bQ0 S g o V) (ha : a = 67 ∨ a = 72) : bQ0 (sVa S a k x) g o V := by
  refine bQ0_W h (cF_67 ha) ?_
  have f : cF (fun a => Nat.beq a 67 || Nat.beq a 72) S (sVa S a k x) := cF.sVa (by rcases ha with rfl | rfl <;> rfl)
  exact bQv_F (rs_cF2 (pl := e_CN) f) rfl rfl rfl rfl rfl rfl h.2.1
section DAYS2
variable {G : ab_G} {tl : ab_H} {S : ms_S} {g : tSG} {o : Nat → Option tDQ} {V : Nat}
theorem u_goN (h : bQ0 S g o V) (q : tOP) (hO : bOP (cN S) q) (n : Nat) (hn : n ≤ 99) (hU : g.2.1.1 = 0 ∨ n = 0) (hd : g.1.2.2.2.1.2.2.2.2 + n ≤ 9000) (hV : V + 5 * n < 2 ^ 30) (K : ms_S → Prop) (k : ∀ S', bQ0 S' (gS g (gmS g.1.1 g.1.2.1 q (g.1.2.2.2.1, g.1.2.2.2.2) n).1 (gmS g.1.1 g.1.2.1 q (g.1.2.2.2.1, g.1.2.2.2.2) n).2 g.2.1 g.2.2.1) o (V + 5 * n) → K S') : ctU G 7 M_X0_goOn false [.ref 72, .ref 82, .int (nI n)] lB S tl K := by
  obtain ⟨h1, h2, h3, h4, h5, h6, h7, h8⟩ := id h
  obtain ⟨w1, v, jb, w2, w3⟩ := id h2
  refine ctU.tr e_CN e_CN_i e_CN_n (as' := [.ref 36, .ref 46, .int (nI n)]) rfl (fun G' => u_go (G := G') (S0 := cN S) (S := cN S) h1.1 h1.2.1 hO (v := v) ⟨cF.rf, rfl, rfl, w1, ⟨jb, w3⟩, h4⟩ n (by omega) (by omega) (by omega) _ (fun T v' hv' w => ?_))
  obtain ⟨f, f6, f7, j2, ⟨jb2, r2⟩, hs2⟩ := w
  have g1 : cF (fun a => aWk a || aEd 82 a) S (mgS e_CN S T) := mg_cF f (by decide)
  have c1 := cN_mg (S := S) (T := T) f.2.2.2.2
  generalize mgS e_CN S T = S1 at g1 c1
  have nA : ∀ a, (a < 19 ∨ a = 22 ∨ 76 ≤ a ∧ a ≤ 81 ∨ 90 ≤ a) → (fun a => aWk a || aEd 82 a) a = false := fun a q => by
    show (aWk a || aEd 82 a) = false
    rw [aWk_n (by omega), aEd_n (by omega)]; rfl
  have f2 : cF (fun k => aWk (e_CN.getD k 0) || aEd 82 (e_CN.getD k 0)) (cN S) (cN S1) := rs_cF2 g1
  refine k S1 ⟨bQp_F (g := g) f2 ⟨rfl, rfl, rfl, rfl, rfl, rfl, rfl, rfl, rfl, rfl⟩ rfl rfl rfl rfl rfl rfl rfl rfl h1, ⟨bJd_F c1 rfl rfl j2, v', jb2, by omega, bRT_F c1 rfl rfl rfl rfl r2⟩, bNt_F f2 rfl rfl rfl rfl rfl rfl h3, bES_F c1 ⟨rfl, rfl, rfl, rfl⟩ hs2, ?_, bQi_F h6 (g1.1 0 (nA 0 (by decide))) (fun a q1 q2 => g1.1 a (nA a (by omega))) (fun a q1 q2 => g1.2.2.1 a (nA a (by omega))), ?_, bQt_F h8 (g1.1 0 (nA 0 (by decide))) (g1.1 1 (nA 1 (by decide))) (g1.2.2.1 2 (nA 2 (by decide))) (g1.2.2.1 3 (nA 3 (by decide)))⟩
  · show (gmS g.1.1 g.1.2.1 q (g.1.2.2.2.1, g.1.2.2.2.2) n).1.2.2.2.2 ≤ 9000
    rw [gm_day]
    exact hd
  · have h9 := bQu_F h7 (congrFun (g1.1 0 (nA 0 (by decide))) 12) (congrFun (g1.1 0 (nA 0 (by decide))) 13) (fun a q => g1.1 a (nA a (by omega))) (fun a q => g1.2.2.1 a (nA a (by omega)))
    rcases hU with z | z
    · obtain ⟨u1, u2, e, u3, u4, u5⟩ := h9
      exact ⟨u1, u2, e, u3, u4, fun k hk => absurd (show k < g.2.1.1 from hk) (by omega)⟩
    · subst z
      exact h9
theorem d_go (hQ : bQ S g o V) (hV : V + 5000 < 2 ^ 30) (n : Int32) : ctI G 8 M_X11_go false [.ref 0, .int n] lB S tl (fun v S' => bQ S' (N_go g n) o (V + 5000) ∧ v = A_go g n) := by
  refine ctI.ab (fun K hK => m_X11_go (fun n0 => u_span n _ ?_))
  have hd9 := hQ.2.2.2.2.1
  have e82 : S.1 82 3 = nI g.1.2.2.2.1.2.2.2.2 := hQ.2.2.2.1.2.2.2.1
  unfold N_go A_go at hK
  have h22 : ¬ goK g n = true → L_X11_go_22 G false n0 tl K S := fun q => b_X11_go_22 (hK _ _ (by rw [if_neg q, if_neg q]; exact ⟨bQ_m hQ (by omega), rfl⟩))
  rw [x_b0]
  refine ⟨fun z => h22 (fun q => by unfold goK at q; rw [z, Bool.false_and] at q; cases q), fun z => ?_⟩
  have z := nf_t z
  obtain ⟨m, hm, rfl⟩ := in_t (by decide) z
  have hcm : cl (nI m) = m := nI_clamp (by omega)
  have eK : goK g (nI m) = decide (g.1.2.2.2.1.2.2.2.2 + m ≤ 9000) := by
    unfold goK
    rw [z, hcm, Bool.true_and]
  rw [hcm, eK] at hK
  rw [eK] at h22
  rw [e82, nI_add, nI_leI (by omega) (by decide), show (0 : Int32) = nI 0 from rfl, nI_leI (by omega) (by decide)]
  refine ⟨fun y => ?_, fun y => h22 (by rw [decide_eq_true_eq]; exact y)⟩
  rw [decide_eq_true y, if_pos rfl, if_pos rfl] at hK
  have K33 : ∀ X U, bQ X (gS g g.1.2.2.2.1 g.1.2.2.2.2 U g.2.2.1) o V → (U.1 = 0 ∨ m = 0) → U = (if m = 0 then g.2.1 else (0, g.2.1.2)) → L_X11_go_33 G false n0 tl K X (nI m) := by
    intro X U qX hU eU
    refine b_X11_go_33 (u_toldB qX.q0 _ (fun S1 q1 o1 _ _ => ?_))
    have q2 : bQ0 (sVa S1 72 2 (nI 1)) (gS g g.1.2.2.2.1 g.1.2.2.2.2 U g.2.2.1) o V := bQ0_s q1.q0 (Or.inr rfl)
    have o2 : bOP (cN (sVa S1 72 2 (nI 1))) (chO g.1) := ⟨rfl, o1.2⟩
    refine u_goN q2 _ o2 m hm hU y (by omega) _ (fun S2 q3 => u_toldB q3 _ (fun S3 q4 _ _ _ => hK _ _ ⟨bQ_m (V := V + 5 * m) ?_ (by omega), ?_⟩))
    · rw [← eU]
      exact q4
    · refine q4.2.2.2.1.2.2.2.1.trans ?_
      show nI (gmS g.1.1 g.1.2.1 (chO g.1) (g.1.2.2.2.1, g.1.2.2.2.2) m).1.2.2.2.2 = _
      rw [gm_day]
  refine ⟨fun x => K33 S g.2.1 hQ (Or.inr (by omega)) (by rw [if_pos (by omega)]), fun x => K33 (sV S 13 (nI 0)) (0, g.2.1.2) ?_ (Or.inl rfl) (by rw [if_neg (by omega)])⟩
  obtain ⟨h1, h2, h3, h4, h5, h6, h7, h8⟩ := id hQ
  have f1 : cF (fun a => Nat.beq a 0) S (sV S 13 (nI 0)) := cF.sVa (a := 0) rfl
  refine bQ_X hQ f1 (fun a ha => bq_ne (by omega)) (bEs_N.mp h4) h5 ⟨h6.1, fun x hx => ⟨bEs_F (h6.2 x hx).1 rfl rfl rfl rfl, (h6.2 x hx).2⟩⟩ ?_ rfl rfl
  obtain ⟨u1, u2, e, u3, u4, u5⟩ := h7
  exact ⟨Nat.zero_le _, rfl, e, u3, u4, fun k hk => absurd hk (Nat.not_lt_zero _)⟩
theorem d_tried (hQ : bQ S g o V) (hV : V + 5000 < 2 ^ 30) (w i n : Int32) : ctI G 8 M_X11_tried false [.ref 0, .int w, .int i, .int n] lB S tl (fun v S' => bQ S' g o (V + 5000) ∧ v = A_tried g.1 w i n) := by
  refine ctI.ab (fun K hK => m_X11_tried (fun n0 => ?_))
  have p5 := hQ.1.1.2.1
  have hd9 := hQ.2.2.2.2.1
  unfold A_tried at hK
  have h36 : ¬ A_triedB g.1 w i n = true → L_X11_tried_36 G false n0 tl K S := fun q => b_X11_tried_36 (hK _ _ ⟨bQ_m hQ (by omega), by rw [if_neg q]⟩)
  have nB : A_triedB g.1 w i n = true ↔ inK w 0 4 = true ∧ inK n 0 99 = true ∧ (if w = nI 2 then hrK g.1.1 i else decide (i = 0)) = true := by
    unfold A_triedB
    rw [Bool.and_eq_true, Bool.and_eq_true]
  have h38 : A_triedB g.1 w i n = true → L_X11_tried_38 G false n0 tl K S w i n := by
    intro hB
    rw [if_pos hB] at hK
    obtain ⟨b1, b2, b3⟩ := nB.mp hB
    obtain ⟨m, hm, rfl⟩ := in_t (by decide) b2
    rw [show cl (nI m) = m from nI_clamp (by omega)] at hK
    have K132 : ∀ X (b : Bool), bQ0 X g o V → X.1 72 2 = bI false → X.1 72 3 = bI (decide (w = nI 0)) → X.1 67 6 = bI (decide (w = nI 1)) → X.1 72 4 = (if w = nI 2 then i else -(nI 1)) → X.1 72 5 = nI (if w = nI 3 then 1 else g.1.2.2.1) → b = decide (w = nI 4) → L_X11_tried_132 G false n0 tl K X (nI m) (bI b) := by
      intro X b qX x2 x3 x6 x4 x5 hb
      refine b_X11_tried_132 ⟨by cases b; exact Or.inl rfl; exact Or.inr rfl, ?_⟩
      have q1 : bQ0 (sVa X 67 7 (bI b)) g o V := bQ0_s qX (Or.inl rfl)
      refine u_cpT q1 _ (fun S2 q2 f2 t2 => ?_)
      have hn9 := hQ.1.2.2.2.2.1
      have o2 : bOP (cN S2) (trO g.1 w i) := by
        refine ⟨?_, ?_, ?_, ?_, ?_, ?_, ?_⟩
        · exact (congrFun (f2.1 72 rfl) 2).trans x2
        · exact (congrFun (f2.1 72 rfl) 3).trans x3
        · exact (congrFun (f2.1 67 rfl) 6).trans x6
        · show _ = bI (decide (w = nI 4))
          rw [← hb]; exact congrFun (f2.1 67 rfl) 7
        · exact (congrFun (f2.1 72 rfl) 4).trans x4
        · exact (congrFun (f2.1 72 rfl) 5).trans x5
        · show (if w = nI 3 then 1 else g.1.2.2.1) ≤ 9
          split <;> omega
      refine u_goT q2 _ o2 _ _ t2 m hm (by omega) (by omega) _ (fun S3 q3 o3 t3 => u_toldB q3 _ (fun S4 q4 o4 h86 _ => ?_))
      refine ctI.tr e_CT e_CT_i e_CT_n (as' := [.ref 46]) rfl (fun G' => u_gold (G := G') (S := cT S4) false (bEs_T.mpr (h86 _ _ _ t3)) p5 _ ?_)
      rw [mgS_rs]
      refine ctI.tr e_CN e_CN_i e_CN_n (as' := [.ref 46]) rfl (fun G' => u_gold (G := G') (S := cN S4) false q4.2.2.2.1 p5 _ ?_)
      rw [mgS_rs]
      exact hK _ _ ⟨bQ_m q4 (by omega), rfl⟩
    have K115 : ∀ X (d : Nat), bQ0 X g o V → X.1 72 2 = bI false → X.1 72 3 = bI (decide (w = nI 0)) → X.1 67 6 = bI (decide (w = nI 1)) → X.1 72 4 = (if w = nI 2 then i else -(nI 1)) → d = (if w = nI 3 then 1 else g.1.2.2.1) → L_X11_tried_115 G false n0 tl K X w (nI m) (nI d) := by
      intro X d qX x2 x3 x6 x4 hd
      have q1 : bQ0 (sVa X 72 5 (nI d)) g o V := bQ0_s qX (Or.inr rfl)
      refine b_X11_tried_115 ⟨fun e => K132 _ true q1 x2 x3 x6 x4 (by rw [← hd]; rfl) (decide_eq_true e).symm, fun e => K132 _ false q1 x2 x3 x6 x4 (by rw [← hd]; rfl) (decide_eq_false e).symm⟩
    have K92 : ∀ X (d : Int32), bQ0 X g o V → X.1 72 2 = bI false → X.1 72 3 = bI (decide (w = nI 0)) → X.1 67 6 = bI (decide (w = nI 1)) → X.1 72 5 = nI g.1.2.2.1 → d = (if w = nI 2 then i else -(nI 1)) → L_X11_tried_92 G false n0 tl K X w (nI m) d := by
      intro X d qX x2 x3 x6 x5 hd
      have q1 : bQ0 (sVa X 72 4 d) g o V := bQ0_s qX (Or.inr rfl)
      refine b_X11_tried_92 ⟨fun e => K115 _ 1 q1 x2 x3 x6 (by rw [← hd]; rfl) (by rw [if_pos e]), fun e => ?_⟩
      rw [x5]
      exact K115 _ _ q1 x2 x3 x6 (by rw [← hd]; rfl) (by rw [if_neg e])
    have K75 : ∀ X (b : Bool), bQ0 X g o V → X.1 72 2 = bI false → X.1 72 3 = bI (decide (w = nI 0)) → X.1 72 5 = nI g.1.2.2.1 → b = decide (w = nI 1) → L_X11_tried_75 G false n0 tl K X w i (nI m) (bI b) := by
      intro X b qX x2 x3 x5 hb
      have q1 : bQ0 (sVa X 67 6 (bI b)) g o V := bQ0_s qX (Or.inl rfl)
      refine b_X11_tried_75 ⟨by cases b; exact Or.inl rfl; exact Or.inr rfl, fun e => K92 _ _ q1 x2 x3 (by rw [← hb]; rfl) x5 (by rw [if_pos e]), fun e => K92 _ _ q1 x2 x3 (by rw [← hb]; rfl) x5 (by rw [if_neg e])⟩
    have K58 : ∀ X (b : Bool), bQ0 X g o V → X.1 72 2 = bI false → X.1 72 5 = nI g.1.2.2.1 → b = decide (w = nI 0) → L_X11_tried_58 G false n0 tl K X w i (nI m) (bI b) := by
      intro X b qX x2 x5 hb
      have q1 : bQ0 (sVa X 72 3 (bI b)) g o V := bQ0_s qX (Or.inr rfl)
      refine b_X11_tried_58 ⟨by cases b; exact Or.inl rfl; exact Or.inr rfl, fun e => K75 _ true q1 x2 (by rw [← hb]; rfl) x5 (decide_eq_true e).symm, fun e => K75 _ false q1 x2 (by rw [← hb]; rfl) x5 (decide_eq_false e).symm⟩
    refine b_X11_tried_38 (u_toldB hQ.q0 _ (fun S1 q1 o1 _ _ => ⟨fun e => K58 S1 true q1.q0 o1.1 o1.2.2.2.2.2.1 (decide_eq_true (show w = nI 0 from e)).symm, fun e => K58 S1 false q1.q0 o1.1 o1.2.2.2.2.2.1 (decide_eq_false (show ¬ w = nI 0 from e)).symm⟩))
  refine ⟨fun z => h36 (fun q => (of_decide_eq_true (nB.mp q).1).1 z), fun z => ⟨fun y => h36 (fun q => (of_decide_eq_true (nB.mp q).1).2 y), fun y => u_span n _ ?_⟩⟩
  rw [x_b0]
  refine ⟨fun x => h36 (fun q => by rw [(nB.mp q).2.1] at x; cases x), fun x => ⟨fun t => u_hr hQ.1.1.2.2.2.1 i _ ?_, fun t => ⟨fun u => h38 (nB.mpr ⟨decide_eq_true ⟨z, y⟩, nf_t x, by rw [if_neg t]; exact decide_eq_true u⟩), fun u => h36 (fun q => by have := (nB.mp q).2.2; rw [if_neg t] at this; exact u (of_decide_eq_true this))⟩⟩⟩
  rw [x_b0]
  exact ⟨fun u => h36 (fun q => by have := (nB.mp q).2.2; rw [if_pos t, u] at this; cases this), fun u => h38 (nB.mpr ⟨decide_eq_true ⟨z, y⟩, nf_t x, by rw [if_pos t]; exact nf_t u⟩)⟩
theorem d_chance (hQ : bQ S g o V) (hV : V + 5000 < 2 ^ 30) (sd n h m : Int32) : ctI G 8 M_X11_chance false [.ref 0, .int sd, .int n, .int h, .int m] lB S tl (fun v S' => bQ S' g o (V + 5000) ∧ v = A_chance g.1 sd n h m) := by
  refine ctI.ab (fun K hK => m_X11_chance (fun n0 => ?_))
  have p5 := hQ.1.1.2.1
  have hd9 := hQ.2.2.2.2.1
  unfold A_chance at hK
  have h31 : ¬ A_chanceB g.1 sd n h m = true → L_X11_chance_31 G false n0 tl K S := fun q => b_X11_chance_31 (hK _ _ ⟨bQ_m hQ (by omega), by rw [if_neg q]⟩)
  have nB : A_chanceB g.1 sd n h m = true ↔ ¬ sd < 0 ∧ inK n 1 99 = true ∧ hrK g.1.1 h = true ∧ inK m 0 99999 = true := by
    unfold A_chanceB
    rw [Bool.and_eq_true, Bool.and_eq_true, Bool.and_eq_true, decide_eq_true_eq]
  refine ⟨fun z => h31 (fun q => (nB.mp q).1 z), fun z => ⟨fun y => h31 (fun q => (of_decide_eq_true (nB.mp q).2.1).1 y), fun y => ⟨fun x => h31 (fun q => (of_decide_eq_true (nB.mp q).2.1).2 x), fun x => u_hr hQ.1.1.2.2.2.1 h _ ?_⟩⟩⟩
  rw [x_b0]
  refine ⟨fun t => h31 (fun q => by rw [(nB.mp q).2.2.1] at t; cases t), fun t => u_isG m _ ?_⟩
  rw [x_b0]
  refine ⟨fun u => h31 (fun q => by rw [(nB.mp q).2.2.2] at u; cases u), fun u => ?_⟩
  have t := nf_t t
  have u := nf_t u
  have hn : inK n 1 99 = true := decide_eq_true ⟨y, x⟩
  rw [if_pos (nB.mpr ⟨z, hn, t, u⟩)] at hK
  obtain ⟨a, a1, a2, rfl⟩ := inK_t (by decide) (by decide) hn
  obtain ⟨j, hj, rfl⟩ := hr_t p5 t
  obtain ⟨c, hc, rfl⟩ := in_t (by decide) u
  obtain ⟨e, he, rfl⟩ := nI_of z
  rw [show cl (nI a) = a from nI_clamp (by omega), show cl (nI j) = j from nI_clamp (by omega), show cl (nI c) = c from nI_clamp (by omega), show cl (nI e) = e from nI_clamp (by omega)] at hK
  refine u_toldB hQ.q0 _ (fun S1 q1 o1 _ _ => ?_)
  have q2 : bQ0 (sVa S1 72 2 (nI 1)) g o V := bQ0_s q1.q0 (Or.inr rfl)
  have o2 : bOP (cN (sVa S1 72 2 (nI 1))) (chO g.1) := ⟨rfl, o1.2⟩
  suffices KL : ∀ t i (X : ms_S), i + t = 10 → bQ0 X g o (V + i * (5 * a)) → bOP (cN X) (chO g.1) → L_X11_chance_57 G false n0 tl K X (nI a) (nI j) (nI c) (nI (chN g.1 a j c e i).2) (nI (chN g.1 a j c e i).1) (nI i) from KL 10 0 _ rfl (by rw [Nat.zero_mul]; exact q2) o2
  intro t
  induction t with
  | zero =>
    intro i X hi qX oX
    have hi : i = 10 := hi
    subst hi
    refine b_X11_chance_57 ⟨fun _ => u_toldB qX _ (fun S3 q3 _ _ _ => hK _ _ ⟨bQ_m q3 (by omega), rfl⟩), fun q => absurd (Int32.le_refl _) q⟩
  | succ t ih =>
    intro i X hi qX oX
    have hlt := chN_lt g.1 a j c e he i
    refine b_X11_chance_57 ?_
    rw [nI_leI (by decide) (by omega)]
    refine ⟨fun q => absurd q (by omega), fun _ => u_cpT qX _ (fun S2 q2 f2 t2 => ?_)⟩
    have q3 : bQ0 (sVa S2 86 7 (nI (chN g.1 a j c e i).2)) g o (V + i * (5 * a)) := by
      refine bQ0_W q2 (cF.sVa rfl) ?_
      have f : cF (fun a => Nat.beq a 86) S2 (sVa S2 86 7 (nI (chN g.1 a j c e i).2)) := cF.sVa rfl
      exact bQv_F (rs_cF2 (pl := e_CN) f) rfl rfl rfl rfl rfl rfl q2.2.1
    have o3 : bOP (cN (sVa S2 86 7 (nI (chN g.1 a j c e i).2))) (chO g.1) := bOP_F2 oX (f2.1 72 rfl) (congrFun (f2.1 67 rfl) 6) (congrFun (f2.1 67 rfl) 7)
    have t3 : bEs (sVa S2 86 7 (nI (chN g.1 a j c e i).2)) 86 g.1.1 g.1.2.2.2.1 (chN g.1 a j c e i).2 := by
      obtain ⟨y1, y2, y3, y4, y5, y6, y7, y8, y9, y10⟩ := t2
      exact ⟨y1, y2, y3, y4, y5, y6, y7, y8, ⟨rfl, hlt⟩, y10⟩
    have hVi : V + i * (5 * a) + 5 * a = V + (i + 1) * (5 * a) := by rw [Nat.add_mul, Nat.one_mul, Nat.add_assoc]
    have hb : (i + 1) * (5 * a) ≤ 10 * 495 := Nat.mul_le_mul (by omega) (by omega)
    refine u_goT q3 _ o3 _ _ t3 a a2 (by omega) (by omega) _ (fun S4 q4 o4 t4 => ⟨(x_vp (by omega)).mpr (by omega), ?_⟩)
    rw [hVi] at q4
    have hI := ih (i + 1) S4 (by omega) q4 o4
    have hg := (t4.2.1 j (by omega)).2
    rw [show (nI j).toNatClampNeg = j from nI_clamp (by omega), show S4.2.2.2.1 88 j = nI ((gmS g.1.1 g.1.2.1 (chO g.1) (g.1.2.2.2.1, (chN g.1 a j c e i).2) a).1.2.1 j) from (t4.2.1 j (by omega)).1, show S4.1 86 7 = nI (chN g.1 a j c e (i + 1)).2 from t4.2.2.2.2.2.2.2.2.1.1, nI_ltI (by omega) (by omega)]
    refine ⟨fun q => b_X11_chance_122 ?_, fun q => b_X11_chance_122 ?_⟩
    · rw [nI_add]
      rw [show (chN g.1 a j c e (i + 1)).1 = (chN g.1 a j c e i).1 + (if c ≤ (gmS g.1.1 g.1.2.1 (chO g.1) (g.1.2.2.2.1, (chN g.1 a j c e i).2) a).1.2.1 j then 1 else 0) from rfl, if_neg (by omega), Nat.add_zero] at hI
      exact hI
    · rw [nI_add, nI_add]
      rw [show (chN g.1 a j c e (i + 1)).1 = (chN g.1 a j c e i).1 + (if c ≤ (gmS g.1.1 g.1.2.1 (chO g.1) (g.1.2.2.2.1, (chN g.1 a j c e i).2) a).1.2.1 j then 1 else 0) from rfl, if_pos (by omega)] at hI
      exact hI
end DAYS2

