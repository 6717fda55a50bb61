/-! ===== the program: notes ===== -/
def aNB : Nat → Bool := fun a => Nat.ble 76 a && Nat.ble a 81
theorem aNB_n {a : Nat} (h : a < 76 ∨ 81 < a) : aNB a = false := bt_f (by omega)
theorem bQ_N {S S' : ms_S} {g : tSG} {o : Nat → Option tDQ} {V : Nat} {N : tN} (h : bQ S g o V) (f : cF aNB S S') (hN : bNt (cN S') g.1.1 N) : bQ S' (gN g N) o V := by
  obtain ⟨h1, h2, h3, h4, h5, h6, h7, h8⟩ := h
  have f2 : cF (fun k => aNB (e_CN.getD k 0)) (cN S) (cN S') := rs_cF2 f
  exact ⟨bQp_F (g := g) f2 ⟨rfl, rfl, rfl, rfl, rfl, rfl, rfl, rfl, rfl, rfl⟩ rfl rfl rfl rfl rfl rfl rfl rfl h1, bQw_F f2 rfl rfl rfl rfl rfl rfl (congrFun (f2.1 31 rfl) 6) (congrFun (f2.1 31 rfl) 7) h2, hN, bES_F f2 ⟨rfl, rfl, rfl, rfl⟩ h4, h5, bQi_F h6 (f.1 0 rfl) (fun a q1 q2 => f.1 a (aNB_n (by omega))) (fun a q1 q2 => f.2.2.1 a (aNB_n (by omega))), bQu_F h7 (congrFun (f.1 0 rfl) 12) (congrFun (f.1 0 rfl) 13) (fun a q => f.1 a (aNB_n (by omega))) (fun a q => f.2.2.1 a (aNB_n (by omega))), bQt_F h8 (f.1 0 rfl) (f.1 1 rfl) (f.2.2.1 2 rfl) (f.2.2.1 3 rfl)⟩
theorem b01 {b : Int32} (h : b = 0 ∨ b = nI 1) : b = bI (decide (¬ b = 0)) := by
  rcases h with rfl | rfl <;> decide
section NOTES
variable {G : ab_G} {tl : ab_H} {S : ms_S} {g : tSG} {o : Nat → Option tDQ} {V : Nat}
theorem u_wrB (hQ : bQ S g o V) (x : tE) (i1 i2 i3 i4 i5 : Int32) (e1 : i1 = nI x.1) (e2 : i2 = nI x.2.1) (hx : ntOk g.1.1 g.2.2.2.1.1 x) (h3 : x.1 = 1 ∨ x.1 = 2 → i3 = nI x.2.2.1) (h4 : x.1 = 2 → i4 = nI x.2.2.2.1) (h5 : ¬ x.1 = 3 → i5 = bI x.2.2.2.2) (K : Int32 → ms_S → Prop) (k : ∀ S', bQ S' (gN g (ntN g.2.2.2.1 x)) o (V + 5000) → K (ntA g.2.2.2.1) S') : ctI G 1 M_X6_write false [.ref 76, .int i1, .int i2, .int i3, .int i4, .int i5] lB S tl K := by
  subst e1 e2
  have hN := hQ.2.2.1
  have n24 := hN.1
  refine ctI.tr e_CN e_CN_i e_CN_n (as' := [.ref 40, .int (nI x.1), .int (nI x.2.1), .int i3, .int i4, .int i5]) rfl (fun G' => u_write (G := G') (S := cN S) hN x i3 i4 i5 hx h3 h4 h5 _ (fun T f n => ?_))
  have g1 : cF aNB S (mgS e_CN S T) := mg_cF f (by decide)
  have c1 := cN_mg (S := S) (T := T) f.2.2.2.2
  have n2 := bNt_F c1 rfl rfl rfl rfl rfl rfl n
  have eN : (if g.2.2.2.1.1 < 24 then ntMo g.2.2.2.1 x else g.2.2.2.1) = ntN g.2.2.2.1 x := by
    unfold ntN
    by_cases z : g.2.2.2.1.1 = 24
    · rw [if_neg (by omega), if_pos z]
    · rw [if_pos (by omega), if_neg z]; rfl
  have eA : (if g.2.2.2.1.1 < 24 then nI g.2.2.2.1.1 else -(nI 1)) = ntA g.2.2.2.1 := by
    unfold ntA
    by_cases z : g.2.2.2.1.1 = 24
    · rw [if_neg (by omega), if_pos z]
    · rw [if_pos (by omega), if_neg z]
  rw [eN] at n2
  rw [eA]
  exact k _ (bQ_m (bQ_N hQ g1 n2) (by omega))
theorem d_note (hQ : bQ S g o V) (w a c b : Int32) (hb : b = 0 ∨ b = nI 1) : ctI G 2 M_X11_note false [.ref 0, .int w, .int a, .int c, .int b] lB S tl (fun v S' => bQ S' (N_note g w a c b) o (V + 5000) ∧ v = A_note g w a c) := by
  refine ctI.ab (fun K hK => m_X11_note (fun n0 => ?_))
  unfold N_note A_note at hK
  have h28 : ¬ noK w a c = true → L_X11_note_28 G false n0 tl K S := fun q => b_X11_note_28 (hK _ _ (by rw [if_neg q, if_neg q]; exact ⟨bQ_m hQ (by omega), rfl⟩))
  have nK : noK w a c = true ↔ (w = nI 0 ∨ w = nI 1) ∧ enK a = true ∧ (w = nI 0 ∨ enK c = true) := by
    unfold noK
    rw [Bool.and_eq_true, Bool.and_eq_true, Bool.or_eq_true, decide_eq_true_eq]
    constructor
    · rintro ⟨q1, q2, q3⟩
      refine ⟨?_, q2, q3⟩
      obtain ⟨d, hd, e⟩ := in_t (by decide) q1
      rcases (show d = 0 ∨ d = 1 by omega) with rfl | rfl
      · exact Or.inl e
      · exact Or.inr e
    · rintro ⟨q1, q2, q3⟩
      refine ⟨?_, q2, q3⟩
      rcases q1 with rfl | rfl <;> decide
  have h30 : noK w a c = true → L_X11_note_30 G false n0 tl K S w a c b := by
    intro q
    rw [if_pos q, if_pos q] at hK
    obtain ⟨q1, q2, q3⟩ := nK.mp q
    obtain ⟨i, hi, rfl⟩ := en_t q2
    have hcl : cl (nI i) = i := nI_clamp (by omega)
    refine b_X11_note_30 (u_wrB hQ (noE w (nI i) c b) _ _ _ _ _ ?_ ?_ ?_ ?_ ?_ (fun _ => b01 hb) _ (fun S' q9 => hK _ _ ⟨q9, rfl⟩))
    · rcases q1 with rfl | rfl <;> rfl
    · show nI i = nI (cl (nI i))
      rw [hcl]
    · refine ⟨?_, fun _ => ?_, fun h1 => ?_, fun h1 => ?_, fun h1 => ?_⟩
      · show cl w ≤ 3
        rcases q1 with rfl | rfl <;> decide
      · show cl (nI i) < 7
        rw [hcl]; exact hi
      · have h1 : cl w = 1 := h1
        rcases q3 with q3 | q3
        · rw [q3] at h1; exact absurd h1 (by decide)
        · obtain ⟨j, hj, rfl⟩ := en_t q3
          show cl (nI j) < 7
          rw [show cl (nI j) = j from nI_clamp (by omega)]; exact hj
      · have h1 : cl w = 2 := h1
        rcases q1 with rfl | rfl <;> exact absurd h1 (by decide)
      · have h1 : cl w = 3 := h1
        rcases q1 with rfl | rfl <;> exact absurd h1 (by decide)
    · intro h1
      have h1 : cl w = 1 ∨ cl w = 2 := h1
      rcases q3 with q3 | q3
      · rw [q3] at h1; exact absurd h1 (by decide)
      · obtain ⟨j, hj, rfl⟩ := en_t q3
        show nI j = nI (cl (nI j))
        rw [show cl (nI j) = j from nI_clamp (by omega)]
    · intro h1
      have h1 : cl w = 2 := h1
      rcases q1 with rfl | rfl <;> exact absurd h1 (by decide)
  have h9 : (w = nI 0 ∨ w = nI 1) → L_X11_note_9 G false n0 tl K S w a c b := by
    intro hw
    refine b_X11_note_9 (u_en a _ ?_)
    rw [x_b0]
    refine ⟨fun z => h28 (fun q => by rw [(nK.mp q).2.1] at z; cases z), fun z => ⟨fun y => u_en c _ ?_, fun y => h30 (nK.mpr ⟨hw, nf_t z, Or.inl (hw.resolve_right y)⟩)⟩⟩
    rw [x_b0]
    refine ⟨fun x => h28 (fun q => ?_), fun x => h30 (nK.mpr ⟨hw, nf_t z, Or.inr (nf_t x)⟩)⟩
    rcases (nK.mp q).2.2 with q3 | q3
    · exact absurd (y.symm.trans q3) (by decide)
    · rw [q3] at x; cases x
  exact ⟨fun z => h9 (Or.inl z), fun z => ⟨fun y => h9 (Or.inr y), fun y => h28 (fun q => by rcases (nK.mp q).1 with e | e; exact z e; exact y e)⟩⟩
theorem d_see (hQ : bQ S g o V) (n h m b : Int32) (hb : b = 0 ∨ b = nI 1) : ctI G 2 M_X11_see false [.ref 0, .int n, .int h, .int m, .int b] lB S tl (fun v S' => bQ S' (N_see g n h m b) o (V + 5000) ∧ v = A_see g n h m) := by
  refine ctI.ab (fun K hK => m_X11_see (fun n0 => ?_))
  have p5 := hQ.1.1.2.1
  unfold N_see A_see at hK
  have h26 : ¬ seK g.1.1 n h m = true → L_X11_see_26 G false n0 tl K S := fun q => b_X11_see_26 (hK _ _ (by rw [if_neg q, if_neg q]; exact ⟨bQ_m hQ (by omega), rfl⟩))
  have nK : seK g.1.1 n h m = true → inK n 1 60 = true ∧ hrK g.1.1 h = true ∧ inK m 0 99999 = true := by
    intro q
    unfold seK at q
    rw [Bool.and_eq_true, Bool.and_eq_true] at q
    exact q
  refine ⟨fun z => h26 (fun q => (of_decide_eq_true (nK q).1).1 z), fun z => ⟨fun y => h26 (fun q => (of_decide_eq_true (nK q).1).2 y), fun y => u_hr hQ.1.1.2.2.2.1 h _ ?_⟩⟩
  rw [x_b0]
  refine ⟨fun x => h26 (fun q => by rw [(nK q).2.1] at x; cases x), fun x => u_isG m _ ?_⟩
  rw [x_b0]
  refine ⟨fun t => h26 (fun q => by rw [(nK q).2.2] at t; cases t), fun t => ?_⟩
  have x := nf_t x
  have t := nf_t t
  have hn : inK n 1 60 = true := decide_eq_true ⟨z, y⟩
  have hT : seK g.1.1 n h m = true := by
    unfold seK
    rw [hn, x, t]; rfl
  rw [if_pos hT, if_pos hT] at hK
  obtain ⟨i, i1, i2, rfl⟩ := inK_t (by decide) (by decide) hn
  obtain ⟨j, hj, rfl⟩ := hr_t p5 x
  obtain ⟨k, hk, rfl⟩ := in_t (by decide) t
  have c1 : cl (nI i) = i := nI_clamp (by omega)
  have c2 : cl (nI j) = j := nI_clamp (by omega)
  have c3 : cl (nI k) = k := nI_clamp (by omega)
  refine u_wrB hQ (seE (nI i) (nI j) (nI k) b) _ _ _ _ _ rfl ?_ ?_ ?_ ?_ (fun _ => b01 hb) _ (fun S' q9 => hK _ _ ⟨q9, rfl⟩)
  · show nI i = nI (cl (nI i)); rw [c1]
  · refine ⟨by show 2 ≤ 3; decide, fun h1 => absurd (show 2 ≤ 1 from h1) (by decide), fun h1 => absurd (show 2 = 1 from h1) (by decide), fun _ => ?_, fun h1 => absurd (show 2 = 3 from h1) (by decide)⟩
    show cl (nI i) ≤ 60 ∧ cl (nI j) < g.1.1.2.1 ∧ cl (nI k) ≤ 99999
    rw [c1, c2, c3]
    exact ⟨i2, hj, hk⟩
  · intro _; show nI j = nI (cl (nI j)); rw [c2]
  · intro _; show nI k = nI (cl (nI k)); rw [c3]
theorem d_strike (hQ : bQ S g o V) (k : Int32) : ctI G 2 M_X11_strike false [.ref 0, .int k] lB S tl (fun v S' => bQ S' (N_strike g k) o (V + 5000) ∧ v = A_strike g k) := by
  refine ctI.ab (fun K hK => m_X11_strike (fun n0 => ?_))
  have hN := hQ.2.2.1
  have n24 := hN.1
  unfold N_strike A_strike at hK
  rw [show S.1 76 5 = nI g.2.2.2.1.1 from hN.2.1]
  have h15 : ¬ skK g.2.2.2.1 k = true → L_X11_strike_15 G false n0 tl K S := fun q => b_X11_strike_15 (hK _ _ (by rw [if_neg q, if_neg q]; exact ⟨bQ_m hQ (by omega), rfl⟩))
  refine ⟨fun z => h15 (fun q => (of_decide_eq_true q).1 z), fun z => ⟨fun y => ?_, fun y => h15 (fun q => (of_decide_eq_true q).2 (Int32.not_lt.mp y))⟩⟩
  have hT : skK g.2.2.2.1 k = true := decide_eq_true ⟨z, Int32.not_le.mpr y⟩
  rw [if_pos hT, if_pos hT] at hK
  obtain ⟨i, hi, rfl⟩ := ix_t (by omega) (of_decide_eq_true hT)
  have c1 : cl (nI i) = i := nI_clamp (by omega)
  refine u_wrB hQ (3, cl (nI i), 0, 0, false) _ _ _ _ _ rfl ?_ ?_ (fun _ => rfl) (fun _ => rfl) (fun h1 => absurd rfl h1) _ (fun S' q9 => hK _ _ ⟨q9, rfl⟩)
  · show nI i = nI (cl (nI i)); rw [c1]
  · refine ⟨by show 3 ≤ 3; decide, fun h1 => absurd (show 3 ≤ 1 from h1) (by decide), fun h1 => absurd (show 3 = 1 from h1) (by decide), fun h1 => absurd (show 3 = 2 from h1) (by decide), fun _ => ?_⟩
    show cl (nI i) < g.2.2.2.1.1
    rw [c1]; exact hi
theorem d_known (hQ : bQ S g o V) (n : Int32) : ctI G 1 M_X11_known false [.ref 0, .int n] lB S tl (fun v S' => bQ S' (N_known g n) o (V + 5000) ∧ v = bI (knK g.2.2.2.1 n)) := by
  refine ctI.ab (fun K hK => m_X11_known (fun n0 => ?_))
  have hN := hQ.2.2.1
  obtain ⟨n24, n2, n3, n4, n5⟩ := id hN
  unfold N_known at hK
  rw [show S.1 76 5 = nI g.2.2.2.1.1 from n2]
  have h16 : knK g.2.2.2.1 n = false → L_X11_known_16 G false n0 tl K S := fun q => b_X11_known_16 (hK _ _ (by rw [q, if_neg Bool.false_ne_true]; exact ⟨bQ_m hQ (by omega), rfl⟩))
  refine ⟨fun z => h16 (decide_eq_false (fun q => q.1 z)), fun z => ⟨fun y => ?_, fun y => h16 (decide_eq_false (fun q => y (Int32.not_lt.mp q.2)))⟩⟩
  have hT : knK g.2.2.2.1 n = true := decide_eq_true ⟨z, Int32.not_lt.mpr y⟩
  rw [hT, if_pos rfl] at hK
  exact hK _ _ ⟨bQ_m (V := V) (bQ_N hQ (cF.sVa rfl) ⟨n24, n2, rfl, kn_t (by omega) (of_decide_eq_true hT), n5⟩) (by omega), rfl⟩
end NOTES

