/-! ===== the program: how many a row needs ===== -/
theorem fi_60 {g : tSG} {m k : Nat} (h : lsN g.2.2.2.1 (kbN g.2.2.2.1) ≤ k) : ∀ d, fiA g m (k + d) = fiA g m k
  | 0 => rfl
  | d + 1 => by
    show (fiA g m (k + d) && soA g.2.2.2.1 _ (k + d + 1) (kbN g.2.2.2.1)) = _
    rw [ls_so (by omega), Bool.and_true, fi_60 h d]
/-! without numbers drawn it is all one what number stands -/
theorem dw_f {P : tPL} {s : tES} {d d' : Nat} : dwP P s false d = dwP P s false d' := by
  unfold dwP
  rw [if_neg (fun w => Bool.false_ne_true w.2), if_neg (fun w => Bool.false_ne_true w.2)]
theorem dD_1 {P : tPL} {T : tTD} {o : tOP} (ho : o.1 = false) (k : Nat) {x y : tES × Nat} (h : x.1 = y.1) : (dyD1 P T o k x).1 = (dyD1 P T o k y).1 := by
  obtain ⟨s, d⟩ := x
  obtain ⟨s2, d2⟩ := y
  have h : s = s2 := h
  subst h
  unfold dyD1
  rw [ho]
  unfold dwB dwS dwB
  dsimp only
  rw [dw_f (d := d) (d' := d2)]
  split <;> rfl
theorem dD_f {P : tPL} {T : tTD} {o : tOP} (ho : o.1 = false) {x y : tES × Nat} (h : x.1 = y.1) : ∀ k, (dyD P T o x k).1 = (dyD P T o y k).1
  | 0 => h
  | k + 1 => dD_1 ho k (dD_f ho h k)
theorem dg_f {P : tPL} {T : tTD} {o : tOP} (ho : o.1 = false) {s : tES} {d d' : Nat} : dgS P T o s d = dgS P T o s d' := by
  have e : (dgB P T o s d).1 = (dgB P T o s d').1 := dD_f (x := (dgA P T o s, d)) (y := (dgA P T o s, d')) ho rfl _
  unfold dgS
  show ((dyL P o (jbK P s.2.2.2.2 o.2.2.1) ((dgB P T o s d).1, 0) P.2.1).1.1, (dyL P o (jbK P s.2.2.2.2 o.2.2.1) ((dgB P T o s d).1, 0) P.2.1).1.2.1, (dyL P o (jbK P s.2.2.2.2 o.2.2.1) ((dgB P T o s d).1, 0) P.2.1).1.2.2.1, (dyL P o (jbK P s.2.2.2.2 o.2.2.1) ((dgB P T o s d).1, 0) P.2.1).1.2.2.2.1, (dyL P o (jbK P s.2.2.2.2 o.2.2.1) ((dgB P T o s d).1, 0) P.2.1).1.2.2.2.2 + 1) = _
  rw [e]
theorem gm_f {P : tPL} {T : tTD} {o : tOP} (ho : o.1 = false) {s : tES} {d d' : Nat} : ∀ k, (gmS P T o (s, d) k).1 = (gmS P T o (s, d') k).1
  | 0 => rfl
  | k + 1 => by
    show dgS P T o (gmS P T o (s, d) k).1 (gmS P T o (s, d) k).2 = dgS P T o (gmS P T o (s, d') k).1 (gmS P T o (s, d') k).2
    rw [gm_f ho k]
    exact dg_f ho
section NEEDS
variable {G : ab_G} {tl : ab_H} {S : ms_S} {g : tSG} {o : Nat → Option tDQ} {V : Nat}
theorem d_needs (hQ : bQ S g o V) (hV : V + 5000 < 2 ^ 30) : ctI G 8 M_X11_needs false [.ref 0] lB S tl (fun v S' => bQ S' g o (V + 5000) ∧ v = A_needs g) := by
  refine ctI.ab (fun K hK => m_X11_needs (fun n0 => ?_))
  have p5 := hQ.1.1.2.1
  have hN := hQ.2.2.1
  have n24 := hN.1
  have hkb : kbN g.2.2.2.1 ≤ g.2.2.2.1.1 := kb_le hN
  have hL60 : lsN g.2.2.2.1 (kbN g.2.2.2.1) ≤ 60 := ls_60 hN _ hkb
  unfold A_needs at hK
  refine ctI.tr e_CN e_CN_i e_CN_n (as' := [.ref 40]) rfl (fun G' => u_standing (G := G') (S := cN S) hN _ ?_)
  rw [mgS_rs]
  refine ctI.tr e_CN e_CN_i e_CN_n (as' := [.ref 40, .int (nI (bitsN (ctN g.2.2.2.1) (kbN g.2.2.2.1)))]) rfl (fun G' => u_last (G := G') (S := cN S) hN _ ?_)
  rw [mgS_rs]
  refine u_toldB hQ.q0 _ (fun S1 q1 o1 _ _ => ?_)
  suffices KL : ∀ t m (X : ms_S), m + t = 9 → bQ0 X g o (V + m * 300) → X.1 72 2 = bI false → X.1 72 3 = bI false → X.1 67 6 = bI false → X.1 67 7 = bI false → X.1 72 4 = -(nI 1) → L_X11_needs_29 G false n0 tl K X (nI (bitsN (ctN g.2.2.2.1) (kbN g.2.2.2.1))) (nI (lsN g.2.2.2.1 (kbN g.2.2.2.1))) (nI (bitsN (fun k => fiA g (k + 1) 60) m)) (nI (m + 1)) from KL 9 0 S1 rfl (bQ0_m q1.q0 (by omega)) o1.1 o1.2.1 o1.2.2.1 o1.2.2.2.1 o1.2.2.2.2.1
  intro t
  induction t with
  | zero =>
    intro m X hm qX x2 x3 x6 x7 x4
    have hm : m = 9 := hm
    subst hm
    refine b_X11_needs_29 ⟨fun _ => u_toldB qX _ (fun S3 q3 _ _ _ => hK _ _ ⟨bQ_m q3 (by omega), rfl⟩), fun q => absurd (by decide) q⟩
  | succ t ih =>
    intro m X hm qX x2 x3 x6 x7 x4
    refine b_X11_needs_29 ?_
    rw [nI_ltI (by decide) (by omega)]
    refine ⟨fun q => absurd q (by omega), fun _ => ?_⟩
    have qY : bQ0 (sVa X 72 5 (nI (m + 1))) g o (V + m * 300) := bQ0_s qX (Or.inr rfl)
    have oY : bOP (cN (sVa X 72 5 (nI (m + 1)))) (opP (m + 1)) := ⟨x2, x3, x6, x7, x4, rfl, by show m + 1 ≤ 9; omega⟩
    generalize sVa X 72 5 (nI (m + 1)) = Y at qY oY
    have c0 := (cNT (S := Y)).1
    have hsd := qY.1.2.2.2.2.2.2.1
    refine ctU.tr e_CT e_CT_i e_CT_n (as' := [.ref 46, .ref 0]) rfl (fun G' => u_begin (G := G') (S := cT Y) (bPl_F c0 ⟨rfl, rfl, rfl, rfl, rfl, rfl, rfl, rfl, rfl, rfl⟩ qY.1.1) (bSh_F c0 rfl qY.1.2.2.1) (xG g).2.2.1 (by omega) (by rw [c0.1 0 rfl]; exact qY.1.2.2.2.2.2.1) _ (fun T f e => ?_))
    have g1 : cF aWk Y (mgS e_CT Y T) := mg_cF f (by decide)
    have g2 : cF (aEd 86) Y (mgS e_CT Y T) := mg_cF f (by decide)
    have c1 := cT_mg (S := Y) (T := T) f.2.2.2.2
    have t1 := bEs_T.mp (bES_F c1 ⟨rfl, rfl, rfl, rfl⟩ e)
    generalize mgS e_CT Y T = Z at g1 g2 c1 t1
    have qZ : bQ0 Z g o (V + m * 300) := bQ0_W qY g1 (bQv_F (rs_cF2 (pl := e_CN) g2) rfl rfl rfl rfl rfl rfl qY.2.1)
    have oZ : bOP (cN Z) (opP (m + 1)) := bOP_F2 oY (g2.1 72 rfl) (congrFun (g2.1 67 rfl) 6) (congrFun (g2.1 67 rfl) 7)
    have hm300 : (m + 1) * 300 = m * 300 + 300 := by omega
    have K107 : ∀ W d, bQ0 W g o (V + m * 300 + 5 * d) → d ≤ 60 → bOP (cN W) (opP (m + 1)) → L_X11_needs_107 G false n0 tl K W (nI (bitsN (ctN g.2.2.2.1) (kbN g.2.2.2.1))) (nI (lsN g.2.2.2.1 (kbN g.2.2.2.1))) (nI (bitsN (fun k => fiA g (k + 1) 60) m)) (nI (m + 1)) (bI (fiA g (m + 1) 60)) := by
      intro W d qW hd oW
      have hI := ih (m + 1) W (by omega) (bQ0_m qW (by omega)) oW.1 oW.2.1 oW.2.2.1 oW.2.2.2.1 oW.2.2.2.2.1
      refine b_X11_needs_107 ?_
      rw [x_b0]
      refine ⟨fun q => b_X11_needs_121 ?_, fun q => b_X11_needs_121 ?_⟩
      · rw [nI_add]
        rw [bitsN_f (f := fun k => fiA g (k + 1) 60) (c := m) q] at hI
        exact hI
      · rw [nI_add, pk_sub (by omega), show m + 1 - 1 = m by omega, nu_shl (by omega) (by rw [Nat.one_mul]; exact Nat.pow_lt_pow_right (by decide) (by omega)), Nat.one_mul, nu_or]
        rw [bitsN_t (f := fun k => fiA g (k + 1) 60) (c := m) (nf_t q)] at hI
        exact hI
    suffices KD : ∀ r d (W : ms_S), d + r = lsN g.2.2.2.1 (kbN g.2.2.2.1) → bQ0 W g o (V + m * 300 + 5 * d) → bOP (cN W) (opP (m + 1)) → bEs W 86 g.1.1 (gmS g.1.1 g.1.2.1 (opP (m + 1)) (s0K (xG g).2.2.2.1, (xG g).2.2.1) d).1 (gmS g.1.1 g.1.2.1 (opP (m + 1)) (s0K (xG g).2.2.2.1, (xG g).2.2.1) d).2 → L_X11_needs_62 G false n0 tl K W (nI (bitsN (ctN g.2.2.2.1) (kbN g.2.2.2.1))) (nI (lsN g.2.2.2.1 (kbN g.2.2.2.1))) (nI (bitsN (fun k => fiA g (k + 1) 60) m)) (nI (m + 1)) (bI (fiA g (m + 1) d)) (nI (d + 1)) from KD _ 0 Z (Nat.zero_add _) qZ oZ t1
    intro r
    induction r with
    | zero =>
      intro d W hd qW oW tW
      have hd : d = lsN g.2.2.2.1 (kbN g.2.2.2.1) := hd
      refine b_X11_needs_62 ?_
      rw [nI_ltI (by omega) (by omega)]
      refine ⟨fun _ => ?_, fun q => absurd q (by omega)⟩
      have e60 := fi_60 (g := g) (m := m + 1) (k := d) (by omega) (60 - d)
      rw [show d + (60 - d) = 60 by omega] at e60
      rw [← e60]
      exact K107 W d qW (by omega) oW
    | succ r ihr =>
      intro d W hd qW oW tW
      refine b_X11_needs_62 ?_
      rw [nI_ltI (by omega) (by omega), x_b0]
      refine ⟨fun q => absurd q (by omega), fun _ => ⟨fun q => ?_, fun q => ?_⟩⟩
      · have e60 := fiA_f q (60 - d)
        rw [show d + (60 - d) = 60 by omega] at e60
        have h9 := K107 W d qW (by omega) oW
        rw [e60] at h9
        rw [q]
        exact h9
      · have q := nf_t q
        have hday : (gmS g.1.1 g.1.2.1 (opP (m + 1)) (s0K (xG g).2.2.2.1, (xG g).2.2.1) d).1.2.2.2.2 = 0 + d := gm_day _ _ _ _ d
        refine u_goT qW _ oW _ _ tW 1 (by decide) (by omega) (by omega) _ (fun S4 q4 o4 t4 => ?_)
        have e3 : (gmS g.1.1 g.1.2.1 (opP (m + 1)) ((gmS g.1.1 g.1.2.1 (opP (m + 1)) (s0K (xG g).2.2.2.1, (xG g).2.2.1) d).1, (gmS g.1.1 g.1.2.1 (opP (m + 1)) (s0K (xG g).2.2.2.1, (xG g).2.2.1) d).2) 1) = gmS g.1.1 g.1.2.1 (opP (m + 1)) (s0K (xG g).2.2.2.1, (xG g).2.2.1) (d + 1) := rfl
        rw [e3] at t4
        have c4 := (cNT (S := S4)).1
        refine ctI.tr e_CT e_CT_i e_CT_n (as' := [.ref 40, .int (nI (bitsN (ctN g.2.2.2.1) (kbN g.2.2.2.1))), .int (nI (d + 1)), .ref 46]) rfl (fun G' => u_sights (G := G') (S := cT S4) (bPl_F c4 ⟨rfl, rfl, rfl, rfl, rfl, rfl, rfl, rfl, rfl, rfl⟩ q4.1.1) (bNt_F c4 rfl rfl rfl rfl rfl rfl q4.2.2.1) (bEs_T.mpr t4) (d + 1) (by omega) _ ?_)
        rw [mgS_rs, nI_add]
        have hI := ihr (d + 1) S4 (by omega) (by rw [show V + m * 300 + 5 * (d + 1) = V + m * 300 + 5 * d + 5 * 1 by omega]; exact q4) o4 t4
        rw [show fiA g (m + 1) (d + 1) = (fiA g (m + 1) d && soA g.2.2.2.1 (gmS g.1.1 g.1.2.1 (opP (m + 1)) (s0K (xG g).2.2.2.1, (xG g).2.2.1) (d + 1)).1.2.1 (d + 1) (kbN g.2.2.2.1)) from by rw [gm_f (P := g.1.1) (T := g.1.2.1) (o := opP (m + 1)) rfl (s := s0K (xG g).2.2.2.1) (d := (xG g).2.2.1) (d' := g.1.2.2.2.2) (d + 1)]; rfl, q, Bool.true_and] at hI
        exact hI
end NEEDS

