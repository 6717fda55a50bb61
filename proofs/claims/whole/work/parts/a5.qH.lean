/-! ===== the program: days ===== -/
section CORE8
variable {G : ab_G} {S0 S : ms_S} {tl : ab_H} {P : tPL} {o : Nat → Option tDQ} {s : tES} {dn v : Nat} {T : tTD} {q : tOP}
theorem bTD_F {A : Nat → Bool} {S' : ms_S} (f : cF A S S') (h0 : A 0 = false) (h7 : A 7 = false) (h8 : A 8 = false) (h9 : A 9 = false) (h10 : A 10 = false) (h11 : A 11 = false) (h : bTD S P T) : bTD S' P T := by
  unfold bTD
  rw [f.1 0 h0, f.2.2.1 7 h7, f.2.2.1 8 h8, f.2.2.1 9 h9, f.2.2.1 10 h10, f.2.2.1 11 h11]
  exact h
theorem bWd.td (hT : bTD S0 P T) (w : bWd S0 S P o v s dn) : bTD S P T := bTD_F w.1 rfl rfl rfl rfl rfl rfl hT
theorem bWd.op (hO : bOP S0 q) (w : bWd S0 S P o v s dn) : bOP S q := by
  unfold bOP
  rw [w.1.1 36 rfl, w.2.1, w.2.2.1]
  exact hO
theorem yr_L1 {jb : Nat → Nat} {x : tES × Nat} {h : Nat} (hj : jb = jbK P x.1.2.2.2.2 q.2.2.1) : (dyL1 P q jb h x).1 = yrS P x.1 h (yrK P x.1 q.2.2.1 q.2.2.2.2.2 h) := by
  subst hj
  unfold dyL1 yrK
  by_cases z : manyK P x.1 h < q.2.2.2.2.2
  · rw [if_pos z, if_pos z]
    rfl
  · rw [if_neg z, if_neg z]
    cases dOut P x.1 (jbK P x.1.2.2.2.2 q.2.2.1) h 7 <;> rfl
theorem bES_dy (hs : bES S P s dn) (hd : s.2.2.2.2 + 1 < 2 ^ 20) : bES (sVa S 46 3 (S.1 46 3 + nI 1)) P (s.1, s.2.1, s.2.2.1, s.2.2.2.1, s.2.2.2.2 + 1) dn := by
  obtain ⟨s1, s2, s3, s4, s5, s6, s7, s8, s9, s10, s11⟩ := hs
  refine ⟨s1, s2, s3, ?_, hd, s6, s7, s8, s9, s10, s11⟩
  show S.1 46 3 + nI 1 = nI (s.2.2.2.2 + 1)
  rw [s4, nI_add]
theorem u_go (hP : bPl S0 P o) (hT : bTD S0 P T) (hO : bOP S0 q) (w : bWd S0 S P o v s dn) (n : Nat) (hn : n < 2 ^ 20) (hv : v + 5 * n < 2 ^ 30) (hd : s.2.2.2.2 + n < 2 ^ 20) (K : ms_S → Prop)
    (k : ∀ S' v', v' ≤ v + 5 * n → bWd S0 S' P o v' (gmS P T q (s, dn) n).1 (gmS P T q (s, dn) n).2 → K S') : ctU G 7 M_X0_goOn false [.ref 36, .ref 46, .int (nI n)] lC S tl K := by
  have p1 := hP.1
  have p2 := hP.2.1
  refine m_X0_goOn (fun n0 => ?_)
  suffices KL : ∀ t i X u, i + t = n → u ≤ v + 5 * i → bWd S0 X P o u (gmS P T q (s, dn) i).1 (gmS P T q (s, dn) i).2 → L_X0_goOn_2 G false n0 tl K X (nI n) (nI i) from KL n 0 S v (Nat.zero_add _) (Nat.le_refl _) w
  intro t
  induction t with
  | zero =>
    intro i X u hi hu x1
    have hi : i = n := hi
    subst hi
    exact b_X0_goOn_2 ⟨fun _ => k X u hu x1, fun z => absurd (Int32.le_refl _) z⟩
  | succ t ih =>
    intro i X u hi hu x1
    refine b_X0_goOn_2 ?_
    rw [nI_leI (by omega) (by omega)]
    refine ⟨fun z => absurd z (by omega), fun _ => ?_⟩
    have hday := gm_day P T q (s, dn) i
    have hnext : ∀ Y u', u' ≤ v + 5 * (i + 1) → bWd S0 Y P o u' (dgS P T q (gmS P T q (s, dn) i).1 (gmS P T q (s, dn) i).2) (dgB P T q (gmS P T q (s, dn) i).1 (gmS P T q (s, dn) i).2).2 → L_X0_goOn_2 G false n0 tl K Y (nI n) (nI (i + 1)) := fun Y u' h1 h2 => ih (i + 1) Y u' (by omega) h1 h2
    generalize (gmS P T q (s, dn) i).1 = s' at *
    generalize (gmS P T q (s, dn) i).2 = d' at *
    have hday : s'.2.2.2.2 = s.2.2.2.2 + i := hday
    clear ih
    -- rows
    have KH : ∀ r h Y u', h + r = P.2.1 → u' ≤ u + h → bWd S0 Y P o u' (dyL P q (jbK P s'.2.2.2.2 q.2.2.1) ((dgB P T q s' d').1, 0) h).1 (dgB P T q s' d').2 → L_X0_goOn_193 G false n0 tl K Y (nI n) (nI i) (nI h) := by
      intro r
      induction r with
      | zero =>
        intro h Y u' hh hu' y1
        have hh : h = P.2.1 := hh
        subst hh
        have hdd := dgC_day P T q s' d'
        refine b_X0_goOn_193 ?_
        rw [(y1.pl hP).2.2.2.1, nI_add i 1]
        refine ⟨fun _ => hnext _ u' (by omega) ?_, fun z => absurd (Int32.le_refl _) z⟩
        exact y1.E (cF.sVa rfl) (bES_dy y1.2.2.2.2.2 (by rw [show (dyL P q (jbK P s'.2.2.2.2 q.2.2.1) ((dgB P T q s' d').1, 0) P.2.1).1.2.2.2.2 = _ from hdd]; omega))
      | succ r ihr =>
        intro h Y u' hh hu' y1
        have yO := y1.op hO
        have yday : (dyL P q (jbK P s'.2.2.2.2 q.2.2.1) ((dgB P T q s' d').1, 0) h).1.2.2.2.2 = s'.2.2.2.2 := by rw [dyL_day, dyD_day]; exact dgA_day _ _ _ _
        refine b_X0_goOn_193 ?_
        rw [(y1.pl hP).2.2.2.1, nI_leI (by omega) (by omega), nI_add h 1]
        refine ⟨fun z => absurd z (by omega), fun _ => ?_⟩
        refine u_layR (y1.pl hP) y1 (by omega) q.2.2.1 yO.2.2.1 q.2.2.2.2.2 yO.2.2.2.2.2.1 yO.2.2.2.2.2.2 h (by omega) _ (fun Z v' hv' z1 => ihr (h + 1) Z v' (by omega) (by omega) ?_)
        show bWd S0 Z P o v' (dyL1 P q _ h _).1 _
        rw [yr_L1 (by rw [yday])]
        exact z1
    -- draws
    have KD : ∀ r j Y, j + r = T.2.2.2.2.1 → bWd S0 Y P o u (dyD P T q (dgA P T q s', d') j).1 (dyD P T q (dgA P T q s', d') j).2 → L_X0_goOn_123 G false n0 tl K Y (nI n) (nI i) (nI j) := by
      intro r
      induction r with
      | zero =>
        intro j Y hj y1
        have hj : j = T.2.2.2.2.1 := hj
        subst hj
        have yT := y1.td hT
        refine b_X0_goOn_123 ?_
        rw [yT.2.2.2.1]
        exact ⟨fun _ => KH P.2.1 0 Y u (Nat.zero_add _) (by omega) y1, fun z => absurd (Int32.le_refl _) z⟩
      | succ r ihr =>
        intro j Y hj y1
        have yT := y1.td hT
        have yO := y1.op hO
        have hT2 := hT.2.1
        obtain ⟨t1, t2, t3, t4⟩ := yT.2.2.2.2.2 j (by omega)
        have hv10 : vp_in (nI j) 10 := (x_vp (by omega)).mpr (by omega)
        have yday : (dyD P T q (dgA P T q s', d') j).1.2.2.2.2 = s'.2.2.2.2 := by rw [dyD_day]; exact dgA_day _ _ _ _
        have hst : dyD P T q (dgA P T q s', d') (j + 1) = dyD1 P T q j (dyD P T q (dgA P T q s', d') j) := rfl
        have hk := fun Z (z1 : bWd S0 Z P o u (dyD P T q (dgA P T q s', d') (j + 1)).1 (dyD P T q (dgA P T q s', d') (j + 1)).2) => ihr (j + 1) Z (by omega) z1
        rw [hst] at hk
        generalize dyD P T q (dgA P T q s', d') j = x at y1 yday hk
        refine b_X0_goOn_123 ?_
        rw [yT.2.2.2.1, nI_leI (by omega) (by omega), nI_clamp (show j < 2 ^ 31 by omega), t1, t3, y1.2.2.2.2.2.2.2.2.1, nI_eq (by omega) (by omega), yO.2.2.2.2.1]
        have hno : ¬ (T.2.2.2.2.2.2 j = x.1.2.2.2.2 ∧ ¬ nI (T.2.2.2.2.2.1 j) = q.2.2.2.2.1) → L_X0_goOn_184 G false n0 tl K Y (nI n) (nI i) (nI j) := fun z => b_X0_goOn_184 (by
          rw [nI_add]
          refine hk Y ?_
          unfold dyD1
          rw [if_neg z]
          exact y1)
        refine ⟨fun z => absurd z (by omega), fun _ => ⟨hv10, fun z => ⟨hv10, fun y => hno (fun m => m.2 y), fun y => ⟨hv10, ?_⟩⟩, fun z => hno (fun m => z m.1)⟩⟩
        refine u_draw hP y1 q.1 q.2.2.2.1 hO.1 hO.2.2.2.1 _ t2 _ (fun Z z1 => b_X0_goOn_184 ?_)
        rw [nI_add]
        refine hk Z ?_
        unfold dyD1
        rw [if_pos ⟨z, y⟩]
        exact z1
    -- trades
    suffices KT : ∀ r j Y, j + r = T.1 → bWd S0 Y P o u (if q.2.1 = true then s' else dyT P T q.2.2.2.1 s' j) d' → L_X0_goOn_10 G false n0 tl K Y (nI n) (nI i) (nI j) from KT T.1 0 X (Nat.zero_add _) (by split <;> exact x1)
    intro r
    induction r with
    | zero =>
      intro j Y hj y1
      have hj : j = T.1 := hj
      subst hj
      refine b_X0_goOn_10 ?_
      rw [(y1.td hT).2.2.1]
      exact ⟨fun _ => KD _ 0 Y (Nat.zero_add _) y1, fun z => absurd (Int32.le_refl _) z⟩
    | succ r ihr =>
      intro j Y hj y1
      have yT := y1.td hT
      have yO := y1.op hO
      have hT1 := hT.1
      obtain ⟨t1, t2, t3, t4, t5, t6⟩ := yT.2.2.2.2.1 j (by omega)
      have hv8 : vp_in (nI j) 8 := (x_vp (by omega)).mpr (by omega)
      have hk := fun Z (z1 : bWd S0 Z P o u (if q.2.1 = true then s' else dyT P T q.2.2.2.1 s' (j + 1)) d') => ihr (j + 1) Z (by omega) z1
      have hst : dyT P T q.2.2.2.1 s' (j + 1) = dyT1 P T q.2.2.2.1 j (dyT P T q.2.2.2.1 s' j) := rfl
      rw [hst] at hk
      refine b_X0_goOn_10 ?_
      rw [yT.2.2.1, nI_leI (by omega) (by omega), nI_clamp (show j < 2 ^ 31 by omega), t1, t3, t5, y1.2.2.2.2.2.2.2.2.1, yO.2.1, x_b0]
      refine ⟨fun z => absurd z (by omega), fun _ => ⟨hv8, ?_⟩⟩
      have h114 : ∀ Z, bWd S0 Z P o u (if q.2.1 = true then s' else dyT1 P T q.2.2.2.1 j (dyT P T q.2.2.2.1 s' j)) d' → L_X0_goOn_114 G false n0 tl K Z (nI n) (nI i) (nI j) := fun Z z1 => b_X0_goOn_114 (by rw [nI_add]; exact hk Z z1)
      by_cases hno : q.2.1 = true
      · rw [if_pos hno] at y1 h114
        exact ⟨fun _ => ⟨fun z => Bool.noConfusion (hno.symm.trans z), fun _ => h114 Y y1⟩, fun _ => h114 Y y1⟩
      · rw [if_neg hno] at y1 h114 ⊢
        generalize dyT P T q.2.2.2.1 s' j = x at y1 h114 ⊢
        have y5 := y1.2.2.2.2.2.2.2.2.2.1
        rw [nI_eq (by omega) (by omega)]
        unfold dyT1 at h114
        refine ⟨fun z => ⟨fun _ => ⟨hv8, hv8, ?_⟩, fun z => absurd (by cases hq : q.2.1 with | false => rfl | true => exact absurd hq hno) z⟩, fun z => h114 Y (by rw [if_neg z]; exact y1)⟩
        rw [if_pos z] at h114
        refine u_can (y1.pl hP) y1.2.2.2.2.2 q.2.2.2.1 yO.2.2.2.1 _ _ t2 t4 _ (fun Z f => ?_)
        have z1 := y1.W f
        rw [x_b0]
        refine ⟨fun m => h114 _ (by rw [m]; exact z1.rf), fun m => ⟨hv8, hv8, ?_⟩⟩
        have m : trK P x q.2.2.2.1 (T.2.1 j) (T.2.2.1 j) = true := by
          cases hq : trK P x q.2.2.2.1 (T.2.1 j) (T.2.2.1 j) with
          | false => exact absurd hq m
          | true => rfl
        rw [congrFun (f.2.2.1 7 rfl) j, congrFun (f.2.2.1 8 rfl) j, t1, t3]
        have hho := z1.2.2.2.2.2.2.2.2.2.2.2.2.2.2.1
        have hm := m
        unfold trK at hm
        simp only [Bool.and_eq_true, decide_eq_true_eq] at hm
        refine u_change (z1.pl hP) z1.2.2.2.2.2 _ _ t2 t4 ?_ ?_ hm.2.2.1 _ (fun V f9 v9 => h114 V (by rw [m, if_pos rfl]; exact z1.E f9 v9))
        · rcases hoOk_cases hho t2 with y | y
          · exact absurd y hm.1
          · exact Or.inr y
        · rcases hoOk_cases hho t4 with y | y
          · exact absurd y hm.2.1
          · exact Or.inr y
end CORE8

