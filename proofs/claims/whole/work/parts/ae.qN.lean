/-! ===== the program: the most rows that the box can make ===== -/
def L_J7_fillmost_5 (G : ab_G) (fr : Bool) (n0 : Nat) (tl : ab_H) (K : ms_S → Prop) (S : ms_S) (i1 : Int32) (i2 : Int32) (i3 : Int32) : Prop := wp G 1 M_J7_fill fr n0 (poU lC tl K) 5 [some (.ref 35), some (.int i1), some (.int i2), some (.int i3)] [] (hLy lC S tl)
set_option maxRecDepth 100000 in
set_option maxHeartbeats 4000000 in
theorem b_J7_fillmost_5 {G : ab_G} {fr : Bool} {n0 : Nat} {tl : ab_H} {K : ms_S → Prop} {S : ms_S} {i1 : Int32} {i2 : Int32} {i3 : Int32}
    (h : (i3 ≤ i2 → (K S)) ∧ (¬ i3 ≤ i2 → (vp_in i2 512 ∧ (L_J7_fillmost_5 G fr n0 tl K (sA S 35 i2.toNatClampNeg i1) i1 (i2 + nI 1) i3)))) :
    L_J7_fillmost_5 G fr n0 tl K S i1 i2 i3 := by
  unfold L_J7_fillmost_5
  iterate 3 refine ws_b rfl ?_
  refine wp_ite (fun q => ?_) (fun q => ?_)
  · replace h := h.1 q
    exact wp_rv rfl rfl ⟨_, rfl, rfl, h⟩
  · replace h := h.2 q
    iterate 3 refine ws_b rfl ?_
    refine ws_g rfl h.1 ?_
    replace h := h.2
    iterate 2 refine ws_b rfl ?_
    exact wp_weak (wk_s (wk_s (wk_s (wk_s wk_0)))) h
set_option maxRecDepth 100000 in
set_option maxHeartbeats 4000000 in
theorem m_J7_fillmost {G : ab_G} {fr : Bool} {tl : ab_H} {K : ms_S → Prop} {S : ms_S} {i1 : Int32}
    (h : ∀ n0 : Nat, L_J7_fillmost_5 G fr n0 tl K S i1 (nI 0) (nI 512)) :
    ctU G 1 M_J7_fill fr [.ref 35, .int i1] lC S tl K := by
  refine wp_ct o_J7_fill (Nat.le_of_ble_eq_true rfl) ?_
  replace h := h (hLy lC S tl).length
  revert h
  generalize (hLy lC S tl).length = n0
  intro h
  iterate 5 refine ws_b rfl ?_
  exact wp_weak (wk_s (wk_s (wk_s (wk_s wk_0)))) h
def L_X3_mostRowsByBox_10 (G : ab_G) (fr : Bool) (n0 : Nat) (tl : ab_H) (K : Int32 → ms_S → Prop) (S : ms_S) (i2 : Int32) : Prop := wp G 7 M_X3_mostRowsByBox fr n0 (poI lC tl K) 10 [some (.ref 31), some (.ref 46), some (.int i2), none, none] [] (hLy lC S tl)
def L_X3_mostRowsByBox_26 (G : ab_G) (fr : Bool) (n0 : Nat) (tl : ab_H) (K : Int32 → ms_S → Prop) (S : ms_S) (i2 : Int32) (i3 : Int32) (i4 : Int32) : Prop := wp G 7 M_X3_mostRowsByBox fr n0 (poI lC tl K) 26 [some (.ref 31), some (.ref 46), some (.int i2), some (.int i3), some (.int i4)] [] (hLy lC S tl)
def L_X3_mostRowsByBox_69 (G : ab_G) (fr : Bool) (n0 : Nat) (tl : ab_H) (K : Int32 → ms_S → Prop) (S : ms_S) (i2 : Int32) (i3 : Int32) (i4 : Int32) : Prop := wp G 7 M_X3_mostRowsByBox fr n0 (poI lC tl K) 69 [some (.ref 31), some (.ref 46), some (.int i2), some (.int i3), some (.int i4)] [] (hLy lC S tl)
set_option maxRecDepth 100000 in
set_option maxHeartbeats 4000000 in
theorem b_X3_mostRowsByBox_10 {G : ab_G} {fr : Bool} {n0 : Nat} {tl : ab_H} {K : Int32 → ms_S → Prop} {S : ms_S} {i2 : Int32}
    (h : ((S.1 0 13) ≤ i2 → (vp_in ((S.1 46 4) &&& (nI 511)) 512 ∧ (K (S.2.2.2.1 35 (((S.1 46 4) &&& (nI 511)).toNatClampNeg)) S))) ∧ (¬ (S.1 0 13) ≤ i2 → (L_X3_mostRowsByBox_26 G fr n0 tl K S i2 (nI 0) (nI 0)))) :
    L_X3_mostRowsByBox_10 G fr n0 tl K S i2 := by
  unfold L_X3_mostRowsByBox_10
  iterate 5 refine ws_b rfl ?_
  refine wp_ite (fun q => ?_) (fun q => ?_)
  · replace h := h.1 q
    iterate 6 refine ws_b rfl ?_
    refine ws_g rfl h.1 ?_
    replace h := h.2
    exact wp_ri rfl rfl rfl ⟨_, _, rfl, rfl, h⟩
  · replace h := h.2 q
    iterate 4 refine ws_b rfl ?_
    exact wp_weak (wk_s (wk_s (wk_s (wk_s (wk_s wk_0))))) h
set_option maxRecDepth 100000 in
set_option maxHeartbeats 4000000 in
theorem b_X3_mostRowsByBox_26 {G : ab_G} {fr : Bool} {n0 : Nat} {tl : ab_H} {K : Int32 → ms_S → Prop} {S : ms_S} {i2 : Int32} {i3 : Int32} {i4 : Int32}
    (h : ((S.1 0 12) ≤ i4 → (vp_in i2 5 ∧ (ctU G 6 M_X3_addHeirToDeal fr [.ref 31, .int (S.2.2.2.1 47 i2.toNatClampNeg), .int ((S.1 46 4) &&& (nI 511)), .int i3] lC S tl (fun S1 => L_X3_mostRowsByBox_10 G fr n0 tl K S1 (i2 + nI 1))))) ∧ (¬ (S.1 0 12) ≤ i4 → ((((((S.1 46 4).toUInt32 >>> (i4.toUInt32 &&& Int32.toUInt32 31)).toInt32) &&& (nI 1)) = (nI 1) → (ctI G 5 M_X3_mayHold fr [.ref 31, .ref 46, .int i4, .int i2] lC S tl (fun v2 S2 => (v2 = 0 → (L_X3_mostRowsByBox_69 G fr n0 tl K S2 i2 i3 i4)) ∧ (¬ v2 = 0 → (L_X3_mostRowsByBox_69 G fr n0 tl K S2 i2 (i3 ||| ((nI 1) <<< (i4 &&& 31))) i4))))) ∧ (¬ ((((S.1 46 4).toUInt32 >>> (i4.toUInt32 &&& Int32.toUInt32 31)).toInt32) &&& (nI 1)) = (nI 1) → (L_X3_mostRowsByBox_69 G fr n0 tl K S i2 i3 i4))))) :
    L_X3_mostRowsByBox_26 G fr n0 tl K S i2 i3 i4 := by
  unfold L_X3_mostRowsByBox_26
  iterate 5 refine ws_b rfl ?_
  refine wp_ite (fun q => ?_) (fun q => ?_)
  · replace h := h.1 q
    iterate 4 refine ws_b rfl ?_
    refine ws_g rfl h.1 ?_
    replace h := h.2
    iterate 5 refine ws_b rfl ?_
    refine wp_cV rfl rfl o_X3_addHeirToDeal v_X3_addHeirToDeal h rfl rfl rfl (Nat.le_of_ble_eq_true rfl) (by decide) ?_
    clear h
    rintro r9 h9 ⟨S1, rfl, rfl, h⟩
    iterate 2 refine ws_b rfl ?_
    exact wp_weak (wk_s (wk_s (wk_s (wk_n (wk_n wk_0))))) h
  · replace h := h.2 q
    iterate 8 refine ws_b rfl ?_
    refine wp_ite (fun q => ?_) (fun q => ?_)
    · replace h := h.1 q
      iterate 4 refine ws_b rfl ?_
      refine wp_cV rfl rfl o_X3_mayHold v_X3_mayHold h rfl rfl rfl (Nat.le_of_ble_eq_true rfl) (by decide) ?_
      clear h
      rintro r9 h9 ⟨v2, S2, rfl, rfl, h⟩
      refine ws_b rfl ?_
      refine wp_ite (fun q => ?_) (fun q => ?_)
      · replace h := h.1 q
        exact wp_weak (wk_s (wk_s (wk_s (wk_s (wk_s wk_0))))) h
      · replace h := h.2 q
        iterate 6 refine ws_b rfl ?_
        exact wp_weak (wk_s (wk_s (wk_s (wk_s (wk_s wk_0))))) h
    · replace h := h.2 q
      exact wp_weak (wk_s (wk_s (wk_s (wk_s (wk_s wk_0))))) h
set_option maxRecDepth 100000 in
set_option maxHeartbeats 4000000 in
theorem b_X3_mostRowsByBox_69 {G : ab_G} {fr : Bool} {n0 : Nat} {tl : ab_H} {K : Int32 → ms_S → Prop} {S : ms_S} {i2 : Int32} {i3 : Int32} {i4 : Int32}
    (h : L_X3_mostRowsByBox_26 G fr n0 tl K S i2 i3 (i4 + nI 1)) :
    L_X3_mostRowsByBox_69 G fr n0 tl K S i2 i3 i4 := by
  unfold L_X3_mostRowsByBox_69
  iterate 2 refine ws_b rfl ?_
  exact wp_weak (wk_s (wk_s (wk_s (wk_s (wk_s wk_0))))) h
set_option maxRecDepth 100000 in
set_option maxHeartbeats 4000000 in
theorem m_X3_mostRowsByBox {G : ab_G} {fr : Bool} {tl : ab_H} {K : Int32 → ms_S → Prop} {S : ms_S} 
    (h : ∀ n0 : Nat, ctU G 1 M_J7_fill fr [.ref 35, .int (nI 0)] lC S tl (fun S1 => L_X3_mostRowsByBox_10 G fr n0 tl K S1 (nI 0))) :
    ctI G 7 M_X3_mostRowsByBox fr [.ref 31, .ref 46] lC S tl K := by
  refine wp_ct o_X3_mostRowsByBox (Nat.le_of_ble_eq_true rfl) ?_
  replace h := h (hLy lC S tl).length
  revert h
  generalize (hLy lC S tl).length = n0
  intro h
  iterate 3 refine ws_b rfl ?_
  refine wp_cS rfl rfl o_J7_fill s_J7_fill h rfl rfl (Nat.le_of_ble_eq_true rfl) (by decide) ?_
  clear h
  rintro r9 h9 ⟨S1, rfl, rfl, h⟩
  iterate 2 refine ws_b rfl ?_
  exact wp_weak (wk_s (wk_s (wk_s (wk_s (wk_s wk_0))))) h
theorem dif_00 {r : Nat} (hr : r < 2 ^ 32) : dif r 0 = r := by
  apply Nat.eq_of_testBit_eq
  intro i
  rw [dif_tb hr, Nat.zero_testBit]
  cases r.testBit i <;> rfl
theorem dlM_a {T R : Nat → Nat} {r c x : Nat} (hr : r < 2 ^ 32) (hx : x &&& c = x) : ∀ n, x ≤ n → T (dif r x) + R x ≤ dlM T R r c n
  | 0, h => by
    rw [Nat.le_zero.mp h, dif_00 hr]
    exact Nat.le_refl _
  | n + 1, h => by
    unfold dlM
    by_cases e : x = n + 1
    · subst e
      rw [if_pos hx]
      exact Nat.le_max_right _ _
    · have ih := dlM_a (T := T) (R := R) hr hx n (by omega)
      split
      · exact Nat.le_trans ih (Nat.le_max_left _ _)
      · exact ih
theorem dlM_b {T R : Nat → Nat} {r c : Nat} (hr : r < 2 ^ 32) : ∀ n, ∃ x, x &&& c = x ∧ dlM T R r c n = T (dif r x) + R x
  | 0 => ⟨0, Nat.zero_and _, by rw [dif_00 hr]; rfl⟩
  | n + 1 => by
    obtain ⟨x, x1, x2⟩ := dlM_b (T := T) (R := R) (c := c) hr n
    unfold dlM
    by_cases e : (n + 1) &&& c = n + 1
    · rw [if_pos e]
      by_cases m : T (dif r (n + 1)) + R (n + 1) ≤ dlM T R r c n
      · rw [Nat.max_eq_left m]
        exact ⟨x, x1, x2⟩
      · rw [Nat.max_eq_right (by omega)]
        exact ⟨n + 1, e, rfl⟩
    · rw [if_neg e]
      exact ⟨x, x1, x2⟩
theorem dlT_mo (g : tSG) : ∀ h a b, a < 2 ^ 32 → b < 2 ^ 32 → a &&& b = a → dlT g h a ≤ dlT g h b
  | 0, _, _, _, _, _ => Nat.le_refl _
  | h + 1, a, b, ha, hb, hab => by
    show dlM (dlT g h) (rqN g h) a (a &&& okN g h) (a &&& okN g h) ≤ dlM (dlT g h) (rqN g h) b (b &&& okN g h) (b &&& okN g h)
    obtain ⟨x, x1, x2⟩ := dlM_b (T := dlT g h) (R := rqN g h) (c := a &&& okN g h) ha (a &&& okN g h)
    rw [x2]
    have hx : x &&& (b &&& okN g h) = x := sb_of (fun i hi => by
      have := sb_tb x1 hi
      rw [Nat.testBit_and, Bool.and_eq_true] at this
      rw [Nat.testBit_and, sb_tb hab this.1, this.2]
      rfl)
    have hxl : x ≤ b &&& okN g h := by rw [← hx]; exact Nat.and_le_right
    refine Nat.le_trans ?_ (dlM_a (T := dlT g h) (R := rqN g h) hb hx _ hxl)
    refine Nat.add_le_add_right (dlT_mo g h _ _ (Nat.lt_of_le_of_lt (dif_le _ _) ha) (Nat.lt_of_le_of_lt (dif_le _ _) hb) (sb_of (fun i hi => ?_))) _
    rw [dif_tb ha, Bool.and_eq_true] at hi
    rw [dif_tb hb, sb_tb hab hi.1, hi.2]
    rfl
theorem nu_pv {set r : Nat} (hr : ¬ r = 0) : (nI r - nI 1) &&& nI set = nI (pvN set r) := by
  rw [pk_sub (by omega), nu_and]
  rfl
def aMo : Nat → Bool := fun a => Nat.beq a 35
theorem aMo_pl : plA aMo := ⟨rfl, rfl, rfl, rfl, rfl, rfl, rfl, rfl, rfl, rfl⟩
section CORE14
variable {G : ab_G} {S : ms_S} {tl : ab_H} {o : Nat → Option tDQ} {g : tSG} {dn v : Nat}
theorem u_mWL {n0 : Nat} {K : Int32 → ms_S → Prop} (hP : bPl S g.1.1 o) (h set : Nat) (hh : h < 5) (hs : set < 2 ^ g.1.1.1) (h5 : set < 512) (hM : ∀ r, r &&& set = r → S.2.2.2.1 35 r = nI (dlT g h r)) (k : ∀ S', cF aRc S S' → bRT S' g.1.1 v (jbC g.1) → K (nI (dlT g (h + 1) set)) S') : ∀ t given B (X : ms_S), given &&& (set &&& okN g h) = given → qk (set &&& okN g h) given = t → cF aRc S X → bRT X g.1.1 v (jbC g.1) → dlT g h set ≤ B → B ≤ dlT g (h + 1) set → (∀ x, x &&& (set &&& okN g h) = x → t < qk (set &&& okN g h) x → rqN g h x = 1 → 1 + dlT g h (dif set x) ≤ B) → L_X3_mostWith_14 G false n0 tl K X (nI (shN g (nI h))) (nI set) (nI (set &&& okN g h)) (nI B) (nI given) (nI (qk (set &&& okN g h) (set &&& okN g h) - t)) := by
  have p1 := hP.1
  have hcs : set &&& okN g h ≤ set := Nat.and_le_left
  have hcsub : (set &&& okN g h) &&& set = set &&& okN g h := sb_of (fun i hi => by
    rw [Nat.testBit_and, Bool.and_eq_true] at hi
    exact hi.1)
  have hD : ∀ x, x &&& (set &&& okN g h) = x → dlT g h (dif set x) + rqN g h x ≤ dlT g (h + 1) set := fun x hx => dlM_a (T := dlT g h) (R := rqN g h) (by omega) hx _ (by rw [← hx]; exact Nat.and_le_right)
  have hDb := dlM_b (T := dlT g h) (R := rqN g h) (r := set) (c := set &&& okN g h) (by omega) (set &&& okN g h)
  have hle1 := dlT_le g (h + 1) set
  have hmo : ∀ x, dlT g h (dif set x) ≤ dlT g h set := fun x => dlT_mo g h _ _ (Nat.lt_of_le_of_lt (dif_le _ _) (by omega)) (by omega) (sb_dif (by omega))
  have hqc := qk_512 (set &&& okN g h) (set &&& okN g h)
  have hfin : ∀ B Y, cF aRc S Y → bRT Y g.1.1 v (jbC g.1) → dlT g h set ≤ B → B ≤ dlT g (h + 1) set → (∀ x, x &&& (set &&& okN g h) = x → rqN g h x = 1 → 1 + dlT g h (dif set x) ≤ B) → L_X3_mostWith_91 G false n0 tl K Y (nI B) := by
    intro B Y y1 y2 b1 b2 b3
    obtain ⟨x, x1, x2⟩ := hDb
    have x2 : dlT g (h + 1) set = dlT g h (dif set x) + rqN g h x := x2
    have hb : dlT g (h + 1) set ≤ B := by
      rw [x2]
      by_cases e : rqN g h x = 1
      · have := b3 x x1 e
        omega
      · have e1 := rq_le g h x
        have := hmo x
        omega
    refine b_X3_mostWith_91 ?_
    rw [show B = dlT g (h + 1) set by omega]
    exact k Y y1 y2
  intro t
  induction t with
  | zero =>
    intro given B X hg hq x1 x2 b1 b2 b3
    have hg0 : given = 0 := qk_z (show set &&& okN g h < 512 by omega) hg hq
    subst hg0
    have K69 : ∀ B' Y, cF aRc S Y → bRT Y g.1.1 v (jbC g.1) → B ≤ B' → B' ≤ dlT g (h + 1) set → (rqN g h 0 = 1 → 1 + dlT g h (dif set 0) ≤ B') → L_X3_mostWith_69 G false n0 tl K Y (nI (shN g (nI h))) (nI set) (nI (set &&& okN g h)) (nI B') (nI 0) (nI (qk (set &&& okN g h) (set &&& okN g h) - 0)) := fun B' Y y1 y2 c1 c2 c3 => b_X3_mostWith_69 ⟨fun _ => hfin B' Y y1 y2 (by omega) c2 (fun x hx hr => by
      by_cases e : x = 0
      · rw [e] at hr ⊢
        exact c3 hr
      · refine Nat.le_trans (b3 x hx (Nat.pos_of_ne_zero (fun q => e (qk_z (show set &&& okN g h < 512 by omega) hx q))) hr) c1), fun z => absurd rfl z⟩
    have hs0 : dif set 0 &&& set = dif set 0 := sb_dif (by omega)
    have hd5 : dif set 0 ≤ set := dif_le _ _
    have hT := dlT_le g h (dif set 0)
    have hBl : B < 100 := by omega
    refine b_X3_mostWith_14 ?_
    rw [nI_leI (by decide) (by omega), nu_dif, show (nI (dif set 0)).toNatClampNeg = dif set 0 from nI_clamp (by omega), (congrFun (x1.2.2.1 35 rfl) _).trans (hM _ hs0), nI_add, nI_leI (by omega) (by omega), nu_or]
    have hvd : vp_in (nI (dif set 0)) 512 := (x_vp (by omega)).mpr (by omega)
    refine ⟨fun z => absurd z (by omega), fun _ => ⟨hvd, fun z => K69 B X x1 x2 (Nat.le_refl _) b2 (fun _ => z), fun z => u_isRow (bPl_F x1 aRc_pl hP) x2 _ (Nat.or_lt_two_pow (heldN_lt _ _ _) (Nat.two_pow_pos _)) _ (fun Y f y2 => ?_)⟩⟩
    have y1 := x1.tr f
    rw [x_b0, (congrFun (y1.2.2.1 35 rfl) _).trans (hM _ hs0), nI_add]
    refine ⟨fun w => K69 B Y y1 y2 (Nat.le_refl _) b2 (fun e => ?_), fun w => ⟨hvd, K69 _ Y y1 y2 (by omega) ?_ (fun _ => Nat.le_refl _)⟩⟩
    · have : rqN g h 0 = 0 := if_neg (fun q => by rw [w] at q; cases q)
      omega
    · have := hD 0 (Nat.zero_and _)
      have e : rqN g h 0 = 1 := if_pos (bl_t w)
      omega
  | succ t ih =>
    intro given B X hg hq x1 x2 b1 b2 b3
    have hg0 : ¬ given = 0 := fun z => by rw [z, show qk (set &&& okN g h) 0 = 0 from qkN_0 _ 9] at hq; omega
    have hgl : given ≤ set &&& okN g h := by rw [← hg]; exact Nat.and_le_right
    have hqle : qk (set &&& okN g h) given ≤ qk (set &&& okN g h) (set &&& okN g h) := qkN_mo hg 9
    have hc5 : set &&& okN g h < 512 := by omega
    have hpv := qk_pv hc5 hg hg0
    have K69 : ∀ B' Y, cF aRc S Y → bRT Y g.1.1 v (jbC g.1) → B ≤ B' → B' ≤ dlT g (h + 1) set → (rqN g h given = 1 → 1 + dlT g h (dif set given) ≤ B') → L_X3_mostWith_69 G false n0 tl K Y (nI (shN g (nI h))) (nI set) (nI (set &&& okN g h)) (nI B') (nI given) (nI (qk (set &&& okN g h) (set &&& okN g h) - (t + 1))) := by
      intro B' Y y1 y2 c1 c2 c3
      refine b_X3_mostWith_69 ?_
      rw [x_eq0 (by omega), nu_pv hg0, nI_add, show qk (set &&& okN g h) (set &&& okN g h) - (t + 1) + 1 = qk (set &&& okN g h) (set &&& okN g h) - t by omega]
      refine ⟨fun z => absurd z hg0, fun _ => ih _ B' Y (pv_sub _ _) (by omega) y1 y2 (by omega) c2 (fun x hx hxq hr => ?_)⟩
      by_cases e : qk (set &&& okN g h) x = t + 1
      · have := qk_inj hc5 hx hg (by omega)
        subst this
        exact c3 hr
      · exact Nat.le_trans (b3 x hx (by omega) hr) c1
    have hsg : dif set given &&& set = dif set given := sb_dif (by omega)
    have hd5 : dif set given ≤ set := dif_le _ _
    have hT := dlT_le g h (dif set given)
    have hgs : given < 2 ^ g.1.1.1 := by omega
    refine b_X3_mostWith_14 ?_
    rw [nI_leI (by decide) (by omega), nu_dif, show (nI (dif set given)).toNatClampNeg = dif set given from nI_clamp (by omega), (congrFun (x1.2.2.1 35 rfl) _).trans (hM _ hsg), nI_add, nI_leI (by omega) (by omega), nu_or]
    have hvd : vp_in (nI (dif set given)) 512 := (x_vp (by omega)).mpr (by omega)
    refine ⟨fun z => absurd z (by omega), fun _ => ⟨hvd, fun z => K69 B X x1 x2 (Nat.le_refl _) b2 (fun _ => z), fun z => u_isRow (bPl_F x1 aRc_pl hP) x2 _ (Nat.or_lt_two_pow (heldN_lt _ _ _) hgs) _ (fun Y f y2 => ?_)⟩⟩
    have y1 := x1.tr f
    rw [x_b0, (congrFun (y1.2.2.1 35 rfl) _).trans (hM _ hsg), nI_add]
    refine ⟨fun w => K69 B Y y1 y2 (Nat.le_refl _) b2 (fun e => ?_), fun w => ⟨hvd, K69 _ Y y1 y2 (by omega) ?_ (fun _ => Nat.le_refl _)⟩⟩
    · have : rqN g h given = 0 := if_neg (fun q => by rw [w] at q; cases q)
      omega
    · have := hD given hg
      have e : rqN g h given = 1 := if_pos (bl_t w)
      omega
theorem u_mW (hP : bPl S g.1.1 o) (hR : bRT S g.1.1 v (jbC g.1)) (h set : Nat) (hh : h < 5) (hs : set < 2 ^ g.1.1.1) (hM : ∀ r, r &&& set = r → S.2.2.2.1 35 r = nI (dlT g h r)) (K : Int32 → ms_S → Prop) (k : ∀ S', cF aRc S S' → bRT S' g.1.1 v (jbC g.1) → K (nI (dlT g (h + 1) set)) S') : ctI G 5 M_X3_mostWith false [.ref 31, .int (nI (shN g (nI h))), .int (nI set), .int (nI (set &&& okN g h))] lC S tl K := by
  have h5 : set < 512 := Nat.lt_of_lt_of_le hs (p2_9 hP.1)
  refine m_X3_mostWith (fun n0 => ⟨(x_vp (by omega)).mpr h5, ?_⟩)
  rw [show (nI set).toNatClampNeg = set from nI_clamp (by omega), hM set (Nat.and_self _)]
  have hD := dlM_a (T := dlT g h) (R := rqN g h) (r := set) (c := set &&& okN g h) (x := 0) (by omega) (Nat.zero_and _) (set &&& okN g h) (Nat.zero_le _)
  rw [dif_00 (r := set) (by omega)] at hD
  have hD : dlT g h set + rqN g h 0 ≤ dlT g (h + 1) set := hD
  have := u_mWL (G := G) (tl := tl) (n0 := n0) (K := K) hP h set hh hs h5 hM k (qk (set &&& okN g h) (set &&& okN g h)) (set &&& okN g h) (dlT g h set) S (Nat.and_self _) rfl cF.rf hR (Nat.le_refl _) (by omega) (fun x hx hq => absurd (show qk (set &&& okN g h) x ≤ qk (set &&& okN g h) (set &&& okN g h) from qkN_mo hx 9) (by omega))
  rw [Nat.sub_self] at this
  exact this
def aMR : Nat → Bool := fun a => aRc a || aMo a
theorem mr_R (a : Nat) (h : aMR a = false) : aRc a = false := by
  unfold aMR at h
  simp only [Bool.or_eq_false_iff] at h
  exact h.1
theorem mr_M (a : Nat) (h : aMR a = false) : aMo a = false := by
  unfold aMR at h
  simp only [Bool.or_eq_false_iff] at h
  exact h.2
theorem aMR_pl : plA aMR := ⟨rfl, rfl, rfl, rfl, rfl, rfl, rfl, rfl, rfl, rfl⟩
/-- sets above are done, the others still as before -/
def adI (g : tSG) (h box t : Nat) (X : ms_S) : Prop := ∀ r, r &&& box = r → X.2.2.2.1 35 r = nI (if t < qk box r then dlT g (h + 1) r else dlT g h r)
theorem ad_st {X Y : ms_S} {h box t set : Nat} (h5 : box < 512) (hs : set &&& box = set) (hq : qk box set = t + 1) (x : adI g h box (t + 1) X) (hy : Y.2.2.2.1 35 = upd (X.2.2.2.1 35) set (nI (dlT g (h + 1) set))) : adI g h box t Y := by
  intro r hr
  rw [hy]
  by_cases e : r = set
  · rw [e, pk_us, if_pos (by omega)]
  · have hne : ¬ qk box r = t + 1 := fun q => e (qk_inj h5 hr hs (by omega))
    rw [pk_un e, x r hr]
    by_cases z : t + 1 < qk box r
    · rw [if_pos z, if_pos (by omega)]
    · rw [if_neg z, if_neg (by omega)]
theorem u_adL {n0 : Nat} {K : ms_S → Prop} (hP : bPl S g.1.1 o) (h box : Nat) (hh : h < 5) (hb : box < 2 ^ g.1.1.1) (h5 : box < 512) (k : ∀ S', cF aMR S S' → bRT S' g.1.1 v (jbC g.1) → (∀ r, r &&& box = r → S'.2.2.2.1 35 r = nI (dlT g (h + 1) r)) → K S') : ∀ t set (X : ms_S), set &&& box = set → qk box set = t → cF aMR S X → bRT X g.1.1 v (jbC g.1) → adI g h box t X → L_X3_addHeirToDeal_6 G false n0 tl K X (nI (shN g (nI h))) (nI box) (nI (okN g h)) (nI set) (nI (qk box box - t)) := by
  have hqb := qk_512 box box
  have hstep : ∀ t set (X : ms_S), set &&& box = set → qk box set = t → bRT X g.1.1 v (jbC g.1) → cF aMR S X → adI g h box t X → (∀ Y, cF aRc X Y → bRT Y g.1.1 v (jbC g.1) → vp_in (nI set) 512 ∧ (nI set = 0 → L_X3_addHeirToDeal_54 G false n0 tl K (sA Y 35 (nI set).toNatClampNeg (nI (dlT g (h + 1) set)))) ∧ (¬ nI set = 0 → L_X3_addHeirToDeal_6 G false n0 tl K (sA Y 35 (nI set).toNatClampNeg (nI (dlT g (h + 1) set))) (nI (shN g (nI h))) (nI box) (nI (okN g h)) ((nI set - nI 1) &&& nI box) (nI (qk box box - t) + nI 1))) → L_X3_addHeirToDeal_6 G false n0 tl K X (nI (shN g (nI h))) (nI box) (nI (okN g h)) (nI set) (nI (qk box box - t)) := by
    intro t set X hs hq x2 x1 x3 kk
    have hsl : set ≤ box := by rw [← hs]; exact Nat.and_le_right
    refine b_X3_addHeirToDeal_6 ?_
    rw [nI_leI (by decide) (by omega), nu_and]
    refine ⟨fun z => absurd z (by omega), fun _ => u_mW (bPl_F x1 aMR_pl hP) x2 h set hh (by omega) (fun r hr => ?_) _ kk⟩
    have hm : qk box r ≤ qk box set := qkN_mo hr 9
    rw [x3 r (sub_tr hr hs), if_neg (by omega)]
  intro t
  induction t with
  | zero =>
    intro set X hs hq x1 x2 x3
    have hs0 : set = 0 := qk_z h5 hs hq
    subst hs0
    refine hstep 0 0 X hs hq x2 x1 x3 (fun Y f y2 => ⟨(x_vp (by decide)).mpr (by decide), fun _ => b_X3_addHeirToDeal_54 (k _ ?_ ?_ ?_), fun z => absurd rfl z⟩)
    · exact (x1.tr (f.mono mr_R)).tr (cF.sA rfl)
    · exact bRT_F (A := aMo) (cF.sA rfl) rfl rfl rfl rfl y2
    · intro r hr
      show upd (Y.2.2.2.1 35) 0 (nI (dlT g (h + 1) 0)) r = _
      by_cases e : r = 0
      · rw [e, pk_us]
      · rw [pk_un e, f.2.2.1 35 rfl, x3 r hr, if_pos (Nat.pos_of_ne_zero (fun q => e (qk_z h5 hr q)))]
  | succ t ih =>
    intro set X hs hq x1 x2 x3
    have hsl : set ≤ box := by rw [← hs]; exact Nat.and_le_right
    have hs0 : ¬ set = 0 := fun z => by rw [z, show qk box 0 = 0 from qkN_0 _ 9] at hq; omega
    have hqle : qk box set ≤ qk box box := qkN_mo hs 9
    have hpv := qk_pv h5 hs hs0
    refine hstep (t + 1) set X hs hq x2 x1 x3 (fun Y f y2 => ⟨(x_vp (by omega)).mpr (by omega), fun z => absurd ((x_eq0 (by omega)).mp z) hs0, fun _ => ?_⟩)
    rw [nu_pv hs0, nI_add, show qk box box - (t + 1) + 1 = qk box box - t by omega, show (nI set).toNatClampNeg = set from nI_clamp (by omega)]
    refine ih _ _ (pv_sub _ _) (by omega) ((x1.tr (f.mono mr_R)).tr (cF.sA rfl)) (bRT_F (A := aMo) (cF.sA rfl) rfl rfl rfl rfl y2) (ad_st h5 hs hq x3 ?_)
    show upd (Y.2.2.2.1 35) set _ = _
    rw [f.2.2.1 35 rfl]
theorem u_ad (hP : bPl S g.1.1 o) (hR : bRT S g.1.1 v (jbC g.1)) (h box : Nat) (hh : h < 5) (hb : box < 2 ^ g.1.1.1) (hM : ∀ r, r &&& box = r → S.2.2.2.1 35 r = nI (dlT g h r)) (K : ms_S → Prop) (k : ∀ S', cF aMR S S' → bRT S' g.1.1 v (jbC g.1) → (∀ r, r &&& box = r → S'.2.2.2.1 35 r = nI (dlT g (h + 1) r)) → K S') : ctU G 6 M_X3_addHeirToDeal false [.ref 31, .int (nI (shN g (nI h))), .int (nI box), .int (nI (okN g h))] lC S tl K := by
  have h5 : box < 512 := Nat.lt_of_lt_of_le hb (p2_9 hP.1)
  refine m_X3_addHeirToDeal (fun n0 => ?_)
  have := u_adL (G := G) (tl := tl) (n0 := n0) (K := K) hP h box hh hb h5 k (qk box box) box S (Nat.and_self _) rfl cF.rf hR (fun r hr => by
    have hm : qk box r ≤ qk box box := qkN_mo hr 9
    rw [if_neg (by omega)]
    exact hM r hr)
  rw [Nat.sub_self] at this
  exact this
def aDl : Nat → Bool := fun a => aMR a || aW a
theorem dl_M (a : Nat) (h : aDl a = false) : aMR a = false := by
  unfold aDl at h
  simp only [Bool.or_eq_false_iff] at h
  exact h.1
theorem dl_W (a : Nat) (h : aDl a = false) : aW a = false := by
  unfold aDl at h
  simp only [Bool.or_eq_false_iff] at h
  exact h.2
theorem aDl_pl : plA aDl := ⟨rfl, rfl, rfl, rfl, rfl, rfl, rfl, rfl, rfl, rfl⟩
theorem u_fillM (K : ms_S → Prop) (k : ∀ S', cF aMo S S' → (∀ r, r < 512 → S'.2.2.2.1 35 r = nI 0) → K S') : ctU G 1 M_J7_fill false [.ref 35, .int (nI 0)] lC S tl K := by
  refine m_J7_fillmost (fun n0 => ?_)
  suffices KL : ∀ t i (X : ms_S), i + t = 512 → cF aMo S X → (∀ r, r < i → X.2.2.2.1 35 r = nI 0) → L_J7_fillmost_5 G false n0 tl K X (nI 0) (nI i) (nI 512) from KL 512 0 S (Nat.zero_add _) cF.rf (fun r hr => absurd hr (Nat.not_lt_zero _))
  intro t
  induction t with
  | zero =>
    intro i X hi x1 x2
    have hi : i = 512 := hi
    subst hi
    exact b_J7_fillmost_5 ⟨fun _ => k X x1 x2, fun z => absurd (Int32.le_refl _) z⟩
  | succ t ih =>
    intro i X hi x1 x2
    refine b_J7_fillmost_5 ?_
    rw [nI_leI (by decide) (by omega), show (nI i).toNatClampNeg = i from nI_clamp (by omega), nI_add]
    refine ⟨fun z => absurd z (by omega), fun _ => ⟨(x_vp (by omega)).mpr (by omega), ih (i + 1) _ (by omega) (x1.tr (cF.sA rfl)) (fun r hr => ?_)⟩⟩
    show upd (X.2.2.2.1 35) i (nI 0) r = _
    by_cases e : r = i
    · rw [e, pk_us]
    · rw [pk_un e]
      exact x2 r (by omega)
theorem u_deal (hP : bPl S g.1.1 o) (hs : bES S g.1.1 g.1.2.2.2.1 dn) (hR : bRT S g.1.1 v (jbC g.1)) (ha : S.1 31 7 = bI false) (K : Int32 → ms_S → Prop) (k : ∀ S', cF aDl S S' → bRT S' g.1.1 v (jbC g.1) → K (A_deal g) S') : ctI G 7 M_X3_mostRowsByBox false [.ref 31, .ref 46] lC S tl K := by
  have p1 := hP.1
  have p2 := hP.2.1
  have hbl : bxG g < 2 ^ g.1.1.1 := heldN_lt _ _ _
  have h5 : bxG g < 512 := Nat.lt_of_lt_of_le hbl (p2_9 p1)
  refine m_X3_mostRowsByBox (fun n0 => u_fillM _ (fun S1 f1 z1 => ?_))
  suffices KL : ∀ t h (X : ms_S), h + t = g.1.1.2.1 → cF aDl S X → bRT X g.1.1 v (jbC g.1) → (∀ r, r &&& bxG g = r → X.2.2.2.1 35 r = nI (dlT g h r)) → L_X3_mostRowsByBox_10 G false n0 tl K X (nI h) from KL g.1.1.2.1 0 S1 (Nat.zero_add _) (f1.mono (fun a q => mr_M a (dl_M a q))) (bRT_F f1 rfl rfl rfl rfl hR) (fun r hr => z1 r (Nat.lt_of_le_of_lt (show r ≤ bxG g by rw [← hr]; exact Nat.and_le_right) h5))
  intro t
  induction t with
  | zero =>
    intro h X hh x1 x2 x3
    have hh : h = g.1.1.2.1 := hh
    subst hh
    have xs : bES X g.1.1 g.1.2.2.2.1 dn := bES_F x1 ⟨rfl, rfl, rfl, rfl⟩ hs
    refine b_X3_mostRowsByBox_10 ?_
    rw [(bPl_F x1 aDl_pl hP).2.2.2.1, show X.1 46 4 = nI (bxG g) from xs.2.2.2.2.2.1, pk_andN (n := bxG g) (by omega) (m := nI 511) 9 (by decide), Nat.mod_eq_of_lt (show bxG g < 2 ^ 9 from h5), show (nI (bxG g)).toNatClampNeg = bxG g from nI_clamp (by omega), x3 _ (Nat.and_self _)]
    exact ⟨fun _ => ⟨(x_vp (by omega)).mpr h5, k X x1 x2⟩, fun z => absurd (Int32.le_refl _) z⟩
  | succ t ih =>
    intro h X hh x1 x2 x3
    refine b_X3_mostRowsByBox_10 ?_
    rw [(bPl_F x1 aDl_pl hP).2.2.2.1, nI_leI (by omega) (by omega)]
    refine ⟨fun z => absurd z (by omega), fun _ => ?_⟩
    suffices KP : ∀ u p (Y : ms_S), p + u = g.1.1.1 → cF aDl S Y → bRT Y g.1.1 v (jbC g.1) → (∀ r, r &&& bxG g = r → Y.2.2.2.1 35 r = nI (dlT g h r)) → L_X3_mostRowsByBox_26 G false n0 tl K Y (nI h) (nI (bitsN (fun p => (bxG g).testBit p && mayK g.1.1 g.1.2.2.2.1 false h p) p)) (nI p) from KP g.1.1.1 0 X (Nat.zero_add _) x1 x2 x3
    intro u
    induction u with
    | zero =>
      intro p Y hp y1 y2 y3
      have hp : p = g.1.1.1 := hp
      subst hp
      have ys : bES Y g.1.1 g.1.2.2.2.1 dn := bES_F y1 ⟨rfl, rfl, rfl, rfl⟩ hs
      refine b_X3_mostRowsByBox_26 ?_
      rw [(bPl_F y1 aDl_pl hP).2.2.1, show Y.1 46 4 = nI (bxG g) from ys.2.2.2.2.2.1, pk_andN (n := bxG g) (by omega) (m := nI 511) 9 (by decide), Nat.mod_eq_of_lt (show bxG g < 2 ^ 9 from h5), show (nI h).toNatClampNeg = h from nI_clamp (by omega), ys.1 h (by omega)]
      refine ⟨fun _ => ⟨(x_vp (by omega)).mpr (by omega), u_ad (bPl_F y1 aDl_pl hP) y2 h (bxG g) (by omega) hbl y3 _ (fun Z f z2 z3 => ?_)⟩, fun z => absurd (Int32.le_refl _) z⟩
      rw [nI_add]
      exact ih (h + 1) Z (by omega) (y1.tr (f.mono dl_M)) z2 z3
    | succ u ihu =>
      intro p Y hp y1 y2 y3
      have hPY := bPl_F y1 aDl_pl hP
      have ys : bES Y g.1.1 g.1.2.2.2.1 dn := bES_F y1 ⟨rfl, rfl, rfl, rfl⟩ hs
      have h9 := fun Z z1 z2 z3 => ihu (p + 1) Z (by omega) z1 z2 z3
      have hno : ∀ Z, cF aDl S Z → bRT Z g.1.1 v (jbC g.1) → (∀ r, r &&& bxG g = r → Z.2.2.2.1 35 r = nI (dlT g h r)) → ((bxG g).testBit p && mayK g.1.1 g.1.2.2.2.1 false h p) = false → L_X3_mostRowsByBox_69 G false n0 tl K Z (nI h) (nI (bitsN (fun p => (bxG g).testBit p && mayK g.1.1 g.1.2.2.2.1 false h p) p)) (nI p) := fun Z z1 z2 z3 hb => b_X3_mostRowsByBox_69 (by
        have := h9 Z z1 z2 z3
        rw [bitsN_0 (f := fun p => (bxG g).testBit p && mayK g.1.1 g.1.2.2.2.1 false h p) hb] at this
        rw [nI_add]
        exact this)
      refine b_X3_mostRowsByBox_26 ?_
      rw [hPY.2.2.1, nI_leI (by omega) (by omega), show Y.1 46 4 = nI (bxG g) from ys.2.2.2.2.2.1, tb_u (by omega) (by omega), nu_set (by omega)]
      refine ⟨fun z => absurd z (by omega), fun _ => ⟨fun z => u_may hPY ys p h (by omega) (by omega) false ((congrFun (y1.1 31 rfl) 7).trans ha) _ (fun Z f => ?_), fun z => hno Y y1 y2 y3 ?_⟩⟩
      · have z1 := y1.tr (f.mono dl_W)
        have z2 := bRT_F f rfl rfl rfl rfl y2
        have z3 : ∀ r, r &&& bxG g = r → Z.2.2.2.1 35 r = nI (dlT g h r) := fun r hr => (congrFun (f.2.2.1 35 rfl) r).trans (y3 r hr)
        rw [x_b0]
        refine ⟨fun w => hno Z z1 z2 z3 (by rw [w, Bool.and_false]), fun w => b_X3_mostRowsByBox_69 ?_⟩
        have := h9 Z z1 z2 z3
        rw [bitsN_1 (f := fun p => (bxG g).testBit p && mayK g.1.1 g.1.2.2.2.1 false h p) (by show ((bxG g).testBit p && _) = true; rw [z, bl_t w]; rfl)] at this
        rw [nI_add]
        exact this
      · cases e : (bxG g).testBit p with
        | true => exact absurd e z
        | false => rfl
end CORE14

