/-! ===== the program: text ===== -/
def L_J7_fillkd_5 (G : ab_G) (fr : Bool) (n0 : Nat) (tl : ab_H) (K : ms_S → Prop) (S : ms_S) (i1 : Int32) (i2 : Int32) (i3 : Int32) : Prop := wp G 1 M_J7_fill fr n0 (poU lC tl K) 5 [some (.ref 33), some (.int i1), some (.int i2), some (.int i3)] [] (hLy lC S tl)
set_option maxRecDepth 100000 in
set_option maxHeartbeats 4000000 in
theorem b_J7_fillkd_5 {G : ab_G} {fr : Bool} {n0 : Nat} {tl : ab_H} {K : ms_S → Prop} {S : ms_S} {i1 : Int32} {i2 : Int32} {i3 : Int32}
    (h : (i3 ≤ i2 → (K S)) ∧ (¬ i3 ≤ i2 → (vp_in i2 128 ∧ (L_J7_fillkd_5 G fr n0 tl K (sA S 33 i2.toNatClampNeg i1) i1 (i2 + nI 1) i3)))) :
    L_J7_fillkd_5 G fr n0 tl K S i1 i2 i3 := by
  unfold L_J7_fillkd_5
  iterate 3 refine ws_b rfl ?_
  refine wp_ite (fun q => ?_) (fun q => ?_)
  · replace h := h.1 q
    exact wp_rv rfl rfl ⟨_, rfl, rfl, h⟩
  · replace h := h.2 q
    iterate 3 refine ws_b rfl ?_
    refine ws_g rfl h.1 ?_
    replace h := h.2
    iterate 2 refine ws_b rfl ?_
    exact wp_weak (wk_s (wk_s (wk_s (wk_s wk_0)))) h
set_option maxRecDepth 100000 in
set_option maxHeartbeats 4000000 in
theorem m_J7_fillkd {G : ab_G} {fr : Bool} {tl : ab_H} {K : ms_S → Prop} {S : ms_S} {i1 : Int32}
    (h : ∀ n0 : Nat, L_J7_fillkd_5 G fr n0 tl K S i1 (nI 0) (nI 128)) :
    ctU G 1 M_J7_fill fr [.ref 33, .int i1] lC S tl K := by
  refine wp_ct o_J7_fill (Nat.le_of_ble_eq_true rfl) ?_
  replace h := h (hLy lC S tl).length
  revert h
  generalize (hLy lC S tl).length = n0
  intro h
  iterate 5 refine ws_b rfl ?_
  exact wp_weak (wk_s (wk_s (wk_s (wk_s wk_0)))) h
theorem bQ_r {S : ms_S} {Y : Nat → Nat → Nat} {g : tSG} {o : Nat → Option tDQ} {V : Nat} (h : bQ (S.1, S.2.1, Y, S.2.2.2) g o V) : bQ S g o V := h
theorem mLw_of {T : ms_S} {p : Nat} {pl : List Nat} {o : Option tDQ} (h : lwO T p o) (h0 : (rsS pl T).1 0 = T.1 p) (h1 : (rsS pl T).2.2.2.1 1 = T.2.2.2.1 (p + 1)) : mLw (rsS pl T) o := by
  cases o with
  | none =>
    refine ⟨?_, ?_⟩
    · rw [h0]; exact h.1
    · show (rsS pl T).1 0 4 = nI 0
      rw [h0]; exact h.2
  | some q =>
    obtain ⟨⟨a1, a2, a3⟩, v⟩ := h
    refine ⟨?_, v, ?_, fun j hj => ?_⟩
    · rw [h0]; exact a1
    · rw [h0]; exact a2
    · rw [h1]; exact a3 j hj
theorem bQp_D {Z : ms_S} {g : tSG} {D : tDR} (h : bDr (rsS e_PlB Z) D) : bQp (cN Z) (gNew g D) (lwD D).2 := by
  obtain ⟨⟨a1, a2, a3⟩, ⟨b1, b2, b3, b4, b5⟩, ⟨c1, c2, c3⟩, ⟨d1, d2, d3⟩, ⟨f1, f2, f3, f4⟩, ⟨l1, l2, l3, l4, l5⟩⟩ := h
  refine ⟨⟨a1, b1, a2, b2, fun p hp => (a3 p hp).2, mLw_of (T := cN Z) (p := 13) l3 rfl rfl, mLw_of (T := cN Z) (p := 17) l4 rfl rfl, mLw_of (T := cN Z) (p := 21) l5 rfl rfl, fun w hw => ⟨rfl, rfl⟩⟩, ⟨c1, d1, c2, d2, c3, d3⟩, ⟨b4, fun p hp => ?_⟩, ?_, ?_, ?_, ?_, fun p hp => (a3 p hp).1, b3, l1, l2⟩
  · have hp : p < D.1.1 := hp
    rcases b5 p (by omega) with q | ⟨x, x1, x2, x3⟩
    · exact Or.inl q
    · exact Or.inr ⟨x, x1, x3⟩
  · cases hn : D.2.2.2.2.1.1 with
    | none =>
      rw [hn] at f1
      exact Or.inl ⟨f1, by show D.2.2.2.2.1.1.getD 2 = 2; rw [hn]; rfl⟩
    | some v =>
      have e : (gNew g D).1.2.2.1 = v := by show D.2.2.2.2.1.1.getD 2 = v; rw [hn]; rfl
      rw [hn] at f1
      rw [e]
      exact Or.inr ⟨by have := (f2 v hn).1; omega, f1⟩
  · show D.2.2.2.2.1.1.getD 2 ≤ 9
    cases hn : D.2.2.2.2.1.1 with
    | none => show 2 ≤ 9; decide
    | some v => exact (f2 v hn).2
  · cases hn : D.2.2.2.2.1.2 with
    | none =>
      rw [hn] at f3
      exact Or.inl ⟨f3, by show D.2.2.2.2.1.2.getD 0 = 0; rw [hn]; rfl⟩
    | some v =>
      rw [hn] at f3
      exact Or.inr (by show (cN Z).1 0 17 = nI (D.2.2.2.2.1.2.getD 0); rw [hn]; exact f3)
  · show D.2.2.2.2.1.2.getD 0 ≤ 99999
    cases hn : D.2.2.2.2.1.2 with
    | none => exact Nat.zero_le _
    | some v => exact f4 v hn
theorem bRT_new {T : ms_S} {P P' : tPL} {v : Nat} {jb : Nat → Nat} (h : bRT T P v jb) (hv : v + 1 < 2 ^ 30) : bRT (sVa T 25 7 (nI (v + 1))) P' (v + 1) jb := by
  obtain ⟨h1, h2, h3, h4, h5, h6, h7, h8⟩ := h
  refine ⟨rfl, by omega, hv, h4, h5, h6, h7, fun set hs => ?_⟩
  obtain ⟨⟨u, u1, u2⟩, -⟩ := h8 set hs
  refine ⟨⟨u, by omega, u2⟩, fun q => ?_⟩
  exfalso
  have q : T.2.2.2.1 27 set = nI (v + 1) := q
  have := (nI_eq (by omega) (by omega)).mp (u2.symm.trans q)
  omega
theorem bDr_B {A : Nat → Bool} {S S' : ms_S} {D : tDR} (h : bDr (rsS e_PlB S) D) (f : cF A S S') (hA : ∀ a, 4 ≤ a → a ≤ 28 → A a = false) : bDr (rsS e_PlB S') D := by
  have t : ∀ a, a < 25 → e_PlB.getD a 0 = 4 + a := by decide
  have q1 : ∀ a, a < 25 → (rsS e_PlB S').1 a = (rsS e_PlB S).1 a := fun a ha => f.1 _ (hA _ (by rw [t a ha]; omega) (by rw [t a ha]; omega))
  have q2 : ∀ a, a < 25 → (rsS e_PlB S').2.2.2.1 a = (rsS e_PlB S).2.2.2.1 a := fun a ha => f.2.2.1 _ (hA _ (by rw [t a ha]; omega) (by rw [t a ha]; omega))
  refine bDr_E h ⟨fun k _ _ => by rw [q1 0 (by decide)], fun a i _ _ _ => by rw [q2 a (by omega)], fun a i _ _ _ => by rw [q2 a (by omega)], fun a i _ _ _ => by rw [q2 a (by omega)], fun a i _ _ _ => by rw [q2 a (by omega)], fun p hp => ?_⟩
  have hp2 : p + 1 < 25 := by omega
  rw [q1 p (by omega), q2 (p + 1) hp2]
  exact ⟨rfl, rfl, fun _ _ => rfl⟩
section TEXT
variable {G : ab_G} {tl : ab_H} {S : ms_S} {g : tSG} {o : Nat → Option tDQ} {V : Nat}
theorem u_fillK {T : ms_S} (K : ms_S → Prop) (k : ∀ T', cF (fun a => Nat.beq a 33) T T' → (∀ r, r < 128 → T'.2.2.2.1 33 r = -(nI 1)) → K T') : ctU G 1 M_J7_fill false [.ref 33, .int (-(nI 1))] lC T tl K := by
  refine m_J7_fillkd (fun n0 => ?_)
  suffices KL : ∀ t i (X : ms_S), i + t = 128 → cF (fun a => Nat.beq a 33) T X → (∀ r, r < i → X.2.2.2.1 33 r = -(nI 1)) → L_J7_fillkd_5 G false n0 tl K X (-(nI 1)) (nI i) (nI 128) from KL 128 0 T (Nat.zero_add _) cF.rf (fun r hr => absurd hr (Nat.not_lt_zero _))
  intro t
  induction t with
  | zero =>
    intro i X hi x1 x2
    have hi : i = 128 := hi
    subst hi
    exact b_J7_fillkd_5 ⟨fun _ => k X x1 x2, fun z => absurd (Int32.le_refl _) z⟩
  | succ t ih =>
    intro i X hi x1 x2
    refine b_J7_fillkd_5 ?_
    rw [nI_leI (by decide) (by omega), show (nI i).toNatClampNeg = i from nI_clamp (by omega), nI_add]
    refine ⟨fun z => absurd z (by omega), fun _ => ⟨(x_vp (by omega)).mpr (by omega), ih (i + 1) _ (by omega) (x1.tr (cF.sA rfl)) (fun r hr => ?_)⟩⟩
    show upd (X.2.2.2.1 33) i (-(nI 1)) r = _
    by_cases e : r = i
    · rw [e, pk_us]
    · rw [pk_un e]
      exact x2 r (by omega)
def aTx : Nat → Bool := fun a => Nat.beq a 0 || aRt a
theorem aTx_n {a : Nat} (h : (2 ≤ a ∧ a ≤ 28) ∨ 61 ≤ a) : aTx a = false := by
  unfold aTx aRt
  rw [bq_ne (show ¬ a = 0 by omega), bq_ne (show ¬ a = 1 by omega), bt_f (show ¬ (29 ≤ a ∧ a ≤ 60) by omega)]
  rfl
theorem rt_n2 {a : Nat} (h : a = 0 ∨ (2 ≤ a ∧ a ≤ 28) ∨ 61 ≤ a) : aRt a = false := by
  unfold aRt
  rw [bq_ne (show ¬ a = 1 by omega), bt_f (show ¬ (29 ≤ a ∧ a ≤ 60) by omega)]
  rfl
theorem d_text (hQ : bQ S g o V) (hV : V + 5000 < 2 ^ 30) (x : Int32) : ctI G 8 M_X11_text false [.ref 0, .int x] lB S tl (fun v S' => (∃ o', bQ S' (N_text g x) o' (V + 5000)) ∧ v = A_text g x) := by
  refine ctI.ab (fun K hK => m_X11_text (fun n0 => ?_))
  obtain ⟨h1, h2, h3, h4, h5, h6, h7, h8⟩ := id hQ
  obtain ⟨t1, t2, t3, t4, t5, t6⟩ := id h8
  unfold N_text A_text at hK
  rw [t2]
  have h15 : ¬ txB g x = true → L_X11_text_15 G false n0 tl K S := fun q => b_X11_text_15 (hK _ _ (by rw [if_neg q, if_neg q]; exact ⟨⟨o, bQ_m hQ (by omega)⟩, rfl⟩))
  refine ⟨fun z => h15 (fun q => (of_decide_eq_true q).1 z), fun z => ⟨fun y => ?_, fun y => h15 (fun q => y (of_decide_eq_true q).2)⟩⟩
  have hB : txB g x = true := decide_eq_true ⟨z, y⟩
  obtain ⟨n, hn, rfl⟩ := ix_t (n := (tpG g).1 + 1) (x := x) (by omega) ⟨z, fun q => by
    have h9 := Int32.le_trans q y
    rw [nI_leI (by omega) (by omega)] at h9
    omega⟩
  rw [if_pos hB, if_pos hB] at hK
  unfold txR at hK
  rw [show cl (nI n) = n from nI_clamp (by omega)] at hK
  refine u_readT (b := (tpG g).2.1) (n := n) (by omega) (fun j hj => t3 j (by omega)) t4 _ (fun S1 e p he1 he5 hE r1 e6 => ?_) (fun S1 D l hO r1 d1 e29 hl => ?_)
  · rw [hE] at hK
    dsimp only at hK
    rw [show (0 : Int32) = nI 0 from rfl, nI_eq (by omega) (by decide), e6]
    refine ⟨fun q => absurd q (by omega), fun _ => b_X11_text_49 ⟨fun q => ?_, fun _ => hK _ _ ⟨⟨o, bQ_r (Y := S.2.2.1) ?_⟩, rfl⟩⟩⟩
    · exfalso
      have q : nI e = nI 0 := q
      rw [nI_eq (by omega) (by decide)] at q
      omega
    · generalize hZ : ((sVa (sV (sV S1 15 (nI e)) 16 (nI p)) 1 2 (nI 0)).1, (sVa (sV (sV S1 15 (nI e)) 16 (nI p)) 1 2 (nI 0)).2.1, S.2.2.1, (sVa (sV (sV S1 15 (nI e)) 16 (nI p)) 1 2 (nI 0)).2.2.2) = Z
      have fZ : cF aTx S Z := by
        rw [← hZ]
        have g9 : ∀ a, aTx a = false → aRt a = false ∧ ¬ a = 0 ∧ ¬ a = 1 := fun a q => by
          unfold aTx at q
          rw [Bool.or_eq_false_iff] at q
          exact ⟨q.2, (fun w => by rw [w] at q; cases q.1), (rt_n a q.2).1⟩
        refine ⟨fun a q => ?_, fun a q => (r1.1 a (g9 a q).1).2.1, fun a q => (r1.1 a (g9 a q).1).2.2.1, fun a q => (r1.1 a (g9 a q).1).2.2.2, rfl⟩
        show u2 (u2 (u2 S1.1 0 15 _) 0 16 _) 1 2 _ a = _
        rw [u2_o (g9 a q).2.2, u2_o (g9 a q).2.1, u2_o (g9 a q).2.1]
        exact (r1.1 a (g9 a q).1).1
      have z0 : ∀ k, ¬ k = 15 → ¬ k = 16 → Z.1 0 k = S.1 0 k := by
        intro k k1 k2
        rw [← hZ]
        show u2 (u2 (u2 S1.1 0 15 (nI e)) 0 16 (nI p)) 1 2 (nI 0) 0 k = _
        rw [u2_ne (Or.inl (by decide)), u2_ne (Or.inr k2), u2_ne (Or.inr k1)]
        exact congrFun (r1.1 0 rfl).1 k
      have z15 : Z.1 0 15 = nI e := by rw [← hZ]; rfl
      have z16 : Z.1 0 16 = nI p := by rw [← hZ]; rfl
      have z12 : Z.1 1 2 = nI 0 := by rw [← hZ]; rfl
      clear hZ
      have f2 : cF (fun k => aTx (e_CN.getD k 0)) (cN S) (cN Z) := rs_cF2 fZ
      refine bQ_m (V := V) ⟨bQp_F (g := g) f2 ⟨rfl, rfl, rfl, rfl, rfl, rfl, rfl, rfl, rfl, rfl⟩ rfl rfl rfl rfl rfl rfl rfl rfl h1, bQw_F f2 rfl rfl rfl rfl rfl rfl (congrFun (f2.1 31 rfl) 6) (congrFun (f2.1 31 rfl) 7) h2, bNt_F f2 rfl rfl rfl rfl rfl rfl h3, bES_F f2 ⟨rfl, rfl, rfl, rfl⟩ h4, h5, ⟨(z0 14 (by decide) (by decide)).trans h6.1, fun y hy => ⟨bEs_F (h6.2 y hy).1 (fZ.1 90 rfl) (fZ.2.2.1 91 rfl) (fZ.2.2.1 92 rfl) (fZ.2.2.1 93 rfl), (h6.2 y hy).2⟩⟩, bQu_F h7 (z0 12 (by decide) (by decide)) (z0 13 (by decide) (by decide)) (fun a q => fZ.1 a (aTx_n (by omega))) (fun a q => fZ.2.2.1 a (aTx_n (by omega))), ⟨Nat.zero_le _, z12, fun i hi => absurd hi (Nat.not_lt_zero _), fun k hk => (congrFun (fZ.2.2.1 3 rfl) k).trans (t4 k hk), z15, z16⟩⟩ (by omega)
  · rw [hO] at hK
    dsimp only at hK
    refine ⟨fun _ => b_X11_text_49 ⟨fun _ => ?_, fun q => absurd rfl q⟩, fun q => absurd rfl q⟩
    refine u_cpPl (S := sVa (sV (sV S1 15 (nI 0)) 16 (-(nI 1))) 1 2 (nI 0)) (D := D) d1 _ (fun S3 f3 d3 => ?_)
    have fS : ∀ a, 61 ≤ a → S3.1 a = S.1 a ∧ S3.2.1 a = S.2.1 a ∧ S3.2.2.2.1 a = S.2.2.2.1 a ∧ S3.2.2.2.2 a = S.2.2.2.2 a := by
      intro a ha
      have q : aPB a = false := bt_f (by omega)
      have r := r1.1 a (rt_n2 (by omega))
      refine ⟨(f3.1 a q).trans ?_, (f3.2.1 a q).trans r.2.1, (f3.2.2.1 a q).trans r.2.2.1, (f3.2.2.2.1 a q).trans r.2.2.2⟩
      show u2 (u2 (u2 S1.1 0 15 _) 0 16 _) 1 2 _ a = _
      rw [u2_o (by omega), u2_o (by omega), u2_o (by omega)]
      exact r.1
    have s29 : S3.1 29 3 = nI l := (congrFun (f3.1 29 rfl) 3).trans e29
    have s0 : ∀ k, ¬ k = 15 → ¬ k = 16 → S3.1 0 k = S.1 0 k := by
      intro k k1 k2
      rw [f3.1 0 rfl]
      show u2 (u2 (u2 S1.1 0 15 (nI 0)) 0 16 (-(nI 1))) 1 2 (nI 0) 0 k = _
      rw [u2_ne (Or.inl (by decide)), u2_ne (Or.inr k2), u2_ne (Or.inr k1)]
      exact congrFun (r1.1 0 rfl).1 k
    have s15 : S3.1 0 15 = nI 0 := by rw [f3.1 0 rfl]; rfl
    have s16 : S3.1 0 16 = -(nI 1) := by rw [f3.1 0 rfl]; rfl
    have s12 : S3.1 1 2 = nI 0 := by rw [f3.1 1 rfl]; rfl
    have sl : S3.2.2.2.1 3 = S.2.2.2.1 3 := (f3.2.2.1 3 rfl).trans (r1.1 3 (rt_n2 (by decide))).2.2.1
    clear f3
    obtain ⟨w1, ⟨v, jb, w2, w3⟩, w4, w5⟩ := h2
    have r3 : bRT (cN S3) g.1.1 v jb := by
      have e61 : (cN S3).1 25 = (cN S).1 25 := (fS 61 (by decide)).1
      have f61 : (cN S3).2.1 25 = (cN S).2.1 25 := (fS 61 (by decide)).2.1
      have e62 : (cN S3).2.2.2.2 26 = (cN S).2.2.2.2 26 := (fS 62 (by decide)).2.2.2
      have e63 : (cN S3).2.2.2.1 27 = (cN S).2.2.2.1 27 := (fS 63 (by decide)).2.2.1
      have e64 : (cN S3).2.2.2.2 28 = (cN S).2.2.2.2 28 := (fS 64 (by decide)).2.2.2
      unfold bRT
      rw [e61, f61, e62, e63, e64]
      exact w3
    refine ctU.tr e_CN e_CN_i e_CN_n (as' := [.ref 25]) rfl (fun G' => m_X9_forget (fun n1 => ?_))
    rw [show (cN S3).1 25 7 = nI v from r3.1, nI_add]
    have fB : cF (fun a => Nat.beq a 25) (cN S3) (sVa (cN S3) 25 7 (nI (v + 1))) := cF.sVa rfl
    have r4 := bRT_new (P' := (gNew g D).1.1) r3 (by omega)
    have g4 : cF (fun a => Nat.beq a 61) S3 (mgS e_CN S3 (sVa (cN S3) 25 7 (nI (v + 1)))) := mg_cF fB (by decide)
    have c4 := cN_mg (S := S3) (T := sVa (cN S3) 25 7 (nI (v + 1))) rfl
    have r5 := bRT_F c4 rfl rfl rfl rfl r4
    generalize mgS e_CN S3 (sVa (cN S3) 25 7 (nI (v + 1))) = S4 at g4 c4 r5
    refine ctU.tr e_CN e_CN_i e_CN_n (as' := [.ref 31]) rfl (fun G' => m_X3_forget (fun n1 => u_fillK (G := G') (T := cN S4) _ (fun T5 f5 z5 => ?_)))
    have g5 : cF (fun a => Nat.beq a 69) S4 (mgS e_CN S4 T5) := mg_cF f5 (by decide)
    have c5 := cN_mg (S := S4) (T := T5) f5.2.2.2.2
    have r6 := bRT_F c5 rfl rfl rfl rfl (bRT_F f5 rfl rfl rfl rfl r5)
    have j6 : bJd (cN (mgS e_CN S4 T5)) (gNew g D).1.1 (lwD D).2 := fun i hi => Or.inl ((congrFun (c5.2.2.1 33 rfl) i).trans (z5 i hi))
    generalize mgS e_CN S4 T5 = S5 at g5 c5 r6 j6
    refine ctU.tr e_CN e_CN_i e_CN_n (as' := [.ref 40]) rfl (fun G' => m_X6_clear (fun n1 => ?_))
    have f6 : cF (fun a => Nat.beq a 40) (cN S5) (sVa (sVa (cN S5) 40 5 (nI 0)) 40 6 (-(nI 1))) := (cF.sVa rfl).tr (cF.sVa rfl)
    have g6 : cF (fun a => Nat.beq a 76) S5 (mgS e_CN S5 (sVa (sVa (cN S5) 40 5 (nI 0)) 40 6 (-(nI 1)))) := mg_cF f6 (by decide)
    have c6 := cN_mg (S := S5) (T := sVa (sVa (cN S5) 40 5 (nI 0)) 40 6 (-(nI 1))) rfl
    have r7 := bRT_F c6 rfl rfl rfl rfl (bRT_F f6 rfl rfl rfl rfl r6)
    have j7 := bJd_F c6 rfl rfl (bJd_F f6 rfl rfl j6)
    have n7 : bNt (cN (mgS e_CN S5 (sVa (sVa (cN S5) 40 5 (nI 0)) 40 6 (-(nI 1))))) (gNew g D).1.1 (0, -(nI 1), g.2.2.2.1.2.2) := ⟨Nat.zero_le _, congrFun (c6.1 40 rfl) 5, congrFun (c6.1 40 rfl) 6, Or.inl rfl, fun k hk => absurd hk (Nat.not_lt_zero _)⟩
    generalize mgS e_CN S5 (sVa (sVa (cN S5) 40 5 (nI 0)) 40 6 (-(nI 1))) = S6 at g6 c6 r7 j7 n7
    have fA : cF (fun a => Nat.beq a 61 || Nat.beq a 69 || Nat.beq a 76) S3 S6 := ((g4.mono (fun a q => by simp only [Bool.or_eq_false_iff] at q; exact q.1.1)).tr (g5.mono (fun a q => by simp only [Bool.or_eq_false_iff] at q; exact q.1.2))).tr (g6.mono (fun a q => by simp only [Bool.or_eq_false_iff] at q; exact q.2))
    have nA : ∀ a, ¬ a = 61 → ¬ a = 69 → ¬ a = 76 → (fun a => Nat.beq a 61 || Nat.beq a 69 || Nat.beq a 76) a = false := fun a y1 y2 y3 => by
      show (Nat.beq a 61 || Nat.beq a 69 || Nat.beq a 76) = false
      rw [bq_ne y1, bq_ne y2, bq_ne y3]; rfl
    have d6 : bDr (rsS e_PlB S6) D := bDr_B d3 fA (fun a y1 y2 => nA a (by omega) (by omega) (by omega))
    have p6 := bQp_D (g := g) d6
    have hsd : (xG (gNew g D)).2.2.1 ≤ 99999 := p6.2.2.2.2.2.2.1
    refine ctU.tr e_CN e_CN_i e_CN_n (as' := [.ref 46, .ref 0]) rfl (fun G' => u_begin (G := G') (S := cN S6) p6.1 p6.2.2.1 (xG (gNew g D)).2.2.1 (by omega) p6.2.2.2.2.2.1 _ (fun T7 f7 e7 => ?_))
    have g7 : cF (aEd 82) S6 (mgS e_CN S6 T7) := mg_cF f7 (by decide)
    have c7 := cN_mg (S := S6) (T := T7) f7.2.2.2.2
    have e8 := bES_F c7 ⟨rfl, rfl, rfl, rfl⟩ e7
    generalize mgS e_CN S6 T7 = S7 at g7 c7 e8
    have f8 : cF (fun k => aEd 82 (e_CN.getD k 0)) (cN S6) (cN S7) := rs_cF2 g7
    have n8 := bNt_F f8 rfl rfl rfl rfl rfl rfl n7
    have r8 := bRT_F f8 rfl rfl rfl rfl r7
    have j8 := bJd_F f8 rfl rfl j7
    have p8 := bQp_F (g := gNew g D) f8 ⟨rfl, rfl, rfl, rfl, rfl, rfl, rfl, rfl, rfl, rfl⟩ rfl rfl rfl rfl rfl rfl rfl rfl p6
    have q31 : (cN S7).1 31 = (cN S).1 31 := ((f8.1 31 rfl).trans (fA.1 67 (nA 67 (by decide) (by decide) (by decide)))).trans (fS 67 (by decide)).1
    refine hK _ _ ⟨⟨(lwD D).2, bQ_m (V := V + 1) ⟨p8, ⟨j8, ⟨v + 1, jb, by omega, r8⟩, by rw [show (cN (sV (sV S7 14 (nI 0)) 13 (nI 0))).1 31 = (cN S7).1 31 from rfl, q31]; exact w4, by rw [show (cN (sV (sV S7 14 (nI 0)) 13 (nI 0))).1 31 = (cN S7).1 31 from rfl, q31]; exact w5⟩, n8, e8, Nat.zero_le _, ⟨rfl, fun y hy => by cases hy⟩, ⟨Nat.zero_le _, rfl, ?_⟩, ?_⟩ (by omega)⟩, ?_⟩
    · obtain ⟨u1, u2, e, u3, u4, u5⟩ := h7
      refine ⟨e, u3, ?_, fun k hk => absurd hk (Nat.not_lt_zero _)⟩
      show S7.1 0 12 = nI e
      rw [g7.1 0 rfl, fA.1 0 rfl, s0 12 (by decide) (by decide)]
      exact u4
    · refine ⟨Nat.zero_le _, ?_, fun i hi => absurd hi (Nat.not_lt_zero _), fun k hk => ?_, ?_, ?_⟩
      · show S7.1 1 2 = nI 0
        rw [g7.1 1 rfl, fA.1 1 rfl]; exact s12
      · show S7.2.2.2.1 3 k = _
        rw [g7.2.2.1 3 rfl, fA.2.2.1 3 rfl, sl]; exact t4 k hk
      · show S7.1 0 15 = nI 0
        rw [g7.1 0 rfl, fA.1 0 rfl]; exact s15
      · show S7.1 0 16 = -(nI 1)
        rw [g7.1 0 rfl, fA.1 0 rfl]; exact s16
    · show S7.1 29 3 = nI l
      rw [g7.1 29 rfl, fA.1 29 rfl]; exact s29
end TEXT

