/-! ===== the program: giving, trading, laying, days ===== -/
def bQv (T : ms_S) (P : tPL) (o : Nat → Option tDQ) (V : Nat) : Prop := bJd T P o ∧ ∃ v jb, v ≤ V ∧ bRT T P v jb
/-- the state while things are tried -/
def bQ0 (S : ms_S) (g : tSG) (o : Nat → Option tDQ) (V : Nat) : Prop := bQp (cN S) g o ∧ bQv (cN S) g.1.1 o V ∧ bNt (cN S) g.1.1 g.2.2.2.1 ∧ bES (cN S) g.1.1 g.1.2.2.2.1 g.1.2.2.2.2 ∧ g.1.2.2.2.1.2.2.2.2 ≤ 9000 ∧ bQi S g.1.1 g.2.2.1 ∧ bQu S g.1.1 g.2.1 g.1.2.2.2.1 g.1.2.2.2.2 ∧ bQt S (tpG g)
theorem bQ.q0 {S : ms_S} {g : tSG} {o : Nat → Option tDQ} {V : Nat} (h : bQ S g o V) : bQ0 S g o V := ⟨h.1, ⟨h.2.1.1, h.2.1.2.1⟩, h.2.2⟩
theorem bQ0.q {S : ms_S} {g : tSG} {o : Nat → Option tDQ} {V : Nat} (h : bQ0 S g o V) (h6 : (cN S).1 31 6 = bI false) (h7 : (cN S).1 31 7 = bI false) : bQ S g o V := ⟨h.1, ⟨h.2.1.1, h.2.1.2, h6, h7⟩, h.2.2⟩
theorem bQ0_m {S : ms_S} {g : tSG} {o : Nat → Option tDQ} {V V' : Nat} (h : bQ0 S g o V) (hv : V ≤ V') : bQ0 S g o V' := by
  obtain ⟨h1, ⟨h2, v, jb, h3, h4⟩, h5⟩ := h
  exact ⟨h1, ⟨h2, v, jb, by omega, h4⟩, h5⟩
theorem bQ0_W {S S' : ms_S} {g : tSG} {o : Nat → Option tDQ} {V V' : Nat} (h : bQ0 S g o V) (f : cF aWk S S') (w : bQv (cN S') g.1.1 o V') : bQ0 S' g o V' := by
  obtain ⟨h1, h2, h3, h4, h5, h6, h7, h8⟩ := h
  have f2 : cF (fun k => aWk (e_CN.getD k 0)) (cN S) (cN S') := rs_cF2 f
  exact ⟨bQp_F f2 ⟨rfl, rfl, rfl, rfl, rfl, rfl, rfl, rfl, rfl, rfl⟩ rfl rfl rfl rfl rfl rfl rfl rfl h1, w, bNt_F f2 rfl rfl rfl rfl rfl rfl h3, bES_F f2 ⟨rfl, rfl, rfl, rfl⟩ h4, h5, bQi_F h6 (f.1 0 rfl) (fun a q1 q2 => f.1 a (aWk_n (by omega))) (fun a q1 q2 => f.2.2.1 a (aWk_n (by omega))), bQu_F h7 (congrFun (f.1 0 rfl) 12) (congrFun (f.1 0 rfl) 13) (fun a q => f.1 a (aWk_n (by omega))) (fun a q => f.2.2.1 a (aWk_n (by omega))), bQt_F h8 (f.1 0 rfl) (f.1 1 rfl) (f.2.2.1 2 rfl) (f.2.2.1 3 rfl)⟩
theorem bQv_F {A : Nat → Bool} {T T' : ms_S} {P : tPL} {o : Nat → Option tDQ} {V : Nat} (f : cF A T T') (h32 : A 32 = false) (h33 : A 33 = false) (h25 : A 25 = false) (h26 : A 26 = false) (h27 : A 27 = false) (h28 : A 28 = false) (h : bQv T P o V) : bQv T' P o V := by
  obtain ⟨h1, v, jb, h2, h3⟩ := h
  exact ⟨bJd_F f h32 h33 h1, v, jb, h2, bRT_F f h25 h26 h27 h28 h3⟩
def aG46 : Nat → Bool := fun a => Nat.ble 46 a
theorem e_CNT : ∀ k, k < 46 → e_CN.getD k 0 = e_CT.getD k 0 := by decide
theorem cNT {S : ms_S} : cF aG46 (cN S) (cT S) ∧ cF aG46 (cT S) (cN S) := by
  have g : ∀ a, aG46 a = false → e_CN.getD a 0 = e_CT.getD a 0 := by
    intro a q
    refine e_CNT a ?_
    rcases Nat.lt_or_ge a 46 with z | z
    · exact z
    · rw [show aG46 a = true from Nat.ble_eq_true_of_le z] at q; cases q
  refine ⟨⟨fun a q => ?_, fun a q => ?_, fun a q => ?_, fun a q => ?_, rfl⟩, ⟨fun a q => ?_, fun a q => ?_, fun a q => ?_, fun a q => ?_, rfl⟩⟩
  · show S.1 (e_CT.getD a 0) = S.1 (e_CN.getD a 0); rw [g a q]
  · show S.2.1 (e_CT.getD a 0) = S.2.1 (e_CN.getD a 0); rw [g a q]
  · show S.2.2.2.1 (e_CT.getD a 0) = S.2.2.2.1 (e_CN.getD a 0); rw [g a q]
  · show S.2.2.2.2 (e_CT.getD a 0) = S.2.2.2.2 (e_CN.getD a 0); rw [g a q]
  · show S.1 (e_CN.getD a 0) = S.1 (e_CT.getD a 0); rw [g a q]
  · show S.2.1 (e_CN.getD a 0) = S.2.1 (e_CT.getD a 0); rw [g a q]
  · show S.2.2.2.1 (e_CN.getD a 0) = S.2.2.2.1 (e_CT.getD a 0); rw [g a q]
  · show S.2.2.2.2 (e_CN.getD a 0) = S.2.2.2.2 (e_CT.getD a 0); rw [g a q]
theorem bOP_F2 {T T' : ms_S} {q : tOP} (h : bOP T q) (h36 : T'.1 36 = T.1 36) (h6 : T'.1 31 6 = T.1 31 6) (h7 : T'.1 31 7 = T.1 31 7) : bOP T' q := by
  unfold bOP
  rw [h36, h6, h7]
  exact h
section DAYS
variable {G : ab_G} {tl : ab_H} {S : ms_S} {g : tSG} {o : Nat → Option tDQ} {V : Nat}
theorem u_toldB (h : bQ0 S g o V) (K : ms_S → Prop) (k : ∀ S', bQ S' g o V → bOP (cN S') (opP g.1.2.2.1) → (∀ P x dn, bEs S 86 P x dn → bEs S' 86 P x dn) → S'.1 82 = S.1 82 → K S') : ctU G 2 M_X0_asTold false [.ref 72] lB S tl K := by
  obtain ⟨h1, h2, h3, h4, h5, h6, h7, h8⟩ := id h
  refine ctU.tr e_CN e_CN_i e_CN_n (as' := [.ref 36]) rfl (fun G' => u_told (G := G') (S := cN S) g.1.2.2.1 h1.2.2.2.1 h1.2.2.2.2.1 _ (fun T f e ho => ?_))
  have g1 := wN f (by decide)
  have c1 := cN_mg (S := S) (T := T) f.2.2.2.2
  have ho1 : bOP (cN (mgS e_CN S T)) (opP g.1.2.2.1) := bOP_F2 ho (c1.1 36 rfl) (congrFun (c1.1 31 rfl) 6) (congrFun (c1.1 31 rfl) 7)
  have h86 : cF (fun a => Nat.beq a 67 || Nat.beq a 72) S (mgS e_CN S T) := mg_cF f (by decide)
  generalize mgS e_CN S T = S1 at g1 c1 ho1 h86
  exact k S1 ((bQ0_W h g1 (bQv_F c1 rfl rfl rfl rfl rfl rfl (bQv_F f rfl rfl rfl rfl rfl rfl h2))).q ho1.2.2.1 ho1.2.2.2.1) ho1 (fun P x dn hx => bEs_F hx (h86.1 86 rfl) (h86.2.2.1 87 rfl) (h86.2.2.1 88 rfl) (h86.2.2.1 89 rfl)) (h86.1 82 rfl)
theorem u_goT (h : bQ0 S g o V) (q : tOP) (hO : bOP (cN S) q) (s : tES) (dn : Nat) (hs : bEs S 86 g.1.1 s dn) (n : Nat) (hn : n ≤ 99) (hV : V + 5 * n < 2 ^ 30) (hd : s.2.2.2.2 + n < 2 ^ 20) (K : ms_S → Prop) (k : ∀ S', bQ0 S' g o (V + 5 * n) → bOP (cN S') q → bEs S' 86 g.1.1 (gmS g.1.1 g.1.2.1 q (s, dn) n).1 (gmS g.1.1 g.1.2.1 q (s, dn) n).2 → K S') : ctU G 7 M_X0_goOn false [.ref 72, .ref 86, .int (nI n)] lB S tl K := by
  obtain ⟨h1, h2, h3, h4, h5, h6, h7, h8⟩ := id h
  obtain ⟨w1, v, jb, w2, w3⟩ := id h2
  have c0 := (cNT (S := S)).1
  have hO' : bOP (cT S) q := bOP_F2 hO (c0.1 36 rfl) (congrFun (c0.1 31 rfl) 6) (congrFun (c0.1 31 rfl) 7)
  refine ctU.tr e_CT e_CT_i e_CT_n (as' := [.ref 36, .ref 46, .int (nI n)]) rfl (fun G' => u_go (G := G') (S0 := cT S) (S := cT S) (bPl_F c0 ⟨rfl, rfl, rfl, rfl, rfl, rfl, rfl, rfl, rfl, rfl⟩ h1.1) (bTD_F c0 rfl rfl rfl rfl rfl rfl h1.2.1) hO' (v := v) ⟨cF.rf, rfl, rfl, bJd_F c0 rfl rfl w1, ⟨jb, bRT_F c0 rfl rfl rfl rfl w3⟩, bEs_T.mpr hs⟩ n (by omega) (by omega) hd _ (fun T v' hv' w => ?_))
  obtain ⟨f, f6, f7, j2, ⟨jb2, r2⟩, hs2⟩ := w
  have g1 : cF aWk S (mgS e_CT S T) := mg_cF f (by decide)
  have c1 := cT_mg (S := S) (T := T) f.2.2.2.2
  generalize mgS e_CT S T = S1 at g1 c1
  have c2 := (cNT (S := S1)).2
  have x36 : (cN S1).1 36 = (cT S).1 36 := (c2.1 36 rfl).trans ((c1.1 36 rfl).trans (f.1 36 rfl))
  have x31 : (cN S1).1 31 = T.1 31 := (c2.1 31 rfl).trans (c1.1 31 rfl)
  refine k S1 (bQ0_W h g1 ⟨bJd_F c2 rfl rfl (bJd_F c1 rfl rfl j2), v', jb2, by omega, bRT_F c2 rfl rfl rfl rfl (bRT_F c1 rfl rfl rfl rfl r2)⟩) ?_ (bEs_T.mp (bES_F c1 ⟨rfl, rfl, rfl, rfl⟩ hs2))
  exact bOP_F2 hO' x36 ((congrFun x31 6).trans f6) ((congrFun x31 7).trans f7)
theorem u_cpT (h : bQ0 S g o V) (K : ms_S → Prop) (k : ∀ S', bQ0 S' g o V → cF (aEd 86) S S' → bEs S' 86 g.1.1 g.1.2.2.2.1 g.1.2.2.2.2 → K S') : ctU G 1 M_X1_copyFrom false [.ref 86, .ref 82] lB S tl K := by
  refine u_copyB okC_86_82 _ (fun S1 f1 hc => ?_)
  have g1 : cF aWk S S1 := f1.mono (fun a q => by
    apply Bool.eq_false_iff.mpr
    intro z
    unfold aEd at z
    rw [Bool.and_eq_true] at z
    have z1 := Nat.le_of_ble_eq_true z.1
    have z2 := Nat.le_of_ble_eq_true z.2
    rcases (show a = 86 ∨ a = 87 ∨ a = 88 ∨ a = 89 by omega) with rfl | rfl | rfl | rfl <;> cases q)
  have f2 : cF (fun k => aEd 86 (e_CN.getD k 0)) (cN S) (cN S1) := rs_cF2 f1
  exact k S1 (bQ0_W h g1 (bQv_F f2 rfl rfl rfl rfl rfl rfl h.2.1)) f1 (hc _ _ _ (bEs_N.mp h.2.2.2.1))
theorem d_ahead (hQ : bQ S g o V) (hV : V + 5000 < 2 ^ 30) (n w h : Int32) : ctI G 8 M_X11_ahead false [.ref 0, .int n, .int w, .int h] lB S tl (fun v S' => bQ S' g o (V + 5000) ∧ v = A_ahead g.1 n w h) := by
  refine ctI.ab (fun K hK => m_X11_ahead (fun n0 => u_span n _ ?_))
  have p5 := hQ.1.1.2.1
  have p9 := hQ.1.1.1
  have q0 : bQ S g o (V + 5000) := bQ_m hQ (by omega)
  unfold A_ahead at hK
  have h29 : ¬ A_aheadB g.1 n w h = true → L_X11_ahead_29 G false n0 tl K S := fun q => b_X11_ahead_29 (hK _ _ ⟨q0, by rw [if_neg q]⟩)
  have nB : A_aheadB g.1 n w h = true ↔ inK n 0 99 = true ∧ inK w 0 4 = true ∧ (nI 2 ≤ w ∨ hrK g.1.1 h = true) := by
    unfold A_aheadB
    rw [Bool.and_eq_true, Bool.and_eq_true, Bool.or_eq_true, decide_eq_true_eq]
  have h31 : A_aheadB g.1 n w h = true → L_X11_ahead_31 G false n0 tl K S n w h := by
    intro hB
    rw [if_pos hB] at hK
    obtain ⟨b1, b2, b3⟩ := nB.mp hB
    obtain ⟨m, hm, rfl⟩ := in_t (by decide) b1
    obtain ⟨c, hc, ec⟩ := in_t (by decide) b2
    rw [show cl (nI m) = m from nI_clamp (by omega)] at hK
    refine b_X11_ahead_31 (u_toldB hQ.q0 _ (fun S1 q1 o1 _ _ => u_cpT q1.q0 _ (fun S2 q2 f2 t2 => ?_)))
    have o2 : bOP (cN S2) (opP g.1.2.2.1) := bOP_F2 o1 (f2.1 72 rfl) (congrFun (f2.1 67 rfl) 6) (congrFun (f2.1 67 rfl) 7)
    have hd9 := hQ.2.2.2.2.1
    refine u_goT q2 _ o2 _ _ t2 m hm (by omega) (by omega) _ (fun S3 q3 o3 t3 => ?_)
    have q4 : bQ S3 g o (V + 5000) := (bQ0_m q3 (by omega)).q o3.2.2.1 o3.2.2.2.1
    have hv : ∀ j, j < g.1.1.2.1 → vp_in (nI j) 5 := fun j hj => (x_vp (by omega)).mpr (by omega)
    have hsmall : ∀ x : Int32, heldN (onS g.1 (opP g.1.2.2.1) m).1 x g.1.1.1 < 512 := fun x => Nat.lt_of_lt_of_le (heldN_lt _ _ _) (p2_9 p9)
    refine ⟨fun e => ?_, fun e => ?_, fun e => ?_, fun e => hK _ _ ⟨q4, ?_⟩, fun e0 e1 e2 e3 => ?_⟩
    · obtain ⟨j, hj, rfl⟩ := hr_t p5 (b3.resolve_left (fun z => by rw [e] at z; exact absurd z (by decide)))
      rw [show (nI j).toNatClampNeg = j from nI_clamp (by omega)]
      refine ⟨hv j hj, hK _ _ ⟨q4, ?_⟩⟩
      rw [if_pos e, show cl (nI j) = j from nI_clamp (by omega)]
      exact (t3.2.1 j (by omega)).1
    · obtain ⟨j, hj, rfl⟩ := hr_t p5 (b3.resolve_left (fun z => by rw [e] at z; exact absurd z (by decide)))
      rw [show (nI j).toNatClampNeg = j from nI_clamp (by omega), show S3.2.2.2.1 87 j = nI (heldN (onS g.1 (opP g.1.2.2.1) m).1 (nI j) g.1.1.1) from t3.1 j (by omega)]
      refine ⟨hv j hj, u_bitCount G false S3 tl _ (hsmall _) _ (hK _ _ ⟨q4, ?_⟩)⟩
      rw [if_neg (fun q => absurd (e.symm.trans q) (by decide)), if_pos e, show cl (nI j) = j from nI_clamp (by omega)]
    · refine ctI.tr e_CT e_CT_i e_CT_n (as' := [.ref 46]) rfl (fun G' => u_laid (G := G') (S := cT S3) false (bEs_T.mpr t3) p5 _ ?_)
      rw [mgS_rs]
      refine ctI.tr e_CN e_CN_i e_CN_n (as' := [.ref 46]) rfl (fun G' => u_laid (G := G') (S := cN S3) false q4.2.2.2.1 p5 _ ?_)
      rw [mgS_rs]
      refine hK _ _ ⟨q4, ?_⟩
      rw [if_neg (fun q => absurd (e.symm.trans q) (by decide)), if_neg (fun q => absurd (e.symm.trans q) (by decide)), if_pos e]
    · rw [if_neg (fun q => absurd (e.symm.trans q) (by decide)), if_neg (fun q => absurd (e.symm.trans q) (by decide)), if_neg (fun q => absurd (e.symm.trans q) (by decide)), if_pos e]
      rw [show S3.1 86 6 = nI (onS g.1 (opP g.1.2.2.1) m).2.2.2.1 from t3.2.2.2.2.2.2.2.1, show S3.1 82 6 = nI g.1.2.2.2.1.2.2.2.1 from q4.2.2.2.1.2.2.2.2.2.2.2.1]
    · rw [show S3.1 86 4 = nI (bxN g.1.1 (onS g.1 (opP g.1.2.2.1) m)) from t3.2.2.2.2.2.1]
      refine u_bitCount G false S3 tl _ (hsmall _) _ (hK _ _ ⟨q4, ?_⟩)
      rw [if_neg e0, if_neg e1, if_neg e2, if_neg e3]
  rw [x_b0]
  refine ⟨fun z => h29 (fun q => by rw [(nB.mp q).1] at z; cases z), fun z => ⟨fun y => h29 (fun q => (of_decide_eq_true (nB.mp q).2.1).1 y), fun y => ⟨fun x => h29 (fun q => (of_decide_eq_true (nB.mp q).2.1).2 x), fun x => ⟨fun t => h31 (nB.mpr ⟨nf_t z, decide_eq_true ⟨y, x⟩, Or.inl t⟩), fun t => u_hr hQ.1.1.2.2.2.1 h _ ?_⟩⟩⟩⟩
  rw [x_b0]
  exact ⟨fun u => h29 (fun q => by rcases (nB.mp q).2.2 with r | r; exact t r; rw [r] at u; cases u), fun u => h31 (nB.mpr ⟨nf_t z, decide_eq_true ⟨y, x⟩, Or.inr (nf_t u)⟩)⟩
end DAYS

