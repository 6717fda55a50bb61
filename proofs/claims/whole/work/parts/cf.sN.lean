/-! ===== the program: feed ===== -/
theorem sh_8 (x : BitVec 32) (s : Nat) (hs : s ≤ 24) : (x.sshiftRight s).toNat % 256 = (x >>> s).toNat % 256 := by
  rw [show (256 : Nat) = 2 ^ 8 from rfl]
  apply Nat.eq_of_testBit_eq
  intro i
  rw [Nat.testBit_mod_two_pow, Nat.testBit_mod_two_pow]
  by_cases h : i < 8
  · rw [decide_eq_true h, Bool.true_and, Bool.true_and]
    show (x.sshiftRight s).getLsbD i = (x >>> s).getLsbD i
    rw [BitVec.getLsbD_sshiftRight, BitVec.getLsbD_ushiftRight]
    rw [decide_eq_false (show ¬ 32 ≤ i by omega), Bool.not_false, Bool.true_and, if_pos (show s + i < 32 by omega)]
  · rw [decide_eq_false h, Bool.false_and, Bool.false_and]
theorem by_ap (w : Int32) : ∀ j, j < 4 → (w.toUInt32 >>> ((nI (24 - 8 * j)).toUInt32 &&& Int32.toUInt32 31)).toInt32 &&& nI 255 = nI (byW w j) := by
  intro j hj
  rw [pk_and _ 8 (by decide)]
  unfold byW
  congr 1
  rcases (show j = 0 ∨ j = 1 ∨ j = 2 ∨ j = 3 by omega) with rfl | rfl | rfl | rfl
  · exact (sh_8 w.toBitVec 24 (by decide)).symm
  · exact (sh_8 w.toBitVec 16 (by decide)).symm
  · exact (sh_8 w.toBitVec 8 (by decide)).symm
  · exact (sh_8 w.toBitVec 0 (by decide)).symm
def aTw : Nat → Bool := fun a => Nat.beq a 0 || Nat.beq a 1
section FEED
variable {G : ab_G} {tl : ab_H} {S : ms_S} {g : tSG} {o : Nat → Option tDQ} {V : Nat}
theorem u_app {T : ms_S} {len : Nat} (h : T.1 0 2 = nI len) (hl : len + 4 ≤ 700) (w : Int32) (K : ms_S → Prop) (k : ∀ T', cF aTw T T' → (∀ j, ¬ j = 2 → T'.1 0 j = T.1 0 j) → T'.1 0 2 = nI (len + 4) → (∀ i, i < len → T'.2.2.2.1 1 i = T.2.2.2.1 1 i) → (∀ j, j < 4 → T'.2.2.2.1 1 (len + j) = nI (byW w j)) → K T') : ctU G 1 M_X10_append false [.ref 0, .int w] lTp T tl K := by
  refine m_X10_append (fun n0 => ?_)
  suffices KL : ∀ t j (X : ms_S), j + t = 4 → cF aTw T X → (∀ i, ¬ i = 2 → X.1 0 i = T.1 0 i) → X.1 0 2 = nI (len + j) → (∀ i, i < len → X.2.2.2.1 1 i = T.2.2.2.1 1 i) → (∀ i, i < j → X.2.2.2.1 1 (len + i) = nI (byW w i)) → L_X10_append_3 G false n0 tl K X w (if j = 4 then -(nI 8) else nI (24 - 8 * j)) from KL 4 0 T rfl cF.rf (fun _ _ => rfl) h (fun _ _ => rfl) (fun i hi => absurd hi (Nat.not_lt_zero _))
  intro t
  induction t with
  | zero =>
    intro j X hj x0 x1 x2 x3 x4
    have hj : j = 4 := hj
    subst hj
    rw [if_pos rfl]
    exact b_X10_append_3 ⟨fun _ => b_X10_append_49 (k X x0 x1 x2 x3 x4), fun q => absurd (by decide) q⟩
  | succ t ih =>
    intro j X hj x0 x1 x2 x3 x4
    rw [if_neg (by omega)]
    refine b_X10_append_3 ?_
    rw [x2, nI_leI (by decide) (by omega), show (nI (len + j)).toNatClampNeg = len + j from nI_clamp (by omega), by_ap w j (by omega), nI_add, show (0 : Int32) = nI 0 from rfl, nI_ltI (by omega) (by decide)]
    refine ⟨fun q => absurd q (Nat.not_lt_zero _), fun _ => ⟨fun q => absurd q (by omega), fun _ => ⟨(x_vp (by omega)).mpr (by omega), ?_⟩⟩⟩
    have e8 : nI (24 - 8 * j) + -(nI 8) = if j + 1 = 4 then -(nI 8) else nI (24 - 8 * (j + 1)) := by
      rcases (show j = 0 ∨ j = 1 ∨ j = 2 ∨ j = 3 by omega) with rfl | rfl | rfl | rfl <;> decide
    rw [e8]
    refine ih (j + 1) _ (by omega) ((x0.tr (cF.sA rfl)).tr (cF.sVa (a := 0) rfl)) (fun i hi => ?_) rfl (fun i hi => ?_) (fun i hi => ?_)
    · show u2 X.1 0 2 _ 0 i = _
      rw [u2_ne (Or.inr hi)]
      exact x1 i hi
    · show upd (X.2.2.2.1 1) (len + j) _ i = _
      rw [pk_un (by omega)]
      exact x3 i hi
    · show upd (X.2.2.2.1 1) (len + j) _ (len + i) = _
      by_cases z : i = j
      · rw [z, pk_us]
      · rw [pk_un (by omega)]
        exact x4 i (by omega)
def aTv : Nat → Bool := fun a => Nat.beq a 1 || Nat.beq a 2
theorem u_apB {len : Nat} (h : S.1 1 2 = nI len) (hl : len + 4 ≤ 700) (w : Int32) (K : ms_S → Prop) (k : ∀ S', cF aTv S S' → (∀ j, ¬ j = 2 → S'.1 1 j = S.1 1 j) → S'.1 1 2 = nI (len + 4) → (∀ i, i < len → S'.2.2.2.1 2 i = S.2.2.2.1 2 i) → (∀ j, j < 4 → S'.2.2.2.1 2 (len + j) = nI (byW w j)) → K S') : ctU G 1 M_X10_append false [.ref 1, .int w] lB S tl K :=
  ctU.tr e_TpB e_TpB_i e_TpB_n (as' := [.ref 0, .int w]) rfl (fun G' => u_app (G := G') (T := rsS e_TpB S) h hl w _ (fun T' f x1 x2 x3 x4 => k _ (mg_cF f (by decide)) x1 x2 x3 x4))
theorem d_feed (hQ : bQ S g o V) (a b c d e : Int32) : ctI G 2 M_X11_feed false [.ref 0, .int a, .int b, .int c, .int d, .int e] lB S tl (fun v S' => bQ S' (N_feed g a b c d e) o (V + 5000) ∧ v = A_feed g) := by
  refine ctI.ab (fun K hK => m_X11_feed (fun n0 => ?_))
  obtain ⟨h1, h2, h3, h4, h5, h6, h7, h8⟩ := id hQ
  obtain ⟨t1, t2, t3, t4, t5, t6⟩ := id h8
  unfold N_feed A_feed at hK
  rw [t2, nI_add, nI_leI (by omega) (by decide)]
  refine ⟨fun z => ?_, fun z => hK _ _ (by rw [if_neg z, if_neg z]; exact ⟨bQ_m hQ (by omega), rfl⟩)⟩
  rw [if_pos z, if_pos z] at hK
  generalize hlen : (tpG g).1 = len at *
  refine u_apB t2 (by omega) a _ (fun S1 f1 x1 l1 o1 n1 => u_apB l1 (by omega) b _ (fun S2 f2 x2 l2 o2 n2 => u_apB l2 (by omega) c _ (fun S3 f3 x3 l3 o3 n3 => u_apB l3 (by omega) d _ (fun S4 f4 x4 l4 o4 n4 => u_apB l4 (by omega) e _ (fun S5 f5 x5 l5 o5 n5 => hK _ _ ⟨bQ_m (V := V) ?_ (by omega), ?_⟩)))))
  · have F := (((f1.tr f2).tr f3).tr f4).tr f5
    have f9 : cF (fun k => aTv (e_CN.getD k 0)) (cN S) (cN S5) := rs_cF2 F
    have nA : ∀ a, ¬ a = 1 → ¬ a = 2 → aTv a = false := fun a y1 y2 => by unfold aTv; rw [bq_ne y1, bq_ne y2]; rfl
    refine ⟨bQp_F (g := g) f9 ⟨rfl, rfl, rfl, rfl, rfl, rfl, rfl, rfl, rfl, rfl⟩ rfl rfl rfl rfl rfl rfl rfl rfl h1, bQw_F f9 rfl rfl rfl rfl rfl rfl (congrFun (f9.1 31 rfl) 6) (congrFun (f9.1 31 rfl) 7) h2, bNt_F f9 rfl rfl rfl rfl rfl rfl h3, bES_F f9 ⟨rfl, rfl, rfl, rfl⟩ h4, h5, bQi_F h6 (F.1 0 rfl) (fun a q1 q2 => F.1 a (nA a (by omega) (by omega))) (fun a q1 q2 => F.2.2.1 a (nA a (by omega) (by omega))), bQu_F h7 (congrFun (F.1 0 rfl) 12) (congrFun (F.1 0 rfl) 13) (fun a q => F.1 a (nA a (by omega) (by omega))) (fun a q => F.2.2.1 a (nA a (by omega) (by omega))), ?_⟩
    refine ⟨by show len + 20 ≤ 700; omega, ?_, fun i hi => ?_, fun k hk => (congrFun (F.2.2.1 3 rfl) k).trans (t4 k hk), (congrFun (F.1 0 rfl) 15).trans t5, (congrFun (F.1 0 rfl) 16).trans t6⟩
    · show S5.1 1 2 = nI (len + 20)
      rw [l5]
    · have hi : i < len + 20 := hi
      show S5.2.2.2.1 2 i = nI (if i < len then (tpG g).2.1 i else fdB a b c d e (i - len)) ∧ (if i < len then (tpG g).2.1 i else fdB a b c d e (i - len)) < 256
      by_cases y : i < len
      · rw [if_pos y, o5 i (by omega), o4 i (by omega), o3 i (by omega), o2 i (by omega), o1 i (by omega)]
        exact t3 i y
      · rw [if_neg y]
        refine ⟨?_, by unfold fdB byW; exact Nat.mod_lt _ (by decide)⟩
        obtain ⟨r, hr⟩ : ∃ r, i = len + r := ⟨i - len, by omega⟩
        subst hr
        rw [show len + r - len = r by omega]
        unfold fdB wdK
        by_cases q1 : r < 4
        · rw [if_pos q1, o5 _ (by omega), o4 _ (by omega), o3 _ (by omega), o2 _ (by omega), n1 r q1, Nat.mod_eq_of_lt q1]
        · rw [if_neg q1]
          by_cases q2 : r < 8
          · rw [if_pos q2, o5 _ (by omega), o4 _ (by omega), o3 _ (by omega), show len + r = len + 4 + (r - 4) by omega, n2 (r - 4) (by omega), show r % 4 = r - 4 by omega]
          · rw [if_neg q2]
            by_cases q3 : r < 12
            · rw [if_pos q3, o5 _ (by omega), o4 _ (by omega), show len + r = len + 4 + 4 + (r - 8) by omega, n3 (r - 8) (by omega), show r % 4 = r - 8 by omega]
            · rw [if_neg q3]
              by_cases q4 : r < 16
              · rw [if_pos q4, o5 _ (by omega), show len + r = len + 4 + 4 + 4 + (r - 12) by omega, n4 (r - 12) (by omega), show r % 4 = r - 12 by omega]
              · rw [if_neg q4, show len + r = len + 4 + 4 + 4 + 4 + (r - 16) by omega, n5 (r - 16) (by omega), show r % 4 = r - 16 by omega]
  · rw [l5]
end FEED

