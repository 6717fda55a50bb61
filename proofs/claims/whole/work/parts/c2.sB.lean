/-! ===== the program: what only looks ===== -/
theorem bQ_rt {A : Nat → Bool} {S T : ms_S} {g : tSG} {o : Nat → Option tDQ} {V v : Nat} {jb : Nat → Nat} (h : bQ S g o V) (f : cF A (cN S) T) (hA : ∀ k, k < 50 → A k = true → aWc k = true) (h31 : A 31 = false) (h32 : A 32 = false) (h33 : A 33 = false) (r : bRT T g.1.1 v jb) (hv : v ≤ V) : bQ (mgS e_CN S T) g o V := by
  obtain ⟨w1, w2, w3, w4⟩ := h.2.1
  have c1 := cN_mg (S := S) (T := T) f.2.2.2.2
  have x1 := (c1.1 31 rfl).trans (f.1 31 h31)
  refine bQ_W h (wN f hA) ⟨bJd_F c1 rfl rfl (bJd_F f h32 h33 w1), ⟨v, jb, hv, bRT_F c1 rfl rfl rfl rfl r⟩, ?_, ?_⟩
  · rw [x1]; exact w3
  · rw [x1]; exact w4
theorem bQ_nw {A : Nat → Bool} {S T : ms_S} {g : tSG} {o : Nat → Option tDQ} {V : Nat} (h : bQ S g o V) (f : cF A (cN S) T) (hA : ∀ k, k < 50 → A k = true → aWc k = true) (h31 : A 31 = false) (h32 : A 32 = false) (h33 : A 33 = false) (h25 : A 25 = false) (h26 : A 26 = false) (h27 : A 27 = false) (h28 : A 28 = false) : bQ (mgS e_CN S T) g o V := by
  obtain ⟨w1, ⟨v, jb, w2, w2b⟩, w3, w4⟩ := id h.2.1
  exact bQ_rt h f hA h31 h32 h33 (bRT_F f h25 h26 h27 h28 w2b) w2
theorem lb_bit {x k : Nat} (hk : k < 64) (hx : x < 2 ^ 64) : (((lN x).toUInt64 >>> ((nI k).toInt64.toUInt64 &&& Int64.toUInt64 63)).toInt64 &&& lN 1).toInt32 = bI (x.testBit k) := by
  rw [nl_ushr hk hx, nl_and, lN_i, show (1 : Nat) = 2 ^ 1 - 1 from rfl, Nat.and_two_pow_sub_one_eq_mod]
  rw [Nat.testBit_eq_decide_div_mod_eq]
  rcases (show x / 2 ^ k % 2 ^ 1 = 0 ∨ x / 2 ^ k % 2 ^ 1 = 1 by omega) with e | e
  · rw [e, decide_eq_false (by omega)]; rfl
  · rw [e, decide_eq_true (by omega)]; rfl
theorem jb_256 {P : tPL} {dy : Nat} {aj : Bool} : ∀ f, f < 7 → jbK P dy aj f < 256 := fun f _ => Nat.lt_of_lt_of_le (bitsN_lt _ 7) (by decide)
theorem jm_64 {P : tPL} {dy : Nat} {aj : Bool} : jmN P dy aj < 2 ^ 64 := Nat.lt_of_lt_of_le (byN_lt jb_256) (by decide)
theorem db_1 {P : tPL} {p : Nat} : ∀ n, dbN P (2 ^ p) n = if p < n then (if absd (P.2.2.1 p) (P.2.2.2.1 p) = 0 then 1 else 0) else 0
  | 0 => by rw [if_neg (Nat.not_lt_zero _)]; rfl
  | n + 1 => by
    show dbN P (2 ^ p) n + (if (2 ^ p).testBit n = true then (if P.2.2.1 n = P.2.2.2.1 n then 1 else 0) else 0) = _
    rw [db_1 n]
    by_cases z : p = n
    · subst z
      rw [if_neg (Nat.lt_irrefl _), Nat.testBit_two_pow_self, if_pos rfl, if_pos (Nat.lt_succ_self _), Nat.zero_add]
      have e : P.2.2.1 p = P.2.2.2.1 p ↔ absd (P.2.2.1 p) (P.2.2.2.1 p) = 0 := by
        unfold absd
        split <;> omega
      by_cases y : P.2.2.1 p = P.2.2.2.1 p
      · rw [if_pos y, if_pos (e.mp y)]
      · rw [if_neg y, if_neg (fun w => y (e.mpr w))]
    · rw [Nat.testBit_two_pow_of_ne z, if_neg Bool.false_ne_true, Nat.add_zero]
      by_cases y : p < n
      · rw [if_pos y, if_pos (show p < n + 1 by omega)]
      · rw [if_neg y, if_neg (show ¬ p < n + 1 by omega)]
theorem sh_lt (g : tSG) (h : Int32) : shN g h < 2 ^ g.1.1.1 := heldN_lt _ _ _
section LOOKS
variable {G : ab_G} {tl : ab_H} {S : ms_S} {g : tSG} {o : Nat → Option tDQ} {V : Nat}
theorem d_heir (hQ : bQ S g o V) (h w : Int32) : ctI G 2 M_X11_heir false [.ref 0, .int h, .int w] lB S tl (fun v S' => bQ S' g o (V + 5000) ∧ v = A_heir g.1 h w) := by
  refine ctI.ab (fun K hK => m_X11_heir (fun n0 => u_hr hQ.1.1.2.2.2.1 h _ ?_))
  have q0 : bQ S g o (V + 5000) := bQ_m hQ (by omega)
  obtain ⟨e1, e2, e3, -⟩ := hQ.2.2.2.1
  have p5 := hQ.1.1.2.1
  rw [x_b0]
  unfold A_heir at hK
  refine ⟨fun z => hK _ _ ⟨q0, by rw [z]; rfl⟩, fun z => ?_⟩
  have z := nf_t z
  obtain ⟨j, hj, rfl⟩ := hr_t p5 z
  have hc : (nI j).toNatClampNeg = j := nI_clamp (by omega)
  have hv : vp_in (nI j) 5 := (x_vp (by omega)).mpr (by omega)
  rw [if_pos z] at hK
  rw [hc]
  have f1 : S.2.2.2.1 84 j = nI (g.1.2.2.2.1.2.1 j) := (e2 j (by omega)).1
  have f2 : S.2.2.2.1 83 j = nI (heldN g.1.2.2.2.1.1 (nI j) g.1.1.1) := e1 j (by omega)
  have f3 : S.2.2.2.1 85 j = nI (g.1.2.2.2.1.2.2.1 j) := e3 j (by omega)
  refine ⟨fun y => ⟨hv, hK _ _ ⟨q0, ?_⟩⟩, fun y => ⟨hv, hK _ _ ⟨q0, ?_⟩⟩, fun y => ⟨hv, hK _ _ ⟨q0, ?_⟩⟩, fun y1 y2 y3 => hK _ _ ⟨q0, ?_⟩⟩
  · rw [if_pos (show w = 0 from y), f1]; show _ = nI (g.1.2.2.2.1.2.1 (nI j).toNatClampNeg); rw [hc]
  · rw [if_neg (fun q => absurd (y.symm.trans q) (by decide)), if_pos y, f2]
  · rw [if_neg (fun q => absurd (y.symm.trans q) (by decide)), if_neg (fun q => absurd (y.symm.trans q) (by decide)), if_pos y, f3]; show _ = nI (g.1.2.2.2.1.2.2.1 (nI j).toNatClampNeg); rw [hc]
  · rw [if_neg (show ¬ w = 0 from y1), if_neg y2, if_neg y3]
theorem d_joins (hQ : bQ S g o V) (a c : Int32) : ctI G 5 M_X11_joins false [.ref 0, .int a, .int c] lB S tl (fun v S' => bQ S' g o (V + 5000) ∧ v = A_joins g.1 a c) := by
  refine ctI.ab (fun K hK => m_X11_joins (fun n0 => u_en a _ ?_))
  have q0 : bQ S g o (V + 5000) := bQ_m hQ (by omega)
  have h4 := hQ.2.2.2.1
  obtain ⟨w1, w2, w3, w4⟩ := hQ.2.1
  unfold A_joins at hK
  rw [x_b0]
  refine ⟨fun z => b_X11_joins_14 (hK _ _ ⟨q0, by rw [z, if_neg (fun q => Bool.false_ne_true q.1)]⟩), fun z => u_en c _ ?_⟩
  have z := nf_t z
  rw [x_b0]
  refine ⟨fun y => b_X11_joins_14 (hK _ _ ⟨q0, by rw [y, if_neg (fun q => Bool.false_ne_true q.2)]⟩), fun y => ?_⟩
  have y := nf_t y
  rw [if_pos ⟨z, y⟩] at hK
  obtain ⟨i, hi, rfl⟩ := en_t z
  obtain ⟨j, hj, rfl⟩ := en_t y
  rw [show S.1 82 3 = nI g.1.2.2.2.1.2.2.2.2 from h4.2.2.2.1]
  refine ctL.tr e_CN e_CN_i e_CN_n (as' := [.ref 31, .int (nI g.1.2.2.2.1.2.2.2.2)]) rfl (fun G' => u_joins (G := G') (S := cN S) hQ.1.1 w1 _ h4.2.2.2.2.1 false w3 _ (fun T f j2 => ?_))
  rw [pk_mul, nI_add, lb_bit (by omega) jm_64, byN_tb (by omega) jb_256, bitsN_tb]
  refine hK _ _ ⟨?_, ?_⟩
  · obtain ⟨v, jb, x1, x2⟩ := w2
    have c1 := cN_mg (S := S) (T := T) f.2.2.2.2
    have x3 := (c1.1 31 rfl).trans (f.1 31 rfl)
    refine bQ_m (bQ_W hQ (wN f (by decide)) ⟨bJd_F c1 rfl rfl j2, ⟨v, jb, x1, bRT_F c1 rfl rfl rfl rfl (bRT_F f rfl rfl rfl rfl x2)⟩, ?_, ?_⟩) (by omega)
    · rw [x3]; exact w3
    · rw [x3]; exact w4
  · rw [decide_eq_true hi, decide_eq_true hj, Bool.true_and, Bool.true_and, show cl (nI i) = i from nI_clamp (by omega), show cl (nI j) = j from nI_clamp (by omega)]
theorem d_fault (hQ : bQ S g o V) (w : Int32) : ctI G 1 M_X11_fault false [.ref 0, .int w] lB S tl (fun v S' => bQ S' g o (V + 5000) ∧ v = A_fault g w) := by
  refine ctI.ab (fun K hK => m_X11_fault (fun n0 => ?_))
  have q0 : bQ S g o (V + 5000) := bQ_m hQ (by omega)
  have t1 : S.1 0 15 = _ := hQ.2.2.2.2.2.2.2.2.2.2.2.1
  have t2 : S.1 0 16 = _ := hQ.2.2.2.2.2.2.2.2.2.2.2.2
  unfold A_fault at hK
  refine ⟨fun z => hK _ _ ⟨q0, by rw [if_pos (show w = 0 from z)]; exact t1⟩, fun z => hK _ _ ⟨q0, by rw [if_neg (fun q => absurd (z.symm.trans q) (by decide)), if_pos z]; exact t2⟩, fun z y => hK _ _ ⟨q0, by rw [if_neg (show ¬ w = 0 from z), if_neg y]⟩⟩
theorem d_rows (hQ : bQ S g o V) (hV : V + 5000 < 2 ^ 30) (h : Int32) : ctL G 6 M_X11_rows false [.ref 0, .int h] lB S tl (fun v S' => bQ S' g o (V + 5000) ∧ v = A_rows g h) := by
  refine ctL.ab (fun K hK => m_X11_rows (fun n0 => u_hr hQ.1.1.2.2.2.1 h _ ?_))
  have q0 : bQ S g o (V + 5000) := bQ_m hQ (by omega)
  have p5 := hQ.1.1.2.1
  rw [x_b0]
  unfold A_rows at hK
  refine ⟨fun z => hK _ _ ⟨q0, by rw [z]; rfl⟩, fun z => ?_⟩
  have z := nf_t z
  obtain ⟨j, hj, rfl⟩ := hr_t p5 z
  rw [if_pos z] at hK
  refine u_joinNow hQ (by omega) _ (fun S2 v q2 hv r2 f2 => ⟨(x_vp (by omega)).mpr (by omega), ?_⟩)
  rw [show (nI j).toNatClampNeg = j from nI_clamp (by omega), show S2.2.2.2.1 83 j = nI (shN g (nI j)) from q2.2.2.2.1.1 j (by omega)]
  refine ctL.tr e_CN e_CN_i e_CN_n (as' := [.ref 25, .int (nI (shN g (nI j)))]) rfl (fun G' => u_allRows (G := G') (S := cN S2) q2.1.1 r2 _ (sh_lt g _) _ (fun T f r => hK _ _ ⟨bQ_m (bQ_rt q2 f (by decide) rfl rfl rfl r hv) (by omega), rfl⟩))
theorem d_closed (hQ : bQ S g o V) (hV : V + 5000 < 2 ^ 30) (h : Int32) : ctL G 6 M_X11_closed false [.ref 0, .int h] lB S tl (fun v S' => bQ S' g o (V + 5000) ∧ v = A_closed g h) := by
  refine ctL.ab (fun K hK => m_X11_closed (fun n0 => u_hr hQ.1.1.2.2.2.1 h _ ?_))
  have q0 : bQ S g o (V + 5000) := bQ_m hQ (by omega)
  have p5 := hQ.1.1.2.1
  rw [x_b0]
  unfold A_closed at hK
  refine ⟨fun z => hK _ _ ⟨q0, by rw [z]; rfl⟩, fun z => ?_⟩
  have z := nf_t z
  obtain ⟨j, hj, rfl⟩ := hr_t p5 z
  rw [if_pos z] at hK
  refine u_joinNow hQ (by omega) _ (fun S2 v q2 hv r2 f2 => ⟨(x_vp (by omega)).mpr (by omega), ?_⟩)
  rw [show (nI j).toNatClampNeg = j from nI_clamp (by omega), show S2.2.2.2.1 83 j = nI (shN g (nI j)) from q2.2.2.2.1.1 j (by omega)]
  refine ctL.tr e_CN e_CN_i e_CN_n (as' := [.ref 25, .int (nI (shN g (nI j)))]) rfl (fun G' => u_closed (G := G') (S := cN S2) q2.1.1 r2 _ (sh_lt g _) _ (fun T f r => hK _ _ ⟨bQ_m (bQ_rt q2 f (by decide) rfl rfl rfl r hv) (by omega), rfl⟩))
theorem d_fewest (hQ : bQ S g o V) (hV : V + 5000 < 2 ^ 30) (h : Int32) : ctI G 6 M_X11_fewest false [.ref 0, .int h] lB S tl (fun v S' => bQ S' g o (V + 5000) ∧ v = A_fewest g h) := by
  refine ctI.ab (fun K hK => m_X11_fewest (fun n0 => u_hr hQ.1.1.2.2.2.1 h _ ?_))
  have q0 : bQ S g o (V + 5000) := bQ_m hQ (by omega)
  have p5 := hQ.1.1.2.1
  rw [x_b0]
  unfold A_fewest at hK
  refine ⟨fun z => hK _ _ ⟨q0, by rw [z]; rfl⟩, fun z => ?_⟩
  have z := nf_t z
  obtain ⟨j, hj, rfl⟩ := hr_t p5 z
  rw [if_pos z] at hK
  refine u_joinNow hQ (by omega) _ (fun S2 v q2 hv r2 f2 => ⟨(x_vp (by omega)).mpr (by omega), ?_⟩)
  rw [show (nI j).toNatClampNeg = j from nI_clamp (by omega), show S2.2.2.2.1 83 j = nI (shN g (nI j)) from q2.2.2.2.1.1 j (by omega)]
  refine ctI.tr e_CN e_CN_i e_CN_n (as' := [.ref 25, .int (nI (shN g (nI j)))]) rfl (fun G' => u_fewest (G := G') (S := cN S2) q2.1.1 r2 _ (sh_lt g _) _ (fun T f r => hK _ _ ⟨bQ_m (bQ_rt q2 f (by decide) rfl rfl rfl r hv) (by omega), rfl⟩))
theorem n9_8 {x : Int32} : x < nI 9 ↔ ¬ nI 8 < x := by
  rw [Int32.lt_iff_toInt_lt, Int32.lt_iff_toInt_lt]
  show _ < (9 : Int) ↔ ¬ (8 : Int) < _
  omega
theorem in_t {x : Int32} {b : Nat} (hb : b < 2 ^ 30) (h : inK x 0 b = true) : ∃ j, j ≤ b ∧ x = nI j := by
  obtain ⟨j, -, h1, h2⟩ := inK_t hb (by decide) h
  exact ⟨j, h1, h2⟩
theorem d_firstRow (hQ : bQ S g o V) (hV : V + 5000 < 2 ^ 30) (h k : Int32) : ctI G 7 M_X11_firstRow false [.ref 0, .int h, .int k] lB S tl (fun v S' => bQ S' g o (V + 5000) ∧ v = A_firstRow g h k) := by
  refine ctI.ab (fun K hK => m_X11_firstRow (fun n0 => u_hr hQ.1.1.2.2.2.1 h _ ?_))
  have q0 : bQ S g o (V + 5000) := bQ_m hQ (by omega)
  have p5 := hQ.1.1.2.1
  rw [x_b0, n9_8]
  unfold A_firstRow at hK
  refine ⟨fun z => b_X11_firstRow_18 (hK _ _ ⟨q0, by rw [z, if_neg (fun q => Bool.false_ne_true q.1)]⟩), fun z => ?_⟩
  have z := nf_t z
  have hB : ∀ (hi : ¬ inK k 0 8 = true), L_X11_firstRow_18 G false n0 tl K S := fun hi => b_X11_firstRow_18 (hK _ _ ⟨q0, by rw [if_neg (fun q => hi q.2)]⟩)
  refine ⟨fun y => hB (fun w => (of_decide_eq_true w).1 y), fun y => ⟨fun x => ?_, fun x => hB (fun w => x (of_decide_eq_true w).2)⟩⟩
  have hi : inK k 0 8 = true := decide_eq_true ⟨y, x⟩
  obtain ⟨j, hj, rfl⟩ := hr_t p5 z
  obtain ⟨kk, hk, rfl⟩ := in_t (by decide) hi
  rw [if_pos ⟨z, hi⟩] at hK
  refine u_joinNow hQ (by omega) _ (fun S2 v q2 hv r2 f2 => ⟨(x_vp (by omega)).mpr (by omega), ?_⟩)
  rw [show (nI j).toNatClampNeg = j from nI_clamp (by omega), show S2.2.2.2.1 83 j = nI (shN g (nI j)) from q2.2.2.2.1.1 j (by omega)]
  refine ctI.tr e_CN e_CN_i e_CN_n (as' := [.ref 25, .int (nI (shN g (nI j))), .int (nI kk)]) rfl (fun G' => u_place (G := G') (S := cN S2) q2.1.1 r2 _ (sh_lt g _) kk (by omega) _ (fun T f r => hK _ _ ⟨bQ_m (bQ_rt q2 f (by decide) rfl rfl rfl r hv) (by omega), ?_⟩))
  rw [show cl (nI kk) = kk from nI_clamp (by omega)]
end LOOKS

