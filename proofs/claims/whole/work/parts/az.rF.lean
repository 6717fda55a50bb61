/-! ===== the program: a law read, token by token ===== -/
theorem bd_zr1 : ∀ {W : List Nat} {q : tDQ}, wOk W → 0 < zrC W → ∃ r, (bdW 1 W q).2 = 0 :: r
  | [], q, _, h => absurd h (Nat.not_lt_zero _)
  | k :: r, q, hW, h => by
    have hk := hW k (List.mem_cons_self)
    by_cases z : 1 ≤ rkN k
    · rw [bdW_y z]
      refine bd_zr1 (fun j hj => hW j (List.mem_cons_of_mem _ hj)) ?_
      have h : 0 < (if k = 0 then 1 else 0) + zrC r := h
      rw [if_neg (rk_nz z)] at h
      omega
    · rw [bdW_n z]
      exact ⟨r, by rw [rk_0 (k := k) (by omega) hk.1 hk.2]⟩
theorem bd_zr0 : ∀ {W : List Nat} {q : tDQ}, wOk W → zrC W = 0 → (bdW 1 W q).2 = []
  | [], q, _, h => rfl
  | k :: r, q, hW, h => by
    have hk := hW k (List.mem_cons_self)
    have h : (if k = 0 then 1 else 0) + zrC r = 0 := h
    by_cases z : 1 ≤ rkN k
    · rw [bdW_y z]
      refine bd_zr0 (fun j hj => hW j (List.mem_cons_of_mem _ hj)) (by omega)
    · rw [if_pos (rk_0 (k := k) (by omega) hk.1 hk.2)] at h
      omega
theorem rk_s {k : Nat} (h : 3 ≤ k) (h2 : k ≤ 14) : 1 ≤ rkN k ∧ rkN k ≤ 6 ∧ ¬ rkN k = 3 ∧ (rkN k = 4 ↔ 11 ≤ wk k ∧ wk k ≤ 16) ∧ (rkN k < 3 ↔ wk k = 8 ∨ wk k = 9) ∧ 8 ≤ wk k ∧ wk k ≤ 20 ∧ ¬ wk k = 10 := by
  rcases (show k = 3 ∨ k = 4 ∨ k = 5 ∨ k = 6 ∨ k = 7 ∨ k = 8 ∨ k = 9 ∨ k = 10 ∨ k = 11 ∨ k = 12 ∨ k = 13 ∨ k = 14 by omega) with rfl | rfl | rfl | rfl | rfl | rfl | rfl | rfl | rfl | rfl | rfl | rfl <;> exact ⟨by decide, by decide, by decide, by decide, by decide, by decide, by decide, by decide⟩
/-- how far a sign lets those before it be worked out -/
abbrev lsK (s : Nat) : Nat := if rkN s = 4 then 5 else rkN s
theorem iPu_sgn {f s : Nat} {u : tSU} (h : iPu f u) (hw : u.2.2.2.2.1 = false) (hs : 3 ≤ s) (hs2 : s ≤ 14) (h4 : rkN s = 4 → c4 u.2.1 = false) (hc : ¬ u.2.2.2.1 = 64) : iPu f ((bdW (lsK s) u.2.1 u.1).1, s :: (bdW (lsK s) u.2.1 u.1).2, u.2.2.1, u.2.2.2.1 + 1, true, decide (rkN s < 3)) := by
  obtain ⟨⟨i1, i2, i3, i4, i5, i6⟩, v, so, m⟩ := h
  obtain ⟨r1, r2, r3, r4, r5, r6, r7, r8⟩ := rk_s hs hs2
  have l1 : 1 ≤ lsK s := by unfold lsK; split <;> omega
  rw [hw, if_neg (by decide)] at i6
  obtain ⟨b1, b2, b3, b4⟩ := bd_ix l1 (q := u.1) i5 i6 v
  refine ⟨⟨by show u.2.2.2.1 + 1 ≤ 64; omega, ?_, ?_, i4, wOk_c hs2 (by omega) (bd_ok i5), ?_⟩, b2, ⟨Or.inr ?_, bd_srt so⟩, fun _ q => ?_⟩
  · show f + (bdW (lsK s) u.2.1 u.1).1.1 + ((if s = 0 then 0 else 1) + nzC (bdW (lsK s) u.2.1 u.1).2) = u.2.2.2.1 + 1
    rw [if_neg (by omega)]
    omega
  · show (if s = 0 then 1 else 0) + zrC (bdW (lsK s) u.2.1 u.1).2 = u.2.2.1
    rw [if_neg (by omega), b4]
    omega
  · show _ = (if 3 ≤ s then 1 else 0) + bnC (bdW (lsK s) u.2.1 u.1).2 + 0
    rw [if_pos hs, b1]
    omega
  · by_cases z : rkN s = 4
    · have := bd_hdr (ls := 4) (W := u.2.1) (q := u.1) (by decide)
      rw [bd_45 (h4 z)] at this
      unfold lsK
      rw [if_pos z]
      omega
    · have := bd_hdr (ls := rkN s) (W := u.2.1) (q := u.1) r1
      unfold lsK
      rw [if_neg z]
      omega
  · have := of_decide_eq_true q
    show rkN s ≤ 3
    omega
theorem iPu_cls {f : Nat} {u : tSU} (h : iPu f u) (hw : u.2.2.2.2.1 = false) (ho : 0 < u.2.2.1) : iPu f ((bdW 1 u.2.1 u.1).1, (bdW 1 u.2.1 u.1).2.tail, u.2.2.1 - 1, u.2.2.2.1, u.2.2.2.2.1, u.2.2.2.2.2) := by
  obtain ⟨⟨i1, i2, i3, i4, i5, i6⟩, v, so, m⟩ := h
  rw [hw, if_neg (by decide)] at i6
  obtain ⟨b1, b2, b3, b4⟩ := bd_ix (ls := 1) (by decide) (q := u.1) i5 i6 v
  obtain ⟨r, hr⟩ := bd_zr1 (q := u.1) i5 (by omega)
  have so2 := bd_srt (ls := 1) (q := u.1) so
  have ok2 := bd_ok (ls := 1) (q := u.1) i5
  rw [hr] at b1 b3 b4 so2 ok2
  have b1 : _ = 0 + bnC r + 1 := b1
  have b3 : _ + (0 + nzC r) = _ := b3
  have b4 : 1 + zrC r = _ := b4
  rw [hr]
  refine ⟨⟨i1, ?_, ?_, by show u.2.2.1 - 1 ≤ 8; omega, fun j hj => ok2 j (List.mem_cons_of_mem _ hj), ?_⟩, b2, so2.2, fun q => ?_⟩
  · show f + (bdW 1 u.2.1 u.1).1.1 + nzC r = u.2.2.2.1
    omega
  · show zrC r = u.2.2.1 - 1
    omega
  · show (ixF (bdW 1 u.2.1 u.1).1.2 (bdW 1 u.2.1 u.1).1.1).length = bnC r + (if u.2.2.2.2.1 = true then 0 else 1)
    rw [hw, if_neg (by decide)]
    omega
  · have q : u.2.2.2.2.1 = true := q
    rw [hw] at q
    cases q
theorem sgN_b (b : Nat → Nat) (n i : Nat) (h : ¬ sgK b n i = 0) : 3 ≤ sgK b n i ∧ sgK b n i ≤ 14 := by
  rcases sgK_b b n i with q | q
  · exact absurd q h
  · exact q
theorem iPu_sign {b : Nat → Nat} {n i j f : Nat} {u u' : tSU} (h : iPu f u) (hw : u.2.2.2.2.1 = false) (q : signS b n u i = .ok (u', j)) : iPu f u' := by
  unfold signS at q
  by_cases z : (isTk b n i 4 41 && decide (0 < u.2.2.1)) = true
  · rw [if_pos z] at q
    cases q
    rw [Bool.and_eq_true, decide_eq_true_eq] at z
    exact iPu_cls h hw z.2
  · rw [if_neg z] at q
    by_cases h0 : sgK b n i = 0
    · rw [if_pos h0] at q
      cases q
    · rw [if_neg h0] at q
      by_cases h4 : (decide (rkN (sgK b n i) = 4) && hd4 (bdW (if rkN (sgK b n i) = 4 then 5 else rkN (sgK b n i)) u.2.1 u.1).2) = true
      · rw [if_pos h4] at q
        cases q
      · rw [if_neg h4] at q
        by_cases hc : u.2.2.2.1 = 64
        · rw [if_pos hc] at q
          cases q
        · rw [if_neg hc] at q
          cases q
          obtain ⟨s1, s2⟩ := sgN_b b n i h0
          refine iPu_sgn h hw s1 s2 (fun z => ?_) hc
          rw [decide_eq_true z, Bool.true_and, if_pos z, bd_h4 h.2.2.1] at h4
          cases y : c4 u.2.1 with
          | false => rfl
          | true => exact absurd y h4
theorem tk_qA (b : Nat → Nat) (n i : Nat) : tT b n i < 64 ∧ ((tkK b n i = 4 ∧ tkW b n i = 40) ↔ tT b n i = 32) ∧ ((tkK b n i = 1 ∧ tkW b n i = 13) ↔ tT b n i = 10) ∧ ((tkK b n i = 1 ∧ 14 ≤ tkW b n i) ↔ (1 ≤ tT b n i ∧ tT b n i ≤ 7)) ∧ (tkK b n i = 1 → 14 ≤ tkW b n i → tT b n i = tkW b n i - 13 ∧ tkW b n i ≤ 20) ∧ (tkK b n i = 3 ↔ tT b n i = 36) := (tk_q b n i).1
theorem tk_qB (b : Nat → Nat) (n i : Nat) : ((tkK b n i = 4 ∧ tkW b n i = 41) ↔ tT b n i = 33) ∧ ((tkK b n i = 4 ∧ tkW b n i = 59) ↔ tT b n i = 34) ∧ (sgK b n i = 0 ↔ ¬ (8 ≤ tT b n i ∧ tT b n i ≤ 20 ∧ ¬ tT b n i = 10)) ∧ (¬ sgK b n i = 0 → tT b n i = wk (sgK b n i)) := (tk_q b n i).2.1
theorem tk_qC (b : Nat → Nat) (n i : Nat) : (tkK b n i = 0 ↔ tT b n i = 37) ∧ (tkK b n i = 2 ↔ tT b n i = 35) ∧ ((tkK b n i = 1 ∧ tkW b n i ≤ 7) ↔ (21 ≤ tT b n i ∧ tT b n i ≤ 28)) ∧ (tkK b n i = 1 → tkW b n i ≤ 10 → tT b n i = 21 + tkW b n i) ∧ ((tkK b n i = 1 ∧ 8 ≤ tkW b n i ∧ tkW b n i ≤ 10) ↔ (29 ≤ tT b n i ∧ tT b n i ≤ 31)) := (tk_q b n i).2.2
/-! the memory -/
def jLR (X : ms_S) (u : tSU) : Prop := jLW X u.1 u.2.1 ∧ X.1 3 3 = nI u.2.2.1 ∧ X.1 3 5 = nI (64 - u.2.2.2.1) ∧ ∃ cw, cw < 512 ∧ X.1 3 4 = nI cw ∧ cmR cw u.2.1 u.2.2.1
theorem clr_t : ∀ s, s < 512 → ∀ p, p < 9 → (if s.testBit p = true then s - 2 ^ p else s) < 512 ∧ ∀ i, i < 9 → (if s.testBit p = true then s - 2 ^ p else s).testBit i = (if i = p then false else s.testBit i) := by decide +kernel
theorem cmR_eq {cw cv : Nat} : ∀ {o : Nat} {V : List Nat}, (∀ i, i ≤ o → cv.testBit i = cw.testBit i) → cmR cw V o → cmR cv V o
  | 0, V, q, w => (q 0 (Nat.le_refl _)).trans w
  | o + 1, V, q, w => ⟨(q (o + 1) (Nat.le_refl _)).trans w.1, cmR_eq (fun i hi => q i (by omega)) w.2⟩
theorem iPu_len {f : Nat} {u : tSU} (h : iPu f u) : u.2.1.length = nzC u.2.1 + u.2.2.1 ∧ nzC u.2.1 ≤ 64 ∧ u.1.1 + nzC u.2.1 ≤ 64 ∧ u.2.2.1 ≤ 8 ∧ u.2.2.2.1 ≤ 64 ∧ u.1.1 + nzC u.2.1 ≤ u.2.2.2.1 := by
  obtain ⟨⟨i1, i2, i3, i4, i5, i6⟩, v, s, m⟩ := h
  have := len_C u.2.1
  omega
section LAWR2
variable {G : ab_G} {fr : Bool} {tl : ab_H}
theorem u_openP {S : ms_S} {u : tSU} {f : Nat} (hJ : jLR S u) (hP : iPu f u) (K : Int32 → ms_S → Prop) (kE : u.2.2.1 = 8 → K (nI 2) S)
    (kO : ¬ u.2.2.1 = 8 → ∀ S', cF aQL S S' → jLR S' (u.1, 0 :: u.2.1, u.2.2.1 + 1, u.2.2.2.1, u.2.2.2.2.1, true) → K (nI 0) S') : ctI G 2 M_X5_openParenthesis fr [.ref 3] lLR S tl K := by
  obtain ⟨l1, l2, l3, l4, l5, l6⟩ := iPu_len hP
  obtain ⟨j1, j2, j3, cw, c1, c2, c3⟩ := hJ
  refine m_X5_openParenthesis (fun n0 => ?_)
  rw [j2, c2, nI_eq (by omega) (by decide), nI_add]
  refine ⟨kE, fun h8 => ?_⟩
  rw [show nI 1 <<< (nI (u.2.2.1 + 1) &&& 31) = nI (2 ^ (u.2.2.1 + 1)) from by rw [nu_shl (by omega) (by rw [Nat.one_mul]; exact Nat.pow_lt_pow_right (by decide) (by omega)), Nat.one_mul], nu_clr cw c1 _ (by omega)]
  obtain ⟨t1, t2⟩ := clr_t cw c1 (u.2.2.1 + 1) (by omega)
  generalize (if cw.testBit (u.2.2.1 + 1) = true then cw - 2 ^ (u.2.2.1 + 1) else cw) = cv at t1 t2 ⊢
  refine u_pushW (S := sVa (sVa S 3 3 (nI (u.2.2.1 + 1))) 3 4 (nI cv)) (q := u.1) (W := u.2.1) 0 (by omega) j1 _ (fun S' s0 s1 s2 => kO h8 S' (((cF.sVa rfl).tr (cF.sVa rfl)).tr s0) ⟨s2, (s1 3 (by decide)).trans rfl, (s1 5 (by decide)).trans j3, cv, t1, (s1 4 (by decide)).trans rfl, ?_, ?_⟩)
  · rw [t2 _ (by omega), if_pos rfl]
    rfl
  · show cmR cv u.2.1 u.2.2.1
    refine cmR_eq (fun i hi => ?_) c3
    rw [t2 i (by omega), if_neg (by omega)]
theorem u_addVal {S : ms_S} {u : tSU} {f : Nat} {b : Nat → Nat} {n i : Nat} (hJ : jLR S u) (hP : iPu f u) (ht : bTk S (tk b n i)) (hn : tT b n i = 10 → u.2.2.2.2.2 = true) (K : Int32 → ms_S → Prop)
    (kE : ∀ e, (e = 1 ∨ e = 2) → leafS b n u i = .error (e, tkP b n i) → K (nI e) S) (kO : ∀ S' u', leafS b n u i = .ok (u', tkN b n i) → cF aQL S S' → jLR S' u' → K (nI 0) S') : ctI G 3 M_X5_addValue fr [.ref 3, .int (nI (tT b n i))] lLR S tl K := by
  obtain ⟨l1, l2, l3, l4, l5, l6⟩ := iPu_len hP
  obtain ⟨j1, j2, j3, cw, c1, c2, c3⟩ := id hJ
  obtain ⟨a1, a2, a3, a4, a5, a6⟩ := tk_qA b n i
  refine m_X5_addValue (fun n0 => ?_)
  have h40 : isTk b n i 4 40 = decide (tT b n i = 32) := is_40
  have h13 : isTk b n i 1 13 = decide (tT b n i = 10) := is_13
  unfold leafS at kE kO
  rw [h40, h13] at kE kO
  rw [nI_eq (b := 32) (by omega) (by decide), nI_eq (b := 10) (by omega) (by decide), nI_eq (b := 36) (by omega) (by decide), nI_ltI (by omega) (by decide), nI_leI (by omega) (by decide)]
  have K114 : ∀ S' u', cF aQL S S' → jLR S' u' → leafS b n u i = .ok (u', tkN b n i) → L_X5_addValue_114 G fr n0 tl K S' := by
    intro S' u' s0 s1 q
    unfold leafS at q
    rw [h40, h13] at q
    exact b_X5_addValue_114 (kO S' u' q s0 s1)
  refine ⟨fun z => ?_, fun z => ?_⟩
  · rw [decide_eq_true z, if_pos rfl] at kE kO
    refine u_openP hJ hP _ (fun y => kE 2 (Or.inr rfl) (if_pos y)) (fun y S' s0 s1 => kO S' _ (if_neg y) s0 s1)
  · have k36 : (tT b n i = 10 ∨ tT b n i = 36 ∨ (1 ≤ tT b n i ∧ tT b n i ≤ 7)) → L_X5_addValue_36 G fr n0 tl K S (nI (tT b n i)) := by
      intro hc
      have K55 : (tT b n i = 36 → ∃ v, v ≤ 9999 ∧ S.1 0 7 = nI v ∧ tkW b n i = v) → L_X5_addValue_55 G fr n0 tl K S (nI (tT b n i)) := by
        intro hv
        refine b_X5_addValue_55 ?_
        rw [j3, show (0 : Int32) = nI 0 from rfl, nI_eq (by omega) (by decide), nI_eq (b := 10) (by omega) (by decide), nI_eq (b := 36) (by omega) (by decide)]
        refine ⟨fun y => b_X5_addValue_62 (kE 2 (Or.inr rfl) ?_), fun y => ?_⟩
        · rw [decide_eq_false z, if_neg Bool.false_ne_true]
          rcases hc with q | q | q
          · rw [decide_eq_true q, hn q, if_pos (show (true && true) = true from rfl), if_pos (by omega)]
          · rw [decide_eq_false (by omega), if_neg (show ¬ (false && u.2.2.2.2.2) = true from Bool.false_ne_true), if_neg (fun w => by have := a4.mp w; omega), if_pos (a6.mpr q)]
            obtain ⟨v, v1, v2, v3⟩ := hv q
            rw [if_neg (by omega), if_pos (by omega)]
          · rw [decide_eq_false (by omega), if_neg (show ¬ (false && u.2.2.2.2.2) = true from Bool.false_ne_true), if_pos (a4.mpr q), if_pos (by omega)]
        · rw [pk_sub (by omega), show 64 - u.2.2.2.1 - 1 = 64 - (u.2.2.2.1 + 1) by omega]
          refine ⟨fun q => ?_, fun q10 => ⟨fun q => ?_, fun q36 => ?_⟩⟩
          · refine u_pushW (S := sVa S 3 5 (nI (64 - (u.2.2.2.1 + 1)))) (q := u.1) (W := u.2.1) 2 (by omega) j1 _ (fun S' s0 s1 s2 => K114 S' (u.1, 2 :: u.2.1, u.2.2.1, u.2.2.2.1 + 1, u.2.2.2.2.1, u.2.2.2.2.2) ((cF.sVa rfl).tr s0) ⟨s2, (s1 3 (by decide)).trans j2, (s1 5 (by decide)).trans rfl, cw, c1, (s1 4 (by decide)).trans c2, ?_⟩ ?_)
            · exact cmR_c (cw := cw) (W := u.2.1) (by rw [c4_n (by decide) (by decide)]; exact (cmR_t c3).symm) rfl (fun _ _ => rfl) c3
            · unfold leafS
              rw [h40, h13, decide_eq_false z, if_neg Bool.false_ne_true, decide_eq_true q, hn q, if_pos (show (true && true) = true from rfl), if_neg (by omega)]
          · obtain ⟨v, v1, v2, v3⟩ := hv q
            refine b_X5_addValue_111 ?_
            have ek : S.1 0 7 = knE (0, tkW b n i) := by rw [v2, v3]; rfl
            rw [ek]
            refine u_addK (S := sVa S 3 5 (nI (64 - (u.2.2.2.1 + 1)))) (q := u.1) (0, tkW b n i) (by show 0 ≤ 14; decide) (fun w => by cases w) (fun _ => by show tkW b n i ≤ 9999; omega) (by omega) j1.1 j1.2.1 j1.2.2.1 _ (fun S' s0 s1 s2 s3 s4 s5 => K114 S' ((u.1.1 + 1, up u.1.2 u.1.1 (0, tkW b n i)), u.2.1, u.2.2.1, u.2.2.2.1 + 1, false, u.2.2.2.2.2) ((cF.sVa rfl).tr s0) ⟨⟨s3, s4, s5, by rw [s1]; exact j1.2.2.2.1, by rw [s2]; exact j1.2.2.2.2⟩, by rw [s1]; exact j2, by rw [s1]; rfl, cw, c1, by rw [s1]; exact c2, c3⟩ ?_)
            unfold leafS
            rw [h40, h13, decide_eq_false z, if_neg Bool.false_ne_true, decide_eq_false q10, if_neg (show ¬ (false && u.2.2.2.2.2) = true from Bool.false_ne_true), if_neg (fun w => by have := a4.mp w; omega), if_pos (a6.mpr q), if_neg (by omega), if_neg (by omega)]
          · rcases hc with q | q | q
            · exact absurd q q10
            · exact absurd q q36
            · obtain ⟨w1, w2⟩ := a4.mpr q
              obtain ⟨w3, w4⟩ := a5 w1 w2
              refine b_X5_addValue_111 ?_
              have ek : -(nI (tT b n i)) = knE (1, tkW b n i - 14) := by
                show -(nI (tT b n i)) = -(nI (tkW b n i - 14 + 1))
                rw [w3, show tkW b n i - 14 + 1 = tkW b n i - 13 by omega]
              rw [ek]
              refine u_addK (S := sVa S 3 5 (nI (64 - (u.2.2.2.1 + 1)))) (q := u.1) (1, tkW b n i - 14) (by show 1 ≤ 14; decide) (fun _ => by show tkW b n i - 14 < 7; omega) (fun w => by cases w) (by omega) j1.1 j1.2.1 j1.2.2.1 _ (fun S' s0 s1 s2 s3 s4 s5 => K114 S' ((u.1.1 + 1, up u.1.2 u.1.1 (1, tkW b n i - 14)), u.2.1, u.2.2.1, u.2.2.2.1 + 1, false, u.2.2.2.2.2) ((cF.sVa rfl).tr s0) ⟨⟨s3, s4, s5, by rw [s1]; exact j1.2.2.2.1, by rw [s2]; exact j1.2.2.2.2⟩, by rw [s1]; exact j2, by rw [s1]; rfl, cw, c1, by rw [s1]; exact c2, c3⟩ ?_)
              unfold leafS
              rw [h40, h13, decide_eq_false z, if_neg Bool.false_ne_true, decide_eq_false q10, if_neg (show ¬ (false && u.2.2.2.2.2) = true from Bool.false_ne_true), if_pos ⟨w1, w2⟩, if_neg (by omega)]
      refine b_X5_addValue_36 ?_
      rw [nI_eq (b := 36) (by omega) (by decide)]
      refine ⟨fun q => ?_, fun q => K55 (fun w => absurd w q)⟩
      obtain ⟨v, v1, v2, v3⟩ := ht.2.2.2.2 (a6.mpr q)
      rw [v1, nI_ltI (by decide) (by omega)]
      have v3 : v = tkW b n i ∨ (99999 < v ∧ 99999 < tkW b n i) := v3
      refine ⟨fun y => b_X5_addValue_62 (kE 2 (Or.inr rfl) ?_), fun y => K55 (fun _ => ⟨v, by omega, v1, by omega⟩)⟩
      rw [decide_eq_false z, if_neg Bool.false_ne_true, decide_eq_false (by omega), if_neg (show ¬ (false && u.2.2.2.2.2) = true from Bool.false_ne_true), if_neg (fun w => by have := a4.mp w; omega), if_pos (a6.mpr q), if_pos (by omega)]
    have k34 : ¬ tT b n i = 10 → ¬ tT b n i = 36 → ¬ (1 ≤ tT b n i ∧ tT b n i ≤ 7) → L_X5_addValue_34 G fr n0 tl K S := by
      intro q1 q2 q3
      refine b_X5_addValue_34 (kE 1 (Or.inl rfl) ?_)
      rw [decide_eq_false z, if_neg Bool.false_ne_true, decide_eq_false q1, if_neg (show ¬ (false && u.2.2.2.2.2) = true from Bool.false_ne_true), if_neg (fun w => q3 (a4.mp w)), if_neg (fun w => q2 (a6.mp w))]
    exact ⟨fun y => k36 (Or.inl y), fun y10 => ⟨fun y => k36 (Or.inr (Or.inl y)), fun y36 => ⟨fun y => k34 y10 y36 (by omega), fun y1 => ⟨fun y => k36 (Or.inr (Or.inr ⟨by omega, y⟩)), fun y => k34 y10 y36 (by omega)⟩⟩⟩⟩
end LAWR2

