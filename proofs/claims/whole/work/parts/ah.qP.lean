/-! ===== the program: notes ===== -/
theorem tb_u0 {x k : Nat} (hk : k < 32) (hx : x < 2 ^ 32) : ((((nI x).toUInt32 >>> ((nI k).toUInt32 &&& Int32.toUInt32 31)).toInt32) &&& nI 1 = 0) ↔ x.testBit k = false := by
  have h := tb_u hk hx
  rw [nu_ushr hk hx, show (nI (x / 2 ^ k) &&& nI 1) = nI (x / 2 ^ k % 2) from nu_one _] at h ⊢
  have hm := Nat.mod_lt (x / 2 ^ k) (show 0 < 2 by decide)
  rw [nI_eq (by omega) (by decide)] at h
  rw [x_eq0 (by omega)]
  constructor
  · intro z
    cases e : x.testBit k with
    | false => rfl
    | true => have := h.mpr e; omega
  · intro z
    refine Classical.byContradiction (fun w => ?_)
    have := h.mp (by omega)
    rw [z] at this
    cases this
/-- what the notebook holds -/
def bNt (S : ms_S) (P : tPL) (N : tN) : Prop := N.1 ≤ 24 ∧ S.1 40 5 = nI N.1 ∧ S.1 40 6 = N.2.1 ∧ (N.2.1 = -(nI 1) ∨ ∃ j, j ≤ N.1 ∧ N.2.1 = nI j) ∧ ∀ k, k < N.1 → S.2.2.2.1 41 k = nI (N.2.2 k).1 ∧ S.2.2.2.1 42 k = nI (N.2.2 k).2.1 ∧ ((N.2.2 k).1 = 1 ∨ (N.2.2 k).1 = 2 → S.2.2.2.1 43 k = nI (N.2.2 k).2.2.1) ∧ ((N.2.2 k).1 = 2 → S.2.2.2.1 44 k = nI (N.2.2 k).2.2.2.1) ∧ (¬ (N.2.2 k).1 = 3 → S.2.2.2.1 45 k = bI (N.2.2 k).2.2.2.2) ∧ ntOk P k (N.2.2 k)
theorem bNt_F {A : Nat → Bool} {S S' : ms_S} {P : tPL} {N : tN} (f : cF A S S') (h0 : A 40 = false) (h1 : A 41 = false) (h2 : A 42 = false) (h3 : A 43 = false) (h4 : A 44 = false) (h5 : A 45 = false) (h : bNt S P N) : bNt S' P N := by
  unfold bNt
  rw [f.1 40 h0, f.2.2.1 41 h1, f.2.2.1 42 h2, f.2.2.1 43 h3, f.2.2.1 44 h4, f.2.2.1 45 h5]
  exact h
theorem kb_le {S : ms_S} {P : tPL} {N : tN} (h : bNt S P N) : kbN N ≤ N.1 := by
  unfold kbN
  split
  · exact Nat.le_refl _
  · rename_i hz
    rcases h.2.2.2.1 with w | ⟨j, j1, j2⟩
    · rw [w] at hz
      exact absurd (neg_neg (by decide) (by decide)) hz
    · have := h.1
      rw [j2, cl_nI (by omega)]
      exact j1
theorem ct_fin {x : Nat → tE} {kb : Nat} (hx : ∀ k, k < kb → (x k).1 = 3 → (x k).2.1 < k) : ∀ d j k, j + d ≤ kb → kb - 1 - j ≤ k → ctR x kb (j + d) k = ctR x kb j k
  | 0, _, _, _, _ => rfl
  | d + 1, j, k, hj, hk => by
    have ih := ct_fin hx d j k (by omega) hk
    show (if ctR x kb (j + d) (kb - 1 - (j + d)) = true ∧ (x (kb - 1 - (j + d))).1 = 3 then (fun k => if k = (x (kb - 1 - (j + d))).2.1 then false else ctR x kb (j + d) k) else ctR x kb (j + d)) k = _
    split
    · rename_i hz
      have := hx (kb - 1 - (j + d)) (by omega) hz.2
      show (if k = _ then false else ctR x kb (j + d) k) = _
      rw [if_neg (by omega)]
      exact ih
    · exact ih
section CORE16
variable {G : ab_G} {S : ms_S} {tl : ab_H} {P : tPL} {N : tN} {o : Nat → Option tDQ}
theorem u_knSz (hN : bNt S P N) (K : Int32 → ms_S → Prop) (k : K (nI (kbN N)) S) : ctI G 1 M_X6_knownSize false [.ref 40] lC S tl K := by
  have hkb := kb_le hN
  obtain ⟨n1, n2, n3, n4, n5⟩ := hN
  refine m_X6_knownSize (fun n0 => ?_)
  rw [n2, n3]
  unfold kbN at k
  rcases n4 with w | ⟨j, j1, j2⟩
  · rw [w, if_pos (neg_neg (by decide) (by decide))] at k
    exact ⟨fun _ => b_X6_knownSize_19 k, fun z => absurd w z⟩
  · rw [j2, if_neg (nI_pos (by omega)), cl_nI (by omega)] at k
    refine ⟨fun z => absurd (j2.symm.trans z) (nn_ne (by omega) (by decide) (by decide)), fun _ => b_X6_knownSize_19 ?_⟩
    rw [j2]
    exact k
theorem u_standing (hN : bNt S P N) (K : Int32 → ms_S → Prop) (k : K (nI (bitsN (ctN N) (kbN N))) S) : ctI G 2 M_X6_standing false [.ref 40] lC S tl K := by
  have hkb := kb_le hN
  obtain ⟨n1, n2, n3, n4, n5⟩ := id hN
  have hx : ∀ k, k < kbN N → (N.2.2 k).1 = 3 → (N.2.2 k).2.1 < k := fun k hk => (n5 k (by omega)).2.2.2.2.2.2.2.2.2
  refine m_X6_standing (fun n0 => u_knSz hN _ ?_)
  rw [show (if nI 24 < nI (kbN N) then nI 24 else nI (kbN N)) = nI (kbN N) from if_neg (fun z => absurd ((nI_ltI (by decide) (by omega)).mp z) (by omega))]
  suffices KL : ∀ f j struck stand, j + f = kbN N → struck < 2 ^ 24 → stand < 2 ^ 24 → (∀ i, i < 24 → struck.testBit i = !ctR N.2.2 (kbN N) j i) → (∀ i, stand.testBit i = (decide (f ≤ i ∧ i < kbN N) && ctN N i)) → L_X6_standing_16 G false n0 tl K S (nI struck) (nI stand) (nI f - nI 1) from KL (kbN N) 0 0 0 (Nat.zero_add _) (by decide) (by decide) (fun i _ => by rw [Nat.zero_testBit]; rfl) (fun i => by rw [Nat.zero_testBit, decide_eq_false (by omega), Bool.false_and])
  intro f
  induction f with
  | zero =>
    intro j struck stand hj h1 h2 h3 h4
    refine b_X6_standing_16 ⟨fun _ => ?_, fun z => absurd (by decide) z⟩
    rw [show stand = bitsN (ctN N) (kbN N) from Nat.eq_of_testBit_eq (fun i => by
      rw [h4, bitsN_tb]
      congr 1
      exact decide_eq_decide.mpr ⟨fun w => w.2, fun w => ⟨Nat.zero_le _, w⟩⟩)]
    exact k
  | succ f ih =>
    intro j struck stand hj h1 h2 h3 h4
    obtain ⟨e1, e2, _, _, _, e6⟩ := n5 f (by omega)
    have hv : vp_in (nI f) 24 := (x_vp (by omega)).mpr (by omega)
    have hct : ctR N.2.2 (kbN N) j f = ctN N f := by
      have := ct_fin hx f.succ j f (by omega) (by omega)
      rw [hj] at this
      exact this.symm
    have hjf : kbN N - 1 - j = f := by omega
    have hst : ctR N.2.2 (kbN N) (j + 1) = if ctR N.2.2 (kbN N) j f = true ∧ (N.2.2 f).1 = 3 then (fun k => if k = (N.2.2 f).2.1 then false else ctR N.2.2 (kbN N) j k) else ctR N.2.2 (kbN N) j := by
      show (if ctR N.2.2 (kbN N) j (kbN N - 1 - j) = true ∧ (N.2.2 (kbN N - 1 - j)).1 = 3 then _ else _) = _
      rw [hjf]
    have hk3 := e6.1
    have hdown : nI (f + 1) - nI 1 = nI f := by rw [pk_sub (by omega)]; rfl
    have hdown2 : nI f + -(nI 1) = nI f - nI 1 := by rw [Int32.sub_eq_add_neg]
    have hs2 : ∀ stand', (stand' = if ctN N f = true then stand ||| 2 ^ f else stand) → (∀ i, stand'.testBit i = (decide (f ≤ i ∧ i < kbN N) && ctN N i)) := by
      intro stand' e i
      rw [e]
      by_cases z : ctN N f = true
      · rw [if_pos z, Nat.testBit_or, h4, Nat.testBit_two_pow]
        by_cases q : f = i
        · rw [← q, decide_eq_true rfl, Bool.or_true, z, decide_eq_true (show f ≤ f ∧ f < kbN N from ⟨Nat.le_refl _, by omega⟩)]
          rfl
        · rw [decide_eq_false q, Bool.or_false]
          congr 1
          exact decide_eq_decide.mpr (by omega)
      · rw [if_neg z, h4]
        by_cases q : f = i
        · rw [← q, decide_eq_false (show ¬ (f + 1 ≤ f ∧ f < kbN N) by omega), Bool.false_and]
          cases hq : ctN N f with
          | true => exact absurd hq z
          | false => rw [Bool.and_false]
        · congr 1
          exact decide_eq_decide.mpr (by omega)
    have hnext : ∀ struck' stand', struck' < 2 ^ 24 → (∀ i, i < 24 → struck'.testBit i = !ctR N.2.2 (kbN N) (j + 1) i) → (stand' = if ctN N f = true then stand ||| 2 ^ f else stand) → L_X6_standing_55 G false n0 tl K S (nI struck') (nI stand') (nI f) := by
      intro struck' stand' a1 a2 a3
      refine b_X6_standing_55 ?_
      rw [hdown2]
      refine ih (j + 1) struck' stand' (by omega) a1 ?_ a2 (hs2 stand' a3)
      rw [a3]
      split
      · exact Nat.or_lt_two_pow h2 (Nat.pow_lt_pow_right (by decide) (by omega))
      · exact h2
    have h3f := h3 f (by omega)
    rw [hdown]
    refine b_X6_standing_16 ?_
    rw [tb_u0 (by omega) (by omega), show (nI f).toNatClampNeg = f from nI_clamp (by omega), e1, e2, nI_eq (by omega) (by decide)]
    refine ⟨fun z => absurd z (nI_pos (by omega)), fun _ => ⟨fun z => ⟨hv, fun y => ⟨hv, ?_⟩, fun y => ?_⟩, fun z => ?_⟩⟩
    · have hc : ctR N.2.2 (kbN N) j f = true := by rw [z] at h3f; simpa using h3f.symm
      have hl := e6.2.2.2.2 y
      rw [nu_set (by omega), nu_set (by omega)]
      refine hnext _ _ (Nat.or_lt_two_pow h1 (Nat.pow_lt_pow_right (by decide) (by omega))) (fun i hi => ?_) (by rw [← hct, hc, if_pos rfl])
      rw [hst, if_pos ⟨hc, y⟩, Nat.testBit_or, h3 i hi, Nat.testBit_two_pow]
      show _ = !(if i = (N.2.2 f).2.1 then false else ctR N.2.2 (kbN N) j i)
      by_cases q : i = (N.2.2 f).2.1
      · rw [if_pos q, decide_eq_true q.symm, Bool.or_true]
        rfl
      · rw [if_neg q, decide_eq_false (fun w => q w.symm), Bool.or_false]
    · have hc : ctR N.2.2 (kbN N) j f = true := by rw [z] at h3f; simpa using h3f.symm
      rw [nu_set (by omega)]
      refine hnext _ _ h1 (fun i hi => ?_) (by rw [← hct, hc, if_pos rfl])
      rw [hst, if_neg (fun w => y w.2)]
      exact h3 i hi
    · have hc : ctR N.2.2 (kbN N) j f = false := by rw [bl_t z] at h3f; simpa using h3f.symm
      refine hnext _ _ h1 (fun i hi => ?_) (by rw [← hct, hc, if_neg (by decide)])
      rw [hst, if_neg (fun w => by rw [hc] at w; exact Bool.noConfusion w.1)]
      exact h3 i hi
/-! which pairs of ends agree with the notes -/
theorem u_stands (G : ab_G) {lay : List ms_D} (S : ms_S) (tl : ab_H) (jb : Nat → Nat) (hj : ∀ e, e < 7 → jb e < 2 ^ 7) (a b c d : Nat) (ha : a < 7) (hb : b < 7) (hc : c < 7) (hd : d < 7) (K : Int32 → ms_S → Prop) (k : K (bI ((jb a).testBit b && (jb c).testBit d)) S) : ctI G 1 M_X6_stands false [.int (nI a), .int (nI b), .int (nI c), .int (nI d), .long (lN (byN jb 7))] lay S tl K := by
  have hl : byN jb 7 < 2 ^ 56 := by_lt7 (c := jb) hj
  have hbt : ∀ x y, x < 7 → y < 7 → (byN jb 7).testBit (x * 8 + y) = (jb x).testBit y := fun x y hx hy => by
    rw [byN_tb (c := jb) (f := x) (i := y) (by omega) (n := 7) (fun f hf => Nat.lt_trans (hj f hf) (by decide)), decide_eq_true hx, Bool.true_and]
  refine ctI.pk (m_X6_stands (fun n0 => ?_))
  rw [show nI a * nI 8 + nI b = nI (a * 8 + b) from by rw [pk_mul, nI_add], show nI c * nI 8 + nI d = nI (c * 8 + d) from by rw [pk_mul, nI_add], nl_ushr (by omega) (by omega), nl_ushr (by omega) (by omega), nl_and, nl_one, lg_cmp_eq, pk_lEQ (by omega) (by decide), ← Nat.and_one_is_mod]
  have e : ((byN jb 7 / 2 ^ (a * 8 + b) &&& byN jb 7 / 2 ^ (c * 8 + d)) &&& 1 = 1) ↔ ((jb a).testBit b && (jb c).testBit d) = true := by
    rw [Nat.and_one_is_mod, show (byN jb 7 / 2 ^ (a * 8 + b) &&& byN jb 7 / 2 ^ (c * 8 + d)) % 2 = 1 ↔ (byN jb 7 / 2 ^ (a * 8 + b) &&& byN jb 7 / 2 ^ (c * 8 + d)).testBit 0 = true from by rw [Nat.testBit_zero, decide_eq_true_eq], Nat.testBit_and, Nat.testBit_div_two_pow, Nat.testBit_div_two_pow, Nat.zero_add, Nat.zero_add, hbt a b ha hb, hbt c d hc hd]
  rw [e]
  cases hq : ((jb a).testBit b && (jb c).testBit d) with
  | true =>
    rw [hq] at k
    exact ⟨fun _ => k, fun z => absurd rfl z⟩
  | false =>
    rw [hq] at k
    exact ⟨fun z => Bool.noConfusion z, fun _ => k⟩
end CORE16

