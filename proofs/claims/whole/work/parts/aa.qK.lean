/-! ===== the program: the fewest rows ===== -/
theorem fwM_a {T : Nat → Nat} {R : Nat → Bool} {s k : Nat} (hk : k &&& s = k) (h0 : ¬ k = 0) (hR : R k = true) : ∀ n, k ≤ n → fwM T R s n ≤ T (dif s k) + 1
  | 0, h => absurd (Nat.le_zero.mp h) h0
  | n + 1, h => by
    unfold fwM
    by_cases e : k = n + 1
    · subst e
      rw [if_pos ⟨hk, hR⟩]
      exact Nat.min_le_right _ _
    · have ih := fwM_a (T := T) hk h0 hR n (by omega)
      split
      · exact Nat.le_trans (Nat.min_le_left _ _) ih
      · exact ih
theorem fwM_b {T : Nat → Nat} {R : Nat → Bool} {s : Nat} : ∀ n, fwM T R s n = 99 ∨ ∃ k, k &&& s = k ∧ ¬ k = 0 ∧ R k = true ∧ fwM T R s n = T (dif s k) + 1
  | 0 => Or.inl rfl
  | n + 1 => by
    have ih := fwM_b (T := T) (R := R) (s := s) n
    unfold fwM
    by_cases e : (n + 1) &&& s = n + 1 ∧ R (n + 1) = true
    · rw [if_pos e]
      by_cases m : fwM T R s n ≤ T (dif s (n + 1)) + 1
      · rw [Nat.min_eq_left m]
        exact ih
      · rw [Nat.min_eq_right (by omega)]
        exact Or.inr ⟨n + 1, e.1, by omega, e.2, rfl⟩
    · rw [if_neg e]
      exact ih
theorem fw_a {R : Nat → Bool} {s k : Nat} (hs : s < 2 ^ 32) (hk : k &&& s = k) (h0 : ¬ k = 0) (hR : R k = true) : fwT R s ≤ fwT R (dif s k) + 1 := by
  have hks : k ≤ s := by rw [← hk]; exact Nat.and_le_right
  rw [fwT_eq R (s := s) (by omega) hs]
  exact fwM_a hk h0 hR s hks
theorem dif_p {s q : Nat} (hs : s < 512) (hq : s.testBit q = true) : dif s (2 ^ q) = s - 2 ^ q := by
  have q9 : q < 9 := tb_lt (n := 9) hs hq
  apply Nat.eq_of_testBit_eq
  intro j
  rw [dif_tb (by omega), Nat.testBit_two_pow]
  by_cases hj : j < 9
  · rw [sb_t s hs q q9 hq j hj]
    by_cases e : q = j
    · rw [decide_eq_true e, decide_eq_true e.symm]
    · rw [decide_eq_false e, decide_eq_false (fun w => e w.symm)]
  · have h9 : 2 ^ 9 ≤ 2 ^ j := Nat.pow_le_pow_right (by decide) (by omega)
    have hq2 : s - 2 ^ q ≤ s := Nat.sub_le _ _
    rw [Nat.testBit_lt_two_pow (x := s) (by omega), Nat.testBit_lt_two_pow (x := s - 2 ^ q) (Nat.lt_of_le_of_lt hq2 (by omega))]
    rfl
theorem p2_sub {s q : Nat} (hq : s.testBit q = true) : 2 ^ q &&& s = 2 ^ q := sb_of (fun i hi => by
  rw [Nat.testBit_two_pow, decide_eq_true_eq] at hi
  rw [← hi]
  exact hq)
theorem fw_pop {R : Nat → Bool} : ∀ n s, s ≤ n → s < 512 → (∀ p, s.testBit p = true → R (2 ^ p) = true) → fwT R s ≤ pop s 9 := by
  intro n
  induction n with
  | zero =>
    intro s h _ _
    rw [Nat.le_zero.mp h]
    exact Nat.zero_le _
  | succ n ih =>
    intro s h hs hR
    by_cases h0 : s = 0
    · rw [h0]
      exact Nat.zero_le _
    · obtain ⟨q, hq⟩ := Nat.exists_testBit_of_ne_zero h0
      have q9 : q < 9 := tb_lt (n := 9) hs hq
      have hp := Nat.two_pow_pos q
      have hg := Nat.ge_two_pow_of_testBit hq
      have h1 := fw_a (R := R) (s := s) (k := 2 ^ q) (by omega) (p2_sub hq) (by omega) (hR q hq)
      rw [dif_p hs hq] at h1
      have h2 := ih (s - 2 ^ q) (by omega) (by omega) (fun p hp => by
        have p9 : p < 9 := tb_lt (n := 9) (show s - 2 ^ q < 2 ^ 9 by omega) hp
        rw [sb_t s hs q q9 hq p p9, Bool.and_eq_true] at hp
        exact hR p hp.1)
      have h3 := pop_cl s hs q q9 hq
      omega
/-- one of the fewest rows holds the lowest piece -/
theorem fw_low {R : Nat → Bool} : ∀ n s, s ≤ n → s < 512 → (∀ p, s.testBit p = true → R (2 ^ p) = true) → ∀ q, s.testBit q = true → (∀ j, j < q → s.testBit j = false) → ∃ k, k &&& s = k ∧ k.testBit q = true ∧ R k = true ∧ fwT R s = fwT R (dif s k) + 1 := by
  intro n
  induction n with
  | zero =>
    intro s h _ _ q hq
    rw [Nat.le_zero.mp h, Nat.zero_testBit] at hq
    cases hq
  | succ n ih =>
    intro s h hs hR q hq hl
    have h0 : ¬ s = 0 := fun z => by rw [z, Nat.zero_testBit] at hq; cases hq
    have hp := fw_pop s s (Nat.le_refl _) hs hR
    have hp9 := pop_le s 9
    have hb := fwM_b (T := fwT R) (R := R) (s := s) s
    rw [← fwT_eq R h0 (by omega)] at hb
    obtain ⟨k, k1, k2, k3, k4⟩ := hb.resolve_left (by omega)
    by_cases kq : k.testBit q = true
    · exact ⟨k, k1, kq, k3, k4⟩
    have kq : k.testBit q = false := by
      cases e : k.testBit q with
      | false => rfl
      | true => exact absurd e kq
    have hu := dif_lt (a := s) (b := k) (by omega) k1 k2
    have us : ∀ i, (dif s k).testBit i = (s.testBit i && !k.testBit i) := fun i => dif_tb (by omega)
    obtain ⟨m, m1, m2, m3, m4⟩ := ih (dif s k) (by omega) (by omega) (fun p hp => by
      rw [us, Bool.and_eq_true] at hp
      exact hR p hp.1) q (by rw [us, hq, kq]; rfl) (fun j hj => by rw [us, hl j hj]; rfl)
    have ms : m &&& s = m := sb_tr m1 (sb_dif (by omega))
    refine ⟨m, ms, m2, m3, ?_⟩
    have m0 : ¬ m = 0 := fun z => by rw [z, Nat.zero_testBit] at m2; cases m2
    have h1 := fw_a (R := R) (s := s) (k := m) (by omega) ms m0 m3
    have hsl : dif s m < s := dif_lt (by omega) ms m0
    have kk : k &&& dif s m = k := sb_of (fun i hi => by
      rw [dif_tb (by omega), sb_tb k1 hi]
      cases e : m.testBit i with
      | false => rfl
      | true =>
        have := sb_tb m1 e
        rw [us, hi] at this
        simp at this)
    have h2 := fw_a (R := R) (s := dif s m) (k := k) (by omega) kk k2 k3
    have e : dif (dif s m) k = dif (dif s k) m := by
      apply Nat.eq_of_testBit_eq
      intro i
      rw [dif_tb (by omega), dif_tb (by omega), dif_tb (by omega), us]
      cases s.testBit i <;> cases m.testBit i <;> cases k.testBit i <;> rfl
    rw [e] at h2
    omega
/-- the lowest one of a set -/
theorem low_tab : ∀ s, s < 512 → ¬ s = 0 → s.testBit (ntP s 9 0 0) = true ∧ ntP s 9 0 0 < 9 ∧ nI s &&& (-(nI s)) = nI (2 ^ ntP s 9 0 0) := by decide +kernel
theorem low_j : ∀ s, s < 512 → ¬ s = 0 → ∀ j, j < 9 → j < ntP s 9 0 0 → s.testBit j = false := by decide +kernel
section CORE11
variable {G : ab_G} {S : ms_S} {tl : ab_H} {P : tPL} {o : Nat → Option tDQ} {v : Nat} {jb : Nat → Nat}
theorem row_1 (hP : bPl S P o) {p : Nat} (hp : p < P.1) : isRowK P jb (2 ^ p) 7 = true := by
  obtain ⟨_, e2, _, e4, _⟩ := hP.2.2.2.2.1 p hp
  rw [isRow_N, decide_eq_true_eq]
  intro z
  have h := byN_0.mp z _ e2
  have h1 : (rowT P jb (2 ^ p) (P.2.2.1 p)).testBit (P.2.2.2.1 p) = true := by
    rw [rowT_eq, lt_g]
    refine ⟨2 * p, by omega, ?_, ?_⟩
    · rw [(oe_d p).1, Nat.testBit_two_pow]
      exact decide_eq_true rfl
    · rw [(oe_d p).1, oeA_0, oeB_0]
      exact ⟨rfl, Or.inl ⟨rfl, rfl⟩⟩
  rw [h, Nat.zero_testBit] at h1
  cases h1
theorem fwD (hP : bPl S P o) {s : Nat} (hs : s < 2 ^ P.1) : ∀ p, s.testBit p = true → isRowK P jb (2 ^ p) 7 = true := fun p hp => row_1 hP (tb_lt hs hp)
abbrev fwR (P : tPL) (jb : Nat → Nat) : Nat → Nat := fwT (fun s => isRowK P jb s 7)
theorem fwR_9 (hP : bPl S P o) {s : Nat} (hs : s < 2 ^ P.1) : fwR P jb s ≤ 9 := by
  have h5 : s < 512 := Nat.lt_of_lt_of_le hs (p2_9 hP.1)
  exact Nat.le_trans (fw_pop s s (Nat.le_refl _) h5 (fwD hP hs)) (pop_le s 9)
theorem u_fOf (hP : bPl S P o) (part : Nat) (hs : part < 2 ^ P.1) (h0 : ¬ part = 0) (hD : dnS S P jb part) (hF : ∀ r, r &&& part = r → ¬ r = part → S.2.2.2.1 30 r = nI (fwR P jb r)) (K : Int32 → ms_S → Prop) (k : K (nI (fwR P jb part)) S) : ctI G 2 M_X9_fewestOf false [.ref 25, .int (nI part)] lC S tl K := by
  have p1 := hP.1
  have h5 : part < 512 := Nat.lt_of_lt_of_le hs (p2_9 p1)
  obtain ⟨t1, t2, t3⟩ := low_tab part h5 h0
  have tl9 := low_j part h5 h0
  generalize ntP part 9 0 0 = q at t1 t2 t3 tl9
  have hq2 : 2 ^ q ≤ part := Nat.ge_two_pow_of_testBit t1
  have hqp := Nat.two_pow_pos q
  refine m_X9_fewestOf (fun n0 => ?_)
  rw [t3, nu_clr part h5 q t2, if_pos t1]
  have hoT : ∀ j, j < 9 → (part - 2 ^ q).testBit j = (part.testBit j && !decide (j = q)) := sb_t part h5 q t2 t1
  have ho5 : part - 2 ^ q < 512 := by omega
  obtain ⟨kb, kb1, kb2, kb3, kb4⟩ := fw_low (R := fun s => isRowK P jb s 7) part part (Nat.le_refl _) h5 (fwD (jb := jb) hP hs) q t1 (fun j hj => tl9 j (by omega) hj)
  have kb4 : fwR P jb part = fwR P jb (dif part kb) + 1 := kb4
  -- rows by what is besides the lowest one
  have hrow : ∀ m, m &&& (part - 2 ^ q) = m → (2 ^ q ||| m) &&& part = 2 ^ q ||| m ∧ ¬ 2 ^ q ||| m = 0 ∧ (2 ^ q ||| m) ≤ part := by
    intro m hm
    have h1 : (2 ^ q ||| m) &&& part = 2 ^ q ||| m := sb_of (fun i hi => by
      rw [Nat.testBit_or, Nat.testBit_two_pow, Bool.or_eq_true, decide_eq_true_eq] at hi
      rcases hi with w | w
      · rw [← w]; exact t1
      · have w2 := sb_tb hm w
        have i9 : i < 9 := tb_lt (n := 9) ho5 w2
        rw [hoT i i9, Bool.and_eq_true] at w2
        exact w2.1)
    refine ⟨h1, fun z => ?_, by rw [← h1]; exact Nat.and_le_right⟩
    have : (2 ^ q ||| m).testBit q = true := by rw [Nat.testBit_or, Nat.testBit_two_pow, decide_eq_true rfl]; rfl
    rw [z, Nat.zero_testBit] at this
    cases this
  have hkm : (kb - 2 ^ q) &&& (part - 2 ^ q) = kb - 2 ^ q ∧ 2 ^ q ||| (kb - 2 ^ q) = kb := by
    have kl : kb ≤ part := by rw [← kb1]; exact Nat.and_le_right
    have kT := sb_t kb (by omega) q t2 kb2
    constructor
    · refine sb_of (fun i hi => ?_)
      have i9 : i < 9 := tb_lt (n := 9) (show kb - 2 ^ q < 2 ^ 9 by omega) hi
      rw [kT i i9, Bool.and_eq_true] at hi
      rw [hoT i i9, sb_tb kb1 hi.1, hi.2]
      rfl
    · apply Nat.eq_of_testBit_eq
      intro i
      rw [Nat.testBit_or, Nat.testBit_two_pow]
      by_cases i9 : i < 9
      · rw [kT i i9]
        by_cases e : i = q
        · rw [e, kb2, decide_eq_true rfl]
          rfl
        · rw [decide_eq_false e, decide_eq_false (fun w => e w.symm)]
          simp
      · have h9 : 2 ^ 9 ≤ 2 ^ i := Nat.pow_le_pow_right (by decide) (by omega)
        rw [Nat.testBit_lt_two_pow (x := kb) (by omega), Nat.testBit_lt_two_pow (x := kb - 2 ^ q) (by omega), decide_eq_false (by omega)]
        rfl
  have hfin : ∀ (le : Nat), le ≤ 9 → fwR P jb part ≤ le → (isRowK P jb (2 ^ q ||| (kb - 2 ^ q)) 7 = true → le ≤ fwR P jb (dif part (2 ^ q ||| (kb - 2 ^ q))) + 1) → L_X9_fewestOf_90 G false n0 tl K S (nI le) := by
    intro le h1 h2 h3
    rw [hkm.2] at h3
    have h4 := h3 kb3
    refine b_X9_fewestOf_90 ?_
    rw [show le = fwR P jb part by omega]
    exact k
  have h00 : qk (part - 2 ^ q) 0 = 0 := qkN_0 _ 9
  suffices KL : ∀ t m le, m &&& (part - 2 ^ q) = m → qk (part - 2 ^ q) m + t = 512 → le ≤ 9 → fwR P jb part ≤ le → (∀ m', m' &&& (part - 2 ^ q) = m' → qk (part - 2 ^ q) m' < qk (part - 2 ^ q) m → isRowK P jb (2 ^ q ||| m') 7 = true → le ≤ fwR P jb (dif part (2 ^ q ||| m')) + 1) → L_X9_fewestOf_21 G false n0 tl K S (nI part) (nI (2 ^ q)) (nI (part - 2 ^ q)) (nI m) (nI le) (nI (qk (part - 2 ^ q) m)) by
    have := KL 512 0 9 (Nat.zero_and _) (by rw [h00]) (Nat.le_refl _) (fwR_9 hP hs) (fun m' _ hq => by rw [h00] at hq; exact absurd hq (Nat.not_lt_zero _))
    rw [h00] at this
    exact this
  intro t
  induction t with
  | zero =>
    intro m le hm ht
    have := qk_512 (part - 2 ^ q) m
    exact absurd ht (by omega)
  | succ t ih =>
    intro m le hm ht l1 l2 l3
    have hq5 := qk_512 (part - 2 ^ q) m
    have hml : m ≤ part - 2 ^ q := by rw [← hm]; exact Nat.and_le_right
    obtain ⟨r1, r2, r3⟩ := hrow m hm
    have hrl : (2 ^ q ||| m) < 2 ^ P.1 := by omega
    have hrc : rcN P jb (2 ^ q ||| m) < 2 ^ 56 := by_lt7 (c := fun f => rowT P jb (2 ^ q ||| m) f) (fun f _ => row_lt hP _ f)
    have hd : dif part (2 ^ q ||| m) < part := dif_lt (by omega) r1 r2
    have hf9 : fwR P jb (dif part (2 ^ q ||| m)) ≤ 9 := fwR_9 hP (by omega)
    have hle := fw_a (R := fun s => isRowK P jb s 7) (s := part) (k := 2 ^ q ||| m) (by omega) r1 r2
    have hle : isRowK P jb (2 ^ q ||| m) 7 = true → fwR P jb part ≤ fwR P jb (dif part (2 ^ q ||| m)) + 1 := hle
    have K67 : ∀ le', le' ≤ le → fwR P jb part ≤ le' → (isRowK P jb (2 ^ q ||| m) 7 = true → le' ≤ fwR P jb (dif part (2 ^ q ||| m)) + 1) → L_X9_fewestOf_67 G false n0 tl K S (nI part) (nI (2 ^ q)) (nI (part - 2 ^ q)) (nI m) (nI le') (nI (qk (part - 2 ^ q) m)) := by
      intro le' e1 e2 e3
      have hall : ∀ m', m' &&& (part - 2 ^ q) = m' → qk (part - 2 ^ q) m' ≤ qk (part - 2 ^ q) m → isRowK P jb (2 ^ q ||| m') 7 = true → le' ≤ fwR P jb (dif part (2 ^ q ||| m')) + 1 := by
        intro m' hm' hq hr
        by_cases e : qk (part - 2 ^ q) m' = qk (part - 2 ^ q) m
        · have := qk_inj ho5 hm' hm e
          subst this
          exact e3 hr
        · exact Nat.le_trans e1 (l3 m' hm' (by omega) hr)
      refine b_X9_fewestOf_67 ?_
      rw [nI_eq (by omega) (by omega), nu_nx ho5 (by omega), nI_add]
      refine ⟨fun z => hfin le' (by omega) e2 (hall _ hkm.1 ?_), fun z => ?_⟩
      · rw [z]
        exact qkN_mo hkm.1 9
      · have hnx := qk_nx ho5 hm z
        rw [← hnx]
        exact ih _ le' (nx_sub _ _) (by omega) (by omega) e2 (fun m' hm' hq => hall m' hm' (by omega))
    refine b_X9_fewestOf_21 ?_
    rw [nI_leI (by decide) (by omega), nu_or, show (nI (2 ^ q ||| m)).toNatClampNeg = 2 ^ q ||| m from nI_clamp (by omega), hD _ r1, lg_cmp_eq, pk_lEQ (by omega) (by decide), nu_dif, show (nI (dif part (2 ^ q ||| m))).toNatClampNeg = dif part (2 ^ q ||| m) from nI_clamp (by omega), hF _ (sb_dif (by omega)) (by omega), nI_add]
    have hir := isRow_N (P := P) (jb := jb) (2 ^ q ||| m)
    refine ⟨fun z => absurd z (by omega), fun _ => ⟨(x_vp (by omega)).mpr (by omega), fun z => K67 le (Nat.le_refl _) l2 (fun y => ?_), fun z => ⟨(x_vp (by omega)).mpr (by omega), ?_⟩⟩⟩
    · rw [hir, decide_eq_false (fun w => w z)] at y
      cases y
    · have hir : isRowK P jb (2 ^ q ||| m) 7 = true := by rw [hir]; exact decide_eq_true z
      have h9 := hle hir
      by_cases y : 1 + fwR P jb (dif part (2 ^ q ||| m)) < le
      · rw [if_pos ((nI_ltI (by omega) (by omega)).mpr y)]
        exact K67 _ (by omega) (by omega) (fun _ => by omega)
      · rw [if_neg (fun w => y ((nI_ltI (by omega) (by omega)).mp w))]
        exact K67 le (Nat.le_refl _) l2 (fun _ => by omega)
def aFw : Nat → Bool := fun a => Nat.beq a 30
def aFR : Nat → Bool := fun a => aRc a || aFw a
theorem fr_R (a : Nat) (h : aFR a = false) : aRc a = false := by
  unfold aFR at h
  simp only [Bool.or_eq_false_iff] at h
  exact h.1
theorem fr_F (a : Nat) (h : aFR a = false) : aFw a = false := by
  unfold aFR at h
  simp only [Bool.or_eq_false_iff] at h
  exact h.2
theorem aFw_pl : plA aFw := ⟨rfl, rfl, rfl, rfl, rfl, rfl, rfl, rfl, rfl, rfl⟩
theorem u_fewL {n0 : Nat} {K : Int32 → ms_S → Prop} (hP : bPl S P o) (set : Nat) (hset : set < 2 ^ P.1) (h5 : set < 512) (hD : dnS S P jb set) (k : ∀ S', cF aFw S S' → K (nI (fwR P jb set)) S') : ∀ t part (X : ms_S), part &&& set = part → qk set part + t = 512 → cF aFw S X → (∀ r, r &&& set = r → qk set r ≤ qk set part → X.2.2.2.1 30 r = nI (fwR P jb r)) → L_X9_fewestRows_24 G false n0 tl K X (nI set) (nI part) (nI (qk set part)) := by
  intro t
  induction t with
  | zero =>
    intro part X hs ht
    have := qk_512 set part
    exact absurd ht (by omega)
  | succ t ih =>
    intro part X hs ht x1 x3
    have hq5 := qk_512 set part
    have hps : part ≤ set := by rw [← hs]; exact Nat.and_le_right
    refine b_X9_fewestRows_24 ?_
    rw [nI_leI (by decide) (by omega), nI_eq (by omega) (by omega), nu_nx h5 (by omega), nI_add]
    refine ⟨fun z => absurd z (by omega), fun _ => ⟨fun z => b_X9_fewestRows_60 ⟨(x_vp (by omega)).mpr h5, ?_⟩, fun z => ?_⟩⟩
    · rw [show (nI set).toNatClampNeg = set from nI_clamp (by omega), x3 set (Nat.and_self _) (by rw [z]; exact Nat.le_refl _)]
      exact k X x1
    · have hnx := qk_nx h5 hs z
      have hns := nx_sub set part
      generalize nxN set part = nx at hnx hns ⊢
      have hnl : nx ≤ set := by rw [← hns]; exact Nat.and_le_right
      have hn0 : ¬ nx = 0 := fun w => by
        rw [w, show qk set 0 = 0 from qkN_0 set 9] at hnx
        omega
      refine u_fOf (bPl_F x1 aFw_pl hP) nx (by omega) hn0 (fun r hr => (congrFun (x1.2.2.2.1 26 rfl) r).trans (hD r (sub_tr hr hns))) (fun r hr hne => ?_) _ ⟨(x_vp (by omega)).mpr (by omega), ?_⟩
      · have hrs := sub_tr hr hns
        have hm : qk set r ≤ qk set nx := qkN_mo (set := set) hr 9
        have hnq : ¬ qk set r = qk set nx := fun q => hne (qk_inj h5 hrs hns q)
        exact x3 r hrs (by omega)
      · rw [← hnx, show (nI nx).toNatClampNeg = nx from nI_clamp (by omega)]
        refine ih nx _ hns (by omega) (x1.tr (cF.sA rfl)) (fun r hr hq => ?_)
        show upd (X.2.2.2.1 30) nx _ r = _
        by_cases e : r = nx
        · rw [e, pk_us]
        · rw [pk_un e]
          have hnq : ¬ qk set r = qk set nx := fun q => e (qk_inj h5 hr hns q)
          exact x3 r hr (by omega)
theorem u_fewest (hP : bPl S P o) (hR : bRT S P v jb) (set : Nat) (hset : set < 2 ^ P.1) (K : Int32 → ms_S → Prop) (k : ∀ S', cF aFR S S' → bRT S' P v jb → K (nI (fwR P jb set)) S') : ctI G 4 M_X9_fewestRows false [.ref 25, .int (nI set)] lC S tl K := by
  have p1 := hP.1
  have h5 : set < 512 := Nat.lt_of_lt_of_le hset (p2_9 p1)
  refine m_X9_fewestRows (fun n0 => ?_)
  rw [pk_andN (n := set) (by omega) (m := nI 511) 9 (by decide), Nat.mod_eq_of_lt (show set < 2 ^ 9 from h5)]
  refine u_reach hP hR set hset _ (fun S1 f1 h1 d1 => ⟨(x_vp (by omega)).mpr (by omega), ?_⟩)
  have h0 : qk set 0 = 0 := qkN_0 set 9
  have hs2 : cF aFw S1 (sA S1 30 ((nI 0).toNatClampNeg) (nI 0)) := cF.sA rfl
  have := u_fewL (G := G) (tl := tl) (n0 := n0) (K := K) (bPl_F hs2 aFw_pl (bPl_F f1 aRc_pl hP)) set hset h5 (fun r hr => d1 r hr) (fun S' f' => k S' ((f1.mono fr_R).tr ((hs2.tr f').mono fr_F)) (bRT_F (hs2.tr f') rfl rfl rfl rfl h1)) 512 0 _ (Nat.zero_and _) (by rw [h0]) cF.rf (fun r hr hq => by
    rw [h0] at hq
    have hr0 := qk_z h5 hr (by omega)
    subst hr0
    rfl)
  rw [h0] at this
  exact this
end CORE11

