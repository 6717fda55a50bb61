/-! ===== the reference: what reading a text leaves as it was; feeding ===== -/
def fT : Nat → Bool := fun k => Nat.beq k 1 || Nat.beq k 2 || (Nat.ble 4 k && Nat.ble k 11) || (Nat.ble 17 k && Nat.ble k 21) || (Nat.ble 43 k && Nat.ble k 48)
/-- below this nothing of a row changes -/
def loB (a : Nat) : Nat := if Nat.beq a 1 || Nat.beq a 3 || Nat.beq a 22 || Nat.beq a 23 then 0 else if Nat.beq a 4 then 2 else if Nat.ble 5 a && Nat.ble a 9 then 9 else if Nat.beq a 10 then 5 else if Nat.ble 11 a && Nat.ble a 13 then 8 else if Nat.beq a 14 || Nat.beq a 15 then 10 else if Nat.ble 16 a && Nat.ble a 18 then 3 else if Nat.ble 19 a && Nat.ble a 21 then 64 else 1000000
def mLo (S S' : ms_S) : Prop := (∀ k, fT k = false → S'.1 0 k = S.1 0 k) ∧ S'.2.1 = S.2.1 ∧ ∀ a i, i < loB a → S'.2.2.2.1 a i = S.2.2.2.1 a i
theorem mLo.rf {S : ms_S} : mLo S S := ⟨fun _ _ => rfl, rfl, fun _ _ _ => rfl⟩
theorem mLo.tr {S1 S2 S3 : ms_S} (h1 : mLo S1 S2) (h2 : mLo S2 S3) : mLo S1 S3 := ⟨fun k q => (h2.1 k q).trans (h1.1 k q), h2.2.1.trans h1.2.1, fun a i q => (h2.2.2 a i q).trans (h1.2.2 a i q)⟩
theorem mLo.sV {S : ms_S} {k : Nat} {x : Int32} (hk : fT k = true) : mLo S (sV S k x) := ⟨fun j q => u2_ne (Or.inr (fun z => by rw [z, hk] at q; cases q)), rfl, fun _ _ _ => rfl⟩
theorem mLo.sA {S : ms_S} {a i : Nat} {x : Int32} (ha : loB a ≤ i) : mLo S (sA S a i x) := ⟨fun _ _ => rfl, rfl, fun b j q => by
  by_cases z : b = a
  · subst z
    show u1 S.2.2.2.1 b _ b j = _
    rw [u1_eq]
    exact upd_no (by omega)
  · show u1 S.2.2.2.1 a _ b j = _
    rw [u1_ne z]⟩
theorem mI_Lo {S S' : ms_S} {g : tSG} {T : tTp} (h : mLo S S') (hI : mI S g) (hT : mTp S' T) : mI S' (g.1, g.2.1, g.2.2.1, g.2.2.2.1, g.2.2.2.2.1, T) := by
  obtain ⟨⟨⟨p1, p2, p3, p4, p5, p6⟩, ⟨t1, t2, t3, t4, t5, t6⟩, c3, c4, ⟨s1, s2, s3, s4, s5, s6⟩, c6, c7, c8, c9, c10⟩, ⟨u1', u2', u3⟩, ⟨m1, m2⟩, ⟨n1, n2, n3, n4, n5⟩, ⟨x1, x2, x3, x4, x5, x6, x7⟩, _, w1⟩ := hI
  obtain ⟨hf, hl, ha⟩ := h
  refine ⟨⟨⟨p1, p2, (hf 12 rfl).trans p3, (hf 13 rfl).trans p4, fun p hp => ?_, fun w hw => ⟨(ha 16 w hw).trans (p6 w hw).1, fun q => ?_⟩⟩, ⟨t1, t2, (hf 14 rfl).trans t3, (hf 15 rfl).trans t4, fun t ht => ?_, fun k hk => ?_⟩, (ha 4 0 (by decide)).trans c3, c4, ⟨fun p hp => (ha 26 _ (show 9 * 0 + p < 1000000 by omega)).trans (s1 p hp), fun q hq => ⟨(ha 27 _ (show 5 * 0 + q < 1000000 by omega)).trans (s2 q hq).1, (s2 q hq).2⟩, fun q hq => (ha 28 _ (show 5 * 0 + q < 1000000 by omega)).trans (s3 q hq), (ha 29 _ (show 0 < 1000000 by decide)).trans s4, (ha 30 _ (show 0 < 1000000 by decide)).trans s5, s6⟩, c6, c7, (congrFun (congrFun hl 0) 57).trans c8, c9, ?_⟩, ⟨u1', (hf 79 rfl).trans u2', fun k hk => ?_⟩, ⟨(hf 81 rfl).trans m1, fun x hx => ?_⟩, ⟨n1, (hf 75 rfl).trans n2, (hf 76 rfl).trans n3, n4, fun k hk => ?_⟩, ⟨fun p hp => (ha 5 p (Nat.lt_of_lt_of_le hp p1)).trans (x1 p hp), fun p hp => (ha 10 p (Nat.lt_of_lt_of_le hp p2)).trans (x2 p hp), (ha 4 1 (by decide)).trans x3, x4, fun p hp => (ha 9 p hp).trans (x5 p hp), x6, (hf 16 rfl).trans x7⟩, hT, fun i hi => (ha 2 i (show i < 1000000 by omega)).trans (w1 i hi)⟩
  · obtain ⟨o1, o2, o3, o4, o5, o6⟩ := p5 p hp
    exact ⟨(ha 6 p (Nat.lt_of_lt_of_le hp p1)).trans o1, o2, (ha 7 p (Nat.lt_of_lt_of_le hp p1)).trans o3, o4, (ha 8 p (Nat.lt_of_lt_of_le hp p1)).trans o5, o6⟩
  · obtain ⟨f, l, kn, pj, oj, e1, e2, e3, e4, e5, e6⟩ := (p6 w hw).2 q
    refine ⟨f, l, kn, pj, oj, (ha 17 w hw).trans e1, (ha 18 w hw).trans e2, e3, e4, ⟨fun i q1 q2 => ?_, e5.2⟩, fun nm nm' q => ?_⟩
    · obtain ⟨o1, o2, o3, o4, o5⟩ := e5.1 i q1 q2
      exact ⟨(ha 19 i (show i < 64 by omega)).trans o1, o2, fun q => ⟨(ha 20 i (show i < 64 by omega)).trans (o3 q).1, (o3 q).2⟩, fun q => ⟨(ha 20 i (show i < 64 by omega)).trans (o4 q).1, (o4 q).2⟩, fun q => ⟨(ha 21 i (show i < 64 by omega)).trans (o5 q).1, (o5 q).2⟩⟩
    · rw [← e6 nm nm' q]
      have key : ∀ c, f + c ≤ l → lwR kn pj oj (a_part S') nm (fun _ => 0) f c = lwR kn pj oj (a_part S) nm (fun _ => 0) f c := by
        intro c
        induction c with
        | zero => intro _; rfl
        | succ c ih =>
          intro hc
          unfold lwR
          rw [ih (by omega), show a_part S' (f + c) = a_part S (f + c) from ha 20 (f + c) (show f + c < 64 by omega)]
      unfold lwV
      rw [key (l - f) (by omega)]
  · obtain ⟨o1, o2, o3, o4, o5, o6⟩ := t5 t ht
    exact ⟨(ha 11 t (Nat.lt_of_lt_of_le ht t1)).trans o1, o2, (ha 12 t (Nat.lt_of_lt_of_le ht t1)).trans o3, o4, (ha 13 t (Nat.lt_of_lt_of_le ht t1)).trans o5, o6⟩
  · obtain ⟨o1, o2, o3, o4⟩ := t6 k hk
    exact ⟨(ha 14 k (Nat.lt_of_lt_of_le hk t2)).trans o1, o2, (ha 15 k (Nat.lt_of_lt_of_le hk t2)).trans o3, o4⟩
  · have h9 := p2_9 p1
    rcases c10 with w | ⟨w1, jw, w2, w3⟩
    · exact Or.inl ((hf 68 rfl).trans w)
    · exact Or.inr ⟨(hf 68 rfl).trans w1, jw, fun e he => ⟨(ha 33 e (show e < 1000000 by omega)).trans (w2 e he).1, (w2 e he).2⟩, fun set z1 f z2 => (ha 32 (7 * set + f) (show 7 * set + f < 1000000 by have := Nat.lt_of_lt_of_le z1 h9; omega)).trans (w3 set z1 f z2)⟩
  · refine ⟨rowOk_sh (fun d hd => (ha 39 (19 * k + d) (show 19 * k + d < 1000000 by have := Nat.lt_of_lt_of_le hk u1'; omega))) (u3 k hk).1, (u3 k hk).2⟩
  · obtain ⟨i1, i2, i3, i4, i5, i6, i7⟩ := m2 x hx
    exact ⟨rowOk_sh (fun d hd => (ha 40 (0 + d) (show 0 + d < 1000000 by omega))) i1, i2, (hf 83 rfl).trans i3, (hf 84 rfl).trans i4, i5, (congrFun (congrFun hl 0) 85).trans i6, i7⟩
  · obtain ⟨k1, k2, k3, k4, k5, k6⟩ := n5 k hk
    have hk24 := Nat.lt_of_lt_of_le hk n1
    exact ⟨(ha 37 (5 * k) (show _ < 1000000 by omega)).trans k1, (ha 37 (5 * k + 1) (show _ < 1000000 by omega)).trans k2, fun q => (ha 37 (5 * k + 2) (show _ < 1000000 by omega)).trans (k3 q), (ha 37 (5 * k + 3) (show _ < 1000000 by omega)).trans k4, (ha 37 (5 * k + 4) (show _ < 1000000 by omega)).trans k5, k6⟩
/-! feed -/
def byW (w : Int32) (j : Nat) : Nat := (w >>> (nI (24 - 8 * j) &&& 31)).toBitVec.toNat % 256
theorem by_eq (w : Int32) (j : Nat) : (w >>> (nI (24 - 8 * j) &&& 31)) &&& nI 255 = nI (byW w j) := pk_and _ 8 (by decide)
theorem by_lt (w : Int32) (j : Nat) : byW w j < 256 := Nat.mod_lt _ (by decide)
def wdK (a b c d e : Int32) (k : Nat) : Int32 := if k < 4 then a else if k < 8 then b else if k < 12 then c else if k < 16 then d else e
def fdB (a b c d e : Int32) (k : Nat) : Nat := byW (wdK a b c d e k) (k % 4)
abbrev tpG (g : tSG) : tTp := g.2.2.2.2.2
def N_feed (g : tSG) (a b c d e : Int32) : tSG := if (tpG g).1 + 20 ≤ 700 then (g.1, g.2.1, g.2.2.1, g.2.2.2.1, g.2.2.2.2.1, ((tpG g).1 + 20, fun i => if i < (tpG g).1 then (tpG g).2.1 i else fdB a b c d e (i - (tpG g).1), (tpG g).2.2)) else g
def A_feed (g : tSG) : Int32 := if (tpG g).1 + 20 ≤ 700 then nI ((tpG g).1 + 20) else -(nI 1)
theorem fd_sh : ∀ k, k < 20 → nI 24 - nI 8 * (nI k - nI k / nI 4 * nI 4) = nI (24 - 8 * (k % 4)) := by decide +kernel
theorem c_feed (G : ab_G) (fr : Bool) (S : ms_S) (tl : ab_H) (g : tSG) (hI : mI S g) (a b c d e : Int32) :
    ctI G 1 M_X12_feed fr [.ref 0, .int a, .int b, .int c, .int d, .int e] lM S tl (fun v S' => qE (N_feed g a b c d e) S' ∧ v = A_feed g) := by
  refine ctI.ab (fun K hK => m_X12_feed (fun n0 => ?_))
  have q0 := qE_0 hI
  obtain ⟨t1, t2, t3, t4, t5⟩ := id hI.2.2.2.2.2.1
  have e1 : S.1 0 1 = nI (tpG g).1 := t2
  have t1 : (tpG g).1 ≤ 700 := t1
  unfold N_feed A_feed at hK
  rw [e1, nI_add, nI_leI (by omega) (by decide)]
  refine ⟨fun hz => ?_, fun hz => hK _ _ (by rw [if_neg hz, if_neg hz]; exact ⟨q0, rfl⟩)⟩
  rw [if_pos hz, if_pos hz] at hK
  have KL : ∀ f k (X : ms_S), k + f = 20 → mLo (sV S 2 (nI 0)) X → m_thrown X = nI 0 → X.1 0 1 = nI (tpG g).1 → m_fault X = m_fault S → m_faultPlace X = m_faultPlace S → (∀ i, i < (tpG g).1 → X.2.2.2.1 1 i = S.2.2.2.1 1 i) → (∀ i, i < k → X.2.2.2.1 1 ((tpG g).1 + i) = nI (fdB a b c d e i)) → L_X12_feed_23 G fr n0 tl K X a b c d e (nI k) := by
    intro f
    induction f with
    | zero =>
      intro k X hd x1 x2 x3 x4 x5 x6 x7
      refine b_X12_feed_23 ?_
      rw [x3, nI_add, nI_leI (by omega) (by omega)]
      refine ⟨fun _ => hK _ _ ⟨⟨mI_Lo (g := g) (x1.tr (mLo.sV rfl)) q0.1 ⟨hz, rfl, fun i hi => ?_, x4.trans t4, x5.trans t5⟩, x2⟩, rfl⟩, fun q => absurd q (by omega)⟩
      dsimp only at hi ⊢
      by_cases z : i < (tpG g).1
      · rw [if_pos z]
        exact ⟨(x6 i z).trans (t3 i z).1, (t3 i z).2⟩
      · rw [if_neg z]
        refine ⟨?_, by_lt _ _⟩
        have h9 := x7 (i - (tpG g).1) (by omega)
        rw [show (tpG g).1 + (i - (tpG g).1) = i by omega] at h9
        exact h9
    | succ f ih =>
      intro k X hd x1 x2 x3 x4 x5 x6 x7
      have nx : ∀ w, wdK a b c d e k = w → ¬ nI 4 = 0 ∧ vp_in (X.1 0 1 + nI k) 700 ∧ L_X12_feed_23 G fr n0 tl K (sA X 1 (X.1 0 1 + nI k).toNatClampNeg ((w >>> ((nI 24 - nI 8 * (nI k - nI k / nI 4 * nI 4)) &&& 31)) &&& nI 255)) a b c d e (nI k + nI 1) := by
        intro w hw
        rw [x3, nI_add, nI_add, fd_sh k (by omega), by_eq, nI_clamp (by omega)]
        refine ⟨by decide, (x_vp (by omega)).mpr (by omega), ih (k + 1) _ (by omega) (x1.tr (mLo.sA (Nat.zero_le _))) x2 x3 x4 x5 (fun i hi => ?_) (fun i hi => ?_)⟩
        · show upd (X.2.2.2.1 1) _ _ i = _
          rw [upd_no (by omega)]
          exact x6 i hi
        · show upd (X.2.2.2.1 1) _ _ ((tpG g).1 + i) = _
          by_cases z : i = k
          · subst z
            rw [upd_at]
            unfold fdB
            rw [hw]
          · rw [upd_no (by omega)]
            exact x7 i (by omega)
      unfold wdK at nx
      refine b_X12_feed_23 ?_
      rw [nI_leI (a := 20) (by omega) (by omega), nI_leI (a := 4) (by omega) (by omega), nI_leI (a := 8) (by omega) (by omega), nI_leI (a := 12) (by omega) (by omega), nI_leI (a := 16) (by omega) (by omega)]
      refine ⟨fun q => absurd q (by omega), fun _ => ⟨fun z1 => ⟨fun z2 => ⟨fun z3 => ⟨fun z4 => nx e ?_, fun z4 => nx d ?_⟩, fun z3 => nx c ?_⟩, fun z2 => nx b ?_⟩, fun z1 => nx a ?_⟩⟩
      · rw [if_neg (by omega), if_neg (by omega), if_neg (by omega), if_neg (by omega)]
      · rw [if_neg (by omega), if_neg (by omega), if_neg (by omega), if_pos (by omega)]
      · rw [if_neg (by omega), if_neg (by omega), if_pos (by omega)]
      · rw [if_neg (by omega), if_pos (by omega)]
      · rw [if_pos (by omega)]
  exact KL 20 0 _ rfl mLo.rf rfl e1 rfl rfl (fun _ _ => rfl) (fun i hi => by omega)
