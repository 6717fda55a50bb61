/-! ===== the reference: likely, deal ===== -/
theorem pk_mod {a b : Nat} (ha : a < 2 ^ 31) (h0 : 0 < b) (hb : b < 2 ^ 31) : nI a - nI a / nI b * nI b = nI (a % b) := by
  have h1 : a / b * b ≤ a := Nat.div_mul_le_self a b
  rw [pk_div ha h0 hb, pk_mul, pk_sub h1]
  refine congrArg nI ?_
  have := Nat.div_add_mod a b
  rw [Nat.mul_comm] at this
  omega
theorem c_common (G : ab_G) (fr : Bool) (S : ms_S) (tl : ab_H) (a b : Nat) (ha : a < 2 ^ 31) (hb : b < 2 ^ 31) :
    ctI G 1 M_X12_common fr [.int (nI a), .int (nI b)] lM S tl (fun v S' => v = nI (Nat.gcd a b) ∧ S' = S) := by
  refine ctI.ab (fun K hK => m_X12_common (fun n0 => ?_))
  have KL : ∀ n x y, y < n → x < 2 ^ 31 → y < 2 ^ 31 → Nat.gcd x y = Nat.gcd a b → L_X12_common_4 G fr n0 tl K S (nI x) (nI y) := by
    intro n
    induction n with
    | zero => intro x y h; exact absurd h (Nat.not_lt_zero _)
    | succ n ih =>
      intro x y hn hx hy hg
      refine b_X12_common_4 ?_
      rw [x_eq0 hy]
      refine ⟨fun q => hK _ _ ⟨?_, rfl⟩, fun q => ⟨fun z => q z, ?_⟩⟩
      · subst q
        rw [← hg, Nat.gcd_zero_right]
      · have hm := Nat.mod_lt x (show 0 < y by omega)
        rw [pk_mod hx (by omega) hy]
        refine ih y (x % y) (by omega) hy (by omega) ?_
        rw [← hg, Nat.gcd_comm y, ← Nat.gcd_rec, Nat.gcd_comm]
  exact KL (b + 1) a b (by omega) ha hb rfl
/-- up, all, of the first k sets -/
def lkN (R : Nat → Bool) (box set n : Nat) : Nat → Nat × Nat
  | 0 => (0, 0)
  | k + 1 => if k &&& box = k ∧ pop k 9 = n then ((lkN R box set n k).1 + (if R (set ||| k) = true then 1 else 0), (lkN R box set n k).2 + 1) else lkN R box set n k
theorem lkN_le (R : Nat → Bool) (box set n : Nat) : ∀ k, (lkN R box set n k).1 ≤ (lkN R box set n k).2 ∧ (lkN R box set n k).2 ≤ k
  | 0 => ⟨Nat.le_refl _, Nat.le_refl _⟩
  | k + 1 => by
    obtain ⟨h1, h2⟩ := lkN_le R box set n k
    unfold lkN
    split
    · dsimp only
      split <;> omega
    · omega
theorem lkN_pos (R : Nat → Bool) (box set n x : Nat) (h1 : x &&& box = x) (h2 : pop x 9 = n) : ∀ k, x < k → 0 < (lkN R box set n k).2
  | 0, h => by omega
  | k + 1, h => by
    unfold lkN
    split
    · exact Nat.succ_pos _
    · rename_i hz
      by_cases z : x = k
      · exact absurd ⟨z ▸ h1, z ▸ h2⟩ hz
      · exact lkN_pos R box set n x h1 h2 k (by omega)
theorem pop_ex (n : Nat) : ∀ d box, box < 512 → pop box 9 = n + d → ∃ x, x < 512 ∧ x &&& box = x ∧ pop x 9 = n
  | 0, box, h1, h2 => ⟨box, h1, Nat.and_self _, h2⟩
  | d + 1, box, h1, h2 => by
    have h0 : ¬ box = 0 := by
      rintro rfl
      have : pop 0 9 = 0 := by decide
      omega
    obtain ⟨p, hp, hb, _⟩ := tb_lo h0 h1
    have h3 := pop_cl box h1 p hp hb
    have h4 : box - 2 ^ p < 512 := Nat.lt_of_le_of_lt (Nat.sub_le _ _) h1
    obtain ⟨x, x1, x2, x3⟩ := pop_ex n d (box - 2 ^ p) h4 (by omega)
    refine ⟨x, x1, sb_tr x2 ?_, x3⟩
    have h5 : ∀ s, s < 512 → ∀ p, p < 9 → s.testBit p = true → (s - 2 ^ p) &&& s = s - 2 ^ p := by decide +kernel
    exact h5 box h1 p hp hb
abbrev bxG (g : tSG) : Nat := shN g (-(nI 2))
theorem q_box (G : ab_G) (fr : Bool) (S : ms_S) (tl : ab_H) (g : tSG) (h : qE g S) (K : Int32 → ms_S → Prop) (k : K (nI (bxG g)) S) : ctI G 1 M_X12_heldBy fr [.ref 0, .int (nI 0), .int (-(nI 2))] lM S tl K := q_held G fr S tl g _ h K k
def A_likely (g : tSG) (h n w : Int32) : Int32 := if hrK g.1.1 h = true ∧ inK n 0 9 = true ∧ inK w 0 1 = true then (if cl n ≤ pop (bxG g) 9 then nI ((if w = 0 then (lkN (rwB g) (bxG g) (shN g h) (cl n) 512).1 else (lkN (rwB g) (bxG g) (shN g h) (cl n) 512).2) / Nat.gcd (lkN (rwB g) (bxG g) (shN g h) (cl n) 512).2 (lkN (rwB g) (bxG g) (shN g h) (cl n) 512).1) else -(nI 2)) else -(nI 1)
theorem c_likely (G : ab_G) (fr : Bool) (S : ms_S) (tl : ab_H) (g : tSG) (hI : mI S g) (h n w : Int32) :
    ctI G 6 M_X12_likely fr [.ref 0, .int h, .int n, .int w] lM S tl (fun v S' => qE g S' ∧ v = A_likely g h n w) := by
  refine ctI.ab (fun K hK => m_X12_likely (fun n0 => ?_))
  have h0 := qE_0 hI
  refine ctI.eq (c_isHeirK G fr _ tl g.1.1 h h0.1.1.1.2.2.2.1) ?_
  unfold A_likely at hK
  simp (disch := omega) only [x_vp, x_lt0, x_0le, x_eq0, x_0lt, x_le0, x_b0, x_b1, nI_leI, nI_ltI, nI_eq, nI_add, pk_mul, nI_clamp, true_and, and_true, true_implies, false_implies, implies_true, not_true_eq_false, not_false_eq_true]
  refine ⟨fun hb => hK _ _ ⟨h0, by rw [if_neg (by rw [hb]; simp)]⟩, fun hb => ctI.eq (c_isInK G fr _ n 0 9) ?_⟩
  simp (disch := omega) only [x_vp, x_lt0, x_0le, x_eq0, x_0lt, x_le0, x_b0, x_b1, nI_leI, nI_ltI, nI_eq, nI_add, pk_mul, nI_clamp, true_and, and_true, true_implies, false_implies, implies_true, not_true_eq_false, not_false_eq_true]
  refine ⟨fun hb2 => hK _ _ ⟨h0, by rw [if_neg (by rw [hb2]; simp)]⟩, fun hb2 => ctI.eq (c_isInK G fr _ w 0 1) ?_⟩
  simp (disch := omega) only [x_vp, x_lt0, x_0le, x_eq0, x_0lt, x_le0, x_b0, x_b1, nI_leI, nI_ltI, nI_eq, nI_add, pk_mul, nI_clamp, true_and, and_true, true_implies, false_implies, implies_true, not_true_eq_false, not_false_eq_true]
  refine ⟨fun hb3 => hK _ _ ⟨h0, by rw [if_neg (by rw [hb3]; simp)]⟩, fun hb3 => ?_⟩
  rw [if_pos ⟨nf_t hb, nf_t hb2, nf_t hb3⟩] at hK
  obtain ⟨jn, _, hjn, rfl⟩ := inK_t (by decide) (by decide) (nf_t hb2)
  rw [cl_nI (by omega)] at hK
  have hset : shN g h < 2 ^ g.1.1.1 := heldN_lt _ _ _
  have hbox : bxG g < 2 ^ g.1.1.1 := heldN_lt _ _ _
  have h512 := p2_9 h0.1.1.1.1
  refine ctU.eq (c_plainTried G fr _ tl) (q_layRows G fr _ tl g h0 _ (fun S1 q1 => q_box G fr S1 tl g q1.1 _ (ctI.eq (c_manyOf G fr _ _ (by omega)) ?_)))
  have hp9 := pop_le (bxG g) 9
  rw [nI_leI (by omega) (by omega)]
  refine ⟨fun q => ?_, fun q => hK _ _ ⟨q1.1, by rw [if_neg q]⟩⟩
  rw [if_pos q] at hK
  refine q_held G fr S1 tl g h q1.1 _ ?_
  generalize hse : shN g h = set at *
  generalize bxG g = box at *
  have KL : ∀ d k, k + d = 512 → L_X12_likely_81 G fr n0 tl K S1 (nI jn) w (nI box) (nI set) (nI (lkN (rwB g) box set jn k).1) (nI (lkN (rwB g) box set jn k).2) (nI k) := by
    intro d
    induction d with
    | zero =>
      intro k hd
      have : k = 512 := by omega
      subst this
      obtain ⟨l1, l2⟩ := lkN_le (rwB g) box set jn 512
      obtain ⟨x, x1, x2, x3⟩ := pop_ex jn (pop box 9 - jn) box (by omega) (by omega)
      have l3 := lkN_pos (rwB g) box set jn x x2 x3 512 x1
      have hg : 0 < Nat.gcd (lkN (rwB g) box set jn 512).2 (lkN (rwB g) box set jn 512).1 := Nat.gcd_pos_of_pos_left _ l3
      have hg2 : Nat.gcd (lkN (rwB g) box set jn 512).2 (lkN (rwB g) box set jn 512).1 ≤ (lkN (rwB g) box set jn 512).2 := Nat.gcd_le_left _ l3
      refine b_X12_likely_81 ⟨fun _ => ctI.e1 (c_common G fr S1 tl _ _ (by omega) (by omega)) ?_, fun q => absurd (Int32.le_refl _) q⟩
      generalize Nat.gcd (lkN (rwB g) box set jn 512).2 (lkN (rwB g) box set jn 512).1 = gg at *
      rw [pk_div (by omega) hg (by omega), pk_div (by omega) hg (by omega)]
      exact ⟨fun z => ⟨nI_ne0 hg (by omega), hK _ _ ⟨q1.1, by rw [if_pos z]⟩⟩, fun z => ⟨nI_ne0 hg (by omega), hK _ _ ⟨q1.1, by rw [if_neg z]⟩⟩⟩
    | succ d ih =>
      intro k hd
      have h9 := ih (k + 1) (by omega)
      unfold lkN at h9
      have hpk := pop_le k 9
      have hdl := dif_le k box
      refine b_X12_likely_81 ?_
      simp only [nI_add, nu_dif]
      rw [x_eq0 (by omega), dif_0 (by omega)]
      refine ⟨fun z => absurd z (nI_ge (by omega) (by omega)), fun _ => ⟨fun hz => ctI.eq (c_manyOf G fr _ _ (by omega)) ?_, fun hz => ?_⟩⟩
      · rw [nI_eq (by omega) (by omega)]
        refine ⟨fun hp => ?_, fun hp => ?_⟩
        · rw [if_pos ⟨hz, hp⟩] at h9
          dsimp only at h9
          rw [nu_or]
          have hkP : k < 2 ^ g.1.1.1 := by
            have := sb_le hz
            omega
          refine q_isRow G fr S1 tl g (set ||| k) q1 (Nat.or_lt_two_pow hset hkP) _ ?_
          cases hr : isRowK g.1.1 (jbC g.1) (set ||| k) 7 with
          | false =>
            rw [if_neg (by show ¬ isRowK g.1.1 (jbC g.1) (set ||| k) 7 = true; rw [hr]; decide)] at h9
            exact ⟨fun _ => h9, fun z => absurd rfl z⟩
          | true =>
            rw [if_pos (show isRowK g.1.1 (jbC g.1) (set ||| k) 7 = true from hr)] at h9
            exact ⟨fun z => absurd z (by decide), fun _ => h9⟩
        · rw [if_neg (fun z => hp z.2)] at h9
          exact h9
      · rw [if_neg (fun z => hz z.1)] at h9
        exact h9
  exact KL 512 0 rfl
/-! deal -/
def dlM (T R : Nat → Nat) (s c : Nat) : Nat → Nat
  | 0 => T s + R 0
  | k + 1 => if (k + 1) &&& c = k + 1 then max (dlM T R s c k) (T (dif s (k + 1)) + R (k + 1)) else dlM T R s c k
theorem dlM_gap (T R : Nat → Nat) (s c a : Nat) : ∀ d, (∀ x, a < x → x ≤ a + d → ¬ x &&& c = x) → dlM T R s c (a + d) = dlM T R s c a
  | 0, _ => rfl
  | d + 1, h => by
    show (if (a + d + 1) &&& c = a + d + 1 then _ else _) = _
    rw [if_neg (h (a + d + 1) (by omega) (by omega))]
    exact dlM_gap T R s c a d (fun x h1 h2 => h x h1 (by omega))
theorem dlM_st {T R : Nat → Nat} {s c sub : Nat} (h1 : sub &&& c = sub) (h0 : 0 < sub) : dlM T R s c sub = max (dlM T R s c ((sub - 1) &&& c)) (T (dif s sub) + R sub) := by
  have hle : (sub - 1) &&& c ≤ sub - 1 := Nat.and_le_left
  have hg := dlM_gap T R s c ((sub - 1) &&& c) (sub - 1 - ((sub - 1) &&& c)) (fun x hx1 hx2 hx3 => by
    have := sb_gap sub sub (Nat.le_refl _) c x h1 h0 hx3 (by omega)
    omega)
  rw [show ((sub - 1) &&& c) + (sub - 1 - ((sub - 1) &&& c)) = sub - 1 by omega] at hg
  rw [← hg]
  obtain ⟨k, rfl⟩ : ∃ k, sub = k + 1 := ⟨sub - 1, by omega⟩
  show (if (k + 1) &&& c = k + 1 then _ else _) = _
  rw [Nat.add_sub_cancel, if_pos h1]
theorem dlM_le {T R : Nat → Nat} {s c B : Nat} (hT : ∀ q, T q ≤ B) (hR : ∀ q, R q ≤ 1) : ∀ k, dlM T R s c k ≤ B + 1
  | 0 => by
    have h1 := hT s
    have h2 := hR 0
    show T s + R 0 ≤ _
    omega
  | k + 1 => by
    have ih := dlM_le (s := s) (c := c) hT hR k
    have h1 := hT (dif s (k + 1))
    have h2 := hR (k + 1)
    unfold dlM
    split
    · omega
    · exact ih
/-- what heir h may have of the box -/
def okN (g : tSG) (h : Nat) : Nat := bitsN (fun p => (bxG g).testBit p && mayK g.1.1 g.1.2.2.2.1 false h p) g.1.1.1
abbrev rqN (g : tSG) (h : Nat) : Nat → Nat := fun sub => if isRowK g.1.1 (jbC g.1) (shN g (nI h) ||| sub) 7 = true then 1 else 0
def dlT (g : tSG) : Nat → Nat → Nat
  | 0, _ => 0
  | h + 1, s => dlM (dlT g h) (rqN g h) s (s &&& okN g h) (s &&& okN g h)
theorem rq_le (g : tSG) (h q : Nat) : rqN g h q ≤ 1 := by
  show (if _ then 1 else 0) ≤ 1
  split <;> decide
theorem dlT_le (g : tSG) : ∀ h s, dlT g h s ≤ h
  | 0, _ => Nat.le_refl _
  | h + 1, s => dlM_le (fun q => dlT_le g h q) (rq_le g h) _
def A_deal (g : tSG) : Int32 := nI (dlT g g.1.1.2.1 (bxG g))
theorem c_deal (G : ab_G) (fr : Bool) (S : ms_S) (tl : ab_H) (g : tSG) (hI : mI S g) :
    ctI G 6 M_X12_deal fr [.ref 0] lM S tl (fun v S' => qE g S' ∧ v = A_deal g) := by
  refine ctI.ab (fun K hK => m_X12_deal (fun n0 => ?_))
  have h0 := qE_0 hI
  have hbox : bxG g < 2 ^ g.1.1.1 := heldN_lt _ _ _
  have h512 := p2_9 h0.1.1.1.1
  have p1 := h0.1.1.1.1
  have p2 := h0.1.1.1.2.1
  unfold A_deal at hK
  refine ctU.eq (c_plainTried G fr _ tl) (q_layRows G fr _ tl g h0 _ (fun S1 q1 => q_box G fr S1 tl g q1.1 _ ?_))
  have KH : ∀ d h (X : ms_S), h + d = g.1.1.2.1 → qR g X → (∀ q, q < 512 → q &&& bxG g = q → X.2.2.2.1 35 q = nI (dlT g h q)) → L_X12_deal_46 G fr n0 tl K X (nI (bxG g)) (nI h) := by
    intro d
    induction d with
    | zero =>
      intro h X hd x1 x2
      have e13 : X.1 0 13 = nI g.1.1.2.1 := x1.1.1.1.1.2.2.2.1
      have e := x2 (bxG g) (by omega) (Nat.and_self _)
      rw [show h = g.1.1.2.1 by omega] at e ⊢
      refine b_X12_deal_46 ?_
      simp (disch := omega) only [x_vp, x_lt0, x_0le, x_eq0, x_0lt, x_le0, x_b0, x_b1, nI_leI, nI_ltI, nI_eq, nI_add, pk_mul, nI_clamp, true_and, and_true, true_implies, false_implies, implies_true, not_true_eq_false, not_false_eq_true, e13, e]
      exact ⟨fun _ => ⟨by omega, hK _ _ ⟨x1.1, rfl⟩⟩, fun q => absurd (Nat.le_refl _) q⟩
    | succ d ihh =>
      intro h X hd x1 x2
      have e13 : X.1 0 13 = nI g.1.1.2.1 := x1.1.1.1.1.2.2.2.1
      have hset : shN g (nI h) < 2 ^ g.1.1.1 := heldN_lt _ _ _
      refine b_X12_deal_46 ?_
      rw [e13]
      refine ⟨fun q => absurd q (nI_ge (by omega) (by omega)), fun _ => q_held G fr X tl g _ x1.1 _ ?_⟩
      have hok : okN g h < 2 ^ g.1.1.1 := bitsN_lt _ _
      -- the sets, from above
      have KS : ∀ f s (X : ms_S), f = s → s ≤ 512 → qR g X → (∀ q, q < s → q &&& bxG g = q → X.2.2.2.1 35 q = nI (dlT g h q)) → (∀ q, s ≤ q → q < 512 → q &&& bxG g = q → X.2.2.2.1 35 q = nI (dlT g (h + 1) q)) → L_X12_deal_120 G fr n0 tl K X (nI (bxG g)) (nI h) (nI (shN g (nI h))) (nI (okN g h)) (nI s - nI 1) := by
        intro f
        induction f with
        | zero =>
          intro s X hs hs2 y1 y2 y3
          subst hs
          refine b_X12_deal_120 ⟨fun _ => ?_, fun q => absurd (by decide) q⟩
          rw [nI_add]
          exact ihh (h + 1) X (by omega) y1 (fun q hq hqb => y3 q (by omega) hq hqb)
        | succ f ihf =>
          intro s X hs hs2 y1 y2 y3
          subst hs
          have es : nI (f + 1) - nI 1 = nI f := pk_sub (by omega)
          have hdl := dif_le f (bxG g)
          have K233 : ∀ X : ms_S, qR g X → (∀ q, q < f → q &&& bxG g = q → X.2.2.2.1 35 q = nI (dlT g h q)) → (∀ q, f ≤ q → q < 512 → q &&& bxG g = q → X.2.2.2.1 35 q = nI (dlT g (h + 1) q)) → L_X12_deal_233 G fr n0 tl K X (nI (bxG g)) (nI h) (nI (shN g (nI h))) (nI (okN g h)) (nI f) := by
            intro X z1 z2 z3
            refine b_X12_deal_233 ?_
            have h9 := ihf f X rfl (by omega) z1 z2 z3
            rw [Int32.sub_eq_add_neg] at h9
            exact h9
          rw [es]
          refine b_X12_deal_120 ?_
          rw [nu_dif, x_eq0 (by omega), dif_0 (by omega), nu_and]
          refine ⟨fun q => absurd q (nI_pos (by omega)), fun _ => ⟨fun hz => ?_, fun hz => ?_⟩⟩
          · have hcb : (f &&& okN g h) &&& f = f &&& okN g h := sb_of (fun i hi => by
              rw [Nat.testBit_and, Bool.and_eq_true] at hi
              exact hi.1)
            have hcl : f &&& okN g h ≤ f := Nat.and_le_left
            have hcP : f &&& okN g h < 2 ^ g.1.1.1 := Nat.lt_of_le_of_lt Nat.and_le_right hok
            have eT : dlT g (h + 1) f = dlM (dlT g h) (rqN g h) f (f &&& okN g h) (f &&& okN g h) := rfl
            generalize f &&& okN g h = can at *
            have y2' : ∀ q, q ≤ f → q &&& bxG g = q → X.2.2.2.1 35 q = nI (dlT g h q) := fun q hq hqb => y2 q (by omega) hqb
            have K151e : ∀ m, m = dlT g (h + 1) f → L_X12_deal_151 G fr n0 tl K X (nI (bxG g)) (nI h) (nI (shN g (nI h))) (nI (okN g h)) (nI f) (nI m) (nI can) (-(nI 1)) := by
              intro m hm
              refine b_X12_deal_151 ⟨fun _ => ⟨(x_vp (by omega)).mpr (by omega), ?_⟩, fun q => absurd (neg_neg (by decide) (by decide)) q⟩
              rw [nI_clamp (by omega), hm]
              have xo : mE fN (aO 35) X (sA X 35 f (nI (dlT g (h + 1) f))) := mE.sA rfl
              refine K233 _ (qR_O rfl rfl rfl y1 xo) (fun q hq hqb => ?_) (fun q hq1 hq2 hqb => ?_)
              · show upd (X.2.2.2.1 35) f _ q = _
                rw [upd_no (by omega)]
                exact y2' q (by omega) hqb
              · show upd (X.2.2.2.1 35) f _ q = _
                by_cases z : q = f
                · subst z
                  exact upd_at
                · rw [upd_no z]
                  exact y3 q (by omega) hq2 hqb
            have KB : ∀ n sub m, sub < n → sub &&& can = sub → m ≤ 6 → max m (dlM (dlT g h) (rqN g h) f can sub) = dlT g (h + 1) f → L_X12_deal_151 G fr n0 tl K X (nI (bxG g)) (nI h) (nI (shN g (nI h))) (nI (okN g h)) (nI f) (nI m) (nI can) (nI sub) := by
              intro n
              induction n with
              | zero => intro sub m hh; omega
              | succ n ihn =>
                intro sub m hn hsb hm hv
                have hsl := sb_le hsb
                have hd2 := dif_le f sub
                have e35 := y2' (dif f sub) hd2 (sb_tr (sb_dif (by omega)) hz)
                have hT := dlT_le g h (dif f sub)
                refine b_X12_deal_151 ?_
                rw [nu_dif, nu_or, nI_clamp (by omega), nI_clamp (by omega), e35]
                refine ⟨fun q => absurd q (nI_pos (by omega)), fun _ => ⟨(x_vp (by omega)).mpr (by omega), q_isRow G fr X tl g _ y1 (Nat.or_lt_two_pow hset (by omega)) _ ?_⟩⟩
                have K201 : ∀ m2, m2 ≤ 6 → m2 = max m (dlT g h (dif f sub) + rqN g h sub) → L_X12_deal_201 G fr n0 tl K X (nI (bxG g)) (nI h) (nI (shN g (nI h))) (nI (okN g h)) (nI f) (nI can) (nI sub) (nI m2) := by
                  intro m2 hm6 hm2
                  refine b_X12_deal_201 ?_
                  rw [x_eq0 (by omega)]
                  refine ⟨fun q => b_X12_deal_219 (K151e m2 ?_), fun q => b_X12_deal_219 ?_⟩
                  · subst q
                    rw [← hv, hm2]
                    show max m (dlT g h (dif f 0) + rqN g h 0) = max m (dlT g h f + rqN g h 0)
                    rw [show dif f 0 = f from Nat.eq_of_testBit_eq (fun i => by rw [dif_tb (by omega), Nat.zero_testBit]; simp)]
                  · rw [pk_sub (by omega), nu_and]
                    have hnx : (sub - 1) &&& can ≤ sub - 1 := Nat.and_le_left
                    refine ihn _ m2 (by omega) (sb_and _ _) hm6 ?_
                    rw [← hv, dlM_st hsb (by omega), hm2]
                    omega
                have K184 : ∀ r, r = rqN g h sub → L_X12_deal_184 G fr n0 tl K X (nI (bxG g)) (nI h) (nI (shN g (nI h))) (nI (okN g h)) (nI f) (nI m) (nI can) (nI sub) (nI r) (nI (dlT g h (dif f sub))) := by
                  intro r hr
                  have hr1 := rq_le g h sub
                  refine b_X12_deal_184 ?_
                  rw [nI_add, nI_leI (by omega) (by omega)]
                  exact ⟨fun q => K201 m hm (by rw [← hr]; omega), fun q => K201 _ (by omega) (by rw [← hr]; omega)⟩
                cases hr : isRowK g.1.1 (jbC g.1) (shN g (nI h) ||| sub) 7 with
                | false => exact ⟨fun _ => K184 0 (by show 0 = if _ then 1 else 0; rw [hr]; rfl), fun q => absurd rfl q⟩
                | true => exact ⟨fun q => absurd q (by decide), fun _ => K184 1 (by show 1 = if _ then 1 else 0; rw [hr]; rfl)⟩
            exact KB (can + 1) can 0 (by omega) (Nat.and_self _) (by decide) (by rw [eT]; omega)
          · refine K233 X y1 (fun q hq hqb => y2 q (by omega) hqb) (fun q hq1 hq2 hqb => ?_)
            by_cases z : q = f
            · rw [z] at hqb
              exact absurd hqb hz
            · exact y3 q (by omega) hq2 hqb
      have KP : ∀ d p (X : ms_S), p + d = g.1.1.1 → qR g X → (∀ q, q < 512 → q &&& bxG g = q → X.2.2.2.1 35 q = nI (dlT g h q)) → L_X12_deal_67 G fr n0 tl K X (nI (bxG g)) (nI h) (nI (shN g (nI h))) (nI (bitsN (fun p => (bxG g).testBit p && mayK g.1.1 g.1.2.2.2.1 false h p) p)) (nI p) := by
        intro d
        induction d with
        | zero =>
          intro p X hd y1 y2
          have e12 : X.1 0 12 = nI g.1.1.1 := y1.1.1.1.1.2.2.1
          rw [show p = g.1.1.1 by omega]
          refine b_X12_deal_67 ?_
          rw [e12]
          exact ⟨fun _ => KS 512 512 X rfl (by omega) y1 (fun q hq hqb => y2 q hq hqb) (fun q h1 h2 => by omega), fun q => absurd (Int32.le_refl _) q⟩
        | succ d ihp =>
          intro p X hd y1 y2
          have e12 : X.1 0 12 = nI g.1.1.1 := y1.1.1.1.1.2.2.1
          have K106 : ∀ (X : ms_S) (v : Nat), qR g X → (∀ q, q < 512 → q &&& bxG g = q → X.2.2.2.1 35 q = nI (dlT g h q)) → bitsN (fun p => (bxG g).testBit p && mayK g.1.1 g.1.2.2.2.1 false h p) p ||| v = bitsN (fun p => (bxG g).testBit p && mayK g.1.1 g.1.2.2.2.1 false h p) (p + 1) → L_X12_deal_106 G fr n0 tl K X (nI (bxG g)) (nI h) (nI (shN g (nI h))) (nI p) (nI v) (nI (bitsN (fun p => (bxG g).testBit p && mayK g.1.1 g.1.2.2.2.1 false h p) p)) := by
            intro X v z1 z2 hv
            refine b_X12_deal_106 ?_
            rw [nu_or, hv, nI_add]
            exact ihp (p + 1) X (by omega) z1 z2
          refine b_X12_deal_67 ?_
          rw [e12]
          refine ⟨fun q => absurd q (nI_ge (by omega) (by omega)), fun _ => ctI.eq (c_isOfN G fr _ (bxG g) p (by omega) (by omega)) ?_⟩
          cases hb : (bxG g).testBit p with
          | false => exact ⟨fun _ => b_X12_deal_105 (K106 X 0 y1 y2 (by rw [bitsN_0 (by rw [hb]; rfl), Nat.or_zero])), fun q => absurd rfl q⟩
          | true =>
            refine ⟨fun q => absurd q (by decide), fun _ => ?_⟩
            have hmy := c_may G fr X tl g.1.1 g.1.2.2.2.1 0 h p y1.1.1.1.1 y1.1.1.1.2.2.2.2.1 (by decide) (by omega) (by omega)
            refine Met_mono hmy ?_
            rintro r h' ⟨X2, rfl, hm1, rfl⟩
            rw [dec_bI (b := false) y1.2.2]
            have hw := mRW_F hm1 rfl rfl rfl y1.1.1.1.2.2.2.2.2.2.2.2.2
            have z1 : qR g X2 := ⟨qE_Z (S := X) y1.1 hm1.LR.Z hw, mRT_F hm1 rfl y1.2.1, (hm1.1 0 61 (Or.inr rfl)).trans y1.2.2⟩
            have z2 : ∀ q, q < 512 → q &&& bxG g = q → X2.2.2.2.1 35 q = nI (dlT g h q) := fun q hq hqb => (congrFun (hm1.2.2.2.1 35 rfl) q).trans (y2 q hq hqb)
            refine ⟨_, X2, rfl, rfl, ?_⟩
            cases hm : mayK g.1.1 g.1.2.2.2.1 false h p with
            | false => exact ⟨fun _ => b_X12_deal_105 (K106 X2 0 z1 z2 (by rw [bitsN_0 (by rw [hb, hm]; rfl), Nat.or_zero])), fun q => absurd rfl q⟩
            | true =>
              rw [nu_1shl (by omega)]
              exact ⟨fun q => absurd q (by decide), fun _ => K106 X2 (2 ^ p) z1 z2 (by rw [bitsN_1 (by rw [hb, hm]; rfl)])⟩
      exact KP g.1.1.1 0 X (by omega) x1 x2
  have KZ : ∀ d i (X : ms_S), i + d = 512 → qR g X → (∀ q, q < i → X.2.2.2.1 35 q = nI 0) → L_X12_deal_24 G fr n0 tl K X (nI (bxG g)) (nI i) := by
    intro d
    induction d with
    | zero =>
      intro i X hd x1 x2
      refine b_X12_deal_24 ?_
      simp (disch := omega) only [x_vp, x_lt0, x_0le, x_eq0, x_0lt, x_le0, x_b0, x_b1, nI_leI, nI_ltI, nI_eq, nI_add, pk_mul, nI_clamp, true_and, and_true, true_implies, false_implies, implies_true, not_true_eq_false, not_false_eq_true]
      exact ⟨fun _ => KH g.1.1.2.1 0 X (by omega) x1 (fun q hq _ => x2 q (by omega)), fun q => absurd q (by omega)⟩
    | succ d ih =>
      intro i X hd x1 x2
      refine b_X12_deal_24 ?_
      simp (disch := omega) only [x_vp, x_lt0, x_0le, x_eq0, x_0lt, x_le0, x_b0, x_b1, nI_leI, nI_ltI, nI_eq, nI_add, pk_mul, nI_clamp, true_and, and_true, true_implies, false_implies, implies_true, not_true_eq_false, not_false_eq_true]
      have xo : mE fN (aO 35) X (sA X 35 i (nI 0)) := mE.sA rfl
      refine ⟨fun q => absurd q (by omega), fun _ => ⟨by omega, ih (i + 1) _ (by omega) (qR_O rfl rfl rfl x1 xo) (fun q hq => ?_)⟩⟩
      show upd (X.2.2.2.1 35) i _ q = _
      by_cases z : q = i
      · subst z
        exact upd_at
      · rw [upd_no z]
        exact x2 q (by omega)
  exact KZ 512 0 S1 rfl q1 (fun q hq => by omega)
