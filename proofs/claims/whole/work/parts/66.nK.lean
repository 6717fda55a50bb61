/-! ===== the reference: parts of sets: the fewest rows, likely, deal ===== -/
def dif (a b : Nat) : Nat := a &&& (b ^^^ 4294967295)
theorem nu_dif (a b : Nat) : nI a &&& (nI b ^^^ -(nI 1)) = nI (dif a b) := by
  rw [show -(nI 1) = nI 4294967295 by decide, nu_xor, nu_and]
  rfl
theorem dif_le (a b : Nat) : dif a b ≤ a := Nat.and_le_left
theorem tb_32 {a i : Nat} (ha : a < 2 ^ 32) (hi : ¬ i < 32) : a.testBit i = false := Nat.testBit_lt_two_pow (Nat.lt_of_lt_of_le ha (Nat.pow_le_pow_right (by decide) (by omega)))
theorem dif_tb {a b i : Nat} (ha : a < 2 ^ 32) : (dif a b).testBit i = (a.testBit i && !b.testBit i) := by
  unfold dif
  rw [Nat.testBit_and, Nat.testBit_xor, show (4294967295 : Nat) = 2 ^ 32 - 1 by decide, Nat.testBit_two_pow_sub_one]
  by_cases hi : i < 32
  · rw [decide_eq_true hi]
    cases a.testBit i <;> cases b.testBit i <;> rfl
  · rw [tb_32 ha hi, Bool.false_and, Bool.false_and]
theorem dif_0 {a b : Nat} (ha : a < 2 ^ 32) : dif a b = 0 ↔ a &&& b = a := by
  constructor
  · intro h
    apply Nat.eq_of_testBit_eq
    intro i
    have h1 := dif_tb (b := b) (i := i) ha
    rw [h, Nat.zero_testBit] at h1
    rw [Nat.testBit_and]
    cases ha2 : a.testBit i with
    | false => rfl
    | true =>
      rw [ha2] at h1
      cases hb : b.testBit i with
      | false => rw [hb] at h1; cases h1
      | true => rfl
  · intro h
    apply Nat.eq_of_testBit_eq
    intro i
    rw [dif_tb ha, Nat.zero_testBit]
    have h1 := congrArg (fun x => x.testBit i) h
    rw [Nat.testBit_and] at h1
    cases ha2 : a.testBit i with
    | false => rfl
    | true =>
      rw [ha2] at h1
      rw [show b.testBit i = true by simpa using h1]
      rfl
theorem sb_tb {a b : Nat} (h : a &&& b = a) {i : Nat} (hi : a.testBit i = true) : b.testBit i = true := by
  have h1 := congrArg (fun x => x.testBit i) h
  rw [Nat.testBit_and, hi] at h1
  simpa using h1
theorem sb_of {a b : Nat} (h : ∀ i, a.testBit i = true → b.testBit i = true) : a &&& b = a := by
  apply Nat.eq_of_testBit_eq
  intro i
  rw [Nat.testBit_and]
  cases ha : a.testBit i with
  | false => rfl
  | true => rw [h i ha]; rfl
theorem sb_le {a b : Nat} (h : a &&& b = a) : a ≤ b := by rw [← h]; exact Nat.and_le_right
theorem sb_tr {a b c : Nat} (h1 : a &&& b = a) (h2 : b &&& c = b) : a &&& c = a := sb_of (fun i hi => sb_tb h2 (sb_tb h1 hi))
theorem sb_dif {a b : Nat} (ha : a < 2 ^ 32) : dif a b &&& a = dif a b := sb_of (fun i hi => by
  rw [dif_tb ha, Bool.and_eq_true] at hi
  exact hi.1)
theorem sb_and (a b : Nat) : (a &&& b) &&& b = a &&& b := sb_of (fun i hi => by
  rw [Nat.testBit_and, Bool.and_eq_true] at hi
  exact hi.2)
theorem dif_lt {a b : Nat} (ha : a < 2 ^ 32) (hb : b &&& a = b) (h0 : ¬ b = 0) : dif a b < a := by
  have h1 := dif_le a b
  have h2 : ¬ dif a b = a := by
    intro h
    obtain ⟨i, hi⟩ := Nat.exists_testBit_of_ne_zero h0
    have h3 := sb_tb hb hi
    rw [← h, dif_tb ha, hi] at h3
    simp at h3
  omega
/-- between a part and the next lesser one there is none -/
theorem sb_gap : ∀ n sub, sub ≤ n → ∀ s x : Nat, sub &&& s = sub → 0 < sub → x &&& s = x → x < sub → x ≤ (sub - 1) &&& s := by
  intro n
  induction n with
  | zero => intro sub h s x _ h0; omega
  | succ n ih =>
    intro sub hn s x h1 h0 h2 h3
    have d1 : sub / 2 &&& s / 2 = sub / 2 := by rw [← Nat.and_div_two, h1]
    have d2 : x / 2 &&& s / 2 = x / 2 := by rw [← Nat.and_div_two, h2]
    have m1 : sub % 2 = 1 → s % 2 = 1 := fun h => by
      rw [← h1] at h
      exact (Nat.and_mod_two_eq_one.mp h).2
    have m2 : x % 2 = 1 → s % 2 = 1 := fun h => by
      rw [← h2] at h
      exact (Nat.and_mod_two_eq_one.mp h).2
    have e1 : ((sub - 1) &&& s) / 2 = (sub - 1) / 2 &&& s / 2 := Nat.and_div_two
    have e2 : ((sub - 1) &&& s) % 2 = 1 ↔ (sub - 1) % 2 = 1 ∧ s % 2 = 1 := Nat.and_mod_two_eq_one
    by_cases hc : sub % 2 = 1
    · rw [show (sub - 1) / 2 = sub / 2 by omega, d1] at e1
      omega
    · by_cases hv : x / 2 = sub / 2
      · omega
      · have h9 := ih (sub / 2) (by omega) (s / 2) (x / 2) d1 (by omega) d2 (by omega)
        rw [show (sub - 1) / 2 = sub / 2 - 1 by omega] at e1
        rw [← e1] at h9
        have e3 : (sub - 1) % 2 = 1 := by omega
        by_cases hx : x % 2 = 1
        · have := e2.mpr ⟨e3, m2 hx⟩
          omega
        · omega
/-! the fewest -/
def fwM (T : Nat → Nat) (R : Nat → Bool) (s : Nat) : Nat → Nat
  | 0 => 99
  | k + 1 => if (k + 1) &&& s = k + 1 ∧ R (k + 1) = true then min (fwM T R s k) (T (dif s (k + 1)) + 1) else fwM T R s k
theorem fwM_le (T : Nat → Nat) (R : Nat → Bool) (s : Nat) : ∀ k, fwM T R s k ≤ 99
  | 0 => Nat.le_refl _
  | k + 1 => by
    have := fwM_le T R s k
    unfold fwM
    split
    · exact Nat.le_trans (Nat.min_le_left _ _) this
    · exact this
theorem fwM_gap (T : Nat → Nat) (R : Nat → Bool) (s a : Nat) : ∀ d, (∀ x, a < x → x ≤ a + d → ¬ x &&& s = x) → fwM T R s (a + d) = fwM T R s a
  | 0, _ => rfl
  | d + 1, h => by
    show (if (a + d + 1) &&& s = a + d + 1 ∧ _ then _ else _) = _
    rw [if_neg (fun z => h (a + d + 1) (by omega) (by omega) z.1)]
    exact fwM_gap T R s a d (fun x h1 h2 => h x h1 (by omega))
theorem fwM_st {T : Nat → Nat} {R : Nat → Bool} {s sub : Nat} (h1 : sub &&& s = sub) (h0 : 0 < sub) : fwM T R s sub = if R sub = true then min (fwM T R s ((sub - 1) &&& s)) (T (dif s sub) + 1) else fwM T R s ((sub - 1) &&& s) := by
  have hle : (sub - 1) &&& s ≤ sub - 1 := Nat.and_le_left
  have hg := fwM_gap T R s ((sub - 1) &&& s) (sub - 1 - ((sub - 1) &&& s)) (fun x hx1 hx2 hx3 => by
    have := sb_gap sub sub (Nat.le_refl _) s x h1 h0 hx3 (by omega)
    omega)
  rw [show ((sub - 1) &&& s) + (sub - 1 - ((sub - 1) &&& s)) = sub - 1 by omega] at hg
  rw [← hg]
  obtain ⟨k, rfl⟩ : ∃ k, sub = k + 1 := ⟨sub - 1, by omega⟩
  show (if (k + 1) &&& s = k + 1 ∧ R (k + 1) = true then _ else _) = _
  rw [Nat.add_sub_cancel]
  by_cases hr : R (k + 1) = true
  · rw [if_pos ⟨h1, hr⟩, if_pos hr]
  · rw [if_neg (fun z => hr z.2), if_neg hr]
theorem fwM_congr {T T' : Nat → Nat} {R : Nat → Bool} {s : Nat} (hs : s < 2 ^ 32) (h : ∀ q, q < s → T q = T' q) : ∀ k, fwM T R s k = fwM T' R s k
  | 0 => rfl
  | k + 1 => by
    unfold fwM
    rw [fwM_congr hs h k]
    by_cases z : (k + 1) &&& s = k + 1 ∧ R (k + 1) = true
    · rw [if_pos z, if_pos z, h _ (dif_lt hs z.1 (by omega))]
    · rw [if_neg z, if_neg z]
def fwF (R : Nat → Bool) : Nat → Nat → Nat
  | 0, _ => 0
  | n + 1, s => if s = 0 then 0 else fwM (fwF R n) R s s
theorem fwF_st (R : Nat → Bool) : ∀ n m s, s < 2 ^ 32 → s < n → s < m → fwF R n s = fwF R m s
  | 0, _, _, _, h, _ => by omega
  | _, 0, _, _, _, h => by omega
  | n + 1, m + 1, s, hs, h1, h2 => by
    unfold fwF
    rw [fwM_congr hs (fun q hq => fwF_st R n m q (by omega) (by omega) (by omega))]
def fwT (R : Nat → Bool) (s : Nat) : Nat := fwF R (s + 1) s
theorem fwT_0 (R : Nat → Bool) : fwT R 0 = 0 := rfl
theorem fwT_eq (R : Nat → Bool) {s : Nat} (h0 : ¬ s = 0) (hs : s < 2 ^ 32) : fwT R s = fwM (fwT R) R s s := by
  show (if s = 0 then 0 else _) = _
  rw [if_neg h0]
  exact fwM_congr hs (fun q hq => fwF_st R s (q + 1) q (by omega) hq (by omega)) _
theorem fwT_le (R : Nat → Bool) (s : Nat) (hs : s < 2 ^ 32) : fwT R s ≤ 99 := by
  by_cases h0 : s = 0
  · rw [h0, fwT_0]
    decide
  · rw [fwT_eq R h0 hs]
    exact fwM_le _ _ _ _
abbrev rwB (g : tSG) : Nat → Bool := fun s => isRowK g.1.1 (jbC g.1) s 7
def A_fewest (g : tSG) (h : Int32) : Int32 := if hrK g.1.1 h = true then nI (fwT (rwB g) (shN g h)) else -(nI 1)
theorem qR_O {a : Nat} {g : tSG} {S S' : ms_S} (ha : aZ a = true) (h32 : aO a 32 = false) (h33 : aO a 33 = false) (h : qR g S) (x : mE fN (aO a) S S') : qR g S' := ⟨qE_Z (S := S) h.1 (oZ ha x) (mRW_F x rfl h32 h33 h.1.1.1.2.2.2.2.2.2.2.2.2), mRT_F x h32 h.2.1, (x.1 0 61 (Or.inr rfl)).trans h.2.2⟩
theorem c_fewest (G : ab_G) (fr : Bool) (S : ms_S) (tl : ab_H) (g : tSG) (hI : mI S g) (h : Int32) :
    ctI G 6 M_X12_fewest fr [.ref 0, .int h] lM S tl (fun v S' => qE g S' ∧ v = A_fewest g h) := by
  refine ctI.ab (fun K hK => m_X12_fewest (fun n0 => ?_))
  have h0 := qE_0 hI
  refine ctI.eq (c_isHeirK G fr _ tl g.1.1 h h0.1.1.1.2.2.2.1) ?_
  unfold A_fewest at hK
  simp (disch := omega) only [x_vp, x_lt0, x_0le, x_eq0, x_0lt, x_le0, x_b0, x_b1, nI_leI, nI_ltI, nI_eq, nI_add, pk_mul, nI_clamp, true_and, and_true, true_implies, false_implies, implies_true, not_true_eq_false, not_false_eq_true]
  refine ⟨fun hb => hK _ _ ⟨h0, by rw [hb]; rfl⟩, fun hb => ?_⟩
  rw [if_pos (nf_t hb)] at hK
  have hset : shN g h < 2 ^ g.1.1.1 := heldN_lt _ _ _
  have h512 := p2_9 h0.1.1.1.1
  refine ctU.eq (c_plainTried G fr _ tl) (q_layRows G fr _ tl g h0 _ (fun S1 q1 => q_held G fr S1 tl g h q1.1 _ ?_))
  generalize shN g h = set at *
  have KA : ∀ d s (X : ms_S), s + d = 512 → 0 < s → qR g X → (∀ q, q < s → q &&& set = q → X.2.2.2.1 35 q = nI (fwT (rwB g) q)) → L_X12_fewest_40 G fr n0 tl K X (nI set) (nI s) := by
    intro d
    induction d with
    | zero =>
      intro s X hd hs x1 x2
      have e := x2 set (by omega) (Nat.and_self set)
      refine b_X12_fewest_40 ?_
      simp (disch := omega) only [x_vp, x_lt0, x_0le, x_eq0, x_0lt, x_le0, x_b0, x_b1, nI_leI, nI_ltI, nI_eq, nI_add, pk_mul, nI_clamp, true_and, and_true, true_implies, false_implies, implies_true, not_true_eq_false, not_false_eq_true, e]
      exact ⟨fun _ => ⟨by omega, hK _ _ ⟨x1.1, rfl⟩⟩, fun q => absurd q (by omega)⟩
    | succ d ih =>
      intro s X hd hs x1 x2
      refine b_X12_fewest_40 ?_
      rw [nu_dif]
      have hdl := dif_le s set
      simp (disch := omega) only [x_vp, x_lt0, x_0le, x_eq0, x_0lt, x_le0, x_b0, x_b1, nI_leI, nI_ltI, nI_eq, nI_add, pk_mul, nI_clamp, true_and, and_true, true_implies, false_implies, implies_true, not_true_eq_false, not_false_eq_true]
      refine ⟨fun q => absurd q (by omega), fun _ => ⟨fun hz => ⟨by omega, ?_⟩, fun hz => ?_⟩⟩
      · rw [dif_0 (by omega)] at hz
        have KB : ∀ n sub c (X : ms_S), sub < n → sub &&& s = sub → c ≤ 99 → qR g X → (∀ q, q < s → q &&& set = q → X.2.2.2.1 35 q = nI (fwT (rwB g) q)) → X.2.2.2.1 35 s = nI c → min c (fwM (fwT (rwB g)) (rwB g) s sub) = fwT (rwB g) s → L_X12_fewest_69 G fr n0 tl K X (nI set) (nI s) (nI sub) := by
          intro n
          induction n with
          | zero => intro sub c X h; omega
          | succ n ihn =>
            intro sub c X hn hsb hc y1 y2 y3 y4
            have hsl := sb_le hsb
            refine b_X12_fewest_69 ?_
            rw [x_le0 (by omega)]
            refine ⟨fun q => ?_, fun q => ?_⟩
            · subst q
              rw [show fwM (fwT (rwB g)) (rwB g) s 0 = 99 from rfl] at y4
              rw [nI_add]
              refine ih (s + 1) X (by omega) (by omega) y1 (fun r hr hrs => ?_)
              by_cases z : r = s
              · rw [z, y3, ← y4]
                exact congrArg nI (by omega)
              · exact y2 r (by omega) hrs
            · have hpos : 0 < sub := by omega
              rw [fwM_st hsb hpos] at y4
              have hnx : (sub - 1) &&& s ≤ sub - 1 := Nat.and_le_left
              have hnb : ((sub - 1) &&& s) &&& s = (sub - 1) &&& s := sb_and _ _
              have en : (nI sub - nI 1) &&& nI s = nI ((sub - 1) &&& s) := by rw [pk_sub (by omega), nu_and]
              have hdd := dif_lt (show s < 2 ^ 32 by omega) hsb q
              have e35 := y2 (dif s sub) hdd (sb_tr (sb_dif (by omega)) hz)
              have hT := fwT_le (rwB g) (dif s sub) (by omega)
              have hsP : sub < 2 ^ g.1.1.1 := by
                have := sb_le hz
                omega
              rw [en, nu_dif]
              refine q_isRow G fr X tl g sub y1 hsP _ ?_
              cases hr : isRowK g.1.1 (jbC g.1) sub 7 with
              | false =>
                rw [if_neg (by show ¬ isRowK g.1.1 (jbC g.1) sub 7 = true; rw [hr]; decide)] at y4
                exact ⟨fun _ => ihn _ c X (by omega) hnb hc y1 y2 y3 y4, fun z => absurd rfl z⟩
              | true =>
                rw [if_pos (show isRowK g.1.1 (jbC g.1) sub 7 = true from hr)] at y4
                rw [nI_clamp (by omega), nI_clamp (by omega), e35, y3, nI_add, nI_leI (by omega) (by omega)]
                have hv1 : vp_in (nI (dif s sub)) 512 := (x_vp (by omega)).mpr (by omega)
                have hv2 : vp_in (nI s) 512 := (x_vp (by omega)).mpr (by omega)
                refine ⟨fun z => absurd z (by decide), fun _ => ⟨hv1, hv2, fun z => ?_, fun z => ⟨hv1, hv2, ?_⟩⟩⟩
                · exact ihn _ c X (by omega) hnb hc y1 y2 y3 (by rw [← y4]; omega)
                · have xo : mE fN (aO 35) X (sA X 35 s (nI (fwT (rwB g) (dif s sub) + 1))) := mE.sA rfl
                  refine ihn _ (fwT (rwB g) (dif s sub) + 1) _ (by omega) hnb (by omega) (qR_O rfl rfl rfl y1 xo) (fun r hr hrs => ?_) upd_at (by rw [← y4]; omega)
                  show upd (X.2.2.2.1 35) s _ r = _
                  rw [upd_no (by omega)]
                  exact y2 r hr hrs
        have xo : mE fN (aO 35) X (sA X 35 s (nI 99)) := mE.sA rfl
        refine KB (s + 1) s 99 _ (by omega) (Nat.and_self s) (Nat.le_refl _) (qR_O rfl rfl rfl x1 xo) (fun r hr hrs => ?_) upd_at ?_
        · show upd (X.2.2.2.1 35) s _ r = _
          rw [upd_no (by omega)]
          exact x2 r hr hrs
        · rw [fwT_eq (rwB g) (s := s) (by omega) (by omega)]
          have := fwM_le (fwT (rwB g)) (rwB g) s s
          omega
      · refine ih (s + 1) X (by omega) (by omega) x1 (fun r hr hrs => ?_)
        by_cases z : r = s
        · rw [z] at hrs
          exact absurd ((dif_0 (by omega)).mpr hrs) hz
        · exact x2 r (by omega) hrs
  have xo : mE fN (aO 35) S1 (sA S1 35 0 (nI 0)) := mE.sA rfl
  refine ⟨by decide, KA 511 1 _ rfl (by decide) (qR_O rfl rfl rfl q1 xo) (fun q hq _ => ?_)⟩
  have : q = 0 := by omega
  subst this
  show upd (S1.2.2.2.1 35) 0 (nI 0) 0 = _
  rw [upd_at]
  rfl
