/-! ===== the program: a game to its end ===== -/
theorem nib_o {w b e e' : Nat} (hb : b < 16) : (w ||| b * 2 ^ (e * 4)) / 2 ^ (e' * 4) % 16 = (w / 2 ^ (e' * 4) % 16) ||| (if e' = e then b else 0) := by
  apply Nat.eq_of_testBit_eq
  intro i
  have h16 : ∀ x : Nat, (x % 16).testBit i = (decide (i < 4) && x.testBit i) := fun x => Nat.testBit_mod_two_pow x 4 i
  rw [h16, Nat.testBit_or, h16, Nat.testBit_div_two_pow, Nat.testBit_div_two_pow, Nat.testBit_or, Nat.testBit_mul_two_pow]
  by_cases hi : i < 4
  · rw [decide_eq_true hi, Bool.true_and, Bool.true_and]
    congr 1
    by_cases e1 : e' = e
    · rw [if_pos e1, e1, decide_eq_true (show e * 4 ≤ i + e * 4 by omega), Bool.true_and, show i + e * 4 - e * 4 = i by omega]
    · rw [if_neg e1, Nat.zero_testBit]
      by_cases h2 : e * 4 ≤ i + e' * 4
      · rw [decide_eq_true h2, Bool.true_and]
        have : 2 ^ 4 ≤ 2 ^ (i + e' * 4 - e * 4) := Nat.pow_le_pow_right (by decide) (by omega)
        exact Nat.testBit_lt_two_pow (by omega)
      · rw [decide_eq_false h2, Bool.false_and]
  · rw [decide_eq_false hi, Bool.false_and, Bool.false_and, Bool.false_or]
    symm
    have : 2 ^ 4 ≤ 2 ^ i := Nat.pow_le_pow_right (by decide) (by omega)
    split
    · exact Nat.testBit_lt_two_pow (by omega)
    · exact Nat.zero_testBit _
theorem shl_tab : ∀ b, b < 16 → ∀ e, e < 7 → nI b <<< (nI (e * 4) &&& 31) = nI (b * 2 ^ (e * 4)) := by decide +kernel
theorem nib_i {w e : Nat} (hw : w < 2 ^ 28) (he : e < 7) : ((((nI w).toUInt32 >>> ((nI (e * 4)).toUInt32 &&& Int32.toUInt32 31)).toInt32) &&& (nI 15)) = nI (w / 2 ^ (e * 4) % 16) := by
  rw [nu_ushr (by omega) (by omega), pk_andN (n := w / 2 ^ (e * 4)) (Nat.lt_of_le_of_lt (Nat.div_le_self _ _) (by omega)) (m := nI 15) 4 (by decide)]
section CORE21
variable {G : ab_G} {tl : ab_H} {P : tPL} {o : Nat → Option tDQ} {v : Nat} {jb : Nat → Nat} {one two : Nat}
abbrev fbP (one two laid p : Nat) : Bool := (tuN one two laid).testBit p && !laid.testBit p
def bbM (P : tPL) (jb : Nat → Nat) (one two laid f e m : Nat) : Nat := if fbP one two laid (m / 4) = true then wyR P jb (gvT P jb one two) laid f e (m / 4) (opN (ebN P jb (gvT P jb one two) (tuN one two laid) laid f e (m / 4))) (m % 4) else opN (ebN P jb (gvT P jb one two) (tuN one two laid) laid f e (m / 4))
theorem eb_11 (p1 : P.1 ≤ 9) {laid f e : Nat} (hl : laid < 512) (p : Nat) (hp : p ≤ 9) : opN (ebN P jb (gvT P jb one two) (tuN one two laid) laid f e p) < 11 := by
  have := ebN_le (P := P) (jb := jb) (T := gvT P jb one two) (mine := tuN one two laid) (set := laid) (f := f) (e := e) hl (fun q _ hq x y => gvT_le P jb one two p1 512 q hq (by omega) x y) p hp
  generalize ebN P jb (gvT P jb one two) (tuN one two laid) laid f e p = b at this
  cases b with
  | none => decide
  | some b =>
    have : b ≤ 9 - pop laid 9 := this
    show b < 11
    omega
theorem wyR_lt (p1 : P.1 ≤ 9) {laid f e p b : Nat} (hl : laid < 512) (hp : p < 9) (hb : laid.testBit p = false) (hB : b < 11) : ∀ r, wyR P jb (gvT P jb one two) laid f e p b r < 11
  | 0 => hB
  | r + 1 => apG_lt (wyR_lt p1 hl hp hb hB r) (fun _ => by
      have h9 := fun x y => gv9 P jb one two (laid ||| 2 ^ p) x y p1 (or_up laid hl p hp hb).2.2
      unfold wyK
      have a1 := h9 f (P.2.2.2.1 p)
      have a2 := h9 f (P.2.2.1 p)
      have a3 := h9 (P.2.2.1 p) e
      have a4 := h9 (P.2.2.2.1 p) e
      split
      · omega
      · split
        · omega
        · split <;> omega)
theorem fb_nb {laid p : Nat} (h : fbP one two laid p = true) : (tuN one two laid).testBit p = true ∧ laid.testBit p = false := by
  unfold fbP at h
  rw [Bool.and_eq_true] at h
  exact ⟨h.1, by simpa using h.2⟩
theorem bbM_lt (p1 : P.1 ≤ 9) {laid f e m : Nat} (hl : laid < 512) (hm : m ≤ 36) : bbM P jb one two laid f e m < 11 := by
  unfold bbM
  have h1 := eb_11 (jb := jb) (one := one) (two := two) (f := f) (e := e) p1 hl (m / 4) (by omega)
  split
  · rename_i h
    have hb := (fb_nb h).2
    by_cases h9 : m / 4 < 9
    · exact wyR_lt p1 hl h9 hb h1 _
    · rw [show m % 4 = 0 by omega]
      exact h1
  · exact h1
theorem bbM_s (p1 : P.1 ≤ 9) {laid f e m : Nat} (hl : laid < 512) (hm : m < 4 * P.1) : bbM P jb one two laid f e (m + 1) = if fbP one two laid (m / 4) = true then apG (wyC P jb f e (m / 4) (m % 4)) (wyK P (gvT P jb one two) laid f e (m / 4) (m % 4)) (bbM P jb one two laid f e m) else bbM P jb one two laid f e m := by
  have h9 : m / 4 < 9 := by omega
  by_cases hr : m % 4 = 3
  · have e1 : (m + 1) / 4 = m / 4 + 1 := by omega
    have e2 : (m + 1) % 4 = 0 := by omega
    have lhs : bbM P jb one two laid f e (m + 1) = opN (ebN P jb (gvT P jb one two) (tuN one two laid) laid f e (m / 4 + 1)) := by
      unfold bbM
      rw [e1, e2]
      split <;> rfl
    rw [lhs]
    unfold bbM
    rw [hr]
    show opN (if (tuN one two laid).testBit (m / 4) = true ∧ laid.testBit (m / 4) = false then _ else _) = _
    by_cases h : fbP one two laid (m / 4) = true
    · obtain ⟨b1, b2⟩ := fb_nb h
      rw [if_pos ⟨b1, b2⟩, if_pos h, if_pos h, ← wyR_4 (eb_11 p1 hl _ (by omega)) (fun x y => by have := gv9 P jb one two (laid ||| 2 ^ (m / 4)) x y p1 (or_up laid hl _ h9 b2).2.2; omega)]
      rfl
    · rw [if_neg h, if_neg h, if_neg (fun q => h (by unfold fbP; rw [q.1, q.2]; rfl))]
  · have e1 : (m + 1) / 4 = m / 4 := by omega
    have e2 : (m + 1) % 4 = m % 4 + 1 := by omega
    unfold bbM
    rw [e1, e2]
    by_cases h : fbP one two laid (m / 4) = true
    · rw [if_pos h, if_pos h, if_pos h]
      rfl
    · rw [if_neg h, if_neg h, if_neg h]
theorem bbM_e (p1 : P.1 ≤ 9) {laid f e : Nat} (hl : laid < 512) : bbM P jb one two laid f e (4 * P.1) = gvT P jb one two laid f e := by
  rw [gvT_eq P jb one two laid f e p1 hl]
  unfold bbM
  rw [show 4 * P.1 / 4 = P.1 by omega, show 4 * P.1 % 4 = 0 by omega]
  split <;> rfl
theorem u_tot : ∀ D laid f e (X : ms_S), laid < 512 → ¬ laid = 0 → 9 - pop laid 9 ≤ D → f < 7 → e < 7 → gmC X P o v jb one two → mGM X P jb one two → ∀ K : Int32 → ms_S → Prop, (∀ X', cF aGm X X' → mGM X' P jb one two → K (nI (pop laid 9 + gvT P jb one two laid f e)) X') → ctI G (D + 2) M_X2_totalFrom false [.ref 37, .int (nI laid), .int (nI f), .int (nI e), .int (nI (pop laid 9))] lC X tl K := by
  intro D
  induction D with
  | zero =>
    intro laid f e X hl h0 hD hf he hC hM K k
    have p1 := hC.1.1
    have hp9 := pop_le laid 9
    have hg := gvT_le P jb one two p1 512 laid hl (by omega) f e
    refine m_X2_totalFrom (fun n0 => ?_)
    rw [nI_ltI (by omega) (by decide)]
    refine ⟨fun z => absurd z (by omega), fun _ => ?_⟩
    have k := k X cF.rf hM
    rw [show gvT P jb one two laid f e = 0 by omega] at k
    exact k
  | succ D ih =>
    intro laid f e X hl h0 hD hf he hC hM K k
    have p1 := hC.1.1
    have hp9 := pop_le laid 9
    have hp0 := pop_pos (show laid < 2 ^ 9 from hl) h0
    have hg := gvT_le P jb one two p1 512 laid hl (by omega) f e
    refine m_X2_totalFrom (fun n0 => ?_)
    rw [nI_ltI (by omega) (by decide)]
    refine ⟨fun hlt => ?_, fun z => ?_⟩
    · obtain ⟨w, w1, w2, w3⟩ := hM laid hl f hf
      have hpl : nI laid * nI 7 + nI f = nI (laid * 7 + f) := by rw [pk_mul, nI_add]
      have hcp : (nI (laid * 7 + f)).toNatClampNeg = laid * 7 + f := nI_clamp (by omega)
      have hvp : vp_in (nI (laid * 7 + f)) 3584 := (x_vp (by omega)).mpr (by omega)
      have hm16 := Nat.mod_lt (w / 2 ^ (e * 4)) (show 0 < 16 by decide)
      rw [hpl, hcp, w2, show nI e * nI 4 = nI (e * 4) from pk_mul _ _, nib_i w1 he, x_eq0 (by omega), pk_mod (by omega) (by decide) (by decide), show (nI (pop laid 9 % 2)).toNatClampNeg = pop laid 9 % 2 from nI_clamp (by omega), show X.2.2.2.1 38 (pop laid 9 % 2) = nI (tuN one two laid) from by
        have := Nat.mod_two_eq_zero_or_one (pop laid 9)
        rcases this with z | z
        · rw [z, show tuN one two laid = one from if_pos z]
          exact hC.2.2.1
        · rw [z, show tuN one two laid = two from if_neg (by omega)]
          exact hC.2.2.2.1, nu_dif]
      refine ⟨hvp, fun _ => ⟨by decide, (x_vp (by omega)).mpr (by omega), ?_⟩, fun z => ?_⟩
      · have hfr5 : dif (tuN one two laid) laid < 2 ^ 32 := Nat.lt_of_le_of_lt (dif_le _ _) (by have := hC.2.2.2.2; unfold tuN; split <;> omega)
        have ht5 : tuN one two laid < 2 ^ 32 := by have := hC.2.2.2.2; unfold tuN; split <;> omega
        suffices KL : ∀ t m (Y : ms_S), m + t = 4 * P.1 → cF aGm X Y → mGM Y P jb one two → L_X2_totalFrom_64 (D + 1) G false n0 tl K Y (nI laid) (nI f) (nI e) (nI (pop laid 9)) (nI (laid * 7 + f)) (nI (pop laid 9 + bbM P jb one two laid f e m)) (nI (dif (tuN one two laid) laid)) (nI m) by
          have := KL (4 * P.1) 0 X (Nat.zero_add _) cF.rf hM
          rw [show bbM P jb one two laid f e 0 = 0 from by unfold bbM; split <;> rfl, Nat.add_zero] at this
          exact this
        intro t
        induction t with
        | zero =>
          intro m Y hm y1 y2
          have hm : m = 4 * P.1 := hm
          subst hm
          have hCY := gmC_F y1 hC
          obtain ⟨u, u1, u2, u3⟩ := y2 laid hl f hf
          have hb16 : pop laid 9 + gvT P jb one two laid f e < 16 := by omega
          refine b_X2_totalFrom_64 ?_
          rw [hCY.1.2.2.1, show nI P.1 * nI 4 = nI (P.1 * 4) from pk_mul _ _, nI_leI (by omega) (by omega), hcp, u2, show nI e * nI 4 = nI (e * 4) from pk_mul _ _, bbM_e p1 hl, shl_tab _ hb16 e he, nu_or]
          refine ⟨fun _ => ⟨hvp, hvp, k _ (y1.tr (cF.sA rfl)) (fun set hs f' hf' => ?_)⟩, fun z => absurd (show P.1 * 4 ≤ 4 * P.1 by omega) z⟩
          show ∃ w, w < 2 ^ 28 ∧ upd (Y.2.2.2.1 39) (laid * 7 + f) _ (set * 7 + f') = nI w ∧ _
          by_cases q : set = laid ∧ f' = f
          · obtain ⟨q1, q2⟩ := q
            subst q1 q2
            refine ⟨_, ?_, pk_us, fun e' he' => ?_⟩
            · refine Nat.or_lt_two_pow u1 ?_
              have h1 : 2 ^ (e * 4) ≤ 2 ^ 24 := Nat.pow_le_pow_right (by decide) (by omega)
              have h2 : (pop set 9 + gvT P jb one two set f' e) * 2 ^ (e * 4) ≤ 15 * 2 ^ 24 := Nat.mul_le_mul (by omega) h1
              exact Nat.lt_of_le_of_lt h2 (by decide)
            · rw [nib_o hb16]
              by_cases q3 : e' = e
              · rw [if_pos q3, q3]
                rcases u3 e he with z | z
                · rw [z, Nat.zero_or]
                  exact Or.inr rfl
                · rw [z, Nat.or_self]
                  exact Or.inr rfl
              · rw [if_neg q3, Nat.or_zero]
                exact u3 e' he'
          · rw [pk_un (fun z => q (by omega))]
            exact y2 set hs f' hf'
        | succ t iht =>
          intro m Y hm y1 y2
          have hCY := gmC_F y1 hC
          have hst := bbM_s (jb := jb) (one := one) (two := two) (f := f) (e := e) p1 hl (show m < 4 * P.1 by omega)
          have hfrb : ((((nI (dif (tuN one two laid) laid)).toUInt32 >>> ((nI (m / 4)).toUInt32 &&& Int32.toUInt32 31)).toInt32) &&& (nI 1)) = (nI 1) ↔ fbP one two laid (m / 4) = true := by
            rw [tb_u (by omega) hfr5, dif_tb ht5]
          have := u_move1 (G := G) (tl := tl) (D := D + 1) (n0 := n0) (K := K) (X := Y) (laid := laid) (f := f) (e := e) (B := bbM P jb one two laid f e m) (p := m / 4) (r := m % 4) (pl := nI (laid * 7 + f)) (fr := nI (dif (tuN one two laid) laid)) hCY y2 hl hf he (by omega) (Nat.mod_lt _ (by decide)) hlt (bbM_lt p1 hl (by omega)) (fbP one two laid (m / 4)) hfrb (fun z => (fb_nb z).2) (fun z x y Z hx hy zC zM K' k' => by
              obtain ⟨a1, a2, a3⟩ := or_up laid hl (m / 4) (by omega) (fb_nb z).2
              have hi := ih (laid ||| 2 ^ (m / 4)) x y Z a3 (by omega) (by omega) hx hy zC zM K' (fun Z' c1 c2 => by
                have := k' Z' c1 c2
                rw [a1, Nat.add_assoc, Nat.add_comm 1]
                exact this)
              rw [a1] at hi
              exact hi) (fun Z z1 z2 => b_X2_totalFrom_278 (by
              rw [show 4 * (m / 4) + m % 4 = m by omega, ← hst, nI_add]
              exact iht (m + 1) Z (by omega) (y1.tr z1) z2))
          rw [show 4 * (m / 4) + m % 4 = m by omega] at this
          exact this
      · have k := k X cF.rf hM
        rw [← (w3 e he).resolve_left z] at k
        exact k
    · have k := k X cF.rf hM
      rw [show gvT P jb one two laid f e = 0 by omega] at k
      exact k
end CORE21

