/-! ===== the reference: the game ===== -/
/-- n more are laid: if that is odd, the one whose turn it is wins -/
def enc (n : Nat) : Int32 := if n % 2 = 1 then nI (n + 1) else -(nI (n + 1))
def enO : Option Nat → Int32
  | none => nI 0
  | some n => enc n
def gB : Option Nat → Nat → Nat
  | none, k => k
  | some b, k => if (if k % 2 = 1 then b % 2 = 0 ∨ k < b else b % 2 = 0 ∧ b < k) then k else b
def btI (x y : Int32) : Int32 := if 0 ≤ y then (if x = 0 then -y - nI 1 else if -y - nI 1 ≤ 0 then (if 0 ≤ x then x else if x ≤ -y - nI 1 then x else -y - nI 1) else (if x < 0 then -y - nI 1 else if x ≤ -y - nI 1 then x else -y - nI 1)) else (if x = 0 then -y + nI 1 else if -y + nI 1 ≤ 0 then (if 0 ≤ x then x else if x ≤ -y + nI 1 then x else -y + nI 1) else (if x < 0 then -y + nI 1 else if x ≤ -y + nI 1 then x else -y + nI 1))
theorem bt_0 : ∀ m, m < 11 → btI (nI 0) (enc m) = enc (m + 1) := by decide +kernel
theorem bt_s : ∀ b, b < 11 → ∀ m, m < 11 → btI (enc b) (enc m) = enc (gB (some b) (m + 1)) := by decide +kernel
def gbL : Option Nat → Prop
  | none => True
  | some b => b < 11
theorem bt_eq {b : Option Nat} {m : Nat} (hb : gbL b) (hm : m < 11) : btI (enO b) (enc m) = enc (gB b (m + 1)) := by
  cases b with
  | none => exact bt_0 m hm
  | some b => exact bt_s b hb m hm
theorem c_better (G : ab_G) (fr : Bool) (S : ms_S) (tl : ab_H) (b : Option Nat) (m : Nat) (hb : gbL b) (hm : m < 11) (K : Int32 → ms_S → Prop) (k : K (enc (gB b (m + 1))) S) :
    ctI G 1 M_X12_better fr [.int (enO b), .int (enc m)] lM S tl K := by
  rw [← bt_eq hb hm] at k
  generalize enO b = x at *
  generalize enc m = y at *
  refine m_X12_better (fun n0 => ?_)
  unfold btI at k
  refine ⟨fun h1 => ?_, fun h1 => ?_⟩
  · rw [if_pos h1] at k
    refine ⟨fun h2 => by rw [if_pos h2] at k; exact k, fun h2 => ?_⟩
    rw [if_neg h2] at k
    refine ⟨fun h3 => ?_, fun h3 => ?_⟩
    · rw [if_pos h3] at k
      refine ⟨fun h4 => by rw [if_pos h4] at k; exact k, fun h4 => ?_⟩
      rw [if_neg h4] at k
      exact ⟨fun h5 => by rw [if_pos h5] at k; exact k, fun h5 => by rw [if_neg h5] at k; exact k⟩
    · rw [if_neg h3] at k
      refine ⟨fun h4 => by rw [if_pos h4] at k; exact k, fun h4 => ?_⟩
      rw [if_neg h4] at k
      exact ⟨fun h5 => by rw [if_pos h5] at k; exact k, fun h5 => by rw [if_neg h5] at k; exact k⟩
  · rw [if_neg h1] at k
    refine ⟨fun h2 => by rw [if_pos h2] at k; exact k, fun h2 => ?_⟩
    rw [if_neg h2] at k
    refine ⟨fun h3 => ?_, fun h3 => ?_⟩
    · rw [if_pos h3] at k
      refine ⟨fun h4 => by rw [if_pos h4] at k; exact k, fun h4 => ?_⟩
      rw [if_neg h4] at k
      exact ⟨fun h5 => by rw [if_pos h5] at k; exact k, fun h5 => by rw [if_neg h5] at k; exact k⟩
    · rw [if_neg h3] at k
      refine ⟨fun h4 => by rw [if_pos h4] at k; exact k, fun h4 => ?_⟩
      rw [if_neg h4] at k
      exact ⟨fun h5 => by rw [if_pos h5] at k; exact k, fun h5 => by rw [if_neg h5] at k; exact k⟩
theorem c_stateOf (G : ab_G) (fr : Bool) (S : ms_S) (tl : ab_H) (s f e : Nat) (K : Int32 → ms_S → Prop) (k : K (nI (49 * s + 7 * f + e)) S) :
    ctI G 1 M_X12_stateOf fr [.int (nI s), .int (nI f), .int (nI e)] lM S tl K := by
  refine m_X12_stateOf (fun n0 => ?_)
  rw [pk_mul, pk_mul, nI_add, nI_add]
  exact k
/-- a piece laid with end a to the row, z being its other: the best so far -/
def eb1 (jb : Nat → Nat) (T : Nat → Nat → Nat → Nat) (set f e p a z : Nat) (b : Option Nat) : Option Nat := if (jb z).testBit f = true then some (gB (if (jb e).testBit a = true then some (gB b (T (set ||| 2 ^ p) f z + 1)) else b) (T (set ||| 2 ^ p) a e + 1)) else (if (jb e).testBit a = true then some (gB b (T (set ||| 2 ^ p) f z + 1)) else b)
def ebN (P : tPL) (jb : Nat → Nat) (T : Nat → Nat → Nat → Nat) (mine set f e : Nat) : Nat → Option Nat
  | 0 => none
  | p + 1 => if mine.testBit p = true ∧ set.testBit p = false then eb1 jb T set f e p (P.2.2.2.1 p) (P.2.2.1 p) (eb1 jb T set f e p (P.2.2.1 p) (P.2.2.2.1 p) (ebN P jb T mine set f e p)) else ebN P jb T mine set f e p
def opN : Option Nat → Nat
  | none => 0
  | some n => n
abbrev tuN (one two set : Nat) : Nat := if pop set 9 % 2 = 0 then one else two
def gvF (P : tPL) (jb : Nat → Nat) (one two : Nat) : Nat → Nat → Nat → Nat → Nat
  | 0, _, _, _ => 0
  | n + 1, set, f, e => opN (ebN P jb (gvF P jb one two n) (tuN one two set) set f e P.1)
def gvT (P : tPL) (jb : Nat → Nat) (one two set f e : Nat) : Nat := gvF P jb one two (512 - set) set f e
theorem or_up : ∀ s, s < 512 → ∀ p, p < 9 → s.testBit p = false → pop (s ||| 2 ^ p) 9 = pop s 9 + 1 ∧ s < s ||| 2 ^ p ∧ s ||| 2 ^ p < 512 := by decide +kernel
theorem eb1_congr {jb : Nat → Nat} {T T' : Nat → Nat → Nat → Nat} {set f e p a z : Nat} {b : Option Nat} (h : ∀ x y, T (set ||| 2 ^ p) x y = T' (set ||| 2 ^ p) x y) : eb1 jb T set f e p a z b = eb1 jb T' set f e p a z b := by
  unfold eb1
  rw [h, h]
theorem ebN_congr {P : tPL} {jb : Nat → Nat} {T T' : Nat → Nat → Nat → Nat} {mine set f e : Nat} (hs : set < 512) (h : ∀ q, set < q → q < 512 → ∀ x y, T q x y = T' q x y) : ∀ p, p ≤ 9 → ebN P jb T mine set f e p = ebN P jb T' mine set f e p
  | 0, _ => rfl
  | p + 1, hp => by
    unfold ebN
    rw [ebN_congr hs h p (by omega)]
    by_cases z : mine.testBit p = true ∧ set.testBit p = false
    · obtain ⟨_, u2, u3⟩ := or_up set hs p (by omega) z.2
      rw [if_pos z, if_pos z, eb1_congr (h _ u2 u3), eb1_congr (h _ u2 u3)]
    · rw [if_neg z, if_neg z]
theorem gvF_st (P : tPL) (jb : Nat → Nat) (one two : Nat) (hp : P.1 ≤ 9) : ∀ n m set, set < 512 → 512 - set ≤ n → 512 - set ≤ m → ∀ f e, gvF P jb one two n set f e = gvF P jb one two m set f e
  | 0, _, _, _, h, _ => by omega
  | _, 0, _, _, _, h => by omega
  | n + 1, m + 1, set, hs, h1, h2 => by
    intro f e
    unfold gvF
    rw [ebN_congr hs (fun q hq1 hq2 => gvF_st P jb one two hp n m q hq2 (by omega) (by omega)) P.1 hp]
theorem gvT_eq (P : tPL) (jb : Nat → Nat) (one two set f e : Nat) (hp : P.1 ≤ 9) (hs : set < 512) : gvT P jb one two set f e = opN (ebN P jb (gvT P jb one two) (tuN one two set) set f e P.1) := by
  unfold gvT
  obtain ⟨n, hn⟩ : ∃ n, 512 - set = n + 1 := ⟨511 - set, by omega⟩
  rw [hn]
  show opN _ = _
  rw [ebN_congr (T' := gvT P jb one two) hs (fun q hq1 hq2 x y => gvF_st P jb one two hp n (512 - q) q hq2 (by omega) (by omega) x y) P.1 hp]
  rfl
def gbM (m : Nat) : Option Nat → Prop
  | none => True
  | some b => b ≤ m
theorem gB_le {b : Option Nat} {k m : Nat} (hb : gbM m b) (hk : k ≤ m) : gB b k ≤ m := by
  cases b with
  | none => exact hk
  | some b =>
    have hb : b ≤ m := hb
    show (if _ then k else b) ≤ m
    split <;> split <;> assumption
theorem eb1_le {jb : Nat → Nat} {T : Nat → Nat → Nat → Nat} {set f e p a z m : Nat} {b : Option Nat} (hb : gbM m b) (hT : ∀ x y, T (set ||| 2 ^ p) x y + 1 ≤ m) : gbM m (eb1 jb T set f e p a z b) := by
  have h1 : gbM m (if (jb e).testBit a = true then some (gB b (T (set ||| 2 ^ p) f z + 1)) else b) := by
    split
    · exact gB_le hb (hT _ _)
    · exact hb
  unfold eb1
  split
  · exact gB_le h1 (hT _ _)
  · exact h1
theorem ebN_le {P : tPL} {jb : Nat → Nat} {T : Nat → Nat → Nat → Nat} {mine set f e : Nat} (hs : set < 512) (hT : ∀ q, set < q → q < 512 → ∀ x y, T q x y ≤ 9 - pop q 9) : ∀ p, p ≤ 9 → gbM (9 - pop set 9) (ebN P jb T mine set f e p)
  | 0, _ => trivial
  | p + 1, hp => by
    have ih := ebN_le (P := P) (jb := jb) (mine := mine) (f := f) (e := e) hs hT p (by omega)
    unfold ebN
    split
    · rename_i z
      obtain ⟨u1, u2, u3⟩ := or_up set hs p (by omega) z.2
      have hp9 := pop_le (set ||| 2 ^ p) 9
      have hT2 : ∀ x y, T (set ||| 2 ^ p) x y + 1 ≤ 9 - pop set 9 := fun x y => by
        have := hT _ u2 u3 x y
        omega
      exact eb1_le (eb1_le ih hT2) hT2
    · exact ih
theorem gvT_le (P : tPL) (jb : Nat → Nat) (one two : Nat) (hp : P.1 ≤ 9) : ∀ n set, set < 512 → 512 - set ≤ n → ∀ f e, gvT P jb one two set f e ≤ 9 - pop set 9 := by
  intro n
  induction n with
  | zero => intro set h1 h2; omega
  | succ n ih =>
    intro set hs hn f e
    rw [gvT_eq P jb one two set f e hp hs]
    have := ebN_le (P := P) (jb := jb) (mine := tuN one two set) (f := f) (e := e) hs (fun q hq1 hq2 => ih q hq2 (by omega)) P.1 hp
    revert this
    cases ebN P jb (gvT P jb one two) (tuN one two set) set f e P.1 with
    | none => intro _; exact Nat.zero_le _
    | some b => intro h; exact h
theorem gv9 (P : tPL) (jb : Nat → Nat) (one two set f e : Nat) (hp : P.1 ≤ 9) (hs : set < 512) : gvT P jb one two set f e ≤ 9 := Nat.le_trans (gvT_le P jb one two hp 512 set hs (by omega) f e) (Nat.sub_le _ _)
def mGV (S : ms_S) (P : tPL) (jb : Nat → Nat) (one two lo : Nat) : Prop := ∀ set, lo < set → set < 512 → set &&& (one ||| two) = set → ∀ f, f < 7 → ∀ e, e < 7 → S.2.2.2.1 36 (49 * set + 7 * f + e) = enc (gvT P jb one two set f e)
theorem enO_0 : ∀ b : Option Nat, gbL b → (enO b = 0 ↔ b = none) := by
  intro b hb
  cases b with
  | none => exact ⟨fun _ => rfl, fun _ => rfl⟩
  | some b =>
    have h : ∀ b, b < 11 → ¬ enc b = 0 := by decide +kernel
    exact ⟨fun q => absurd q (h b hb), fun q => by cases q⟩
theorem gbL_M {m : Nat} {b : Option Nat} (h : gbM m b) (hm : m < 11) : gbL b := by
  cases b with
  | none => trivial
  | some b => exact Nat.lt_of_le_of_lt h hm
theorem or_sb {s p a : Nat} (h : s &&& a = s) (hp : a.testBit p = true) : (s ||| 2 ^ p) &&& a = s ||| 2 ^ p := sb_of (fun i hi => by
  rw [Nat.testBit_or, Bool.or_eq_true] at hi
  rcases hi with hi | hi
  · exact sb_tb h hi
  · rw [Nat.testBit_two_pow] at hi
    rw [← of_decide_eq_true hi]
    exact hp)
theorem c_endsBy (G : ab_G) (fr : Bool) (S : ms_S) (tl : ab_H) (P : tPL) (jb : Nat → Nat) (one two set f e : Nat) (hP : mPL S P) (hj : ∀ x, x < 7 → a_joined S x = nI (jb x) ∧ jb x < 2 ^ 7) (hV : mGV S P jb one two set) (hs : set < 512) (h1 : one < 2 ^ 9) (h2 : two < 2 ^ 9) (hb : set &&& (one ||| two) = set) (hf : f < 7) (he : e < 7) :
    ctI G 2 M_X12_endsBy fr [.ref 0, .int (nI (tuN one two set)), .int (nI set), .int (nI f), .int (nI e)] lM S tl (fun v S' => v = enc (gvT P jb one two set f e) ∧ S' = S) := by
  refine ctI.ab (fun K hK => m_X12_endsBy (fun n0 => ?_))
  obtain ⟨p1, p2, p3, p4, p5, p6⟩ := id hP
  have e12 : S.1 0 12 = nI P.1 := p3
  have hmi : tuN one two set < 2 ^ 9 := by
    show (if _ then one else two) < _
    split <;> assumption
  have hmb : ∀ p, (tuN one two set).testBit p = true → (one ||| two).testBit p = true := by
    intro p
    show (if _ then one else two).testBit p = true → _
    rw [Nat.testBit_or]
    split
    · intro h; rw [h, Bool.true_or]
    · intro h; rw [h, Bool.or_true]
  rw [gvT_eq P jb one two set f e p1 hs] at hK
  have hGM : ∀ p, p ≤ 9 → gbM (9 - pop set 9) (ebN P jb (gvT P jb one two) (tuN one two set) set f e p) := ebN_le hs (fun q hq1 hq2 => gvT_le P jb one two p1 512 q hq2 (by omega))
  generalize tuN one two set = mine at *
  have KP : ∀ d p, p + d = P.1 → L_X12_endsBy_6 G fr n0 tl K S (nI mine) (nI set) (nI f) (nI e) (enO (ebN P jb (gvT P jb one two) mine set f e p)) (nI p) := by
    intro d
    induction d with
    | zero =>
      intro p hd
      rw [show p = P.1 by omega]
      have hL := gbL_M (hGM P.1 p1) (by omega)
      refine b_X12_endsBy_6 ?_
      rw [e12, enO_0 _ hL]
      refine ⟨fun _ => ⟨fun q => b_X12_endsBy_194 (hK _ _ ⟨by rw [q]; rfl, rfl⟩), fun q => b_X12_endsBy_194 (hK _ _ ⟨?_, rfl⟩)⟩, fun q => absurd (Int32.le_refl _) q⟩
      revert q
      cases ebN P jb (gvT P jb one two) mine set f e P.1 with
      | none => intro q; exact absurd rfl q
      | some n => intro _; rfl
    | succ d ih =>
      intro p hd
      have h9 := ih (p + 1) (by omega)
      unfold ebN at h9
      have hM := hGM p (by omega)
      have hp9 := pop_le set 9
      generalize ebN P jb (gvT P jb one two) mine set f e p = b at *
      obtain ⟨f1, f2, f3, f4, f5, f6⟩ := p5 p (by omega)
      have f1 : S.2.2.2.1 6 p = nI (P.2.2.1 p) := f1
      have f3 : S.2.2.2.1 7 p = nI (P.2.2.2.1 p) := f3
      have hv : vp_in (nI p) 18 := (x_vp (by omega)).mpr (by omega)
      refine b_X12_endsBy_6 ?_
      rw [e12]
      refine ⟨fun q => absurd q (nI_ge (by omega) (by omega)), fun _ => ctI.eq (c_isOfN G fr _ mine p (by omega) (by omega)) ?_⟩
      cases hb1 : mine.testBit p with
      | false =>
        rw [if_neg (fun z => by rw [hb1] at z; cases z.1)] at h9
        refine ⟨fun _ => b_X12_endsBy_177 ?_, fun q => absurd rfl q⟩
        rw [nI_add]
        exact h9
      | true =>
        refine ⟨fun q => absurd q (by decide), fun _ => ctI.eq (c_isOfN G fr _ set p (by omega) (by omega)) ?_⟩
        cases hb2 : set.testBit p with
        | true =>
          rw [if_neg (fun z => by rw [hb2] at z; cases z.2)] at h9
          refine ⟨fun q => absurd q (by decide), fun _ => b_X12_endsBy_177 ?_⟩
          rw [nI_add]
          exact h9
        | false =>
          rw [if_pos ⟨hb1, hb2⟩] at h9
          refine ⟨fun _ => ?_, fun q => absurd rfl q⟩
          obtain ⟨u1, u2, u3⟩ := or_up set hs p (by omega) hb2
          have hV2 := hV (set ||| 2 ^ p) u2 u3 (or_sb hb (hmb p hb1))
          have hT2 : ∀ x y, gvT P jb one two (set ||| 2 ^ p) x y + 1 ≤ 9 - pop set 9 := fun x y => by
            have h3 := gvT_le P jb one two p1 512 _ u3 (by omega) x y
            have h4 := pop_le (set ||| 2 ^ p) 9
            omega
          have KE : ∀ (a z : Nat) (b : Option Nat) (t : Int32), a < 7 → z < 7 → gbM (9 - pop set 9) b → (gbM (9 - pop set 9) (eb1 jb (gvT P jb one two) set f e p a z b) → L_X12_endsBy_171 G fr n0 tl K S (nI mine) (nI set) (nI f) (nI e) (enO (eb1 jb (gvT P jb one two) set f e p a z b)) (nI p) t) → L_X12_endsBy_91 G fr n0 tl K S (nI mine) (nI set) (nI f) (nI e) (enO b) (nI p) t (nI a) (nI z) := by
            intro a z b t ha hz hM hk
            have hk := hk (eb1_le hM hT2)
            obtain ⟨je1, je2⟩ := hj e he
            obtain ⟨jz1, jz2⟩ := hj z hz
            have je1 : S.2.2.2.1 31 e = nI (jb e) := je1
            have jz1 : S.2.2.2.1 31 z = nI (jb z) := jz1
            have g1 := hV2 f hf z hz
            have g2 := hV2 a ha e he
            have hT3 := hT2 f z
            have hT4 := hT2 a e
            have K132 : ∀ b2 : Option Nat, gbM (9 - pop set 9) b2 → b2 = (if (jb e).testBit a = true then some (gB b (gvT P jb one two (set ||| 2 ^ p) f z + 1)) else b) → L_X12_endsBy_132 G fr n0 tl K S (nI mine) (nI set) (nI f) (nI e) (enO b2) (nI p) t (nI a) (nI z) := by
              intro b2 hM2 hb2'
              unfold eb1 at hk
              rw [← hb2'] at hk
              refine b_X12_endsBy_132 ?_
              rw [nI_clamp (by omega), jz1, nu_set (by omega)]
              refine ⟨(x_vp (by omega)).mpr (by omega), ctI.eq (c_isOfN G fr _ (jb z) f (by omega) (by omega)) ?_⟩
              cases hq : (jb z).testBit f with
              | false =>
                rw [if_neg (by rw [hq]; decide)] at hk
                exact ⟨fun _ => hk, fun q => absurd rfl q⟩
              | true =>
                rw [if_pos hq] at hk
                refine ⟨fun q => absurd q (by decide), fun _ => c_stateOf G fr S tl _ a e _ ⟨(x_vp (by omega)).mpr (by omega), ?_⟩⟩
                rw [nI_clamp (by omega), g2]
                exact c_better G fr S tl b2 _ (gbL_M hM2 (by omega)) (by omega) _ hk
            refine b_X12_endsBy_91 ?_
            rw [nI_clamp (by omega), je1, nu_set (by omega)]
            refine ⟨(x_vp (by omega)).mpr (by omega), ctI.eq (c_isOfN G fr _ (jb e) a (by omega) (by omega)) ?_⟩
            cases hq : (jb e).testBit a with
            | false => exact ⟨fun _ => K132 b hM (by rw [if_neg (by rw [hq]; decide)]), fun q => absurd rfl q⟩
            | true =>
              refine ⟨fun q => absurd q (by decide), fun _ => c_stateOf G fr S tl _ f z _ ⟨(x_vp (by omega)).mpr (by omega), ?_⟩⟩
              rw [nI_clamp (by omega), g1]
              exact c_better G fr S tl b _ (gbL_M hM (by omega)) (by omega) _ (K132 (some _) (gB_le hM (hT2 _ _)) (by rw [if_pos hq]))
          refine b_X12_endsBy_39 ⟨fun q => absurd q (by decide), fun _ => ⟨fun _ => ⟨hv, ?_⟩, fun q => absurd rfl q⟩⟩
          rw [nI_clamp (by omega), f1]
          refine b_X12_endsBy_67 ⟨fun _ => ⟨hv, ?_⟩, fun q => absurd rfl q⟩
          rw [nI_clamp (by omega), f3]
          refine KE _ _ b _ f2 f4 hM (fun hM3 => b_X12_endsBy_171 (b_X12_endsBy_39 ⟨fun q => absurd q (by decide), fun _ => ⟨fun q => absurd q (by decide), fun _ => ⟨hv, ?_⟩⟩⟩))
          rw [nI_clamp (by omega), f3]
          refine b_X12_endsBy_67 ⟨fun q => absurd q (by decide), fun _ => ⟨hv, ?_⟩⟩
          rw [nI_clamp (by omega), f1]
          refine KE _ _ _ _ f4 f2 hM3 (fun hM4 => b_X12_endsBy_171 (b_X12_endsBy_39 ⟨fun _ => b_X12_endsBy_177 ?_, fun q => absurd (by decide) q⟩))
          rw [nI_add]
          exact h9
  exact KP P.1 0 (by omega)
