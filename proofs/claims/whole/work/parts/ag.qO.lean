/-! ===== the program: shape ===== -/
section CORE15
variable {G : ab_G} {S : ms_S} {tl : ab_H} {P : tPL} {o : Nat → Option tDQ}
theorem ends7 (hP : bPl S P o) : ∀ p, p < P.1 → P.2.2.1 p < 7 ∧ P.2.2.2.1 p < 7 := fun p hp => ⟨(hP.2.2.2.2.1 p hp).2.1, (hP.2.2.2.2.1 p hp).2.2.2.1⟩
theorem u_odd (hP : bPl S P o) (set : Nat) (hs : set < 2 ^ P.1) (K : Int32 → ms_S → Prop) (k : K (nI (pop (odN P set P.1) 9)) S) : ctI G 2 M_X7_oddEnds false [.ref 0, .int (nI set)] lC S tl K := by
  have p1 := hP.1
  have h5 : set < 512 := Nat.lt_of_lt_of_le hs (p2_9 p1)
  refine m_X7_oddEnds (fun n0 => ?_)
  suffices KL : ∀ t p, p + t = P.1 → L_X7_oddEnds_4 G false n0 tl K S (nI set) (nI (odN P set p)) (nI p) from KL P.1 0 (Nat.zero_add _)
  intro t
  induction t with
  | zero =>
    intro p hp
    have hp : p = P.1 := hp
    subst hp
    refine b_X7_oddEnds_4 ?_
    rw [hP.2.2.1]
    exact ⟨fun _ => u_bitCount G false S tl _ (Nat.lt_trans (odN_lt P set (ends7 hP) _ (Nat.le_refl _)) (by decide)) _ k, fun z => absurd (Int32.le_refl _) z⟩
  | succ t ih =>
    intro p hp
    have hn := ih (p + 1) (by omega)
    rw [show odN P set (p + 1) = if set.testBit p = true then odN P set p ^^^ (2 ^ P.2.2.1 p ^^^ 2 ^ P.2.2.2.1 p) else odN P set p from rfl] at hn
    obtain ⟨o1, o2, o3, o4, _⟩ := hP.2.2.2.2.1 p (by omega)
    have hv9 : vp_in (nI p) 9 := (x_vp (by omega)).mpr (by omega)
    refine b_X7_oddEnds_4 ?_
    rw [hP.2.2.1, nI_leI (by omega) (by omega), tb_u (by omega) (by omega), show (nI p).toNatClampNeg = p from nI_clamp (by omega), o1, o3, nu_1shl (show P.2.2.1 p < 31 by omega), nu_1shl (show P.2.2.2.1 p < 31 by omega), nu_xor, nu_xor, nI_add]
    refine ⟨fun z => absurd z (by omega), fun _ => ⟨fun z => ⟨hv9, hv9, ?_⟩, fun z => ?_⟩⟩
    · rw [if_pos z] at hn
      exact hn
    · rw [if_neg z] at hn
      exact hn
/-! hanging together, as the program finds it -/
def cg1 (P : tPL) (set p : Nat) (c : Nat × Nat) : Nat × Nat := if set.testBit p = true ∧ (c.1.testBit p = true ∨ ¬ c.2 &&& enN P p = 0) then (c.1 ||| 2 ^ p, c.2 ||| enN P p) else c
def cgP (P : tPL) (set : Nat) (c : Nat × Nat) : Nat → Nat × Nat
  | 0 => c
  | p + 1 => cg1 P set p (cgP P set c p)
def cgR (P : tPL) (set : Nat) (c : Nat × Nat) : Nat → Nat × Nat
  | 0 => c
  | k + 1 => cgP P set (cgR P set c k) P.1
theorem cgP_lt (hP : bPl S P o) {set : Nat} {c : Nat × Nat} (hc : c.1 < 512 ∧ c.2 < 128) : ∀ p, p ≤ P.1 → (cgP P set c p).1 < 512 ∧ (cgP P set c p).2 < 128
  | 0, _ => hc
  | p + 1, hp => by
    have ih := cgP_lt hP (set := set) hc p (by omega)
    have he := ends7 hP p (by omega)
    have p1 := hP.1
    show (cg1 P set p _).1 < 512 ∧ (cg1 P set p _).2 < 128
    unfold cg1
    split
    · exact ⟨Nat.or_lt_two_pow (n := 9) ih.1 (Nat.pow_lt_pow_right (by decide) (by omega)), Nat.or_lt_two_pow (n := 7) ih.2 (Nat.or_lt_two_pow (p2_lt he.1) (p2_lt he.2))⟩
    · exact ih
theorem cgR_lt (hP : bPl S P o) {set : Nat} {c : Nat × Nat} (hc : c.1 < 512 ∧ c.2 < 128) : ∀ k, (cgR P set c k).1 < 512 ∧ (cgR P set c k).2 < 128
  | 0 => hc
  | k + 1 => cgP_lt hP (cgR_lt hP hc k) _ (Nat.le_refl _)
theorem u_hw (hP : bPl S P o) (set st : Nat) (hs : set < 512) (hst : st < 512) (K : Int32 → ms_S → Prop) (k : K (nI (cgR P set (st, 0) 9).1) S) : ctI G 1 M_X7_hangingWith false [.ref 0, .int (nI set), .int (nI st)] lC S tl K := by
  have p1 := hP.1
  have hlt := cgR_lt hP (set := set) (c := (st, 0)) ⟨hst, (by decide : (0 : Nat) < 128)⟩
  refine m_X7_hangingWith (fun n0 => ?_)
  suffices KR : ∀ t r, r + t = 9 → L_X7_hangingWith_8 G false n0 tl K S (nI set) (nI (cgR P set (st, 0) r).1) (nI (cgR P set (st, 0) r).2) (nI r) from KR 9 0 rfl
  intro t
  induction t with
  | zero =>
    intro r hr
    have hr : r = 9 := hr
    subst hr
    exact b_X7_hangingWith_8 ⟨fun _ => k, fun z => absurd (Int32.le_refl _) z⟩
  | succ t ih =>
    intro r hr
    have hn := ih (r + 1) (by omega)
    rw [show cgR P set (st, 0) (r + 1) = cgP P set (cgR P set (st, 0) r) P.1 from rfl] at hn
    have hl := hlt r
    generalize cgR P set (st, 0) r = c at hn hl ⊢
    refine b_X7_hangingWith_8 ?_
    rw [nI_leI (by decide) (by omega)]
    refine ⟨fun z => absurd z (by omega), fun _ => ?_⟩
    suffices KP : ∀ u p, p + u = P.1 → L_X7_hangingWith_18 G false n0 tl K S (nI set) (nI (cgP P set c p).1) (nI (cgP P set c p).2) (nI r) (nI p) from KP P.1 0 (Nat.zero_add _)
    intro u
    induction u with
    | zero =>
      intro p hp
      have hp : p = P.1 := hp
      subst hp
      refine b_X7_hangingWith_18 ?_
      rw [hP.2.2.1, nI_add]
      exact ⟨fun _ => hn, fun z => absurd (Int32.le_refl _) z⟩
    | succ u ihu =>
      intro p hp
      have hm := ihu (p + 1) (by omega)
      rw [show cgP P set c (p + 1) = cg1 P set p (cgP P set c p) from rfl] at hm
      have hcl := cgP_lt hP (set := set) hl p (by omega)
      generalize cgP P set c p = d at hm hcl ⊢
      obtain ⟨o1, o2, o3, o4, _⟩ := hP.2.2.2.2.1 p (by omega)
      have hv9 : vp_in (nI p) 9 := (x_vp (by omega)).mpr (by omega)
      have hel : enN P p < 2 ^ 7 := Nat.or_lt_two_pow (p2_lt o2) (p2_lt o4)
      have hal : d.2 &&& enN P p < 2 ^ 31 := Nat.lt_of_le_of_lt Nat.and_le_left (by omega)
      unfold cg1 at hm
      have hyes : (set.testBit p = true ∧ (d.1.testBit p = true ∨ ¬ d.2 &&& enN P p = 0)) → L_X7_hangingWith_76 G false n0 tl K S (nI set) (nI d.1) (nI d.2) (nI r) (nI p) (nI (enN P p)) := fun z => b_X7_hangingWith_76 (b_X7_hangingWith_90 (by
        rw [if_pos z] at hm
        rw [nu_set (by omega), nu_or, nI_add]
        exact hm))
      have hno : ¬ (set.testBit p = true ∧ (d.1.testBit p = true ∨ ¬ d.2 &&& enN P p = 0)) → L_X7_hangingWith_90 G false n0 tl K S (nI set) (nI d.1) (nI d.2) (nI r) (nI p) := fun z => b_X7_hangingWith_90 (by
        rw [if_neg z] at hm
        rw [nI_add]
        exact hm)
      refine b_X7_hangingWith_18 ?_
      rw [hP.2.2.1, nI_leI (by omega) (by omega), tb_u (by omega) (by omega), tb_u (by omega) (by omega), show (nI p).toNatClampNeg = p from nI_clamp (by omega), o1, o3, nu_1shl (show P.2.2.1 p < 31 by omega), nu_1shl (show P.2.2.2.1 p < 31 by omega), nu_or, nu_and, x_eq0 hal]
      exact ⟨fun z => absurd z (by omega), fun _ => ⟨hv9, hv9, fun z => ⟨fun y => hyes ⟨z, Or.inl y⟩, fun y => ⟨fun w => hno (fun q => q.2.elim y (fun v => v w)), fun w => hyes ⟨z, Or.inr w⟩⟩⟩, fun z => hno (fun q => z q.1)⟩⟩
/-- the program's and the reference's search go alike -/
def hgl (P : tPL) (set : Nat) (c z : Nat × Nat) : Prop := z.1 = dif set c.1 ∧ z.2 = c.2 ∧ ∀ p, c.1.testBit p = true → enN P p &&& c.2 = enN P p
theorem en_and {a p : Nat} : (¬ a &&& enN P p = 0) ↔ (a.testBit (P.2.2.1 p) = true ∨ a.testBit (P.2.2.2.1 p) = true) := by
  have hb : ∀ i, (enN P p).testBit i = (decide (P.2.2.1 p = i) || decide (P.2.2.2.1 p = i)) := fun i => by
    show (2 ^ P.2.2.1 p ||| 2 ^ P.2.2.2.1 p).testBit i = _
    rw [Nat.testBit_or, Nat.testBit_two_pow, Nat.testBit_two_pow]
  constructor
  · intro h
    obtain ⟨i, hi⟩ := Nat.exists_testBit_of_ne_zero h
    rw [Nat.testBit_and, hb, Bool.and_eq_true, Bool.or_eq_true, decide_eq_true_eq, decide_eq_true_eq] at hi
    rcases hi.2 with w | w
    · exact Or.inl (by rw [w]; exact hi.1)
    · exact Or.inr (by rw [w]; exact hi.1)
  · intro h z
    rcases h with w | w
    · have : (a &&& enN P p).testBit (P.2.2.1 p) = true := by rw [Nat.testBit_and, w, hb, decide_eq_true rfl]; rfl
      rw [z, Nat.zero_testBit] at this
      cases this
    · have : (a &&& enN P p).testBit (P.2.2.2.1 p) = true := by rw [Nat.testBit_and, w, hb, decide_eq_true (p := P.2.2.2.1 p = P.2.2.2.1 p) rfl, Bool.or_true]; rfl
      rw [z, Nat.zero_testBit] at this
      cases this
theorem or_sub9 {a b : Nat} (h : a &&& b = a) : b ||| a = b := by
  apply Nat.eq_of_testBit_eq
  intro i
  rw [Nat.testBit_or]
  cases e : a.testBit i with
  | false => rw [Bool.or_false]
  | true => rw [sb_tb h e]; rfl
theorem hgl_st {set p : Nat} {c z : Nat × Nat} (hs : set < 512) (h : hgl P set c z) : hgl P set (cg1 P set p c) (hg1 P p z) := by
  obtain ⟨h1, h2, h3⟩ := id h
  have hz : z.1.testBit p = (set.testBit p && !c.1.testBit p) := by rw [h1, dif_tb (by omega)]
  unfold cg1 hg1
  by_cases cp : c.1.testBit p = true
  · have hn : ¬ (z.1.testBit p = true ∧ (z.2.testBit (P.2.2.1 p) = true ∨ z.2.testBit (P.2.2.2.1 p) = true)) := fun q => by
      have := q.1
      rw [hz, cp] at this
      simp at this
    rw [if_neg hn]
    by_cases sp : set.testBit p = true
    · rw [if_pos ⟨sp, Or.inl cp⟩]
      have e1 : c.1 ||| 2 ^ p = c.1 := or_sub9 (p2_sub cp)
      have e2 : c.2 ||| enN P p = c.2 := or_sub9 (h3 p cp)
      rw [e1, e2]
      exact h
    · rw [if_neg (fun q => sp q.1)]
      exact h
  · have cp : c.1.testBit p = false := by
      cases e : c.1.testBit p with
      | false => rfl
      | true => exact absurd e cp
    have hiff : (set.testBit p = true ∧ (c.1.testBit p = true ∨ ¬ c.2 &&& enN P p = 0)) ↔ (z.1.testBit p = true ∧ (z.2.testBit (P.2.2.1 p) = true ∨ z.2.testBit (P.2.2.2.1 p) = true)) := by
      rw [hz, cp, h2, ← en_and]
      simp
    by_cases q : z.1.testBit p = true ∧ (z.2.testBit (P.2.2.1 p) = true ∨ z.2.testBit (P.2.2.2.1 p) = true)
    · rw [if_pos q, if_pos (hiff.mpr q)]
      have hzl : z.1 ≤ set := by rw [h1]; exact dif_le _ _
      have hp9 : p < 9 := tb_lt (n := 9) (by omega) q.1
      refine ⟨?_, by rw [h2], fun j hj => ?_⟩
      · show z.1 - 2 ^ p = dif set (c.1 ||| 2 ^ p)
        rw [← dif_p (by omega) q.1]
        apply Nat.eq_of_testBit_eq
        intro i
        rw [dif_tb (by omega), dif_tb (by omega), h1, dif_tb (by omega), Nat.testBit_or]
        cases set.testBit i <;> cases c.1.testBit i <;> cases (2 ^ p).testBit i <;> rfl
      · show enN P j &&& (c.2 ||| enN P p) = enN P j
        have hj : (c.1 ||| 2 ^ p).testBit j = true := hj
        rw [Nat.testBit_or, Bool.or_eq_true, Nat.testBit_two_pow, decide_eq_true_eq] at hj
        refine sb_of (fun i hi => ?_)
        rw [Nat.testBit_or]
        rcases hj with w | w
        · rw [sb_tb (h3 j w) hi]
          rfl
        · rw [w, hi, Bool.or_true]
    · rw [if_neg q, if_neg (fun y => q (hiff.mp y))]
      exact h
theorem hgl_P {set : Nat} {c z : Nat × Nat} (hs : set < 512) (h : hgl P set c z) : ∀ p, hgl P set (cgP P set c p) (hgP P z p)
  | 0 => h
  | p + 1 => hgl_st hs (hgl_P hs h p)
theorem hgl_R {set : Nat} {c z : Nat × Nat} (hs : set < 512) (h : hgl P set (cgR P set c 1) (hgR P z 1)) : ∀ k, hgl P set (cgR P set c (k + 1)) (hgR P z (k + 1))
  | 0 => h
  | k + 1 => hgl_P hs (hgl_R hs h k) _
theorem lo_en {set q : Nat} (hq : set.testBit q = true) (h9 : q < 9) (hl : ∀ j, j < 9 → j < q → set.testBit j = false) : loN P set 9 = enN P q := by
  have key : ∀ i, i ≤ q → loN P set 9 = loN P set (9 - i) := by
    intro i
    induction i with
    | zero => intro _; rfl
    | succ i ih =>
      intro hi
      rw [ih (by omega), show 9 - i = (9 - (i + 1)) + 1 by omega]
      show (if set.testBit (8 - (9 - (i + 1))) = true then _ else loN P set (9 - (i + 1))) = _
      rw [show 8 - (9 - (i + 1)) = i by omega, hl i (by omega) (by omega), if_neg (by decide)]
  rw [key q (Nat.le_refl _), show 9 - q = (8 - q) + 1 by omega]
  show (if set.testBit (8 - (8 - q)) = true then enN P (8 - (8 - q)) else _) = _
  rw [show 8 - (8 - q) = q by omega, if_pos hq]
theorem cg_hg {set q : Nat} (hs : set < 2 ^ P.1) (hp9 : P.1 ≤ 9) (hq : set.testBit q = true) (hl : ∀ j, j < 9 → j < q → set.testBit j = false) : hgL P set = dif set (cgR P set (2 ^ q, 0) 9).1 := by
  have h5 : set < 512 := Nat.lt_of_lt_of_le hs (p2_9 hp9)
  have qp : q < P.1 := tb_lt hs hq
  have hen := lo_en (P := P) hq (by omega) hl
  have pre : ∀ p, p ≤ q → cgP P set (2 ^ q, 0) p = (2 ^ q, 0) ∧ hgP P (set, enN P q) p = (set, enN P q) := by
    intro p
    induction p with
    | zero => intro _; exact ⟨rfl, rfl⟩
    | succ p ih =>
      intro hp
      obtain ⟨i1, i2⟩ := ih (by omega)
      have hb := hl p (by omega) (by omega)
      constructor
      · show cg1 P set p (cgP P set (2 ^ q, 0) p) = _
        rw [i1]
        exact if_neg (fun y => by rw [hb] at y; exact Bool.noConfusion y.1)
      · show hg1 P p (hgP P (set, enN P q) p) = _
        rw [i2]
        exact if_neg (fun y => by have := y.1; rw [show (set, enN P q).1 = set from rfl, hb] at this; cases this)
  obtain ⟨i1, i2⟩ := pre q (Nat.le_refl _)
  have self : (2 ^ q).testBit q = true := by rw [Nat.testBit_two_pow]; exact decide_eq_true rfl
  have at_q : hgl P set (cgP P set (2 ^ q, 0) (q + 1)) (hgP P (set, enN P q) (q + 1)) := by
    show hgl P set (cg1 P set q (cgP P set (2 ^ q, 0) q)) (hg1 P q (hgP P (set, enN P q) q))
    rw [i1, i2]
    unfold cg1 hg1
    have e1 : (enN P q).testBit (P.2.2.1 q) = true := by
      show (2 ^ P.2.2.1 q ||| 2 ^ P.2.2.2.1 q).testBit _ = true
      rw [Nat.testBit_or, Nat.testBit_two_pow, decide_eq_true rfl]
      rfl
    rw [if_pos ⟨hq, Or.inl self⟩, if_pos ⟨hq, Or.inl e1⟩]
    refine ⟨?_, ?_, fun j hj => ?_⟩
    · show set - 2 ^ q = dif set (2 ^ q ||| 2 ^ q)
      rw [Nat.or_self, dif_p h5 hq]
    · show enN P q ||| enN P q = 0 ||| enN P q
      rw [Nat.or_self, Nat.zero_or]
    · show enN P j &&& (0 ||| enN P q) = enN P j
      have hj : (2 ^ q ||| 2 ^ q).testBit j = true := hj
      rw [Nat.or_self, Nat.testBit_two_pow, decide_eq_true_eq] at hj
      rw [Nat.zero_or, hj, Nat.and_self]
  have rest : ∀ d, hgl P set (cgP P set (2 ^ q, 0) (q + 1 + d)) (hgP P (set, enN P q) (q + 1 + d)) := by
    intro d
    induction d with
    | zero => exact at_q
    | succ d ih => exact hgl_st h5 ih
  have one := rest (P.1 - (q + 1))
  rw [show q + 1 + (P.1 - (q + 1)) = P.1 by omega] at one
  have := hgl_R h5 (c := (2 ^ q, 0)) (z := (set, enN P q)) one 8
  unfold hgL
  rw [hen]
  exact this.1
theorem pop_mo {a b : Nat} (h : a &&& b = a) : ∀ n, pop a n ≤ pop b n
  | 0 => Nat.le_refl _
  | n + 1 => by
    have ih := pop_mo h n
    rw [pop_s, pop_s]
    by_cases z : a.testBit n = true
    · rw [if_pos z, if_pos (sb_tb h z)]
      omega
    · rw [if_neg z]
      omega
theorem cgP_sb {set : Nat} {c : Nat × Nat} {q : Nat} (h : c.1.testBit q = true) : ∀ p, (cgP P set c p).1.testBit q = true
  | 0 => h
  | p + 1 => by
    have ih := cgP_sb (set := set) h p
    show (cg1 P set p _).1.testBit q = true
    unfold cg1
    split
    · show (_ ||| 2 ^ p).testBit q = true
      rw [Nat.testBit_or, ih]
      rfl
    · exact ih
theorem cgR_sb {set : Nat} {c : Nat × Nat} {q : Nat} (h : c.1.testBit q = true) : ∀ k, (cgR P set c k).1.testBit q = true
  | 0 => h
  | k + 1 => cgP_sb (cgR_sb h k) _
theorem u_hang (hP : bPl S P o) (set : Nat) (hs : set < 2 ^ P.1) (K : Int32 → ms_S → Prop) (k : K (nI (hgT P set)) S) : ctI G 2 M_X7_hangingParts false [.ref 0, .int (nI set)] lC S tl K := by
  have p1 := hP.1
  refine m_X7_hangingParts (fun n0 => ?_)
  suffices KL : ∀ t i left, i + t = 9 → left < 2 ^ P.1 → pop left 9 ≤ t → hgT P left + i = hgT P set → L_X7_hangingParts_7 G false n0 tl K S (nI left) (nI i) (nI i) from KL 9 0 set rfl hs (pop_le _ _) rfl
  intro t
  induction t with
  | zero =>
    intro i left hi hl hp ht
    have h5 : left < 512 := Nat.lt_of_lt_of_le hl (p2_9 p1)
    have h0 : left = 0 := Classical.byContradiction (fun z => absurd (pop_pos h5 z) (by omega))
    subst h0
    have hi : i = 9 := hi
    subst hi
    rw [show hgT P 0 = 0 from rfl] at ht
    refine b_X7_hangingParts_7 ⟨fun _ => ?_, fun z => absurd (Int32.le_refl _) z⟩
    rw [← ht] at k
    exact k
  | succ t ih =>
    intro i left hi hl hp ht
    have h5 : left < 512 := Nat.lt_of_lt_of_le hl (p2_9 p1)
    refine b_X7_hangingParts_7 ?_
    rw [nI_leI (by decide) (by omega), x_eq0 (by omega)]
    refine ⟨fun z => absurd z (by omega), fun _ => ⟨fun z => ?_, fun z => ?_⟩⟩
    · subst z
      rw [show hgT P 0 = 0 from rfl, Nat.zero_add] at ht
      rw [← ht] at k
      exact k
    · obtain ⟨t1, t2, t3⟩ := low_tab left h5 z
      have tl9 := low_j left h5 z
      generalize ntP left 9 0 0 = q at t1 t2 t3 tl9
      have hq5 : 2 ^ q < 512 := Nat.pow_lt_pow_right (a := 2) (m := q) (n := 9) (by decide) t2
      rw [t3]
      refine u_hw hP left (2 ^ q) h5 hq5 _ ?_
      have hh := cg_hg hl p1 t1 tl9
      have hsub := cgR_sb (P := P) (set := left) (c := (2 ^ q, 0)) (q := q) (by show (2 ^ q).testBit q = true; rw [Nat.testBit_two_pow]; exact decide_eq_true rfl) 9
      have hT := hgT_eq p1 z hl
      rw [hh] at hT
      generalize (cgR P left (2 ^ q, 0) 9).1 = fd at hsub hT ⊢
      have hpop : pop (dif left fd) 9 ≤ pop (left - 2 ^ q) 9 := by
        refine pop_mo (sb_of (fun j hj => ?_)) 9
        rw [dif_tb (by omega), Bool.and_eq_true] at hj
        have j9 : j < 9 := tb_lt (n := 9) h5 hj.1
        rw [sb_t left h5 q t2 t1 j j9, hj.1]
        by_cases e : j = q
        · rw [e, hsub] at hj
          exact absurd hj.2 (by decide)
        · rw [decide_eq_false e]
          rfl
      have hcl := pop_cl left h5 q t2 t1
      have hdl : dif left fd ≤ left := dif_le _ _
      rw [nu_dif, nI_add]
      exact ih (i + 1) (dif left fd) (by omega) (by omega) (by omega) (by omega)
end CORE15

