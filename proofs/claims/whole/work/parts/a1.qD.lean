/-! ===== the program: which sets are rows ===== -/
theorem pw_by {a b : Nat} (ha : a < 7) (hb : b < 8) : 2 ^ (a * 8 + b) = byN (fun f => if f = a then 2 ^ b else 0) 7 := by
  have hlt : ∀ f, f < 7 → (if f = a then 2 ^ b else 0) < 256 := fun f _ => by
    split
    · exact Nat.pow_lt_pow_right (m := b) (n := 8) (by decide) hb
    · decide
  apply by_ext
  intro f i hi
  rw [byN_tb hi hlt, Nat.testBit_two_pow]
  by_cases z : f = a
  · subst z
    rw [if_pos rfl, Nat.testBit_two_pow, decide_eq_true ha, Bool.true_and]
    exact decide_eq_decide.mpr (by omega)
  · rw [if_neg z, Nat.zero_testBit, Bool.and_false]
    exact decide_eq_false (by omega)
theorem or4 (a b c d : Nat) : ((a ||| b) ||| c) ||| d = (a ||| c) ||| (b ||| d) := by
  apply Nat.eq_of_testBit_eq
  intro i
  simp only [Nat.testBit_or]
  cases a.testBit i <;> cases b.testBit i <;> cases c.testBit i <;> cases d.testBit i <;> rfl
theorem or_if {p q : Bool} {z : Nat} : (if p = true then z else 0) ||| (if q = true then z else 0) = if (p || q) = true then z else 0 := by
  cases p <;> cases q <;> simp
abbrev anF (jb : Nat → Nat) (en x : Nat) : Nat → Bool := fun e => en.testBit e && (jb e).testBit x
theorem bh_eq (jb : Nat → Nat) (x y en : Nat) : ∀ n, bhN jb x y en n = (if anB (anF jb en x) n = true then 2 ^ y else 0) ||| (if anB (anF jb en y) n = true then 2 ^ x else 0)
  | 0 => by
    show 0 = (if false = true then 2 ^ y else 0) ||| (if false = true then 2 ^ x else 0)
    rw [if_neg (by decide), if_neg (by decide)]
    rfl
  | n + 1 => by
    have ih := bh_eq jb x y en n
    show (if en.testBit n = true then (bhN jb x y en n ||| (if (jb n).testBit x = true then 2 ^ y else 0)) ||| (if (jb n).testBit y = true then 2 ^ x else 0) else bhN jb x y en n) = (if (anB (anF jb en x) n || anF jb en x n) = true then 2 ^ y else 0) ||| (if (anB (anF jb en y) n || anF jb en y n) = true then 2 ^ x else 0)
    cases he : en.testBit n with
    | true =>
      rw [if_pos rfl, ih, or4, or_if, or_if]
      unfold anF
      rw [he, Bool.true_and, Bool.true_and]
    | false =>
      rw [if_neg (by decide), ih]
      unfold anF
      rw [he, Bool.false_and, Bool.false_and, Bool.or_false, Bool.or_false]
theorem an_0 {jb : Nat → Nat} {en x : Nat} : (en &&& jwN jb x = 0) ↔ anB (anF jb en x) 7 = false := by
  constructor
  · intro h
    cases hb : anB (anF jb en x) 7 with
    | false => rfl
    | true =>
      obtain ⟨e, e1, e2⟩ := anB_ex hb
      have e2 : (en.testBit e && (jb e).testBit x) = true := e2
      rw [Bool.and_eq_true] at e2
      have : (en &&& jwN jb x).testBit e = true := by rw [Nat.testBit_and, bitsN_tb, decide_eq_true e1, e2.1, e2.2]; rfl
      rw [h, Nat.zero_testBit] at this
      cases this
  · intro h
    apply Nat.eq_of_testBit_eq
    intro i
    rw [Nat.zero_testBit, Nat.testBit_and, bitsN_tb]
    by_cases hi : i < 7
    · have := anB_f h i hi
      have this : (en.testBit i && (jb i).testBit x) = false := this
      rw [decide_eq_true hi, Bool.true_and, this]
    · rw [decide_eq_false hi, Bool.false_and, Bool.and_false]
theorem rc_0 (P : tPL) (jb : Nat → Nat) : rcN P jb 0 = 0 := byN_0.mpr (fun f _ => rowT_0 P jb f)
def dnS (S : ms_S) (P : tPL) (jb : Nat → Nat) (set : Nat) : Prop := ∀ r, r &&& set = r → S.2.2.2.2 26 r = lN (rcN P jb r)
section CORE4
variable {G : ab_G} {S : ms_S} {tl : ab_H} {P : tPL} {o : Nat → Option tDQ} {v : Nat} {jb : Nat → Nat}
theorem u_firsts (c : Nat → Nat) (hc : ∀ f, f < 7 → c f < 128) (K : Int64 → ms_S → Prop) (k : K (lN (byN (fun f => if c f = 0 then 0 else 1) 7)) S) : ctL G 1 M_X9_firstsOf false [.long (lN (byN c 7))] lC S tl K := by
  have hl := by_lt7 hc
  refine ctL.pk (m_X9_firstsOf (fun n0 => ?_))
  rw [show (35887507618889599 : Int64) = lN 35887507618889599 from by decide, show (282578800148737 : Int64) = lN 282578800148737 from by decide, lN_add, nl_ushr (by decide) (by omega), nl_and, by_firsts hc]
  exact k
theorem row_lt (hP : bPl S P o) (set f : Nat) : rowT P jb set f < 128 := rowT_lt P jb set f (fun p hp => ⟨(hP.2.2.2.2.1 p hp).2.1, (hP.2.2.2.2.1 p hp).2.2.2.1⟩)
set_option maxHeartbeats 1000000 in
theorem u_endsOf (hP : bPl S P o) (hR : bRT S P v jb) (part : Nat) (hp : part < 2 ^ P.1) (hS : ∀ p, p < P.1 → part.testBit p = true → S.2.2.2.2 26 (part - 2 ^ p) = lN (rcN P jb (part - 2 ^ p))) (K : Int64 → ms_S → Prop) (k : K (lN (rcN P jb part)) S) : ctL G 2 M_X9_endsOf false [.ref 25, .int (nI part)] lC S tl K := by
  obtain ⟨p1, p2, p3, p4, p5, l0, l1, l2, p6⟩ := id hP
  obtain ⟨r1, r2, r3, r4, r5, r6, r7, r8⟩ := id hR
  have h5 : part < 512 := Nat.lt_of_lt_of_le hp (Nat.pow_le_pow_right (n := 2) (i := P.1) (j := 9) (by decide) p1)
  have hE : ∀ n, n ≤ P.1 → ∀ f, ltN P.2.2.1 P.2.2.2.1 jb (fun q => rowT P jb q f) part f n < 128 := fun n hn f => ltN_lt _ _ _ _ _ _ P.1 (fun p hp => ⟨(p5 p hp).2.1, (p5 p hp).2.2.2.1⟩) n hn
  refine m_X9_endsOf (fun n0 => ?_)
  suffices KL : ∀ t j, j + t = P.1 → L_X9_endsOf_5 G false n0 tl K S (nI part) (lN (byN (fun f => ltN P.2.2.1 P.2.2.2.1 jb (fun q => rowT P jb q f) part f j) 7)) (nI j) by
    have := KL P.1 0 (by omega)
    rw [show byN (fun f => ltN P.2.2.1 P.2.2.2.1 jb (fun q => rowT P jb q f) part f 0) 7 = 0 from byN_0.mpr (fun _ _ => rfl)] at this
    exact this
  intro t
  induction t with
  | zero =>
    intro j hj
    have hj : j = P.1 := hj
    refine b_X9_endsOf_5 ?_
    rw [p3, nI_leI (by omega) (by omega)]
    refine ⟨fun _ => ?_, fun z => absurd (show P.1 ≤ j by omega) z⟩
    rw [hj, byN_c (d := fun f => rowT P jb part f) (fun f _ => (rowT_eq P jb part f).symm)]
    exact k
  | succ t ih =>
    intro j hj
    have hn := ih (j + 1) (by omega)
    obtain ⟨o1, o2, o3, o4, o5, o6⟩ := p5 j (by omega)
    have hv9 : vp_in (nI j) 9 := (x_vp (by omega)).mpr (by omega)
    have hst : ∀ f, ltN P.2.2.1 P.2.2.2.1 jb (fun q => rowT P jb q f) part f (j + 1) = if part.testBit j = true then (if part = 2 ^ j then (ltN P.2.2.1 P.2.2.2.1 jb (fun q => rowT P jb q f) part f j ||| (if P.2.2.1 j = f then 2 ^ P.2.2.2.1 j else 0)) ||| (if P.2.2.2.1 j = f then 2 ^ P.2.2.1 j else 0) else ltN P.2.2.1 P.2.2.2.1 jb (fun q => rowT P jb q f) part f j ||| bhN jb (P.2.2.1 j) (P.2.2.2.1 j) (rowT P jb (part - 2 ^ j) f) 7) else ltN P.2.2.1 P.2.2.2.1 jb (fun q => rowT P jb q f) part f j := fun f => rfl
    have hE1 := hE (j + 1) (by omega)
    have hE0 := hE j (by omega)
    have KN : ∀ X, X = byN (fun f => ltN P.2.2.1 P.2.2.2.1 jb (fun q => rowT P jb q f) part f (j + 1)) 7 → L_X9_endsOf_141 G false n0 tl K S (nI part) (lN X) (nI j) := by
      intro X hX
      refine b_X9_endsOf_141 ?_
      rw [hX, nI_add]
      exact hn
    refine b_X9_endsOf_5 ?_
    rw [p3, nI_leI (by omega) (by omega), nu_1shl (by omega), nu_clr part h5 j (by omega), nI_clamp (by omega)]
    refine ⟨fun z => absurd z (by omega), fun _ => ?_⟩
    by_cases tb : part.testBit j = true
    · have h2j : 2 ^ j ≤ part := Nat.ge_two_pow_of_testBit tb
      have hpos := Nat.two_pow_pos j
      rw [if_pos tb, nI_eq (by omega) (by omega), x_eq0 (by omega), nI_clamp (by omega), o1, o3, hS j (by omega) tb]
      refine ⟨fun z => absurd z (by omega), fun _ => ⟨hv9, hv9, (x_vp (by omega)).mpr (by omega), fun z => ?_, fun z => ?_⟩⟩
      · have hpj : part = 2 ^ j := by omega
        rw [pk_mul, pk_mul, nI_add, nI_add, nl_shl (by omega), nl_shl (by omega), nl_or, nl_or, Nat.one_mul, Nat.one_mul, pw_by o2 (by omega), pw_by o4 (by omega)]
        refine KN _ ?_
        have hlt : ∀ a b f : Nat, b < 7 → (if f = a then 2 ^ b else 0) < 256 := fun a b f hb => by
          split
          · exact Nat.pow_lt_pow_right (m := b) (n := 8) (by decide) (by omega)
          · decide
        rw [byN_or (fun f _ => hlt _ _ f o4) (fun f _ => hlt _ _ f o2), byN_or (fun f _ => Nat.lt_trans (hE0 f) (by decide)) (fun f _ => Nat.or_lt_two_pow (n := 8) (hlt _ _ f o4) (hlt _ _ f o2))]
        refine byN_c (fun f hf => ?_)
        rw [hst f, if_pos tb, if_pos hpj, Nat.or_assoc]
        congr 2
        · by_cases w : f = P.2.2.1 j
          · rw [if_pos w, if_pos w.symm]
          · rw [if_neg w, if_neg (fun q => w q.symm)]
        · by_cases w : f = P.2.2.2.1 j
          · rw [if_pos w, if_pos w.symm]
          · rw [if_neg w, if_neg (fun q => w q.symm)]
      · have hpj : ¬ part = 2 ^ j := by omega
        have hrl : ∀ f, f < 7 → rowT P jb (part - 2 ^ j) f < 128 := fun f _ => row_lt hP _ f
        have hrc : rcN P jb (part - 2 ^ j) < 2 ^ 56 := by_lt7 hrl
        rw [lg_cmp_eq, pk_lEQ (by omega) (by decide)]
        refine ⟨fun w => KN _ (byN_c (fun f hf => ?_)), fun w => ⟨(x_vp (by omega)).mpr o2, ?_⟩⟩
        · rw [hst f, if_pos tb, if_neg hpj, byN_0.mp w f hf, bh_eq]
          have hz : ∀ x, anB (anF jb 0 x) 7 = false := fun x => an_0.mp (Nat.zero_and _)
          rw [hz, hz, if_neg (by decide), if_neg (by decide), Nat.or_zero, Nat.or_zero]
        · have hjw : ∀ x f, f < 7 → jwN jb x < 256 := fun x f _ => Nat.lt_trans (jw_lt jb x) (by decide)
          have hal : ∀ x f, f < 7 → (rowT P jb (part - 2 ^ j) f &&& jwN jb x) < 128 := fun x f hf => Nat.lt_of_le_of_lt Nat.and_le_left (hrl f hf)
          rw [show (nI (P.2.2.1 j)).toNatClampNeg = P.2.2.1 j from nI_clamp (by omega), show (nI (P.2.2.2.1 j)).toNatClampNeg = P.2.2.2.1 j from nI_clamp (by omega), r6 _ o2, nl_and, byN_and (fun f hf => Nat.lt_trans (hrl f hf) (by decide)) (hjw _)]
          refine u_firsts _ (hal _) _ ⟨(x_vp (by omega)).mpr o4, ?_⟩
          rw [r6 _ o4, nl_and, byN_and (fun f hf => Nat.lt_trans (hrl f hf) (by decide)) (hjw _)]
          refine u_firsts _ (hal _) _ ?_
          rw [nl_shl (by omega), nl_shl (by omega), byN_mul, byN_mul, nl_or, nl_or]
          refine KN _ ?_
          have hlt : ∀ x b f : Nat, b < 7 → (if (rowT P jb (part - 2 ^ j) f &&& jwN jb x) = 0 then 0 else 1) * 2 ^ b < 256 := fun x b f hb => by
            have : 2 ^ b < 2 ^ 8 := Nat.pow_lt_pow_right (by decide) (by omega)
            split
            · rw [Nat.zero_mul]; decide
            · rw [Nat.one_mul]; exact this
          rw [byN_or (fun f _ => hlt _ _ f o4) (fun f _ => hlt _ _ f o2), byN_or (fun f _ => Nat.lt_trans (hE0 f) (by decide)) (fun f _ => Nat.or_lt_two_pow (n := 8) (hlt _ _ f o4) (hlt _ _ f o2))]
          refine byN_c (fun f hf => ?_)
          rw [hst f, if_pos tb, if_neg hpj, bh_eq]
          have hz : ∀ x b, (if (rowT P jb (part - 2 ^ j) f &&& jwN jb x) = 0 then 0 else 1) * 2 ^ b = if anB (anF jb (rowT P jb (part - 2 ^ j) f) x) 7 = true then 2 ^ b else 0 := fun x b => by
            by_cases y : (rowT P jb (part - 2 ^ j) f &&& jwN jb x) = 0
            · rw [if_pos y, an_0.mp y, Nat.zero_mul, if_neg (by decide)]
            · rw [if_neg y, Nat.one_mul, if_pos]
              cases hb : anB (anF jb (rowT P jb (part - 2 ^ j) f) x) 7 with
              | true => rfl
              | false => exact absurd (an_0.mpr hb) y
          rw [hz, hz]
    · rw [if_neg tb, nI_eq (by omega) (by omega)]
      refine ⟨fun _ => KN _ (byN_c (fun f hf => ?_)), fun z => absurd rfl z⟩
      rw [hst f, if_neg tb]
def rdI (X : ms_S) (P : tPL) (v : Nat) (jb : Nat → Nat) (set part : Nat) : Prop := ∀ r, r &&& set = r → qk set r ≤ qk set part → X.2.2.2.2 26 r = lN (rcN P jb r) ∧ (¬ r = 0 → X.2.2.2.1 27 r = nI v)
theorem rd_st {X : ms_S} {set part nx : Nat} (h5 : set < 512) (hns : nx &&& set = nx) (hnx : qk set nx = qk set part + 1) (x3 : rdI X P v jb set part) (h1 : X.2.2.2.2 26 nx = lN (rcN P jb nx)) (h2 : X.2.2.2.1 27 nx = nI v) : rdI X P v jb set nx := by
  intro r hr hq
  by_cases e : qk set r = qk set nx
  · have := qk_inj h5 hr hns e
    subst this
    exact ⟨h1, fun _ => h2⟩
  · exact x3 r hr (by omega)
theorem rd_up {X : ms_S} {set part nx : Nat} (h5 : set < 512) (hns : nx &&& set = nx) (hn0 : ¬ nx = 0) (hnx : qk set nx = qk set part + 1) (x2 : bRT X P v jb) (x3 : rdI X P v jb set part) : bRT (sA (sL X 26 nx (lN (rcN P jb nx))) 27 nx (nI v)) P v jb ∧ rdI (sA (sL X 26 nx (lN (rcN P jb nx))) 27 nx (nI v)) P v jb set nx := by
  obtain ⟨y1, y2, y3, y4, y5, y6, y7, y8⟩ := x2
  constructor
  · refine ⟨y1, y2, y3, y4, y5, y6, ?_, fun s hs5 => ?_⟩
    · show vp_updL (X.2.2.2.2 26) nx _ 0 = _
      rw [updL_no (fun q => hn0 q.symm)]
      exact y7
    · show (∃ u, u ≤ v ∧ upd (X.2.2.2.1 27) nx (nI v) s = nI u) ∧ (upd (X.2.2.2.1 27) nx (nI v) s = nI v → (s < 2 ^ P.1 → vp_updL (X.2.2.2.2 26) nx (lN (rcN P jb nx)) s = lN (rcN P jb s)) ∧ ∀ r, r &&& s = r → ¬ r = 0 → upd (X.2.2.2.1 27) nx (nI v) r = nI v)
      by_cases e : s = nx
      · subst e
        rw [upd_at, updL_at]
        refine ⟨⟨v, Nat.le_refl _, rfl⟩, fun _ => ⟨fun _ => rfl, fun r hr h0 => ?_⟩⟩
        by_cases e2 : r = s
        · rw [e2, upd_at]
        · rw [upd_no e2]
          have hrs := sub_tr hr hns
          have hm : qk set r ≤ qk set s := qkN_mo (set := set) hr 9
          have hne : ¬ qk set r = qk set s := fun q => e2 (qk_inj h5 hrs hns q)
          exact (x3 r hrs (by omega)).2 h0
      · rw [upd_no e, updL_no e]
        refine ⟨(y8 s hs5).1, fun q => ⟨((y8 s hs5).2 q).1, fun r hr h0 => ?_⟩⟩
        by_cases e2 : r = nx
        · rw [e2, upd_at]
        · rw [upd_no e2]
          exact ((y8 s hs5).2 q).2 r hr h0
  · intro r hr hq
    show vp_updL (X.2.2.2.2 26) nx (lN (rcN P jb nx)) r = lN (rcN P jb r) ∧ (¬ r = 0 → upd (X.2.2.2.1 27) nx (nI v) r = nI v)
    by_cases e : r = nx
    · subst e
      rw [upd_at, updL_at]
      exact ⟨rfl, fun _ => rfl⟩
    · rw [upd_no e, updL_no e]
      have hne : ¬ qk set r = qk set nx := fun q => e (qk_inj h5 hr hns q)
      exact x3 r hr (by omega)
theorem u_reachL {n0 : Nat} {K : Int64 → ms_S → Prop} (hP : bPl S P o) (set : Nat) (hset : set < 2 ^ P.1) (h5 : set < 512) (k : ∀ S', cF aRc S S' → bRT S' P v jb → dnS S' P jb set → K (lN (rcN P jb set)) S') : ∀ t part (X : ms_S), part &&& set = part → qk set part + t = 512 → cF aRc S X → bRT X P v jb → rdI X P v jb set part → L_X9_reachOf_31 G false n0 tl K X (nI set) (nI part) (nI (qk set part)) := by
  have hv5 : vp_in (nI set) 512 := (x_vp (by omega)).mpr h5
  intro t
  induction t with
  | zero =>
    intro part X hs ht
    have := qk_512 set part
    exact absurd ht (by omega)
  | succ t ih =>
    intro part X hs ht x1 x2 x3
    have hq5 := qk_512 set part
    have hps : part ≤ set := by rw [← hs]; exact Nat.and_le_right
    obtain ⟨y1, y2, y3, y4, y5, y6, y7, y8⟩ := id x2
    have hPX : bPl X P o := bPl_F x1 ⟨rfl, rfl, rfl, rfl, rfl, rfl, rfl, rfl, rfl, rfl⟩ hP
    have hE : qk set part + 1 = qk set (nxN set part) ∨ part = set := by
      by_cases z : part = set
      · exact Or.inr z
      · exact Or.inl (qk_nx h5 hs z).symm
    refine b_X9_reachOf_31 ?_
    rw [nI_leI (by decide) (by omega), nI_eq (by omega) (by omega), nu_nx h5 (by omega), nI_add, y1]
    refine ⟨fun z => absurd z (by omega), fun _ => ⟨fun z => ⟨hv5, ?_⟩, fun z => ?_⟩⟩
    · rw [nI_clamp (by omega)]
      have x4 := (x3 part hs (Nat.le_refl _)).1
      rw [z] at x4 x3
      rw [x4]
      exact k X x1 x2 (fun r hr => (x3 r hr (qkN_mo (set := set) hr 9)).1)
    · have hnx := qk_nx h5 hs z
      have hns := nx_sub set part
      have hq6 := qk_512 set (nxN set part)
      generalize nxN set part = nx at hnx hns hq6 ⊢
      have hnl : nx ≤ set := by rw [← hns]; exact Nat.and_le_right
      have hn0 : ¬ nx = 0 := fun w => by
        rw [w, show qk set 0 = 0 from qkN_0 set 9] at hnx
        omega
      have hvn : vp_in (nI nx) 512 := (x_vp (by omega)).mpr (by omega)
      rw [nI_clamp (by omega), ← hnx]
      refine ⟨hvn, fun w => ?_, fun w => ?_⟩
      · exact ih nx X hns (by omega) x1 x2 (rd_st h5 hns hnx x3 (((y8 nx (by omega)).2 w).1 (by omega)) w)
      · refine u_endsOf hPX x2 nx (by omega) (fun p hp tb => ?_) _ ⟨hvn, hvn, ?_⟩
        · have hc := qk_cl (set := set) (r := nx) (p := p) (by omega) (by have := hP.1; omega) hns tb
          exact (x3 _ (sub_cl h5 (by have := hP.1; omega) hns tb) (by omega)).1
        · rw [y1]
          have hu := rd_up h5 hns hn0 hnx x2 x3
          exact ih nx _ hns (by omega) ((x1.tr (cF.sL rfl)).tr (cF.sA rfl)) hu.1 hu.2
theorem u_reach (hP : bPl S P o) (hR : bRT S P v jb) (set : Nat) (hset : set < 2 ^ P.1) (K : Int64 → ms_S → Prop) (k : ∀ S', cF aRc S S' → bRT S' P v jb → dnS S' P jb set → K (lN (rcN P jb set)) S') : ctL G 3 M_X9_reachOf false [.ref 25, .int (nI set)] lC S tl K := by
  have p1 := hP.1
  have h5 : set < 512 := Nat.lt_of_lt_of_le hset (Nat.pow_le_pow_right (n := 2) (i := P.1) (j := 9) (by decide) p1)
  obtain ⟨r1, r2, r3, r4, r5, r6, r7, r8⟩ := id hR
  refine m_X9_reachOf (fun n0 => ?_)
  rw [pk_andN (n := set) (by omega) (m := nI 511) 9 (by decide), Nat.mod_eq_of_lt (show set < 2 ^ 9 from h5), nI_clamp (by omega), r1]
  have hv5 : vp_in (nI set) 512 := (x_vp (by omega)).mpr h5
  refine ⟨hv5, fun z => ⟨hv5, ?_⟩, fun _ => ?_⟩
  · obtain ⟨q1, q2⟩ := (r8 set h5).2 z
    rw [q1 hset]
    refine k S cF.rf hR (fun r hr => ?_)
    by_cases z0 : r = 0
    · subst z0
      rw [r7, rc_0]
    · have hrs : r ≤ set := by rw [← hr]; exact Nat.and_le_right
      exact ((r8 r (by omega)).2 (q2 r hr z0)).1 (by omega)
  have h0 : qk set 0 = 0 := qkN_0 set 9
  have := u_reachL (G := G) (tl := tl) (n0 := n0) (v := v) (jb := jb) hP set hset h5 k 512 0 S (Nat.zero_and _) (by rw [h0]) cF.rf hR (fun r hr hq => by
    rw [h0] at hq
    have hr0 := qk_z h5 hr (by omega)
    subst hr0
    exact ⟨by rw [r7, rc_0], fun z => absurd rfl z⟩)
  rw [h0] at this
  exact this
theorem isRow_N (set : Nat) : isRowK P jb set 7 = decide (¬ rcN P jb set = 0) := by
  have key : ∀ n, isRowK P jb set n = decide (¬ ∀ f, f < n → rowT P jb set f = 0) := by
    intro n
    induction n with
    | zero => exact (decide_eq_false (fun z => z (fun f hf => absurd hf (Nat.not_lt_zero _)))).symm
    | succ n ih =>
      show (isRowK P jb set n || decide (¬ rowT P jb set n = 0)) = _
      rw [ih, ← Bool.decide_or]
      refine decide_eq_decide.mpr ?_
      constructor
      · intro z w
        rcases z with z | z
        · exact z (fun f hf => w f (by omega))
        · exact z (w n (by omega))
      · intro z
        by_cases y : rowT P jb set n = 0
        · left
          intro w
          refine z (fun f hf => ?_)
          by_cases e : f = n
          · rw [e]; exact y
          · exact w f (by omega)
        · exact Or.inr y
  rw [key 7]
  exact decide_eq_decide.mpr (not_congr byN_0.symm)
theorem u_isRow (hP : bPl S P o) (hR : bRT S P v jb) (set : Nat) (hset : set < 2 ^ P.1) (K : Int32 → ms_S → Prop) (k : ∀ S', cF aRc S S' → bRT S' P v jb → K (bI (isRowK P jb set 7)) S') : ctI G 4 M_X9_isRow false [.ref 25, .int (nI set)] lC S tl K := by
  have hl : rcN P jb set < 2 ^ 56 := by_lt7 (c := fun f => rowT P jb set f) (fun f _ => row_lt hP set f)
  refine m_X9_isRow (fun n0 => u_reach hP hR set hset _ (fun S' f1 h1 _ => ?_))
  have k := k S' f1 h1
  rw [isRow_N] at k
  rw [lg_cmp_eq, pk_lEQ (by omega) (by decide)]
  refine ⟨fun z => ?_, fun z => ?_⟩
  · rw [decide_eq_false (fun y => y z)] at k
    exact k
  · rw [decide_eq_true z] at k
    exact k
end CORE4

