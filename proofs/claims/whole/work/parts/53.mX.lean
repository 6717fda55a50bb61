/-! ===== the reference: notes ===== -/
def kbN (N : tN) : Nat := if N.2.1 < 0 then N.1 else cl N.2.1
theorem kbN_le {S : ms_S} {P : tPL} {N : tN} (h : mN S P N) : kbN N ≤ N.1 := by
  unfold kbN
  split
  · exact Nat.le_refl _
  · rename_i hq
    rcases h.2.2.2.1 with z | ⟨j, hj, z⟩
    · exact absurd (by rw [z]; exact neg_neg (by decide) (by decide)) hq
    · rw [z, cl_nI (by have := h.1; omega)]
      exact hj
set_option maxRecDepth 100000 in
set_option maxHeartbeats 4000000 in
theorem c_knownBy (G : ab_G) (fr : Bool) (S : ms_S) (tl : ab_H) (P : tPL) (N : tN) (hN : mN S P N) :
    ab_CT G 1 M_X12_knownBy fr [.ref 0] (hM S tl) 0 0 (fun r h' => r = some (.int (nI (kbN N))) ∧ h' = hM (S) tl) := by
  refine ct_of o_X12_knownBy (Nat.le_of_ble_eq_true rfl) (fun n0 post hp => ?_)
  obtain ⟨n1, n2, n3, n4, n5⟩ := id hN
  unfold kbN at hp
  rcases n4 with z | ⟨j, hj, z⟩
  · have hq : N.2.1 < 0 := by rw [z]; exact neg_neg (by decide) (by decide)
    rw [if_pos hq] at hp
    repeat refine ws_s rfl ?_
    rw [show S.1 0 76 = N.2.1 from n3]
    refine wp_ite (fun w => absurd w (Int32.not_le.mpr hq)) (fun _ => ?_)
    repeat refine ws_s rfl ?_
    rw [← n2] at hp
    exact wp_ri rfl rfl rfl hp
  · have hq : ¬ N.2.1 < 0 := by rw [z]; exact nI_pos (by omega)
    rw [if_neg hq, z, cl_nI (by omega)] at hp
    repeat refine ws_s rfl ?_
    rw [show S.1 0 76 = nI j from n3.trans z]
    refine wp_ite (fun _ => ?_) (fun w => absurd (nI_pos' (by omega)) w)
    repeat refine ws_s rfl ?_
    rw [← n3.trans z] at hp
    exact wp_ri rfl rfl rfl hp
abbrev tE : Type := Nat × Nat × Nat × Nat × Bool
def pushN (N : tN) (x : tE) : tN := (N.1 + 1, N.2.1, fun k => if k = N.1 then x else N.2.2 k)
def ntN (N : tN) (x : tE) : tN := if N.1 = 24 then N else pushN N x
def ntA (N : tN) : Int32 := if N.1 = 24 then -(nI 1) else nI N.1
def fNt : Nat → Bool := fun k => Nat.beq k 75
theorem mN_F {S S' : ms_S} {P : tPL} {N : tN} (h1 : m_notedMany S' = m_notedMany S) (h2 : m_knownTold S' = m_knownTold S) (h3 : a_noted1 S' = a_noted1 S) (h : mN S P N) : mN S' P N := by
  refine ⟨h.1, h1.trans h.2.1, h2.trans h.2.2.1, h.2.2.2.1, fun k hk => ?_⟩
  rw [h3]
  exact h.2.2.2.2 k hk
set_option maxRecDepth 100000 in
set_option maxHeartbeats 4000000 in
theorem c_notes1 (G : ab_G) (fr : Bool) (S : ms_S) (tl : ab_H) (P : tPL) (N : tN) (x : tE) (vc : Int32) (hN : mN S P N) (hx : ntOk P N.1 x) (hvc : ¬ x.1 = 0 → vc = nI x.2.2.1) :
    ab_CT G 1 M_X12_notes1 fr [.ref 0, .int (nI x.1), .int (nI x.2.1), .int vc, .int (nI x.2.2.2.1), .int (bI x.2.2.2.2)] (hM S tl) 0 0 (fun r h' => ∃ S', h' = hM S' tl ∧ mE fNt (aO 37) S S' ∧ mN S' P (ntN N x) ∧ r = some (.int (ntA N))) := by
  refine wp_ct o_X12_notes1 (Nat.le_of_ble_eq_true rfl) ?_
  generalize hpost : (fun (r : Option Value) (h' : ab_H) => ∃ S', h' = hM S' tl ∧ mE fNt (aO 37) S S' ∧ mN S' P (ntN N x) ∧ r = some (.int (ntA N))) = post
  generalize (hM S tl).length = n0
  obtain ⟨n1, n2, n3, n4, n5⟩ := id hN
  repeat refine ws_s rfl ?_
  refine wp_eq (x := N.1) (y := 24) n2 rfl (by omega) (by decide) (fun hq => ?_) (fun hq => ?_)
  · repeat refine ws_s rfl ?_
    refine wp_ri rfl rfl rfl ?_
    rw [← hpost]
    unfold ntN ntA
    rw [if_pos hq, if_pos hq]
    exact ⟨S, rfl, mE.rf, hN, rfl⟩
  · repeat refine ws_s rfl ?_
    rw [show S.1 0 75 = nI N.1 from n2]
    refine ws_sa (k := 5 * N.1) rfl (by first | rfl | (simp only [pk_mul, nI_add]; done)) (by omega) (by decide) (rfl) ?_
    repeat refine ws_s rfl ?_
    refine ws_sa (k := 5 * N.1 + 1) rfl (by first | rfl | (simp only [pk_mul, nI_add]; done)) (by omega) (by decide) (rfl) ?_
    repeat refine ws_s rfl ?_
    refine ws_sa (k := 5 * N.1 + 2) rfl (by first | rfl | (simp only [pk_mul, nI_add]; done)) (by omega) (by decide) (rfl) ?_
    repeat refine ws_s rfl ?_
    refine ws_sa (k := 5 * N.1 + 3) rfl (by first | rfl | (simp only [pk_mul, nI_add]; done)) (by omega) (by decide) (rfl) ?_
    repeat refine ws_s rfl ?_
    refine ws_sa (k := 5 * N.1 + 4) rfl (by first | rfl | (simp only [pk_mul, nI_add]; done)) (by omega) (by decide) (rfl) ?_
    repeat refine ws_s rfl ?_
    refine wp_ri rfl rfl rfl ?_
    rw [← hpost]
    unfold ntN ntA
    rw [if_neg hq, if_neg hq]
    refine ⟨_, rfl, (((((mE.sA rfl).tr (mE.sA rfl)).tr (mE.sA rfl)).tr (mE.sA rfl)).tr (mE.sA rfl)).tr (mE.sV rfl), ⟨by show N.1 + 1 ≤ 24; omega, ?_, n3, ?_, fun k hk => ?_⟩, ?_⟩
    · show S.1 0 75 + nI 1 = nI (N.1 + 1)
      rw [show S.1 0 75 = nI N.1 from n2, nI_add]
    · rcases n4 with z | ⟨j, hj, z⟩
      · exact Or.inl z
      · exact Or.inr ⟨j, by show j ≤ N.1 + 1; omega, z⟩
    · have hk2 : k < N.1 + 1 := hk
      show upd (upd (upd (upd (upd (S.2.2.2.1 37) (5 * N.1) _) (5 * N.1 + 1) _) (5 * N.1 + 2) _) (5 * N.1 + 3) _) (5 * N.1 + 4) _ (5 * k) = nI (if k = N.1 then x else N.2.2 k).1 ∧ upd (upd (upd (upd (upd (S.2.2.2.1 37) (5 * N.1) _) (5 * N.1 + 1) _) (5 * N.1 + 2) _) (5 * N.1 + 3) _) (5 * N.1 + 4) _ (5 * k + 1) = nI (if k = N.1 then x else N.2.2 k).2.1 ∧ (¬ (if k = N.1 then x else N.2.2 k).1 = 0 → upd (upd (upd (upd (upd (S.2.2.2.1 37) (5 * N.1) _) (5 * N.1 + 1) _) (5 * N.1 + 2) _) (5 * N.1 + 3) _) (5 * N.1 + 4) _ (5 * k + 2) = nI (if k = N.1 then x else N.2.2 k).2.2.1) ∧ upd (upd (upd (upd (upd (S.2.2.2.1 37) (5 * N.1) _) (5 * N.1 + 1) _) (5 * N.1 + 2) _) (5 * N.1 + 3) _) (5 * N.1 + 4) _ (5 * k + 3) = nI (if k = N.1 then x else N.2.2 k).2.2.2.1 ∧ upd (upd (upd (upd (upd (S.2.2.2.1 37) (5 * N.1) _) (5 * N.1 + 1) _) (5 * N.1 + 2) _) (5 * N.1 + 3) _) (5 * N.1 + 4) _ (5 * k + 4) = bI (if k = N.1 then x else N.2.2 k).2.2.2.2 ∧ ntOk P k (if k = N.1 then x else N.2.2 k)
      unfold upd
      by_cases z : k = N.1
      · subst z
        have hx9 : (if N.1 = N.1 then x else N.2.2 N.1) = x := if_pos rfl
        rw [hx9]
        refine ⟨?_, ?_, fun w => ?_, ?_, ?_, hx⟩
        · rw [if_neg (by omega), if_neg (by omega), if_neg (by omega), if_neg (by omega), if_pos rfl]
        · rw [if_neg (by omega), if_neg (by omega), if_neg (by omega), if_pos rfl]
        · rw [if_neg (by omega), if_neg (by omega), if_pos rfl]
          exact hvc w
        · rw [if_neg (by omega), if_pos rfl]
        · rw [if_pos rfl]
      · obtain ⟨k1, k2, k3, k4, k5, k6⟩ := n5 k (by omega)
        rw [if_neg z]
        refine ⟨?_, ?_, fun w => ?_, ?_, ?_, k6⟩
        · rw [if_neg (by omega), if_neg (by omega), if_neg (by omega), if_neg (by omega), if_neg (by omega)]
          exact k1
        · rw [if_neg (by omega), if_neg (by omega), if_neg (by omega), if_neg (by omega), if_neg (by omega)]
          exact k2
        · rw [if_neg (by omega), if_neg (by omega), if_neg (by omega), if_neg (by omega), if_neg (by omega)]
          exact k3 w
        · rw [if_neg (by omega), if_neg (by omega), if_neg (by omega), if_neg (by omega), if_neg (by omega)]
          exact k4
        · rw [if_neg (by omega), if_neg (by omega), if_neg (by omega), if_neg (by omega), if_neg (by omega)]
          exact k5
    · show some (Value.int (S.1 0 75 + nI 1 - nI 1)) = _
      rw [show S.1 0 75 = nI N.1 from n2, nI_add, pk_sub (by omega)]
      rfl
/-- notes change -/
abbrev gN (g : tSG) (N : tN) : tSG := (g.1, g.2.1, g.2.2.1, N, g.2.2.2.2)
theorem mI_N {F A : Nat → Bool} {S S' : ms_S} {g : tSG} {N : tN} (hI : mI S g) (h : mE F A S S') (hF : ∀ k, (k = 75 ∨ k = 76) ∨ F k = false) (hA : ∀ a, a = 37 ∨ A a = false) (hN : mN S' g.1.1 N) : mI S' (gN g N) := by
  have f1 : ∀ k, ¬ k = 75 → ¬ k = 76 → S'.1 0 k = S.1 0 k := fun k z1 z2 => h.1 0 k (Or.inr (by
    rcases hF k with (q | q) | q
    · exact absurd q z1
    · exact absurd q z2
    · exact q))
  have a1 : ∀ a, ¬ a = 37 → S'.2.2.2.1 a = S.2.2.2.1 a := fun a z => h.2.2.2.1 a (by
    rcases hA a with q | q
    · exact absurd q z
    · exact q)
  obtain ⟨⟨c1, c2, c3, c4, c5, c6, c7, c8, c9, c10⟩, i2, i3, i4, i5, i6, i7⟩ := hI
  have hw : mB fZ aZ 1 S { fst := S'.1, snd := { fst := S.2.1, snd := { fst := S.2.2.1, snd := { fst := u1 S'.2.2.2.1 37 (S.2.2.2.1 37), snd := S.2.2.2.2 } } } } → True := fun _ => trivial
  have a5' := a1 5 (by decide)
  refine ⟨⟨?_, ?_, (congrFun (a1 4 (by decide)) 0).trans c3, c4, ?_, c6, c7, (congrFun (congrFun h.2.1 0) 57).trans c8, c9, mRW_F2 (f1 68 (by decide) (by decide)) (a1 32 (by decide)) (a1 33 (by decide)) c10⟩, mU_F (f1 79 (by decide) (by decide)) (a1 39 (by decide)) i2, mIm_F (f1 81 (by decide) (by decide)) (a1 40 (by decide)) (f1 83 (by decide) (by decide)) (f1 84 (by decide) (by decide)) (congrFun (congrFun h.2.1 0) 85) i3, hN, ?_, ?_, fun i hi => (congrFun (a1 2 (by decide)) i).trans (i7 i hi)⟩
  · obtain ⟨p1, p2, p3, p4, p5, p6⟩ := c1
    refine ⟨p1, p2, (f1 12 (by decide) (by decide)).trans p3, (f1 13 (by decide) (by decide)).trans p4, fun p hp => ?_, fun w hw => ⟨(congrFun (a1 16 (by decide)) w).trans (p6 w hw).1, fun q => ?_⟩⟩
    · obtain ⟨o1, o2, o3, o4, o5, o6⟩ := p5 p hp
      exact ⟨(congrFun (a1 6 (by decide)) p).trans o1, o2, (congrFun (a1 7 (by decide)) p).trans o3, o4, (congrFun (a1 8 (by decide)) p).trans o5, o6⟩
    · obtain ⟨f, l, kn, pj, oj, e1, e2, e3, e4, e5, e6⟩ := (p6 w hw).2 q
      refine ⟨f, l, kn, pj, oj, (congrFun (a1 17 (by decide)) w).trans e1, (congrFun (a1 18 (by decide)) w).trans e2, e3, e4, ⟨fun i q1 q2 => ?_, e5.2⟩, fun nm nm' q => ?_⟩
      · obtain ⟨o1, o2, o3, o4, o5⟩ := e5.1 i q1 q2
        exact ⟨(congrFun (a1 19 (by decide)) i).trans o1, o2, fun q => ⟨(congrFun (a1 20 (by decide)) i).trans (o3 q).1, (o3 q).2⟩, fun q => ⟨(congrFun (a1 20 (by decide)) i).trans (o4 q).1, (o4 q).2⟩, fun q => ⟨(congrFun (a1 21 (by decide)) i).trans (o5 q).1, (o5 q).2⟩⟩
      · rw [show a_part S' = a_part S from a1 20 (by decide)]
        exact e6 nm nm' q
  · obtain ⟨t1, t2, t3, t4, t5, t6⟩ := c2
    refine ⟨t1, t2, (f1 14 (by decide) (by decide)).trans t3, (f1 15 (by decide) (by decide)).trans t4, fun t ht => ?_, fun k hk => ?_⟩
    · obtain ⟨o1, o2, o3, o4, o5, o6⟩ := t5 t ht
      exact ⟨(congrFun (a1 11 (by decide)) t).trans o1, o2, (congrFun (a1 12 (by decide)) t).trans o3, o4, (congrFun (a1 13 (by decide)) t).trans o5, o6⟩
    · obtain ⟨o1, o2, o3, o4⟩ := t6 k hk
      exact ⟨(congrFun (a1 14 (by decide)) k).trans o1, o2, (congrFun (a1 15 (by decide)) k).trans o3, o4⟩
  · exact ⟨fun p hp => (congrFun (a1 26 (by decide)) _).trans (c5.1 p hp), fun q hq => ⟨(congrFun (a1 27 (by decide)) _).trans (c5.2.1 q hq).1, (c5.2.1 q hq).2⟩, fun q hq => (congrFun (a1 28 (by decide)) _).trans (c5.2.2.1 q hq), (congrFun (a1 29 (by decide)) _).trans c5.2.2.2.1, (congrFun (a1 30 (by decide)) _).trans c5.2.2.2.2.1, c5.2.2.2.2.2⟩
  · obtain ⟨x1, x2, x3, x4, x5, x6, x7⟩ := i5
    exact ⟨fun p hp => (congrFun a5' p).trans (x1 p hp), fun p hp => (congrFun (a1 10 (by decide)) p).trans (x2 p hp), (congrFun (a1 4 (by decide)) 1).trans x3, x4, fun p hp => (congrFun (a1 9 (by decide)) p).trans (x5 p hp), x6, (f1 16 (by decide) (by decide)).trans x7⟩
  · obtain ⟨t1, t2, t3, t4, t5⟩ := i6
    exact ⟨t1, (f1 1 (by decide) (by decide)).trans t2, fun i hi => ⟨(congrFun (a1 1 (by decide)) i).trans (t3 i hi).1, (t3 i hi).2⟩, (f1 4 (by decide) (by decide)).trans t4, (f1 5 (by decide) (by decide)).trans t5⟩
theorem fNt_o (k : Nat) : (k = 75 ∨ k = 76) ∨ fNt k = false := by
  unfold fNt
  cases hb : Nat.beq k 75 with
  | false => exact Or.inr rfl
  | true => exact Or.inl (Or.inl (Nat.eq_of_beq_eq_true hb))
theorem aO_o (b k : Nat) : k = b ∨ aO b k = false := by
  unfold aO
  cases hb : Nat.beq k b with
  | false => exact Or.inr rfl
  | true => exact Or.inl (Nat.eq_of_beq_eq_true hb)
/-! note -/
def noK (w a c : Int32) : Bool := inK w 0 1 && (enK a && (decide (w = 0) || enK c))
def noE (w a c b : Int32) : tE := (cl w, cl a, cl c, 0, decide (¬ b = 0))
def N_note (g : tSG) (w a c b : Int32) : tSG := if noK w a c = true then gN g (ntN g.2.2.2.1 (noE w a c b)) else g
def A_note (g : tSG) (w a c : Int32) : Int32 := if noK w a c = true then ntA g.2.2.2.1 else -(nI 1)
set_option maxRecDepth 100000 in
set_option maxHeartbeats 4000000 in
theorem c_note (G : ab_G) (fr : Bool) (S : ms_S) (tl : ab_H) (g : tSG) (hI : mI S g) (w a c b : Int32) :
    ab_CT G 2 M_X12_note fr [.ref 0, .int w, .int a, .int c, .int b] (hM S tl) 0 0 (pA tl (N_note g w a c b) (.int (A_note g w a c))) := by
  refine wp_ct o_X12_note (Nat.le_of_ble_eq_true rfl) ?_
  generalize (hM S tl).length = n0
  have hI0 : mI (sV S 2 (nI 0)) g := th_I hI (nI 0)
  generalize hS0 : sV S 2 (nI 0) = S0 at hI0
  have ht0 : m_thrown S0 = nI 0 := by rw [← hS0]; rfl
  obtain ⟨hC0, hU0, hM0, hR0⟩ := id hI0
  obtain ⟨c1, c2, c3, c4, c5, c6, c7, c8, c9, c10⟩ := id hC0
  obtain ⟨q1, q2, q3, q4, q5, q6⟩ := id c1
  iterate 3 refine ws_s rfl ?_
  refine wp_eqS hS0.symm ?_
  have K53 : noK w a c = false → wp G 2 M_X12_note fr n0 (pA tl (N_note g w a c b) (.int (A_note g w a c))) 53 [some (.ref 0), some (.int w), some (.int a), some (.int c), some (.int b)] [] (hM S0 tl) := by
    intro hn
    have e1 : N_note g w a c b = g := if_neg (by rw [hn]; decide)
    have e2 : A_note g w a c = -(nI 1) := if_neg (by rw [hn]; decide)
    rw [e1, e2]
    repeat refine ws_s rfl ?_
    exact wp_ri rfl rfl rfl (pA.i hI0 ht0 rfl)
  repeat refine ws_s rfl ?_
  refine wp_S (c_isInK G fr (hM S0 tl) w 0 1) rfl rfl o_X12_isIn s_X12_isIn rfl rfl (Nat.le_of_ble_eq_true rfl) (by decide) ?_
  repeat refine ws_s rfl ?_
  refine wp_bn rfl (fun hb => K53 (by unfold noK; rw [hb]; rfl)) (fun hb => ?_)
  repeat refine ws_s rfl ?_
  refine wp_S (c_isEndK G fr (hM S0 tl) a) rfl rfl o_X12_isEnd s_X12_isEnd rfl rfl (Nat.le_of_ble_eq_true rfl) (by decide) ?_
  repeat refine ws_s rfl ?_
  refine wp_bn rfl (fun hb2 => K53 (by unfold noK; rw [hb2, Bool.false_and, Bool.and_false])) (fun hb2 => ?_)
  obtain ⟨jw, _, hjw, rfl⟩ := inK_t (by decide) (by decide) hb
  obtain ⟨ja, hja, rfl⟩ := enK_t hb2
  have K32 : noK (nI jw) (nI ja) c = true → (¬ jw = 0 → enK c = true) → wp G 2 M_X12_note fr n0 (pA tl (N_note g (nI jw) (nI ja) c b) (.int (A_note g (nI jw) (nI ja) c))) 32 [some (.ref 0), some (.int (nI jw)), some (.int (nI ja)), some (.int c), some (.int b)] [] (hM S0 tl) := by
    intro hy hc
    have e1 : N_note g (nI jw) (nI ja) c b = gN g (ntN g.2.2.2.1 (noE (nI jw) (nI ja) c b)) := if_pos hy
    have e2 : A_note g (nI jw) (nI ja) c = ntA g.2.2.2.1 := if_pos hy
    have eE : noE (nI jw) (nI ja) c b = (jw, ja, cl c, 0, decide (¬ b = 0)) := by
      unfold noE
      rw [cl_nI (by omega), cl_nI (by omega)]
    rw [e1, e2, eE]
    have hok : ntOk g.1.1 g.2.2.2.1.1 (jw, ja, cl c, 0, decide (¬ b = 0)) := by
      refine ⟨by show jw ≤ 3; omega, fun _ => hja, fun z => ?_, fun z => ?_, fun z => ?_⟩
      · obtain ⟨jc, hjc, hz⟩ := enK_t (hc (by have : jw = 1 := z; omega))
        show cl c < 7
        rw [hz, cl_nI (by omega)]
        exact hjc
      · have : jw = 2 := z
        omega
      · have : jw = 3 := z
        omega
    have hvc : ¬ jw = 0 → c = nI (cl c) := by
      intro z
      obtain ⟨jc, hjc, hz⟩ := enK_t (hc z)
      rw [hz, cl_nI (by omega)]
    have K47 : ∀ v : Int32, v = bI (decide (¬ b = 0)) → wp G 2 M_X12_note fr n0 (pA tl (gN g (ntN g.2.2.2.1 (jw, ja, cl c, 0, decide (¬ b = 0)))) (.int (ntA g.2.2.2.1))) 47 [some (.ref 0), some (.int (nI jw)), some (.int (nI ja)), some (.int c), some (.int b)] [.int v, .int (nI 0), .int c, .int (nI ja), .int (nI jw), .ref 0] (hM S0 tl) := by
      intro v hv
      rw [hv]
      refine wp_cV rfl rfl o_X12_notes1 v_X12_notes1 (c_notes1 G fr S0 tl g.1.1 g.2.2.2.1 (jw, ja, cl c, 0, decide (¬ b = 0)) c hR0.1 hok hvc) rfl rfl rfl (Nat.le_of_ble_eq_true rfl) (by decide) ?_
      rintro r h' ⟨Y, rfl, y1, y2, rfl⟩
      repeat refine ws_s rfl ?_
      exact wp_ri rfl rfl rfl (pA.i (mI_N hI0 y1 fNt_o (aO_o 37) y2) ((y1.1 0 2 (Or.inr rfl)).trans ht0) rfl)
    repeat refine ws_s rfl ?_
    refine wp_ite (fun hbz => ?_) (fun hbz => ?_)
    · iterate 1 refine ws_s rfl ?_
      exact K47 _ (by rw [decide_eq_false (fun z => z hbz)]; rfl)
    · iterate 2 refine ws_s rfl ?_
      exact K47 _ (by rw [decide_eq_true hbz]; rfl)
  repeat refine ws_s rfl ?_
  refine wp_eq (x := jw) (y := 0) rfl rfl (by omega) (by decide) (fun hz => ?_) (fun hz => ?_)
  · subst hz
    exact K32 (by unfold noK; rw [hb, hb2]; rfl) (fun z => absurd rfl z)
  · repeat refine ws_s rfl ?_
    refine wp_S (c_isEndK G fr (hM S0 tl) c) rfl rfl o_X12_isEnd s_X12_isEnd rfl rfl (Nat.le_of_ble_eq_true rfl) (by decide) ?_
    repeat refine ws_s rfl ?_
    have hz2 : ¬ nI jw = 0 := fun z => hz ((nI_eq (b := 0) (by omega) (by decide)).mp z)
    refine wp_bn rfl (fun hb3 => K53 (by unfold noK; rw [hb3, decide_eq_false hz2, Bool.or_false, Bool.and_false, Bool.and_false])) (fun hb3 => K32 (by unfold noK; rw [hb, hb2, hb3, Bool.or_true]; rfl) (fun _ => hb3))
/-! see -/
def seK (P : tPL) (n h m : Int32) : Bool := inK n 1 60 && (hrK P h && inK m 0 99999)
def seE (n h m b : Int32) : tE := (2, cl n, cl h, cl m, decide (¬ b = 0))
def N_see (g : tSG) (n h m b : Int32) : tSG := if seK g.1.1 n h m = true then gN g (ntN g.2.2.2.1 (seE n h m b)) else g
def A_see (g : tSG) (n h m : Int32) : Int32 := if seK g.1.1 n h m = true then ntA g.2.2.2.1 else -(nI 1)
set_option maxRecDepth 100000 in
set_option maxHeartbeats 4000000 in
theorem c_see (G : ab_G) (fr : Bool) (S : ms_S) (tl : ab_H) (g : tSG) (hI : mI S g) (n h m b : Int32) :
    ab_CT G 2 M_X12_see fr [.ref 0, .int n, .int h, .int m, .int b] (hM S tl) 0 0 (pA tl (N_see g n h m b) (.int (A_see g n h m))) := by
  refine wp_ct o_X12_see (Nat.le_of_ble_eq_true rfl) ?_
  generalize (hM S tl).length = n0
  have hI0 : mI (sV S 2 (nI 0)) g := th_I hI (nI 0)
  generalize hS0 : sV S 2 (nI 0) = S0 at hI0
  have ht0 : m_thrown S0 = nI 0 := by rw [← hS0]; rfl
  obtain ⟨hC0, hU0, hM0, hR0⟩ := id hI0
  obtain ⟨c1, c2, c3, c4, c5, c6, c7, c8, c9, c10⟩ := id hC0
  obtain ⟨q1, q2, q3, q4, q5, q6⟩ := id c1
  iterate 3 refine ws_s rfl ?_
  refine wp_eqS hS0.symm ?_
  have K54 : seK g.1.1 n h m = false → wp G 2 M_X12_see fr n0 (pA tl (N_see g n h m b) (.int (A_see g n h m))) 54 [some (.ref 0), some (.int n), some (.int h), some (.int m), some (.int b)] [] (hM S0 tl) := by
    intro hn
    have e1 : N_see g n h m b = g := if_neg (by rw [hn]; decide)
    have e2 : A_see g n h m = -(nI 1) := if_neg (by rw [hn]; decide)
    rw [e1, e2]
    repeat refine ws_s rfl ?_
    exact wp_ri rfl rfl rfl (pA.i hI0 ht0 rfl)
  repeat refine ws_s rfl ?_
  refine wp_S (c_isInK G fr (hM S0 tl) n 1 60) rfl rfl o_X12_isIn s_X12_isIn rfl rfl (Nat.le_of_ble_eq_true rfl) (by decide) ?_
  repeat refine ws_s rfl ?_
  refine wp_bn rfl (fun hb => K54 (by unfold seK; rw [hb]; rfl)) (fun hb => ?_)
  repeat refine ws_s rfl ?_
  refine wp_V (c_isHeirK G fr S0 tl g.1.1 h q4) rfl rfl o_X12_isHeir v_X12_isHeir rfl rfl rfl (Nat.le_of_ble_eq_true rfl) (by decide) ?_
  repeat refine ws_s rfl ?_
  refine wp_bn rfl (fun hb2 => K54 (by unfold seK; rw [hb2, Bool.false_and, Bool.and_false])) (fun hb2 => ?_)
  repeat refine ws_s rfl ?_
  refine wp_S (c_isInK G fr (hM S0 tl) m 0 99999) rfl rfl o_X12_isIn s_X12_isIn rfl rfl (Nat.le_of_ble_eq_true rfl) (by decide) ?_
  repeat refine ws_s rfl ?_
  refine wp_bn rfl (fun hb3 => K54 (by unfold seK; rw [hb3, Bool.and_false, Bool.and_false])) (fun hb3 => ?_)
  have hy : seK g.1.1 n h m = true := by unfold seK; rw [hb, hb2, hb3]; rfl
  obtain ⟨jn, hjn0, hjn, rfl⟩ := inK_t (by decide) (by decide) hb
  obtain ⟨jh, hjh, rfl⟩ := hrK_t q2 hb2
  obtain ⟨jm, _, hjm, rfl⟩ := inK_t (by decide) (by decide) hb3
  have e1 : N_see g (nI jn) (nI jh) (nI jm) b = gN g (ntN g.2.2.2.1 (2, jn, jh, jm, decide (¬ b = 0))) := by
    unfold N_see seE
    rw [if_pos hy, cl_nI (by omega), cl_nI (by omega), cl_nI (by omega)]
  have e2 : A_see g (nI jn) (nI jh) (nI jm) = ntA g.2.2.2.1 := if_pos hy
  rw [e1, e2]
  have hok : ntOk g.1.1 g.2.2.2.1.1 (2, jn, jh, jm, decide (¬ b = 0)) := ⟨by show 2 ≤ 3; decide, fun z => absurd z (by show ¬ 2 ≤ 1; decide), fun z => absurd z (by show ¬ 2 = 1; decide), fun _ => ⟨hjn, hjh, hjm⟩, fun z => absurd z (by show ¬ 2 = 3; decide)⟩
  have K48 : ∀ v : Int32, v = bI (decide (¬ b = 0)) → wp G 2 M_X12_see fr n0 (pA tl (gN g (ntN g.2.2.2.1 (2, jn, jh, jm, decide (¬ b = 0)))) (.int (ntA g.2.2.2.1))) 48 [some (.ref 0), some (.int (nI jn)), some (.int (nI jh)), some (.int (nI jm)), some (.int b)] [.int v, .int (nI jm), .int (nI jh), .int (nI jn), .int (nI 2), .ref 0] (hM S0 tl) := by
    intro v hv
    rw [hv]
    refine wp_cV rfl rfl o_X12_notes1 v_X12_notes1 (c_notes1 G fr S0 tl g.1.1 g.2.2.2.1 (2, jn, jh, jm, decide (¬ b = 0)) (nI jh) hR0.1 hok (fun _ => rfl)) rfl rfl rfl (Nat.le_of_ble_eq_true rfl) (by decide) ?_
    rintro r h' ⟨Y, rfl, y1, y2, rfl⟩
    repeat refine ws_s rfl ?_
    exact wp_ri rfl rfl rfl (pA.i (mI_N hI0 y1 fNt_o (aO_o 37) y2) ((y1.1 0 2 (Or.inr rfl)).trans ht0) rfl)
  repeat refine ws_s rfl ?_
  refine wp_ite (fun hbz => ?_) (fun hbz => ?_)
  · iterate 1 refine ws_s rfl ?_
    exact K48 _ (by rw [decide_eq_false (fun z => z hbz)]; rfl)
  · iterate 2 refine ws_s rfl ?_
    exact K48 _ (by rw [decide_eq_true hbz]; rfl)
/-! strike -/
def skK (N : tN) (k : Int32) : Bool := decide (¬ k < 0 ∧ ¬ nI N.1 ≤ k)
def N_strike (g : tSG) (k : Int32) : tSG := if skK g.2.2.2.1 k = true then gN g (ntN g.2.2.2.1 (3, cl k, 0, 0, false)) else g
def A_strike (g : tSG) (k : Int32) : Int32 := if skK g.2.2.2.1 k = true then ntA g.2.2.2.1 else -(nI 1)
set_option maxRecDepth 100000 in
set_option maxHeartbeats 4000000 in
theorem c_strike (G : ab_G) (fr : Bool) (S : ms_S) (tl : ab_H) (g : tSG) (hI : mI S g) (k : Int32) :
    ab_CT G 2 M_X12_strike fr [.ref 0, .int k] (hM S tl) 0 0 (pA tl (N_strike g k) (.int (A_strike g k))) := by
  refine wp_ct o_X12_strike (Nat.le_of_ble_eq_true rfl) ?_
  generalize (hM S tl).length = n0
  have hI0 : mI (sV S 2 (nI 0)) g := th_I hI (nI 0)
  generalize hS0 : sV S 2 (nI 0) = S0 at hI0
  have ht0 : m_thrown S0 = nI 0 := by rw [← hS0]; rfl
  obtain ⟨hC0, hU0, hM0, hR0⟩ := id hI0
  obtain ⟨c1, c2, c3, c4, c5, c6, c7, c8, c9, c10⟩ := id hC0
  obtain ⟨q1, q2, q3, q4, q5, q6⟩ := id c1
  iterate 3 refine ws_s rfl ?_
  refine wp_eqS hS0.symm ?_
  obtain ⟨n1, n2, n3, n4, n5⟩ := id hR0.1
  have K17 : skK g.2.2.2.1 k = false → wp G 2 M_X12_strike fr n0 (pA tl (N_strike g k) (.int (A_strike g k))) 17 [some (.ref 0), some (.int k)] [] (hM S0 tl) := by
    intro hn
    have e1 : N_strike g k = g := if_neg (by rw [hn]; decide)
    have e2 : A_strike g k = -(nI 1) := if_neg (by rw [hn]; decide)
    rw [e1, e2]
    repeat refine ws_s rfl ?_
    exact wp_ri rfl rfl rfl (pA.i hI0 ht0 rfl)
  repeat refine ws_s rfl ?_
  refine wp_ite (fun h0 => ?_) (fun h0 => ?_)
  · exact K17 (decide_eq_false (fun z => z.1 h0))
  · repeat refine ws_s rfl ?_
    rw [show S0.1 0 75 = nI g.2.2.2.1.1 from n2]
    refine wp_ite (fun h1 => ?_) (fun h1 => ?_)
    · have hy : ¬ k < 0 ∧ ¬ nI g.2.2.2.1.1 ≤ k := ⟨h0, Int32.not_le.mpr h1⟩
      have hy2 : skK g.2.2.2.1 k = true := decide_eq_true hy
      obtain ⟨jk, hjk, rfl⟩ := ix_t (by omega) hy
      have e1 : N_strike g (nI jk) = gN g (ntN g.2.2.2.1 (3, jk, 0, 0, false)) := by
        unfold N_strike
        rw [if_pos hy2, cl_nI (by omega)]
      have e2 : A_strike g (nI jk) = ntA g.2.2.2.1 := if_pos hy2
      rw [e1, e2]
      repeat refine ws_s rfl ?_
      refine wp_cV rfl rfl o_X12_notes1 v_X12_notes1 (c_notes1 G fr S0 tl g.1.1 g.2.2.2.1 (3, jk, 0, 0, false) (nI 0) hR0.1 ⟨by show 3 ≤ 3; decide, fun z => absurd z (by show ¬ 3 ≤ 1; decide), fun z => absurd z (by show ¬ 3 = 1; decide), fun z => absurd z (by show ¬ 3 = 2; decide), fun _ => hjk⟩ (fun _ => rfl)) rfl rfl rfl (Nat.le_of_ble_eq_true rfl) (by decide) ?_
      rintro r h' ⟨Y, rfl, y1, y2, rfl⟩
      exact wp_ri rfl rfl rfl (pA.i (mI_N hI0 y1 fNt_o (aO_o 37) y2) ((y1.1 0 2 (Or.inr rfl)).trans ht0) rfl)
    · exact K17 (decide_eq_false (fun z => h1 (Int32.not_le.mp z.2)))
/-! known -/
def knK (N : tN) (n : Int32) : Bool := decide (¬ n < -(nI 1) ∧ ¬ nI N.1 < n)
def N_known (g : tSG) (n : Int32) : tSG := if knK g.2.2.2.1 n = true then gN g (g.2.2.2.1.1, n, g.2.2.2.1.2.2) else g
theorem kn_t {n : Int32} {m : Nat} (hm : m < 2 ^ 30) (h : ¬ n < -(nI 1) ∧ ¬ nI m < n) : n = -(nI 1) ∨ ∃ j, j ≤ m ∧ n = nI j := by
  by_cases hn : n < 0
  · refine Or.inl (Int32.toInt_inj.mp ?_)
    have h1 := h.1
    rw [Int32.lt_iff_toInt_lt] at h1 hn
    rw [neg_toInt (by decide)] at h1 ⊢
    have e0 : (0 : Int32).toInt = 0 := by decide
    omega
  · have h3 : ¬ nI (m + 1) ≤ n := by
      intro q
      apply h.2
      rw [Int32.le_iff_toInt_le] at q
      rw [Int32.lt_iff_toInt_lt]
      rw [nI_toInt (by omega)] at q ⊢
      omega
    obtain ⟨j, hj, hz⟩ := ix_t (n := m + 1) (by omega) ⟨hn, h3⟩
    exact Or.inr ⟨j, by omega, hz⟩
set_option maxRecDepth 100000 in
set_option maxHeartbeats 4000000 in
theorem c_known (G : ab_G) (fr : Bool) (S : ms_S) (tl : ab_H) (g : tSG) (hI : mI S g) (n : Int32) :
    ab_CT G 2 M_X12_known fr [.ref 0, .int n] (hM S tl) 0 0 (pA tl (N_known g n) (.int (bI (knK g.2.2.2.1 n)))) := by
  refine wp_ct o_X12_known (Nat.le_of_ble_eq_true rfl) ?_
  generalize (hM S tl).length = n0
  have hI0 : mI (sV S 2 (nI 0)) g := th_I hI (nI 0)
  generalize hS0 : sV S 2 (nI 0) = S0 at hI0
  have ht0 : m_thrown S0 = nI 0 := by rw [← hS0]; rfl
  obtain ⟨hC0, hU0, hM0, hR0⟩ := id hI0
  obtain ⟨c1, c2, c3, c4, c5, c6, c7, c8, c9, c10⟩ := id hC0
  obtain ⟨q1, q2, q3, q4, q5, q6⟩ := id c1
  iterate 3 refine ws_s rfl ?_
  refine wp_eqS hS0.symm ?_
  obtain ⟨n1, n2, n3, n4, n5⟩ := id hR0.1
  have ct := c_isIn G fr n (-(nI 1)) (S0.1 0 75) (hM S0 tl)
  rw [ite_bI, show S0.1 0 75 = nI g.2.2.2.1.1 from n2] at ct
  have ct2 : ab_CT G 1 M_X12_isIn fr [.int n, .int (-(nI 1)), .int (S0.1 0 75)] (hM S0 tl) 0 0 (fun r h' => r = some (.int (bI (knK g.2.2.2.1 n))) ∧ h' = hM S0 tl) := by
    rw [show S0.1 0 75 = nI g.2.2.2.1.1 from n2]
    exact ct
  repeat refine ws_s rfl ?_
  refine wp_S (ct2) rfl rfl o_X12_isIn s_X12_isIn rfl rfl (Nat.le_of_ble_eq_true rfl) (by decide) ?_
  repeat refine ws_s rfl ?_
  refine wp_bn rfl (fun hb => ?_) (fun hb => ?_)
  · have e1 : N_known g n = g := if_neg (by rw [hb]; decide)
    rw [e1, hb]
    repeat refine ws_s rfl ?_
    exact wp_ri rfl rfl rfl (pA.i hI0 ht0 rfl)
  · have e1 : N_known g n = gN g (g.2.2.2.1.1, n, g.2.2.2.1.2.2) := if_pos hb
    rw [e1, hb]
    repeat refine ws_s rfl ?_
    have hE : mE (fun k => Nat.beq k 76) fN S0 (sV S0 76 n) := mE.sV rfl
    refine wp_ri rfl rfl rfl (pA.i (mI_N hI0 hE (fun k => ?_) (fun a => Or.inr rfl) ⟨n1, n2, rfl, kn_t (by omega) (of_decide_eq_true hb), n5⟩) ht0 rfl)
    cases hk : Nat.beq k 76 with
    | false => exact Or.inr rfl
    | true => exact Or.inl (Or.inr (Nat.eq_of_beq_eq_true hk))
