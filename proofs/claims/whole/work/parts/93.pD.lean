/-! ===== the program: a law worked out ===== -/
theorem ctI.pk {G : ab_G} {d : Nat} {M : ab_MD} {fr : Bool} {as : List Value} {lay : List ms_D} {S : ms_S} {tl : ab_H} {K : Int32 → ms_S → Prop} (c : ctI G d M fr as lZ ms_0 (hLy lay S tl) (fun v _ => K v S)) : ctI G d M fr as lay S tl K := Met_mono c (fun _ _ ⟨v, _, e1, e2, e3⟩ => ⟨v, S, e1, e2, e3⟩)
theorem ctL.pk {G : ab_G} {d : Nat} {M : ab_MD} {fr : Bool} {as : List Value} {lay : List ms_D} {S : ms_S} {tl : ab_H} {K : Int64 → ms_S → Prop} (c : ctL G d M fr as lZ ms_0 (hLy lay S tl) (fun v _ => K v S)) : ctL G d M fr as lay S tl K := Met_mono c (fun _ _ ⟨v, _, e1, e2, e3⟩ => ⟨v, S, e1, e2, e3⟩)
/-- a knot as the program keeps it -/
def knE (x : Nat × Nat) : Int32 := if x.1 = 0 then nI x.2 else if x.1 = 1 then -(nI (x.2 + 1)) else -(nI (tkO x.1))
/-- a law that can be worked out -/
def vK (kn : Nat → Nat × Nat) (j : Nat) : Prop := (kn j).1 ≤ 14 ∧ ((kn j).1 = 1 → (kn j).2 < 7) ∧ (kn j).2 ≤ 9999 ∧ ((kn j).1 = 2 → ∃ a r, ixF kn j = a :: r) ∧ (3 ≤ (kn j).1 → ∃ c a r, ixF kn j = c :: a :: r)
def vQ (q : tDQ) : Prop := 0 < q.1 ∧ q.1 ≤ 64 ∧ ixF q.2 q.1 = [q.1 - 1] ∧ ∀ j, j < q.1 → vK q.2 j
def szQ : Option tDQ → Nat
  | none => 0
  | some q => q.1
def dyQ (q : tDQ) : Bool := anB (fun j => decide (q.2 j = (1, 6))) q.1
def oQ (S : ms_S) : Option tDQ → Prop
  | none => S.1 0 4 = nI 0
  | some q => vQ q ∧ S.1 0 4 = bI (dyQ q) ∧ ∀ j, j < q.1 → S.2.2.2.1 1 j = knE (q.2 j)
def mLw (S : ms_S) (o : Option tDQ) : Prop := S.1 0 3 = nI (szQ o) ∧ oQ S o
/-- only the stack and the names from 1 to 4 have changed -/
def wfr (S S' : ms_S) : Prop := S'.1 = S.1 ∧ S'.2.1 = S.2.1 ∧ S'.2.2.1 = S.2.2.1 ∧ S'.2.2.2.1 = S.2.2.2.1 ∧ (∀ j, 5 ≤ j → S'.2.2.2.2 3 j = S.2.2.2.2 3 j) ∧ ∀ a, a < 2 → S'.2.2.2.2 a = S.2.2.2.2 a
def stR (A : Nat → Int64) : List Int64 → Prop
  | [] => True
  | x :: r => A r.length = x ∧ stR A r
theorem stR_u {A : Nat → Int64} {i : Nat} {x : Int64} : ∀ {st : List Int64}, st.length ≤ i → stR A st → stR (vp_updL A i x) st
  | [], _, _ => trivial
  | a :: r, h, q => by
    have h : r.length + 1 ≤ i := h
    exact ⟨(updL_no (by omega)).trans q.1, stR_u (by omega) q.2⟩
theorem evR_len (nm : Nat → Int64) (kn : Nat → Nat × Nat) : ∀ j, (evR nm kn j).1.length = (ixF kn j).length
  | 0 => rfl
  | j + 1 => by
    have ih := evR_len nm kn j
    show (evS nm (kn j).1 (kn j).2 (evR nm kn j)).1.length = (stI (ixF kn j) (kn j).1 j).length
    unfold evS stI
    split
    · show _ + 1 = _ + 1
      rw [ih]
    · split
      · show (evR nm kn j).1.tail.length + 1 = (ixF kn j).tail.length + 1
        rw [List.length_tail, List.length_tail, ih]
      · show (evR nm kn j).1.tail.tail.length + 1 = (ixF kn j).tail.tail.length + 1
        rw [List.length_tail, List.length_tail, List.length_tail, List.length_tail, ih]
theorem ixF_le (kn : Nat → Nat × Nat) : ∀ j, (ixF kn j).length ≤ j
  | 0 => Nat.le_refl _
  | j + 1 => by
    have ih := ixF_le kn j
    show (stI (ixF kn j) (kn j).1 j).length ≤ j + 1
    unfold stI
    split
    · show _ + 1 ≤ _
      omega
    · split
      · show (ixF kn j).tail.length + 1 ≤ _
        rw [List.length_tail]
        omega
      · show (ixF kn j).tail.tail.length + 1 ≤ _
        rw [List.length_tail, List.length_tail]
        omega
theorem mVal_ne {k : Nat} {pI er : Int32} {x y nv : Int64} (h : ¬ er = 0) : ¬ (mVal k pI x y nv er).2 = 0 := by
  unfold mVal
  split
  · exact h
  · exact h
  · exact h
  · exact h
  · exact h
  · have h2 : bdE er (x + y) := Or.inl h
    rw [if_pos h2, if_pos h2]
    show ¬ nI 1 = 0
    decide
  · have h2 : bdE er (x - y) := Or.inl h
    rw [if_pos h2, if_pos h2]
    show ¬ nI 1 = 0
    decide
  · have h2 : tmF er x y := Or.inl h
    rw [if_pos h2, if_pos h2]
    show ¬ nI 1 = 0
    decide
  · have h2 : dvE er y := Or.inl h
    rw [if_pos h2, if_pos h2]
    show ¬ nI 1 = 0
    decide
  · exact h
theorem evR_er {nm : Nat → Int64} {kn : Nat → Nat × Nat} {j : Nat} (h : ¬ (evR nm kn j).2 = 0) : ∀ d, ¬ (evR nm kn (j + d)).2 = 0
  | 0 => h
  | d + 1 => by
    have ih := evR_er h d
    show ¬ (evS nm (kn (j + d)).1 (kn (j + d)).2 (evR nm kn (j + d))).2 = 0
    unfold evS
    split
    · exact mVal_ne ih
    · split
      · exact mVal_ne ih
      · exact mVal_ne ih
theorem bd_nI {x : Nat} (h : x < 2 ^ 31) : bd (nI x).toInt64 := by
  unfold bd
  rw [Int32.toInt_toInt64, nI_toInt h]
  omega
theorem env_bd {a b c d e f g : Nat} (ha : a < 2 ^ 31) (hb : b < 2 ^ 31) (hc : c < 2 ^ 31) (hd : d < 2 ^ 31) (he : e < 2 ^ 31) (hf : f < 2 ^ 31) (hg : g < 2 ^ 31) (i : Nat) : bd (env a b c d e f g i) := by
  unfold env
  refine bd_nI ?_
  split <;> assumption
theorem cl_1 {k : Nat} (h : 0 < k) : nI k + -(nI 1) = nI (k - 1) := by
  rw [← Int32.sub_eq_add_neg]
  exact pk_sub (by omega)
set_option maxHeartbeats 1000000 in
theorem c_work (G : ab_G) (fr : Bool) (S : ms_S) (tl : ab_H) (o : Option tDQ) (h : mLw S o) (a b c d e f g : Nat) (ha : a < 2 ^ 31) (hb : b < 2 ^ 31) (hc : c < 2 ^ 31) (hd : d < 2 ^ 31) (he : e < 2 ^ 31) (hf : f < 2 ^ 31) (hg : g < 2 ^ 31) (h5 : S.2.2.2.2 3 5 = (nI e).toInt64) (h6 : S.2.2.2.2 3 6 = (nI f).toInt64) (h7 : S.2.2.2.2 3 7 = (nI g).toInt64) (K : Int64 → ms_S → Prop)
    (k : ∀ S', wfr S S' → (∀ v, evW o (env a b c d e f g) = some v → bd v) → K ((evW o (env a b c d e f g)).getD NTM) S') : ctL G 3 M_X4_work fr [.ref 0, .int (nI a), .int (nI b), .int (nI c), .int (nI d)] lLw S tl K := by
  refine m_X4_work (fun n0 => ?_)
  have vp : ∀ j, j < 8 → vp_in (nI j) 8 := fun j hj => (x_vp (by omega)).mpr hj
  refine ⟨vp 1 (by decide), vp 2 (by decide), vp 3 (by decide), vp 4 (by decide), ?_⟩
  rw [show (nI 1).toNatClampNeg = 1 from rfl, show (nI 2).toNatClampNeg = 2 from rfl, show (nI 3).toNatClampNeg = 3 from rfl, show (nI 4).toNatClampNeg = 4 from rfl]
  generalize hS1 : sL (sL (sL (sL S 3 1 (nI a).toInt64) 3 2 (nI b).toInt64) 3 3 (nI c).toInt64) 3 4 (nI d).toInt64 = S1
  have w1 : wfr S S1 := by
    rw [← hS1]
    refine ⟨rfl, rfl, rfl, rfl, fun j hj => ?_, fun a ha => ((((u1_ne (by omega)).trans (u1_ne (by omega))).trans (u1_ne (by omega))).trans (u1_ne (by omega)))⟩
    show vp_updL (vp_updL (vp_updL (vp_updL (S.2.2.2.2 3) 1 _) 2 _) 3 _) 4 _ j = _
    rw [updL_no (by omega), updL_no (by omega), updL_no (by omega), updL_no (by omega)]
  have nms : ∀ i, i < 7 → S1.2.2.2.2 3 (i + 1) = env a b c d e f g i := by
    intro i hi
    rw [← hS1]
    show vp_updL (vp_updL (vp_updL (vp_updL (S.2.2.2.2 3) 1 _) 2 _) 3 _) 4 _ (i + 1) = _
    rcases (show i = 0 ∨ i = 1 ∨ i = 2 ∨ i = 3 ∨ i = 4 ∨ i = 5 ∨ i = 6 by omega) with rfl | rfl | rfl | rfl | rfl | rfl | rfl
    · rfl
    · rfl
    · rfl
    · rfl
    · exact h5
    · exact h6
    · exact h7
  clear hS1
  obtain ⟨hs, hq⟩ := h
  have ebd := env_bd ha hb hc hd he hf hg
  generalize env a b c d e f g = nm at *
  cases o with
  | none =>
    refine b_X4_work_39 ?_
    rw [w1.1, hs]
    refine ⟨fun _ => b_X4_work_246 ⟨fun z => absurd z (by decide), fun _ => b_X4_work_264 (k S1 w1 (fun v hv => by cases hv))⟩, fun z => absurd (Int32.le_refl _) z⟩
  | some q =>
    obtain ⟨⟨v1, v2, v3, v4⟩, hd4, hk⟩ := hq
    have hs : S.1 0 3 = nI q.1 := hs
    have hev : evW (some q) nm = evQ q nm := rfl
    rw [hev] at k
    unfold evQ at k
    suffices KL : ∀ r j (X : ms_S), j + r = q.1 → wfr S X → (∀ i, i < 7 → X.2.2.2.2 3 (i + 1) = nm i) → (evR nm q.2 j).2 = 0 → stR (X.2.2.2.2 2) (evR nm q.2 j).1 → (∀ v, v ∈ (evR nm q.2 j).1 → bd v) → L_X4_work_39 G fr n0 tl K X (nI (evR nm q.2 j).1.length) (nI j) from KL q.1 0 S1 (by omega) w1 nms rfl trivial (fun v hv => by cases hv)
    intro r
    induction r with
    | zero =>
      intro j X hj x1 x2 x3 x4 x5
      have hj : j = q.1 := hj
      subst hj
      have hl : (evR nm q.2 q.1).1.length = 1 := by rw [evR_len, v3]; rfl
      refine b_X4_work_39 ?_
      rw [x1.1, hs]
      refine ⟨fun _ => b_X4_work_246 ?_, fun z => absurd (Int32.le_refl _) z⟩
      rw [hl]
      refine ⟨fun _ => ⟨(x_vp (by decide)).mpr (by decide), b_X4_work_264 ?_⟩, fun z => absurd rfl z⟩
      rw [if_pos x3] at k
      cases hE : (evR nm q.2 q.1).1 with
      | nil => rw [hE] at hl; cases hl
      | cons y t =>
        rw [hE] at hl x4 k
        have ht : t = [] := List.length_eq_zero_iff.mp (Nat.succ.inj hl)
        subst ht
        have e0 : X.2.2.2.2 2 0 = y := x4.1
        rw [show (nI 0).toNatClampNeg = 0 from rfl, e0]
        exact k X x1 (fun v hv => by cases hv; exact x5 _ (by rw [hE]; exact List.mem_cons_self))
    | succ r ih =>
      intro j X hj x1 x2 x3 x4 x5
      have hjq : j < q.1 := by omega
      have hlen := evR_len nm q.2 j
      have hlj := ixF_le q.2 j
      obtain ⟨c1, c2, c3, c4, c5⟩ := v4 j hjq
      have hkj : X.2.2.2.1 1 j = knE (q.2 j) := (congrFun (congrFun x1.2.2.2.1 1) j).trans (hk j hjq)
      have hU : evR nm q.2 (j + 1) = evS nm (q.2 j).1 (q.2 j).2 (evR nm q.2 j) := rfl
      generalize hE : evR nm q.2 j = E at *
      -- one value is put on the stack at place p, and on it goes
      have KP : ∀ (v : Int64) (rest : List Int64), evR nm q.2 (j + 1) = (v :: rest, nI 0) → stR (X.2.2.2.2 2) rest → (∀ u, u ∈ rest → bd u) → bd v → rest.length ≤ 64 → L_X4_work_240 G fr n0 tl K (sL X 2 rest.length v) (nI (rest.length + 1)) (nI j) := by
        intro v rest p1 p2 p3 p4 p5
        refine b_X4_work_240 ?_
        rw [nI_add]
        have := ih (j + 1) (sL X 2 rest.length v) (by omega) ⟨x1.1, x1.2.1, x1.2.2.1, x1.2.2.2.1, x1.2.2.2.2.1, fun a ha => (u1_ne (by omega)).trans (x1.2.2.2.2.2 a ha)⟩ x2 (by rw [p1]; rfl) (by rw [p1]; exact ⟨updL_at, stR_u (Nat.le_refl _) p2⟩) (fun u hu => by
          rw [p1] at hu
          rcases List.mem_cons.mp hu with rfl | hu
          · exact p4
          · exact p3 u hu)
        rw [p1] at this
        exact this
      refine b_X4_work_39 ?_
      rw [x1.1, hs, nI_leI (by omega) (by omega), nI_leI (by decide) (by omega), nI_clamp (by omega), hkj]
      refine ⟨fun z => absurd z (by omega), fun _ => ⟨fun z => absurd z (by omega), fun _ => ⟨(x_vp (by omega)).mpr (by omega), ?_⟩⟩⟩
      rcases (show (q.2 j).1 = 0 ∨ (q.2 j).1 = 1 ∨ (q.2 j).1 = 2 ∨ 3 ≤ (q.2 j).1 by omega) with z | z | z | z
      · -- a number
        have ek : knE (q.2 j) = nI (q.2 j).2 := by unfold knE; rw [if_pos z]
        rw [ek]
        refine ⟨fun _ => b_X4_work_81 ?_, fun y => absurd ((x_0le (by omega)).mpr trivial) y⟩
        rw [nI_ltI (by omega) (by decide)]
        refine ⟨fun _ => ⟨fun y => absurd y (nI_pos (by omega)), fun _ => b_X4_work_116 ⟨(x_vp (by omega)).mpr (by omega), ?_⟩⟩, fun y => absurd (show E.1.length < 64 by omega) y⟩
        rw [nI_clamp (by omega), nI_add]
        refine KP _ E.1 ?_ x4 x5 (bd_nI (by omega)) (by omega)
        rw [hU, z]
        unfold evS
        rw [if_pos (by decide), x3]
        simp only [mVal]
        rfl
      · -- a name
        have ek : knE (q.2 j) = -(nI ((q.2 j).2 + 1)) := by unfold knE; rw [if_neg (by omega), if_pos z]
        have hx := c2 z
        rw [ek, Int32.neg_neg]
        have K81 : L_X4_work_81 G fr n0 tl K X (nI E.1.length) (nI j) (-(nI ((q.2 j).2 + 1))) (nI ((q.2 j).2 + 1)) := by
          refine b_X4_work_81 ?_
          rw [nI_ltI (by omega) (by decide), nI_clamp (by omega), x2 _ hx]
          refine ⟨fun _ => ⟨fun _ => ⟨(x_vp (by omega)).mpr (by omega), b_X4_work_116 ⟨(x_vp (by omega)).mpr (by omega), ?_⟩⟩, fun y => absurd (neg_neg (by omega) (by omega)) y⟩, fun y => absurd (show E.1.length < 64 by omega) y⟩
          rw [nI_clamp (by omega), nI_add]
          refine KP _ E.1 ?_ x4 x5 (ebd _) (by omega)
          rw [hU, z]
          unfold evS
          rw [if_pos (by decide), x3]
          simp only [mVal]
          rfl
        refine ⟨fun y => absurd y ((x_0n (by omega) (by omega)).mp), fun _ => ⟨fun y => ?_, fun _ => K81⟩⟩
        rw [nI_ltI (by decide) (by omega)] at y
        exact absurd y (by omega)
      · -- not
        have ek : knE (q.2 j) = -(nI 10) := by unfold knE tkO; rw [if_neg (by omega), if_neg (by omega), if_pos z]
        obtain ⟨a1, r1, hix⟩ := c4 z
        rw [hix] at hlen
        cases hE1 : E.1 with
        | nil => rw [hE1] at hlen; cases hlen
        | cons y t =>
          rw [hE1] at hlen x4 x5
          have hlj2 : r1.length + 1 ≤ j := by rw [hix] at hlj; exact hlj
          have hlen : t.length + 1 = r1.length + 1 := hlen
          have ey : X.2.2.2.2 2 t.length = y := x4.1
          rw [ek, Int32.neg_neg, show (y :: t).length = t.length + 1 from rfl, nI_leI (by decide) (by omega), pk_sub (by omega), show t.length + 1 - 1 = t.length by omega, nI_clamp (by omega), ey, lg_cmp_eq]
          refine ⟨fun w => absurd w ((x_0n (by decide) (by decide)).mp), fun _ => ⟨fun _ => ⟨fun _ => ⟨fun _ => ⟨(x_vp (by omega)).mpr (by omega), fun w => b_X4_work_167 ⟨(x_vp (by omega)).mpr (by omega), ?_⟩, fun w => b_X4_work_167 ⟨(x_vp (by omega)).mpr (by omega), ?_⟩⟩, fun w => absurd (show 1 ≤ t.length + 1 by omega) w⟩, fun w => absurd rfl w⟩, fun w => absurd (show nI 7 < nI 10 by decide) w⟩⟩
          · rw [nI_clamp (by omega)]
            refine KP _ t ?_ x4.2 (fun u hu => x5 u (List.mem_cons_of_mem _ hu)) (bd_bL true) (by omega)
            rw [hU, z]
            unfold evS
            rw [if_neg (by decide), if_pos rfl, x3, hE1]
            show ((mVal 2 0 y 0 0 0).1 :: t, (mVal 2 0 y 0 0 0).2) = _
            simp only [mVal]
            rw [decide_eq_true (show y = 0 from w)]
            rfl
          · rw [nI_clamp (by omega)]
            refine KP _ t ?_ x4.2 (fun u hu => x5 u (List.mem_cons_of_mem _ hu)) (bd_bL false) (by omega)
            rw [hU, z]
            unfold evS
            rw [if_neg (by decide), if_pos rfl, x3, hE1]
            show ((mVal 2 0 y 0 0 0).1 :: t, (mVal 2 0 y 0 0 0).2) = _
            simp only [mVal]
            rw [decide_eq_false (show ¬ y = 0 from w)]
            rfl
      · -- a sign
        have ek : knE (q.2 j) = -(nI (tkO (q.2 j).1)) := by unfold knE; rw [if_neg (by omega), if_neg (by omega)]
        have ht : 8 ≤ tkO (q.2 j).1 ∧ tkO (q.2 j).1 ≤ 20 ∧ ¬ tkO (q.2 j).1 = 10 := by
          unfold tkO
          rw [if_neg (by omega)]
          split
          · omega
          · split <;> omega
        obtain ⟨cc, aa, r1, hix⟩ := c5 z
        rw [hix] at hlen
        cases hE1 : E.1 with
        | nil => rw [hE1] at hlen; cases hlen
        | cons y t1 =>
          cases t1 with
          | nil => rw [hE1] at hlen; cases hlen
          | cons x t =>
            rw [hE1] at hlen x4 x5
            have hlj2 : r1.length + 2 ≤ j := by rw [hix] at hlj; exact hlj
            have hlen : t.length + 1 + 1 = r1.length + 1 + 1 := hlen
            have ey : X.2.2.2.2 2 (t.length + 1) = y := x4.1
            have ex : X.2.2.2.2 2 t.length = x := x4.2.1
            rw [ek, Int32.neg_neg, show (y :: x :: t).length = t.length + 2 from rfl, nI_leI (a := 2) (by decide) (by omega), cl_1 (by omega), show t.length + 2 - 1 = t.length + 1 by omega, show nI (t.length + 1) - nI 1 = nI t.length from by rw [pk_sub (by omega)]; rfl, show (nI t.length).toNatClampNeg = t.length from nI_clamp (by omega), show (nI (t.length + 1)).toNatClampNeg = t.length + 1 from nI_clamp (by omega), ey, ex, nI_eq (by omega) (by decide), nI_ltI (by decide) (by omega)]
            refine ⟨fun w => absurd w ((x_0n (by omega) (by omega)).mp), fun _ => ⟨fun _ => ⟨fun w => absurd w ht.2.2, fun _ => ⟨fun _ => ⟨(x_vp (by omega)).mpr (by omega), (x_vp (by omega)).mpr (by omega), ?_⟩, fun w => absurd (show 2 ≤ t.length + 2 by omega) w⟩⟩, fun w => absurd (show 7 < tkO (q.2 j).1 by omega) w⟩⟩
            have hEv : evR nm q.2 (j + 1) = ((mVal (q.2 j).1 0 x y 0 (nI 0)).1 :: t, (mVal (q.2 j).1 0 x y 0 (nI 0)).2) := by
              rw [hU]
              unfold evS
              rw [if_neg (by omega), if_neg (by omega), x3, hE1]
              rfl
            refine ctL.pk (u_result G fr ms_0 _ (q.2 j).1 z c1 x y (x5 x (List.mem_cons_of_mem _ List.mem_cons_self)) (x5 y List.mem_cons_self) _ (fun v hv => ?_))
            rw [lg_cmp_gt, lg_cmp_ge]
            rcases hv with ⟨r1, r2, r3⟩ | ⟨r1, r2⟩
            · have r4 := bd_iff.mp r3
              refine ⟨fun w => absurd (Or.inl w) r4, fun _ => ⟨fun _ => ⟨(x_vp (by omega)).mpr (by omega), ?_⟩, fun w => absurd (Or.inr (Int64.not_le.mp w)) r4⟩⟩
              refine KP v t ?_ x4.2.2 (fun u hu => x5 u (List.mem_cons_of_mem _ (List.mem_cons_of_mem _ hu))) r3 (by omega)
              rw [hEv, ← r2, r1]
              rfl
            · have hno : K NTM X := by
                have e1 : ¬ (evR nm q.2 (j + 1)).2 = 0 := by rw [hEv]; exact r1
                have e2 := evR_er e1 (q.1 - (j + 1))
                rw [show j + 1 + (q.1 - (j + 1)) = q.1 by omega] at e2
                rw [if_neg e2] at k
                exact k X x1 (fun v hv => by cases hv)
              exact ⟨fun _ => b_X4_work_225 hno, fun w => ⟨fun w2 => absurd (bd_iff.mpr (fun w3 => w3.elim w (fun w4 => absurd w2 (Int64.not_le.mpr w4)))) r2, fun _ => b_X4_work_225 hno⟩⟩

