/-! ===== the reference: what notes say ===== -/
/-- which notes count, the top j looked at -/
def ctR (x : Nat → tE) (kb : Nat) : Nat → Nat → Bool
  | 0 => fun _ => true
  | j + 1 => if ctR x kb j (kb - 1 - j) = true ∧ (x (kb - 1 - j)).1 = 3 then (fun k => if k = (x (kb - 1 - j)).2.1 then false else ctR x kb j k) else ctR x kb j
abbrev ctN (N : tN) : Nat → Bool := ctR N.2.2 (kbN N) (kbN N)
def mCt (S : ms_S) (N : tN) : Prop := ∀ k, k < kbN N → a_counts S k = bI (ctN N k)
set_option maxRecDepth 100000 in
set_option maxHeartbeats 4000000 in
theorem c_layCounts (G : ab_G) (fr : Bool) (S : ms_S) (tl : ab_H) (P : tPL) (N : tN) (hN : mN S P N) :
    ab_CT G 2 M_X12_layCounts fr [.ref 0] (hM S tl) 0 0 (fun r h' => ∃ S', h' = hM S' tl ∧ mE fN (aO 38) S S' ∧ mCt S' N ∧ r = none) := by
  refine wp_ct o_X12_layCounts (Nat.le_of_ble_eq_true rfl) ?_
  generalize hpost : (fun (r : Option Value) (h' : ab_H) => ∃ S', h' = hM S' tl ∧ mE fN (aO 38) S S' ∧ mCt S' N ∧ r = none) = post
  generalize (hM S tl).length = n0
  have hkb := kbN_le hN
  obtain ⟨n1, n2, n3, n4, n5⟩ := id hN
  have hNX : ∀ X : ms_S, mE fN (aO 38) S X → mN X P N := fun X x1 => mN_F (x1.1 0 75 (Or.inr rfl)) (x1.1 0 76 (Or.inr rfl)) (x1.2.2.2.1 37 rfl) hN
  iterate 2 refine ws_s rfl ?_
  refine wp_downX (X := ms_S) (kbN N) (fun i X => mE fN (aO 38) S X ∧ ∀ k, k < i → a_counts X k = nI 1) (fun i X => [some (.ref 0), some (.int (nI i))]) (fun X => hM X tl) ?_ ?_ S ⟨mE.rf, fun k hk => by omega⟩
  · rintro X ⟨x1, x2⟩
    repeat refine ws_s rfl ?_
    refine wp_V (c_knownBy G fr X tl P N (hNX X x1)) rfl rfl o_X12_knownBy v_X12_knownBy rfl rfl rfl (Nat.le_of_ble_eq_true rfl) (by decide) ?_
    repeat refine ws_s rfl ?_
    refine wp_le (rfl) (rfl) (by first | omega | decide) (by first | omega | decide) (fun z => ?_) (fun z => absurd z (by omega))
    repeat refine ws_s rfl ?_
    refine wp_V (c_knownBy G fr X tl P N (hNX X x1)) rfl rfl o_X12_knownBy v_X12_knownBy rfl rfl rfl (Nat.le_of_ble_eq_true rfl) (by decide) ?_
    iterate 3 refine ws_s rfl ?_
    have K : ∀ f j (X : ms_S), j + f = kbN N → mE fN (aO 38) S X → (∀ k, k < kbN N → a_counts X k = bI (ctR N.2.2 (kbN N) j k)) → wp G 2 M_X12_layCounts fr n0 post 30 [some (.ref 0), some (.int (nI f - nI 1))] [] (hM X tl) := by
      intro f
      induction f with
      | zero =>
        intro j X hj x1 x2
        have hjk : j = kbN N := by omega
        subst hjk
        repeat refine ws_s rfl ?_
        refine wp_rv rfl rfl ?_
        rw [← hpost]
        exact ⟨X, rfl, x1, x2, rfl⟩
      | succ f ih =>
        intro j X hj x1 x2
        have ef : kbN N - 1 - j = f := by omega
        have e37 : ∀ i, a_noted1 X i = a_noted1 S i := fun i => congrFun (x1.2.2.2.1 37 rfl) i
        obtain ⟨k1, k2, k3, k4, k5, k6⟩ := n5 f (by omega)
        have es : nI (f + 1) - nI 1 = nI f := pk_sub (by omega)
        rw [es]
        have eS : ctR N.2.2 (kbN N) (j + 1) = (if ctR N.2.2 (kbN N) j f = true ∧ (N.2.2 f).1 = 3 then (fun k => if k = (N.2.2 f).2.1 then false else ctR N.2.2 (kbN N) j k) else ctR N.2.2 (kbN N) j) := by
          show (if ctR N.2.2 (kbN N) j (kbN N - 1 - j) = true ∧ (N.2.2 (kbN N - 1 - j)).1 = 3 then _ else _) = _
          rw [ef]
        have K71 : ∀ Y : ms_S, mE fN (aO 38) S Y → (∀ k, k < kbN N → a_counts Y k = bI (ctR N.2.2 (kbN N) (j + 1) k)) → wp G 2 M_X12_layCounts fr n0 post 71 [some (.ref 0), some (.int (nI f))] [] (hM Y tl) := by
          intro Y y1 y2
          repeat refine ws_s rfl ?_
          refine ws_b rfl ?_
          exact wp_eqL (by rw [Int32.sub_eq_add_neg]; rfl) (ih (j + 1) Y (by omega) y1 y2)
        repeat refine ws_s rfl ?_
        refine wp_ite (fun w => absurd w (nI_pos (by omega))) (fun _ => ?_)
        repeat refine ws_s rfl ?_
        refine ws_ld (k := f) rfl (by first | rfl | (simp only [pk_mul, nI_add]; done)) (by omega) (by decide) (x2 f (by omega)) ?_
        repeat refine ws_s rfl ?_
        refine wp_bn rfl (fun hf => ?_) (fun hf => ?_)
        · exact K71 X x1 (fun k hk => by rw [eS, if_neg (fun z => by rw [hf] at z; cases z.1)]; exact x2 k hk)
        · have hx3 := k6.1
          repeat refine ws_s rfl ?_
          refine ws_ld (k := 5 * f) rfl (by first | rfl | (simp only [pk_mul, nI_add]; done)) (by omega) (by decide) ((e37 _).trans k1) ?_
          repeat refine ws_s rfl ?_
          refine wp_eq (x := (N.2.2 f).1) (y := 3) rfl rfl (by omega) (by decide) (fun h3 => ?_) (fun h3 => ?_)
          · have hlt := k6.2.2.2.2 h3
            repeat refine ws_s rfl ?_
            refine ws_ld (k := 5 * f + 1) rfl (by first | rfl | (simp only [pk_mul, nI_add]; done)) (by omega) (by decide) ((e37 _).trans k2) ?_
            repeat refine ws_s rfl ?_
            refine ws_sa (k := (N.2.2 f).2.1) rfl (by first | rfl | (simp only [pk_mul, nI_add]; done)) (by omega) (by decide) (rfl) ?_
            refine K71 _ (x1.tr (mE.sA rfl)) (fun k hk => ?_)
            rw [eS, if_pos ⟨hf, h3⟩]
            show upd (X.2.2.2.1 38) (N.2.2 f).2.1 (nI 0 &&& 1) k = _
            unfold upd
            by_cases z : k = (N.2.2 f).2.1
            · rw [if_pos z, if_pos z]
              rfl
            · rw [if_neg z, if_neg z]
              exact x2 k hk
          · exact K71 X x1 (fun k hk => by rw [eS, if_neg (fun z => h3 z.2)]; exact x2 k hk)
    exact K (kbN N) 0 X (by omega) x1 (fun k hk => x2 k hk)
  · rintro i X hi ⟨x1, x2⟩ kn
    repeat refine ws_s rfl ?_
    refine wp_V (c_knownBy G fr X tl P N (hNX X x1)) rfl rfl o_X12_knownBy v_X12_knownBy rfl rfl rfl (Nat.le_of_ble_eq_true rfl) (by decide) ?_
    repeat refine ws_s rfl ?_
    refine wp_le (rfl) (rfl) (by first | omega | decide) (by first | omega | decide) (fun z => absurd z (by omega)) (fun z => ?_)
    repeat refine ws_s rfl ?_
    refine ws_sa (k := i) rfl (by first | rfl | (simp only [pk_mul, nI_add]; done)) (by omega) (by decide) (rfl) ?_
    repeat refine ws_s rfl ?_
    refine ws_b rfl ?_
    refine wp_eqL (by rw [← nI_add i 1]; rfl) (kn _ ⟨x1.tr (mE.sA rfl), fun k hk => ?_⟩)
    show upd (X.2.2.2.1 38) i (nI 1 &&& 1) k = _
    unfold upd
    by_cases z : k = i
    · rw [if_pos z]
      rfl
    · rw [if_neg z]
      exact x2 k (by omega)
/-- a piece of these ends is told -/
def toN (P : tPL) (a c : Nat) : Nat → Bool
  | 0 => false
  | p + 1 => toN P a c p || ((decide (P.2.2.1 p = a) && decide (P.2.2.2.1 p = c)) || (decide (P.2.2.1 p = c) && decide (P.2.2.2.1 p = a)))
theorem toN_mono {P : tPL} {a c p : Nat} (h : toN P a c p = true) : ∀ d, toN P a c (p + d) = true
  | 0 => h
  | d + 1 => by
    show (toN P a c (p + d) || _) = true
    rw [toN_mono h d]
    rfl
set_option maxRecDepth 100000 in
set_option maxHeartbeats 4000000 in
theorem c_isTold (G : ab_G) (fr : Bool) (S : ms_S) (tl : ab_H) (P : tPL) (ja jc : Nat) (hP : mPL S P) (hja : ja < 7) (hjc : jc < 7) :
    ab_CT G 1 M_X12_isTold fr [.ref 0, .int (nI ja), .int (nI jc)] (hM S tl) 0 0 (fun r h' => r = some (.int (bI (toN P ja jc P.1))) ∧ h' = hM (S) tl) := by
  refine ct_of o_X12_isTold (Nat.le_of_ble_eq_true rfl) (fun n0 post hp => ?_)
  obtain ⟨q1, q2, q3, q4, q5, q6⟩ := id hP
  iterate 2 refine ws_s rfl ?_
  have K : ∀ f p, p + f = P.1 → toN P ja jc p = false → wp G 1 M_X12_isTold fr n0 post 2 [some (.ref 0), some (.int (nI ja)), some (.int (nI jc)), some (.int (nI p))] [] (hM S tl) := by
    intro f
    induction f with
    | zero =>
      intro p hpf hno
      have : p = P.1 := by omega
      subst this
      rw [hno] at hp
      repeat refine ws_s rfl ?_
      refine wp_le (q3) (rfl) (by first | omega | decide) (by first | omega | decide) (fun z => ?_) (fun z => absurd z (by omega))
      repeat refine ws_s rfl ?_
      exact wp_ri rfl rfl rfl hp
    | succ f ih =>
      intro p hpf hno
      obtain ⟨e1, e2, e3, e4, e5, e6⟩ := q5 p (by omega)
      have eS : toN P ja jc (p + 1) = ((decide (P.2.2.1 p = ja) && decide (P.2.2.2.1 p = jc)) || (decide (P.2.2.1 p = jc) && decide (P.2.2.2.1 p = ja))) := by
        show (toN P ja jc p || _) = _
        rw [hno]
        rfl
      have K50 : toN P ja jc (p + 1) = true → wp G 1 M_X12_isTold fr n0 post 50 [some (.ref 0), some (.int (nI ja)), some (.int (nI jc)), some (.int (nI p))] [] (hM S tl) := by
        intro hy
        have h9 := toN_mono hy f
        rw [show p + 1 + f = P.1 by omega] at h9
        rw [h9] at hp
        repeat refine ws_s rfl ?_
        exact wp_ri rfl rfl rfl hp
      have K52 : toN P ja jc (p + 1) = false → wp G 1 M_X12_isTold fr n0 post 52 [some (.ref 0), some (.int (nI ja)), some (.int (nI jc)), some (.int (nI p))] [] (hM S tl) := by
        intro hy
        repeat refine ws_s rfl ?_
        refine ws_b rfl ?_
        exact wp_eqL (by rw [← nI_add p 1]; rfl) (ih (p + 1) (by omega) hy)
      have K30 : (P.2.2.1 p = ja → ¬ P.2.2.2.1 p = jc) → wp G 1 M_X12_isTold fr n0 post 30 [some (.ref 0), some (.int (nI ja)), some (.int (nI jc)), some (.int (nI p))] [] (hM S tl) := by
        intro hn1
        have hf1 : (decide (P.2.2.1 p = ja) && decide (P.2.2.2.1 p = jc)) = false := by
          by_cases z : P.2.2.1 p = ja
          · rw [decide_eq_false (hn1 z), Bool.and_false]
          · rw [decide_eq_false z, Bool.false_and]
        rw [hf1, Bool.false_or] at eS
        repeat refine ws_s rfl ?_
        refine ws_ld (k := p) rfl (by first | rfl | (simp only [pk_mul, nI_add]; done)) (by omega) (by decide) (e1) ?_
        repeat refine ws_s rfl ?_
        refine wp_eq (rfl) (rfl) (by first | omega | decide) (by first | omega | decide) (fun z1 => ?_) (fun z1 => ?_)
        · repeat refine ws_s rfl ?_
          refine ws_ld (k := p) rfl (by first | rfl | (simp only [pk_mul, nI_add]; done)) (by omega) (by decide) (e3) ?_
          repeat refine ws_s rfl ?_
          refine wp_eq (rfl) (rfl) (by first | omega | decide) (by first | omega | decide) (fun z2 => ?_) (fun z2 => ?_)
          · exact K50 (by rw [eS, decide_eq_true z1, decide_eq_true z2]; rfl)
          · exact K52 (by rw [eS, decide_eq_false z2, Bool.and_false])
        · exact K52 (by rw [eS, decide_eq_false z1, Bool.false_and])
      repeat refine ws_s rfl ?_
      refine wp_le (q3) (rfl) (by first | omega | decide) (by first | omega | decide) (fun z => absurd z (by omega)) (fun z => ?_)
      repeat refine ws_s rfl ?_
      refine ws_ld (k := p) rfl (by first | rfl | (simp only [pk_mul, nI_add]; done)) (by omega) (by decide) (e1) ?_
      repeat refine ws_s rfl ?_
      refine wp_eq (rfl) (rfl) (by first | omega | decide) (by first | omega | decide) (fun z1 => ?_) (fun z1 => ?_)
      · repeat refine ws_s rfl ?_
        refine ws_ld (k := p) rfl (by first | rfl | (simp only [pk_mul, nI_add]; done)) (by omega) (by decide) (e3) ?_
        repeat refine ws_s rfl ?_
        refine wp_eq (rfl) (rfl) (by first | omega | decide) (by first | omega | decide) (fun z2 => ?_) (fun z2 => ?_)
        · exact K50 (by rw [eS, decide_eq_true z1, decide_eq_true z2]; rfl)
        · exact K30 (fun _ => z2)
      · exact K30 (fun z => absurd z z1)
  exact K P.1 0 (by omega) rfl
abbrev btK (jb : Nat → Nat) (x y a c : Nat) : Bool := (jb a).testBit x && (jb y).testBit c
set_option maxRecDepth 100000 in
set_option maxHeartbeats 4000000 in
theorem c_isBetween (G : ab_G) (fr : Bool) (S : ms_S) (tl : ab_H) (jb : Nat → Nat) (x y a c : Nat) (hx : x < 7) (hy : y < 7) (ha : a < 7) (hc : c < 7) (hj : ∀ e, e < 7 → a_joined S e = nI (jb e) ∧ jb e < 2 ^ 7) :
    ab_CT G 2 M_X12_isBetween fr [.ref 0, .int (nI x), .int (nI y), .int (nI a), .int (nI c)] (hM S tl) 0 0 (fun r h' => r = some (.int (bI (btK jb x y a c))) ∧ h' = hM (S) tl) := by
  refine ct_of o_X12_isBetween (Nat.le_of_ble_eq_true rfl) (fun n0 post hp => ?_)
  obtain ⟨e1, e2⟩ := hj a ha
  obtain ⟨e3, e4⟩ := hj y hy
  repeat refine ws_s rfl ?_
  refine ws_ld (k := a) rfl (by first | rfl | (simp only [pk_mul, nI_add]; done)) (by omega) (by decide) (e1) ?_
  repeat refine ws_s rfl ?_
  refine wp_S (c_isOfN G fr (hM S tl) (jb a) x (by omega) (by omega)) rfl rfl o_X12_isOf s_X12_isOf rfl rfl (Nat.le_of_ble_eq_true rfl) (by decide) ?_
  repeat refine ws_s rfl ?_
  refine wp_bn rfl (fun hf => ?_) (fun hf => ?_)
  · unfold btK at hp
    rw [hf, Bool.false_and] at hp
    repeat refine ws_s rfl ?_
    exact wp_ri rfl rfl rfl hp
  · repeat refine ws_s rfl ?_
    refine ws_ld (k := y) rfl (by first | rfl | (simp only [pk_mul, nI_add]; done)) (by omega) (by decide) (e3) ?_
    repeat refine ws_s rfl ?_
    refine wp_S (c_isOfN G fr (hM S tl) (jb y) c (by omega) (by omega)) rfl rfl o_X12_isOf s_X12_isOf rfl rfl (Nat.le_of_ble_eq_true rfl) (by decide) ?_
    repeat refine ws_s rfl ?_
    unfold btK at hp
    rw [hf, Bool.true_and] at hp
    refine wp_bn rfl (fun hf2 => ?_) (fun hf2 => ?_)
    · rw [hf2] at hp
      repeat refine ws_s rfl ?_
      exact wp_ri rfl rfl rfl hp
    · rw [hf2] at hp
      repeat refine ws_s rfl ?_
      exact wp_ri rfl rfl rfl hp
/-- note k lets ends x, y be the missing piece's -/
def ndK (N : tN) (jb : Nat → Nat) (x y k : Nat) : Bool := !ctN N k || (decide (1 < (N.2.2 k).1) || ((if (N.2.2 k).1 = 0 then decide (x = (N.2.2 k).2.1) || decide (y = (N.2.2 k).2.1) else btK jb x y (N.2.2 k).2.1 (N.2.2 k).2.2.1 || btK jb y x (N.2.2 k).2.1 (N.2.2 k).2.2.1) == (N.2.2 k).2.2.2.2))
def ndA (N : tN) (jb : Nat → Nat) (x y : Nat) : Nat → Bool
  | 0 => true
  | k + 1 => ndA N jb x y k && ndK N jb x y k
theorem ndA_f {N : tN} {jb : Nat → Nat} {x y k : Nat} (h : ndA N jb x y k = false) : ∀ d, ndA N jb x y (k + d) = false
  | 0 => h
  | d + 1 => by
    show (ndA N jb x y (k + d) && _) = false
    rw [ndA_f h d]
    rfl
/-- ends x, y may be the missing piece's -/
def misK (P : tPL) (N : tN) (jb : Nat → Nat) (x y : Nat) : Bool := !toN P x y P.1 && ndA N jb x y (kbN N)
theorem bI_eq {a b : Bool} : (bI a = bI b) ↔ a = b := by cases a <;> cases b <;> decide
theorem bI_1 {b : Bool} : (bI b = nI 1) ↔ b = true := by cases b <;> decide
set_option maxRecDepth 100000 in
set_option maxHeartbeats 4000000 in
theorem c_isNoted (G : ab_G) (fr : Bool) (S : ms_S) (tl : ab_H) (P : tPL) (N : tN) (jb : Nat → Nat) (x y : Nat) (hP : mPL S P) (hN : mN S P N) (hC : mCt S N) (hx : x < 7) (hy : y < 7) (hj : ∀ e, e < 7 → a_joined S e = nI (jb e) ∧ jb e < 2 ^ 7) :
    ab_CT G 3 M_X12_isNoted fr [.ref 0, .int (nI x), .int (nI y)] (hM S tl) 0 0 (fun r h' => r = some (.int (bI (misK P N jb x y))) ∧ h' = hM (S) tl) := by
  refine ct_of o_X12_isNoted (Nat.le_of_ble_eq_true rfl) (fun n0 post hp => ?_)
  have hkb := kbN_le hN
  obtain ⟨n1, n2, n3, n4, n5⟩ := id hN
  repeat refine ws_s rfl ?_
  refine wp_V (c_isTold G fr S tl P x y hP hx hy) rfl rfl o_X12_isTold v_X12_isTold rfl rfl rfl (Nat.le_of_ble_eq_true rfl) (by decide) ?_
  repeat refine ws_s rfl ?_
  unfold misK at hp
  refine wp_bn rfl (fun hf => ?_) (fun hf => ?_)
  rotate_left
  · rw [hf] at hp
    repeat refine ws_s rfl ?_
    exact wp_ri rfl rfl rfl hp
  rw [hf] at hp
  change post (some (.int (bI (ndA N jb x y (kbN N))))) (hM S tl) at hp
  iterate 2 refine ws_s rfl ?_
  have K : ∀ f k (l4 l5 l6 l7 : Option Value), k + f = kbN N → ndA N jb x y k = true → wp G 3 M_X12_isNoted fr n0 post 13 [some (.ref 0), some (.int (nI x)), some (.int (nI y)), some (.int (nI k)), l4, l5, l6, l7] [] (hM S tl) := by
    intro f
    induction f with
    | zero =>
      intro k l4 l5 l6 l7 hk hyes
      have : k = kbN N := by omega
      subst this
      rw [hyes] at hp
      repeat refine ws_s rfl ?_
      refine wp_V (c_knownBy G fr S tl P N hN) rfl rfl o_X12_knownBy v_X12_knownBy rfl rfl rfl (Nat.le_of_ble_eq_true rfl) (by decide) ?_
      repeat refine ws_s rfl ?_
      refine wp_le (rfl) (rfl) (by first | omega | decide) (by first | omega | decide) (fun z => ?_) (fun z => absurd z (by omega))
      repeat refine ws_s rfl ?_
      exact wp_ri rfl rfl rfl hp
    | succ f ih =>
      intro k l4 l5 l6 l7 hk hyes
      obtain ⟨k1, k2, k3, k4, k5, k6⟩ := n5 k (by omega)
      have hw3 := k6.1
      have eS : ndA N jb x y (k + 1) = ndK N jb x y k := by
        show (ndA N jb x y k && _) = _
        rw [hyes]
        rfl
      have K159 : ∀ (m4 m5 m6 m7 : Option Value), ndK N jb x y k = true → wp G 3 M_X12_isNoted fr n0 post 159 [some (.ref 0), some (.int (nI x)), some (.int (nI y)), some (.int (nI k)), m4, m5, m6, m7] [] (hM S tl) := by
        intro m4 m5 m6 m7 hk2
        repeat refine ws_s rfl ?_
        refine ws_b rfl ?_
        exact wp_eqL (by rw [← nI_add k 1]; rfl) (ih (k + 1) m4 m5 m6 m7 (by omega) (by rw [eS]; exact hk2))
      repeat refine ws_s rfl ?_
      refine wp_V (c_knownBy G fr S tl P N hN) rfl rfl o_X12_knownBy v_X12_knownBy rfl rfl rfl (Nat.le_of_ble_eq_true rfl) (by decide) ?_
      repeat refine ws_s rfl ?_
      refine wp_le (rfl) (rfl) (by first | omega | decide) (by first | omega | decide) (fun z => absurd z (by omega)) (fun z => ?_)
      repeat refine ws_s rfl ?_
      refine ws_ld (k := k) rfl (by first | rfl | (simp only [pk_mul, nI_add]; done)) (by omega) (by decide) (hC k (by omega)) ?_
      repeat refine ws_s rfl ?_
      refine wp_bn rfl (fun hc => ?_) (fun hc => ?_)
      · exact K159 _ _ _ _ (by unfold ndK; rw [hc]; rfl)
      have eK : ndK N jb x y k = (decide (1 < (N.2.2 k).1) || ((if (N.2.2 k).1 = 0 then decide (x = (N.2.2 k).2.1) || decide (y = (N.2.2 k).2.1) else btK jb x y (N.2.2 k).2.1 (N.2.2 k).2.2.1 || btK jb y x (N.2.2 k).2.1 (N.2.2 k).2.2.1) == (N.2.2 k).2.2.2.2)) := by
        unfold ndK
        rw [hc]
        rfl
      repeat refine ws_s rfl ?_
      refine ws_ld (k := 5 * k) rfl (by first | rfl | (simp only [pk_mul, nI_add]; done)) (by omega) (by decide) (k1) ?_
      repeat refine ws_s rfl ?_
      refine wp_le (x := (N.2.2 k).1) (y := 1) rfl rfl (by omega) (by decide) (fun hle => ?_) (fun hle => ?_)
      rotate_left
      · iterate 1 refine ws_s rfl ?_
        exact K159 _ _ _ _ (by rw [eK, decide_eq_true hle]; rfl)
      rw [decide_eq_false (by omega), Bool.false_or] at eK
      have ha := k6.2.1 hle
      have K132 : ∀ (so : Bool) (v c6 : Int32), (if (N.2.2 k).1 = 0 then decide (x = (N.2.2 k).2.1) || decide (y = (N.2.2 k).2.1) else btK jb x y (N.2.2 k).2.1 (N.2.2 k).2.2.1 || btK jb y x (N.2.2 k).2.1 (N.2.2 k).2.2.1) = so → v = bI so → wp G 3 M_X12_isNoted fr n0 post 132 [some (.ref 0), some (.int (nI x)), some (.int (nI y)), some (.int (nI k)), some (.int (nI (5 * k))), some (.int (nI (N.2.2 k).2.1)), some (.int c6), l7] [.int v] (hM S tl) := by
        intro so v c6 hso hv
        rw [hso] at eK
        subst hv
        have K154 : ∀ w : Int32, w = bI (N.2.2 k).2.2.2.2 → wp G 3 M_X12_isNoted fr n0 post 154 [some (.ref 0), some (.int (nI x)), some (.int (nI y)), some (.int (nI k)), some (.int (nI (5 * k))), some (.int (nI (N.2.2 k).2.1)), some (.int c6), some (.int (bI so))] [.int w, .int (bI so)] (hM S tl) := by
          intro w hw
          subst hw
          repeat refine ws_s rfl ?_
          refine wp_ite (fun hq => ?_) (fun hq => ?_)
          · exact K159 _ _ _ _ (by rw [eK, bI_eq.mp hq]; exact beq_self_eq_true _)
          · have hno : ndA N jb x y (k + 1) = false := by
              rw [eS, eK]
              exact beq_false_of_ne (fun z => hq (by rw [z]))
            have h9 := ndA_f hno f
            rw [show k + 1 + f = kbN N by omega] at h9
            rw [h9] at hp
            repeat refine ws_s rfl ?_
            exact wp_ri rfl rfl rfl hp
        repeat refine ws_s rfl ?_
        refine ws_ld (k := 5 * k + 4) rfl (by first | rfl | (simp only [pk_mul, nI_add]; done)) (by omega) (by decide) (k5) ?_
        repeat refine ws_s rfl ?_
        refine wp_ite (fun hq => ?_) (fun hq => ?_)
        · iterate 2 refine ws_s rfl ?_
          exact K154 _ (by rw [bI_1.mp hq]; rfl)
        · iterate 1 refine ws_s rfl ?_
          exact K154 _ (by
            cases hz : (N.2.2 k).2.2.2.2 with
            | false => rfl
            | true => exact absurd (bI_1.mpr hz) hq)
      repeat refine ws_s rfl ?_
      rw [pk_mul]
      refine ws_ld (k := 5 * k + 1) rfl (by first | rfl | (simp only [pk_mul, nI_add]; done)) (by omega) (by decide) (k2) ?_
      repeat refine ws_s rfl ?_
      refine ws_ld (k := 5 * k + 2) rfl (by first | rfl | (simp only [pk_mul, nI_add]; done)) (by omega) (by decide) rfl ?_
      repeat refine ws_s rfl ?_
      refine ws_ld (k := 5 * k) rfl (by first | rfl | (simp only [pk_mul, nI_add]; done)) (by omega) (by decide) (k1) ?_
      repeat refine ws_s rfl ?_
      refine wp_eq (x := (N.2.2 k).1) (y := 0) rfl rfl (by omega) (by decide) (fun hw0 => ?_) (fun hw0 => ?_)
      · repeat refine ws_s rfl ?_
        refine wp_eq (rfl) (rfl) (by first | omega | decide) (by first | omega | decide) (fun z1 => ?_) (fun z1 => ?_)
        · iterate 2 refine ws_s rfl ?_
          exact K132 true _ _ (by rw [if_pos hw0, decide_eq_true z1]; rfl) rfl
        · repeat refine ws_s rfl ?_
          refine wp_eq (rfl) (rfl) (by first | omega | decide) (by first | omega | decide) (fun z2 => ?_) (fun z2 => ?_)
          · iterate 2 refine ws_s rfl ?_
            exact K132 true _ _ (by rw [if_pos hw0, decide_eq_true z2, Bool.or_true]) rfl
          · iterate 2 refine ws_s rfl ?_
            exact K132 false _ _ (by rw [if_pos hw0, decide_eq_false z1, decide_eq_false z2]; rfl) rfl
      · have hcc := k6.2.2.1 (by omega)
        have ec := k3 hw0
        change S.2.2.2.1 37 (5 * k + 2) = _ at ec
        rw [ec]
        repeat refine ws_s rfl ?_
        refine wp_V (c_isBetween G fr S tl jb x y (N.2.2 k).2.1 (N.2.2 k).2.2.1 hx hy ha hcc hj) rfl rfl o_X12_isBetween v_X12_isBetween rfl rfl rfl (Nat.le_of_ble_eq_true rfl) (by decide) ?_
        repeat refine ws_s rfl ?_
        refine wp_bn rfl (fun hb1 => ?_) (fun hb1 => ?_)
        · repeat refine ws_s rfl ?_
          refine wp_V (c_isBetween G fr S tl jb y x (N.2.2 k).2.1 (N.2.2 k).2.2.1 hy hx ha hcc hj) rfl rfl o_X12_isBetween v_X12_isBetween rfl rfl rfl (Nat.le_of_ble_eq_true rfl) (by decide) ?_
          repeat refine ws_s rfl ?_
          refine wp_bn rfl (fun hb2 => ?_) (fun hb2 => ?_)
          · iterate 1 refine ws_s rfl ?_
            exact K132 false _ _ (by rw [if_neg hw0, hb1, hb2]; rfl) rfl
          · iterate 2 refine ws_s rfl ?_
            exact K132 true _ _ (by rw [if_neg hw0, hb1, hb2]; rfl) rfl
        · iterate 2 refine ws_s rfl ?_
          exact K132 true _ _ (by rw [if_neg hw0, hb1]; rfl) rfl
  exact K (kbN N) 0 _ _ _ _ (by omega) rfl
