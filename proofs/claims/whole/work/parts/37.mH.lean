/-! ===== the reference: rows ===== -/
theorem isOf_tb {b k : Nat} (hb : b < 2 ^ 31) (hk : k < 32) : (if (nI b >>> (nI k &&& 31)) &&& nI 1 = nI 1 then nI 1 else nI 0) = bI (b.testBit k) := by
  rw [nu_bit hk hb]
  have h2 : b / 2 ^ k % 2 < 2 := Nat.mod_lt _ (by omega)
  by_cases h : b.testBit k = true
  · rw [h, if_pos (by rw [(nu_tb b k).mpr h])]
    rfl
  · have h3 : ¬ b / 2 ^ k % 2 = 1 := fun q => h ((nu_tb b k).mp q)
    rw [if_neg (fun q => h3 ((nI_eq (by omega) (by decide)).mp q))]
    rw [Bool.not_eq_true] at h
    rw [h]
    rfl
theorem c_isOfN (G : ab_G) (fr : Bool) (h : ab_H) (b k : Nat) (hb : b < 2 ^ 31) (hk : k < 32) : ab_CT G 1 M_X12_isOf fr [.int (nI b), .int (nI k)] h 0 0 (fun r h' => r = some (.int (bI (b.testBit k))) ∧ h' = h) := by
  have := c_isOf G fr (nI b) (nI k) h
  rw [isOf_tb hb hk] at this
  exact this
theorem nu_1shl {p : Nat} (hp : p < 31) : nI 1 <<< (nI p &&& 31) = nI (2 ^ p) := by
  rw [nu_shl (by omega) (by have := Nat.pow_lt_pow_right (show 1 < 2 by omega) hp; omega), Nat.one_mul]
theorem nu_clr : ∀ s, s < 512 → ∀ p, p < 9 → nI s &&& (nI (2 ^ p) ^^^ -(nI 1)) = nI (if s.testBit p = true then s - 2 ^ p else s) := by decide +kernel
theorem tb_sub {s p : Nat} (h : s.testBit p = true) : 2 ^ p ≤ s := Nat.ge_two_pow_of_testBit h
/-- the last ends behind ends en, with a piece of ends x, y -/
def bhN (jb : Nat → Nat) (x y en : Nat) : Nat → Nat
  | 0 => 0
  | e + 1 => if en.testBit e = true then (bhN jb x y en e ||| (if (jb e).testBit x = true then 2 ^ y else 0)) ||| (if (jb e).testBit y = true then 2 ^ x else 0) else bhN jb x y en e
theorem bhN_lt (jb : Nat → Nat) (x y en : Nat) (hx : x < 7) (hy : y < 7) : ∀ e, bhN jb x y en e < 2 ^ 7
  | 0 => by show 0 < 2 ^ 7; decide
  | e + 1 => by
    have ih := bhN_lt jb x y en hx hy e
    have px := Nat.pow_lt_pow_right (show 1 < 2 by omega) hx
    have py := Nat.pow_lt_pow_right (show 1 < 2 by omega) hy
    unfold bhN
    split
    · refine Nat.or_lt_two_pow (Nat.or_lt_two_pow ih ?_) ?_
      · split
        · exact py
        · decide
      · split
        · exact px
        · decide
    · exact ih
set_option maxRecDepth 100000 in
set_option maxHeartbeats 4000000 in
theorem c_behind (G : ab_G) (fr : Bool) (S : ms_S) (tl : ab_H) (jb : Nat → Nat) (en p9 x y : Nat) (hj : ∀ e, e < 7 → a_joined S e = nI (jb e) ∧ jb e < 2 ^ 7) (hen : en < 2 ^ 7) (hp9 : p9 < 9) (hx : a_pieceOne S p9 = nI x) (hy : a_pieceOther S p9 = nI y) (hx7 : x < 7) (hy7 : y < 7) :
    ab_CT G 2 M_X12_behind fr [.ref 0, .int (nI en), .int (nI p9)] (hM S tl) 0 0 (fun r h' => r = some (.int (nI (bhN jb x y en 7))) ∧ h' = hM S tl) := by
  refine ct_of o_X12_behind (Nat.le_of_ble_eq_true rfl) (fun n0 post hp => ?_)
  have ep : (nI p9).toNatClampNeg = p9 := nI_clamp (by omega)
  have gp : vp_in (nI p9) 18 := vp_in_nI (by omega) (by decide)
  have E1 : S.2.2.2.1 6 (nI p9).toNatClampNeg = nI x := by rw [ep]; exact hx
  have E2 : S.2.2.2.1 7 (nI p9).toNatClampNeg = nI y := by rw [ep]; exact hy
  iterate 4 refine ws_s rfl ?_
  refine wp_down 7 (fun e => [some (.ref 0), some (.int (nI en)), some (.int (nI p9)), some (.int (nI (bhN jb x y en e))), some (.int (nI e))]) (fun _ => hM S tl) ?_ (fun e he k => ?_)
  · repeat refine ws_s rfl ?_
    exact wp_ri rfl rfl rfl hp
  · have ee : (nI e).toNatClampNeg = e := nI_clamp (by omega)
    have ge : vp_in (nI e) 7 := vp_in_nI he (by decide)
    have E3 : S.2.2.2.1 31 (nI e).toNatClampNeg = nI (jb e) := by rw [ee]; exact (hj e he).1
    have hje := (hj e he).2
    have K92 : ∀ v : Int32, v = nI (bhN jb x y en (e + 1)) → wp G 2 M_X12_behind fr n0 post 92 [some (.ref 0), some (.int (nI en)), some (.int (nI p9)), some (.int v), some (.int (nI e))] [] (hM S tl) := by
      intro v hv
      repeat refine ws_s rfl ?_
      refine ws_b rfl ?_
      exact wp_eqL (by rw [hv]; simp only [← nI_add]; rfl) k
    repeat refine ws_s rfl ?_
    refine wp_ite (fun hq => absurd hq (nI_ge he (by decide))) (fun hq => ?_)
    repeat refine ws_s rfl ?_
    refine wp_S (c_isOfN G fr (hM S tl) en e (by omega) (by omega)) rfl rfl o_X12_isOf s_X12_isOf rfl rfl (by decide) (by decide) ?_
    cases hb : en.testBit e with
    | false =>
      iterate 2 refine ws_s rfl ?_
      exact K92 _ (by show _ = nI (if en.testBit e = true then _ else _); rw [if_neg (by rw [hb]; decide)])
    | true =>
      repeat refine ws_s rfl ?_
      refine ws_g rfl ge ?_
      rw [E3]
      repeat refine ws_s rfl ?_
      refine ws_g rfl gp ?_
      rw [E1]
      refine wp_S (c_isOfN G fr (hM S tl) (jb e) x (by omega) (by omega)) rfl rfl o_X12_isOf s_X12_isOf rfl rfl (by show 1 + 0 ≤ 8; decide) (by decide) ?_
      -- behind the first choice
      have K56 : ∀ u : Int32, u = nI (if (jb e).testBit x = true then 2 ^ y else 0) → wp G 2 M_X12_behind fr n0 post 56 [some (.ref 0), some (.int (nI en)), some (.int (nI p9)), some (.int (nI (bhN jb x y en e))), some (.int (nI e))] [.int u, .int (nI (bhN jb x y en e))] (hM S tl) := by
        intro u hu
        subst hu
        repeat refine ws_s rfl ?_
        refine ws_g rfl ge ?_
        rw [E3]
        repeat refine ws_s rfl ?_
        refine ws_g rfl gp ?_
        rw [E2]
        refine wp_S (c_isOfN G fr (hM S tl) (jb e) y (by omega) (by omega)) rfl rfl o_X12_isOf s_X12_isOf rfl rfl (by show 1 + 0 ≤ 8; decide) (by decide) ?_
        cases hb3 : (jb e).testBit y with
        | true =>
          repeat refine ws_s rfl ?_
          refine ws_g rfl gp ?_
          rw [E1]
          iterate 4 refine ws_s rfl ?_
          refine K92 _ ?_
          rw [nu_1shl (by omega), nu_or, nu_or]
          show _ = nI (if en.testBit e = true then _ else _)
          rw [if_pos hb, if_pos hb3]
        | false =>
          iterate 4 refine ws_s rfl ?_
          refine K92 _ ?_
          rw [nu_or, nu_or]
          show _ = nI (if en.testBit e = true then _ else _)
          rw [if_pos hb, if_neg (show ¬ (jb e).testBit y = true by rw [hb3]; decide)]
      cases hb2 : (jb e).testBit x with
      | true =>
        repeat refine ws_s rfl ?_
        refine ws_g rfl gp ?_
        rw [E2]
        iterate 2 refine ws_s rfl ?_
        exact K56 _ (by rw [nu_1shl (by omega), if_pos hb2])
      | false =>
        iterate 2 refine ws_s rfl ?_
        exact K56 _ (by rw [if_neg (show ¬ (jb e).testBit x = true by rw [hb2]; decide)])
/-- the last ends of rows of a set that begin with f: by its last piece; T says it of lesser sets -/
def ltN (one oth : Nat → Nat) (jb : Nat → Nat) (T : Nat → Nat) (set f : Nat) : Nat → Nat
  | 0 => 0
  | p + 1 => if set.testBit p = true then (if set = 2 ^ p then (ltN one oth jb T set f p ||| (if one p = f then 2 ^ oth p else 0)) ||| (if oth p = f then 2 ^ one p else 0) else ltN one oth jb T set f p ||| bhN jb (one p) (oth p) (T (set - 2 ^ p)) 7) else ltN one oth jb T set f p
theorem ltN_lt (one oth : Nat → Nat) (jb T : Nat → Nat) (set f n : Nat) (ho : ∀ p, p < n → one p < 7 ∧ oth p < 7) : ∀ p, p ≤ n → ltN one oth jb T set f p < 2 ^ 7
  | 0, _ => by show 0 < 2 ^ 7; decide
  | p + 1, hp => by
    have ih := ltN_lt one oth jb T set f n ho p (by omega)
    obtain ⟨h1, h2⟩ := ho p (by omega)
    have px := Nat.pow_lt_pow_right (show 1 < 2 by omega) h1
    have py := Nat.pow_lt_pow_right (show 1 < 2 by omega) h2
    unfold ltN
    split
    · split
      · refine Nat.or_lt_two_pow (Nat.or_lt_two_pow ih ?_) ?_
        · split
          · exact py
          · decide
        · split
          · exact px
          · decide
      · exact Nat.or_lt_two_pow ih (bhN_lt _ _ _ _ h1 h2 _)
    · exact ih
theorem ltN_congr {one oth : Nat → Nat} {jb T T' : Nat → Nat} {set f : Nat} (h : ∀ q, q < set → T q = T' q) : ∀ p, ltN one oth jb T set f p = ltN one oth jb T' set f p
  | 0 => rfl
  | p + 1 => by
    unfold ltN
    rw [ltN_congr h p]
    by_cases hb : set.testBit p = true
    · rw [if_pos hb, if_pos hb]
      have h1 := tb_sub hb
      have h2 := Nat.two_pow_pos p
      rw [h (set - 2 ^ p) (by omega)]
    · rw [if_neg hb, if_neg hb]
set_option maxRecDepth 100000 in
set_option maxHeartbeats 4000000 in
theorem c_lastsOf (G : ab_G) (fr : Bool) (S : ms_S) (tl : ab_H) (jb one oth T : Nat → Nat) (n set f : Nat) (hn : n ≤ 9) (hn9 : m_pieces S = nI n) (hset : set < 2 ^ n) (hf : f < 7) (hj : ∀ e, e < 7 → a_joined S e = nI (jb e) ∧ jb e < 2 ^ 7) (ho : ∀ p, p < n → a_pieceOne S p = nI (one p) ∧ one p < 7 ∧ a_pieceOther S p = nI (oth p) ∧ oth p < 7) (hT : ∀ q, q < set → a_lasts S (7 * q + f) = nI (T q) ∧ T q < 2 ^ 7) :
    ab_CT G 3 M_X12_lastsOf fr [.ref 0, .int (nI set), .int (nI f)] (hM S tl) 0 0 (fun r h' => r = some (.int (nI (ltN one oth jb T set f n))) ∧ h' = hM S tl) := by
  refine ct_of o_X12_lastsOf (Nat.le_of_ble_eq_true rfl) (fun n0 post hp => ?_)
  have hs9 : set < 512 := Nat.lt_of_lt_of_le hset (Nat.pow_le_pow_right (by omega) hn)
  iterate 4 refine ws_s rfl ?_
  refine wp_down n (fun p => [some (.ref 0), some (.int (nI set)), some (.int (nI f)), some (.int (nI (ltN one oth jb T set f p))), some (.int (nI p))]) (fun _ => hM S tl) ?_ (fun p hpn k => ?_)
  · repeat refine ws_s rfl ?_
    refine wp_ite (fun hq => ?_) (fun hq => absurd (by show m_pieces S ≤ nI n; rw [hn9]; exact nI_le (Nat.le_refl _) (by omega)) hq)
    repeat refine ws_s rfl ?_
    exact wp_ri rfl rfl rfl hp
  · obtain ⟨o1, o2, o3, o4⟩ := ho p hpn
    have ep : (nI p).toNatClampNeg = p := nI_clamp (by omega)
    have gp : vp_in (nI p) 18 := vp_in_nI (by omega) (by decide)
    have E1 : S.2.2.2.1 6 (nI p).toNatClampNeg = nI (one p) := by rw [ep]; exact o1
    have E2 : S.2.2.2.1 7 (nI p).toNatClampNeg = nI (oth p) := by rw [ep]; exact o3
    have pp : 2 ^ p < 2 ^ 9 := Nat.pow_lt_pow_right (by omega) (by omega)
    have K118 : ∀ v : Int32, v = nI (ltN one oth jb T set f (p + 1)) → wp G 3 M_X12_lastsOf fr n0 post 118 [some (.ref 0), some (.int (nI set)), some (.int (nI f)), some (.int v), some (.int (nI p))] [] (hM S tl) := by
      intro v hv
      repeat refine ws_s rfl ?_
      refine ws_b rfl ?_
      exact wp_eqL (by rw [hv]; simp only [← nI_add]; rfl) k
    repeat refine ws_s rfl ?_
    refine wp_ite (fun hq => absurd hq (by show ¬ m_pieces S ≤ nI p; rw [hn9]; exact nI_ge (by omega) (by omega))) (fun hq => ?_)
    repeat refine ws_s rfl ?_
    refine wp_S (c_isOfN G fr (hM S tl) set p (by omega) (by omega)) rfl rfl o_X12_isOf s_X12_isOf rfl rfl (by decide) (by decide) ?_
    cases hb : set.testBit p with
    | false =>
      iterate 2 refine ws_s rfl ?_
      exact K118 _ (by show _ = nI (if set.testBit p = true then _ else _); rw [if_neg (by rw [hb]; decide)])
    | true =>
      repeat refine ws_s rfl ?_
      refine wp_ite (fun hq2 => ?_) (fun hq2 => ?_)
      · have hq3 : set = 2 ^ p := by
          rw [nu_1shl (by omega)] at hq2
          exact (nI_eq (by omega) (by omega)).mp hq2
        have K59 : ∀ u : Int32, u = nI (if one p = f then 2 ^ oth p else 0) → wp G 3 M_X12_lastsOf fr n0 post 59 [some (.ref 0), some (.int (nI set)), some (.int (nI f)), some (.int (nI (ltN one oth jb T set f p))), some (.int (nI p))] [.int u, .int (nI (ltN one oth jb T set f p))] (hM S tl) := by
          intro u hu
          subst hu
          repeat refine ws_s rfl ?_
          refine ws_g rfl gp ?_
          rw [E2]
          repeat refine ws_s rfl ?_
          refine wp_ite (fun hq4 => ?_) (fun hq4 => ?_)
          · have hq5 : oth p = f := (nI_eq (by omega) (by omega)).mp hq4
            repeat refine ws_s rfl ?_
            refine ws_g rfl gp ?_
            rw [E1]
            iterate 5 refine ws_s rfl ?_
            refine K118 _ ?_
            rw [nu_1shl (by omega), nu_or, nu_or]
            show _ = nI (if set.testBit p = true then _ else _)
            rw [if_pos hb, if_pos hq3, if_pos hq5]
          · have hq5 : ¬ oth p = f := fun z => hq4 (by rw [z])
            iterate 4 refine ws_s rfl ?_
            refine K118 _ ?_
            rw [nu_or, nu_or]
            show _ = nI (if set.testBit p = true then _ else _)
            rw [if_pos hb, if_pos hq3, if_neg hq5]
        repeat refine ws_s rfl ?_
        refine ws_g rfl gp ?_
        rw [E1]
        repeat refine ws_s rfl ?_
        refine wp_ite (fun hq4 => ?_) (fun hq4 => ?_)
        · have hq5 : one p = f := (nI_eq (by omega) (by omega)).mp hq4
          repeat refine ws_s rfl ?_
          refine ws_g rfl gp ?_
          rw [E2]
          iterate 2 refine ws_s rfl ?_
          exact K59 _ (by rw [nu_1shl (by omega), if_pos hq5])
        · have hq5 : ¬ one p = f := fun z => hq4 (by rw [z])
          iterate 1 refine ws_s rfl ?_
          exact K59 _ (by rw [if_neg hq5])
      · have hq3 : ¬ set = 2 ^ p := fun z => hq2 (by rw [nu_1shl (by omega), ← z])
        have hle := tb_sub hb
        have hpos := Nat.two_pow_pos p
        obtain ⟨T1, T2⟩ := hT (set - 2 ^ p) (by omega)
        have ei : nI 7 * (nI set &&& (nI 1 <<< (nI p &&& 31) ^^^ -(nI 1))) + nI f = nI (7 * (set - 2 ^ p) + f) := by
          rw [nu_1shl (by omega), nu_clr set hs9 p (by omega), if_pos hb, pk_mul, nI_add]
        repeat refine ws_s rfl ?_
        refine ws_g rfl (by show vp_in (nI 7 * (nI set &&& (nI 1 <<< (nI p &&& 31) ^^^ -(nI 1))) + nI f) 3584; rw [ei]; exact vp_in_nI (by omega) (by decide)) ?_
        rw [ei, nI_clamp (by omega), show S.2.2.2.1 32 (7 * (set - 2 ^ p) + f) = nI (T (set - 2 ^ p)) from T1]
        repeat refine ws_s rfl ?_
        refine wp_V (c_behind G fr S tl jb (T (set - 2 ^ p)) p (one p) (oth p) hj T2 (by omega) o1 o3 o2 o4) rfl rfl o_X12_behind v_X12_behind rfl rfl rfl (by show 1 + 0 ≤ 8; decide) (by decide) ?_
        iterate 2 refine ws_s rfl ?_
        refine K118 _ ?_
        rw [nu_or]
        show _ = nI (if set.testBit p = true then _ else _)
        rw [if_pos hb, if_neg hq3]
