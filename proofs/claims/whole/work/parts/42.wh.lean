/-! ===== helpers: loads, stores, branches by plain numbers ===== -/
theorem bI_t : ¬ bI true = 0 := by decide
theorem nu_mask (a : Nat) : lN a &&& lN (2 ^ 31 - 1) = lN (a % 2 ^ 31) := by
  apply Int64.toBitVec_inj.mp
  show BitVec.ofNat 64 a &&& BitVec.ofNat 64 (2 ^ 31 - 1) = BitVec.ofNat 64 (a % 2 ^ 31)
  apply BitVec.eq_of_toNat_eq
  rw [BitVec.toNat_and, BitVec.toNat_ofNat, BitVec.toNat_ofNat, BitVec.toNat_ofNat, Nat.mod_eq_of_lt (show 2 ^ 31 - 1 < 2 ^ 64 by decide), Nat.and_two_pow_sub_one_eq_mod, Nat.mod_eq_of_lt (show a % 2 ^ 31 < 2 ^ 64 by omega)]
  omega
section WH
variable {G : ab_G} {d : Nat} {M : ab_MD} {fr : Bool} {n0 : Nat} {post : Option Value → ab_H → Prop} {pc pc' : Nat} {L L' : List (Option Value)} {st st' : List Value} {h : ab_H} {S : ms_S} {lay : List ms_D} {tl : ab_H}
theorem ws_ld {a k N : Nat} {i v : Int32} (ho : ms_st M lay pc L st S = some (vp_in i N, pc', L', .int (S.2.2.2.1 a i.toNatClampNeg) :: st', S)) (he : i = nI k) (hk : k < N) (hN : N < 2 ^ 31) (hv : S.2.2.2.1 a k = v) (kk : wp G d M fr n0 post pc' L' (.int v :: st') (ms_h S 0 lay ++ tl)) : wp G d M fr n0 post pc L st (ms_h S 0 lay ++ tl) := by
  subst he hv
  rw [nI_clamp (by omega)] at ho
  exact ws_g ho (vp_in_nI hk hN) kk
theorem ws_ll {a k N : Nat} {i : Int32} {v : Int64} (ho : ms_st M lay pc L st S = some (vp_in i N, pc', L', .long (S.2.2.2.2 a i.toNatClampNeg) :: st', S)) (he : i = nI k) (hk : k < N) (hN : N < 2 ^ 31) (hv : S.2.2.2.2 a k = v) (kk : wp G d M fr n0 post pc' L' (.long v :: st') (ms_h S 0 lay ++ tl)) : wp G d M fr n0 post pc L st (ms_h S 0 lay ++ tl) := by
  subst he hv
  rw [nI_clamp (by omega)] at ho
  exact ws_g ho (vp_in_nI hk hN) kk
theorem ws_sa {a k N : Nat} {i x y : Int32} (ho : ms_st M lay pc L st S = some (vp_in i N, pc', L', st', sA S a i.toNatClampNeg x)) (he : i = nI k) (hk : k < N) (hN : N < 2 ^ 31) (hx : x = y) (kk : wp G d M fr n0 post pc' L' st' (ms_h (sA S a k y) 0 lay ++ tl)) : wp G d M fr n0 post pc L st (ms_h S 0 lay ++ tl) := by
  subst he hx
  rw [nI_clamp (by omega)] at ho
  exact ws_g ho (vp_in_nI hk hN) kk
theorem ws_sl {a k N : Nat} {i : Int32} {x y : Int64} (ho : ms_st M lay pc L st S = some (vp_in i N, pc', L', st', sL S a i.toNatClampNeg x)) (he : i = nI k) (hk : k < N) (hN : N < 2 ^ 31) (hx : x = y) (kk : wp G d M fr n0 post pc' L' st' (ms_h (sL S a k y) 0 lay ++ tl)) : wp G d M fr n0 post pc L st (ms_h S 0 lay ++ tl) := by
  subst he hx
  rw [nI_clamp (by omega)] at ho
  exact ws_g ho (vp_in_nI hk hN) kk
theorem wp_le {X Y : Int32} {x y a9 b9 : Nat} {dd : Decidable (X ≤ Y)} (eX : X = nI x) (eY : Y = nI y) (hx : x < 2 ^ 31) (hy : y < 2 ^ 31) (k1 : x ≤ y → wp G d M fr n0 post a9 L st h) (k2 : y < x → wp G d M fr n0 post b9 L st h) : wp G d M fr n0 post (@ite Nat (X ≤ Y) dd a9 b9) L st h := by
  subst eX eY
  exact wp_ite (fun q => k1 ((nI_leI hx hy).mp q)) (fun q => k2 (Nat.lt_of_not_le (fun z => q ((nI_leI hx hy).mpr z))))
theorem wp_lt {X Y : Int32} {x y a9 b9 : Nat} {dd : Decidable (X < Y)} (eX : X = nI x) (eY : Y = nI y) (hx : x < 2 ^ 31) (hy : y < 2 ^ 31) (k1 : x < y → wp G d M fr n0 post a9 L st h) (k2 : y ≤ x → wp G d M fr n0 post b9 L st h) : wp G d M fr n0 post (@ite Nat (X < Y) dd a9 b9) L st h := by
  subst eX eY
  exact wp_ite (fun q => k1 ((nI_ltI hx hy).mp q)) (fun q => k2 (Nat.le_of_not_lt (fun z => q ((nI_ltI hx hy).mpr z))))
theorem wp_eq {X Y : Int32} {x y a9 b9 : Nat} {dd : Decidable (X = Y)} (eX : X = nI x) (eY : Y = nI y) (hx : x < 2 ^ 31) (hy : y < 2 ^ 31) (k1 : x = y → wp G d M fr n0 post a9 L st h) (k2 : ¬ x = y → wp G d M fr n0 post b9 L st h) : wp G d M fr n0 post (@ite Nat (X = Y) dd a9 b9) L st h := by
  subst eX eY
  exact wp_ite (fun q => k1 ((nI_eq hx hy).mp q)) (fun q => k2 (fun z => q ((nI_eq hx hy).mpr z)))
theorem wp_eqT {st9 : List Value} (he : st9 = st) (k : wp G d M fr n0 post pc L st9 h) : wp G d M fr n0 post pc L st h := he ▸ k
/-- a boolean on the stack, tested -/
theorem wp_bn {b : Bool} {a9 b9 : Nat} {X : Int32} {dd : Decidable (X = 0)} (eX : X = bI b) (k1 : b = false → wp G d M fr n0 post a9 L st h) (k2 : b = true → wp G d M fr n0 post b9 L st h) : wp G d M fr n0 post (@ite Nat (X = 0) dd a9 b9) L st h := by
  subst eX
  cases b with
  | false => exact wp_ite (fun _ => k1 rfl) (fun q => absurd rfl q)
  | true => exact wp_ite (fun q => absurd q bI_t) (fun _ => k2 rfl)
end WH
/-! ===== the reference: a piece is drawn ===== -/
/-- the next number -/
def numN (dn : Nat) : Nat := (dn * 1103515245 + 12345) % 2 ^ 31
theorem numN_lt (dn : Nat) : numN dn < 2 ^ 31 := Nat.mod_lt _ (by decide)
theorem c_numberN (G : ab_G) (fr : Bool) (S : ms_S) (tl : ab_H) (dn n : Nat) (hn : 0 < n) (hn2 : n < 2 ^ 31) (hdn : dn < 2 ^ 31) (hd : m_drawn S = lN dn) : ab_CT G 1 M_X12_number1 fr [.ref 0, .int (nI n)] (hM S tl) 0 0 (fun r h' => r = some (.int (nI (numN dn / 65536 % n))) ∧ h' = hM (sW S 57 (lN (numN dn))) tl) := by
  have h1 : (nI n).toInt64 = lN n := nI_l hn2
  have h2 : m_drawn S * 1103515245 + 12345 &&& 2147483647 = lN (numN dn) := by
    rw [hd, show (1103515245 : Int64) = lN 1103515245 from rfl, show (12345 : Int64) = lN 12345 from rfl, show (2147483647 : Int64) = lN (2 ^ 31 - 1) from rfl, lN_mul, lN_add, nu_mask]
    rfl
  have h3 := numN_lt dn
  have ct := c_number1 G fr S tl (nI n) (by rw [h1]; intro q; exact absurd ((pk_lEQ (b := 0) (by omega) (by decide)).mp q) (by omega))
  have h4 : numN dn / 65536 < 2 ^ 31 := Nat.lt_of_le_of_lt (Nat.div_le_self _ _) h3
  rw [h1, h2, show (65536 : Int64) = lN 65536 from rfl, pk_lDiv (by omega) (by decide) (by decide), pk_lRem (by omega) hn (by omega), lN_i] at ct
  exact ct
def ntP (b : Nat) : Nat → Nat → Nat → Nat
  | 0, _, p => p
  | k + 1, n, p => if b.testBit p = true then (if n = 0 then p else ntP b k (n - 1) (p + 1)) else ntP b k n (p + 1)
theorem pop_s (b k : Nat) : pop b (k + 1) = pop b k + (if b.testBit k = true then 1 else 0) := by
  show pop b k + b / 2 ^ k % 2 = _
  by_cases h : b.testBit k = true
  · rw [if_pos h, (nu_tb b k).mpr h]
  · rw [if_neg h]
    have h2 := Nat.mod_lt (b / 2 ^ k) (show 0 < 2 by decide)
    have h3 : ¬ b / 2 ^ k % 2 = 1 := fun q => h ((nu_tb b k).mp q)
    omega
theorem pop_le (b : Nat) : ∀ k, pop b k ≤ k
  | 0 => Nat.le_refl _
  | k + 1 => by
    have := pop_le b k
    rw [pop_s]
    split <;> omega
theorem ntP_ok (b : Nat) : ∀ k n p, p + k = 9 → n + pop b p < pop b 9 → b.testBit (ntP b k n p) = true ∧ ntP b k n p < 9
  | 0, n, p, h, h2 => by rw [show p = 9 by omega] at h2; omega
  | k + 1, n, p, h, h2 => by
    unfold ntP
    have hs := pop_s b p
    by_cases hb : b.testBit p = true
    · rw [if_pos hb] at hs ⊢
      by_cases hn : n = 0
      · rw [if_pos hn]
        exact ⟨hb, by omega⟩
      · rw [if_neg hn]
        exact ntP_ok b k (n - 1) (p + 1) (by omega) (by omega)
    · rw [if_neg hb] at hs ⊢
      exact ntP_ok b k n (p + 1) (by omega) (by omega)
/-- the box, what is drawn of it -/
abbrev bxN (P : tPL) (s : tES) : Nat := heldN s.1 (-(nI 2)) P.1
def dwN (P : tPL) (s : tES) (dr : Bool) (dn : Nat) : Nat := if 1 < pop (bxN P s) 9 ∧ dr = true then numN dn else dn
def dwP (P : tPL) (s : tES) (dr : Bool) (dn : Nat) : Nat := ntP (bxN P s) 9 (if 1 < pop (bxN P s) 9 ∧ dr = true then numN dn / 65536 % pop (bxN P s) 9 else 0) 0
def dwB (P : tPL) (s : tES) (dr am : Bool) (dn h : Nat) : Bool := decide (¬ bxN P s = 0) && mayK P s am h (dwP P s dr dn)
def dwS (P : tPL) (s : tES) (dr am : Bool) (dn h : Nat) : tES := if dwB P s dr am dn h = true then (upd s.1 (dwP P s dr dn) (nI h), s.2) else s
theorem pop_pos {b : Nat} (h : b < 2 ^ 9) (h0 : ¬ b = 0) : 0 < pop b 9 := by
  have hs : ∀ b, b < 512 → (b = 0 ∨ 0 < pop b 9) := by decide +kernel
  rcases hs b h with q | q
  · exact absurd q h0
  · exact q
theorem dwN_lt (P : tPL) (s : tES) (dr : Bool) (dn : Nat) (h : dn < 2 ^ 31) : dwN P s dr dn < 2 ^ 31 := by
  unfold dwN
  split
  · exact numN_lt dn
  · exact h
theorem tb_lt {b n k : Nat} (hb : b < 2 ^ n) (h : b.testBit k = true) : k < n := by
  by_cases q : k < n
  · exact q
  · have h1 := Nat.ge_two_pow_of_testBit h
    have h2 := Nat.pow_le_pow_right (show 0 < 2 by decide) (show n ≤ k by omega)
    omega
theorem dw_n {c : Prop} {dc : Decidable c} (x m : Nat) (h : 0 < m) : (@ite Nat c dc (x % m) 0) < m := by
  by_cases q : c
  · rw [if_pos q]
    exact Nat.mod_lt _ h
  · rw [if_neg q]
    exact h
theorem ntP_ok0 (b n : Nat) (h : n < pop b 9) : b.testBit (ntP b 9 n 0) = true ∧ ntP b 9 n 0 < 9 := ntP_ok b 9 n 0 rfl h
theorem dw_ok (P : tPL) (s : tES) (dr : Bool) (dn : Nat) (h : 0 < pop (bxN P s) 9) : (bxN P s).testBit (dwP P s dr dn) = true ∧ dwP P s dr dn < 9 := by
  unfold dwP
  exact ntP_ok0 _ _ (dw_n _ _ h)
set_option maxRecDepth 100000 in
set_option maxHeartbeats 4000000 in
theorem c_drawsOne (G : ab_G) (fr : Bool) (S : ms_S) (tl : ab_H) (P : tPL) (s : tES) (bb hh dn : Nat) (dr am : Bool) (hP : mPL S P) (hs : mES S bb s) (hbb : bb < 2) (hhh : hh < 5) (hdn : dn < 2 ^ 31) (hd : m_drawn S = lN dn) (hdr : m_draws S = bI dr) (ham : m_allMay S = bI am) :
    ab_CT G 6 M_X12_drawsOne fr [.ref 0, .int (nI bb), .int (nI hh)] (hM S tl) 0 0 (fun r h' => ∃ S', h' = hM S' tl ∧ mB fL aL bb S S' ∧ mES S' bb (dwS P s dr am dn hh) ∧ m_drawn S' = lN (dwN P s dr dn) ∧ r = some (.int (bI (dwB P s dr am dn hh)))) := by
  refine wp_ct o_X12_drawsOne (Nat.le_of_ble_eq_true rfl) ?_
  generalize hpost : (fun (r : Option Value) (h' : ab_H) => ∃ S', h' = hM S' tl ∧ mB fL aL bb S S' ∧ mES S' bb (dwS P s dr am dn hh) ∧ m_drawn S' = lN (dwN P s dr dn) ∧ r = some (.int (bI (dwB P s dr am dn hh)))) = post
  generalize (hM S tl).length = n0
  obtain ⟨q1, q2, q3, q4, q5, q6⟩ := id hP
  have hbx : heldN (fun p => a_holder S (9 * bb + p)) (-(nI 2)) P.1 = bxN P s := heldN_congr (fun i hi => hs.1 i (by omega))
  have hlt := heldN_lt s.1 (-(nI 2)) P.1
  have hl9 : bxN P s < 2 ^ 9 := Nat.lt_of_lt_of_le hlt (Nat.pow_le_pow_right (by decide) q1)
  have hpl := pop_le (bxN P s) 9
  have ct1 := c_heldBy G fr S tl bb P.1 (-(nI 2)) hbb q1 q3
  rw [hbx] at ct1
  repeat refine ws_s rfl ?_
  refine wp_V (ct1) rfl rfl o_X12_heldBy v_X12_heldBy rfl rfl rfl (Nat.le_of_ble_eq_true rfl) (by decide) ?_
  repeat refine ws_s rfl ?_
  refine wp_eq (y := 0) rfl rfl (by omega) (by omega) (fun hz => ?_) (fun hz => ?_)
  · repeat refine ws_s rfl ?_
    refine wp_ri rfl rfl rfl ?_
    rw [← hpost]
    have hb0 : dwB P s dr am dn hh = false := by
      unfold dwB
      rw [decide_eq_false (fun z => z hz)]
      rfl
    have hn0 : dwN P s dr dn = dn := by
      unfold dwN
      rw [hz]
      exact if_neg (fun z => absurd z.1 (by decide))
    rw [hb0, hn0]
    refine ⟨S, rfl, mB.rf, ?_, hd, rfl⟩
    unfold dwS
    rw [hb0]
    exact hs
  have hpp := pop_pos hl9 hz
  have K85 : ∀ (S1 : ms_S) (i4 : Int32), mB fL aL bb S S1 → mES S1 bb s → mPL S1 P → m_drawn S1 = lN (dwN P s dr dn) → wp G 6 M_X12_drawsOne fr n0 post 85 [some (.ref 0), some (.int (nI bb)), some (.int (nI hh)), some (.int (nI (bxN P s))), some (.int i4), some (.int (nI (dwP P s dr dn)))] [] (hM S1 tl) := by
    intro S1 i4 hb1 hs1 hP1 hd1
    have hok := dw_ok P s dr dn hpp
    have hpP : dwP P s dr dn < P.1 := tb_lt hlt hok.1
    have ct2 := c_may G fr S1 tl P s bb hh (dwP P s dr dn) hP1 hs1 hbb hhh hpP
    have ham1 : decide (¬ m_allMay S1 = 0) = am := by
      rw [show m_allMay S1 = m_allMay S from hb1.1 0 61 (Or.inr rfl), ham]
      cases am <;> rfl
    rw [ham1] at ct2
    repeat refine ws_s rfl ?_
    refine wp_cV rfl rfl o_X12_may v_X12_may (ct2) rfl rfl rfl (Nat.le_of_ble_eq_true rfl) (by decide) ?_
    rintro r h' ⟨S2, rfl, hm2, rfl⟩
    have hs2 := mES_mE hm2.LR hs1
    have hd2 : m_drawn S2 = lN (dwN P s dr dn) := by rw [← hd1]; exact congrFun (congrFun hm2.2.1 0) 57
    repeat refine ws_s rfl ?_
    refine wp_bn rfl (fun hb => ?_) (fun hb => ?_)
    · have hbt : dwB P s dr am dn hh = false := by
        unfold dwB
        rw [hb, Bool.and_false]
      repeat refine ws_s rfl ?_
      refine wp_ri rfl rfl rfl ?_
      rw [← hpost, hbt]
      refine ⟨S2, rfl, hb1.tr (hm2.B aLQ), ?_, hd2, rfl⟩
      unfold dwS
      rw [hbt]
      exact hs2
    · have hbt : dwB P s dr am dn hh = true := by
        unfold dwB
        rw [hb, decide_eq_true hz]
        rfl
      repeat refine ws_s rfl ?_
      refine ws_sa (k := 9 * bb + dwP P s dr dn) rfl (by first | rfl | (simp only [pk_mul, nI_add]; done)) (by omega) (by decide) (rfl) ?_
      repeat refine ws_s rfl ?_
      refine wp_ri rfl rfl rfl ?_
      rw [← hpost, hbt]
      refine ⟨sA S2 26 (9 * bb + dwP P s dr dn) (nI hh), rfl, hb1.tr ((hm2.B aLQ).tr (mB.ho rfl (by omega))), ?_, hd2, rfl⟩
      unfold dwS
      rw [if_pos hbt]
      refine ⟨fun p hp => ?_, hs2.2.1, hs2.2.2.1, hs2.2.2.2.1, hs2.2.2.2.2.1, hs2.2.2.2.2.2⟩
      show upd (S2.2.2.2.1 26) (9 * bb + dwP P s dr dn) (nI hh) (9 * bb + p) = upd s.1 (dwP P s dr dn) (nI hh) p
      unfold upd
      by_cases z1 : p = dwP P s dr dn
      · rw [if_pos z1, if_pos (by omega)]
      · rw [if_neg z1, if_neg (by omega)]
        exact hs2.1 p hp
  have K46 : ∀ (S1 : ms_S), mB fL aL bb S S1 → mES S1 bb s → mPL S1 P → m_drawn S1 = lN (dwN P s dr dn) → ∀ k n p, p + k = 9 → n + pop (bxN P s) p < pop (bxN P s) 9 → ntP (bxN P s) k n p = dwP P s dr dn → wp G 6 M_X12_drawsOne fr n0 post 46 [some (.ref 0), some (.int (nI bb)), some (.int (nI hh)), some (.int (nI (bxN P s))), some (.int (nI n)), some (.int (nI p))] [] (hM S1 tl) := by
    intro S1 hb1 hs1 hP1 hd1 k
    induction k with
    | zero =>
      intro n p h1 h2 _
      rw [show p = 9 by omega] at h2
      omega
    | succ k ih =>
      intro n p h1 h2 h3
      have hps := pop_s (bxN P s) p
      unfold ntP at h3
      repeat refine ws_s rfl ?_
      refine wp_S (c_isOfN G fr (hM S1 tl) (bxN P s) p (by omega) (by omega)) rfl rfl o_X12_isOf s_X12_isOf rfl rfl (Nat.le_of_ble_eq_true rfl) (by decide) ?_
      repeat refine ws_s rfl ?_
      refine wp_bn rfl (fun hb => ?_) (fun hb => ?_)
      · rw [if_neg (by rw [hb]; decide)] at h3 hps
        repeat refine ws_s rfl ?_
        refine wp_S (c_isOfN G fr (hM S1 tl) (bxN P s) p (by omega) (by omega)) rfl rfl o_X12_isOf s_X12_isOf rfl rfl (Nat.le_of_ble_eq_true rfl) (by decide) ?_
        repeat refine ws_s rfl ?_
        refine wp_bn rfl (fun hb2 => ?_) (fun hb2 => absurd (hb.symm.trans hb2) (by decide))
        repeat refine ws_s rfl ?_
        refine ws_b rfl ?_
        exact wp_eqL (by rw [← nI_add p 1, ← pk_sub (show 0 ≤ n by omega)]; rfl) (ih (n - 0) (p + 1) (by omega) (by omega) h3)
      · rw [if_pos hb] at h3 hps
        repeat refine ws_s rfl ?_
        refine wp_le (y := 0) rfl rfl (by omega) (by omega) (fun hn => ?_) (fun hn => ?_)
        · rw [if_pos (by omega)] at h3
          subst h3
          exact K85 S1 _ hb1 hs1 hP1 hd1
        · rw [if_neg (by omega)] at h3
          repeat refine ws_s rfl ?_
          refine wp_S (c_isOfN G fr (hM S1 tl) (bxN P s) p (by omega) (by omega)) rfl rfl o_X12_isOf s_X12_isOf rfl rfl (Nat.le_of_ble_eq_true rfl) (by decide) ?_
          repeat refine ws_s rfl ?_
          refine wp_bn rfl (fun hb2 => absurd (hb.symm.trans hb2) (by decide)) (fun hb2 => ?_)
          repeat refine ws_s rfl ?_
          refine ws_b rfl ?_
          exact wp_eqL (by rw [← nI_add p 1, ← pk_sub (show 1 ≤ n by omega)]; rfl) (ih (n - 1) (p + 1) (by omega) (by omega) h3)
  have K41 : ∀ (S1 : ms_S) (n : Nat), mB fL aL bb S S1 → mES S1 bb s → mPL S1 P → m_drawn S1 = lN (dwN P s dr dn) → n < pop (bxN P s) 9 → ntP (bxN P s) 9 n 0 = dwP P s dr dn → wp G 6 M_X12_drawsOne fr n0 post 41 [some (.ref 0), some (.int (nI bb)), some (.int (nI hh)), some (.int (nI (bxN P s))), none, none] [.int (nI n)] (hM S1 tl) := by
    intro S1 n hb1 hs1 hP1 hd1 hn hnt
    iterate 3 refine ws_s rfl ?_
    exact K46 S1 hb1 hs1 hP1 hd1 9 n 0 rfl (by show n + 0 < _; omega) hnt
  have K40 : ¬ (1 < pop (bxN P s) 9 ∧ dr = true) → wp G 6 M_X12_drawsOne fr n0 post 40 [some (.ref 0), some (.int (nI bb)), some (.int (nI hh)), some (.int (nI (bxN P s))), none, none] [] (hM S tl) := by
    intro hno
    iterate 1 refine ws_s rfl ?_
    refine K41 S 0 mB.rf hs hP ?_ hpp ?_
    · unfold dwN
      rw [if_neg hno]
      exact hd
    · unfold dwP
      rw [if_neg hno]
  repeat refine ws_s rfl ?_
  refine wp_S (c_manyOf G fr _ (hM S tl) (by omega)) rfl rfl o_X12_manyOf s_X12_manyOf rfl rfl (Nat.le_of_ble_eq_true rfl) (by decide) ?_
  repeat refine ws_s rfl ?_
  refine wp_le (y := 1) (rfl) (rfl) (by omega) (by omega) (fun h1 => ?_) (fun h1 => ?_)
  · exact K40 (fun z => by omega)
  repeat refine ws_s rfl ?_
  refine wp_bn hdr (fun hf => ?_) (fun hf => ?_)
  · exact K40 (fun z => absurd (z.2.symm.trans hf) (by decide))
  repeat refine ws_s rfl ?_
  refine wp_S (c_manyOf G fr _ (hM S tl) (by omega)) rfl rfl o_X12_manyOf s_X12_manyOf rfl rfl (Nat.le_of_ble_eq_true rfl) (by decide) ?_
  refine wp_V (c_numberN G fr S tl dn (pop (bxN P s) 9) hpp (by omega) hdn hd) rfl rfl o_X12_number1 v_X12_number1 rfl rfl rfl (Nat.le_of_ble_eq_true rfl) (by decide) ?_
  iterate 1 refine ws_s rfl ?_
  have hyes : 1 < pop (bxN P s) 9 ∧ dr = true := ⟨h1, hf⟩
  refine K41 _ _ mB.dr ⟨hs.1, hs.2.1, hs.2.2.1, hs.2.2.2.1, hs.2.2.2.2.1, hs.2.2.2.2.2⟩ (mPL_mB (S := S) (bb := bb) mB.dr hP) ?_ (Nat.mod_lt _ hpp) ?_
  · unfold dwN
    rw [if_pos hyes]
    rfl
  · unfold dwP
    rw [if_pos hyes]
