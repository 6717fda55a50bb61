/-! ===== the program: tokens ===== -/
/-- a word's token -/
def kC (k : Nat) : Nat := if k ≤ 10 then 21 + k else if k = 11 then 9 else if k = 12 then 8 else if k = 13 then 10 else k - 13
def stK (c : Nat) : Nat := if c = 40 then 32 else if c = 41 then 33 else if c = 42 then 19 else if c = 43 then 17 else if c = 45 then 18 else if c = 47 then 20 else if c = 59 then 34 else if c = 60 then 11 else if c = 61 then 13 else if c = 62 then 16 else 38
def tkC (t : Nat × Nat × Nat × Nat) : Nat := if t.1 = 0 then 37 else if t.1 = 1 then kC t.2.1 else if t.1 = 2 then 35 else if t.1 = 3 then 36 else if t.1 = 4 then stK t.2.1 else if t.1 = 5 then 11 + t.2.1 else 38
def lgL : List Nat := [0, 518160384, 524555840, 788091136, 378994688, 274075648, 613523456, 136085504, 522190848, 48365568, 486146048, 0, 0, 0, 0, 0, 0, 0, 0, 0, 0, 546475168, 273991680, 645974176, 690000032, 153148416, 475172864, 642945024, 404455424, 351582208, 438075392, 251006976]
def lgN (k : Nat) : Nat := lgL.getD k 0
theorem lg_k : ∀ k, k < 21 → lgN (kC k) = pkN wdN (wSt k) (wSt k + wLn k) ∧ kC k < 32 ∧ 1 ≤ kC k := by decide +kernel
theorem lg_i : ∀ i, i < 32 → ∀ j, j < 32 → lgN i = lgN j → lgN i = 0 ∨ i = j := by decide +kernel
theorem lg_s : ∀ i, i < 32 → ¬ lgN i = 0 → ∃ k, k < 21 ∧ kC k = i := by
  intro i hi h
  by_cases z : i ≤ 7
  · by_cases z0 : i = 0
    · rw [z0] at h
      exact absurd rfl h
    · exact ⟨i + 13, by omega, by unfold kC; rw [if_neg (by omega), if_neg (by omega), if_neg (by omega), if_neg (by omega)]; omega⟩
  · by_cases y : 21 ≤ i
    · exact ⟨i - 21, by omega, by unfold kC; rw [if_pos (by omega)]; omega⟩
    · rcases (show i = 8 ∨ i = 9 ∨ i = 10 ∨ (11 ≤ i ∧ i ≤ 20) by omega) with e | e | e | e
      · exact ⟨12, by decide, by rw [e]; rfl⟩
      · exact ⟨11, by decide, by rw [e]; rfl⟩
      · exact ⟨13, by decide, by rw [e]; rfl⟩
      · exfalso
        have : ∀ i, i < 21 → 11 ≤ i → lgN i = 0 := by decide +kernel
        exact h (this i (by omega) e.1)
theorem lg_l : ∀ i, i < 32 → lgN i < 2 ^ 30 := by decide +kernel
theorem wd_m : ∀ k, k < 21 → 1 ≤ wLn k ∧ ∀ j, j < wLn k → 97 ≤ wdN (wSt k + j) ∧ wdN (wSt k + j) ≤ 122 := by decide +kernel
/-- one letter of six -/
def dgK (b : Nat → Nat) (a e i : Nat) : Nat := if a + i < e then b (a + i) - 96 else 0
theorem dg_lt {b : Nat → Nat} {a e : Nat} (h : ∀ i, a ≤ i → i < e → smB b i = true) (i : Nat) : dgK b a e i < 32 := by
  unfold dgK
  split
  · have := h (a + i) (by omega) (by assumption)
    unfold smB at this
    simp only [Bool.and_eq_true, decide_eq_true_eq] at this
    omega
  · decide
theorem pk_inj {b c : Nat → Nat} {a e a2 e2 : Nat} (h : ∀ i, dgK b a e i < 32) (h2 : ∀ i, dgK c a2 e2 i < 32) : ∀ j, pkF b a e j = pkF c a2 e2 j → ∀ i, i < j → dgK b a e i = dgK c a2 e2 i
  | 0, _, i, hi => absurd hi (Nat.not_lt_zero _)
  | j + 1, q, i, hi => by
    have q : 32 * pkF b a e j + dgK b a e j = 32 * pkF c a2 e2 j + dgK c a2 e2 j := q
    have g1 := h j
    have g2 := h2 j
    by_cases z : i = j
    · rw [z]; omega
    · exact pk_inj h h2 j (by omega) i (by omega)
theorem pk_cg {b c : Nat → Nat} {a e a2 e2 : Nat} : ∀ j, (∀ i, i < j → dgK b a e i = dgK c a2 e2 i) → pkF b a e j = pkF c a2 e2 j
  | 0, _ => rfl
  | j + 1, h => by
    show 32 * pkF b a e j + dgK b a e j = 32 * pkF c a2 e2 j + dgK c a2 e2 j
    rw [pk_cg j (fun i hi => h i (by omega)), h j (by omega)]
theorem pk_w {b : Nat → Nat} {a e k : Nat} (hk : k < 21) (hae : a ≤ e) (he : e - a ≤ 6) (h : ∀ i, a ≤ i → i < e → smB b i = true) : pkN b a e = lgN (kC k) ↔ wqB b a e k = true := by
  rw [(lg_k k hk).1]
  obtain ⟨w1, w2⟩ := wd_m k hk
  have w5 := (wd_t k hk).2.1
  have hb : ∀ i, a ≤ i → i < e → 97 ≤ b i ∧ b i ≤ 122 := fun i h1 h2 => by
    have := h i h1 h2
    unfold smB at this
    simp only [Bool.and_eq_true, decide_eq_true_eq] at this
    exact this
  have hw : ∀ i, dgK wdN (wSt k) (wSt k + wLn k) i < 32 := fun i => by
    unfold dgK
    split
    · have := w2 i (by omega); omega
    · decide
  unfold wqB
  rw [Bool.and_eq_true, decide_eq_true_eq, allB_iff]
  constructor
  · intro q
    have g := pk_inj (dg_lt h) hw 6 q
    have hl : wLn k = e - a := by
      rcases Nat.lt_trichotomy (wLn k) (e - a) with z | z | z
      · have := g (wLn k) (by omega)
        unfold dgK at this
        rw [if_pos (by omega), if_neg (by omega)] at this
        have := hb (a + wLn k) (by omega) (by omega)
        omega
      · exact z
      · have := g (e - a) (by omega)
        unfold dgK at this
        rw [if_neg (by omega), if_pos (by omega)] at this
        have := w2 (e - a) z
        omega
    refine ⟨hl, fun j hj => ?_⟩
    have := g j (by omega)
    unfold dgK at this
    rw [if_pos (by omega), if_pos (by omega)] at this
    have := w2 j hj
    have := hb (a + j) (by omega) (by omega)
    exact decide_eq_true (by omega)
  · rintro ⟨hl, q⟩
    refine pk_cg 6 (fun i _ => ?_)
    unfold dgK
    by_cases z : i < wLn k
    · rw [if_pos (by omega), if_pos (by omega)]
      rw [of_decide_eq_true (q i z)]
    · rw [if_neg (by omega), if_neg (by omega)]
/-! the tape's memory -/
def tpF (S S' : ms_S) : Prop := (∀ a, ¬ a = 0 → S'.1 a = S.1 a) ∧ (∀ k, k < 4 ∨ 7 < k → S'.1 0 k = S.1 0 k) ∧ S'.2 = S.2
theorem tpF.rf {S : ms_S} : tpF S S := ⟨fun _ _ => rfl, fun _ _ => rfl, rfl⟩
theorem tpF.tr {S1 S2 S3 : ms_S} (h1 : tpF S1 S2) (h2 : tpF S2 S3) : tpF S1 S3 := ⟨fun a q => (h2.1 a q).trans (h1.1 a q), fun a q => (h2.2.1 a q).trans (h1.2.1 a q), h2.2.2.trans h1.2.2⟩
theorem tpF.sV {S : ms_S} {k : Nat} {x : Int32} (h1 : 4 ≤ k) (h2 : k ≤ 7) : tpF S (sV S k x) := ⟨fun _ q => u2_o q, fun j q => u2_ne (Or.inr (by omega)), rfl⟩
def bLg (S : ms_S) : Prop := ∀ k, k < 32 → S.2.2.2.1 2 k = nI (lgN k)
def bTx (S : ms_S) (b : Nat → Nat) (n : Nat) : Prop := n ≤ 700 ∧ S.1 0 3 = nI n ∧ (∀ j, j < n → S.2.2.2.1 1 j = nI (b j) ∧ b j < 256) ∧ bLg S
theorem bTx.F {S S' : ms_S} {b : Nat → Nat} {n : Nat} (h : bTx S b n) (f : tpF S S') : bTx S' b n := by
  obtain ⟨h1, h2, h3, h4⟩ := h
  have e : S'.2 = S.2 := f.2.2
  refine ⟨h1, (f.2.1 3 (by omega)).trans h2, fun j hj => ⟨?_, (h3 j hj).2⟩, fun k hk => ?_⟩
  · rw [e]; exact (h3 j hj).1
  · rw [e]; exact h4 k hk
/-- letters, the first six of them -/
def vlF (b : Nat → Nat) (a : Nat) : Nat → Nat
  | 0 => 0
  | j + 1 => if j < 6 then 32 * vlF b a j + (b (a + j) - 96) else vlF b a j
theorem vl_pk {b : Nat → Nat} {a e : Nat} : ∀ j, j ≤ 6 → a + j ≤ e → vlF b a j = pkF b a e j
  | 0, _, _ => rfl
  | j + 1, h, h2 => by
    show (if j < 6 then 32 * vlF b a j + (b (a + j) - 96) else _) = 32 * pkF b a e j + (if a + j < e then b (a + j) - 96 else 0)
    rw [if_pos (by omega), if_pos (by omega), vl_pk (e := e) j (by omega) (by omega)]
theorem vl_bd {b : Nat → Nat} {a : Nat} : ∀ j, (∀ i, i < j → 97 ≤ b (a + i) ∧ b (a + i) ≤ 122) → vlF b a j < 32 ^ (if j < 6 then j else 6) ∧ (1 ≤ j → 32 ^ ((if j < 6 then j else 6) - 1) ≤ vlF b a j)
  | 0, _ => ⟨by show 0 < 1; decide, fun z => absurd z (by decide)⟩
  | j + 1, h => by
    have ih := vl_bd j (fun i hi => h i (by omega))
    have hj := h j (by omega)
    by_cases z : j < 6
    · rw [if_pos z] at ih
      rw [show (if j + 1 < 6 then j + 1 else 6) = j + 1 by split <;> omega]
      have e : vlF b a (j + 1) = 32 * vlF b a j + (b (a + j) - 96) := if_pos z
      rw [e, Nat.pow_succ]
      refine ⟨by omega, fun _ => ?_⟩
      show 32 ^ j ≤ _
      rcases Nat.eq_zero_or_pos j with y | y
      · subst y
        show 1 ≤ _
        omega
      · have h2 := ih.2 y
        have e2 : 32 ^ j = 32 ^ (j - 1) * 32 := by rw [← Nat.pow_succ]; congr 1; omega
        rw [e2]
        omega
    · rw [if_neg z] at ih
      rw [if_neg (by omega)]
      have e : vlF b a (j + 1) = vlF b a j := if_neg z
      rw [e]
      exact ⟨ih.1, fun _ => ih.2 (by omega)⟩
theorem pk_bd {b : Nat → Nat} {a e m : Nat} (h0 : ∀ i, i < m → 97 ≤ b (a + i) ∧ b (a + i) ≤ 122) (hm : 1 ≤ m) (hme : a + m = e) (h6 : m ≤ 6) : ∀ t, 32 ^ (m + t - 1) ≤ pkF b a e (m + t) ∧ pkF b a e (m + t) < 32 ^ (m + t)
  | 0 => by
    have bd := vl_bd m h0
    rw [show (if m < 6 then m else 6) = m by split <;> omega] at bd
    rw [← vl_pk (m + 0) h6 (by omega)]
    exact ⟨bd.2 hm, bd.1⟩
  | t + 1 => by
    have ih := pk_bd h0 hm hme h6 t
    have e1 : pkF b a e (m + (t + 1)) = 32 * pkF b a e (m + t) + 0 := by
      show 32 * pkF b a e (m + t) + (if a + (m + t) < e then b (a + (m + t)) - 96 else 0) = _
      rw [if_neg (by omega)]
    rw [e1, show m + (t + 1) - 1 = (m + t - 1) + 1 by omega, show m + (t + 1) = (m + t) + 1 by omega, Nat.pow_succ, Nat.pow_succ]
    omega
section TAPE
variable {G : ab_G} {fr : Bool} {tl : ab_H}
theorem u_isL {lay : List ms_D} {S : ms_S} {b : Nat → Nat} {i : Nat} (h : b i < 256) (K : Int32 → ms_S → Prop) (k : K (bI (smB b i)) S) : ctI G 1 M_X10_isLetter fr [.int (nI (b i))] lay S tl K := by
  refine ctI.pu (v9 := bI (smB b i)) (m_X10_isLetter (fun n0 => ?_)) k
  rw [nI_ltI (by omega) (by decide), nI_ltI (by decide) (by omega)]
  unfold smB
  refine ⟨fun z => ?_, fun z => ⟨fun y => ?_, fun y => ?_⟩⟩
  · rw [decide_eq_false (by omega)]; rfl
  · rw [decide_eq_false (p := b i ≤ 122) (by omega), Bool.and_false]; rfl
  · rw [decide_eq_true (by omega), decide_eq_true (by omega)]; rfl
theorem u_isD {lay : List ms_D} {S : ms_S} {b : Nat → Nat} {i : Nat} (h : b i < 256) (K : Int32 → ms_S → Prop) (k : K (bI (dtB b i)) S) : ctI G 1 M_X10_isDigit fr [.int (nI (b i))] lay S tl K := by
  refine ctI.pu (v9 := bI (dtB b i)) (m_X10_isDigit (fun n0 => ?_)) k
  rw [nI_ltI (by omega) (by decide), nI_ltI (by decide) (by omega)]
  unfold dtB
  refine ⟨fun z => ?_, fun z => ⟨fun y => ?_, fun y => ?_⟩⟩
  · rw [decide_eq_false (by omega)]; rfl
  · rw [decide_eq_false (p := b i ≤ 57) (by omega), Bool.and_false]; rfl
  · rw [decide_eq_true (by omega), decide_eq_true (by omega)]; rfl
theorem u_sgT {lay : List ms_D} {S : ms_S} {c : Nat} (h : c < 256) (K : Int32 → ms_S → Prop) (k : K (nI (stK c)) S) : ctI G 1 M_X10_signToken fr [.int (nI c)] lay S tl K := by
  refine ctI.pu (v9 := nI (stK c)) (m_X10_signToken (fun n0 => ?_)) k
  simp only [nI_eq (show c < 2 ^ 31 by omega) (show 40 < 2 ^ 31 by decide), nI_eq (show c < 2 ^ 31 by omega) (show 41 < 2 ^ 31 by decide), nI_eq (show c < 2 ^ 31 by omega) (show 42 < 2 ^ 31 by decide), nI_eq (show c < 2 ^ 31 by omega) (show 43 < 2 ^ 31 by decide), nI_eq (show c < 2 ^ 31 by omega) (show 45 < 2 ^ 31 by decide), nI_eq (show c < 2 ^ 31 by omega) (show 47 < 2 ^ 31 by decide), nI_eq (show c < 2 ^ 31 by omega) (show 59 < 2 ^ 31 by decide), nI_eq (show c < 2 ^ 31 by omega) (show 60 < 2 ^ 31 by decide), nI_eq (show c < 2 ^ 31 by omega) (show 61 < 2 ^ 31 by decide), nI_eq (show c < 2 ^ 31 by omega) (show 62 < 2 ^ 31 by decide)]
  refine ⟨fun z => by subst z; rfl, fun z => by subst z; rfl, fun z => by subst z; rfl, fun z => by subst z; rfl, fun z => by subst z; rfl, fun z => by subst z; rfl, fun z => by subst z; rfl, fun z => by subst z; rfl, fun z => by subst z; rfl, fun z => by subst z; rfl, fun a1 a2 a3 a4 a5 a6 a7 a8 a9 a10 => ?_⟩
  unfold stK
  rw [if_neg a1, if_neg a2, if_neg a3, if_neg a4, if_neg a5, if_neg a6, if_neg a7, if_neg a8, if_neg a9, if_neg a10]
theorem u_pad {lay : List ms_D} {S : ms_S} {b : Nat → Nat} {a e m : Nat} (h0 : ∀ i, i < m → 97 ≤ b (a + i) ∧ b (a + i) ≤ 122) (hm : 1 ≤ m) (hme : a + m = e) (K : Int32 → ms_S → Prop) (k : K (nI (if m ≤ 6 then pkN b a e else vlF b a m)) S) : ctI G 1 M_X10_padded fr [.int (nI (vlF b a m))] lay S tl K := by
  refine ctI.pu (v9 := nI (if m ≤ 6 then pkN b a e else vlF b a m)) (m_X10_padded (fun n0 => ?_)) k
  by_cases z : m ≤ 6
  · rw [if_pos z]
    have KL : ∀ t j, j + t = 6 → m ≤ j → L_X10_padded_4 G fr n0 (hLy lay S tl) (fun v _ => v = nI (pkN b a e)) ms_0 (nI (pkF b a e j)) (nI (j - m)) := by
      intro t
      induction t with
      | zero =>
        intro j hj hmj
        have : j = 6 := hj
        subst this
        have l2 := pk_bd h0 hm hme z (6 - m)
        rw [show m + (6 - m) = 6 by omega] at l2
        have l3 : 33554432 ≤ pkF b a e 6 ∧ pkF b a e 6 < 1073741824 := l2
        refine b_X10_padded_4 ?_
        rw [nI_leI (by decide) (by omega), show (0 : Int32) = nI 0 from rfl, nI_eq (b := 0) (by omega) (by decide), show (33554432 : Int32) = nI 33554432 from rfl, nI_leI (by decide) (by omega)]
        exact ⟨fun _ => rfl, fun _ => ⟨fun _ => rfl, fun _ => ⟨fun _ => rfl, fun y => absurd l3.1 y⟩⟩⟩
      | succ t ih =>
        intro j hj hmj
        have l2 := pk_bd h0 hm hme z (j - m)
        rw [show m + (j - m) = j by omega] at l2
        have l3 : 32 ^ j ≤ 32 ^ 5 := Nat.pow_le_pow_right (by decide) (by omega)
        have l4 : pkF b a e j < 33554432 := Nat.lt_of_lt_of_le l2.2 l3
        have l5 : 0 < pkF b a e j := Nat.lt_of_lt_of_le (Nat.pow_pos (by decide)) l2.1
        refine b_X10_padded_4 ?_
        rw [nI_leI (by decide) (by omega), show (0 : Int32) = nI 0 from rfl, nI_eq (b := 0) (by omega) (by decide), show (33554432 : Int32) = nI 33554432 from rfl, nI_leI (by decide) (by omega), pk_mul, nI_add]
        refine ⟨fun y => absurd y (by omega), fun _ => ⟨fun y => absurd y (by omega), fun _ => ⟨fun y => absurd y (by omega), fun _ => ?_⟩⟩⟩
        have e1 : pkF b a e (j + 1) = pkF b a e j * 32 := by
          show 32 * pkF b a e j + (if a + j < e then b (a + j) - 96 else 0) = _
          rw [if_neg (by omega)]
          omega
        have := ih (j + 1) (by omega) (by omega)
        rw [e1, show j + 1 - m = j - m + 1 by omega] at this
        exact this
    have := KL (6 - m) m (by omega) (Nat.le_refl _)
    rw [Nat.sub_self] at this
    rw [vl_pk (e := e) m z (by omega)]
    exact this
  · rw [if_neg z]
    have bd := vl_bd m h0
    rw [if_neg (show ¬ m < 6 by omega)] at bd
    have l3 : 33554432 ≤ vlF b a m ∧ vlF b a m < 1073741824 := ⟨bd.2 hm, bd.1⟩
    refine b_X10_padded_4 ?_
    rw [show (33554432 : Int32) = nI 33554432 from rfl, nI_leI (a := 33554432) (by decide) (by omega)]
    exact ⟨fun _ => rfl, fun _ => ⟨fun _ => rfl, fun _ => ⟨fun _ => rfl, fun y => absurd l3.1 y⟩⟩⟩
/-- the token of a word -/
def wtK (b : Nat → Nat) (a e : Nat) : Nat := match wkN b a e with
  | some k => kC k
  | none => 35
theorem u_wordT {S : ms_S} {b : Nat → Nat} {a e : Nat} (hl : bLg S) (hae : a < e) (he : e - a ≤ 6) (h : ∀ i, a ≤ i → i < e → smB b i = true) (hv : S.1 0 7 = nI (pkN b a e)) (K : Int32 → ms_S → Prop) (k : K (nI (wtK b a e)) S) : ctI G 1 M_X10_wordToken fr [.ref 0] lTp S tl K := by
  have hp : 1 ≤ pkN b a e ∧ pkN b a e < 1073741824 := by
    have h0 : ∀ i, i < e - a → 97 ≤ b (a + i) ∧ b (a + i) ≤ 122 := fun i hi => by
      have := h (a + i) (by omega) (by omega)
      unfold smB at this
      simp only [Bool.and_eq_true, decide_eq_true_eq] at this
      exact this
    have l2 := pk_bd (e := e) h0 (by omega) (by omega) he (6 - (e - a))
    rw [show e - a + (6 - (e - a)) = 6 by omega] at l2
    have l3 : 33554432 ≤ pkF b a e 6 ∧ pkF b a e 6 < 1073741824 := l2
    exact ⟨by show 1 ≤ pkF b a e 6; omega, l3.2⟩
  have g1 : ∀ i, 1 ≤ i → i < 32 → lgN i = pkN b a e → wtK b a e = i := by
    intro i hi hi2 q
    obtain ⟨c, hc, rfl⟩ := lg_s i hi2 (by omega)
    have hq := (pk_w hc (by omega) he h).mp q.symm
    unfold wtK
    cases y : wkN b a e with
    | none => exact absurd ((wkF_no y c hc).symm.trans hq) (by decide)
    | some d =>
      obtain ⟨d1, d2⟩ := wkF_lt y
      have q2 := (pk_w d1 (by omega) he h).mpr d2
      rcases lg_i _ hi2 _ (lg_k d d1).2.1 (q.trans q2) with w | w
      · omega
      · exact w.symm
  have g2 : ¬ wtK b a e = 35 → ∃ i, 1 ≤ i ∧ i < 32 ∧ lgN i = pkN b a e := by
    intro q
    unfold wtK at q
    cases y : wkN b a e with
    | none => rw [y] at q; exact absurd rfl q
    | some d =>
      obtain ⟨d1, d2⟩ := wkF_lt y
      exact ⟨kC d, (lg_k d d1).2.2, (lg_k d d1).2.1, ((pk_w d1 (by omega) he h).mpr d2).symm⟩
  refine m_X10_wordToken (fun n0 => ?_)
  suffices KL : ∀ t i, i + t = 32 → 1 ≤ i → (∀ j, 1 ≤ j → j < i → ¬ lgN j = pkN b a e) → L_X10_wordToken_2 G fr n0 tl K S (nI i) from KL 31 1 rfl (by decide) (fun j h1 h2 => absurd h2 (by omega))
  intro t
  induction t with
  | zero =>
    intro i hi _ hn
    have : i = 32 := hi
    subst this
    refine b_X10_wordToken_2 ⟨fun _ => ?_, fun z => absurd (Int32.le_refl _) z⟩
    have : wtK b a e = 35 := by
      apply Decidable.byContradiction
      intro q
      obtain ⟨i, i1, i2, i3⟩ := g2 q
      exact hn i i1 i2 i3
    rw [this] at k
    exact k
  | succ t ih =>
    intro i hi h1 hn
    refine b_X10_wordToken_2 ?_
    have hb := lg_l i (by omega)
    rw [nI_leI (by decide) (by omega), show (nI i).toNatClampNeg = i from nI_clamp (by omega), hl i (by omega), hv, nI_eq (by omega) (by omega), nI_add]
    refine ⟨fun z => absurd z (by omega), fun _ => ⟨(x_vp (by omega)).mpr (by omega), fun z => ?_, fun z => ih (i + 1) (by omega) (by omega) (fun j j1 j2 => ?_)⟩⟩
    · rw [g1 i h1 (by omega) z] at k
      exact k
    · by_cases y : j = i
      · rw [y]; exact z
      · exact hn j j1 (by omega)
theorem u_readW {S : ms_S} {b : Nat → Nat} {n a : Nat} (hT : bTx S b n) (ha : a < n) (hs : smB b a = true) (h4 : S.1 0 4 = nI a) (h6 : S.1 0 6 = nI a) (h7 : S.1 0 7 = nI 0) (K : ms_S → Prop)
    (k : ∀ S', tpF S S' → S'.1 0 4 = nI (ru (smB b) n a) → S'.1 0 6 = nI a → S'.1 0 5 = nI (if ru (smB b) n a - a ≤ 6 then wtK b a (ru (smB b) n a) else 38) → (ru (smB b) n a - a ≤ 6 → S'.1 0 7 = nI (pkN b a (ru (smB b) n a))) → K S') : ctU G 2 M_X10_readWord fr [.ref 0] lTp S tl K := by
  refine m_X10_readWord (fun n0 => ?_)
  have hlt : ∀ i, smB b i = true → 97 ≤ b i ∧ b i ≤ 122 := fun i q => by
    unfold smB at q
    simp only [Bool.and_eq_true, decide_eq_true_eq] at q
    exact q
  have hn := hT.1
  have KE : ∀ j X, tpF S X → X.1 0 4 = nI j → X.1 0 6 = nI a → X.1 0 7 = nI (vlF b a (j - a)) → a < j → j ≤ n → (∀ i, a ≤ i → i < j → smB b i = true) → ru (smB b) n a = j → L_X10_readWord_79 G fr n0 tl K X := by
    intro j X x0 x4 x6 x7 hj hjn hsm hr
    rw [hr] at k
    refine b_X10_readWord_79 ?_
    rw [x7]
    refine u_pad (e := j) (fun i hi => hlt _ (hsm _ (by omega) (by omega))) (by omega) (by omega) _ ?_
    rw [x4, x6, pk_sub (by omega), nI_leI (by omega) (by decide)]
    refine ⟨fun z => ?_, fun z => ?_⟩
    · rw [if_pos z] at k ⊢
      refine u_wordT (b := b) (a := a) (e := j) ((hT.F (x0.tr (tpF.sV (by decide) (by decide)))).2.2.2) hj z hsm u2_eq _ (b_X10_readWord_114 ?_)
      exact k _ (x0.tr ((tpF.sV (by decide) (by decide)).tr (tpF.sV (by decide) (by decide)))) x4 x6 rfl (fun _ => rfl)
    · rw [if_neg z] at k ⊢
      refine b_X10_readWord_114 ?_
      exact k _ (x0.tr ((tpF.sV (by decide) (by decide)).tr (tpF.sV (by decide) (by decide)))) x4 x6 rfl (fun y => absurd y z)
  suffices KL : ∀ f j X, n - j ≤ f → tpF S X → X.1 0 4 = nI j → X.1 0 6 = nI a → X.1 0 7 = nI (vlF b a (j - a)) → a ≤ j → j ≤ n → (∀ i, a ≤ i → i < j → smB b i = true) → ru (smB b) n a = ru (smB b) n j → L_X10_readWord_0 G fr n0 tl K X from KL n a S (by omega) tpF.rf h4 h6 (by rw [Nat.sub_self]; exact h7) (Nat.le_refl _) (by omega) (fun i h1 h2 => absurd h2 (by omega)) rfl
  intro f
  induction f with
  | zero =>
    intro j X hf x0 x4 x6 x7 hj hjn hsm hr
    have hj2 : j = n := by omega
    refine b_X10_readWord_0 ?_
    rw [x4, (hT.F x0).2.1, nI_leI (by omega) (by omega)]
    exact ⟨fun _ => KE j X x0 x4 x6 x7 (by omega) hjn hsm (by rw [hr, ru_n (by omega)]), fun z => absurd z (by omega)⟩
  | succ f ih =>
    intro j X hf x0 x4 x6 x7 hj hjn hsm hr
    refine b_X10_readWord_0 ?_
    rw [x4, (hT.F x0).2.1, nI_leI (by omega) (by omega)]
    refine ⟨fun z => KE j X x0 x4 x6 x7 (by omega) hjn hsm (by rw [hr, ru_n (by omega)]), fun z => ⟨(x_vp (by omega)).mpr (by omega), ?_⟩⟩
    obtain ⟨e1, e2⟩ := (hT.F x0).2.2.1 j (by omega)
    rw [show (nI j).toNatClampNeg = j from nI_clamp (by omega), e1]
    refine u_isL e2 _ ?_
    rw [x_b0, x4, x6, x7, show (nI j).toNatClampNeg = j from nI_clamp (by omega), e1, pk_sub (by omega), nI_leI (by decide) (by omega)]
    refine ⟨fun y => KE j X x0 x4 x6 x7 (Nat.lt_of_le_of_ne hj (fun q => by rw [← q, hs] at y; cases y)) hjn hsm (by rw [hr, ru_f y]), fun y => ?_⟩
    have y := nf_t y
    have hl := hlt j y
    have hsm2 : ∀ i, a ≤ i → i < j + 1 → smB b i = true := fun i h1 h2 => by
      by_cases q : i = j
      · rw [q]; exact y
      · exact hsm i h1 (by omega)
    have eL : vlF b a (j + 1 - a) = if j - a < 6 then 32 * vlF b a (j - a) + (b j - 96) else vlF b a (j - a) := by
      rw [show j + 1 - a = (j - a) + 1 by omega]
      show (if j - a < 6 then 32 * vlF b a (j - a) + (b (a + (j - a)) - 96) else vlF b a (j - a)) = _
      rw [show a + (j - a) = j by omega]
    refine ⟨fun w => ?_, fun w => ⟨(x_vp (by omega)).mpr (by omega), ?_⟩⟩
    · refine b_X10_readWord_66 (ih (j + 1) _ (by omega) (x0.tr (tpF.sV (by decide) (by decide))) ?_ x6 ?_ (by omega) (by omega) hsm2 (by rw [hr, ru_t (by omega) y]))
      · show X.1 0 4 + nI 1 = _
        rw [x4, nI_add]
      · rw [eL, if_neg (by omega)]
        exact x7
    · refine b_X10_readWord_66 (ih (j + 1) _ (by omega) (x0.tr ((tpF.sV (by decide) (by decide)).tr (tpF.sV (by decide) (by decide)))) ?_ x6 ?_ (by omega) (by omega) hsm2 (by rw [hr, ru_t (by omega) y]))
      · show X.1 0 4 + nI 1 = _
        rw [x4, nI_add]
      · show nI (vlF b a (j - a)) * nI 32 + nI (b j) - nI 97 + nI 1 = _
        rw [eL, if_pos (by omega), pk_mul, nI_add, pk_sub (by omega), nI_add]
        congr 1
        omega
end TAPE

